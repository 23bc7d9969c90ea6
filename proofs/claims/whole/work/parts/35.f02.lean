-- FLAT MIRRORS, 2 (written by wip/whole/mir2.py)
set_option maxRecDepth 10000 in
theorem hX3_goal : iv_Tb 66 tX3_goal := iv_tb_of (m := mX3_goal) rfl
set_option maxRecDepth 10000 in
theorem gX3_goal : PG.2 66 = some mX3_goal := iv_pi_of (t := tX3_goal) rfl (by decide)
def FX3_goal_b44 (N : Nat) (s : iv_M)  (xs0 : Int) (qs1 : Nat) : Option (Int) := ((rd s qs1 ((sh qs1).2 : Int) xs0).bind fun v_595 => (some v_595))
set_option maxRecDepth 10000 in
set_option maxHeartbeats 4000000 in
theorem RX3_goal_b44 {d N nc Ls : Nat} {Xs : Nat → Int32} (hd : 0 ≤ d) {h : iv_H} {s : iv_M} (hR : Rep nc Ls Xs h s)  {ms0 : Int32} {xs0 : Int} (ps0 : ms0.toInt = xs0) {qs1 : Nat} (ts1 : TA 0 nc qs1) {r : Int} {Q : Option Value → iv_H → Prop} (hq : ∀ (z : Int32), z.toInt = r → Q (some (.int z)) h) (e : FX3_goal_b44 N s  xs0 qs1 = some r) : Rn d 66 (some .int) 44 [none, none, none, none] [.int ms0, .ref qs1] h Q := by
  have hT := hX3_goal
  unfold FX3_goal_b44 at e
  obtain ⟨v_595, e_595, e⟩ := Option.bind_eq_some_iff.mp e
  obtain ⟨z_595, g_595, p_595⟩ := rp_aI hR ts1 rfl ps0 e_595
  refine Rn.hp hT rfl rfl (aI_hp g_595) ?_
  obtain rfl := Option.some.inj e
  exact Rn.ret hT rfl rfl rfl (hq z_595 p_595)
def FX3_goal (N : Nat) (s : iv_M) (q0 : Nat) (x1 : Int) (x2 : Int) (x3 : Int) : Option (Int) := (if x1 = 1 then (if (s q0 1) < 0 then none else (if (s q0 1) < 0 then none else ((rd s ((s q0 1).toNat + 1) 12 x2).bind fun v_593 => ((rd s ((s q0 1).toNat + 6) 64 (w32 ((w32 (4 * v_593)) + x3))).bind fun v_594 => (some v_594))))) else (if (s q0 1) < 0 then none else (if x1 = 2 then (FX3_goal_b44 N s x3 ((s q0 1).toNat + 1)) else (FX3_goal_b44 N s x2 ((s q0 1).toNat + 1)))))
set_option maxRecDepth 10000 in
set_option maxHeartbeats 4000000 in
theorem RX3_goal {d N nc Ls : Nat} {Xs : Nat → Int32} (hd : 1 ≤ d) {h : iv_H} {s : iv_M} (hR : Rep nc Ls Xs h s) {q0 : Nat} (t0 : T3 nc q0) {m1 : Int32} {x1 : Int} (p1 : m1.toInt = x1) {m2 : Int32} {x2 : Int} (p2 : m2.toInt = x2) {m3 : Int32} {x3 : Int} (p3 : m3.toInt = x3) {r : Int} {Q : Option Value → iv_H → Prop} (e : FX3_goal N s q0 x1 x2 x3 = some r) (hq : ∀ (z : Int32), z.toInt = r → Q (some (.int z)) h) : Cl d 66 [.ref q0, .int m1, .int m2, .int m3] h Q := by
  obtain ⟨d, rfl⟩ : ∃ k, d = k + 1 := ⟨d - 1, by omega⟩
  have hd : 0 ≤ d := by omega
  have hT := hX3_goal
  unfold FX3_goal at e
  refine Cl.into (by decide) gX3_goal rfl ?_
  show Rn d 66 (some .int) 0 [some (.ref q0), some (.int m1), some (.int m2), some (.int m3)] [] h Q
  refine Rn.n hT 2 (pc' := 2) (L' := [some (.ref q0), some (.int m1), some (.int m2), some (.int m3)]) (st' := [.int (1 : Int32), .int m1]) rfl ?_
  by_cases c_588 : x1 = 1
  · rw [if_pos c_588] at e
    refine Rn.bf hT rfl rfl rfl (decide_eq_false (fun z => z ((ti_e p1 L32_1).mpr c_588))) ?_
    refine Rn.n hT 1 (pc' := 6) (L' := [some (.ref q0), some (.int m1), some (.int m2), some (.int m3)]) (st' := [.ref q0]) rfl ?_
    refine Rn.hp hT rfl rfl (gN_hp (rp_gN (k := 1) hR (T3_o t0) rfl)) ?_
    by_cases c_591 : (s q0 1) < 0
    · rw [if_pos c_591] at e
      cases e
    · rw [if_neg c_591] at e
      have hv : rvo (s q0 ((1 : Nat) : Int)) = some ((s q0 1)).toNat := rvo_pos c_591
      rw [hv]
      clear hv
      show Rn d _ _ 9 [some (.ref q0), some (.int m1), some (.int m2), some (.int m3)] [.ref ((s q0 1).toNat)] h Q
      refine Rn.hp hT rfl rfl (gR_hp (rp_gR hR (T1_o (ty_31 hR t0 c_591)) rfl)) ?_
      refine Rn.n hT 2 (pc' := 14) (L' := [some (.ref q0), some (.int m1), some (.int m2), some (.int m3)]) (st' := [.ref q0, .int (4 : Int32), .ref ((s q0 1).toNat + 6)]) rfl ?_
      refine Rn.hp hT rfl rfl (gN_hp (rp_gN (k := 1) hR (T3_o t0) rfl)) ?_
      by_cases c_592 : (s q0 1) < 0
      · rw [if_pos c_592] at e
        cases e
      · rw [if_neg c_592] at e
        have hv : rvo (s q0 ((1 : Nat) : Int)) = some ((s q0 1)).toNat := rvo_pos c_592
        rw [hv]
        clear hv
        show Rn d _ _ 17 [some (.ref q0), some (.int m1), some (.int m2), some (.int m3)] [.ref ((s q0 1).toNat), .int (4 : Int32), .ref ((s q0 1).toNat + 6)] h Q
        refine Rn.hp hT rfl rfl (gR_hp (rp_gR hR (T1_o (ty_31 hR t0 c_592)) rfl)) ?_
        refine Rn.n hT 1 (pc' := 21) (L' := [some (.ref q0), some (.int m1), some (.int m2), some (.int m3)]) (st' := [.int m2, .ref ((s q0 1).toNat + 1), .int (4 : Int32), .ref ((s q0 1).toNat + 6)]) rfl ?_
        obtain ⟨v_593, e_593, e⟩ := Option.bind_eq_some_iff.mp e
        obtain ⟨z_593, g_593, p_593⟩ := rp_aI hR (T1_5 (ty_31 hR t0 c_592)) (T1_5l (ty_31 hR t0 c_592)) p2 e_593
        refine Rn.hp hT rfl rfl (aI_hp g_593) ?_
        refine Rn.n hT 3 (pc' := 25) (L' := [some (.ref q0), some (.int m1), some (.int m2), some (.int m3)]) (st' := [.int (((4 : Int32) * z_593) + m3), .ref ((s q0 1).toNat + 6)]) rfl ?_
        obtain ⟨v_594, e_594, e⟩ := Option.bind_eq_some_iff.mp e
        obtain ⟨z_594, g_594, p_594⟩ := rp_aI hR (T1_10 (ty_31 hR t0 c_591)) (T1_10l (ty_31 hR t0 c_591)) (ti_add (ti_mul L32_4 p_593) p3) e_594
        refine Rn.hp hT rfl rfl (aI_hp g_594) ?_
        obtain rfl := Option.some.inj e
        exact Rn.ret hT rfl rfl rfl (hq z_594 p_594)
  · rw [if_neg c_588] at e
    refine Rn.bt hT rfl rfl rfl (decide_eq_true (fun z => c_588 ((ti_e p1 L32_1).mp z))) ?_
    refine Rn.n hT 1 (pc' := 28) (L' := [some (.ref q0), some (.int m1), some (.int m2), some (.int m3)]) (st' := [.ref q0]) rfl ?_
    refine Rn.hp hT rfl rfl (gN_hp (rp_gN (k := 1) hR (T3_o t0) rfl)) ?_
    by_cases c_589 : (s q0 1) < 0
    · rw [if_pos c_589] at e
      cases e
    · rw [if_neg c_589] at e
      have hv : rvo (s q0 ((1 : Nat) : Int)) = some ((s q0 1)).toNat := rvo_pos c_589
      rw [hv]
      clear hv
      show Rn d _ _ 31 [some (.ref q0), some (.int m1), some (.int m2), some (.int m3)] [.ref ((s q0 1).toNat)] h Q
      refine Rn.hp hT rfl rfl (gR_hp (rp_gR hR (T1_o (ty_31 hR t0 c_589)) rfl)) ?_
      refine Rn.n hT 2 (pc' := 36) (L' := [some (.ref q0), some (.int m1), some (.int m2), some (.int m3)]) (st' := [.int (2 : Int32), .int m1, .ref ((s q0 1).toNat + 1)]) rfl ?_
      by_cases c_590 : x1 = 2
      · rw [if_pos c_590] at e
        refine Rn.bf hT rfl rfl rfl (decide_eq_false (fun z => z ((ti_e p1 L32_2).mpr c_590))) ?_
        refine Rn.n hT 2 (pc' := 44) (L' := [some (.ref q0), some (.int m1), some (.int m2), some (.int m3)]) (st' := [.int m3, .ref ((s q0 1).toNat + 1)]) rfl ?_
        exact Rn.weak (ll_n (ll_n (ll_n (ll_n ll_e)))) (RX3_goal_b44 hd hR p3 (T1_5 (ty_31 hR t0 c_589)) hq e)
      · rw [if_neg c_590] at e
        refine Rn.bt hT rfl rfl rfl (decide_eq_true (fun z => c_590 ((ti_e p1 L32_2).mp z))) ?_
        refine Rn.n hT 1 (pc' := 44) (L' := [some (.ref q0), some (.int m1), some (.int m2), some (.int m3)]) (st' := [.int m2, .ref ((s q0 1).toNat + 1)]) rfl ?_
        exact Rn.weak (ll_n (ll_n (ll_n (ll_n ll_e)))) (RX3_goal_b44 hd hR p2 (T1_5 (ty_31 hR t0 c_589)) hq e)
set_option maxRecDepth 10000 in
theorem hX3_valueOf : iv_Tb 65 tX3_valueOf := iv_tb_of (m := mX3_valueOf) rfl
set_option maxRecDepth 10000 in
theorem gX3_valueOf : PG.2 65 = some mX3_valueOf := iv_pi_of (t := tX3_valueOf) rfl (by decide)
def FX3_valueOf_b99 (N : Nat) (s : iv_M)  (ys0 : Int) : Option (Int) := (some ys0)
set_option maxRecDepth 10000 in
set_option maxHeartbeats 4000000 in
theorem RX3_valueOf_b99 {d N nc Ls : Nat} {Xs : Nat → Int32} (hd : 1 ≤ d) {h : iv_H} {s : iv_M} (hR : Rep nc Ls Xs h s)  {js0 : Int64} {ys0 : Int} (ps0 : js0.toInt = ys0) {r : Int} {Q : Option Value → iv_H → Prop} (hq : ∀ (z : Int64), z.toInt = r → Q (some (.long z)) h) (e : FX3_valueOf_b99 N s  ys0 = some r) : Rn d 65 (some .long) 99 [none, none, none, none, none] [.long js0] h Q := by
  have hT := hX3_valueOf
  unfold FX3_valueOf_b99 at e
  obtain rfl := Option.some.inj e
  exact Rn.ret hT rfl rfl rfl (hq js0 ps0)
def FX3_valueOf (N : Nat) (s : iv_M) (q0 : Nat) (x1 : Int) (x2 : Int) : Option (Int) := (if x1 = 0 then (some (sr32 x2 8)) else (if x1 = 1 then (some (bAn (sr32 x2 4) 15)) else (if x1 = 2 then (if (sr32 x2 8) = 2 then (FX3_valueOf_b99 N s (bAn x2 15)) else (FX3_valueOf_b99 N s 99)) else (if x1 = 3 then (if (s q0 1) < 0 then none else ((rd s ((s q0 1).toNat + 1) 12 (bAn (sr32 x2 4) 15)).bind fun v_602 => (some (bAn v_602 3)))) else (if x1 = 4 then (if (s q0 1) < 0 then none else ((rd s ((s q0 1).toNat + 1) 12 (bAn (sr32 x2 4) 15)).bind fun v_605 => (some (sr32 v_605 2)))) else (if x1 = 5 then ((FX3_goal N s q0 (sr32 x2 8) (bAn (sr32 x2 4) 15) (bAn x2 15)).bind fun v_607 => (some (bAn v_607 3))) else (if x1 = 6 then ((FX3_goal N s q0 (sr32 x2 8) (bAn (sr32 x2 4) 15) (bAn x2 15)).bind fun v_609 => (some (sr32 v_609 2))) else (if x1 = 7 then (if (s q0 1) < 0 then none else ((FX1_doorsOf N s ((s q0 1).toNat) (bAn (sr32 x2 4) 15)).bind fun v_612 => (some v_612))) else (if x1 = 8 then (if (s q0 1) < 0 then none else ((FX1_locksOf N s ((s q0 1).toNat) (bAn (sr32 x2 4) 15)).bind fun v_615 => (some v_615))) else (if x1 = 9 then (if (s q0 0) < 0 then none else ((FX2_sleepersIn N s ((s q0 0).toNat) (bAn (sr32 x2 4) 15)).bind fun v_618 => ((FJ6_bitCount_0f7a4 N s v_618).bind fun v_619 => (some v_619)))) else (if x1 = 10 then (some (s q0 4)) else (if x1 = 11 then (some (s q0 5)) else (some (s q0 6))))))))))))))
set_option maxRecDepth 10000 in
set_option maxHeartbeats 4000000 in
theorem RX3_valueOf {d N nc Ls : Nat} {Xs : Nat → Int32} (hd : 2 ≤ d) {h : iv_H} {s : iv_M} (hR : Rep nc Ls Xs h s) {q0 : Nat} (t0 : T3 nc q0) {m1 : Int32} {x1 : Int} (p1 : m1.toInt = x1) {m2 : Int32} {x2 : Int} (p2 : m2.toInt = x2) {r : Int} {Q : Option Value → iv_H → Prop} (e : FX3_valueOf N s q0 x1 x2 = some r) (hq : ∀ (z : Int64), z.toInt = r → Q (some (.long z)) h) : Cl d 65 [.ref q0, .int m1, .int m2] h Q := by
  obtain ⟨d, rfl⟩ : ∃ k, d = k + 1 := ⟨d - 1, by omega⟩
  have hd : 1 ≤ d := by omega
  have hT := hX3_valueOf
  unfold FX3_valueOf at e
  refine Cl.into (by decide) gX3_valueOf rfl ?_
  show Rn d 65 (some .long) 0 [some (.ref q0), some (.int m1), some (.int m2), none, none] [] h Q
  refine Rn.n hT 11 (pc' := 14) (L' := [some (.ref q0), some (.int m1), some (.int m2), some (.int (m2 >>> ((8 : Int32) &&& 31))), some (.int ((m2 >>> ((4 : Int32) &&& 31)) &&& (15 : Int32)))]) (st' := [.int m1]) rfl ?_
  by_cases c_596 : x1 = 0
  · rw [if_pos c_596] at e
    refine Rn.sw2 hT rfl rfl rfl (if_pos ((ti_e p1 L32_0).mpr c_596)) ?_
    refine Rn.n hT 2 (pc' := 78) (L' := [some (.ref q0), some (.int m1), some (.int m2), some (.int (m2 >>> ((8 : Int32) &&& 31))), some (.int ((m2 >>> ((4 : Int32) &&& 31)) &&& (15 : Int32)))]) (st' := [.long (((m2 >>> ((8 : Int32) &&& 31))).toInt64)]) rfl ?_
    obtain rfl := Option.some.inj e
    exact Rn.ret hT rfl rfl rfl (hq (((m2 >>> ((8 : Int32) &&& 31))).toInt64) (ti_j (ti_shr p2 L32_8)))
  · rw [if_neg c_596] at e
    by_cases c_597 : x1 = 1
    · rw [if_pos c_597] at e
      refine Rn.sw2 hT rfl rfl rfl ((if_neg (fun z => c_596 ((ti_e p1 L32_0).mp z))).trans (if_pos ((ti_e p1 L32_1).mpr c_597))) ?_
      refine Rn.n hT 2 (pc' := 82) (L' := [some (.ref q0), some (.int m1), some (.int m2), some (.int (m2 >>> ((8 : Int32) &&& 31))), some (.int ((m2 >>> ((4 : Int32) &&& 31)) &&& (15 : Int32)))]) (st' := [.long ((((m2 >>> ((4 : Int32) &&& 31)) &&& (15 : Int32))).toInt64)]) rfl ?_
      obtain rfl := Option.some.inj e
      exact Rn.ret hT rfl rfl rfl (hq ((((m2 >>> ((4 : Int32) &&& 31)) &&& (15 : Int32))).toInt64) (ti_j (ti_and (ti_shr p2 L32_4) L32_15)))
    · rw [if_neg c_597] at e
      by_cases c_598 : x1 = 2
      · rw [if_pos c_598] at e
        refine Rn.sw2 hT rfl rfl rfl ((if_neg (fun z => c_596 ((ti_e p1 L32_0).mp z))).trans ((if_neg (fun z => c_597 ((ti_e p1 L32_1).mp z))).trans (if_pos ((ti_e p1 L32_2).mpr c_598)))) ?_
        refine Rn.n hT 2 (pc' := 85) (L' := [some (.ref q0), some (.int m1), some (.int m2), some (.int (m2 >>> ((8 : Int32) &&& 31))), some (.int ((m2 >>> ((4 : Int32) &&& 31)) &&& (15 : Int32)))]) (st' := [.int (2 : Int32), .int (m2 >>> ((8 : Int32) &&& 31))]) rfl ?_
        by_cases c_599 : (sr32 x2 8) = 2
        · rw [if_pos c_599] at e
          refine Rn.bf hT rfl rfl rfl (decide_eq_false (fun z => z ((ti_e (ti_shr p2 L32_8) L32_2).mpr c_599))) ?_
          refine Rn.n hT 5 (pc' := 99) (L' := [some (.ref q0), some (.int m1), some (.int m2), some (.int (m2 >>> ((8 : Int32) &&& 31))), some (.int ((m2 >>> ((4 : Int32) &&& 31)) &&& (15 : Int32)))]) (st' := [.long (((m2 &&& (15 : Int32))).toInt64)]) rfl ?_
          exact Rn.weak (ll_n (ll_n (ll_n (ll_n (ll_n ll_e))))) (RX3_valueOf_b99 hd hR (ti_j (ti_and p2 L32_15)) hq e)
        · rw [if_neg c_599] at e
          refine Rn.bt hT rfl rfl rfl (decide_eq_true (fun z => c_599 ((ti_e (ti_shr p2 L32_8) L32_2).mp z))) ?_
          refine Rn.n hT 1 (pc' := 99) (L' := [some (.ref q0), some (.int m1), some (.int m2), some (.int (m2 >>> ((8 : Int32) &&& 31))), some (.int ((m2 >>> ((4 : Int32) &&& 31)) &&& (15 : Int32)))]) (st' := [.long (99 : Int64)]) rfl ?_
          exact Rn.weak (ll_n (ll_n (ll_n (ll_n (ll_n ll_e))))) (RX3_valueOf_b99 hd hR L64_99 hq e)
      · rw [if_neg c_598] at e
        by_cases c_600 : x1 = 3
        · rw [if_pos c_600] at e
          refine Rn.sw2 hT rfl rfl rfl ((if_neg (fun z => c_596 ((ti_e p1 L32_0).mp z))).trans ((if_neg (fun z => c_597 ((ti_e p1 L32_1).mp z))).trans ((if_neg (fun z => c_598 ((ti_e p1 L32_2).mp z))).trans (if_pos ((ti_e p1 L32_3).mpr c_600))))) ?_
          refine Rn.n hT 1 (pc' := 101) (L' := [some (.ref q0), some (.int m1), some (.int m2), some (.int (m2 >>> ((8 : Int32) &&& 31))), some (.int ((m2 >>> ((4 : Int32) &&& 31)) &&& (15 : Int32)))]) (st' := [.ref q0]) rfl ?_
          refine Rn.hp hT rfl rfl (gN_hp (rp_gN (k := 1) hR (T3_o t0) rfl)) ?_
          by_cases c_601 : (s q0 1) < 0
          · rw [if_pos c_601] at e
            cases e
          · rw [if_neg c_601] at e
            have hv : rvo (s q0 ((1 : Nat) : Int)) = some ((s q0 1)).toNat := rvo_pos c_601
            rw [hv]
            clear hv
            show Rn d _ _ 104 [some (.ref q0), some (.int m1), some (.int m2), some (.int (m2 >>> ((8 : Int32) &&& 31))), some (.int ((m2 >>> ((4 : Int32) &&& 31)) &&& (15 : Int32)))] [.ref ((s q0 1).toNat)] h Q
            refine Rn.hp hT rfl rfl (gR_hp (rp_gR hR (T1_o (ty_31 hR t0 c_601)) rfl)) ?_
            refine Rn.n hT 1 (pc' := 109) (L' := [some (.ref q0), some (.int m1), some (.int m2), some (.int (m2 >>> ((8 : Int32) &&& 31))), some (.int ((m2 >>> ((4 : Int32) &&& 31)) &&& (15 : Int32)))]) (st' := [.int ((m2 >>> ((4 : Int32) &&& 31)) &&& (15 : Int32)), .ref ((s q0 1).toNat + 1)]) rfl ?_
            obtain ⟨v_602, e_602, e⟩ := Option.bind_eq_some_iff.mp e
            obtain ⟨z_602, g_602, p_602⟩ := rp_aI hR (T1_5 (ty_31 hR t0 c_601)) (T1_5l (ty_31 hR t0 c_601)) (ti_and (ti_shr p2 L32_4) L32_15) e_602
            refine Rn.hp hT rfl rfl (aI_hp g_602) ?_
            refine Rn.n hT 3 (pc' := 113) (L' := [some (.ref q0), some (.int m1), some (.int m2), some (.int (m2 >>> ((8 : Int32) &&& 31))), some (.int ((m2 >>> ((4 : Int32) &&& 31)) &&& (15 : Int32)))]) (st' := [.long (((z_602 &&& (3 : Int32))).toInt64)]) rfl ?_
            obtain rfl := Option.some.inj e
            exact Rn.ret hT rfl rfl rfl (hq (((z_602 &&& (3 : Int32))).toInt64) (ti_j (ti_and p_602 L32_3)))
        · rw [if_neg c_600] at e
          by_cases c_603 : x1 = 4
          · rw [if_pos c_603] at e
            refine Rn.sw2 hT rfl rfl rfl ((if_neg (fun z => c_596 ((ti_e p1 L32_0).mp z))).trans ((if_neg (fun z => c_597 ((ti_e p1 L32_1).mp z))).trans ((if_neg (fun z => c_598 ((ti_e p1 L32_2).mp z))).trans ((if_neg (fun z => c_600 ((ti_e p1 L32_3).mp z))).trans (if_pos ((ti_e p1 L32_4).mpr c_603)))))) ?_
            refine Rn.n hT 1 (pc' := 115) (L' := [some (.ref q0), some (.int m1), some (.int m2), some (.int (m2 >>> ((8 : Int32) &&& 31))), some (.int ((m2 >>> ((4 : Int32) &&& 31)) &&& (15 : Int32)))]) (st' := [.ref q0]) rfl ?_
            refine Rn.hp hT rfl rfl (gN_hp (rp_gN (k := 1) hR (T3_o t0) rfl)) ?_
            by_cases c_604 : (s q0 1) < 0
            · rw [if_pos c_604] at e
              cases e
            · rw [if_neg c_604] at e
              have hv : rvo (s q0 ((1 : Nat) : Int)) = some ((s q0 1)).toNat := rvo_pos c_604
              rw [hv]
              clear hv
              show Rn d _ _ 118 [some (.ref q0), some (.int m1), some (.int m2), some (.int (m2 >>> ((8 : Int32) &&& 31))), some (.int ((m2 >>> ((4 : Int32) &&& 31)) &&& (15 : Int32)))] [.ref ((s q0 1).toNat)] h Q
              refine Rn.hp hT rfl rfl (gR_hp (rp_gR hR (T1_o (ty_31 hR t0 c_604)) rfl)) ?_
              refine Rn.n hT 1 (pc' := 123) (L' := [some (.ref q0), some (.int m1), some (.int m2), some (.int (m2 >>> ((8 : Int32) &&& 31))), some (.int ((m2 >>> ((4 : Int32) &&& 31)) &&& (15 : Int32)))]) (st' := [.int ((m2 >>> ((4 : Int32) &&& 31)) &&& (15 : Int32)), .ref ((s q0 1).toNat + 1)]) rfl ?_
              obtain ⟨v_605, e_605, e⟩ := Option.bind_eq_some_iff.mp e
              obtain ⟨z_605, g_605, p_605⟩ := rp_aI hR (T1_5 (ty_31 hR t0 c_604)) (T1_5l (ty_31 hR t0 c_604)) (ti_and (ti_shr p2 L32_4) L32_15) e_605
              refine Rn.hp hT rfl rfl (aI_hp g_605) ?_
              refine Rn.n hT 3 (pc' := 127) (L' := [some (.ref q0), some (.int m1), some (.int m2), some (.int (m2 >>> ((8 : Int32) &&& 31))), some (.int ((m2 >>> ((4 : Int32) &&& 31)) &&& (15 : Int32)))]) (st' := [.long (((z_605 >>> ((2 : Int32) &&& 31))).toInt64)]) rfl ?_
              obtain rfl := Option.some.inj e
              exact Rn.ret hT rfl rfl rfl (hq (((z_605 >>> ((2 : Int32) &&& 31))).toInt64) (ti_j (ti_shr p_605 L32_2)))
          · rw [if_neg c_603] at e
            by_cases c_606 : x1 = 5
            · rw [if_pos c_606] at e
              refine Rn.sw2 hT rfl rfl rfl ((if_neg (fun z => c_596 ((ti_e p1 L32_0).mp z))).trans ((if_neg (fun z => c_597 ((ti_e p1 L32_1).mp z))).trans ((if_neg (fun z => c_598 ((ti_e p1 L32_2).mp z))).trans ((if_neg (fun z => c_600 ((ti_e p1 L32_3).mp z))).trans ((if_neg (fun z => c_603 ((ti_e p1 L32_4).mp z))).trans (if_pos ((ti_e p1 L32_5).mpr c_606))))))) ?_
              refine Rn.n hT 6 (pc' := 136) (L' := [some (.ref q0), some (.int m1), some (.int m2), some (.int (m2 >>> ((8 : Int32) &&& 31))), some (.int ((m2 >>> ((4 : Int32) &&& 31)) &&& (15 : Int32)))]) (st' := [.int (m2 &&& (15 : Int32)), .int ((m2 >>> ((4 : Int32) &&& 31)) &&& (15 : Int32)), .int (m2 >>> ((8 : Int32) &&& 31)), .ref q0]) rfl ?_
              obtain ⟨v_607, e_607, e⟩ := Option.bind_eq_some_iff.mp e
              refine Rn.call hT rfl rfl rfl (Nat.le_of_ble_eq_true rfl) (rcv_v gX3_goal (by omega) (rp_ck hR (T3_o t0))) (RX3_goal (by omega) hR t0 (ti_shr p2 L32_8) (ti_and (ti_shr p2 L32_4) L32_15) (ti_and p2 L32_15) e_607 (fun z_607 p_607 => ?_))
              show Rn d _ _ 139 [some (.ref q0), some (.int m1), some (.int m2), some (.int (m2 >>> ((8 : Int32) &&& 31))), some (.int ((m2 >>> ((4 : Int32) &&& 31)) &&& (15 : Int32)))] [.int z_607] h Q
              refine Rn.n hT 3 (pc' := 142) (L' := [some (.ref q0), some (.int m1), some (.int m2), some (.int (m2 >>> ((8 : Int32) &&& 31))), some (.int ((m2 >>> ((4 : Int32) &&& 31)) &&& (15 : Int32)))]) (st' := [.long (((z_607 &&& (3 : Int32))).toInt64)]) rfl ?_
              obtain rfl := Option.some.inj e
              exact Rn.ret hT rfl rfl rfl (hq (((z_607 &&& (3 : Int32))).toInt64) (ti_j (ti_and p_607 L32_3)))
            · rw [if_neg c_606] at e
              by_cases c_608 : x1 = 6
              · rw [if_pos c_608] at e
                refine Rn.sw2 hT rfl rfl rfl ((if_neg (fun z => c_596 ((ti_e p1 L32_0).mp z))).trans ((if_neg (fun z => c_597 ((ti_e p1 L32_1).mp z))).trans ((if_neg (fun z => c_598 ((ti_e p1 L32_2).mp z))).trans ((if_neg (fun z => c_600 ((ti_e p1 L32_3).mp z))).trans ((if_neg (fun z => c_603 ((ti_e p1 L32_4).mp z))).trans ((if_neg (fun z => c_606 ((ti_e p1 L32_5).mp z))).trans (if_pos ((ti_e p1 L32_6).mpr c_608)))))))) ?_
                refine Rn.n hT 6 (pc' := 151) (L' := [some (.ref q0), some (.int m1), some (.int m2), some (.int (m2 >>> ((8 : Int32) &&& 31))), some (.int ((m2 >>> ((4 : Int32) &&& 31)) &&& (15 : Int32)))]) (st' := [.int (m2 &&& (15 : Int32)), .int ((m2 >>> ((4 : Int32) &&& 31)) &&& (15 : Int32)), .int (m2 >>> ((8 : Int32) &&& 31)), .ref q0]) rfl ?_
                obtain ⟨v_609, e_609, e⟩ := Option.bind_eq_some_iff.mp e
                refine Rn.call hT rfl rfl rfl (Nat.le_of_ble_eq_true rfl) (rcv_v gX3_goal (by omega) (rp_ck hR (T3_o t0))) (RX3_goal (by omega) hR t0 (ti_shr p2 L32_8) (ti_and (ti_shr p2 L32_4) L32_15) (ti_and p2 L32_15) e_609 (fun z_609 p_609 => ?_))
                show Rn d _ _ 154 [some (.ref q0), some (.int m1), some (.int m2), some (.int (m2 >>> ((8 : Int32) &&& 31))), some (.int ((m2 >>> ((4 : Int32) &&& 31)) &&& (15 : Int32)))] [.int z_609] h Q
                refine Rn.n hT 3 (pc' := 157) (L' := [some (.ref q0), some (.int m1), some (.int m2), some (.int (m2 >>> ((8 : Int32) &&& 31))), some (.int ((m2 >>> ((4 : Int32) &&& 31)) &&& (15 : Int32)))]) (st' := [.long (((z_609 >>> ((2 : Int32) &&& 31))).toInt64)]) rfl ?_
                obtain rfl := Option.some.inj e
                exact Rn.ret hT rfl rfl rfl (hq (((z_609 >>> ((2 : Int32) &&& 31))).toInt64) (ti_j (ti_shr p_609 L32_2)))
              · rw [if_neg c_608] at e
                by_cases c_610 : x1 = 7
                · rw [if_pos c_610] at e
                  refine Rn.sw2 hT rfl rfl rfl ((if_neg (fun z => c_596 ((ti_e p1 L32_0).mp z))).trans ((if_neg (fun z => c_597 ((ti_e p1 L32_1).mp z))).trans ((if_neg (fun z => c_598 ((ti_e p1 L32_2).mp z))).trans ((if_neg (fun z => c_600 ((ti_e p1 L32_3).mp z))).trans ((if_neg (fun z => c_603 ((ti_e p1 L32_4).mp z))).trans ((if_neg (fun z => c_606 ((ti_e p1 L32_5).mp z))).trans ((if_neg (fun z => c_608 ((ti_e p1 L32_6).mp z))).trans (if_pos ((ti_e p1 L32_7).mpr c_610))))))))) ?_
                  refine Rn.n hT 1 (pc' := 159) (L' := [some (.ref q0), some (.int m1), some (.int m2), some (.int (m2 >>> ((8 : Int32) &&& 31))), some (.int ((m2 >>> ((4 : Int32) &&& 31)) &&& (15 : Int32)))]) (st' := [.ref q0]) rfl ?_
                  refine Rn.hp hT rfl rfl (gN_hp (rp_gN (k := 1) hR (T3_o t0) rfl)) ?_
                  by_cases c_611 : (s q0 1) < 0
                  · rw [if_pos c_611] at e
                    cases e
                  · rw [if_neg c_611] at e
                    have hv : rvo (s q0 ((1 : Nat) : Int)) = some ((s q0 1)).toNat := rvo_pos c_611
                    rw [hv]
                    clear hv
                    show Rn d _ _ 162 [some (.ref q0), some (.int m1), some (.int m2), some (.int (m2 >>> ((8 : Int32) &&& 31))), some (.int ((m2 >>> ((4 : Int32) &&& 31)) &&& (15 : Int32)))] [.ref ((s q0 1).toNat)] h Q
                    refine Rn.n hT 1 (pc' := 164) (L' := [some (.ref q0), some (.int m1), some (.int m2), some (.int (m2 >>> ((8 : Int32) &&& 31))), some (.int ((m2 >>> ((4 : Int32) &&& 31)) &&& (15 : Int32)))]) (st' := [.int ((m2 >>> ((4 : Int32) &&& 31)) &&& (15 : Int32)), .ref ((s q0 1).toNat)]) rfl ?_
                    obtain ⟨v_612, e_612, e⟩ := Option.bind_eq_some_iff.mp e
                    refine Rn.call hT rfl rfl rfl (Nat.le_of_ble_eq_true rfl) (rcv_v gX1_doorsOf (by omega) (rp_ck hR (T1_o (ty_31 hR t0 c_611)))) (RX1_doorsOf (by omega) hR (ty_31 hR t0 c_611) (ti_and (ti_shr p2 L32_4) L32_15) e_612 (fun z_612 p_612 => ?_))
                    show Rn d _ _ 167 [some (.ref q0), some (.int m1), some (.int m2), some (.int (m2 >>> ((8 : Int32) &&& 31))), some (.int ((m2 >>> ((4 : Int32) &&& 31)) &&& (15 : Int32)))] [.int z_612] h Q
                    refine Rn.n hT 1 (pc' := 168) (L' := [some (.ref q0), some (.int m1), some (.int m2), some (.int (m2 >>> ((8 : Int32) &&& 31))), some (.int ((m2 >>> ((4 : Int32) &&& 31)) &&& (15 : Int32)))]) (st' := [.long ((z_612).toInt64)]) rfl ?_
                    obtain rfl := Option.some.inj e
                    exact Rn.ret hT rfl rfl rfl (hq ((z_612).toInt64) (ti_j p_612))
                · rw [if_neg c_610] at e
                  by_cases c_613 : x1 = 8
                  · rw [if_pos c_613] at e
                    refine Rn.sw2 hT rfl rfl rfl ((if_neg (fun z => c_596 ((ti_e p1 L32_0).mp z))).trans ((if_neg (fun z => c_597 ((ti_e p1 L32_1).mp z))).trans ((if_neg (fun z => c_598 ((ti_e p1 L32_2).mp z))).trans ((if_neg (fun z => c_600 ((ti_e p1 L32_3).mp z))).trans ((if_neg (fun z => c_603 ((ti_e p1 L32_4).mp z))).trans ((if_neg (fun z => c_606 ((ti_e p1 L32_5).mp z))).trans ((if_neg (fun z => c_608 ((ti_e p1 L32_6).mp z))).trans ((if_neg (fun z => c_610 ((ti_e p1 L32_7).mp z))).trans (if_pos ((ti_e p1 L32_8).mpr c_613)))))))))) ?_
                    refine Rn.n hT 1 (pc' := 170) (L' := [some (.ref q0), some (.int m1), some (.int m2), some (.int (m2 >>> ((8 : Int32) &&& 31))), some (.int ((m2 >>> ((4 : Int32) &&& 31)) &&& (15 : Int32)))]) (st' := [.ref q0]) rfl ?_
                    refine Rn.hp hT rfl rfl (gN_hp (rp_gN (k := 1) hR (T3_o t0) rfl)) ?_
                    by_cases c_614 : (s q0 1) < 0
                    · rw [if_pos c_614] at e
                      cases e
                    · rw [if_neg c_614] at e
                      have hv : rvo (s q0 ((1 : Nat) : Int)) = some ((s q0 1)).toNat := rvo_pos c_614
                      rw [hv]
                      clear hv
                      show Rn d _ _ 173 [some (.ref q0), some (.int m1), some (.int m2), some (.int (m2 >>> ((8 : Int32) &&& 31))), some (.int ((m2 >>> ((4 : Int32) &&& 31)) &&& (15 : Int32)))] [.ref ((s q0 1).toNat)] h Q
                      refine Rn.n hT 1 (pc' := 175) (L' := [some (.ref q0), some (.int m1), some (.int m2), some (.int (m2 >>> ((8 : Int32) &&& 31))), some (.int ((m2 >>> ((4 : Int32) &&& 31)) &&& (15 : Int32)))]) (st' := [.int ((m2 >>> ((4 : Int32) &&& 31)) &&& (15 : Int32)), .ref ((s q0 1).toNat)]) rfl ?_
                      obtain ⟨v_615, e_615, e⟩ := Option.bind_eq_some_iff.mp e
                      refine Rn.call hT rfl rfl rfl (Nat.le_of_ble_eq_true rfl) (rcv_v gX1_locksOf (by omega) (rp_ck hR (T1_o (ty_31 hR t0 c_614)))) (RX1_locksOf (by omega) hR (ty_31 hR t0 c_614) (ti_and (ti_shr p2 L32_4) L32_15) e_615 (fun z_615 p_615 => ?_))
                      show Rn d _ _ 178 [some (.ref q0), some (.int m1), some (.int m2), some (.int (m2 >>> ((8 : Int32) &&& 31))), some (.int ((m2 >>> ((4 : Int32) &&& 31)) &&& (15 : Int32)))] [.int z_615] h Q
                      refine Rn.n hT 1 (pc' := 179) (L' := [some (.ref q0), some (.int m1), some (.int m2), some (.int (m2 >>> ((8 : Int32) &&& 31))), some (.int ((m2 >>> ((4 : Int32) &&& 31)) &&& (15 : Int32)))]) (st' := [.long ((z_615).toInt64)]) rfl ?_
                      obtain rfl := Option.some.inj e
                      exact Rn.ret hT rfl rfl rfl (hq ((z_615).toInt64) (ti_j p_615))
                  · rw [if_neg c_613] at e
                    by_cases c_616 : x1 = 9
                    · rw [if_pos c_616] at e
                      refine Rn.sw2 hT rfl rfl rfl ((if_neg (fun z => c_596 ((ti_e p1 L32_0).mp z))).trans ((if_neg (fun z => c_597 ((ti_e p1 L32_1).mp z))).trans ((if_neg (fun z => c_598 ((ti_e p1 L32_2).mp z))).trans ((if_neg (fun z => c_600 ((ti_e p1 L32_3).mp z))).trans ((if_neg (fun z => c_603 ((ti_e p1 L32_4).mp z))).trans ((if_neg (fun z => c_606 ((ti_e p1 L32_5).mp z))).trans ((if_neg (fun z => c_608 ((ti_e p1 L32_6).mp z))).trans ((if_neg (fun z => c_610 ((ti_e p1 L32_7).mp z))).trans ((if_neg (fun z => c_613 ((ti_e p1 L32_8).mp z))).trans (if_pos ((ti_e p1 L32_9).mpr c_616))))))))))) ?_
                      refine Rn.n hT 1 (pc' := 181) (L' := [some (.ref q0), some (.int m1), some (.int m2), some (.int (m2 >>> ((8 : Int32) &&& 31))), some (.int ((m2 >>> ((4 : Int32) &&& 31)) &&& (15 : Int32)))]) (st' := [.ref q0]) rfl ?_
                      refine Rn.hp hT rfl rfl (gN_hp (rp_gN (k := 0) hR (T3_o t0) rfl)) ?_
                      by_cases c_617 : (s q0 0) < 0
                      · rw [if_pos c_617] at e
                        cases e
                      · rw [if_neg c_617] at e
                        have hv : rvo (s q0 ((0 : Nat) : Int)) = some ((s q0 0)).toNat := rvo_pos c_617
                        rw [hv]
                        clear hv
                        show Rn d _ _ 184 [some (.ref q0), some (.int m1), some (.int m2), some (.int (m2 >>> ((8 : Int32) &&& 31))), some (.int ((m2 >>> ((4 : Int32) &&& 31)) &&& (15 : Int32)))] [.ref ((s q0 0).toNat)] h Q
                        refine Rn.n hT 1 (pc' := 186) (L' := [some (.ref q0), some (.int m1), some (.int m2), some (.int (m2 >>> ((8 : Int32) &&& 31))), some (.int ((m2 >>> ((4 : Int32) &&& 31)) &&& (15 : Int32)))]) (st' := [.int ((m2 >>> ((4 : Int32) &&& 31)) &&& (15 : Int32)), .ref ((s q0 0).toNat)]) rfl ?_
                        obtain ⟨v_618, e_618, e⟩ := Option.bind_eq_some_iff.mp e
                        refine Rn.call hT rfl rfl rfl (Nat.le_of_ble_eq_true rfl) (rcv_v gX2_sleepersIn (by omega) (rp_ck hR (T2_o (ty_30 hR t0 c_617)))) (RX2_sleepersIn (by omega) hR (ty_30 hR t0 c_617) (ti_and (ti_shr p2 L32_4) L32_15) e_618 (fun z_618 p_618 => ?_))
                        show Rn d _ _ 189 [some (.ref q0), some (.int m1), some (.int m2), some (.int (m2 >>> ((8 : Int32) &&& 31))), some (.int ((m2 >>> ((4 : Int32) &&& 31)) &&& (15 : Int32)))] [.int z_618] h Q
                        obtain ⟨v_619, e_619, e⟩ := Option.bind_eq_some_iff.mp e
                        refine Rn.call hT rfl rfl rfl (Nat.le_of_ble_eq_true rfl) rfl (RJ6_bitCount_0f7a4 (by omega) hR p_618 e_619 (fun z_619 p_619 => ?_))
                        show Rn d _ _ 192 [some (.ref q0), some (.int m1), some (.int m2), some (.int (m2 >>> ((8 : Int32) &&& 31))), some (.int ((m2 >>> ((4 : Int32) &&& 31)) &&& (15 : Int32)))] [.int z_619] h Q
                        refine Rn.n hT 1 (pc' := 193) (L' := [some (.ref q0), some (.int m1), some (.int m2), some (.int (m2 >>> ((8 : Int32) &&& 31))), some (.int ((m2 >>> ((4 : Int32) &&& 31)) &&& (15 : Int32)))]) (st' := [.long ((z_619).toInt64)]) rfl ?_
                        obtain rfl := Option.some.inj e
                        exact Rn.ret hT rfl rfl rfl (hq ((z_619).toInt64) (ti_j p_619))
                    · rw [if_neg c_616] at e
                      by_cases c_620 : x1 = 10
                      · rw [if_pos c_620] at e
                        refine Rn.sw2 hT rfl rfl rfl ((if_neg (fun z => c_596 ((ti_e p1 L32_0).mp z))).trans ((if_neg (fun z => c_597 ((ti_e p1 L32_1).mp z))).trans ((if_neg (fun z => c_598 ((ti_e p1 L32_2).mp z))).trans ((if_neg (fun z => c_600 ((ti_e p1 L32_3).mp z))).trans ((if_neg (fun z => c_603 ((ti_e p1 L32_4).mp z))).trans ((if_neg (fun z => c_606 ((ti_e p1 L32_5).mp z))).trans ((if_neg (fun z => c_608 ((ti_e p1 L32_6).mp z))).trans ((if_neg (fun z => c_610 ((ti_e p1 L32_7).mp z))).trans ((if_neg (fun z => c_613 ((ti_e p1 L32_8).mp z))).trans ((if_neg (fun z => c_616 ((ti_e p1 L32_9).mp z))).trans (if_pos ((ti_e p1 L32_10).mpr c_620)))))))))))) ?_
                        refine Rn.n hT 1 (pc' := 195) (L' := [some (.ref q0), some (.int m1), some (.int m2), some (.int (m2 >>> ((8 : Int32) &&& 31))), some (.int ((m2 >>> ((4 : Int32) &&& 31)) &&& (15 : Int32)))]) (st' := [.ref q0]) rfl ?_
                        obtain ⟨z_621, g_621, p_621⟩ : ∃ z : Int32, gI h 3 4 q0 = some z ∧ z.toInt = s q0 4 := rp_gI (k := 4) hR (T3_o t0) rfl
                        refine Rn.hp hT rfl rfl (gI_hp g_621) ?_
                        refine Rn.n hT 1 (pc' := 199) (L' := [some (.ref q0), some (.int m1), some (.int m2), some (.int (m2 >>> ((8 : Int32) &&& 31))), some (.int ((m2 >>> ((4 : Int32) &&& 31)) &&& (15 : Int32)))]) (st' := [.long ((z_621).toInt64)]) rfl ?_
                        obtain rfl := Option.some.inj e
                        exact Rn.ret hT rfl rfl rfl (hq ((z_621).toInt64) (ti_j p_621))
                      · rw [if_neg c_620] at e
                        by_cases c_622 : x1 = 11
                        · rw [if_pos c_622] at e
                          refine Rn.sw2 hT rfl rfl rfl ((if_neg (fun z => c_596 ((ti_e p1 L32_0).mp z))).trans ((if_neg (fun z => c_597 ((ti_e p1 L32_1).mp z))).trans ((if_neg (fun z => c_598 ((ti_e p1 L32_2).mp z))).trans ((if_neg (fun z => c_600 ((ti_e p1 L32_3).mp z))).trans ((if_neg (fun z => c_603 ((ti_e p1 L32_4).mp z))).trans ((if_neg (fun z => c_606 ((ti_e p1 L32_5).mp z))).trans ((if_neg (fun z => c_608 ((ti_e p1 L32_6).mp z))).trans ((if_neg (fun z => c_610 ((ti_e p1 L32_7).mp z))).trans ((if_neg (fun z => c_613 ((ti_e p1 L32_8).mp z))).trans ((if_neg (fun z => c_616 ((ti_e p1 L32_9).mp z))).trans ((if_neg (fun z => c_620 ((ti_e p1 L32_10).mp z))).trans (if_pos ((ti_e p1 L32_11).mpr c_622))))))))))))) ?_
                          refine Rn.n hT 1 (pc' := 201) (L' := [some (.ref q0), some (.int m1), some (.int m2), some (.int (m2 >>> ((8 : Int32) &&& 31))), some (.int ((m2 >>> ((4 : Int32) &&& 31)) &&& (15 : Int32)))]) (st' := [.ref q0]) rfl ?_
                          obtain ⟨z_623, g_623, p_623⟩ : ∃ z : Int32, gI h 3 5 q0 = some z ∧ z.toInt = s q0 5 := rp_gI (k := 5) hR (T3_o t0) rfl
                          refine Rn.hp hT rfl rfl (gI_hp g_623) ?_
                          refine Rn.n hT 1 (pc' := 205) (L' := [some (.ref q0), some (.int m1), some (.int m2), some (.int (m2 >>> ((8 : Int32) &&& 31))), some (.int ((m2 >>> ((4 : Int32) &&& 31)) &&& (15 : Int32)))]) (st' := [.long ((z_623).toInt64)]) rfl ?_
                          obtain rfl := Option.some.inj e
                          exact Rn.ret hT rfl rfl rfl (hq ((z_623).toInt64) (ti_j p_623))
                        · rw [if_neg c_622] at e
                          refine Rn.sw2 hT rfl rfl rfl ((if_neg (fun z => c_596 ((ti_e p1 L32_0).mp z))).trans ((if_neg (fun z => c_597 ((ti_e p1 L32_1).mp z))).trans ((if_neg (fun z => c_598 ((ti_e p1 L32_2).mp z))).trans ((if_neg (fun z => c_600 ((ti_e p1 L32_3).mp z))).trans ((if_neg (fun z => c_603 ((ti_e p1 L32_4).mp z))).trans ((if_neg (fun z => c_606 ((ti_e p1 L32_5).mp z))).trans ((if_neg (fun z => c_608 ((ti_e p1 L32_6).mp z))).trans ((if_neg (fun z => c_610 ((ti_e p1 L32_7).mp z))).trans ((if_neg (fun z => c_613 ((ti_e p1 L32_8).mp z))).trans ((if_neg (fun z => c_616 ((ti_e p1 L32_9).mp z))).trans ((if_neg (fun z => c_620 ((ti_e p1 L32_10).mp z))).trans ((if_neg (fun z => c_622 ((ti_e p1 L32_11).mp z))).trans rfl)))))))))))) ?_
                          refine Rn.n hT 1 (pc' := 207) (L' := [some (.ref q0), some (.int m1), some (.int m2), some (.int (m2 >>> ((8 : Int32) &&& 31))), some (.int ((m2 >>> ((4 : Int32) &&& 31)) &&& (15 : Int32)))]) (st' := [.ref q0]) rfl ?_
                          obtain ⟨z_624, g_624, p_624⟩ : ∃ z : Int32, gI h 3 6 q0 = some z ∧ z.toInt = s q0 6 := rp_gI (k := 6) hR (T3_o t0) rfl
                          refine Rn.hp hT rfl rfl (gI_hp g_624) ?_
                          refine Rn.n hT 1 (pc' := 211) (L' := [some (.ref q0), some (.int m1), some (.int m2), some (.int (m2 >>> ((8 : Int32) &&& 31))), some (.int ((m2 >>> ((4 : Int32) &&& 31)) &&& (15 : Int32)))]) (st' := [.long ((z_624).toInt64)]) rfl ?_
                          obtain rfl := Option.some.inj e
                          exact Rn.ret hT rfl rfl rfl (hq ((z_624).toInt64) (ti_j p_624))
set_option maxRecDepth 10000 in
theorem hX3_combine : iv_Tb 67 tX3_combine := iv_tb_of (m := mX3_combine) rfl
set_option maxRecDepth 10000 in
theorem gX3_combine : PG.2 67 = some mX3_combine := iv_pi_of (t := tX3_combine) rfl (by decide)
def FX3_combine_b83 (N : Nat) (s : iv_M)  (ys0 : Int) : Option (Int) := (some ys0)
set_option maxRecDepth 10000 in
set_option maxHeartbeats 4000000 in
theorem RX3_combine_b83 {d N nc Ls : Nat} {Xs : Nat → Int32} (hd : 0 ≤ d) {h : iv_H} {s : iv_M} (hR : Rep nc Ls Xs h s)  {js0 : Int64} {ys0 : Int} (ps0 : js0.toInt = ys0) {r : Int} {Q : Option Value → iv_H → Prop} (hq : ∀ (z : Int64), z.toInt = r → Q (some (.long z)) h) (e : FX3_combine_b83 N s  ys0 = some r) : Rn d 67 (some .long) 83 [none, none, none, none, none] [.long js0] h Q := by
  have hT := hX3_combine
  unfold FX3_combine_b83 at e
  obtain rfl := Option.some.inj e
  exact Rn.ret hT rfl rfl rfl (hq js0 ps0)
def FX3_combine_b95 (N : Nat) (s : iv_M)  (ys0 : Int) : Option (Int) := (some ys0)
set_option maxRecDepth 10000 in
set_option maxHeartbeats 4000000 in
theorem RX3_combine_b95 {d N nc Ls : Nat} {Xs : Nat → Int32} (hd : 0 ≤ d) {h : iv_H} {s : iv_M} (hR : Rep nc Ls Xs h s)  {js0 : Int64} {ys0 : Int} (ps0 : js0.toInt = ys0) {r : Int} {Q : Option Value → iv_H → Prop} (hq : ∀ (z : Int64), z.toInt = r → Q (some (.long z)) h) (e : FX3_combine_b95 N s  ys0 = some r) : Rn d 67 (some .long) 95 [none, none, none, none, none] [.long js0] h Q := by
  have hT := hX3_combine
  unfold FX3_combine_b95 at e
  obtain rfl := Option.some.inj e
  exact Rn.ret hT rfl rfl rfl (hq js0 ps0)
def FX3_combine_b107 (N : Nat) (s : iv_M)  (ys0 : Int) : Option (Int) := (some ys0)
set_option maxRecDepth 10000 in
set_option maxHeartbeats 4000000 in
theorem RX3_combine_b107 {d N nc Ls : Nat} {Xs : Nat → Int32} (hd : 0 ≤ d) {h : iv_H} {s : iv_M} (hR : Rep nc Ls Xs h s)  {js0 : Int64} {ys0 : Int} (ps0 : js0.toInt = ys0) {r : Int} {Q : Option Value → iv_H → Prop} (hq : ∀ (z : Int64), z.toInt = r → Q (some (.long z)) h) (e : FX3_combine_b107 N s  ys0 = some r) : Rn d 67 (some .long) 107 [none, none, none, none, none] [.long js0] h Q := by
  have hT := hX3_combine
  unfold FX3_combine_b107 at e
  obtain rfl := Option.some.inj e
  exact Rn.ret hT rfl rfl rfl (hq js0 ps0)
def FX3_combine_b119 (N : Nat) (s : iv_M)  (ys0 : Int) : Option (Int) := (some ys0)
set_option maxRecDepth 10000 in
set_option maxHeartbeats 4000000 in
theorem RX3_combine_b119 {d N nc Ls : Nat} {Xs : Nat → Int32} (hd : 0 ≤ d) {h : iv_H} {s : iv_M} (hR : Rep nc Ls Xs h s)  {js0 : Int64} {ys0 : Int} (ps0 : js0.toInt = ys0) {r : Int} {Q : Option Value → iv_H → Prop} (hq : ∀ (z : Int64), z.toInt = r → Q (some (.long z)) h) (e : FX3_combine_b119 N s  ys0 = some r) : Rn d 67 (some .long) 119 [none, none, none, none, none] [.long js0] h Q := by
  have hT := hX3_combine
  unfold FX3_combine_b119 at e
  obtain rfl := Option.some.inj e
  exact Rn.ret hT rfl rfl rfl (hq js0 ps0)
def FX3_combine_b131 (N : Nat) (s : iv_M)  (ys0 : Int) : Option (Int) := (some ys0)
set_option maxRecDepth 10000 in
set_option maxHeartbeats 4000000 in
theorem RX3_combine_b131 {d N nc Ls : Nat} {Xs : Nat → Int32} (hd : 0 ≤ d) {h : iv_H} {s : iv_M} (hR : Rep nc Ls Xs h s)  {js0 : Int64} {ys0 : Int} (ps0 : js0.toInt = ys0) {r : Int} {Q : Option Value → iv_H → Prop} (hq : ∀ (z : Int64), z.toInt = r → Q (some (.long z)) h) (e : FX3_combine_b131 N s  ys0 = some r) : Rn d 67 (some .long) 131 [none, none, none, none, none] [.long js0] h Q := by
  have hT := hX3_combine
  unfold FX3_combine_b131 at e
  obtain rfl := Option.some.inj e
  exact Rn.ret hT rfl rfl rfl (hq js0 ps0)
def FX3_combine_b157 (N : Nat) (s : iv_M)  (ys0 : Int) : Option (Int) := (some ys0)
set_option maxRecDepth 10000 in
set_option maxHeartbeats 4000000 in
theorem RX3_combine_b157 {d N nc Ls : Nat} {Xs : Nat → Int32} (hd : 0 ≤ d) {h : iv_H} {s : iv_M} (hR : Rep nc Ls Xs h s)  {js0 : Int64} {ys0 : Int} (ps0 : js0.toInt = ys0) {r : Int} {Q : Option Value → iv_H → Prop} (hq : ∀ (z : Int64), z.toInt = r → Q (some (.long z)) h) (e : FX3_combine_b157 N s  ys0 = some r) : Rn d 67 (some .long) 157 [none, none, none, none, none] [.long js0] h Q := by
  have hT := hX3_combine
  unfold FX3_combine_b157 at e
  obtain rfl := Option.some.inj e
  exact Rn.ret hT rfl rfl rfl (hq js0 ps0)
def FX3_combine_b171 (N : Nat) (s : iv_M)  (ys0 : Int) : Option (Int) := (some ys0)
set_option maxRecDepth 10000 in
set_option maxHeartbeats 4000000 in
theorem RX3_combine_b171 {d N nc Ls : Nat} {Xs : Nat → Int32} (hd : 0 ≤ d) {h : iv_H} {s : iv_M} (hR : Rep nc Ls Xs h s)  {js0 : Int64} {ys0 : Int} (ps0 : js0.toInt = ys0) {r : Int} {Q : Option Value → iv_H → Prop} (hq : ∀ (z : Int64), z.toInt = r → Q (some (.long z)) h) (e : FX3_combine_b171 N s  ys0 = some r) : Rn d 67 (some .long) 171 [none, none, none, none, none] [.long js0] h Q := by
  have hT := hX3_combine
  unfold FX3_combine_b171 at e
  obtain rfl := Option.some.inj e
  exact Rn.ret hT rfl rfl rfl (hq js0 ps0)
def FX3_combine (N : Nat) (s : iv_M) (x0 : Int) (y1 : Int) (y3 : Int) : Option (Int) := (if x0 = 1 then (some (bOr y1 y3)) else (if x0 = 2 then (some (bAn y1 y3)) else (if x0 = 3 then (if y3 = 0 then (FX3_combine_b171 N s 0) else (if y3 = 0 then none else (FX3_combine_b171 N s (Int.tmod y1 y3)))) else (if x0 = 4 then (if y3 ≤ y1 then (FX3_combine_b83 N s 0) else (FX3_combine_b83 N s 1)) else (if x0 = 5 then (if y3 < y1 then (FX3_combine_b95 N s 0) else (FX3_combine_b95 N s 1)) else (if x0 = 6 then (if y1 = y3 then (FX3_combine_b107 N s 1) else (FX3_combine_b107 N s 0)) else (if x0 = 7 then (if y1 < y3 then (FX3_combine_b119 N s 0) else (FX3_combine_b119 N s 1)) else (if x0 = 8 then (if y1 ≤ y3 then (FX3_combine_b131 N s 0) else (FX3_combine_b131 N s 1)) else (if x0 = 9 then (some (w64 (y1 + y3))) else (if x0 = 10 then (some (w64 (y1 - y3))) else (if x0 = 11 then (some (w64 (y1 * y3))) else (if x0 = 12 then (if y3 = 0 then (FX3_combine_b157 N s 0) else (if y3 = 0 then none else (FX3_combine_b157 N s (dv64 y1 y3)))) else (if y3 = 0 then (FX3_combine_b171 N s 0) else (if y3 = 0 then none else (FX3_combine_b171 N s (Int.tmod y1 y3))))))))))))))))
set_option maxRecDepth 10000 in
set_option maxHeartbeats 4000000 in
theorem RX3_combine {d N nc Ls : Nat} {Xs : Nat → Int32} (hd : 1 ≤ d) {h : iv_H} {s : iv_M} (hR : Rep nc Ls Xs h s) {m0 : Int32} {x0 : Int} (p0 : m0.toInt = x0) {j1 : Int64} {y1 : Int} (p1 : j1.toInt = y1) {j3 : Int64} {y3 : Int} (p3 : j3.toInt = y3) {r : Int} {Q : Option Value → iv_H → Prop} (e : FX3_combine N s x0 y1 y3 = some r) (hq : ∀ (z : Int64), z.toInt = r → Q (some (.long z)) h) : Cl d 67 [.int m0, .long j1, .long j3] h Q := by
  obtain ⟨d, rfl⟩ : ∃ k, d = k + 1 := ⟨d - 1, by omega⟩
  have hd : 0 ≤ d := by omega
  have hT := hX3_combine
  unfold FX3_combine at e
  refine Cl.into (by decide) gX3_combine rfl ?_
  show Rn d 67 (some .long) 0 [some (.int m0), some (.long j1), none, some (.long j3), none] [] h Q
  refine Rn.n hT 1 (pc' := 1) (L' := [some (.int m0), some (.long j1), none, some (.long j3), none]) (st' := [.int m0]) rfl ?_
  by_cases c_625 : x0 = 1
  · rw [if_pos c_625] at e
    refine Rn.sw2 hT rfl rfl rfl (if_pos ((ti_e p0 L32_1).mpr c_625)) ?_
    refine Rn.n hT 3 (pc' := 67) (L' := [some (.int m0), some (.long j1), none, some (.long j3), none]) (st' := [.long (j1 ||| j3)]) rfl ?_
    obtain rfl := Option.some.inj e
    exact Rn.ret hT rfl rfl rfl (hq (j1 ||| j3) (tj_or p1 p3))
  · rw [if_neg c_625] at e
    by_cases c_626 : x0 = 2
    · rw [if_pos c_626] at e
      refine Rn.sw2 hT rfl rfl rfl ((if_neg (fun z => c_625 ((ti_e p0 L32_1).mp z))).trans (if_pos ((ti_e p0 L32_2).mpr c_626))) ?_
      refine Rn.n hT 3 (pc' := 71) (L' := [some (.int m0), some (.long j1), none, some (.long j3), none]) (st' := [.long (j1 &&& j3)]) rfl ?_
      obtain rfl := Option.some.inj e
      exact Rn.ret hT rfl rfl rfl (hq (j1 &&& j3) (tj_and p1 p3))
    · rw [if_neg c_626] at e
      by_cases c_627 : x0 = 3
      · rw [if_pos c_627] at e
        refine Rn.sw2 hT rfl rfl rfl ((if_neg (fun z => c_625 ((ti_e p0 L32_1).mp z))).trans ((if_neg (fun z => c_626 ((ti_e p0 L32_2).mp z))).trans (if_pos ((ti_e p0 L32_3).mpr c_627)))) ?_
        refine Rn.n hT 3 (pc' := 161) (L' := [some (.int m0), some (.long j1), none, some (.long j3), none]) (st' := [.int (lg_cmp j3 (0 : Int64))]) rfl ?_
        by_cases c_628 : y3 = 0
        · rw [if_pos c_628] at e
          refine Rn.bf hT rfl rfl rfl (decide_eq_false (fun z => z ((lc_e p3 L64_0).mpr c_628))) ?_
          refine Rn.n hT 2 (pc' := 171) (L' := [some (.int m0), some (.long j1), none, some (.long j3), none]) (st' := [.long (0 : Int64)]) rfl ?_
          exact Rn.weak (ll_n (ll_n (ll_n (ll_n (ll_n ll_e))))) (RX3_combine_b171 hd hR L64_0 hq e)
        · rw [if_neg c_628] at e
          refine Rn.bt hT rfl rfl rfl (decide_eq_true (fun z => c_628 ((lc_e p3 L64_0).mp z))) ?_
          refine Rn.n hT 2 (pc' := 170) (L' := [some (.int m0), some (.long j1), none, some (.long j3), none]) (st' := [.long j3, .long j1]) rfl ?_
          by_cases c_629 : y3 = 0
          · rw [if_pos c_629] at e
            cases e
          · rw [if_neg c_629] at e
            refine Rn.pu hT rfl rfl (st' := [.long (j1 - j1 / j3 * j3)]) (if_neg (fun z => c_629 ((tj_e p3 L64_0).mp z))) ?_
            exact Rn.weak (ll_n (ll_n (ll_n (ll_n (ll_n ll_e))))) (RX3_combine_b171 hd hR (tj_rem p1 p3) hq e)
      · rw [if_neg c_627] at e
        by_cases c_630 : x0 = 4
        · rw [if_pos c_630] at e
          refine Rn.sw2 hT rfl rfl rfl ((if_neg (fun z => c_625 ((ti_e p0 L32_1).mp z))).trans ((if_neg (fun z => c_626 ((ti_e p0 L32_2).mp z))).trans ((if_neg (fun z => c_627 ((ti_e p0 L32_3).mp z))).trans (if_pos ((ti_e p0 L32_4).mpr c_630))))) ?_
          refine Rn.n hT 3 (pc' := 75) (L' := [some (.int m0), some (.long j1), none, some (.long j3), none]) (st' := [.int (lg_cmp j1 j3)]) rfl ?_
          by_cases c_631 : y3 ≤ y1
          · rw [if_pos c_631] at e
            refine Rn.bt hT rfl rfl rfl (decide_eq_true ((lc_ge p1 p3).mpr c_631)) ?_
            refine Rn.n hT 1 (pc' := 83) (L' := [some (.int m0), some (.long j1), none, some (.long j3), none]) (st' := [.long (0 : Int64)]) rfl ?_
            exact Rn.weak (ll_n (ll_n (ll_n (ll_n (ll_n ll_e))))) (RX3_combine_b83 hd hR L64_0 hq e)
          · rw [if_neg c_631] at e
            refine Rn.bf hT rfl rfl rfl (decide_eq_false (fun z => c_631 ((lc_ge p1 p3).mp z))) ?_
            refine Rn.n hT 2 (pc' := 83) (L' := [some (.int m0), some (.long j1), none, some (.long j3), none]) (st' := [.long (1 : Int64)]) rfl ?_
            exact Rn.weak (ll_n (ll_n (ll_n (ll_n (ll_n ll_e))))) (RX3_combine_b83 hd hR L64_1 hq e)
        · rw [if_neg c_630] at e
          by_cases c_632 : x0 = 5
          · rw [if_pos c_632] at e
            refine Rn.sw2 hT rfl rfl rfl ((if_neg (fun z => c_625 ((ti_e p0 L32_1).mp z))).trans ((if_neg (fun z => c_626 ((ti_e p0 L32_2).mp z))).trans ((if_neg (fun z => c_627 ((ti_e p0 L32_3).mp z))).trans ((if_neg (fun z => c_630 ((ti_e p0 L32_4).mp z))).trans (if_pos ((ti_e p0 L32_5).mpr c_632)))))) ?_
            refine Rn.n hT 3 (pc' := 87) (L' := [some (.int m0), some (.long j1), none, some (.long j3), none]) (st' := [.int (lg_cmp j1 j3)]) rfl ?_
            by_cases c_633 : y3 < y1
            · rw [if_pos c_633] at e
              refine Rn.bt hT rfl rfl rfl (decide_eq_true ((lc_g p1 p3).mpr c_633)) ?_
              refine Rn.n hT 1 (pc' := 95) (L' := [some (.int m0), some (.long j1), none, some (.long j3), none]) (st' := [.long (0 : Int64)]) rfl ?_
              exact Rn.weak (ll_n (ll_n (ll_n (ll_n (ll_n ll_e))))) (RX3_combine_b95 hd hR L64_0 hq e)
            · rw [if_neg c_633] at e
              refine Rn.bf hT rfl rfl rfl (decide_eq_false (fun z => c_633 ((lc_g p1 p3).mp z))) ?_
              refine Rn.n hT 2 (pc' := 95) (L' := [some (.int m0), some (.long j1), none, some (.long j3), none]) (st' := [.long (1 : Int64)]) rfl ?_
              exact Rn.weak (ll_n (ll_n (ll_n (ll_n (ll_n ll_e))))) (RX3_combine_b95 hd hR L64_1 hq e)
          · rw [if_neg c_632] at e
            by_cases c_634 : x0 = 6
            · rw [if_pos c_634] at e
              refine Rn.sw2 hT rfl rfl rfl ((if_neg (fun z => c_625 ((ti_e p0 L32_1).mp z))).trans ((if_neg (fun z => c_626 ((ti_e p0 L32_2).mp z))).trans ((if_neg (fun z => c_627 ((ti_e p0 L32_3).mp z))).trans ((if_neg (fun z => c_630 ((ti_e p0 L32_4).mp z))).trans ((if_neg (fun z => c_632 ((ti_e p0 L32_5).mp z))).trans (if_pos ((ti_e p0 L32_6).mpr c_634))))))) ?_
              refine Rn.n hT 3 (pc' := 99) (L' := [some (.int m0), some (.long j1), none, some (.long j3), none]) (st' := [.int (lg_cmp j1 j3)]) rfl ?_
              by_cases c_635 : y1 = y3
              · rw [if_pos c_635] at e
                refine Rn.bf hT rfl rfl rfl (decide_eq_false (fun z => z ((lc_e p1 p3).mpr c_635))) ?_
                refine Rn.n hT 2 (pc' := 107) (L' := [some (.int m0), some (.long j1), none, some (.long j3), none]) (st' := [.long (1 : Int64)]) rfl ?_
                exact Rn.weak (ll_n (ll_n (ll_n (ll_n (ll_n ll_e))))) (RX3_combine_b107 hd hR L64_1 hq e)
              · rw [if_neg c_635] at e
                refine Rn.bt hT rfl rfl rfl (decide_eq_true (fun z => c_635 ((lc_e p1 p3).mp z))) ?_
                refine Rn.n hT 1 (pc' := 107) (L' := [some (.int m0), some (.long j1), none, some (.long j3), none]) (st' := [.long (0 : Int64)]) rfl ?_
                exact Rn.weak (ll_n (ll_n (ll_n (ll_n (ll_n ll_e))))) (RX3_combine_b107 hd hR L64_0 hq e)
            · rw [if_neg c_634] at e
              by_cases c_636 : x0 = 7
              · rw [if_pos c_636] at e
                refine Rn.sw2 hT rfl rfl rfl ((if_neg (fun z => c_625 ((ti_e p0 L32_1).mp z))).trans ((if_neg (fun z => c_626 ((ti_e p0 L32_2).mp z))).trans ((if_neg (fun z => c_627 ((ti_e p0 L32_3).mp z))).trans ((if_neg (fun z => c_630 ((ti_e p0 L32_4).mp z))).trans ((if_neg (fun z => c_632 ((ti_e p0 L32_5).mp z))).trans ((if_neg (fun z => c_634 ((ti_e p0 L32_6).mp z))).trans (if_pos ((ti_e p0 L32_7).mpr c_636)))))))) ?_
                refine Rn.n hT 3 (pc' := 111) (L' := [some (.int m0), some (.long j1), none, some (.long j3), none]) (st' := [.int (lg_cmp j1 j3)]) rfl ?_
                by_cases c_637 : y1 < y3
                · rw [if_pos c_637] at e
                  refine Rn.bt hT rfl rfl rfl (decide_eq_true ((lc_l p1 p3).mpr c_637)) ?_
                  refine Rn.n hT 1 (pc' := 119) (L' := [some (.int m0), some (.long j1), none, some (.long j3), none]) (st' := [.long (0 : Int64)]) rfl ?_
                  exact Rn.weak (ll_n (ll_n (ll_n (ll_n (ll_n ll_e))))) (RX3_combine_b119 hd hR L64_0 hq e)
                · rw [if_neg c_637] at e
                  refine Rn.bf hT rfl rfl rfl (decide_eq_false (fun z => c_637 ((lc_l p1 p3).mp z))) ?_
                  refine Rn.n hT 2 (pc' := 119) (L' := [some (.int m0), some (.long j1), none, some (.long j3), none]) (st' := [.long (1 : Int64)]) rfl ?_
                  exact Rn.weak (ll_n (ll_n (ll_n (ll_n (ll_n ll_e))))) (RX3_combine_b119 hd hR L64_1 hq e)
              · rw [if_neg c_636] at e
                by_cases c_638 : x0 = 8
                · rw [if_pos c_638] at e
                  refine Rn.sw2 hT rfl rfl rfl ((if_neg (fun z => c_625 ((ti_e p0 L32_1).mp z))).trans ((if_neg (fun z => c_626 ((ti_e p0 L32_2).mp z))).trans ((if_neg (fun z => c_627 ((ti_e p0 L32_3).mp z))).trans ((if_neg (fun z => c_630 ((ti_e p0 L32_4).mp z))).trans ((if_neg (fun z => c_632 ((ti_e p0 L32_5).mp z))).trans ((if_neg (fun z => c_634 ((ti_e p0 L32_6).mp z))).trans ((if_neg (fun z => c_636 ((ti_e p0 L32_7).mp z))).trans (if_pos ((ti_e p0 L32_8).mpr c_638))))))))) ?_
                  refine Rn.n hT 3 (pc' := 123) (L' := [some (.int m0), some (.long j1), none, some (.long j3), none]) (st' := [.int (lg_cmp j1 j3)]) rfl ?_
                  by_cases c_639 : y1 ≤ y3
                  · rw [if_pos c_639] at e
                    refine Rn.bt hT rfl rfl rfl (decide_eq_true ((lc_le p1 p3).mpr c_639)) ?_
                    refine Rn.n hT 1 (pc' := 131) (L' := [some (.int m0), some (.long j1), none, some (.long j3), none]) (st' := [.long (0 : Int64)]) rfl ?_
                    exact Rn.weak (ll_n (ll_n (ll_n (ll_n (ll_n ll_e))))) (RX3_combine_b131 hd hR L64_0 hq e)
                  · rw [if_neg c_639] at e
                    refine Rn.bf hT rfl rfl rfl (decide_eq_false (fun z => c_639 ((lc_le p1 p3).mp z))) ?_
                    refine Rn.n hT 2 (pc' := 131) (L' := [some (.int m0), some (.long j1), none, some (.long j3), none]) (st' := [.long (1 : Int64)]) rfl ?_
                    exact Rn.weak (ll_n (ll_n (ll_n (ll_n (ll_n ll_e))))) (RX3_combine_b131 hd hR L64_1 hq e)
                · rw [if_neg c_638] at e
                  by_cases c_640 : x0 = 9
                  · rw [if_pos c_640] at e
                    refine Rn.sw2 hT rfl rfl rfl ((if_neg (fun z => c_625 ((ti_e p0 L32_1).mp z))).trans ((if_neg (fun z => c_626 ((ti_e p0 L32_2).mp z))).trans ((if_neg (fun z => c_627 ((ti_e p0 L32_3).mp z))).trans ((if_neg (fun z => c_630 ((ti_e p0 L32_4).mp z))).trans ((if_neg (fun z => c_632 ((ti_e p0 L32_5).mp z))).trans ((if_neg (fun z => c_634 ((ti_e p0 L32_6).mp z))).trans ((if_neg (fun z => c_636 ((ti_e p0 L32_7).mp z))).trans ((if_neg (fun z => c_638 ((ti_e p0 L32_8).mp z))).trans (if_pos ((ti_e p0 L32_9).mpr c_640)))))))))) ?_
                    refine Rn.n hT 3 (pc' := 135) (L' := [some (.int m0), some (.long j1), none, some (.long j3), none]) (st' := [.long (j1 + j3)]) rfl ?_
                    obtain rfl := Option.some.inj e
                    exact Rn.ret hT rfl rfl rfl (hq (j1 + j3) (tj_add p1 p3))
                  · rw [if_neg c_640] at e
                    by_cases c_641 : x0 = 10
                    · rw [if_pos c_641] at e
                      refine Rn.sw2 hT rfl rfl rfl ((if_neg (fun z => c_625 ((ti_e p0 L32_1).mp z))).trans ((if_neg (fun z => c_626 ((ti_e p0 L32_2).mp z))).trans ((if_neg (fun z => c_627 ((ti_e p0 L32_3).mp z))).trans ((if_neg (fun z => c_630 ((ti_e p0 L32_4).mp z))).trans ((if_neg (fun z => c_632 ((ti_e p0 L32_5).mp z))).trans ((if_neg (fun z => c_634 ((ti_e p0 L32_6).mp z))).trans ((if_neg (fun z => c_636 ((ti_e p0 L32_7).mp z))).trans ((if_neg (fun z => c_638 ((ti_e p0 L32_8).mp z))).trans ((if_neg (fun z => c_640 ((ti_e p0 L32_9).mp z))).trans (if_pos ((ti_e p0 L32_10).mpr c_641))))))))))) ?_
                      refine Rn.n hT 3 (pc' := 139) (L' := [some (.int m0), some (.long j1), none, some (.long j3), none]) (st' := [.long (j1 - j3)]) rfl ?_
                      obtain rfl := Option.some.inj e
                      exact Rn.ret hT rfl rfl rfl (hq (j1 - j3) (tj_sub p1 p3))
                    · rw [if_neg c_641] at e
                      by_cases c_642 : x0 = 11
                      · rw [if_pos c_642] at e
                        refine Rn.sw2 hT rfl rfl rfl ((if_neg (fun z => c_625 ((ti_e p0 L32_1).mp z))).trans ((if_neg (fun z => c_626 ((ti_e p0 L32_2).mp z))).trans ((if_neg (fun z => c_627 ((ti_e p0 L32_3).mp z))).trans ((if_neg (fun z => c_630 ((ti_e p0 L32_4).mp z))).trans ((if_neg (fun z => c_632 ((ti_e p0 L32_5).mp z))).trans ((if_neg (fun z => c_634 ((ti_e p0 L32_6).mp z))).trans ((if_neg (fun z => c_636 ((ti_e p0 L32_7).mp z))).trans ((if_neg (fun z => c_638 ((ti_e p0 L32_8).mp z))).trans ((if_neg (fun z => c_640 ((ti_e p0 L32_9).mp z))).trans ((if_neg (fun z => c_641 ((ti_e p0 L32_10).mp z))).trans (if_pos ((ti_e p0 L32_11).mpr c_642)))))))))))) ?_
                        refine Rn.n hT 3 (pc' := 143) (L' := [some (.int m0), some (.long j1), none, some (.long j3), none]) (st' := [.long (j1 * j3)]) rfl ?_
                        obtain rfl := Option.some.inj e
                        exact Rn.ret hT rfl rfl rfl (hq (j1 * j3) (tj_mul p1 p3))
                      · rw [if_neg c_642] at e
                        by_cases c_643 : x0 = 12
                        · rw [if_pos c_643] at e
                          refine Rn.sw2 hT rfl rfl rfl ((if_neg (fun z => c_625 ((ti_e p0 L32_1).mp z))).trans ((if_neg (fun z => c_626 ((ti_e p0 L32_2).mp z))).trans ((if_neg (fun z => c_627 ((ti_e p0 L32_3).mp z))).trans ((if_neg (fun z => c_630 ((ti_e p0 L32_4).mp z))).trans ((if_neg (fun z => c_632 ((ti_e p0 L32_5).mp z))).trans ((if_neg (fun z => c_634 ((ti_e p0 L32_6).mp z))).trans ((if_neg (fun z => c_636 ((ti_e p0 L32_7).mp z))).trans ((if_neg (fun z => c_638 ((ti_e p0 L32_8).mp z))).trans ((if_neg (fun z => c_640 ((ti_e p0 L32_9).mp z))).trans ((if_neg (fun z => c_641 ((ti_e p0 L32_10).mp z))).trans ((if_neg (fun z => c_642 ((ti_e p0 L32_11).mp z))).trans (if_pos ((ti_e p0 L32_12).mpr c_643))))))))))))) ?_
                          refine Rn.n hT 3 (pc' := 147) (L' := [some (.int m0), some (.long j1), none, some (.long j3), none]) (st' := [.int (lg_cmp j3 (0 : Int64))]) rfl ?_
                          by_cases c_644 : y3 = 0
                          · rw [if_pos c_644] at e
                            refine Rn.bf hT rfl rfl rfl (decide_eq_false (fun z => z ((lc_e p3 L64_0).mpr c_644))) ?_
                            refine Rn.n hT 2 (pc' := 157) (L' := [some (.int m0), some (.long j1), none, some (.long j3), none]) (st' := [.long (0 : Int64)]) rfl ?_
                            exact Rn.weak (ll_n (ll_n (ll_n (ll_n (ll_n ll_e))))) (RX3_combine_b157 hd hR L64_0 hq e)
                          · rw [if_neg c_644] at e
                            refine Rn.bt hT rfl rfl rfl (decide_eq_true (fun z => c_644 ((lc_e p3 L64_0).mp z))) ?_
                            refine Rn.n hT 2 (pc' := 156) (L' := [some (.int m0), some (.long j1), none, some (.long j3), none]) (st' := [.long j3, .long j1]) rfl ?_
                            by_cases c_645 : y3 = 0
                            · rw [if_pos c_645] at e
                              cases e
                            · rw [if_neg c_645] at e
                              refine Rn.pu hT rfl rfl (st' := [.long (j1 / j3)]) (if_neg (fun z => c_645 ((tj_e p3 L64_0).mp z))) ?_
                              exact Rn.weak (ll_n (ll_n (ll_n (ll_n (ll_n ll_e))))) (RX3_combine_b157 hd hR (tj_div p1 p3) hq e)
                        · rw [if_neg c_643] at e
                          refine Rn.sw2 hT rfl rfl rfl ((if_neg (fun z => c_625 ((ti_e p0 L32_1).mp z))).trans ((if_neg (fun z => c_626 ((ti_e p0 L32_2).mp z))).trans ((if_neg (fun z => c_627 ((ti_e p0 L32_3).mp z))).trans ((if_neg (fun z => c_630 ((ti_e p0 L32_4).mp z))).trans ((if_neg (fun z => c_632 ((ti_e p0 L32_5).mp z))).trans ((if_neg (fun z => c_634 ((ti_e p0 L32_6).mp z))).trans ((if_neg (fun z => c_636 ((ti_e p0 L32_7).mp z))).trans ((if_neg (fun z => c_638 ((ti_e p0 L32_8).mp z))).trans ((if_neg (fun z => c_640 ((ti_e p0 L32_9).mp z))).trans ((if_neg (fun z => c_641 ((ti_e p0 L32_10).mp z))).trans ((if_neg (fun z => c_642 ((ti_e p0 L32_11).mp z))).trans ((if_neg (fun z => c_643 ((ti_e p0 L32_12).mp z))).trans rfl)))))))))))) ?_
                          refine Rn.n hT 3 (pc' := 161) (L' := [some (.int m0), some (.long j1), none, some (.long j3), none]) (st' := [.int (lg_cmp j3 (0 : Int64))]) rfl ?_
                          by_cases c_646 : y3 = 0
                          · rw [if_pos c_646] at e
                            refine Rn.bf hT rfl rfl rfl (decide_eq_false (fun z => z ((lc_e p3 L64_0).mpr c_646))) ?_
                            refine Rn.n hT 2 (pc' := 171) (L' := [some (.int m0), some (.long j1), none, some (.long j3), none]) (st' := [.long (0 : Int64)]) rfl ?_
                            exact Rn.weak (ll_n (ll_n (ll_n (ll_n (ll_n ll_e))))) (RX3_combine_b171 hd hR L64_0 hq e)
                          · rw [if_neg c_646] at e
                            refine Rn.bt hT rfl rfl rfl (decide_eq_true (fun z => c_646 ((lc_e p3 L64_0).mp z))) ?_
                            refine Rn.n hT 2 (pc' := 170) (L' := [some (.int m0), some (.long j1), none, some (.long j3), none]) (st' := [.long j3, .long j1]) rfl ?_
                            by_cases c_647 : y3 = 0
                            · rw [if_pos c_647] at e
                              cases e
                            · rw [if_neg c_647] at e
                              refine Rn.pu hT rfl rfl (st' := [.long (j1 - j1 / j3 * j3)]) (if_neg (fun z => c_647 ((tj_e p3 L64_0).mp z))) ?_
                              exact Rn.weak (ll_n (ll_n (ll_n (ll_n (ll_n ll_e))))) (RX3_combine_b171 hd hR (tj_rem p1 p3) hq e)
set_option maxRecDepth 10000 in
theorem hX3_isBarred : iv_Tb 64 tX3_isBarred := iv_tb_of (m := mX3_isBarred) rfl
set_option maxRecDepth 10000 in
theorem gX3_isBarred : PG.2 64 = some mX3_isBarred := iv_pi_of (t := tX3_isBarred) rfl (by decide)
def FX3_isBarred_b158 (N : Nat) (s : iv_M) (q0 : Nat) (x1 : Int) (x2 : Int) (x3 : Int)  (kb : iv_M → Int → Int → Option (Int × iv_M)) (kx : iv_M → Int → Option (Int × iv_M)) : Option (Int × iv_M) := (kb s x2 (w32 (x3 + 1)))
set_option maxRecDepth 10000 in
set_option maxHeartbeats 4000000 in
theorem RX3_isBarred_b158 {d N nc Ls : Nat} {Xs : Nat → Int32} (hd : 2 ≤ d) {h : iv_H} {s : iv_M} (hR : Rep nc Ls Xs h s) {q0 : Nat} (t0 : T3 nc q0) {m1 : Int32} {x1 : Int} (p1 : m1.toInt = x1) {m2 : Int32} {x2 : Int} (p2 : m2.toInt = x2) {m3 : Int32} {x3 : Int} (p3 : m3.toInt = x3)  {kb : iv_M → Int → Int → Option (Int × iv_M)} {kx : iv_M → Int → Option (Int × iv_M)} {r : Int × iv_M} {Q : Option Value → iv_H → Prop} (hb : ∀ (h : iv_H) (s : iv_M) (hR : Rep nc Ls Xs h s) (mw2 : Int32) (xw2 : Int) (pw2 : mw2.toInt = xw2) (mw3 : Int32) (xw3 : Int) (pw3 : mw3.toInt = xw3), kb s xw2 xw3 = some r → Rn d 64 (some .boolean) 4 [some (.ref q0), some (.int m1), some (.int mw2), some (.int mw3), none] [] h Q) (hk : ∀ (h : iv_H) (s : iv_M) (hR : Rep nc Ls Xs h s) (mw2 : Int32) (xw2 : Int) (pw2 : mw2.toInt = xw2), kx s xw2 = some r → Rn d 64 (some .boolean) 164 [some (.ref q0), none, some (.int mw2), none, none] [] h Q) (hq : ∀ (z : Int32) (h1 : iv_H), z.toInt = r.1 → Rep nc Ls Xs h1 r.2 → Q (some (.int z)) h1) (e : FX3_isBarred_b158 N s q0 x1 x2 x3  kb kx = some r) : Rn d 64 (some .boolean) 158 [some (.ref q0), some (.int m1), some (.int m2), some (.int m3), none] [] h Q := by
  have hT := hX3_isBarred
  unfold FX3_isBarred_b158 at e
  refine Rn.n hT 2 (pc' := 4) (L' := [some (.ref q0), some (.int m1), some (.int m2), some (.int (m3 + (1 : Int32))), none]) (st' := []) rfl ?_
  exact Rn.weak (ll_s (ll_s (ll_s (ll_s (ll_n ll_e))))) (hb h s hR m2 x2 p2 (m3 + (1 : Int32)) (w32 (x3 + 1)) (ti_add p3 L32_1) e)
def FX3_isBarred_b77 (N : Nat) (s : iv_M) (q0 : Nat) (x1 : Int) (x2 : Int) (x3 : Int) (ys0 : Int) (xs1 : Int) (qs2 : Nat) (kb : iv_M → Int → Int → Option (Int × iv_M)) (kx : iv_M → Int → Option (Int × iv_M)) : Option (Int × iv_M) := ((wr s qs2 ((sh qs2).2 : Int) xs1 ys0).bind fun s_663 => (FX3_isBarred_b158 N s_663 q0 x1 (w32 (x2 + 1)) x3 kb kx))
set_option maxRecDepth 10000 in
set_option maxHeartbeats 4000000 in
theorem RX3_isBarred_b77 {d N nc Ls : Nat} {Xs : Nat → Int32} (hd : 2 ≤ d) {h : iv_H} {s : iv_M} (hR : Rep nc Ls Xs h s) {q0 : Nat} (t0 : T3 nc q0) {m1 : Int32} {x1 : Int} (p1 : m1.toInt = x1) {m2 : Int32} {x2 : Int} (p2 : m2.toInt = x2) {m3 : Int32} {x3 : Int} (p3 : m3.toInt = x3) {js0 : Int64} {ys0 : Int} (ps0 : js0.toInt = ys0) {ms1 : Int32} {xs1 : Int} (ps1 : ms1.toInt = xs1) {qs2 : Nat} (ts2 : TA 1 nc qs2) {kb : iv_M → Int → Int → Option (Int × iv_M)} {kx : iv_M → Int → Option (Int × iv_M)} {r : Int × iv_M} {Q : Option Value → iv_H → Prop} (hb : ∀ (h : iv_H) (s : iv_M) (hR : Rep nc Ls Xs h s) (mw2 : Int32) (xw2 : Int) (pw2 : mw2.toInt = xw2) (mw3 : Int32) (xw3 : Int) (pw3 : mw3.toInt = xw3), kb s xw2 xw3 = some r → Rn d 64 (some .boolean) 4 [some (.ref q0), some (.int m1), some (.int mw2), some (.int mw3), none] [] h Q) (hk : ∀ (h : iv_H) (s : iv_M) (hR : Rep nc Ls Xs h s) (mw2 : Int32) (xw2 : Int) (pw2 : mw2.toInt = xw2), kx s xw2 = some r → Rn d 64 (some .boolean) 164 [some (.ref q0), none, some (.int mw2), none, none] [] h Q) (hq : ∀ (z : Int32) (h1 : iv_H), z.toInt = r.1 → Rep nc Ls Xs h1 r.2 → Q (some (.int z)) h1) (e : FX3_isBarred_b77 N s q0 x1 x2 x3 ys0 xs1 qs2 kb kx = some r) : Rn d 64 (some .boolean) 77 [some (.ref q0), some (.int m1), some (.int m2), some (.int m3), none] [.long js0, .int ms1, .ref qs2] h Q := by
  have hT := hX3_isBarred
  unfold FX3_isBarred_b77 at e
  obtain ⟨s_663, e_664, e⟩ := Option.bind_eq_some_iff.mp e
  obtain ⟨h_663, g_664, R_663⟩ := rp_wJ hR ts2 rfl ps1 ps0 e_664
  refine Rn.hp hT rfl rfl (wJ_hp g_664) ?_
  refine Rn.n hT 2 (pc' := 158) (L' := [some (.ref q0), some (.int m1), some (.int (m2 + (1 : Int32))), some (.int m3), none]) (st' := []) rfl ?_
  exact Rn.weak (ll_s (ll_s (ll_s (ll_s (ll_n ll_e))))) (RX3_isBarred_b158 hd R_663 t0 p1 (ti_add p2 L32_1) p3 hb hk hq e)
def FX3_isBarred_b119 (N : Nat) (s : iv_M) (q0 : Nat) (x1 : Int) (x2 : Int) (x3 : Int) (ys0 : Int) (xs1 : Int) (qs2 : Nat) (kb : iv_M → Int → Int → Option (Int × iv_M)) (kx : iv_M → Int → Option (Int × iv_M)) : Option (Int × iv_M) := ((wr s qs2 ((sh qs2).2 : Int) xs1 ys0).bind fun s_669 => (FX3_isBarred_b158 N s_669 q0 x1 x2 x3 kb kx))
set_option maxRecDepth 10000 in
set_option maxHeartbeats 4000000 in
theorem RX3_isBarred_b119 {d N nc Ls : Nat} {Xs : Nat → Int32} (hd : 2 ≤ d) {h : iv_H} {s : iv_M} (hR : Rep nc Ls Xs h s) {q0 : Nat} (t0 : T3 nc q0) {m1 : Int32} {x1 : Int} (p1 : m1.toInt = x1) {m2 : Int32} {x2 : Int} (p2 : m2.toInt = x2) {m3 : Int32} {x3 : Int} (p3 : m3.toInt = x3) {js0 : Int64} {ys0 : Int} (ps0 : js0.toInt = ys0) {ms1 : Int32} {xs1 : Int} (ps1 : ms1.toInt = xs1) {qs2 : Nat} (ts2 : TA 1 nc qs2) {kb : iv_M → Int → Int → Option (Int × iv_M)} {kx : iv_M → Int → Option (Int × iv_M)} {r : Int × iv_M} {Q : Option Value → iv_H → Prop} (hb : ∀ (h : iv_H) (s : iv_M) (hR : Rep nc Ls Xs h s) (mw2 : Int32) (xw2 : Int) (pw2 : mw2.toInt = xw2) (mw3 : Int32) (xw3 : Int) (pw3 : mw3.toInt = xw3), kb s xw2 xw3 = some r → Rn d 64 (some .boolean) 4 [some (.ref q0), some (.int m1), some (.int mw2), some (.int mw3), none] [] h Q) (hk : ∀ (h : iv_H) (s : iv_M) (hR : Rep nc Ls Xs h s) (mw2 : Int32) (xw2 : Int) (pw2 : mw2.toInt = xw2), kx s xw2 = some r → Rn d 64 (some .boolean) 164 [some (.ref q0), none, some (.int mw2), none, none] [] h Q) (hq : ∀ (z : Int32) (h1 : iv_H), z.toInt = r.1 → Rep nc Ls Xs h1 r.2 → Q (some (.int z)) h1) (e : FX3_isBarred_b119 N s q0 x1 x2 x3 ys0 xs1 qs2 kb kx = some r) : Rn d 64 (some .boolean) 119 [some (.ref q0), some (.int m1), some (.int m2), some (.int m3), none] [.long js0, .int ms1, .ref qs2] h Q := by
  have hT := hX3_isBarred
  unfold FX3_isBarred_b119 at e
  obtain ⟨s_669, e_670, e⟩ := Option.bind_eq_some_iff.mp e
  obtain ⟨h_669, g_670, R_669⟩ := rp_wJ hR ts2 rfl ps1 ps0 e_670
  refine Rn.hp hT rfl rfl (wJ_hp g_670) ?_
  refine Rn.n hT 1 (pc' := 158) (L' := [some (.ref q0), some (.int m1), some (.int m2), some (.int m3), none]) (st' := []) rfl ?_
  exact Rn.weak (ll_s (ll_s (ll_s (ll_s (ll_n ll_e))))) (RX3_isBarred_b158 hd R_669 t0 p1 p2 p3 hb hk hq e)
def FX3_isBarred_b123 (N : Nat) (s : iv_M) (q0 : Nat) (x1 : Int) (x2 : Int) (x3 : Int) (x4 : Int)  (kb : iv_M → Int → Int → Option (Int × iv_M)) (kx : iv_M → Int → Option (Int × iv_M)) : Option (Int × iv_M) := (if x2 ≤ 1 then (FX3_isBarred_b158 N s q0 x1 x2 x3 kb kx) else ((rd s (q0 + 1) 64 (w32 ((w32 (x2 + (-1))) - 1))).bind fun v_672 => ((rd s (q0 + 1) 64 (w32 (x2 + (-1)))).bind fun v_673 => ((FX3_combine N s x4 v_672 v_673).bind fun v_674 => ((wr s (q0 + 1) 64 (w32 ((w32 (x2 + (-1))) - 1)) v_674).bind fun s_675 => (FX3_isBarred_b158 N s_675 q0 x1 (w32 (x2 + (-1))) x3 kb kx))))))
set_option maxRecDepth 10000 in
set_option maxHeartbeats 4000000 in
theorem RX3_isBarred_b123 {d N nc Ls : Nat} {Xs : Nat → Int32} (hd : 2 ≤ d) {h : iv_H} {s : iv_M} (hR : Rep nc Ls Xs h s) {q0 : Nat} (t0 : T3 nc q0) {m1 : Int32} {x1 : Int} (p1 : m1.toInt = x1) {m2 : Int32} {x2 : Int} (p2 : m2.toInt = x2) {m3 : Int32} {x3 : Int} (p3 : m3.toInt = x3) {m4 : Int32} {x4 : Int} (p4 : m4.toInt = x4)  {kb : iv_M → Int → Int → Option (Int × iv_M)} {kx : iv_M → Int → Option (Int × iv_M)} {r : Int × iv_M} {Q : Option Value → iv_H → Prop} (hb : ∀ (h : iv_H) (s : iv_M) (hR : Rep nc Ls Xs h s) (mw2 : Int32) (xw2 : Int) (pw2 : mw2.toInt = xw2) (mw3 : Int32) (xw3 : Int) (pw3 : mw3.toInt = xw3), kb s xw2 xw3 = some r → Rn d 64 (some .boolean) 4 [some (.ref q0), some (.int m1), some (.int mw2), some (.int mw3), none] [] h Q) (hk : ∀ (h : iv_H) (s : iv_M) (hR : Rep nc Ls Xs h s) (mw2 : Int32) (xw2 : Int) (pw2 : mw2.toInt = xw2), kx s xw2 = some r → Rn d 64 (some .boolean) 164 [some (.ref q0), none, some (.int mw2), none, none] [] h Q) (hq : ∀ (z : Int32) (h1 : iv_H), z.toInt = r.1 → Rep nc Ls Xs h1 r.2 → Q (some (.int z)) h1) (e : FX3_isBarred_b123 N s q0 x1 x2 x3 x4  kb kx = some r) : Rn d 64 (some .boolean) 123 [some (.ref q0), some (.int m1), some (.int m2), some (.int m3), some (.int m4)] [] h Q := by
  have hT := hX3_isBarred
  unfold FX3_isBarred_b123 at e
  refine Rn.n hT 2 (pc' := 125) (L' := [some (.ref q0), some (.int m1), some (.int m2), some (.int m3), some (.int m4)]) (st' := [.int (1 : Int32), .int m2]) rfl ?_
  by_cases c_671 : x2 ≤ 1
  · rw [if_pos c_671] at e
    refine Rn.bt hT rfl rfl rfl (decide_eq_true ((ti_le p2 L32_1).mpr c_671)) ?_
    exact Rn.weak (ll_s (ll_s (ll_s (ll_s (ll_n ll_e))))) (RX3_isBarred_b158 hd hR t0 p1 p2 p3 hb hk hq e)
  · rw [if_neg c_671] at e
    refine Rn.bf hT rfl rfl rfl (decide_eq_false (fun z => c_671 ((ti_le p2 L32_1).mp z))) ?_
    refine Rn.n hT 2 (pc' := 132) (L' := [some (.ref q0), some (.int m1), some (.int (m2 + (-1 : Int32))), some (.int m3), some (.int m4)]) (st' := [.ref q0]) rfl ?_
    refine Rn.hp hT rfl rfl (gR_hp (rp_gR hR (T3_o t0) rfl)) ?_
    refine Rn.n hT 5 (pc' := 141) (L' := [some (.ref q0), some (.int m1), some (.int (m2 + (-1 : Int32))), some (.int m3), some (.int m4)]) (st' := [.ref q0, .int m4, .int ((m2 + (-1 : Int32)) - (1 : Int32)), .ref (q0 + 1)]) rfl ?_
    refine Rn.hp hT rfl rfl (gR_hp (rp_gR hR (T3_o t0) rfl)) ?_
    refine Rn.n hT 3 (pc' := 147) (L' := [some (.ref q0), some (.int m1), some (.int (m2 + (-1 : Int32))), some (.int m3), some (.int m4)]) (st' := [.int ((m2 + (-1 : Int32)) - (1 : Int32)), .ref (q0 + 1), .int m4, .int ((m2 + (-1 : Int32)) - (1 : Int32)), .ref (q0 + 1)]) rfl ?_
    obtain ⟨v_672, e_672, e⟩ := Option.bind_eq_some_iff.mp e
    obtain ⟨z_672, g_672, p_672⟩ := rp_aJ hR (T3_7 t0) (T3_7l t0) (ti_sub (ti_add p2 L32_m1) L32_1) e_672
    refine Rn.hp hT rfl rfl (aJ_hp g_672) ?_
    refine Rn.n hT 1 (pc' := 149) (L' := [some (.ref q0), some (.int m1), some (.int (m2 + (-1 : Int32))), some (.int m3), some (.int m4)]) (st' := [.ref q0, .long z_672, .int m4, .int ((m2 + (-1 : Int32)) - (1 : Int32)), .ref (q0 + 1)]) rfl ?_
    refine Rn.hp hT rfl rfl (gR_hp (rp_gR hR (T3_o t0) rfl)) ?_
    refine Rn.n hT 1 (pc' := 153) (L' := [some (.ref q0), some (.int m1), some (.int (m2 + (-1 : Int32))), some (.int m3), some (.int m4)]) (st' := [.int (m2 + (-1 : Int32)), .ref (q0 + 1), .long z_672, .int m4, .int ((m2 + (-1 : Int32)) - (1 : Int32)), .ref (q0 + 1)]) rfl ?_
    obtain ⟨v_673, e_673, e⟩ := Option.bind_eq_some_iff.mp e
    obtain ⟨z_673, g_673, p_673⟩ := rp_aJ hR (T3_7 t0) (T3_7l t0) (ti_add p2 L32_m1) e_673
    refine Rn.hp hT rfl rfl (aJ_hp g_673) ?_
    obtain ⟨v_674, e_674, e⟩ := Option.bind_eq_some_iff.mp e
    refine Rn.call hT rfl rfl rfl (Nat.le_of_ble_eq_true rfl) rfl (RX3_combine (by omega) hR p4 p_672 p_673 e_674 (fun z_674 p_674 => ?_))
    show Rn d _ _ 157 [some (.ref q0), some (.int m1), some (.int (m2 + (-1 : Int32))), some (.int m3), some (.int m4)] [.long z_674, .int ((m2 + (-1 : Int32)) - (1 : Int32)), .ref (q0 + 1)] h Q
    obtain ⟨s_675, e_676, e⟩ := Option.bind_eq_some_iff.mp e
    obtain ⟨h_675, g_676, R_675⟩ := rp_wJ hR (T3_7 t0) (T3_7l t0) (ti_sub (ti_add p2 L32_m1) L32_1) p_674 e_676
    refine Rn.hp hT rfl rfl (wJ_hp g_676) ?_
    exact Rn.weak (ll_s (ll_s (ll_s (ll_s (ll_n ll_e))))) (RX3_isBarred_b158 hd R_675 t0 p1 (ti_add p2 L32_m1) p3 hb hk hq e)
def FX3_isBarred_b84 (N : Nat) (s : iv_M) (q0 : Nat) (x1 : Int) (x2 : Int) (x3 : Int) (x4 : Int)  (kb : iv_M → Int → Int → Option (Int × iv_M)) (kx : iv_M → Int → Option (Int × iv_M)) : Option (Int × iv_M) := (if x4 = 3 then (if x2 ≤ 0 then (FX3_isBarred_b123 N s q0 x1 x2 x3 x4 kb kx) else ((rd s (q0 + 1) 64 (w32 (x2 - 1))).bind fun v_667 => (if v_667 = 0 then (FX3_isBarred_b119 N s q0 x1 x2 x3 1 (w32 (x2 - 1)) (q0 + 1) kb kx) else (FX3_isBarred_b119 N s q0 x1 x2 x3 0 (w32 (x2 - 1)) (q0 + 1) kb kx)))) else (FX3_isBarred_b123 N s q0 x1 x2 x3 x4 kb kx))
set_option maxRecDepth 10000 in
set_option maxHeartbeats 4000000 in
theorem RX3_isBarred_b84 {d N nc Ls : Nat} {Xs : Nat → Int32} (hd : 2 ≤ d) {h : iv_H} {s : iv_M} (hR : Rep nc Ls Xs h s) {q0 : Nat} (t0 : T3 nc q0) {m1 : Int32} {x1 : Int} (p1 : m1.toInt = x1) {m2 : Int32} {x2 : Int} (p2 : m2.toInt = x2) {m3 : Int32} {x3 : Int} (p3 : m3.toInt = x3) {m4 : Int32} {x4 : Int} (p4 : m4.toInt = x4)  {kb : iv_M → Int → Int → Option (Int × iv_M)} {kx : iv_M → Int → Option (Int × iv_M)} {r : Int × iv_M} {Q : Option Value → iv_H → Prop} (hb : ∀ (h : iv_H) (s : iv_M) (hR : Rep nc Ls Xs h s) (mw2 : Int32) (xw2 : Int) (pw2 : mw2.toInt = xw2) (mw3 : Int32) (xw3 : Int) (pw3 : mw3.toInt = xw3), kb s xw2 xw3 = some r → Rn d 64 (some .boolean) 4 [some (.ref q0), some (.int m1), some (.int mw2), some (.int mw3), none] [] h Q) (hk : ∀ (h : iv_H) (s : iv_M) (hR : Rep nc Ls Xs h s) (mw2 : Int32) (xw2 : Int) (pw2 : mw2.toInt = xw2), kx s xw2 = some r → Rn d 64 (some .boolean) 164 [some (.ref q0), none, some (.int mw2), none, none] [] h Q) (hq : ∀ (z : Int32) (h1 : iv_H), z.toInt = r.1 → Rep nc Ls Xs h1 r.2 → Q (some (.int z)) h1) (e : FX3_isBarred_b84 N s q0 x1 x2 x3 x4  kb kx = some r) : Rn d 64 (some .boolean) 84 [some (.ref q0), some (.int m1), some (.int m2), some (.int m3), some (.int m4)] [] h Q := by
  have hT := hX3_isBarred
  unfold FX3_isBarred_b84 at e
  refine Rn.n hT 2 (pc' := 87) (L' := [some (.ref q0), some (.int m1), some (.int m2), some (.int m3), some (.int m4)]) (st' := [.int (3 : Int32), .int m4]) rfl ?_
  by_cases c_665 : x4 = 3
  · rw [if_pos c_665] at e
    refine Rn.bf hT rfl rfl rfl (decide_eq_false (fun z => z ((ti_e p4 L32_3).mpr c_665))) ?_
    refine Rn.n hT 1 (pc' := 91) (L' := [some (.ref q0), some (.int m1), some (.int m2), some (.int m3), some (.int m4)]) (st' := [.int m2]) rfl ?_
    by_cases c_666 : x2 ≤ 0
    · rw [if_pos c_666] at e
      refine Rn.bt hT rfl rfl rfl (decide_eq_true ((ti_le p2 L32_0).mpr c_666)) ?_
      exact Rn.weak (ll_s (ll_s (ll_s (ll_s (ll_s ll_e))))) (RX3_isBarred_b123 hd hR t0 p1 p2 p3 p4 hb hk hq e)
    · rw [if_neg c_666] at e
      refine Rn.bf hT rfl rfl rfl (decide_eq_false (fun z => c_666 ((ti_le p2 L32_0).mp z))) ?_
      refine Rn.n hT 1 (pc' := 95) (L' := [some (.ref q0), some (.int m1), some (.int m2), some (.int m3), some (.int m4)]) (st' := [.ref q0]) rfl ?_
      refine Rn.hp hT rfl rfl (gR_hp (rp_gR hR (T3_o t0) rfl)) ?_
      refine Rn.n hT 4 (pc' := 102) (L' := [some (.ref q0), some (.int m1), some (.int m2), some (.int m3), some (.int m4)]) (st' := [.ref q0, .int (m2 - (1 : Int32)), .ref (q0 + 1)]) rfl ?_
      refine Rn.hp hT rfl rfl (gR_hp (rp_gR hR (T3_o t0) rfl)) ?_
      refine Rn.n hT 3 (pc' := 108) (L' := [some (.ref q0), some (.int m1), some (.int m2), some (.int m3), some (.int m4)]) (st' := [.int (m2 - (1 : Int32)), .ref (q0 + 1), .int (m2 - (1 : Int32)), .ref (q0 + 1)]) rfl ?_
      obtain ⟨v_667, e_667, e⟩ := Option.bind_eq_some_iff.mp e
      obtain ⟨z_667, g_667, p_667⟩ := rp_aJ hR (T3_7 t0) (T3_7l t0) (ti_sub p2 L32_1) e_667
      refine Rn.hp hT rfl rfl (aJ_hp g_667) ?_
      refine Rn.n hT 2 (pc' := 111) (L' := [some (.ref q0), some (.int m1), some (.int m2), some (.int m3), some (.int m4)]) (st' := [.int (lg_cmp z_667 (0 : Int64)), .int (m2 - (1 : Int32)), .ref (q0 + 1)]) rfl ?_
      by_cases c_668 : v_667 = 0
      · rw [if_pos c_668] at e
        refine Rn.bf hT rfl rfl rfl (decide_eq_false (fun z => z ((lc_e p_667 L64_0).mpr c_668))) ?_
        refine Rn.n hT 2 (pc' := 119) (L' := [some (.ref q0), some (.int m1), some (.int m2), some (.int m3), some (.int m4)]) (st' := [.long (1 : Int64), .int (m2 - (1 : Int32)), .ref (q0 + 1)]) rfl ?_
        exact Rn.weak (ll_s (ll_s (ll_s (ll_s (ll_n ll_e))))) (RX3_isBarred_b119 hd hR t0 p1 p2 p3 L64_1 (ti_sub p2 L32_1) (T3_7 t0) hb hk hq e)
      · rw [if_neg c_668] at e
        refine Rn.bt hT rfl rfl rfl (decide_eq_true (fun z => c_668 ((lc_e p_667 L64_0).mp z))) ?_
        refine Rn.n hT 1 (pc' := 119) (L' := [some (.ref q0), some (.int m1), some (.int m2), some (.int m3), some (.int m4)]) (st' := [.long (0 : Int64), .int (m2 - (1 : Int32)), .ref (q0 + 1)]) rfl ?_
        exact Rn.weak (ll_s (ll_s (ll_s (ll_s (ll_n ll_e))))) (RX3_isBarred_b119 hd hR t0 p1 p2 p3 L64_0 (ti_sub p2 L32_1) (T3_7 t0) hb hk hq e)
  · rw [if_neg c_665] at e
    refine Rn.bt hT rfl rfl rfl (decide_eq_true (fun z => c_665 ((ti_e p4 L32_3).mp z))) ?_
    exact Rn.weak (ll_s (ll_s (ll_s (ll_s (ll_s ll_e))))) (RX3_isBarred_b123 hd hR t0 p1 p2 p3 p4 hb hk hq e)
def FX3_isBarred_l4 (N : Nat) (q0 : Nat) (x1 : Int) (kx : iv_M → Int → Option (Int × iv_M)) : Nat → iv_M → Int → Int → Option (Int × iv_M)
  | 0, _, _, _ => none
  | n + 1, s, x2, x3 => (if (s q0 2) < 0 then none else (if 401 ≤ x3 then (kx s x2) else (if (s q0 2) < 0 then none else ((rd s ((s q0 2).toNat) 401 x3).bind fun v_654 => (if v_654 = 0 then (kx s x2) else (if (s q0 2) < 0 then none else ((rd s ((s q0 2).toNat) 401 x3).bind fun v_657 => (if v_657 < 20 then (FX3_isBarred_b84 N s q0 x1 x2 x3 v_657 (FX3_isBarred_l4 N q0 x1 kx n) kx) else (if 64 ≤ x2 then (FX3_isBarred_b84 N s q0 x1 x2 x3 v_657 (FX3_isBarred_l4 N q0 x1 kx n) kx) else (if v_657 < 100 then ((FX3_valueOf N s q0 (w32 (v_657 - 20)) x1).bind fun v_662 => (FX3_isBarred_b77 N s q0 x1 x2 x3 v_662 x2 (q0 + 1) (FX3_isBarred_l4 N q0 x1 kx n) kx)) else (FX3_isBarred_b77 N s q0 x1 x2 x3 (w32 (v_657 - 100)) x2 (q0 + 1) (FX3_isBarred_l4 N q0 x1 kx n) kx)))))))))))
set_option maxRecDepth 10000 in
set_option maxHeartbeats 4000000 in
theorem RX3_isBarred_l4 {d N nc Ls : Nat} {Xs : Nat → Int32} (hd : 2 ≤ d) {q0 : Nat} (t0 : T3 nc q0) {m1 : Int32} {x1 : Int} (p1 : m1.toInt = x1) {kx : iv_M → Int → Option (Int × iv_M)} {r : Int × iv_M} {Q : Option Value → iv_H → Prop} (hk : ∀ (h : iv_H) (s : iv_M) (hR : Rep nc Ls Xs h s) (m2 : Int32) (x2 : Int) (p2 : m2.toInt = x2), kx s x2 = some r → Rn d 64 (some .boolean) 164 [some (.ref q0), none, some (.int m2), none, none] [] h Q) (hq : ∀ (z : Int32) (h1 : iv_H), z.toInt = r.1 → Rep nc Ls Xs h1 r.2 → Q (some (.int z)) h1) : ∀ (n : Nat) (h : iv_H) (s : iv_M) (hR : Rep nc Ls Xs h s) (m2 : Int32) (x2 : Int) (p2 : m2.toInt = x2) (m3 : Int32) (x3 : Int) (p3 : m3.toInt = x3), FX3_isBarred_l4 N q0 x1 kx n s x2 x3 = some r → Rn d 64 (some .boolean) 4 [some (.ref q0), some (.int m1), some (.int m2), some (.int m3), none] [] h Q := by
  have hT := hX3_isBarred
  intro n
  induction n with
  | zero =>
    intro h s hR m2 x2 p2 m3 x3 p3 e
    rw [FX3_isBarred_l4] at e
    cases e
  | succ n ih =>
    intro h s hR m2 x2 p2 m3 x3 p3 e
    rw [FX3_isBarred_l4] at e
    refine Rn.n hT 2 (pc' := 6) (L' := [some (.ref q0), some (.int m1), some (.int m2), some (.int m3), none]) (st' := [.ref q0, .int m3]) rfl ?_
    refine Rn.hp hT rfl rfl (gN_hp (rp_gN (k := 2) hR (T3_o t0) rfl)) ?_
    by_cases c_650 : (s q0 2) < 0
    · rw [if_pos c_650] at e
      cases e
    · rw [if_neg c_650] at e
      have hv : rvo (s q0 ((2 : Nat) : Int)) = some ((s q0 2)).toNat := rvo_pos c_650
      rw [hv]
      clear hv
      show Rn d _ _ 9 [some (.ref q0), some (.int m1), some (.int m2), some (.int m3), none] [.ref ((s q0 2).toNat), .int m3] h Q
      obtain ⟨z_651, g_651, p_651⟩ : ∃ z : Int32, aL h ((s q0 2).toNat) = some z ∧ z.toInt = 401 := rp_aL hR (TR_a (ty_32 hR t0 c_650)) (Or.inl rfl) (TR_l (ty_32 hR t0 c_650))
      refine Rn.hp hT rfl rfl (aL_hp g_651) ?_
      by_cases c_652 : 401 ≤ x3
      · rw [if_pos c_652] at e
        refine Rn.bt hT rfl rfl rfl (decide_eq_true ((ti_le p_651 p3).mpr c_652)) ?_
        exact Rn.weak (ll_s (ll_n (ll_s (ll_n (ll_n ll_e))))) (hk h s hR m2 x2 p2 e)
      · rw [if_neg c_652] at e
        refine Rn.bf hT rfl rfl rfl (decide_eq_false (fun z => c_652 ((ti_le p_651 p3).mp z))) ?_
        refine Rn.n hT 1 (pc' := 14) (L' := [some (.ref q0), some (.int m1), some (.int m2), some (.int m3), none]) (st' := [.ref q0]) rfl ?_
        refine Rn.hp hT rfl rfl (gN_hp (rp_gN (k := 2) hR (T3_o t0) rfl)) ?_
        by_cases c_653 : (s q0 2) < 0
        · rw [if_pos c_653] at e
          cases e
        · rw [if_neg c_653] at e
          have hv : rvo (s q0 ((2 : Nat) : Int)) = some ((s q0 2)).toNat := rvo_pos c_653
          rw [hv]
          clear hv
          show Rn d _ _ 17 [some (.ref q0), some (.int m1), some (.int m2), some (.int m3), none] [.ref ((s q0 2).toNat)] h Q
          refine Rn.n hT 1 (pc' := 18) (L' := [some (.ref q0), some (.int m1), some (.int m2), some (.int m3), none]) (st' := [.int m3, .ref ((s q0 2).toNat)]) rfl ?_
          obtain ⟨v_654, e_654, e⟩ := Option.bind_eq_some_iff.mp e
          obtain ⟨z_654, g_654, p_654⟩ := rp_aI hR (TR_a (ty_32 hR t0 c_653)) (TR_l (ty_32 hR t0 c_653)) p3 e_654
          refine Rn.hp hT rfl rfl (aI_hp g_654) ?_
          by_cases c_655 : v_654 = 0
          · rw [if_pos c_655] at e
            refine Rn.bt hT rfl rfl rfl (decide_eq_true ((ti_e p_654 L32_0).mpr c_655)) ?_
            exact Rn.weak (ll_s (ll_n (ll_s (ll_n (ll_n ll_e))))) (hk h s hR m2 x2 p2 e)
          · rw [if_neg c_655] at e
            refine Rn.bf hT rfl rfl rfl (decide_eq_false (fun z => c_655 ((ti_e p_654 L32_0).mp z))) ?_
            refine Rn.n hT 1 (pc' := 23) (L' := [some (.ref q0), some (.int m1), some (.int m2), some (.int m3), none]) (st' := [.ref q0]) rfl ?_
            refine Rn.hp hT rfl rfl (gN_hp (rp_gN (k := 2) hR (T3_o t0) rfl)) ?_
            by_cases c_656 : (s q0 2) < 0
            · rw [if_pos c_656] at e
              cases e
            · rw [if_neg c_656] at e
              have hv : rvo (s q0 ((2 : Nat) : Int)) = some ((s q0 2)).toNat := rvo_pos c_656
              rw [hv]
              clear hv
              show Rn d _ _ 26 [some (.ref q0), some (.int m1), some (.int m2), some (.int m3), none] [.ref ((s q0 2).toNat)] h Q
              refine Rn.n hT 1 (pc' := 27) (L' := [some (.ref q0), some (.int m1), some (.int m2), some (.int m3), none]) (st' := [.int m3, .ref ((s q0 2).toNat)]) rfl ?_
              obtain ⟨v_657, e_657, e⟩ := Option.bind_eq_some_iff.mp e
              obtain ⟨z_657, g_657, p_657⟩ := rp_aI hR (TR_a (ty_32 hR t0 c_656)) (TR_l (ty_32 hR t0 c_656)) p3 e_657
              refine Rn.hp hT rfl rfl (aI_hp g_657) ?_
              refine Rn.n hT 3 (pc' := 34) (L' := [some (.ref q0), some (.int m1), some (.int m2), some (.int m3), some (.int z_657)]) (st' := [.int (20 : Int32), .int z_657]) rfl ?_
              by_cases c_658 : v_657 < 20
              · rw [if_pos c_658] at e
                refine Rn.bt hT rfl rfl rfl (decide_eq_true ((ti_l p_657 L32_20).mpr c_658)) ?_
                exact Rn.weak (ll_s (ll_s (ll_s (ll_s (ll_s ll_e))))) (RX3_isBarred_b84 hd hR t0 p1 p2 p3 p_657 ih hk hq e)
              · rw [if_neg c_658] at e
                refine Rn.bf hT rfl rfl rfl (decide_eq_false (fun z => c_658 ((ti_l p_657 L32_20).mp z))) ?_
                refine Rn.n hT 2 (pc' := 39) (L' := [some (.ref q0), some (.int m1), some (.int m2), some (.int m3), some (.int z_657)]) (st' := [.ref q0, .int m2]) rfl ?_
                refine Rn.hp hT rfl rfl (gR_hp (rp_gR hR (T3_o t0) rfl)) ?_
                obtain ⟨z_659, g_659, p_659⟩ : ∃ z : Int32, aL h (q0 + 1) = some z ∧ z.toInt = 64 := rp_aL hR (T3_7 t0) (Or.inr (Or.inl rfl)) (T3_7l t0)
                refine Rn.hp hT rfl rfl (aL_hp g_659) ?_
                by_cases c_660 : 64 ≤ x2
                · rw [if_pos c_660] at e
                  refine Rn.bt hT rfl rfl rfl (decide_eq_true ((ti_le p_659 p2).mpr c_660)) ?_
                  exact Rn.weak (ll_s (ll_s (ll_s (ll_s (ll_s ll_e))))) (RX3_isBarred_b84 hd hR t0 p1 p2 p3 p_657 ih hk hq e)
                · rw [if_neg c_660] at e
                  refine Rn.bf hT rfl rfl rfl (decide_eq_false (fun z => c_660 ((ti_le p_659 p2).mp z))) ?_
                  refine Rn.n hT 1 (pc' := 47) (L' := [some (.ref q0), some (.int m1), some (.int m2), some (.int m3), some (.int z_657)]) (st' := [.ref q0]) rfl ?_
                  refine Rn.hp hT rfl rfl (gR_hp (rp_gR hR (T3_o t0) rfl)) ?_
                  refine Rn.n hT 3 (pc' := 55) (L' := [some (.ref q0), some (.int m1), some (.int m2), some (.int m3), some (.int z_657)]) (st' := [.int (100 : Int32), .int z_657, .int m2, .ref (q0 + 1)]) rfl ?_
                  by_cases c_661 : v_657 < 100
                  · rw [if_pos c_661] at e
                    refine Rn.bt hT rfl rfl rfl (decide_eq_true ((ti_l p_657 L32_100).mpr c_661)) ?_
                    refine Rn.n hT 5 (pc' := 74) (L' := [some (.ref q0), some (.int m1), some (.int m2), some (.int m3), some (.int z_657)]) (st' := [.int m1, .int (z_657 - (20 : Int32)), .ref q0, .int m2, .ref (q0 + 1)]) rfl ?_
                    obtain ⟨v_662, e_662, e⟩ := Option.bind_eq_some_iff.mp e
                    refine Rn.call hT rfl rfl rfl (Nat.le_of_ble_eq_true rfl) (rcv_v gX3_valueOf (by omega) (rp_ck hR (T3_o t0))) (RX3_valueOf (by omega) hR t0 (ti_sub p_657 L32_20) p1 e_662 (fun z_662 p_662 => ?_))
                    show Rn d _ _ 77 [some (.ref q0), some (.int m1), some (.int m2), some (.int m3), some (.int z_657)] [.long z_662, .int m2, .ref (q0 + 1)] h Q
                    exact Rn.weak (ll_s (ll_s (ll_s (ll_s (ll_n ll_e))))) (RX3_isBarred_b77 hd hR t0 p1 p2 p3 p_662 p2 (T3_7 t0) ih hk hq e)
                  · rw [if_neg c_661] at e
                    refine Rn.bf hT rfl rfl rfl (decide_eq_false (fun z => c_661 ((ti_l p_657 L32_100).mp z))) ?_
                    refine Rn.n hT 5 (pc' := 77) (L' := [some (.ref q0), some (.int m1), some (.int m2), some (.int m3), some (.int z_657)]) (st' := [.long (((z_657 - (100 : Int32))).toInt64), .int m2, .ref (q0 + 1)]) rfl ?_
                    exact Rn.weak (ll_s (ll_s (ll_s (ll_s (ll_n ll_e))))) (RX3_isBarred_b77 hd hR t0 p1 p2 p3 (ti_j (ti_sub p_657 L32_100)) p2 (T3_7 t0) ih hk hq e)
def FX3_isBarred_b186 (N : Nat) (s : iv_M)  (xs0 : Int) : Option (Int × iv_M) := (if xs0 = 0 ∨ xs0 = 1 then some (xs0, s) else none)
set_option maxRecDepth 10000 in
set_option maxHeartbeats 4000000 in
theorem RX3_isBarred_b186 {d N nc Ls : Nat} {Xs : Nat → Int32} (hd : 2 ≤ d) {h : iv_H} {s : iv_M} (hR : Rep nc Ls Xs h s)  {ms0 : Int32} {xs0 : Int} (ps0 : ms0.toInt = xs0) {r : Int × iv_M} {Q : Option Value → iv_H → Prop} (hq : ∀ (z : Int32) (h1 : iv_H), z.toInt = r.1 → Rep nc Ls Xs h1 r.2 → Q (some (.int z)) h1) (e : FX3_isBarred_b186 N s  xs0 = some r) : Rn d 64 (some .boolean) 186 [none, none, none, none, none] [.int ms0] h Q := by
  have hT := hX3_isBarred
  unfold FX3_isBarred_b186 at e
  by_cases c_680 : xs0 = 0 ∨ xs0 = 1
  · rw [if_pos c_680] at e
    obtain rfl := Option.some.inj e
    exact Rn.ret hT rfl rfl (if_pos (ti_b ps0 c_680)) (hq ms0 h ps0 hR)
  · rw [if_neg c_680] at e
    cases e
def FX3_isBarred_b185 (N : Nat) (s : iv_M)   : Option (Int × iv_M) := (FX3_isBarred_b186 N s 0)
set_option maxRecDepth 10000 in
set_option maxHeartbeats 4000000 in
theorem RX3_isBarred_b185 {d N nc Ls : Nat} {Xs : Nat → Int32} (hd : 2 ≤ d) {h : iv_H} {s : iv_M} (hR : Rep nc Ls Xs h s)   {r : Int × iv_M} {Q : Option Value → iv_H → Prop} (hq : ∀ (z : Int32) (h1 : iv_H), z.toInt = r.1 → Rep nc Ls Xs h1 r.2 → Q (some (.int z)) h1) (e : FX3_isBarred_b185 N s   = some r) : Rn d 64 (some .boolean) 185 [none, none, none, none, none] [] h Q := by
  have hT := hX3_isBarred
  unfold FX3_isBarred_b185 at e
  refine Rn.n hT 1 (pc' := 186) (L' := [none, none, none, none, none]) (st' := [.int (0 : Int32)]) rfl ?_
  exact Rn.weak (ll_n (ll_n (ll_n (ll_n (ll_n ll_e))))) (RX3_isBarred_b186 hd hR L32_0 hq e)
def FX3_isBarred_b164 (N : Nat) (s : iv_M) (q0 : Nat) (x2 : Int)  : Option (Int × iv_M) := (if x2 ≤ 0 then (FX3_isBarred_b185 N s) else ((rd s (q0 + 1) 64 (w32 (x2 - 1))).bind fun v_678 => (if v_678 = 0 then (FX3_isBarred_b185 N s) else (FX3_isBarred_b186 N s 1))))
set_option maxRecDepth 10000 in
set_option maxHeartbeats 4000000 in
theorem RX3_isBarred_b164 {d N nc Ls : Nat} {Xs : Nat → Int32} (hd : 2 ≤ d) {h : iv_H} {s : iv_M} (hR : Rep nc Ls Xs h s) {q0 : Nat} (t0 : T3 nc q0) {m2 : Int32} {x2 : Int} (p2 : m2.toInt = x2)  {r : Int × iv_M} {Q : Option Value → iv_H → Prop} (hq : ∀ (z : Int32) (h1 : iv_H), z.toInt = r.1 → Rep nc Ls Xs h1 r.2 → Q (some (.int z)) h1) (e : FX3_isBarred_b164 N s q0 x2  = some r) : Rn d 64 (some .boolean) 164 [some (.ref q0), none, some (.int m2), none, none] [] h Q := by
  have hT := hX3_isBarred
  unfold FX3_isBarred_b164 at e
  refine Rn.n hT 1 (pc' := 165) (L' := [some (.ref q0), none, some (.int m2), none, none]) (st' := [.int m2]) rfl ?_
  by_cases c_677 : x2 ≤ 0
  · rw [if_pos c_677] at e
    refine Rn.bt hT rfl rfl rfl (decide_eq_true ((ti_le p2 L32_0).mpr c_677)) ?_
    exact Rn.weak (ll_n (ll_n (ll_n (ll_n (ll_n ll_e))))) (RX3_isBarred_b185 hd hR hq e)
  · rw [if_neg c_677] at e
    refine Rn.bf hT rfl rfl rfl (decide_eq_false (fun z => c_677 ((ti_le p2 L32_0).mp z))) ?_
    refine Rn.n hT 1 (pc' := 169) (L' := [some (.ref q0), none, some (.int m2), none, none]) (st' := [.ref q0]) rfl ?_
    refine Rn.hp hT rfl rfl (gR_hp (rp_gR hR (T3_o t0) rfl)) ?_
    refine Rn.n hT 3 (pc' := 175) (L' := [some (.ref q0), none, some (.int m2), none, none]) (st' := [.int (m2 - (1 : Int32)), .ref (q0 + 1)]) rfl ?_
    obtain ⟨v_678, e_678, e⟩ := Option.bind_eq_some_iff.mp e
    obtain ⟨z_678, g_678, p_678⟩ := rp_aJ hR (T3_7 t0) (T3_7l t0) (ti_sub p2 L32_1) e_678
    refine Rn.hp hT rfl rfl (aJ_hp g_678) ?_
    refine Rn.n hT 2 (pc' := 178) (L' := [some (.ref q0), none, some (.int m2), none, none]) (st' := [.int (lg_cmp z_678 (0 : Int64))]) rfl ?_
    by_cases c_679 : v_678 = 0
    · rw [if_pos c_679] at e
      refine Rn.bt hT rfl rfl rfl (decide_eq_true ((lc_e p_678 L64_0).mpr c_679)) ?_
      exact Rn.weak (ll_n (ll_n (ll_n (ll_n (ll_n ll_e))))) (RX3_isBarred_b185 hd hR hq e)
    · rw [if_neg c_679] at e
      refine Rn.bf hT rfl rfl rfl (decide_eq_false (fun z => c_679 ((lc_e p_678 L64_0).mp z))) ?_
      refine Rn.n hT 2 (pc' := 186) (L' := [some (.ref q0), none, some (.int m2), none, none]) (st' := [.int (1 : Int32)]) rfl ?_
      exact Rn.weak (ll_n (ll_n (ll_n (ll_n (ll_n ll_e))))) (RX3_isBarred_b186 hd hR L32_1 hq e)
def FX3_isBarred (N : Nat) (s : iv_M) (q0 : Nat) (x1 : Int) : Option (Int × iv_M) := (FX3_isBarred_l4 N q0 x1 (fun (s_648 : iv_M) (x649_2 : Int) => (FX3_isBarred_b164 N s_648 q0 x649_2)) N s 0 0)
set_option maxRecDepth 10000 in
set_option maxHeartbeats 4000000 in
theorem RX3_isBarred {d N nc Ls : Nat} {Xs : Nat → Int32} (hd : 3 ≤ d) {h : iv_H} {s : iv_M} (hR : Rep nc Ls Xs h s) {q0 : Nat} (t0 : T3 nc q0) {m1 : Int32} {x1 : Int} (p1 : m1.toInt = x1) {r : Int × iv_M} {Q : Option Value → iv_H → Prop} (e : FX3_isBarred N s q0 x1 = some r) (hq : ∀ (z : Int32) (h1 : iv_H), z.toInt = r.1 → Rep nc Ls Xs h1 r.2 → Q (some (.int z)) h1) : Cl d 64 [.ref q0, .int m1] h Q := by
  obtain ⟨d, rfl⟩ : ∃ k, d = k + 1 := ⟨d - 1, by omega⟩
  have hd : 2 ≤ d := by omega
  have hT := hX3_isBarred
  unfold FX3_isBarred at e
  refine Cl.into (by decide) gX3_isBarred rfl ?_
  show Rn d 64 (some .boolean) 0 [some (.ref q0), some (.int m1), none, none, none] [] h Q
  refine Rn.n hT 4 (pc' := 4) (L' := [some (.ref q0), some (.int m1), some (.int (0 : Int32)), some (.int (0 : Int32)), none]) (st' := []) rfl ?_
  refine Rn.weak (ll_s (ll_s (ll_s (ll_s (ll_n ll_e))))) (RX3_isBarred_l4 hd t0 p1 (fun h_648 s_648 R_648 m649_2 x649_2 p649_2 e => ?_) hq N h s hR (0 : Int32) 0 L32_0 (0 : Int32) 0 L32_0 e)
  try dsimp only at e
  exact Rn.weak (ll_s (ll_n (ll_s (ll_n (ll_n ll_e))))) (RX3_isBarred_b164 hd R_648 t0 p649_2 hq e)
set_option maxRecDepth 10000 in
theorem hX3_broken : iv_Tb 62 tX3_broken := iv_tb_of (m := mX3_broken) rfl
set_option maxRecDepth 10000 in
theorem gX3_broken : PG.2 62 = some mX3_broken := iv_pi_of (t := tX3_broken) rfl (by decide)
def FX3_broken_b14 (N : Nat) (s : iv_M)   : Option (Int × iv_M) := (some (1, s))
set_option maxRecDepth 10000 in
set_option maxHeartbeats 4000000 in
theorem RX3_broken_b14 {d N nc Ls : Nat} {Xs : Nat → Int32} (hd : 3 ≤ d) {h : iv_H} {s : iv_M} (hR : Rep nc Ls Xs h s)   {r : Int × iv_M} {Q : Option Value → iv_H → Prop} (hq : ∀ (z : Int32) (h1 : iv_H), z.toInt = r.1 → Rep nc Ls Xs h1 r.2 → Q (some (.int z)) h1) (e : FX3_broken_b14 N s   = some r) : Rn d 62 (some .int) 14 [none, none, none, none, none] [] h Q := by
  have hT := hX3_broken
  unfold FX3_broken_b14 at e
  refine Rn.n hT 1 (pc' := 15) (L' := [none, none, none, none, none]) (st' := [.int (1 : Int32)]) rfl ?_
  obtain rfl := Option.some.inj e
  exact Rn.ret hT rfl rfl rfl (hq (1 : Int32) h L32_1 hR)
def FX3_broken_b82 (N : Nat) (s : iv_M)   : Option (Int × iv_M) := (some (1, s))
set_option maxRecDepth 10000 in
set_option maxHeartbeats 4000000 in
theorem RX3_broken_b82 {d N nc Ls : Nat} {Xs : Nat → Int32} (hd : 3 ≤ d) {h : iv_H} {s : iv_M} (hR : Rep nc Ls Xs h s)   {r : Int × iv_M} {Q : Option Value → iv_H → Prop} (hq : ∀ (z : Int32) (h1 : iv_H), z.toInt = r.1 → Rep nc Ls Xs h1 r.2 → Q (some (.int z)) h1) (e : FX3_broken_b82 N s   = some r) : Rn d 62 (some .int) 82 [none, none, none, none, none] [] h Q := by
  have hT := hX3_broken
  unfold FX3_broken_b82 at e
  refine Rn.n hT 1 (pc' := 83) (L' := [none, none, none, none, none]) (st' := [.int (1 : Int32)]) rfl ?_
  obtain rfl := Option.some.inj e
  exact Rn.ret hT rfl rfl rfl (hq (1 : Int32) h L32_1 hR)
def FX3_broken_b163 (N : Nat) (s : iv_M)   : Option (Int × iv_M) := (some (3, s))
set_option maxRecDepth 10000 in
set_option maxHeartbeats 4000000 in
theorem RX3_broken_b163 {d N nc Ls : Nat} {Xs : Nat → Int32} (hd : 3 ≤ d) {h : iv_H} {s : iv_M} (hR : Rep nc Ls Xs h s)   {r : Int × iv_M} {Q : Option Value → iv_H → Prop} (hq : ∀ (z : Int32) (h1 : iv_H), z.toInt = r.1 → Rep nc Ls Xs h1 r.2 → Q (some (.int z)) h1) (e : FX3_broken_b163 N s   = some r) : Rn d 62 (some .int) 163 [none, none, none, none, none] [] h Q := by
  have hT := hX3_broken
  unfold FX3_broken_b163 at e
  refine Rn.n hT 1 (pc' := 164) (L' := [none, none, none, none, none]) (st' := [.int (3 : Int32)]) rfl ?_
  obtain rfl := Option.some.inj e
  exact Rn.ret hT rfl rfl rfl (hq (3 : Int32) h L32_3 hR)
def FX3_broken_b185 (N : Nat) (s : iv_M)  (xs0 : Int) : Option (Int × iv_M) := (some (xs0, s))
set_option maxRecDepth 10000 in
set_option maxHeartbeats 4000000 in
theorem RX3_broken_b185 {d N nc Ls : Nat} {Xs : Nat → Int32} (hd : 3 ≤ d) {h : iv_H} {s : iv_M} (hR : Rep nc Ls Xs h s)  {ms0 : Int32} {xs0 : Int} (ps0 : ms0.toInt = xs0) {r : Int × iv_M} {Q : Option Value → iv_H → Prop} (hq : ∀ (z : Int32) (h1 : iv_H), z.toInt = r.1 → Rep nc Ls Xs h1 r.2 → Q (some (.int z)) h1) (e : FX3_broken_b185 N s  xs0 = some r) : Rn d 62 (some .int) 185 [none, none, none, none, none] [.int ms0] h Q := by
  have hT := hX3_broken
  unfold FX3_broken_b185 at e
  obtain rfl := Option.some.inj e
  exact Rn.ret hT rfl rfl rfl (hq ms0 h ps0 hR)
def FX3_broken_b184 (N : Nat) (s : iv_M)   : Option (Int × iv_M) := (FX3_broken_b185 N s 0)
set_option maxRecDepth 10000 in
set_option maxHeartbeats 4000000 in
theorem RX3_broken_b184 {d N nc Ls : Nat} {Xs : Nat → Int32} (hd : 3 ≤ d) {h : iv_H} {s : iv_M} (hR : Rep nc Ls Xs h s)   {r : Int × iv_M} {Q : Option Value → iv_H → Prop} (hq : ∀ (z : Int32) (h1 : iv_H), z.toInt = r.1 → Rep nc Ls Xs h1 r.2 → Q (some (.int z)) h1) (e : FX3_broken_b184 N s   = some r) : Rn d 62 (some .int) 184 [none, none, none, none, none] [] h Q := by
  have hT := hX3_broken
  unfold FX3_broken_b184 at e
  refine Rn.n hT 1 (pc' := 185) (L' := [none, none, none, none, none]) (st' := [.int (0 : Int32)]) rfl ?_
  exact Rn.weak (ll_n (ll_n (ll_n (ll_n (ll_n ll_e))))) (RX3_broken_b185 hd hR L32_0 hq e)
def FX3_broken_b165 (N : Nat) (s : iv_M) (q0 : Nat) (x1 : Int)  : Option (Int × iv_M) := (if (s q0 2) < 0 then (FX3_broken_b184 N s) else ((FX3_isBarred N s q0 x1).bind fun r_716 => (fun (v_716 : Int) (s_717 : iv_M) => (if v_716 = 0 then (FX3_broken_b184 N s_717) else (FX3_broken_b185 N s_717 4))) r_716.1 r_716.2))
set_option maxRecDepth 10000 in
set_option maxHeartbeats 4000000 in
theorem RX3_broken_b165 {d N nc Ls : Nat} {Xs : Nat → Int32} (hd : 3 ≤ d) {h : iv_H} {s : iv_M} (hR : Rep nc Ls Xs h s) {q0 : Nat} (t0 : T3 nc q0) {m1 : Int32} {x1 : Int} (p1 : m1.toInt = x1)  {r : Int × iv_M} {Q : Option Value → iv_H → Prop} (hq : ∀ (z : Int32) (h1 : iv_H), z.toInt = r.1 → Rep nc Ls Xs h1 r.2 → Q (some (.int z)) h1) (e : FX3_broken_b165 N s q0 x1  = some r) : Rn d 62 (some .int) 165 [some (.ref q0), some (.int m1), none, none, none] [] h Q := by
  have hT := hX3_broken
  unfold FX3_broken_b165 at e
  refine Rn.n hT 1 (pc' := 166) (L' := [some (.ref q0), some (.int m1), none, none, none]) (st' := [.ref q0]) rfl ?_
  refine Rn.hp hT rfl rfl (gN_hp (rp_gN (k := 2) hR (T3_o t0) rfl)) ?_
  by_cases c_715 : (s q0 2) < 0
  · rw [if_pos c_715] at e
    have hv : rvo (s q0 ((2 : Nat) : Int)) = none := rvo_neg c_715
    rw [hv]
    clear hv
    show Rn d _ _ 169 [some (.ref q0), some (.int m1), none, none, none] [.null] h Q
    refine Rn.bt hT rfl rfl rfl rfl ?_
    exact Rn.weak (ll_n (ll_n (ll_n (ll_n (ll_n ll_e))))) (RX3_broken_b184 hd hR hq e)
  · rw [if_neg c_715] at e
    have hv : rvo (s q0 ((2 : Nat) : Int)) = some ((s q0 2)).toNat := rvo_pos c_715
    rw [hv]
    clear hv
    show Rn d _ _ 169 [some (.ref q0), some (.int m1), none, none, none] [.ref ((s q0 2).toNat)] h Q
    refine Rn.bf hT rfl rfl rfl rfl ?_
    refine Rn.n hT 2 (pc' := 174) (L' := [some (.ref q0), some (.int m1), none, none, none]) (st' := [.int m1, .ref q0]) rfl ?_
    obtain ⟨⟨v_716, s_717⟩, e_716, e⟩ := Option.bind_eq_some_iff.mp e
    try dsimp only at e
    try dsimp only at e
    refine Rn.call hT rfl rfl rfl (Nat.le_of_ble_eq_true rfl) (rcv_v gX3_isBarred (by omega) (rp_ck hR (T3_o t0))) (RX3_isBarred (by omega) hR t0 p1 e_716 (fun z_716 h_717 p_716 R_717 => ?_))
    show Rn d _ _ 177 [some (.ref q0), some (.int m1), none, none, none] [.int z_716] h_717 Q
    by_cases c_718 : v_716 = 0
    · rw [if_pos c_718] at e
      refine Rn.bt hT rfl rfl rfl (decide_eq_true ((ti_e p_716 L32_0).mpr c_718)) ?_
      exact Rn.weak (ll_n (ll_n (ll_n (ll_n (ll_n ll_e))))) (RX3_broken_b184 hd R_717 hq e)
    · rw [if_neg c_718] at e
      refine Rn.bf hT rfl rfl rfl (decide_eq_false (fun z => c_718 ((ti_e p_716 L32_0).mp z))) ?_
      refine Rn.n hT 2 (pc' := 185) (L' := [some (.ref q0), some (.int m1), none, none, none]) (st' := [.int (4 : Int32)]) rfl ?_
      exact Rn.weak (ll_n (ll_n (ll_n (ll_n (ll_n ll_e))))) (RX3_broken_b185 hd R_717 L32_4 hq e)
def FX3_broken_b145 (N : Nat) (s : iv_M) (q0 : Nat) (x1 : Int)  : Option (Int × iv_M) := (if (s q0 0) < 0 then none else (if (s ((s q0 0).toNat) 4) = 2 then (if (s q0 6) ≤ 0 then (FX3_broken_b165 N s q0 x1) else (FX3_broken_b163 N s)) else (FX3_broken_b165 N s q0 x1)))
set_option maxRecDepth 10000 in
set_option maxHeartbeats 4000000 in
theorem RX3_broken_b145 {d N nc Ls : Nat} {Xs : Nat → Int32} (hd : 3 ≤ d) {h : iv_H} {s : iv_M} (hR : Rep nc Ls Xs h s) {q0 : Nat} (t0 : T3 nc q0) {m1 : Int32} {x1 : Int} (p1 : m1.toInt = x1)  {r : Int × iv_M} {Q : Option Value → iv_H → Prop} (hq : ∀ (z : Int32) (h1 : iv_H), z.toInt = r.1 → Rep nc Ls Xs h1 r.2 → Q (some (.int z)) h1) (e : FX3_broken_b145 N s q0 x1  = some r) : Rn d 62 (some .int) 145 [some (.ref q0), some (.int m1), none, none, none] [] h Q := by
  have hT := hX3_broken
  unfold FX3_broken_b145 at e
  refine Rn.n hT 1 (pc' := 146) (L' := [some (.ref q0), some (.int m1), none, none, none]) (st' := [.ref q0]) rfl ?_
  refine Rn.hp hT rfl rfl (gN_hp (rp_gN (k := 0) hR (T3_o t0) rfl)) ?_
  by_cases c_710 : (s q0 0) < 0
  · rw [if_pos c_710] at e
    cases e
  · rw [if_neg c_710] at e
    have hv : rvo (s q0 ((0 : Nat) : Int)) = some ((s q0 0)).toNat := rvo_pos c_710
    rw [hv]
    clear hv
    show Rn d _ _ 149 [some (.ref q0), some (.int m1), none, none, none] [.ref ((s q0 0).toNat)] h Q
    obtain ⟨z_711, g_711, p_711⟩ : ∃ z : Int32, gI h 2 4 ((s q0 0).toNat) = some z ∧ z.toInt = s ((s q0 0).toNat) 4 := rp_gI (k := 4) hR (T2_o (ty_30 hR t0 c_710)) rfl
    refine Rn.hp hT rfl rfl (gI_hp g_711) ?_
    refine Rn.n hT 1 (pc' := 153) (L' := [some (.ref q0), some (.int m1), none, none, none]) (st' := [.int (2 : Int32), .int z_711]) rfl ?_
    by_cases c_712 : (s ((s q0 0).toNat) 4) = 2
    · rw [if_pos c_712] at e
      refine Rn.bf hT rfl rfl rfl (decide_eq_false (fun z => z ((ti_e p_711 L32_2).mpr c_712))) ?_
      refine Rn.n hT 1 (pc' := 157) (L' := [some (.ref q0), some (.int m1), none, none, none]) (st' := [.ref q0]) rfl ?_
      obtain ⟨z_713, g_713, p_713⟩ : ∃ z : Int32, gI h 3 6 q0 = some z ∧ z.toInt = s q0 6 := rp_gI (k := 6) hR (T3_o t0) rfl
      refine Rn.hp hT rfl rfl (gI_hp g_713) ?_
      by_cases c_714 : (s q0 6) ≤ 0
      · rw [if_pos c_714] at e
        refine Rn.bt hT rfl rfl rfl (decide_eq_true ((ti_le p_713 L32_0).mpr c_714)) ?_
        exact Rn.weak (ll_s (ll_s (ll_n (ll_n (ll_n ll_e))))) (RX3_broken_b165 hd hR t0 p1 hq e)
      · rw [if_neg c_714] at e
        refine Rn.bf hT rfl rfl rfl (decide_eq_false (fun z => c_714 ((ti_le p_713 L32_0).mp z))) ?_
        exact Rn.weak (ll_n (ll_n (ll_n (ll_n (ll_n ll_e))))) (RX3_broken_b163 hd hR hq e)
    · rw [if_neg c_712] at e
      refine Rn.bt hT rfl rfl rfl (decide_eq_true (fun z => c_712 ((ti_e p_711 L32_2).mp z))) ?_
      exact Rn.weak (ll_s (ll_s (ll_n (ll_n (ll_n ll_e))))) (RX3_broken_b165 hd hR t0 p1 hq e)
def FX3_broken_b41 (N : Nat) (s : iv_M) (q0 : Nat) (x1 : Int) (x2 : Int) (x3 : Int) (xs0 : Int) : Option (Int × iv_M) := (if (s q0 0) < 0 then none else (if (bAn (sr32 (s ((s q0 0).toNat) 1) (w32 (x2 - 1))) 1) = 0 then (FX3_broken_b82 N s) else (if (s q0 0) < 0 then none else ((FX2_isFixed N s ((s q0 0).toNat) x3).bind fun v_688 => (if v_688 = 0 then (if (s q0 0) < 0 then none else ((FX2_isFixed N s ((s q0 0).toNat) xs0).bind fun v_691 => (if v_691 = 0 then (if (s q0 1) < 0 then none else ((FX1_canGo N s ((s q0 1).toNat) x1).bind fun v_694 => (if v_694 = 0 then (some (2, s)) else (if (s q0 3) = 0 then (some (0, s)) else (if (s q0 1) < 0 then none else ((FX1_gain N s ((s q0 1).toNat) x1).bind fun r_700 => (fun (v_700 : Int) (s_701 : iv_M) => ((pt s_701 q0 6 (w32 ((s q0 5) + v_700))).bind fun s_702 => (if (s_702 q0 0) < 0 then none else (if (s_702 ((s_702 q0 0).toNat) 4) = 1 then (if (s_702 q0 5) < (s_702 q0 6) then (FX3_broken_b163 N s_702) else (FX3_broken_b145 N s_702 q0 x1)) else (FX3_broken_b145 N s_702 q0 x1))))) r_700.1 r_700.2)))))) else (FX3_broken_b82 N s)))) else (FX3_broken_b82 N s))))))
set_option maxRecDepth 10000 in
set_option maxHeartbeats 4000000 in
theorem RX3_broken_b41 {d N nc Ls : Nat} {Xs : Nat → Int32} (hd : 3 ≤ d) {h : iv_H} {s : iv_M} (hR : Rep nc Ls Xs h s) {q0 : Nat} (t0 : T3 nc q0) {m1 : Int32} {x1 : Int} (p1 : m1.toInt = x1) {m2 : Int32} {x2 : Int} (p2 : m2.toInt = x2) {m3 : Int32} {x3 : Int} (p3 : m3.toInt = x3) {ms0 : Int32} {xs0 : Int} (ps0 : ms0.toInt = xs0) {r : Int × iv_M} {Q : Option Value → iv_H → Prop} (hq : ∀ (z : Int32) (h1 : iv_H), z.toInt = r.1 → Rep nc Ls Xs h1 r.2 → Q (some (.int z)) h1) (e : FX3_broken_b41 N s q0 x1 x2 x3 xs0 = some r) : Rn d 62 (some .int) 41 [some (.ref q0), some (.int m1), some (.int m2), some (.int m3), none] [.int ms0] h Q := by
  have hT := hX3_broken
  unfold FX3_broken_b41 at e
  refine Rn.n hT 2 (pc' := 44) (L' := [some (.ref q0), some (.int m1), some (.int m2), some (.int m3), some (.int ms0)]) (st' := [.ref q0]) rfl ?_
  refine Rn.hp hT rfl rfl (gN_hp (rp_gN (k := 0) hR (T3_o t0) rfl)) ?_
  by_cases c_684 : (s q0 0) < 0
  · rw [if_pos c_684] at e
    cases e
  · rw [if_neg c_684] at e
    have hv : rvo (s q0 ((0 : Nat) : Int)) = some ((s q0 0)).toNat := rvo_pos c_684
    rw [hv]
    clear hv
    show Rn d _ _ 47 [some (.ref q0), some (.int m1), some (.int m2), some (.int m3), some (.int ms0)] [.ref ((s q0 0).toNat)] h Q
    obtain ⟨z_685, g_685, p_685⟩ : ∃ z : Int32, gI h 2 1 ((s q0 0).toNat) = some z ∧ z.toInt = s ((s q0 0).toNat) 1 := rp_gI (k := 1) hR (T2_o (ty_30 hR t0 c_684)) rfl
    refine Rn.hp hT rfl rfl (gI_hp g_685) ?_
    refine Rn.n hT 6 (pc' := 56) (L' := [some (.ref q0), some (.int m1), some (.int m2), some (.int m3), some (.int ms0)]) (st' := [.int ((z_685 >>> ((m2 - (1 : Int32)) &&& 31)) &&& (1 : Int32))]) rfl ?_
    by_cases c_686 : (bAn (sr32 (s ((s q0 0).toNat) 1) (w32 (x2 - 1))) 1) = 0
    · rw [if_pos c_686] at e
      refine Rn.bt hT rfl rfl rfl (decide_eq_true ((ti_e (ti_and (ti_shr p_685 (ti_sub p2 L32_1)) L32_1) L32_0).mpr c_686)) ?_
      exact Rn.weak (ll_n (ll_n (ll_n (ll_n (ll_n ll_e))))) (RX3_broken_b82 hd hR hq e)
    · rw [if_neg c_686] at e
      refine Rn.bf hT rfl rfl rfl (decide_eq_false (fun z => c_686 ((ti_e (ti_and (ti_shr p_685 (ti_sub p2 L32_1)) L32_1) L32_0).mp z))) ?_
      refine Rn.n hT 1 (pc' := 60) (L' := [some (.ref q0), some (.int m1), some (.int m2), some (.int m3), some (.int ms0)]) (st' := [.ref q0]) rfl ?_
      refine Rn.hp hT rfl rfl (gN_hp (rp_gN (k := 0) hR (T3_o t0) rfl)) ?_
      by_cases c_687 : (s q0 0) < 0
      · rw [if_pos c_687] at e
        cases e
      · rw [if_neg c_687] at e
        have hv : rvo (s q0 ((0 : Nat) : Int)) = some ((s q0 0)).toNat := rvo_pos c_687
        rw [hv]
        clear hv
        show Rn d _ _ 63 [some (.ref q0), some (.int m1), some (.int m2), some (.int m3), some (.int ms0)] [.ref ((s q0 0).toNat)] h Q
        refine Rn.n hT 1 (pc' := 64) (L' := [some (.ref q0), some (.int m1), some (.int m2), some (.int m3), some (.int ms0)]) (st' := [.int m3, .ref ((s q0 0).toNat)]) rfl ?_
        obtain ⟨v_688, e_688, e⟩ := Option.bind_eq_some_iff.mp e
        refine Rn.call hT rfl rfl rfl (Nat.le_of_ble_eq_true rfl) (rcv_v gX2_isFixed (by omega) (rp_ck hR (T2_o (ty_30 hR t0 c_687)))) (RX2_isFixed (by omega) hR (ty_30 hR t0 c_687) p3 e_688 (fun z_688 p_688 => ?_))
        show Rn d _ _ 67 [some (.ref q0), some (.int m1), some (.int m2), some (.int m3), some (.int ms0)] [.int z_688] h Q
        by_cases c_689 : v_688 = 0
        · rw [if_pos c_689] at e
          refine Rn.bf hT rfl rfl rfl (decide_eq_false (fun z => z ((ti_e p_688 L32_0).mpr c_689))) ?_
          refine Rn.n hT 1 (pc' := 71) (L' := [some (.ref q0), some (.int m1), some (.int m2), some (.int m3), some (.int ms0)]) (st' := [.ref q0]) rfl ?_
          refine Rn.hp hT rfl rfl (gN_hp (rp_gN (k := 0) hR (T3_o t0) rfl)) ?_
          by_cases c_690 : (s q0 0) < 0
          · rw [if_pos c_690] at e
            cases e
          · rw [if_neg c_690] at e
            have hv : rvo (s q0 ((0 : Nat) : Int)) = some ((s q0 0)).toNat := rvo_pos c_690
            rw [hv]
            clear hv
            show Rn d _ _ 74 [some (.ref q0), some (.int m1), some (.int m2), some (.int m3), some (.int ms0)] [.ref ((s q0 0).toNat)] h Q
            refine Rn.n hT 1 (pc' := 76) (L' := [some (.ref q0), some (.int m1), some (.int m2), some (.int m3), some (.int ms0)]) (st' := [.int ms0, .ref ((s q0 0).toNat)]) rfl ?_
            obtain ⟨v_691, e_691, e⟩ := Option.bind_eq_some_iff.mp e
            refine Rn.call hT rfl rfl rfl (Nat.le_of_ble_eq_true rfl) (rcv_v gX2_isFixed (by omega) (rp_ck hR (T2_o (ty_30 hR t0 c_690)))) (RX2_isFixed (by omega) hR (ty_30 hR t0 c_690) ps0 e_691 (fun z_691 p_691 => ?_))
            show Rn d _ _ 79 [some (.ref q0), some (.int m1), some (.int m2), some (.int m3), some (.int ms0)] [.int z_691] h Q
            by_cases c_692 : v_691 = 0
            · rw [if_pos c_692] at e
              refine Rn.bt hT rfl rfl rfl (decide_eq_true ((ti_e p_691 L32_0).mpr c_692)) ?_
              refine Rn.n hT 1 (pc' := 85) (L' := [some (.ref q0), some (.int m1), some (.int m2), some (.int m3), some (.int ms0)]) (st' := [.ref q0]) rfl ?_
              refine Rn.hp hT rfl rfl (gN_hp (rp_gN (k := 1) hR (T3_o t0) rfl)) ?_
              by_cases c_693 : (s q0 1) < 0
              · rw [if_pos c_693] at e
                cases e
              · rw [if_neg c_693] at e
                have hv : rvo (s q0 ((1 : Nat) : Int)) = some ((s q0 1)).toNat := rvo_pos c_693
                rw [hv]
                clear hv
                show Rn d _ _ 88 [some (.ref q0), some (.int m1), some (.int m2), some (.int m3), some (.int ms0)] [.ref ((s q0 1).toNat)] h Q
                refine Rn.n hT 1 (pc' := 89) (L' := [some (.ref q0), some (.int m1), some (.int m2), some (.int m3), some (.int ms0)]) (st' := [.int m1, .ref ((s q0 1).toNat)]) rfl ?_
                obtain ⟨v_694, e_694, e⟩ := Option.bind_eq_some_iff.mp e
                refine Rn.call hT rfl rfl rfl (Nat.le_of_ble_eq_true rfl) (rcv_v gX1_canGo (by omega) (rp_ck hR (T1_o (ty_31 hR t0 c_693)))) (RX1_canGo (by omega) hR (ty_31 hR t0 c_693) p1 e_694 (fun z_694 p_694 => ?_))
                show Rn d _ _ 92 [some (.ref q0), some (.int m1), some (.int m2), some (.int m3), some (.int ms0)] [.int z_694] h Q
                by_cases c_695 : v_694 = 0
                · rw [if_pos c_695] at e
                  refine Rn.bf hT rfl rfl rfl (decide_eq_false (fun z => z ((ti_e p_694 L32_0).mpr c_695))) ?_
                  refine Rn.n hT 1 (pc' := 96) (L' := [some (.ref q0), some (.int m1), some (.int m2), some (.int m3), some (.int ms0)]) (st' := [.int (2 : Int32)]) rfl ?_
                  obtain rfl := Option.some.inj e
                  exact Rn.ret hT rfl rfl rfl (hq (2 : Int32) h L32_2 hR)
                · rw [if_neg c_695] at e
                  refine Rn.bt hT rfl rfl rfl (decide_eq_true (fun z => c_695 ((ti_e p_694 L32_0).mp z))) ?_
                  refine Rn.n hT 1 (pc' := 98) (L' := [some (.ref q0), some (.int m1), some (.int m2), some (.int m3), some (.int ms0)]) (st' := [.ref q0]) rfl ?_
                  obtain ⟨z_696, g_696, p_696⟩ : ∃ z : Int32, gI h 3 3 q0 = some z ∧ z.toInt = s q0 3 := rp_gI (k := 3) hR (T3_o t0) rfl
                  refine Rn.hp hT rfl rfl (gI_hp g_696) ?_
                  by_cases c_697 : (s q0 3) = 0
                  · rw [if_pos c_697] at e
                    refine Rn.bf hT rfl rfl rfl (decide_eq_false (fun z => z ((ti_e p_696 L32_0).mpr c_697))) ?_
                    refine Rn.n hT 1 (pc' := 105) (L' := [some (.ref q0), some (.int m1), some (.int m2), some (.int m3), some (.int ms0)]) (st' := [.int (0 : Int32)]) rfl ?_
                    obtain rfl := Option.some.inj e
                    exact Rn.ret hT rfl rfl rfl (hq (0 : Int32) h L32_0 hR)
                  · rw [if_neg c_697] at e
                    refine Rn.bt hT rfl rfl rfl (decide_eq_true (fun z => c_697 ((ti_e p_696 L32_0).mp z))) ?_
                    refine Rn.n hT 2 (pc' := 108) (L' := [some (.ref q0), some (.int m1), some (.int m2), some (.int m3), some (.int ms0)]) (st' := [.ref q0, .ref q0]) rfl ?_
                    obtain ⟨z_698, g_698, p_698⟩ : ∃ z : Int32, gI h 3 5 q0 = some z ∧ z.toInt = s q0 5 := rp_gI (k := 5) hR (T3_o t0) rfl
                    refine Rn.hp hT rfl rfl (gI_hp g_698) ?_
                    refine Rn.n hT 1 (pc' := 112) (L' := [some (.ref q0), some (.int m1), some (.int m2), some (.int m3), some (.int ms0)]) (st' := [.ref q0, .int z_698, .ref q0]) rfl ?_
                    refine Rn.hp hT rfl rfl (gN_hp (rp_gN (k := 1) hR (T3_o t0) rfl)) ?_
                    by_cases c_699 : (s q0 1) < 0
                    · rw [if_pos c_699] at e
                      cases e
                    · rw [if_neg c_699] at e
                      have hv : rvo (s q0 ((1 : Nat) : Int)) = some ((s q0 1)).toNat := rvo_pos c_699
                      rw [hv]
                      clear hv
                      show Rn d _ _ 115 [some (.ref q0), some (.int m1), some (.int m2), some (.int m3), some (.int ms0)] [.ref ((s q0 1).toNat), .int z_698, .ref q0] h Q
                      refine Rn.n hT 1 (pc' := 116) (L' := [some (.ref q0), some (.int m1), some (.int m2), some (.int m3), some (.int ms0)]) (st' := [.int m1, .ref ((s q0 1).toNat), .int z_698, .ref q0]) rfl ?_
                      obtain ⟨⟨v_700, s_701⟩, e_700, e⟩ := Option.bind_eq_some_iff.mp e
                      try dsimp only at e
                      try dsimp only at e
                      refine Rn.call hT rfl rfl rfl (Nat.le_of_ble_eq_true rfl) (rcv_v gX1_gain (by omega) (rp_ck hR (T1_o (ty_31 hR t0 c_699)))) (RX1_gain (by omega) hR (ty_31 hR t0 c_699) p1 e_700 (fun z_700 h_701 p_700 R_701 => ?_))
                      show Rn d _ _ 119 [some (.ref q0), some (.int m1), some (.int m2), some (.int m3), some (.int ms0)] [.int z_700, .int z_698, .ref q0] h_701 Q
                      refine Rn.n hT 1 (pc' := 120) (L' := [some (.ref q0), some (.int m1), some (.int m2), some (.int m3), some (.int ms0)]) (st' := [.int (z_698 + z_700), .ref q0]) rfl ?_
                      obtain ⟨s_702, e_703, e⟩ := Option.bind_eq_some_iff.mp e
                      obtain ⟨h_702, g_703, R_702⟩ := rp_pI (ci := 3) (k := 6) R_701 (T3_o t0) rfl rfl (ti_add p_698 p_700) e_703
                      refine Rn.hp hT rfl rfl (pV_hp rfl g_703) ?_
                      refine Rn.n hT 1 (pc' := 124) (L' := [some (.ref q0), some (.int m1), some (.int m2), some (.int m3), some (.int ms0)]) (st' := [.ref q0]) rfl ?_
                      refine Rn.hp hT rfl rfl (gN_hp (rp_gN (k := 0) R_702 (T3_o t0) rfl)) ?_
                      by_cases c_704 : (s_702 q0 0) < 0
                      · rw [if_pos c_704] at e
                        cases e
                      · rw [if_neg c_704] at e
                        have hv : rvo (s_702 q0 ((0 : Nat) : Int)) = some ((s_702 q0 0)).toNat := rvo_pos c_704
                        rw [hv]
                        clear hv
                        show Rn d _ _ 127 [some (.ref q0), some (.int m1), some (.int m2), some (.int m3), some (.int ms0)] [.ref ((s_702 q0 0).toNat)] h_702 Q
                        obtain ⟨z_705, g_705, p_705⟩ : ∃ z : Int32, gI h_702 2 4 ((s_702 q0 0).toNat) = some z ∧ z.toInt = s_702 ((s_702 q0 0).toNat) 4 := rp_gI (k := 4) R_702 (T2_o (ty_30 R_702 t0 c_704)) rfl
                        refine Rn.hp hT rfl rfl (gI_hp g_705) ?_
                        refine Rn.n hT 1 (pc' := 131) (L' := [some (.ref q0), some (.int m1), some (.int m2), some (.int m3), some (.int ms0)]) (st' := [.int (1 : Int32), .int z_705]) rfl ?_
                        by_cases c_706 : (s_702 ((s_702 q0 0).toNat) 4) = 1
                        · rw [if_pos c_706] at e
                          refine Rn.bf hT rfl rfl rfl (decide_eq_false (fun z => z ((ti_e p_705 L32_1).mpr c_706))) ?_
                          refine Rn.n hT 1 (pc' := 135) (L' := [some (.ref q0), some (.int m1), some (.int m2), some (.int m3), some (.int ms0)]) (st' := [.ref q0]) rfl ?_
                          obtain ⟨z_707, g_707, p_707⟩ : ∃ z : Int32, gI h_702 3 6 q0 = some z ∧ z.toInt = s_702 q0 6 := rp_gI (k := 6) R_702 (T3_o t0) rfl
                          refine Rn.hp hT rfl rfl (gI_hp g_707) ?_
                          refine Rn.n hT 1 (pc' := 139) (L' := [some (.ref q0), some (.int m1), some (.int m2), some (.int m3), some (.int ms0)]) (st' := [.ref q0, .int z_707]) rfl ?_
                          obtain ⟨z_708, g_708, p_708⟩ : ∃ z : Int32, gI h_702 3 5 q0 = some z ∧ z.toInt = s_702 q0 5 := rp_gI (k := 5) R_702 (T3_o t0) rfl
                          refine Rn.hp hT rfl rfl (gI_hp g_708) ?_
                          by_cases c_709 : (s_702 q0 5) < (s_702 q0 6)
                          · rw [if_pos c_709] at e
                            refine Rn.bt hT rfl rfl rfl (decide_eq_true ((ti_l p_708 p_707).mpr c_709)) ?_
                            exact Rn.weak (ll_n (ll_n (ll_n (ll_n (ll_n ll_e))))) (RX3_broken_b163 hd R_702 hq e)
                          · rw [if_neg c_709] at e
                            refine Rn.bf hT rfl rfl rfl (decide_eq_false (fun z => c_709 ((ti_l p_708 p_707).mp z))) ?_
                            exact Rn.weak (ll_s (ll_s (ll_n (ll_n (ll_n ll_e))))) (RX3_broken_b145 hd R_702 t0 p1 hq e)
                        · rw [if_neg c_706] at e
                          refine Rn.bt hT rfl rfl rfl (decide_eq_true (fun z => c_706 ((ti_e p_705 L32_1).mp z))) ?_
                          exact Rn.weak (ll_s (ll_s (ll_n (ll_n (ll_n ll_e))))) (RX3_broken_b145 hd R_702 t0 p1 hq e)
            · rw [if_neg c_692] at e
              refine Rn.bf hT rfl rfl rfl (decide_eq_false (fun z => c_692 ((ti_e p_691 L32_0).mp z))) ?_
              exact Rn.weak (ll_n (ll_n (ll_n (ll_n (ll_n ll_e))))) (RX3_broken_b82 hd hR hq e)
        · rw [if_neg c_689] at e
          refine Rn.bt hT rfl rfl rfl (decide_eq_true (fun z => c_689 ((ti_e p_688 L32_0).mp z))) ?_
          exact Rn.weak (ll_n (ll_n (ll_n (ll_n (ll_n ll_e))))) (RX3_broken_b82 hd hR hq e)
def FX3_broken (N : Nat) (s : iv_M) (q0 : Nat) (x1 : Int) : Option (Int × iv_M) := (if (s q0 0) < 0 then (FX3_broken_b14 N s) else (if (s q0 1) < 0 then (FX3_broken_b14 N s) else (if (sr32 x1 8) = 2 then (FX3_broken_b41 N s q0 x1 (sr32 x1 8) (bAn (sr32 x1 4) 15) (bAn x1 15)) else (FX3_broken_b41 N s q0 x1 (sr32 x1 8) (bAn (sr32 x1 4) 15) (bAn (sr32 x1 4) 15)))))
set_option maxRecDepth 10000 in
set_option maxHeartbeats 4000000 in
theorem RX3_broken {d N nc Ls : Nat} {Xs : Nat → Int32} (hd : 4 ≤ d) {h : iv_H} {s : iv_M} (hR : Rep nc Ls Xs h s) {q0 : Nat} (t0 : T3 nc q0) {m1 : Int32} {x1 : Int} (p1 : m1.toInt = x1) {r : Int × iv_M} {Q : Option Value → iv_H → Prop} (e : FX3_broken N s q0 x1 = some r) (hq : ∀ (z : Int32) (h1 : iv_H), z.toInt = r.1 → Rep nc Ls Xs h1 r.2 → Q (some (.int z)) h1) : Cl d 62 [.ref q0, .int m1] h Q := by
  obtain ⟨d, rfl⟩ : ∃ k, d = k + 1 := ⟨d - 1, by omega⟩
  have hd : 3 ≤ d := by omega
  have hT := hX3_broken
  unfold FX3_broken at e
  refine Cl.into (by decide) gX3_broken rfl ?_
  show Rn d 62 (some .int) 0 [some (.ref q0), some (.int m1), none, none, none] [] h Q
  refine Rn.n hT 1 (pc' := 1) (L' := [some (.ref q0), some (.int m1), none, none, none]) (st' := [.ref q0]) rfl ?_
  refine Rn.hp hT rfl rfl (gN_hp (rp_gN (k := 0) hR (T3_o t0) rfl)) ?_
  by_cases c_681 : (s q0 0) < 0
  · rw [if_pos c_681] at e
    have hv : rvo (s q0 ((0 : Nat) : Int)) = none := rvo_neg c_681
    rw [hv]
    clear hv
    show Rn d _ _ 4 [some (.ref q0), some (.int m1), none, none, none] [.null] h Q
    refine Rn.bt hT rfl rfl rfl rfl ?_
    exact Rn.weak (ll_n (ll_n (ll_n (ll_n (ll_n ll_e))))) (RX3_broken_b14 hd hR hq e)
  · rw [if_neg c_681] at e
    have hv : rvo (s q0 ((0 : Nat) : Int)) = some ((s q0 0)).toNat := rvo_pos c_681
    rw [hv]
    clear hv
    show Rn d _ _ 4 [some (.ref q0), some (.int m1), none, none, none] [.ref ((s q0 0).toNat)] h Q
    refine Rn.bf hT rfl rfl rfl rfl ?_
    refine Rn.n hT 1 (pc' := 8) (L' := [some (.ref q0), some (.int m1), none, none, none]) (st' := [.ref q0]) rfl ?_
    refine Rn.hp hT rfl rfl (gN_hp (rp_gN (k := 1) hR (T3_o t0) rfl)) ?_
    by_cases c_682 : (s q0 1) < 0
    · rw [if_pos c_682] at e
      have hv : rvo (s q0 ((1 : Nat) : Int)) = none := rvo_neg c_682
      rw [hv]
      clear hv
      show Rn d _ _ 11 [some (.ref q0), some (.int m1), none, none, none] [.null] h Q
      refine Rn.bf hT rfl rfl rfl rfl ?_
      exact Rn.weak (ll_n (ll_n (ll_n (ll_n (ll_n ll_e))))) (RX3_broken_b14 hd hR hq e)
    · rw [if_neg c_682] at e
      have hv : rvo (s q0 ((1 : Nat) : Int)) = some ((s q0 1)).toNat := rvo_pos c_682
      rw [hv]
      clear hv
      show Rn d _ _ 11 [some (.ref q0), some (.int m1), none, none, none] [.ref ((s q0 1).toNat)] h Q
      refine Rn.bt hT rfl rfl rfl rfl ?_
      refine Rn.n hT 12 (pc' := 30) (L' := [some (.ref q0), some (.int m1), some (.int (m1 >>> ((8 : Int32) &&& 31))), some (.int ((m1 >>> ((4 : Int32) &&& 31)) &&& (15 : Int32))), none]) (st' := [.int (2 : Int32), .int (m1 >>> ((8 : Int32) &&& 31))]) rfl ?_
      by_cases c_683 : (sr32 x1 8) = 2
      · rw [if_pos c_683] at e
        refine Rn.bf hT rfl rfl rfl (decide_eq_false (fun z => z ((ti_e (ti_shr p1 L32_8) L32_2).mpr c_683))) ?_
        refine Rn.n hT 4 (pc' := 41) (L' := [some (.ref q0), some (.int m1), some (.int (m1 >>> ((8 : Int32) &&& 31))), some (.int ((m1 >>> ((4 : Int32) &&& 31)) &&& (15 : Int32))), none]) (st' := [.int (m1 &&& (15 : Int32))]) rfl ?_
        exact Rn.weak (ll_s (ll_s (ll_s (ll_s (ll_n ll_e))))) (RX3_broken_b41 hd hR t0 p1 (ti_shr p1 L32_8) (ti_and (ti_shr p1 L32_4) L32_15) (ti_and p1 L32_15) hq e)
      · rw [if_neg c_683] at e
        refine Rn.bt hT rfl rfl rfl (decide_eq_true (fun z => c_683 ((ti_e (ti_shr p1 L32_8) L32_2).mp z))) ?_
        refine Rn.n hT 1 (pc' := 41) (L' := [some (.ref q0), some (.int m1), some (.int (m1 >>> ((8 : Int32) &&& 31))), some (.int ((m1 >>> ((4 : Int32) &&& 31)) &&& (15 : Int32))), none]) (st' := [.int ((m1 >>> ((4 : Int32) &&& 31)) &&& (15 : Int32))]) rfl ?_
        exact Rn.weak (ll_s (ll_s (ll_s (ll_s (ll_n ll_e))))) (RX3_broken_b41 hd hR t0 p1 (ti_shr p1 L32_8) (ti_and (ti_shr p1 L32_4) L32_15) (ti_and (ti_shr p1 L32_4) L32_15) hq e)
set_option maxRecDepth 10000 in
theorem hX3_list : iv_Tb 63 tX3_list := iv_tb_of (m := mX3_list) rfl
set_option maxRecDepth 10000 in
theorem gX3_list : PG.2 63 = some mX3_list := iv_pi_of (t := tX3_list) rfl (by decide)
def FX3_list_b75 (N : Nat) (s : iv_M) (q0 : Nat) (q1 : Nat) (x2 : Int) (x3 : Int) (x4 : Int) (x5 : Int)  (kb : iv_M → Int → Int → Option (Int × iv_M)) (kx : iv_M → Int → Option (Int × iv_M)) : Option (Int × iv_M) := (kb s x3 (w32 (x5 + 1)))
set_option maxRecDepth 10000 in
set_option maxHeartbeats 4000000 in
theorem RX3_list_b75 {d N nc Ls : Nat} {Xs : Nat → Int32} (hd : 4 ≤ d) {h : iv_H} {s : iv_M} (hR : Rep nc Ls Xs h s) {q0 : Nat} (t0 : T3 nc q0) {q1 : Nat} (t1 : TA 0 nc q1) {m2 : Int32} {x2 : Int} (p2 : m2.toInt = x2) {m3 : Int32} {x3 : Int} (p3 : m3.toInt = x3) {m4 : Int32} {x4 : Int} (p4 : m4.toInt = x4) {m5 : Int32} {x5 : Int} (p5 : m5.toInt = x5)  {kb : iv_M → Int → Int → Option (Int × iv_M)} {kx : iv_M → Int → Option (Int × iv_M)} {r : Int × iv_M} {Q : Option Value → iv_H → Prop} (hb : ∀ (h : iv_H) (s : iv_M) (hR : Rep nc Ls Xs h s) (mw3 : Int32) (xw3 : Int) (pw3 : mw3.toInt = xw3) (mw5 : Int32) (xw5 : Int) (pw5 : mw5.toInt = xw5), kb s xw3 xw5 = some r → Rn d 63 (some .int) 33 [some (.ref q0), some (.ref q1), some (.int m2), some (.int mw3), some (.int m4), some (.int mw5), none] [] h Q) (hk : ∀ (h : iv_H) (s : iv_M) (hR : Rep nc Ls Xs h s) (mw3 : Int32) (xw3 : Int) (pw3 : mw3.toInt = xw3), kx s xw3 = some r → Rn d 63 (some .int) 81 [some (.ref q0), some (.ref q1), some (.int m2), some (.int mw3), some (.int m4), none, none] [] h Q) (hq : ∀ (z : Int32) (h1 : iv_H), z.toInt = r.1 → Rep nc Ls Xs h1 r.2 → Q (some (.int z)) h1) (e : FX3_list_b75 N s q0 q1 x2 x3 x4 x5  kb kx = some r) : Rn d 63 (some .int) 75 [some (.ref q0), some (.ref q1), some (.int m2), some (.int m3), some (.int m4), some (.int m5), none] [] h Q := by
  have hT := hX3_list
  unfold FX3_list_b75 at e
  refine Rn.n hT 2 (pc' := 33) (L' := [some (.ref q0), some (.ref q1), some (.int m2), some (.int m3), some (.int m4), some (.int (m5 + (1 : Int32))), none]) (st' := []) rfl ?_
  exact Rn.weak (ll_s (ll_s (ll_s (ll_s (ll_s (ll_s (ll_n ll_e))))))) (hb h s hR m3 x3 p3 (m5 + (1 : Int32)) (w32 (x5 + 1)) (ti_add p5 L32_1) e)
def FX3_list_l33 (N : Nat) (q0 : Nat) (q1 : Nat) (x2 : Int) (x4 : Int) (kx : iv_M → Int → Option (Int × iv_M)) : Nat → iv_M → Int → Int → Option (Int × iv_M)
  | 0, _, _, _ => none
  | n + 1, s, x3, x5 => (if 4 ≤ x5 then (kx s x3) else ((FX3_broken N s q0 (bOr (bOr 256 (sl32 x4 4)) x5)).bind fun r_732 => (fun (v_732 : Int) (s_733 : iv_M) => (if v_732 = 0 then (if ((sh q1).2 : Int) ≤ x3 then (FX3_list_b75 N s_733 q0 q1 x2 x3 x4 x5 (FX3_list_l33 N q0 q1 x2 x4 kx n) kx) else ((wr s_733 q1 ((sh q1).2 : Int) x3 (bOr (bOr 256 (sl32 x4 4)) x5)).bind fun s_737 => (FX3_list_b75 N s_737 q0 q1 x2 (w32 (x3 + 1)) x4 x5 (FX3_list_l33 N q0 q1 x2 x4 kx n) kx))) else (FX3_list_b75 N s_733 q0 q1 x2 x3 x4 x5 (FX3_list_l33 N q0 q1 x2 x4 kx n) kx))) r_732.1 r_732.2))
set_option maxRecDepth 10000 in
set_option maxHeartbeats 4000000 in
theorem RX3_list_l33 {d N nc Ls : Nat} {Xs : Nat → Int32} (hd : 4 ≤ d) {q0 : Nat} (t0 : T3 nc q0) {q1 : Nat} (t1 : TA 0 nc q1) {m2 : Int32} {x2 : Int} (p2 : m2.toInt = x2) {m4 : Int32} {x4 : Int} (p4 : m4.toInt = x4) {kx : iv_M → Int → Option (Int × iv_M)} {r : Int × iv_M} {Q : Option Value → iv_H → Prop} (hk : ∀ (h : iv_H) (s : iv_M) (hR : Rep nc Ls Xs h s) (m3 : Int32) (x3 : Int) (p3 : m3.toInt = x3), kx s x3 = some r → Rn d 63 (some .int) 81 [some (.ref q0), some (.ref q1), some (.int m2), some (.int m3), some (.int m4), none, none] [] h Q) (hq : ∀ (z : Int32) (h1 : iv_H), z.toInt = r.1 → Rep nc Ls Xs h1 r.2 → Q (some (.int z)) h1) : ∀ (n : Nat) (h : iv_H) (s : iv_M) (hR : Rep nc Ls Xs h s) (m3 : Int32) (x3 : Int) (p3 : m3.toInt = x3) (m5 : Int32) (x5 : Int) (p5 : m5.toInt = x5), FX3_list_l33 N q0 q1 x2 x4 kx n s x3 x5 = some r → Rn d 63 (some .int) 33 [some (.ref q0), some (.ref q1), some (.int m2), some (.int m3), some (.int m4), some (.int m5), none] [] h Q := by
  have hT := hX3_list
  intro n
  induction n with
  | zero =>
    intro h s hR m3 x3 p3 m5 x5 p5 e
    rw [FX3_list_l33] at e
    cases e
  | succ n ih =>
    intro h s hR m3 x3 p3 m5 x5 p5 e
    rw [FX3_list_l33] at e
    refine Rn.n hT 2 (pc' := 36) (L' := [some (.ref q0), some (.ref q1), some (.int m2), some (.int m3), some (.int m4), some (.int m5), none]) (st' := [.int (4 : Int32), .int m5]) rfl ?_
    by_cases c_731 : 4 ≤ x5
    · rw [if_pos c_731] at e
      refine Rn.bt hT rfl rfl rfl (decide_eq_true ((ti_le L32_4 p5).mpr c_731)) ?_
      exact Rn.weak (ll_s (ll_s (ll_s (ll_s (ll_s (ll_n (ll_n ll_e))))))) (hk h s hR m3 x3 p3 e)
    · rw [if_neg c_731] at e
      refine Rn.bf hT rfl rfl rfl (decide_eq_false (fun z => c_731 ((ti_le L32_4 p5).mp z))) ?_
      refine Rn.n hT 10 (pc' := 55) (L' := [some (.ref q0), some (.ref q1), some (.int m2), some (.int m3), some (.int m4), some (.int m5), some (.int (((256 : Int32) ||| (m4 <<< ((4 : Int32) &&& 31))) ||| m5))]) (st' := [.int (((256 : Int32) ||| (m4 <<< ((4 : Int32) &&& 31))) ||| m5), .ref q0]) rfl ?_
      obtain ⟨⟨v_732, s_733⟩, e_732, e⟩ := Option.bind_eq_some_iff.mp e
      try dsimp only at e
      try dsimp only at e
      refine Rn.call hT rfl rfl rfl (Nat.le_of_ble_eq_true rfl) (rcv_v gX3_broken (by omega) (rp_ck hR (T3_o t0))) (RX3_broken (by omega) hR t0 (ti_or (ti_or L32_256 (ti_shl p4 L32_4)) p5) e_732 (fun z_732 h_733 p_732 R_733 => ?_))
      show Rn d _ _ 58 [some (.ref q0), some (.ref q1), some (.int m2), some (.int m3), some (.int m4), some (.int m5), some (.int (((256 : Int32) ||| (m4 <<< ((4 : Int32) &&& 31))) ||| m5))] [.int z_732] h_733 Q
      by_cases c_734 : v_732 = 0
      · rw [if_pos c_734] at e
        refine Rn.bf hT rfl rfl rfl (decide_eq_false (fun z => z ((ti_e p_732 L32_0).mpr c_734))) ?_
        refine Rn.n hT 2 (pc' := 63) (L' := [some (.ref q0), some (.ref q1), some (.int m2), some (.int m3), some (.int m4), some (.int m5), some (.int (((256 : Int32) ||| (m4 <<< ((4 : Int32) &&& 31))) ||| m5))]) (st' := [.ref q1, .int m3]) rfl ?_
        obtain ⟨z_735, g_735, p_735⟩ : ∃ z : Int32, aL h_733 q1 = some z ∧ z.toInt = ((sh q1).2 : Int) := rp_aL R_733 t1 (Or.inl rfl) rfl
        refine Rn.hp hT rfl rfl (aL_hp g_735) ?_
        by_cases c_736 : ((sh q1).2 : Int) ≤ x3
        · rw [if_pos c_736] at e
          refine Rn.bt hT rfl rfl rfl (decide_eq_true ((ti_le p_735 p3).mpr c_736)) ?_
          exact Rn.weak (ll_s (ll_s (ll_s (ll_s (ll_s (ll_s (ll_n ll_e))))))) (RX3_list_b75 hd R_733 t0 t1 p2 p3 p4 p5 ih hk hq e)
        · rw [if_neg c_736] at e
          refine Rn.bf hT rfl rfl rfl (decide_eq_false (fun z => c_736 ((ti_le p_735 p3).mp z))) ?_
          refine Rn.n hT 3 (pc' := 71) (L' := [some (.ref q0), some (.ref q1), some (.int m2), some (.int m3), some (.int m4), some (.int m5), some (.int (((256 : Int32) ||| (m4 <<< ((4 : Int32) &&& 31))) ||| m5))]) (st' := [.int (((256 : Int32) ||| (m4 <<< ((4 : Int32) &&& 31))) ||| m5), .int m3, .ref q1]) rfl ?_
          obtain ⟨s_737, e_738, e⟩ := Option.bind_eq_some_iff.mp e
          obtain ⟨h_737, g_738, R_737⟩ := rp_wI R_733 t1 rfl p3 (ti_or (ti_or L32_256 (ti_shl p4 L32_4)) p5) e_738
          refine Rn.hp hT rfl rfl (wI_hp g_738) ?_
          refine Rn.n hT 1 (pc' := 75) (L' := [some (.ref q0), some (.ref q1), some (.int m2), some (.int (m3 + (1 : Int32))), some (.int m4), some (.int m5), some (.int (((256 : Int32) ||| (m4 <<< ((4 : Int32) &&& 31))) ||| m5))]) (st' := []) rfl ?_
          exact Rn.weak (ll_s (ll_s (ll_s (ll_s (ll_s (ll_s (ll_n ll_e))))))) (RX3_list_b75 hd R_737 t0 t1 p2 (ti_add p3 L32_1) p4 p5 ih hk hq e)
      · rw [if_neg c_734] at e
        refine Rn.bt hT rfl rfl rfl (decide_eq_true (fun z => c_734 ((ti_e p_732 L32_0).mp z))) ?_
        exact Rn.weak (ll_s (ll_s (ll_s (ll_s (ll_s (ll_s (ll_n ll_e))))))) (RX3_list_b75 hd R_733 t0 t1 p2 p3 p4 p5 ih hk hq e)
def FX3_list_l24 (N : Nat) (q0 : Nat) (q1 : Nat) (x2 : Int) (kx : iv_M → Int → Option (Int × iv_M)) : Nat → iv_M → Int → Int → Option (Int × iv_M)
  | 0, _, _, _ => none
  | n + 1, s, x3, x4 => (if x2 ≤ x4 then (kx s x3) else (FX3_list_l33 N q0 q1 x2 x4 (fun (s_729 : iv_M) (x730_3 : Int) => (FX3_list_l24 N q0 q1 x2 kx n s_729 x730_3 (w32 (x4 + 1)))) N s x3 0))
set_option maxRecDepth 10000 in
set_option maxHeartbeats 4000000 in
theorem RX3_list_l24 {d N nc Ls : Nat} {Xs : Nat → Int32} (hd : 4 ≤ d) {q0 : Nat} (t0 : T3 nc q0) {q1 : Nat} (t1 : TA 0 nc q1) {m2 : Int32} {x2 : Int} (p2 : m2.toInt = x2) {kx : iv_M → Int → Option (Int × iv_M)} {r : Int × iv_M} {Q : Option Value → iv_H → Prop} (hk : ∀ (h : iv_H) (s : iv_M) (hR : Rep nc Ls Xs h s) (m3 : Int32) (x3 : Int) (p3 : m3.toInt = x3), kx s x3 = some r → Rn d 63 (some .int) 87 [some (.ref q0), some (.ref q1), some (.int m2), some (.int m3), none, none, none] [] h Q) (hq : ∀ (z : Int32) (h1 : iv_H), z.toInt = r.1 → Rep nc Ls Xs h1 r.2 → Q (some (.int z)) h1) : ∀ (n : Nat) (h : iv_H) (s : iv_M) (hR : Rep nc Ls Xs h s) (m3 : Int32) (x3 : Int) (p3 : m3.toInt = x3) (m4 : Int32) (x4 : Int) (p4 : m4.toInt = x4), FX3_list_l24 N q0 q1 x2 kx n s x3 x4 = some r → Rn d 63 (some .int) 24 [some (.ref q0), some (.ref q1), some (.int m2), some (.int m3), some (.int m4), none, none] [] h Q := by
  have hT := hX3_list
  intro n
  induction n with
  | zero =>
    intro h s hR m3 x3 p3 m4 x4 p4 e
    rw [FX3_list_l24] at e
    cases e
  | succ n ih =>
    intro h s hR m3 x3 p3 m4 x4 p4 e
    rw [FX3_list_l24] at e
    refine Rn.n hT 2 (pc' := 27) (L' := [some (.ref q0), some (.ref q1), some (.int m2), some (.int m3), some (.int m4), none, none]) (st' := [.int m2, .int m4]) rfl ?_
    by_cases c_728 : x2 ≤ x4
    · rw [if_pos c_728] at e
      refine Rn.bt hT rfl rfl rfl (decide_eq_true ((ti_le p2 p4).mpr c_728)) ?_
      exact Rn.weak (ll_s (ll_s (ll_s (ll_s (ll_n (ll_n (ll_n ll_e))))))) (hk h s hR m3 x3 p3 e)
    · rw [if_neg c_728] at e
      refine Rn.bf hT rfl rfl rfl (decide_eq_false (fun z => c_728 ((ti_le p2 p4).mp z))) ?_
      refine Rn.n hT 2 (pc' := 33) (L' := [some (.ref q0), some (.ref q1), some (.int m2), some (.int m3), some (.int m4), some (.int (0 : Int32)), none]) (st' := []) rfl ?_
      refine Rn.weak (ll_s (ll_s (ll_s (ll_s (ll_s (ll_s (ll_n ll_e))))))) (RX3_list_l33 hd t0 t1 p2 p4 (fun h_729 s_729 R_729 m730_3 x730_3 p730_3 e => ?_) hq N h s hR m3 x3 p3 (0 : Int32) 0 L32_0 e)
      try dsimp only at e
      refine Rn.n hT 2 (pc' := 24) (L' := [some (.ref q0), some (.ref q1), some (.int m2), some (.int m730_3), some (.int (m4 + (1 : Int32))), none, none]) (st' := []) rfl ?_
      exact Rn.weak (ll_s (ll_s (ll_s (ll_s (ll_s (ll_n (ll_n ll_e))))))) (ih h_729 s_729 R_729 m730_3 x730_3 p730_3 (m4 + (1 : Int32)) (w32 (x4 + 1)) (ti_add p4 L32_1) e)
def FX3_list_b144 (N : Nat) (s : iv_M) (q0 : Nat) (q1 : Nat) (x2 : Int) (x3 : Int) (x4 : Int) (x5 : Int)  (kb : iv_M → Int → Int → Option (Int × iv_M)) (kx : iv_M → Int → Option (Int × iv_M)) : Option (Int × iv_M) := (kb s x3 (w32 (x5 + 1)))
set_option maxRecDepth 10000 in
set_option maxHeartbeats 4000000 in
theorem RX3_list_b144 {d N nc Ls : Nat} {Xs : Nat → Int32} (hd : 4 ≤ d) {h : iv_H} {s : iv_M} (hR : Rep nc Ls Xs h s) {q0 : Nat} (t0 : T3 nc q0) {q1 : Nat} (t1 : TA 0 nc q1) {m2 : Int32} {x2 : Int} (p2 : m2.toInt = x2) {m3 : Int32} {x3 : Int} (p3 : m3.toInt = x3) {m4 : Int32} {x4 : Int} (p4 : m4.toInt = x4) {m5 : Int32} {x5 : Int} (p5 : m5.toInt = x5)  {kb : iv_M → Int → Int → Option (Int × iv_M)} {kx : iv_M → Int → Option (Int × iv_M)} {r : Int × iv_M} {Q : Option Value → iv_H → Prop} (hb : ∀ (h : iv_H) (s : iv_M) (hR : Rep nc Ls Xs h s) (mw3 : Int32) (xw3 : Int) (pw3 : mw3.toInt = xw3) (mw5 : Int32) (xw5 : Int) (pw5 : mw5.toInt = xw5), kb s xw3 xw5 = some r → Rn d 63 (some .int) 102 [some (.ref q0), some (.ref q1), some (.int m2), some (.int mw3), some (.int m4), some (.int mw5), none] [] h Q) (hk : ∀ (h : iv_H) (s : iv_M) (hR : Rep nc Ls Xs h s) (mw3 : Int32) (xw3 : Int) (pw3 : mw3.toInt = xw3), kx s xw3 = some r → Rn d 63 (some .int) 150 [some (.ref q0), some (.ref q1), some (.int m2), some (.int mw3), some (.int m4), none, none] [] h Q) (hq : ∀ (z : Int32) (h1 : iv_H), z.toInt = r.1 → Rep nc Ls Xs h1 r.2 → Q (some (.int z)) h1) (e : FX3_list_b144 N s q0 q1 x2 x3 x4 x5  kb kx = some r) : Rn d 63 (some .int) 144 [some (.ref q0), some (.ref q1), some (.int m2), some (.int m3), some (.int m4), some (.int m5), none] [] h Q := by
  have hT := hX3_list
  unfold FX3_list_b144 at e
  refine Rn.n hT 2 (pc' := 102) (L' := [some (.ref q0), some (.ref q1), some (.int m2), some (.int m3), some (.int m4), some (.int (m5 + (1 : Int32))), none]) (st' := []) rfl ?_
  exact Rn.weak (ll_s (ll_s (ll_s (ll_s (ll_s (ll_s (ll_n ll_e))))))) (hb h s hR m3 x3 p3 (m5 + (1 : Int32)) (w32 (x5 + 1)) (ti_add p5 L32_1) e)
def FX3_list_l102 (N : Nat) (q0 : Nat) (q1 : Nat) (x2 : Int) (x4 : Int) (kx : iv_M → Int → Option (Int × iv_M)) : Nat → iv_M → Int → Int → Option (Int × iv_M)
  | 0, _, _, _ => none
  | n + 1, s, x3, x5 => (if x2 ≤ x5 then (kx s x3) else ((FX3_broken N s q0 (bOr (bOr 512 (sl32 x4 4)) x5)).bind fun r_743 => (fun (v_743 : Int) (s_744 : iv_M) => (if v_743 = 0 then (if ((sh q1).2 : Int) ≤ x3 then (FX3_list_b144 N s_744 q0 q1 x2 x3 x4 x5 (FX3_list_l102 N q0 q1 x2 x4 kx n) kx) else ((wr s_744 q1 ((sh q1).2 : Int) x3 (bOr (bOr 512 (sl32 x4 4)) x5)).bind fun s_748 => (FX3_list_b144 N s_748 q0 q1 x2 (w32 (x3 + 1)) x4 x5 (FX3_list_l102 N q0 q1 x2 x4 kx n) kx))) else (FX3_list_b144 N s_744 q0 q1 x2 x3 x4 x5 (FX3_list_l102 N q0 q1 x2 x4 kx n) kx))) r_743.1 r_743.2))
set_option maxRecDepth 10000 in
set_option maxHeartbeats 4000000 in
theorem RX3_list_l102 {d N nc Ls : Nat} {Xs : Nat → Int32} (hd : 4 ≤ d) {q0 : Nat} (t0 : T3 nc q0) {q1 : Nat} (t1 : TA 0 nc q1) {m2 : Int32} {x2 : Int} (p2 : m2.toInt = x2) {m4 : Int32} {x4 : Int} (p4 : m4.toInt = x4) {kx : iv_M → Int → Option (Int × iv_M)} {r : Int × iv_M} {Q : Option Value → iv_H → Prop} (hk : ∀ (h : iv_H) (s : iv_M) (hR : Rep nc Ls Xs h s) (m3 : Int32) (x3 : Int) (p3 : m3.toInt = x3), kx s x3 = some r → Rn d 63 (some .int) 150 [some (.ref q0), some (.ref q1), some (.int m2), some (.int m3), some (.int m4), none, none] [] h Q) (hq : ∀ (z : Int32) (h1 : iv_H), z.toInt = r.1 → Rep nc Ls Xs h1 r.2 → Q (some (.int z)) h1) : ∀ (n : Nat) (h : iv_H) (s : iv_M) (hR : Rep nc Ls Xs h s) (m3 : Int32) (x3 : Int) (p3 : m3.toInt = x3) (m5 : Int32) (x5 : Int) (p5 : m5.toInt = x5), FX3_list_l102 N q0 q1 x2 x4 kx n s x3 x5 = some r → Rn d 63 (some .int) 102 [some (.ref q0), some (.ref q1), some (.int m2), some (.int m3), some (.int m4), some (.int m5), none] [] h Q := by
  have hT := hX3_list
  intro n
  induction n with
  | zero =>
    intro h s hR m3 x3 p3 m5 x5 p5 e
    rw [FX3_list_l102] at e
    cases e
  | succ n ih =>
    intro h s hR m3 x3 p3 m5 x5 p5 e
    rw [FX3_list_l102] at e
    refine Rn.n hT 2 (pc' := 105) (L' := [some (.ref q0), some (.ref q1), some (.int m2), some (.int m3), some (.int m4), some (.int m5), none]) (st' := [.int m2, .int m5]) rfl ?_
    by_cases c_742 : x2 ≤ x5
    · rw [if_pos c_742] at e
      refine Rn.bt hT rfl rfl rfl (decide_eq_true ((ti_le p2 p5).mpr c_742)) ?_
      exact Rn.weak (ll_s (ll_s (ll_s (ll_s (ll_s (ll_n (ll_n ll_e))))))) (hk h s hR m3 x3 p3 e)
    · rw [if_neg c_742] at e
      refine Rn.bf hT rfl rfl rfl (decide_eq_false (fun z => c_742 ((ti_le p2 p5).mp z))) ?_
      refine Rn.n hT 10 (pc' := 124) (L' := [some (.ref q0), some (.ref q1), some (.int m2), some (.int m3), some (.int m4), some (.int m5), some (.int (((512 : Int32) ||| (m4 <<< ((4 : Int32) &&& 31))) ||| m5))]) (st' := [.int (((512 : Int32) ||| (m4 <<< ((4 : Int32) &&& 31))) ||| m5), .ref q0]) rfl ?_
      obtain ⟨⟨v_743, s_744⟩, e_743, e⟩ := Option.bind_eq_some_iff.mp e
      try dsimp only at e
      try dsimp only at e
      refine Rn.call hT rfl rfl rfl (Nat.le_of_ble_eq_true rfl) (rcv_v gX3_broken (by omega) (rp_ck hR (T3_o t0))) (RX3_broken (by omega) hR t0 (ti_or (ti_or L32_512 (ti_shl p4 L32_4)) p5) e_743 (fun z_743 h_744 p_743 R_744 => ?_))
      show Rn d _ _ 127 [some (.ref q0), some (.ref q1), some (.int m2), some (.int m3), some (.int m4), some (.int m5), some (.int (((512 : Int32) ||| (m4 <<< ((4 : Int32) &&& 31))) ||| m5))] [.int z_743] h_744 Q
      by_cases c_745 : v_743 = 0
      · rw [if_pos c_745] at e
        refine Rn.bf hT rfl rfl rfl (decide_eq_false (fun z => z ((ti_e p_743 L32_0).mpr c_745))) ?_
        refine Rn.n hT 2 (pc' := 132) (L' := [some (.ref q0), some (.ref q1), some (.int m2), some (.int m3), some (.int m4), some (.int m5), some (.int (((512 : Int32) ||| (m4 <<< ((4 : Int32) &&& 31))) ||| m5))]) (st' := [.ref q1, .int m3]) rfl ?_
        obtain ⟨z_746, g_746, p_746⟩ : ∃ z : Int32, aL h_744 q1 = some z ∧ z.toInt = ((sh q1).2 : Int) := rp_aL R_744 t1 (Or.inl rfl) rfl
        refine Rn.hp hT rfl rfl (aL_hp g_746) ?_
        by_cases c_747 : ((sh q1).2 : Int) ≤ x3
        · rw [if_pos c_747] at e
          refine Rn.bt hT rfl rfl rfl (decide_eq_true ((ti_le p_746 p3).mpr c_747)) ?_
          exact Rn.weak (ll_s (ll_s (ll_s (ll_s (ll_s (ll_s (ll_n ll_e))))))) (RX3_list_b144 hd R_744 t0 t1 p2 p3 p4 p5 ih hk hq e)
        · rw [if_neg c_747] at e
          refine Rn.bf hT rfl rfl rfl (decide_eq_false (fun z => c_747 ((ti_le p_746 p3).mp z))) ?_
          refine Rn.n hT 3 (pc' := 140) (L' := [some (.ref q0), some (.ref q1), some (.int m2), some (.int m3), some (.int m4), some (.int m5), some (.int (((512 : Int32) ||| (m4 <<< ((4 : Int32) &&& 31))) ||| m5))]) (st' := [.int (((512 : Int32) ||| (m4 <<< ((4 : Int32) &&& 31))) ||| m5), .int m3, .ref q1]) rfl ?_
          obtain ⟨s_748, e_749, e⟩ := Option.bind_eq_some_iff.mp e
          obtain ⟨h_748, g_749, R_748⟩ := rp_wI R_744 t1 rfl p3 (ti_or (ti_or L32_512 (ti_shl p4 L32_4)) p5) e_749
          refine Rn.hp hT rfl rfl (wI_hp g_749) ?_
          refine Rn.n hT 1 (pc' := 144) (L' := [some (.ref q0), some (.ref q1), some (.int m2), some (.int (m3 + (1 : Int32))), some (.int m4), some (.int m5), some (.int (((512 : Int32) ||| (m4 <<< ((4 : Int32) &&& 31))) ||| m5))]) (st' := []) rfl ?_
          exact Rn.weak (ll_s (ll_s (ll_s (ll_s (ll_s (ll_s (ll_n ll_e))))))) (RX3_list_b144 hd R_748 t0 t1 p2 (ti_add p3 L32_1) p4 p5 ih hk hq e)
      · rw [if_neg c_745] at e
        refine Rn.bt hT rfl rfl rfl (decide_eq_true (fun z => c_745 ((ti_e p_743 L32_0).mp z))) ?_
        exact Rn.weak (ll_s (ll_s (ll_s (ll_s (ll_s (ll_s (ll_n ll_e))))))) (RX3_list_b144 hd R_744 t0 t1 p2 p3 p4 p5 ih hk hq e)
def FX3_list_l90 (N : Nat) (q0 : Nat) (q1 : Nat) (x2 : Int) (kx : iv_M → Int → Option (Int × iv_M)) : Nat → iv_M → Int → Int → Option (Int × iv_M)
  | 0, _, _, _ => none
  | n + 1, s, x3, x4 => (if x2 ≤ x4 then (kx s x3) else (FX3_list_l102 N q0 q1 x2 x4 (fun (s_740 : iv_M) (x741_3 : Int) => (FX3_list_l90 N q0 q1 x2 kx n s_740 x741_3 (w32 (x4 + 1)))) N s x3 (w32 (x4 + 1))))
set_option maxRecDepth 10000 in
set_option maxHeartbeats 4000000 in
theorem RX3_list_l90 {d N nc Ls : Nat} {Xs : Nat → Int32} (hd : 4 ≤ d) {q0 : Nat} (t0 : T3 nc q0) {q1 : Nat} (t1 : TA 0 nc q1) {m2 : Int32} {x2 : Int} (p2 : m2.toInt = x2) {kx : iv_M → Int → Option (Int × iv_M)} {r : Int × iv_M} {Q : Option Value → iv_H → Prop} (hk : ∀ (h : iv_H) (s : iv_M) (hR : Rep nc Ls Xs h s) (m3 : Int32) (x3 : Int) (p3 : m3.toInt = x3), kx s x3 = some r → Rn d 63 (some .int) 156 [some (.ref q0), some (.ref q1), some (.int m2), some (.int m3), none, none, none] [] h Q) (hq : ∀ (z : Int32) (h1 : iv_H), z.toInt = r.1 → Rep nc Ls Xs h1 r.2 → Q (some (.int z)) h1) : ∀ (n : Nat) (h : iv_H) (s : iv_M) (hR : Rep nc Ls Xs h s) (m3 : Int32) (x3 : Int) (p3 : m3.toInt = x3) (m4 : Int32) (x4 : Int) (p4 : m4.toInt = x4), FX3_list_l90 N q0 q1 x2 kx n s x3 x4 = some r → Rn d 63 (some .int) 90 [some (.ref q0), some (.ref q1), some (.int m2), some (.int m3), some (.int m4), none, none] [] h Q := by
  have hT := hX3_list
  intro n
  induction n with
  | zero =>
    intro h s hR m3 x3 p3 m4 x4 p4 e
    rw [FX3_list_l90] at e
    cases e
  | succ n ih =>
    intro h s hR m3 x3 p3 m4 x4 p4 e
    rw [FX3_list_l90] at e
    refine Rn.n hT 2 (pc' := 93) (L' := [some (.ref q0), some (.ref q1), some (.int m2), some (.int m3), some (.int m4), none, none]) (st' := [.int m2, .int m4]) rfl ?_
    by_cases c_739 : x2 ≤ x4
    · rw [if_pos c_739] at e
      refine Rn.bt hT rfl rfl rfl (decide_eq_true ((ti_le p2 p4).mpr c_739)) ?_
      exact Rn.weak (ll_s (ll_s (ll_s (ll_s (ll_n (ll_n (ll_n ll_e))))))) (hk h s hR m3 x3 p3 e)
    · rw [if_neg c_739] at e
      refine Rn.bf hT rfl rfl rfl (decide_eq_false (fun z => c_739 ((ti_le p2 p4).mp z))) ?_
      refine Rn.n hT 4 (pc' := 102) (L' := [some (.ref q0), some (.ref q1), some (.int m2), some (.int m3), some (.int m4), some (.int (m4 + (1 : Int32))), none]) (st' := []) rfl ?_
      refine Rn.weak (ll_s (ll_s (ll_s (ll_s (ll_s (ll_s (ll_n ll_e))))))) (RX3_list_l102 hd t0 t1 p2 p4 (fun h_740 s_740 R_740 m741_3 x741_3 p741_3 e => ?_) hq N h s hR m3 x3 p3 (m4 + (1 : Int32)) (w32 (x4 + 1)) (ti_add p4 L32_1) e)
      try dsimp only at e
      refine Rn.n hT 2 (pc' := 90) (L' := [some (.ref q0), some (.ref q1), some (.int m2), some (.int m741_3), some (.int (m4 + (1 : Int32))), none, none]) (st' := []) rfl ?_
      exact Rn.weak (ll_s (ll_s (ll_s (ll_s (ll_s (ll_n (ll_n ll_e))))))) (ih h_740 s_740 R_740 m741_3 x741_3 p741_3 (m4 + (1 : Int32)) (w32 (x4 + 1)) (ti_add p4 L32_1) e)
def FX3_list_b198 (N : Nat) (s : iv_M) (q0 : Nat) (q1 : Nat) (x2 : Int) (x3 : Int) (x4 : Int)  (kb : iv_M → Int → Int → Option (Int × iv_M)) (kx : iv_M → Int → Option (Int × iv_M)) : Option (Int × iv_M) := (kb s x3 (w32 (x4 + 1)))
set_option maxRecDepth 10000 in
set_option maxHeartbeats 4000000 in
theorem RX3_list_b198 {d N nc Ls : Nat} {Xs : Nat → Int32} (hd : 4 ≤ d) {h : iv_H} {s : iv_M} (hR : Rep nc Ls Xs h s) {q0 : Nat} (t0 : T3 nc q0) {q1 : Nat} (t1 : TA 0 nc q1) {m2 : Int32} {x2 : Int} (p2 : m2.toInt = x2) {m3 : Int32} {x3 : Int} (p3 : m3.toInt = x3) {m4 : Int32} {x4 : Int} (p4 : m4.toInt = x4)  {kb : iv_M → Int → Int → Option (Int × iv_M)} {kx : iv_M → Int → Option (Int × iv_M)} {r : Int × iv_M} {Q : Option Value → iv_H → Prop} (hb : ∀ (h : iv_H) (s : iv_M) (hR : Rep nc Ls Xs h s) (mw3 : Int32) (xw3 : Int) (pw3 : mw3.toInt = xw3) (mw4 : Int32) (xw4 : Int) (pw4 : mw4.toInt = xw4), kb s xw3 xw4 = some r → Rn d 63 (some .int) 159 [some (.ref q0), some (.ref q1), some (.int m2), some (.int mw3), some (.int mw4), none, none] [] h Q) (hk : ∀ (h : iv_H) (s : iv_M) (hR : Rep nc Ls Xs h s) (mw3 : Int32) (xw3 : Int) (pw3 : mw3.toInt = xw3), kx s xw3 = some r → Rn d 63 (some .int) 204 [none, none, none, some (.int mw3), none, none, none] [] h Q) (hq : ∀ (z : Int32) (h1 : iv_H), z.toInt = r.1 → Rep nc Ls Xs h1 r.2 → Q (some (.int z)) h1) (e : FX3_list_b198 N s q0 q1 x2 x3 x4  kb kx = some r) : Rn d 63 (some .int) 198 [some (.ref q0), some (.ref q1), some (.int m2), some (.int m3), some (.int m4), none, none] [] h Q := by
  have hT := hX3_list
  unfold FX3_list_b198 at e
  refine Rn.n hT 2 (pc' := 159) (L' := [some (.ref q0), some (.ref q1), some (.int m2), some (.int m3), some (.int (m4 + (1 : Int32))), none, none]) (st' := []) rfl ?_
  exact Rn.weak (ll_s (ll_s (ll_s (ll_s (ll_s (ll_n (ll_n ll_e))))))) (hb h s hR m3 x3 p3 (m4 + (1 : Int32)) (w32 (x4 + 1)) (ti_add p4 L32_1) e)
def FX3_list_l159 (N : Nat) (q0 : Nat) (q1 : Nat) (x2 : Int) (kx : iv_M → Int → Option (Int × iv_M)) : Nat → iv_M → Int → Int → Option (Int × iv_M)
  | 0, _, _, _ => none
  | n + 1, s, x3, x4 => (if x2 ≤ x4 then (kx s x3) else ((FX3_broken N s q0 (bOr 768 (sl32 x4 4))).bind fun r_751 => (fun (v_751 : Int) (s_752 : iv_M) => (if v_751 = 0 then (if ((sh q1).2 : Int) ≤ x3 then (FX3_list_b198 N s_752 q0 q1 x2 x3 x4 (FX3_list_l159 N q0 q1 x2 kx n) kx) else ((wr s_752 q1 ((sh q1).2 : Int) x3 (bOr 768 (sl32 x4 4))).bind fun s_756 => (FX3_list_b198 N s_756 q0 q1 x2 (w32 (x3 + 1)) x4 (FX3_list_l159 N q0 q1 x2 kx n) kx))) else (FX3_list_b198 N s_752 q0 q1 x2 x3 x4 (FX3_list_l159 N q0 q1 x2 kx n) kx))) r_751.1 r_751.2))
set_option maxRecDepth 10000 in
set_option maxHeartbeats 4000000 in
theorem RX3_list_l159 {d N nc Ls : Nat} {Xs : Nat → Int32} (hd : 4 ≤ d) {q0 : Nat} (t0 : T3 nc q0) {q1 : Nat} (t1 : TA 0 nc q1) {m2 : Int32} {x2 : Int} (p2 : m2.toInt = x2) {kx : iv_M → Int → Option (Int × iv_M)} {r : Int × iv_M} {Q : Option Value → iv_H → Prop} (hk : ∀ (h : iv_H) (s : iv_M) (hR : Rep nc Ls Xs h s) (m3 : Int32) (x3 : Int) (p3 : m3.toInt = x3), kx s x3 = some r → Rn d 63 (some .int) 204 [none, none, none, some (.int m3), none, none, none] [] h Q) (hq : ∀ (z : Int32) (h1 : iv_H), z.toInt = r.1 → Rep nc Ls Xs h1 r.2 → Q (some (.int z)) h1) : ∀ (n : Nat) (h : iv_H) (s : iv_M) (hR : Rep nc Ls Xs h s) (m3 : Int32) (x3 : Int) (p3 : m3.toInt = x3) (m4 : Int32) (x4 : Int) (p4 : m4.toInt = x4), FX3_list_l159 N q0 q1 x2 kx n s x3 x4 = some r → Rn d 63 (some .int) 159 [some (.ref q0), some (.ref q1), some (.int m2), some (.int m3), some (.int m4), none, none] [] h Q := by
  have hT := hX3_list
  intro n
  induction n with
  | zero =>
    intro h s hR m3 x3 p3 m4 x4 p4 e
    rw [FX3_list_l159] at e
    cases e
  | succ n ih =>
    intro h s hR m3 x3 p3 m4 x4 p4 e
    rw [FX3_list_l159] at e
    refine Rn.n hT 2 (pc' := 162) (L' := [some (.ref q0), some (.ref q1), some (.int m2), some (.int m3), some (.int m4), none, none]) (st' := [.int m2, .int m4]) rfl ?_
    by_cases c_750 : x2 ≤ x4
    · rw [if_pos c_750] at e
      refine Rn.bt hT rfl rfl rfl (decide_eq_true ((ti_le p2 p4).mpr c_750)) ?_
      exact Rn.weak (ll_n (ll_n (ll_n (ll_s (ll_n (ll_n (ll_n ll_e))))))) (hk h s hR m3 x3 p3 e)
    · rw [if_neg c_750] at e
      refine Rn.bf hT rfl rfl rfl (decide_eq_false (fun z => c_750 ((ti_le p2 p4).mp z))) ?_
      refine Rn.n hT 8 (pc' := 178) (L' := [some (.ref q0), some (.ref q1), some (.int m2), some (.int m3), some (.int m4), some (.int ((768 : Int32) ||| (m4 <<< ((4 : Int32) &&& 31)))), none]) (st' := [.int ((768 : Int32) ||| (m4 <<< ((4 : Int32) &&& 31))), .ref q0]) rfl ?_
      obtain ⟨⟨v_751, s_752⟩, e_751, e⟩ := Option.bind_eq_some_iff.mp e
      try dsimp only at e
      try dsimp only at e
      refine Rn.call hT rfl rfl rfl (Nat.le_of_ble_eq_true rfl) (rcv_v gX3_broken (by omega) (rp_ck hR (T3_o t0))) (RX3_broken (by omega) hR t0 (ti_or L32_768 (ti_shl p4 L32_4)) e_751 (fun z_751 h_752 p_751 R_752 => ?_))
      show Rn d _ _ 181 [some (.ref q0), some (.ref q1), some (.int m2), some (.int m3), some (.int m4), some (.int ((768 : Int32) ||| (m4 <<< ((4 : Int32) &&& 31)))), none] [.int z_751] h_752 Q
      by_cases c_753 : v_751 = 0
      · rw [if_pos c_753] at e
        refine Rn.bf hT rfl rfl rfl (decide_eq_false (fun z => z ((ti_e p_751 L32_0).mpr c_753))) ?_
        refine Rn.n hT 2 (pc' := 186) (L' := [some (.ref q0), some (.ref q1), some (.int m2), some (.int m3), some (.int m4), some (.int ((768 : Int32) ||| (m4 <<< ((4 : Int32) &&& 31)))), none]) (st' := [.ref q1, .int m3]) rfl ?_
        obtain ⟨z_754, g_754, p_754⟩ : ∃ z : Int32, aL h_752 q1 = some z ∧ z.toInt = ((sh q1).2 : Int) := rp_aL R_752 t1 (Or.inl rfl) rfl
        refine Rn.hp hT rfl rfl (aL_hp g_754) ?_
        by_cases c_755 : ((sh q1).2 : Int) ≤ x3
        · rw [if_pos c_755] at e
          refine Rn.bt hT rfl rfl rfl (decide_eq_true ((ti_le p_754 p3).mpr c_755)) ?_
          exact Rn.weak (ll_s (ll_s (ll_s (ll_s (ll_s (ll_n (ll_n ll_e))))))) (RX3_list_b198 hd R_752 t0 t1 p2 p3 p4 ih hk hq e)
        · rw [if_neg c_755] at e
          refine Rn.bf hT rfl rfl rfl (decide_eq_false (fun z => c_755 ((ti_le p_754 p3).mp z))) ?_
          refine Rn.n hT 3 (pc' := 194) (L' := [some (.ref q0), some (.ref q1), some (.int m2), some (.int m3), some (.int m4), some (.int ((768 : Int32) ||| (m4 <<< ((4 : Int32) &&& 31)))), none]) (st' := [.int ((768 : Int32) ||| (m4 <<< ((4 : Int32) &&& 31))), .int m3, .ref q1]) rfl ?_
          obtain ⟨s_756, e_757, e⟩ := Option.bind_eq_some_iff.mp e
          obtain ⟨h_756, g_757, R_756⟩ := rp_wI R_752 t1 rfl p3 (ti_or L32_768 (ti_shl p4 L32_4)) e_757
          refine Rn.hp hT rfl rfl (wI_hp g_757) ?_
          refine Rn.n hT 1 (pc' := 198) (L' := [some (.ref q0), some (.ref q1), some (.int m2), some (.int (m3 + (1 : Int32))), some (.int m4), some (.int ((768 : Int32) ||| (m4 <<< ((4 : Int32) &&& 31)))), none]) (st' := []) rfl ?_
          exact Rn.weak (ll_s (ll_s (ll_s (ll_s (ll_s (ll_n (ll_n ll_e))))))) (RX3_list_b198 hd R_756 t0 t1 p2 (ti_add p3 L32_1) p4 ih hk hq e)
      · rw [if_neg c_753] at e
        refine Rn.bt hT rfl rfl rfl (decide_eq_true (fun z => c_753 ((ti_e p_751 L32_0).mp z))) ?_
        exact Rn.weak (ll_s (ll_s (ll_s (ll_s (ll_s (ll_n (ll_n ll_e))))))) (RX3_list_b198 hd R_752 t0 t1 p2 p3 p4 ih hk hq e)
def FX3_list_b18 (N : Nat) (s : iv_M) (q0 : Nat) (q1 : Nat) (xs0 : Int) : Option (Int × iv_M) := (FX3_list_l24 N q0 q1 xs0 (fun (s_722 : iv_M) (x723_3 : Int) => (FX3_list_l90 N q0 q1 xs0 (fun (s_724 : iv_M) (x725_3 : Int) => (FX3_list_l159 N q0 q1 xs0 (fun (s_726 : iv_M) (x727_3 : Int) => (some (x727_3, s_726))) N s_724 x725_3 0)) N s_722 x723_3 0)) N s 0 0)
set_option maxRecDepth 10000 in
set_option maxHeartbeats 4000000 in
theorem RX3_list_b18 {d N nc Ls : Nat} {Xs : Nat → Int32} (hd : 4 ≤ d) {h : iv_H} {s : iv_M} (hR : Rep nc Ls Xs h s) {q0 : Nat} (t0 : T3 nc q0) {q1 : Nat} (t1 : TA 0 nc q1) {ms0 : Int32} {xs0 : Int} (ps0 : ms0.toInt = xs0) {r : Int × iv_M} {Q : Option Value → iv_H → Prop} (hq : ∀ (z : Int32) (h1 : iv_H), z.toInt = r.1 → Rep nc Ls Xs h1 r.2 → Q (some (.int z)) h1) (e : FX3_list_b18 N s q0 q1 xs0 = some r) : Rn d 63 (some .int) 18 [some (.ref q0), some (.ref q1), none, none, none, none, none] [.int ms0] h Q := by
  have hT := hX3_list
  unfold FX3_list_b18 at e
  refine Rn.n hT 5 (pc' := 24) (L' := [some (.ref q0), some (.ref q1), some (.int ms0), some (.int (0 : Int32)), some (.int (0 : Int32)), none, none]) (st' := []) rfl ?_
  refine Rn.weak (ll_s (ll_s (ll_s (ll_s (ll_s (ll_n (ll_n ll_e))))))) (RX3_list_l24 hd t0 t1 ps0 (fun h_722 s_722 R_722 m723_3 x723_3 p723_3 e => ?_) hq N h s hR (0 : Int32) 0 L32_0 (0 : Int32) 0 L32_0 e)
  try dsimp only at e
  refine Rn.n hT 2 (pc' := 90) (L' := [some (.ref q0), some (.ref q1), some (.int ms0), some (.int m723_3), some (.int (0 : Int32)), none, none]) (st' := []) rfl ?_
  refine Rn.weak (ll_s (ll_s (ll_s (ll_s (ll_s (ll_n (ll_n ll_e))))))) (RX3_list_l90 hd t0 t1 ps0 (fun h_724 s_724 R_724 m725_3 x725_3 p725_3 e => ?_) hq N h_722 s_722 R_722 m723_3 x723_3 p723_3 (0 : Int32) 0 L32_0 e)
  try dsimp only at e
  refine Rn.n hT 2 (pc' := 159) (L' := [some (.ref q0), some (.ref q1), some (.int ms0), some (.int m725_3), some (.int (0 : Int32)), none, none]) (st' := []) rfl ?_
  refine Rn.weak (ll_s (ll_s (ll_s (ll_s (ll_s (ll_n (ll_n ll_e))))))) (RX3_list_l159 hd t0 t1 ps0 (fun h_726 s_726 R_726 m727_3 x727_3 p727_3 e => ?_) hq N h_724 s_724 R_724 m725_3 x725_3 p725_3 (0 : Int32) 0 L32_0 e)
  try dsimp only at e
  refine Rn.n hT 1 (pc' := 205) (L' := [none, none, none, some (.int m727_3), none, none, none]) (st' := [.int m727_3]) rfl ?_
  obtain rfl := Option.some.inj e
  exact Rn.ret hT rfl rfl rfl (hq m727_3 h_726 p727_3 R_726)
def FX3_list (N : Nat) (s : iv_M) (q0 : Nat) (q1 : Nat) : Option (Int × iv_M) := (if (s q0 1) < 0 then (FX3_list_b18 N s q0 q1 0) else (if (s q0 1) < 0 then none else (FX3_list_b18 N s q0 q1 (s ((s q0 1).toNat) 2))))
set_option maxRecDepth 10000 in
set_option maxHeartbeats 4000000 in
theorem RX3_list {d N nc Ls : Nat} {Xs : Nat → Int32} (hd : 5 ≤ d) {h : iv_H} {s : iv_M} (hR : Rep nc Ls Xs h s) {q0 : Nat} (t0 : T3 nc q0) {q1 : Nat} (t1 : TA 0 nc q1) {r : Int × iv_M} {Q : Option Value → iv_H → Prop} (e : FX3_list N s q0 q1 = some r) (hq : ∀ (z : Int32) (h1 : iv_H), z.toInt = r.1 → Rep nc Ls Xs h1 r.2 → Q (some (.int z)) h1) : Cl d 63 [.ref q0, .ref q1] h Q := by
  obtain ⟨d, rfl⟩ : ∃ k, d = k + 1 := ⟨d - 1, by omega⟩
  have hd : 4 ≤ d := by omega
  have hT := hX3_list
  unfold FX3_list at e
  refine Cl.into (by decide) gX3_list rfl ?_
  show Rn d 63 (some .int) 0 [some (.ref q0), some (.ref q1), none, none, none, none, none] [] h Q
  refine Rn.n hT 1 (pc' := 1) (L' := [some (.ref q0), some (.ref q1), none, none, none, none, none]) (st' := [.ref q0]) rfl ?_
  refine Rn.hp hT rfl rfl (gN_hp (rp_gN (k := 1) hR (T3_o t0) rfl)) ?_
  by_cases c_719 : (s q0 1) < 0
  · rw [if_pos c_719] at e
    have hv : rvo (s q0 ((1 : Nat) : Int)) = none := rvo_neg c_719
    rw [hv]
    clear hv
    show Rn d _ _ 4 [some (.ref q0), some (.ref q1), none, none, none, none, none] [.null] h Q
    refine Rn.bf hT rfl rfl rfl rfl ?_
    refine Rn.n hT 2 (pc' := 18) (L' := [some (.ref q0), some (.ref q1), none, none, none, none, none]) (st' := [.int (0 : Int32)]) rfl ?_
    exact Rn.weak (ll_s (ll_s (ll_n (ll_n (ll_n (ll_n (ll_n ll_e))))))) (RX3_list_b18 hd hR t0 t1 L32_0 hq e)
  · rw [if_neg c_719] at e
    have hv : rvo (s q0 ((1 : Nat) : Int)) = some ((s q0 1)).toNat := rvo_pos c_719
    rw [hv]
    clear hv
    show Rn d _ _ 4 [some (.ref q0), some (.ref q1), none, none, none, none, none] [.ref ((s q0 1).toNat)] h Q
    refine Rn.bt hT rfl rfl rfl rfl ?_
    refine Rn.n hT 1 (pc' := 12) (L' := [some (.ref q0), some (.ref q1), none, none, none, none, none]) (st' := [.ref q0]) rfl ?_
    refine Rn.hp hT rfl rfl (gN_hp (rp_gN (k := 1) hR (T3_o t0) rfl)) ?_
    by_cases c_720 : (s q0 1) < 0
    · rw [if_pos c_720] at e
      cases e
    · rw [if_neg c_720] at e
      have hv : rvo (s q0 ((1 : Nat) : Int)) = some ((s q0 1)).toNat := rvo_pos c_720
      rw [hv]
      clear hv
      show Rn d _ _ 15 [some (.ref q0), some (.ref q1), none, none, none, none, none] [.ref ((s q0 1).toNat)] h Q
      obtain ⟨z_721, g_721, p_721⟩ : ∃ z : Int32, gI h 1 2 ((s q0 1).toNat) = some z ∧ z.toInt = s ((s q0 1).toNat) 2 := rp_gI (k := 2) hR (T1_o (ty_31 hR t0 c_720)) rfl
      refine Rn.hp hT rfl rfl (gI_hp g_721) ?_
      exact Rn.weak (ll_s (ll_s (ll_n (ll_n (ll_n (ll_n (ll_n ll_e))))))) (RX3_list_b18 hd hR t0 t1 p_721 hq e)
set_option maxRecDepth 10000 in
theorem hX4_layOne : iv_Tb 71 tX4_layOne := iv_tb_of (m := mX4_layOne) rfl
set_option maxRecDepth 10000 in
theorem gX4_layOne : PG.2 71 = some mX4_layOne := iv_pi_of (t := tX4_layOne) rfl (by decide)
set_option maxRecDepth 10000 in
theorem hX4_layFrom : iv_Tb 70 tX4_layFrom := iv_tb_of (m := mX4_layFrom) rfl
set_option maxRecDepth 10000 in
theorem gX4_layFrom : PG.2 70 = some mX4_layFrom := iv_pi_of (t := tX4_layFrom) rfl (by decide)
def FX4_layOne_b56 (N : Nat) (rc : iv_M → Nat → Nat → Int → Option iv_M) (s : iv_M) (q0 : Nat) (x2 : Int)  : Option (iv_M) := ((FX1_take N s (q0 + 1) x2).bind fun s_772 => some s_772)
set_option maxRecDepth 10000 in
set_option maxHeartbeats 4000000 in
theorem RX4_layOne_b56 {d N nc Ls : Nat} {Xs : Nat → Int32} (hd : 1 ≤ d) {rc : iv_M → Nat → Nat → Int → Option iv_M} (hrc : ∀ {h : iv_H} {s : iv_M} (_ : Rep nc Ls Xs h s) {q0 : Nat} (t0 : T4 nc q0) {q1 : Nat} (t1 : T2 nc q1) {m2 : Int32} {x2 : Int} (p2 : m2.toInt = x2) {r : iv_M} {Q : Option Value → iv_H → Prop}, rc s q0 q1 x2 = some r → (∀ h1, Rep nc Ls Xs h1 r → Q none h1) → Cl d 70 [.ref q0, .ref q1, .int m2] h Q) {h : iv_H} {s : iv_M} (hR : Rep nc Ls Xs h s) {q0 : Nat} (t0 : T4 nc q0) {m2 : Int32} {x2 : Int} (p2 : m2.toInt = x2)  {r : iv_M} {Q : Option Value → iv_H → Prop} (hq : ∀ h1, Rep nc Ls Xs h1 r → Q none h1) (e : FX4_layOne_b56 N rc s q0 x2  = some r) : Rn d 71 none 56 [some (.ref q0), none, some (.int m2), none, none] [] h Q := by
  have hT := hX4_layOne
  unfold FX4_layOne_b56 at e
  refine Rn.n hT 1 (pc' := 57) (L' := [some (.ref q0), none, some (.int m2), none, none]) (st' := [.ref q0]) rfl ?_
  refine Rn.hp hT rfl rfl (gR_hp (rp_gR hR (T4_o t0) rfl)) ?_
  refine Rn.n hT 1 (pc' := 61) (L' := [some (.ref q0), none, some (.int m2), none, none]) (st' := [.int m2, .ref (q0 + 1)]) rfl ?_
  obtain ⟨s_772, e_771, e⟩ := Option.bind_eq_some_iff.mp e
  refine Rn.call hT rfl rfl rfl (Nat.le_of_ble_eq_true rfl) (rcv_v gX1_take (by omega) (rp_ck hR (T1_o (T4_0 t0)))) (RX1_take (by omega) hR (T4_0 t0) p2 e_771 (fun h_772 R_772 => ?_))
  show Rn d _ _ 64 [some (.ref q0), none, some (.int m2), none, none] [] h_772 Q
  obtain rfl := Option.some.inj e
  exact Rn.ret hT rfl rfl rfl (hq h_772 R_772)
def FX4_layOne (N : Nat) (rc : iv_M → Nat → Nat → Int → Option iv_M) (s : iv_M) (q0 : Nat) (q1 : Nat) (x2 : Int) (x3 : Int) (x4 : Int) : Option (iv_M) := (if (s q0 1) < 20000 then ((pt s q0 1 (w32 ((s q0 1) + 1))).bind fun s_761 => ((FX1_put N s_761 (q0 + 1) x2 x3 x4).bind fun s_764 => ((FX1_fits N s_764 (q0 + 1) x2).bind fun v_765 => (if v_765 = 0 then (FX4_layOne_b56 N rc s_764 q0 x2) else ((rc s_764 q0 q1 (w32 (x2 + 1))).bind fun s_768 => (FX4_layOne_b56 N rc s_768 q0 x2)))))) else ((pt s q0 3 1).bind fun s_769 => some s_769))
set_option maxRecDepth 10000 in
set_option maxHeartbeats 4000000 in
theorem RX4_layOne {d N nc Ls : Nat} {Xs : Nat → Int32} (hd : 2 ≤ d) {rc : iv_M → Nat → Nat → Int → Option iv_M} (hrc : ∀ {h : iv_H} {s : iv_M} (_ : Rep nc Ls Xs h s) {q0 : Nat} (t0 : T4 nc q0) {q1 : Nat} (t1 : T2 nc q1) {m2 : Int32} {x2 : Int} (p2 : m2.toInt = x2) {r : iv_M} {Q : Option Value → iv_H → Prop}, rc s q0 q1 x2 = some r → (∀ h1, Rep nc Ls Xs h1 r → Q none h1) → Cl (d - 1) 70 [.ref q0, .ref q1, .int m2] h Q) {h : iv_H} {s : iv_M} (hR : Rep nc Ls Xs h s) {q0 : Nat} (t0 : T4 nc q0) {q1 : Nat} (t1 : T2 nc q1) {m2 : Int32} {x2 : Int} (p2 : m2.toInt = x2) {m3 : Int32} {x3 : Int} (p3 : m3.toInt = x3) {m4 : Int32} {x4 : Int} (p4 : m4.toInt = x4) {r : iv_M} {Q : Option Value → iv_H → Prop} (e : FX4_layOne N rc s q0 q1 x2 x3 x4 = some r) (hq : ∀ h1, Rep nc Ls Xs h1 r → Q none h1) : Cl d 71 [.ref q0, .ref q1, .int m2, .int m3, .int m4] h Q := by
  obtain ⟨d, rfl⟩ : ∃ k, d = k + 1 := ⟨d - 1, by omega⟩
  have hd : 1 ≤ d := by omega
  have hT := hX4_layOne
  unfold FX4_layOne at e
  rw [show d + 1 - 1 = d from by omega] at hrc
  refine Cl.into (by decide) gX4_layOne rfl ?_
  show Rn d 71 none 0 [some (.ref q0), some (.ref q1), some (.int m2), some (.int m3), some (.int m4)] [] h Q
  refine Rn.n hT 1 (pc' := 1) (L' := [some (.ref q0), some (.ref q1), some (.int m2), some (.int m3), some (.int m4)]) (st' := [.ref q0]) rfl ?_
  obtain ⟨z_758, g_758, p_758⟩ : ∃ z : Int32, gI h 4 1 q0 = some z ∧ z.toInt = s q0 1 := rp_gI (k := 1) hR (T4_o t0) rfl
  refine Rn.hp hT rfl rfl (gI_hp g_758) ?_
  refine Rn.n hT 1 (pc' := 7) (L' := [some (.ref q0), some (.ref q1), some (.int m2), some (.int m3), some (.int m4)]) (st' := [.int (20000 : Int32), .int z_758]) rfl ?_
  by_cases c_759 : (s q0 1) < 20000
  · rw [if_pos c_759] at e
    refine Rn.bt hT rfl rfl rfl (decide_eq_true ((ti_l p_758 L32_20000).mpr c_759)) ?_
    refine Rn.n hT 2 (pc' := 18) (L' := [some (.ref q0), some (.ref q1), some (.int m2), some (.int m3), some (.int m4)]) (st' := [.ref q0, .ref q0]) rfl ?_
    obtain ⟨z_760, g_760, p_760⟩ : ∃ z : Int32, gI h 4 1 q0 = some z ∧ z.toInt = s q0 1 := rp_gI (k := 1) hR (T4_o t0) rfl
    refine Rn.hp hT rfl rfl (gI_hp g_760) ?_
    refine Rn.n hT 2 (pc' := 23) (L' := [some (.ref q0), some (.ref q1), some (.int m2), some (.int m3), some (.int m4)]) (st' := [.int (z_760 + (1 : Int32)), .ref q0]) rfl ?_
    obtain ⟨s_761, e_762, e⟩ := Option.bind_eq_some_iff.mp e
    obtain ⟨h_761, g_762, R_761⟩ := rp_pI (ci := 4) (k := 1) hR (T4_o t0) rfl rfl (ti_add p_760 L32_1) e_762
    refine Rn.hp hT rfl rfl (pV_hp rfl g_762) ?_
    refine Rn.n hT 1 (pc' := 27) (L' := [some (.ref q0), some (.ref q1), some (.int m2), some (.int m3), some (.int m4)]) (st' := [.ref q0]) rfl ?_
    refine Rn.hp hT rfl rfl (gR_hp (rp_gR R_761 (T4_o t0) rfl)) ?_
    refine Rn.n hT 3 (pc' := 34) (L' := [some (.ref q0), some (.ref q1), some (.int m2), some (.int m3), some (.int m4)]) (st' := [.int m4, .int m3, .int m2, .ref (q0 + 1)]) rfl ?_
    obtain ⟨s_764, e_763, e⟩ := Option.bind_eq_some_iff.mp e
    refine Rn.call hT rfl rfl rfl (Nat.le_of_ble_eq_true rfl) (rcv_v gX1_put (by omega) (rp_ck R_761 (T1_o (T4_0 t0)))) (RX1_put (by omega) R_761 (T4_0 t0) p2 p3 p4 e_763 (fun h_764 R_764 => ?_))
    show Rn d _ _ 37 [some (.ref q0), some (.ref q1), some (.int m2), some (.int m3), some (.int m4)] [] h_764 Q
    refine Rn.n hT 1 (pc' := 38) (L' := [some (.ref q0), some (.ref q1), some (.int m2), some (.int m3), some (.int m4)]) (st' := [.ref q0]) rfl ?_
    refine Rn.hp hT rfl rfl (gR_hp (rp_gR R_764 (T4_o t0) rfl)) ?_
    refine Rn.n hT 1 (pc' := 42) (L' := [some (.ref q0), some (.ref q1), some (.int m2), some (.int m3), some (.int m4)]) (st' := [.int m2, .ref (q0 + 1)]) rfl ?_
    obtain ⟨v_765, e_765, e⟩ := Option.bind_eq_some_iff.mp e
    refine Rn.call hT rfl rfl rfl (Nat.le_of_ble_eq_true rfl) (rcv_v gX1_fits (by omega) (rp_ck R_764 (T1_o (T4_0 t0)))) (RX1_fits (by omega) R_764 (T4_0 t0) p2 e_765 (fun z_765 p_765 => ?_))
    show Rn d _ _ 45 [some (.ref q0), some (.ref q1), some (.int m2), some (.int m3), some (.int m4)] [.int z_765] h_764 Q
    by_cases c_766 : v_765 = 0
    · rw [if_pos c_766] at e
      refine Rn.bt hT rfl rfl rfl (decide_eq_true ((ti_e p_765 L32_0).mpr c_766)) ?_
      exact Rn.weak (ll_s (ll_n (ll_s (ll_n (ll_n ll_e))))) (RX4_layOne_b56 hd hrc R_764 t0 p2 hq e)
    · rw [if_neg c_766] at e
      refine Rn.bf hT rfl rfl rfl (decide_eq_false (fun z => c_766 ((ti_e p_765 L32_0).mp z))) ?_
      refine Rn.n hT 5 (pc' := 53) (L' := [some (.ref q0), some (.ref q1), some (.int m2), some (.int m3), some (.int m4)]) (st' := [.int (m2 + (1 : Int32)), .ref q1, .ref q0]) rfl ?_
      obtain ⟨s_768, e_767, e⟩ := Option.bind_eq_some_iff.mp e
      refine Rn.call hT rfl rfl rfl (Nat.le_of_ble_eq_true rfl) (rcv_v gX4_layFrom (by omega) (rp_ck R_764 (T4_o t0))) (hrc R_764 t0 t1 (ti_add p2 L32_1) e_767 (fun h_768 R_768 => ?_))
      show Rn d _ _ 56 [some (.ref q0), some (.ref q1), some (.int m2), some (.int m3), some (.int m4)] [] h_768 Q
      exact Rn.weak (ll_s (ll_n (ll_s (ll_n (ll_n ll_e))))) (RX4_layOne_b56 hd hrc R_768 t0 p2 hq e)
  · rw [if_neg c_759] at e
    refine Rn.bf hT rfl rfl rfl (decide_eq_false (fun z => c_759 ((ti_l p_758 L32_20000).mp z))) ?_
    refine Rn.n hT 2 (pc' := 12) (L' := [some (.ref q0), some (.ref q1), some (.int m2), some (.int m3), some (.int m4)]) (st' := [.int (1 : Int32), .ref q0]) rfl ?_
    obtain ⟨s_769, e_770, e⟩ := Option.bind_eq_some_iff.mp e
    obtain ⟨h_769, g_770, R_769⟩ := rp_pI (ci := 4) (k := 3) hR (T4_o t0) rfl rfl L32_1 e_770
    refine Rn.hp hT rfl rfl (pV_hp (by decide) g_770) ?_
    obtain rfl := Option.some.inj e
    exact Rn.ret hT rfl rfl rfl (hq h_769 R_769)
def FX4_layFrom_l2 (N : Nat) (rc : iv_M → Nat → Nat → Int → Option iv_M) (q0 : Nat) (q1 : Nat) (kx : iv_M → Int → Option (iv_M)) : Nat → iv_M → Int → Option (iv_M)
  | 0, _, _ => none
  | n + 1, s, x3 => (if (s (q0 + 1) 2) ≤ x3 then (kx s x3) else ((FX2_isFixed N s q1 x3).bind fun v_777 => (if v_777 = 0 then (kx s x3) else (FX4_layFrom_l2 N rc q0 q1 kx n s (w32 (x3 + 1))))))
set_option maxRecDepth 10000 in
set_option maxHeartbeats 4000000 in
theorem RX4_layFrom_l2 {d N nc Ls : Nat} {Xs : Nat → Int32} (hd : 2 ≤ d) {rc : iv_M → Nat → Nat → Int → Option iv_M} (hrc : ∀ {h : iv_H} {s : iv_M} (_ : Rep nc Ls Xs h s) {q0 : Nat} (t0 : T4 nc q0) {q1 : Nat} (t1 : T2 nc q1) {m2 : Int32} {x2 : Int} (p2 : m2.toInt = x2) {r : iv_M} {Q : Option Value → iv_H → Prop}, rc s q0 q1 x2 = some r → (∀ h1, Rep nc Ls Xs h1 r → Q none h1) → Cl (d - 1) 70 [.ref q0, .ref q1, .int m2] h Q) {q0 : Nat} (t0 : T4 nc q0) {q1 : Nat} (t1 : T2 nc q1) {kx : iv_M → Int → Option (iv_M)} {r : iv_M} {Q : Option Value → iv_H → Prop} (hk : ∀ (h : iv_H) (s : iv_M) (hR : Rep nc Ls Xs h s) (m3 : Int32) (x3 : Int) (p3 : m3.toInt = x3), kx s x3 = some r → Rn d 70 none 27 [some (.ref q0), some (.ref q1), none, some (.int m3), none, none, none] [] h Q) (hq : ∀ h1, Rep nc Ls Xs h1 r → Q none h1) : ∀ (n : Nat) (h : iv_H) (s : iv_M) (hR : Rep nc Ls Xs h s) (m3 : Int32) (x3 : Int) (p3 : m3.toInt = x3), FX4_layFrom_l2 N rc q0 q1 kx n s x3 = some r → Rn d 70 none 2 [some (.ref q0), some (.ref q1), none, some (.int m3), none, none, none] [] h Q := by
  have hT := hX4_layFrom
  intro n
  induction n with
  | zero =>
    intro h s hR m3 x3 p3 e
    rw [FX4_layFrom_l2] at e
    cases e
  | succ n ih =>
    intro h s hR m3 x3 p3 e
    rw [FX4_layFrom_l2] at e
    refine Rn.n hT 2 (pc' := 4) (L' := [some (.ref q0), some (.ref q1), none, some (.int m3), none, none, none]) (st' := [.ref q0, .int m3]) rfl ?_
    refine Rn.hp hT rfl rfl (gR_hp (rp_gR hR (T4_o t0) rfl)) ?_
    obtain ⟨z_775, g_775, p_775⟩ : ∃ z : Int32, gI h 1 2 (q0 + 1) = some z ∧ z.toInt = s (q0 + 1) 2 := rp_gI (k := 2) hR (T1_o (T4_0 t0)) rfl
    refine Rn.hp hT rfl rfl (gI_hp g_775) ?_
    by_cases c_776 : (s (q0 + 1) 2) ≤ x3
    · rw [if_pos c_776] at e
      refine Rn.bt hT rfl rfl rfl (decide_eq_true ((ti_le p_775 p3).mpr c_776)) ?_
      exact Rn.weak (ll_s (ll_s (ll_n (ll_s (ll_n (ll_n (ll_n ll_e))))))) (hk h s hR m3 x3 p3 e)
    · rw [if_neg c_776] at e
      refine Rn.bf hT rfl rfl rfl (decide_eq_false (fun z => c_776 ((ti_le p_775 p3).mp z))) ?_
      refine Rn.n hT 2 (pc' := 15) (L' := [some (.ref q0), some (.ref q1), none, some (.int m3), none, none, none]) (st' := [.int m3, .ref q1]) rfl ?_
      obtain ⟨v_777, e_777, e⟩ := Option.bind_eq_some_iff.mp e
      refine Rn.call hT rfl rfl rfl (Nat.le_of_ble_eq_true rfl) (rcv_v gX2_isFixed (by omega) (rp_ck hR (T2_o t1))) (RX2_isFixed (by omega) hR t1 p3 e_777 (fun z_777 p_777 => ?_))
      show Rn d _ _ 18 [some (.ref q0), some (.ref q1), none, some (.int m3), none, none, none] [.int z_777] h Q
      by_cases c_778 : v_777 = 0
      · rw [if_pos c_778] at e
        refine Rn.bt hT rfl rfl rfl (decide_eq_true ((ti_e p_777 L32_0).mpr c_778)) ?_
        exact Rn.weak (ll_s (ll_s (ll_n (ll_s (ll_n (ll_n (ll_n ll_e))))))) (hk h s hR m3 x3 p3 e)
      · rw [if_neg c_778] at e
        refine Rn.bf hT rfl rfl rfl (decide_eq_false (fun z => c_778 ((ti_e p_777 L32_0).mp z))) ?_
        refine Rn.n hT 2 (pc' := 2) (L' := [some (.ref q0), some (.ref q1), none, some (.int (m3 + (1 : Int32))), none, none, none]) (st' := []) rfl ?_
        exact Rn.weak (ll_s (ll_s (ll_n (ll_s (ll_n (ll_n (ll_n ll_e))))))) (ih h s hR (m3 + (1 : Int32)) (w32 (x3 + 1)) (ti_add p3 L32_1) e)
def FX4_layFrom_b58 (N : Nat) (rc : iv_M → Nat → Nat → Int → Option iv_M) (s : iv_M)  (xs0 : Int) (xs1 : Int) (qs2 : Nat) : Option (iv_M) := ((pt s qs2 2 (w32 (xs1 + xs0))).bind fun s_786 => some s_786)
set_option maxRecDepth 10000 in
set_option maxHeartbeats 4000000 in
theorem RX4_layFrom_b58 {d N nc Ls : Nat} {Xs : Nat → Int32} (hd : 2 ≤ d) {rc : iv_M → Nat → Nat → Int → Option iv_M} (hrc : ∀ {h : iv_H} {s : iv_M} (_ : Rep nc Ls Xs h s) {q0 : Nat} (t0 : T4 nc q0) {q1 : Nat} (t1 : T2 nc q1) {m2 : Int32} {x2 : Int} (p2 : m2.toInt = x2) {r : iv_M} {Q : Option Value → iv_H → Prop}, rc s q0 q1 x2 = some r → (∀ h1, Rep nc Ls Xs h1 r → Q none h1) → Cl (d - 1) 70 [.ref q0, .ref q1, .int m2] h Q) {h : iv_H} {s : iv_M} (hR : Rep nc Ls Xs h s)  {ms0 : Int32} {xs0 : Int} (ps0 : ms0.toInt = xs0) {ms1 : Int32} {xs1 : Int} (ps1 : ms1.toInt = xs1) {qs2 : Nat} (ts2 : T4 nc qs2) {r : iv_M} {Q : Option Value → iv_H → Prop} (hq : ∀ h1, Rep nc Ls Xs h1 r → Q none h1) (e : FX4_layFrom_b58 N rc s  xs0 xs1 qs2 = some r) : Rn d 70 none 58 [none, none, none, none, none, none, none] [.int ms0, .int ms1, .ref qs2] h Q := by
  have hT := hX4_layFrom
  unfold FX4_layFrom_b58 at e
  refine Rn.n hT 1 (pc' := 59) (L' := [none, none, none, none, none, none, none]) (st' := [.int (ms1 + ms0), .ref qs2]) rfl ?_
  obtain ⟨s_786, e_787, e⟩ := Option.bind_eq_some_iff.mp e
  obtain ⟨h_786, g_787, R_786⟩ := rp_pI (ci := 4) (k := 2) hR (T4_o ts2) rfl rfl (ti_add ps1 ps0) e_787
  refine Rn.hp hT rfl rfl (pV_hp rfl g_787) ?_
  obtain rfl := Option.some.inj e
  exact Rn.ret hT rfl rfl rfl (hq h_786 R_786)
def FX4_layFrom_b139 (N : Nat) (rc : iv_M → Nat → Nat → Int → Option iv_M) (s : iv_M) (q0 : Nat) (q1 : Nat) (x3 : Int) (x4 : Int) (x5 : Int) (x6 : Int)  (kb : iv_M → Int → Option (iv_M)) (kx : iv_M → Option (iv_M)) : Option (iv_M) := (kb s (w32 (x6 + 1)))
set_option maxRecDepth 10000 in
set_option maxHeartbeats 4000000 in
theorem RX4_layFrom_b139 {d N nc Ls : Nat} {Xs : Nat → Int32} (hd : 2 ≤ d) {rc : iv_M → Nat → Nat → Int → Option iv_M} (hrc : ∀ {h : iv_H} {s : iv_M} (_ : Rep nc Ls Xs h s) {q0 : Nat} (t0 : T4 nc q0) {q1 : Nat} (t1 : T2 nc q1) {m2 : Int32} {x2 : Int} (p2 : m2.toInt = x2) {r : iv_M} {Q : Option Value → iv_H → Prop}, rc s q0 q1 x2 = some r → (∀ h1, Rep nc Ls Xs h1 r → Q none h1) → Cl (d - 1) 70 [.ref q0, .ref q1, .int m2] h Q) {h : iv_H} {s : iv_M} (hR : Rep nc Ls Xs h s) {q0 : Nat} (t0 : T4 nc q0) {q1 : Nat} (t1 : T2 nc q1) {m3 : Int32} {x3 : Int} (p3 : m3.toInt = x3) {m4 : Int32} {x4 : Int} (p4 : m4.toInt = x4) {m5 : Int32} {x5 : Int} (p5 : m5.toInt = x5) {m6 : Int32} {x6 : Int} (p6 : m6.toInt = x6)  {kb : iv_M → Int → Option (iv_M)} {kx : iv_M → Option (iv_M)} {r : iv_M} {Q : Option Value → iv_H → Prop} (hb : ∀ (h : iv_H) (s : iv_M) (hR : Rep nc Ls Xs h s) (mw6 : Int32) (xw6 : Int) (pw6 : mw6.toInt = xw6), kb s xw6 = some r → Rn d 70 none 92 [some (.ref q0), some (.ref q1), none, some (.int m3), some (.int m4), some (.int m5), some (.int mw6)] [] h Q) (hk : ∀ (h : iv_H) (s : iv_M) (hR : Rep nc Ls Xs h s), kx s = some r → Rn d 70 none 145 [some (.ref q0), some (.ref q1), none, some (.int m3), some (.int m4), some (.int m5), none] [] h Q) (hq : ∀ h1, Rep nc Ls Xs h1 r → Q none h1) (e : FX4_layFrom_b139 N rc s q0 q1 x3 x4 x5 x6  kb kx = some r) : Rn d 70 none 139 [some (.ref q0), some (.ref q1), none, some (.int m3), some (.int m4), some (.int m5), some (.int m6)] [] h Q := by
  have hT := hX4_layFrom
  unfold FX4_layFrom_b139 at e
  refine Rn.n hT 2 (pc' := 92) (L' := [some (.ref q0), some (.ref q1), none, some (.int m3), some (.int m4), some (.int m5), some (.int (m6 + (1 : Int32)))]) (st' := []) rfl ?_
  exact Rn.weak (ll_s (ll_s (ll_n (ll_s (ll_s (ll_s (ll_s ll_e))))))) (hb h s hR (m6 + (1 : Int32)) (w32 (x6 + 1)) (ti_add p6 L32_1) e)
def FX4_layFrom_b129 (N : Nat) (rc : iv_M → Nat → Nat → Int → Option iv_M) (s : iv_M) (q0 : Nat) (q1 : Nat) (x3 : Int) (x4 : Int) (x5 : Int) (x6 : Int)  (kb : iv_M → Int → Option (iv_M)) (kx : iv_M → Option (iv_M)) : Option (iv_M) := ((FX4_layOne N rc s q0 q1 x3 x5 x6).bind fun s_800 => (FX4_layFrom_b139 N rc s_800 q0 q1 x3 x4 x5 x6 kb kx))
set_option maxRecDepth 10000 in
set_option maxHeartbeats 4000000 in
theorem RX4_layFrom_b129 {d N nc Ls : Nat} {Xs : Nat → Int32} (hd : 2 ≤ d) {rc : iv_M → Nat → Nat → Int → Option iv_M} (hrc : ∀ {h : iv_H} {s : iv_M} (_ : Rep nc Ls Xs h s) {q0 : Nat} (t0 : T4 nc q0) {q1 : Nat} (t1 : T2 nc q1) {m2 : Int32} {x2 : Int} (p2 : m2.toInt = x2) {r : iv_M} {Q : Option Value → iv_H → Prop}, rc s q0 q1 x2 = some r → (∀ h1, Rep nc Ls Xs h1 r → Q none h1) → Cl (d - 1) 70 [.ref q0, .ref q1, .int m2] h Q) {h : iv_H} {s : iv_M} (hR : Rep nc Ls Xs h s) {q0 : Nat} (t0 : T4 nc q0) {q1 : Nat} (t1 : T2 nc q1) {m3 : Int32} {x3 : Int} (p3 : m3.toInt = x3) {m4 : Int32} {x4 : Int} (p4 : m4.toInt = x4) {m5 : Int32} {x5 : Int} (p5 : m5.toInt = x5) {m6 : Int32} {x6 : Int} (p6 : m6.toInt = x6)  {kb : iv_M → Int → Option (iv_M)} {kx : iv_M → Option (iv_M)} {r : iv_M} {Q : Option Value → iv_H → Prop} (hb : ∀ (h : iv_H) (s : iv_M) (hR : Rep nc Ls Xs h s) (mw6 : Int32) (xw6 : Int) (pw6 : mw6.toInt = xw6), kb s xw6 = some r → Rn d 70 none 92 [some (.ref q0), some (.ref q1), none, some (.int m3), some (.int m4), some (.int m5), some (.int mw6)] [] h Q) (hk : ∀ (h : iv_H) (s : iv_M) (hR : Rep nc Ls Xs h s), kx s = some r → Rn d 70 none 145 [some (.ref q0), some (.ref q1), none, some (.int m3), some (.int m4), some (.int m5), none] [] h Q) (hq : ∀ h1, Rep nc Ls Xs h1 r → Q none h1) (e : FX4_layFrom_b129 N rc s q0 q1 x3 x4 x5 x6  kb kx = some r) : Rn d 70 none 129 [some (.ref q0), some (.ref q1), none, some (.int m3), some (.int m4), some (.int m5), some (.int m6)] [] h Q := by
  have hT := hX4_layFrom
  unfold FX4_layFrom_b129 at e
  refine Rn.n hT 5 (pc' := 136) (L' := [some (.ref q0), some (.ref q1), none, some (.int m3), some (.int m4), some (.int m5), some (.int m6)]) (st' := [.int m6, .int m5, .int m3, .ref q1, .ref q0]) rfl ?_
  obtain ⟨s_800, e_799, e⟩ := Option.bind_eq_some_iff.mp e
  refine Rn.call hT rfl rfl rfl (Nat.le_of_ble_eq_true rfl) (rcv_v gX4_layOne (by omega) (rp_ck hR (T4_o t0))) (RX4_layOne (by omega) hrc hR t0 t1 p3 p5 p6 e_799 (fun h_800 R_800 => ?_))
  show Rn d _ _ 139 [some (.ref q0), some (.ref q1), none, some (.int m3), some (.int m4), some (.int m5), some (.int m6)] [] h_800 Q
  exact Rn.weak (ll_s (ll_s (ll_n (ll_s (ll_s (ll_s (ll_s ll_e))))))) (RX4_layFrom_b139 hd hrc R_800 t0 t1 p3 p4 p5 p6 hb hk hq e)
def FX4_layFrom_l92 (N : Nat) (rc : iv_M → Nat → Nat → Int → Option iv_M) (q0 : Nat) (q1 : Nat) (x3 : Int) (x4 : Int) (x5 : Int) (kx : iv_M → Option (iv_M)) : Nat → iv_M → Int → Option (iv_M)
  | 0, _, _ => none
  | n + 1, s, x6 => (if 4 ≤ x6 then (kx s) else ((FX1_isEmptyCell N s (q0 + 1) x5).bind fun v_794 => (if v_794 = 0 then (kx s) else (if x4 = 0 then ((rd s ((q1 + 1) + 2) 12 x3).bind fun v_797 => (if x6 = v_797 then (FX4_layFrom_b129 N rc s q0 q1 x3 x4 x5 x6 (FX4_layFrom_l92 N rc q0 q1 x3 x4 x5 kx n) kx) else (FX4_layFrom_b139 N rc s q0 q1 x3 x4 x5 x6 (FX4_layFrom_l92 N rc q0 q1 x3 x4 x5 kx n) kx))) else (FX4_layFrom_b129 N rc s q0 q1 x3 x4 x5 x6 (FX4_layFrom_l92 N rc q0 q1 x3 x4 x5 kx n) kx)))))
set_option maxRecDepth 10000 in
set_option maxHeartbeats 4000000 in
theorem RX4_layFrom_l92 {d N nc Ls : Nat} {Xs : Nat → Int32} (hd : 2 ≤ d) {rc : iv_M → Nat → Nat → Int → Option iv_M} (hrc : ∀ {h : iv_H} {s : iv_M} (_ : Rep nc Ls Xs h s) {q0 : Nat} (t0 : T4 nc q0) {q1 : Nat} (t1 : T2 nc q1) {m2 : Int32} {x2 : Int} (p2 : m2.toInt = x2) {r : iv_M} {Q : Option Value → iv_H → Prop}, rc s q0 q1 x2 = some r → (∀ h1, Rep nc Ls Xs h1 r → Q none h1) → Cl (d - 1) 70 [.ref q0, .ref q1, .int m2] h Q) {q0 : Nat} (t0 : T4 nc q0) {q1 : Nat} (t1 : T2 nc q1) {m3 : Int32} {x3 : Int} (p3 : m3.toInt = x3) {m4 : Int32} {x4 : Int} (p4 : m4.toInt = x4) {m5 : Int32} {x5 : Int} (p5 : m5.toInt = x5) {kx : iv_M → Option (iv_M)} {r : iv_M} {Q : Option Value → iv_H → Prop} (hk : ∀ (h : iv_H) (s : iv_M) (hR : Rep nc Ls Xs h s), kx s = some r → Rn d 70 none 145 [some (.ref q0), some (.ref q1), none, some (.int m3), some (.int m4), some (.int m5), none] [] h Q) (hq : ∀ h1, Rep nc Ls Xs h1 r → Q none h1) : ∀ (n : Nat) (h : iv_H) (s : iv_M) (hR : Rep nc Ls Xs h s) (m6 : Int32) (x6 : Int) (p6 : m6.toInt = x6), FX4_layFrom_l92 N rc q0 q1 x3 x4 x5 kx n s x6 = some r → Rn d 70 none 92 [some (.ref q0), some (.ref q1), none, some (.int m3), some (.int m4), some (.int m5), some (.int m6)] [] h Q := by
  have hT := hX4_layFrom
  intro n
  induction n with
  | zero =>
    intro h s hR m6 x6 p6 e
    rw [FX4_layFrom_l92] at e
    cases e
  | succ n ih =>
    intro h s hR m6 x6 p6 e
    rw [FX4_layFrom_l92] at e
    refine Rn.n hT 2 (pc' := 95) (L' := [some (.ref q0), some (.ref q1), none, some (.int m3), some (.int m4), some (.int m5), some (.int m6)]) (st' := [.int (4 : Int32), .int m6]) rfl ?_
    by_cases c_793 : 4 ≤ x6
    · rw [if_pos c_793] at e
      refine Rn.bt hT rfl rfl rfl (decide_eq_true ((ti_le L32_4 p6).mpr c_793)) ?_
      exact Rn.weak (ll_s (ll_s (ll_n (ll_s (ll_s (ll_s (ll_n ll_e))))))) (hk h s hR e)
    · rw [if_neg c_793] at e
      refine Rn.bf hT rfl rfl rfl (decide_eq_false (fun z => c_793 ((ti_le L32_4 p6).mp z))) ?_
      refine Rn.n hT 1 (pc' := 99) (L' := [some (.ref q0), some (.ref q1), none, some (.int m3), some (.int m4), some (.int m5), some (.int m6)]) (st' := [.ref q0]) rfl ?_
      refine Rn.hp hT rfl rfl (gR_hp (rp_gR hR (T4_o t0) rfl)) ?_
      refine Rn.n hT 1 (pc' := 104) (L' := [some (.ref q0), some (.ref q1), none, some (.int m3), some (.int m4), some (.int m5), some (.int m6)]) (st' := [.int m5, .ref (q0 + 1)]) rfl ?_
      obtain ⟨v_794, e_794, e⟩ := Option.bind_eq_some_iff.mp e
      refine Rn.call hT rfl rfl rfl (Nat.le_of_ble_eq_true rfl) (rcv_v gX1_isEmptyCell (by omega) (rp_ck hR (T1_o (T4_0 t0)))) (RX1_isEmptyCell (by omega) hR (T4_0 t0) p5 e_794 (fun z_794 p_794 => ?_))
      show Rn d _ _ 107 [some (.ref q0), some (.ref q1), none, some (.int m3), some (.int m4), some (.int m5), some (.int m6)] [.int z_794] h Q
      by_cases c_795 : v_794 = 0
      · rw [if_pos c_795] at e
        refine Rn.bt hT rfl rfl rfl (decide_eq_true ((ti_e p_794 L32_0).mpr c_795)) ?_
        exact Rn.weak (ll_s (ll_s (ll_n (ll_s (ll_s (ll_s (ll_n ll_e))))))) (hk h s hR e)
      · rw [if_neg c_795] at e
        refine Rn.bf hT rfl rfl rfl (decide_eq_false (fun z => c_795 ((ti_e p_794 L32_0).mp z))) ?_
        refine Rn.n hT 1 (pc' := 112) (L' := [some (.ref q0), some (.ref q1), none, some (.int m3), some (.int m4), some (.int m5), some (.int m6)]) (st' := [.int m4]) rfl ?_
        by_cases c_796 : x4 = 0
        · rw [if_pos c_796] at e
          refine Rn.bf hT rfl rfl rfl (decide_eq_false (fun z => z ((ti_e p4 L32_0).mpr c_796))) ?_
          refine Rn.n hT 2 (pc' := 118) (L' := [some (.ref q0), some (.ref q1), none, some (.int m3), some (.int m4), some (.int m5), some (.int m6)]) (st' := [.ref q1, .int m6]) rfl ?_
          refine Rn.hp hT rfl rfl (gR_hp (rp_gR hR (T2_o t1) rfl)) ?_
          refine Rn.hp hT rfl rfl (gR_hp (rp_gR hR (T1_o (T2_9 t1)) rfl)) ?_
          refine Rn.n hT 1 (pc' := 125) (L' := [some (.ref q0), some (.ref q1), none, some (.int m3), some (.int m4), some (.int m5), some (.int m6)]) (st' := [.int m3, .ref ((q1 + 1) + 2), .int m6]) rfl ?_
          obtain ⟨v_797, e_797, e⟩ := Option.bind_eq_some_iff.mp e
          obtain ⟨z_797, g_797, p_797⟩ := rp_aI hR (T1_6 (T2_9 t1)) (T1_6l (T2_9 t1)) p3 e_797
          refine Rn.hp hT rfl rfl (aI_hp g_797) ?_
          by_cases c_798 : x6 = v_797
          · rw [if_pos c_798] at e
            refine Rn.bf hT rfl rfl rfl (decide_eq_false (fun z => z ((ti_e p6 p_797).mpr c_798))) ?_
            exact Rn.weak (ll_s (ll_s (ll_n (ll_s (ll_s (ll_s (ll_s ll_e))))))) (RX4_layFrom_b129 hd hrc hR t0 t1 p3 p4 p5 p6 ih hk hq e)
          · rw [if_neg c_798] at e
            refine Rn.bt hT rfl rfl rfl (decide_eq_true (fun z => c_798 ((ti_e p6 p_797).mp z))) ?_
            exact Rn.weak (ll_s (ll_s (ll_n (ll_s (ll_s (ll_s (ll_s ll_e))))))) (RX4_layFrom_b139 hd hrc hR t0 t1 p3 p4 p5 p6 ih hk hq e)
        · rw [if_neg c_796] at e
          refine Rn.bt hT rfl rfl rfl (decide_eq_true (fun z => c_796 ((ti_e p4 L32_0).mp z))) ?_
          exact Rn.weak (ll_s (ll_s (ll_n (ll_s (ll_s (ll_s (ll_s ll_e))))))) (RX4_layFrom_b129 hd hrc hR t0 t1 p3 p4 p5 p6 ih hk hq e)
def FX4_layFrom_b145 (N : Nat) (rc : iv_M → Nat → Nat → Int → Option iv_M) (s : iv_M) (q0 : Nat) (q1 : Nat) (x3 : Int) (x4 : Int) (x5 : Int)  (kb : iv_M → Int → Option (iv_M)) (kx : iv_M → Option (iv_M)) : Option (iv_M) := (if (s q0 3) = 0 then (kb s (w32 (x5 + 1))) else some s)
set_option maxRecDepth 10000 in
set_option maxHeartbeats 4000000 in
theorem RX4_layFrom_b145 {d N nc Ls : Nat} {Xs : Nat → Int32} (hd : 2 ≤ d) {rc : iv_M → Nat → Nat → Int → Option iv_M} (hrc : ∀ {h : iv_H} {s : iv_M} (_ : Rep nc Ls Xs h s) {q0 : Nat} (t0 : T4 nc q0) {q1 : Nat} (t1 : T2 nc q1) {m2 : Int32} {x2 : Int} (p2 : m2.toInt = x2) {r : iv_M} {Q : Option Value → iv_H → Prop}, rc s q0 q1 x2 = some r → (∀ h1, Rep nc Ls Xs h1 r → Q none h1) → Cl (d - 1) 70 [.ref q0, .ref q1, .int m2] h Q) {h : iv_H} {s : iv_M} (hR : Rep nc Ls Xs h s) {q0 : Nat} (t0 : T4 nc q0) {q1 : Nat} (t1 : T2 nc q1) {m3 : Int32} {x3 : Int} (p3 : m3.toInt = x3) {m4 : Int32} {x4 : Int} (p4 : m4.toInt = x4) {m5 : Int32} {x5 : Int} (p5 : m5.toInt = x5)  {kb : iv_M → Int → Option (iv_M)} {kx : iv_M → Option (iv_M)} {r : iv_M} {Q : Option Value → iv_H → Prop} (hb : ∀ (h : iv_H) (s : iv_M) (hR : Rep nc Ls Xs h s) (mw5 : Int32) (xw5 : Int) (pw5 : mw5.toInt = xw5), kb s xw5 = some r → Rn d 70 none 82 [some (.ref q0), some (.ref q1), none, some (.int m3), some (.int m4), some (.int mw5), none] [] h Q) (hk : ∀ (h : iv_H) (s : iv_M) (hR : Rep nc Ls Xs h s), kx s = some r → Rn d 70 none 159 [none, none, none, none, none, none, none] [] h Q) (hq : ∀ h1, Rep nc Ls Xs h1 r → Q none h1) (e : FX4_layFrom_b145 N rc s q0 q1 x3 x4 x5  kb kx = some r) : Rn d 70 none 145 [some (.ref q0), some (.ref q1), none, some (.int m3), some (.int m4), some (.int m5), none] [] h Q := by
  have hT := hX4_layFrom
  unfold FX4_layFrom_b145 at e
  refine Rn.n hT 1 (pc' := 146) (L' := [some (.ref q0), some (.ref q1), none, some (.int m3), some (.int m4), some (.int m5), none]) (st' := [.ref q0]) rfl ?_
  obtain ⟨z_801, g_801, p_801⟩ : ∃ z : Int32, gI h 4 3 q0 = some z ∧ z.toInt = s q0 3 := rp_gI (k := 3) hR (T4_o t0) rfl
  refine Rn.hp hT rfl rfl (gI_hp g_801) ?_
  by_cases c_802 : (s q0 3) = 0
  · rw [if_pos c_802] at e
    refine Rn.bt hT rfl rfl rfl (decide_eq_true ((ti_e p_801 L32_0).mpr c_802)) ?_
    refine Rn.n hT 2 (pc' := 82) (L' := [some (.ref q0), some (.ref q1), none, some (.int m3), some (.int m4), some (.int (m5 + (1 : Int32))), none]) (st' := []) rfl ?_
    exact Rn.weak (ll_s (ll_s (ll_n (ll_s (ll_s (ll_s (ll_n ll_e))))))) (hb h s hR (m5 + (1 : Int32)) (w32 (x5 + 1)) (ti_add p5 L32_1) e)
  · rw [if_neg c_802] at e
    refine Rn.bf hT rfl rfl rfl (decide_eq_false (fun z => c_802 ((ti_e p_801 L32_0).mp z))) ?_
    obtain rfl := Option.some.inj e
    exact Rn.ret hT rfl rfl rfl (hq h hR)
def FX4_layFrom_l82 (N : Nat) (rc : iv_M → Nat → Nat → Int → Option iv_M) (q0 : Nat) (q1 : Nat) (x3 : Int) (x4 : Int) (kx : iv_M → Option (iv_M)) : Nat → iv_M → Int → Option (iv_M)
  | 0, _, _ => none
  | n + 1, s, x5 => (if 16 ≤ x5 then (kx s) else (FX4_layFrom_l92 N rc q0 q1 x3 x4 x5 (fun (s_791 : iv_M) => (FX4_layFrom_b145 N rc s_791 q0 q1 x3 x4 x5 (FX4_layFrom_l82 N rc q0 q1 x3 x4 kx n) kx)) N s 0))
set_option maxRecDepth 10000 in
set_option maxHeartbeats 4000000 in
theorem RX4_layFrom_l82 {d N nc Ls : Nat} {Xs : Nat → Int32} (hd : 2 ≤ d) {rc : iv_M → Nat → Nat → Int → Option iv_M} (hrc : ∀ {h : iv_H} {s : iv_M} (_ : Rep nc Ls Xs h s) {q0 : Nat} (t0 : T4 nc q0) {q1 : Nat} (t1 : T2 nc q1) {m2 : Int32} {x2 : Int} (p2 : m2.toInt = x2) {r : iv_M} {Q : Option Value → iv_H → Prop}, rc s q0 q1 x2 = some r → (∀ h1, Rep nc Ls Xs h1 r → Q none h1) → Cl (d - 1) 70 [.ref q0, .ref q1, .int m2] h Q) {q0 : Nat} (t0 : T4 nc q0) {q1 : Nat} (t1 : T2 nc q1) {m3 : Int32} {x3 : Int} (p3 : m3.toInt = x3) {m4 : Int32} {x4 : Int} (p4 : m4.toInt = x4) {kx : iv_M → Option (iv_M)} {r : iv_M} {Q : Option Value → iv_H → Prop} (hk : ∀ (h : iv_H) (s : iv_M) (hR : Rep nc Ls Xs h s), kx s = some r → Rn d 70 none 159 [none, none, none, none, none, none, none] [] h Q) (hq : ∀ h1, Rep nc Ls Xs h1 r → Q none h1) : ∀ (n : Nat) (h : iv_H) (s : iv_M) (hR : Rep nc Ls Xs h s) (m5 : Int32) (x5 : Int) (p5 : m5.toInt = x5), FX4_layFrom_l82 N rc q0 q1 x3 x4 kx n s x5 = some r → Rn d 70 none 82 [some (.ref q0), some (.ref q1), none, some (.int m3), some (.int m4), some (.int m5), none] [] h Q := by
  have hT := hX4_layFrom
  intro n
  induction n with
  | zero =>
    intro h s hR m5 x5 p5 e
    rw [FX4_layFrom_l82] at e
    cases e
  | succ n ih =>
    intro h s hR m5 x5 p5 e
    rw [FX4_layFrom_l82] at e
    refine Rn.n hT 2 (pc' := 86) (L' := [some (.ref q0), some (.ref q1), none, some (.int m3), some (.int m4), some (.int m5), none]) (st' := [.int (16 : Int32), .int m5]) rfl ?_
    by_cases c_790 : 16 ≤ x5
    · rw [if_pos c_790] at e
      refine Rn.bt hT rfl rfl rfl (decide_eq_true ((ti_le L32_16 p5).mpr c_790)) ?_
      exact Rn.weak (ll_n (ll_n (ll_n (ll_n (ll_n (ll_n (ll_n ll_e))))))) (hk h s hR e)
    · rw [if_neg c_790] at e
      refine Rn.bf hT rfl rfl rfl (decide_eq_false (fun z => c_790 ((ti_le L32_16 p5).mp z))) ?_
      refine Rn.n hT 2 (pc' := 92) (L' := [some (.ref q0), some (.ref q1), none, some (.int m3), some (.int m4), some (.int m5), some (.int (0 : Int32))]) (st' := []) rfl ?_
      refine Rn.weak (ll_s (ll_s (ll_n (ll_s (ll_s (ll_s (ll_s ll_e))))))) (RX4_layFrom_l92 hd hrc t0 t1 p3 p4 p5 (fun h_791 s_791 R_791 e => ?_) hq N h s hR (0 : Int32) 0 L32_0 e)
      try dsimp only at e
      exact Rn.weak (ll_s (ll_s (ll_n (ll_s (ll_s (ll_s (ll_n ll_e))))))) (RX4_layFrom_b145 hd hrc R_791 t0 t1 p3 p4 p5 ih hk hq e)
def FX4_layFrom_b77 (N : Nat) (rc : iv_M → Nat → Nat → Int → Option iv_M) (s : iv_M) (q0 : Nat) (q1 : Nat) (x3 : Int) (xs0 : Int) : Option (iv_M) := (FX4_layFrom_l82 N rc q0 q1 x3 xs0 (fun (s_788 : iv_M) => some s_788) N s 0)
set_option maxRecDepth 10000 in
set_option maxHeartbeats 4000000 in
theorem RX4_layFrom_b77 {d N nc Ls : Nat} {Xs : Nat → Int32} (hd : 2 ≤ d) {rc : iv_M → Nat → Nat → Int → Option iv_M} (hrc : ∀ {h : iv_H} {s : iv_M} (_ : Rep nc Ls Xs h s) {q0 : Nat} (t0 : T4 nc q0) {q1 : Nat} (t1 : T2 nc q1) {m2 : Int32} {x2 : Int} (p2 : m2.toInt = x2) {r : iv_M} {Q : Option Value → iv_H → Prop}, rc s q0 q1 x2 = some r → (∀ h1, Rep nc Ls Xs h1 r → Q none h1) → Cl (d - 1) 70 [.ref q0, .ref q1, .int m2] h Q) {h : iv_H} {s : iv_M} (hR : Rep nc Ls Xs h s) {q0 : Nat} (t0 : T4 nc q0) {q1 : Nat} (t1 : T2 nc q1) {m3 : Int32} {x3 : Int} (p3 : m3.toInt = x3) {ms0 : Int32} {xs0 : Int} (ps0 : ms0.toInt = xs0) {r : iv_M} {Q : Option Value → iv_H → Prop} (hq : ∀ h1, Rep nc Ls Xs h1 r → Q none h1) (e : FX4_layFrom_b77 N rc s q0 q1 x3 xs0 = some r) : Rn d 70 none 77 [some (.ref q0), some (.ref q1), none, some (.int m3), none, none, none] [.int ms0] h Q := by
  have hT := hX4_layFrom
  unfold FX4_layFrom_b77 at e
  refine Rn.n hT 3 (pc' := 82) (L' := [some (.ref q0), some (.ref q1), none, some (.int m3), some (.int ms0), some (.int (0 : Int32)), none]) (st' := []) rfl ?_
  refine Rn.weak (ll_s (ll_s (ll_n (ll_s (ll_s (ll_s (ll_n ll_e))))))) (RX4_layFrom_l82 hd hrc t0 t1 p3 ps0 (fun h_788 s_788 R_788 e => ?_) hq N h s hR (0 : Int32) 0 L32_0 e)
  try dsimp only at e
  obtain rfl := Option.some.inj e
  exact Rn.ret hT rfl rfl rfl (hq h_788 R_788)
def FX4_layFrom_b27 (N : Nat) (rc : iv_M → Nat → Nat → Int → Option iv_M) (s : iv_M) (q0 : Nat) (q1 : Nat) (x3 : Int)  : Option (iv_M) := (if x3 < (s (q0 + 1) 2) then (if (bAn (s q1 1) 4) = 0 then (FX4_layFrom_b77 N rc s q0 q1 x3 0) else (FX4_layFrom_b77 N rc s q0 q1 x3 1)) else ((FX1_mismatches N s (q0 + 1)).bind fun v_784 => (if v_784 = 0 then (FX4_layFrom_b58 N rc s 1 (s q0 2) q0) else (FX4_layFrom_b58 N rc s 0 (s q0 2) q0))))
set_option maxRecDepth 10000 in
set_option maxHeartbeats 4000000 in
theorem RX4_layFrom_b27 {d N nc Ls : Nat} {Xs : Nat → Int32} (hd : 2 ≤ d) {rc : iv_M → Nat → Nat → Int → Option iv_M} (hrc : ∀ {h : iv_H} {s : iv_M} (_ : Rep nc Ls Xs h s) {q0 : Nat} (t0 : T4 nc q0) {q1 : Nat} (t1 : T2 nc q1) {m2 : Int32} {x2 : Int} (p2 : m2.toInt = x2) {r : iv_M} {Q : Option Value → iv_H → Prop}, rc s q0 q1 x2 = some r → (∀ h1, Rep nc Ls Xs h1 r → Q none h1) → Cl (d - 1) 70 [.ref q0, .ref q1, .int m2] h Q) {h : iv_H} {s : iv_M} (hR : Rep nc Ls Xs h s) {q0 : Nat} (t0 : T4 nc q0) {q1 : Nat} (t1 : T2 nc q1) {m3 : Int32} {x3 : Int} (p3 : m3.toInt = x3)  {r : iv_M} {Q : Option Value → iv_H → Prop} (hq : ∀ h1, Rep nc Ls Xs h1 r → Q none h1) (e : FX4_layFrom_b27 N rc s q0 q1 x3  = some r) : Rn d 70 none 27 [some (.ref q0), some (.ref q1), none, some (.int m3), none, none, none] [] h Q := by
  have hT := hX4_layFrom
  unfold FX4_layFrom_b27 at e
  refine Rn.n hT 2 (pc' := 29) (L' := [some (.ref q0), some (.ref q1), none, some (.int m3), none, none, none]) (st' := [.ref q0, .int m3]) rfl ?_
  refine Rn.hp hT rfl rfl (gR_hp (rp_gR hR (T4_o t0) rfl)) ?_
  obtain ⟨z_779, g_779, p_779⟩ : ∃ z : Int32, gI h 1 2 (q0 + 1) = some z ∧ z.toInt = s (q0 + 1) 2 := rp_gI (k := 2) hR (T1_o (T4_0 t0)) rfl
  refine Rn.hp hT rfl rfl (gI_hp g_779) ?_
  by_cases c_780 : x3 < (s (q0 + 1) 2)
  · rw [if_pos c_780] at e
    refine Rn.bt hT rfl rfl rfl (decide_eq_true ((ti_l p3 p_779).mpr c_780)) ?_
    refine Rn.n hT 1 (pc' := 64) (L' := [some (.ref q0), some (.ref q1), none, some (.int m3), none, none, none]) (st' := [.ref q1]) rfl ?_
    obtain ⟨z_781, g_781, p_781⟩ : ∃ z : Int32, gI h 2 1 q1 = some z ∧ z.toInt = s q1 1 := rp_gI (k := 1) hR (T2_o t1) rfl
    refine Rn.hp hT rfl rfl (gI_hp g_781) ?_
    refine Rn.n hT 2 (pc' := 69) (L' := [some (.ref q0), some (.ref q1), none, some (.int m3), none, none, none]) (st' := [.int (z_781 &&& (4 : Int32))]) rfl ?_
    by_cases c_782 : (bAn (s q1 1) 4) = 0
    · rw [if_pos c_782] at e
      refine Rn.bt hT rfl rfl rfl (decide_eq_true ((ti_e (ti_and p_781 L32_4) L32_0).mpr c_782)) ?_
      refine Rn.n hT 1 (pc' := 77) (L' := [some (.ref q0), some (.ref q1), none, some (.int m3), none, none, none]) (st' := [.int (0 : Int32)]) rfl ?_
      exact Rn.weak (ll_s (ll_s (ll_n (ll_s (ll_n (ll_n (ll_n ll_e))))))) (RX4_layFrom_b77 hd hrc hR t0 t1 p3 L32_0 hq e)
    · rw [if_neg c_782] at e
      refine Rn.bf hT rfl rfl rfl (decide_eq_false (fun z => c_782 ((ti_e (ti_and p_781 L32_4) L32_0).mp z))) ?_
      refine Rn.n hT 2 (pc' := 77) (L' := [some (.ref q0), some (.ref q1), none, some (.int m3), none, none, none]) (st' := [.int (1 : Int32)]) rfl ?_
      exact Rn.weak (ll_s (ll_s (ll_n (ll_s (ll_n (ll_n (ll_n ll_e))))))) (RX4_layFrom_b77 hd hrc hR t0 t1 p3 L32_1 hq e)
  · rw [if_neg c_780] at e
    refine Rn.bf hT rfl rfl rfl (decide_eq_false (fun z => c_780 ((ti_l p3 p_779).mp z))) ?_
    refine Rn.n hT 2 (pc' := 40) (L' := [some (.ref q0), some (.ref q1), none, some (.int m3), none, none, none]) (st' := [.ref q0, .ref q0]) rfl ?_
    obtain ⟨z_783, g_783, p_783⟩ : ∃ z : Int32, gI h 4 2 q0 = some z ∧ z.toInt = s q0 2 := rp_gI (k := 2) hR (T4_o t0) rfl
    refine Rn.hp hT rfl rfl (gI_hp g_783) ?_
    refine Rn.n hT 1 (pc' := 44) (L' := [some (.ref q0), some (.ref q1), none, some (.int m3), none, none, none]) (st' := [.ref q0, .int z_783, .ref q0]) rfl ?_
    refine Rn.hp hT rfl rfl (gR_hp (rp_gR hR (T4_o t0) rfl)) ?_
    obtain ⟨v_784, e_784, e⟩ := Option.bind_eq_some_iff.mp e
    refine Rn.call hT rfl rfl rfl (Nat.le_of_ble_eq_true rfl) (rcv_v gX1_mismatches (by omega) (rp_ck hR (T1_o (T4_0 t0)))) (RX1_mismatches (by omega) hR (T4_0 t0) e_784 (fun z_784 p_784 => ?_))
    show Rn d _ _ 50 [some (.ref q0), some (.ref q1), none, some (.int m3), none, none, none] [.int z_784, .int z_783, .ref q0] h Q
    by_cases c_785 : v_784 = 0
    · rw [if_pos c_785] at e
      refine Rn.bf hT rfl rfl rfl (decide_eq_false (fun z => z ((ti_e p_784 L32_0).mpr c_785))) ?_
      refine Rn.n hT 2 (pc' := 58) (L' := [some (.ref q0), some (.ref q1), none, some (.int m3), none, none, none]) (st' := [.int (1 : Int32), .int z_783, .ref q0]) rfl ?_
      exact Rn.weak (ll_n (ll_n (ll_n (ll_n (ll_n (ll_n (ll_n ll_e))))))) (RX4_layFrom_b58 hd hrc hR L32_1 p_783 t0 hq e)
    · rw [if_neg c_785] at e
      refine Rn.bt hT rfl rfl rfl (decide_eq_true (fun z => c_785 ((ti_e p_784 L32_0).mp z))) ?_
      refine Rn.n hT 1 (pc' := 58) (L' := [some (.ref q0), some (.ref q1), none, some (.int m3), none, none, none]) (st' := [.int (0 : Int32), .int z_783, .ref q0]) rfl ?_
      exact Rn.weak (ll_n (ll_n (ll_n (ll_n (ll_n (ll_n (ll_n ll_e))))))) (RX4_layFrom_b58 hd hrc hR L32_0 p_783 t0 hq e)
def FX4_layFrom_s (N : Nat) (rc : iv_M → Nat → Nat → Int → Option iv_M) (s : iv_M) (q0 : Nat) (q1 : Nat) (x2 : Int) : Option (iv_M) := (FX4_layFrom_l2 N rc q0 q1 (fun (s_773 : iv_M) (x774_3 : Int) => (FX4_layFrom_b27 N rc s_773 q0 q1 x774_3)) N s x2)
set_option maxRecDepth 10000 in
set_option maxHeartbeats 4000000 in
theorem RX4_layFrom_s {d N nc Ls : Nat} {Xs : Nat → Int32} (hd : 3 ≤ d) {rc : iv_M → Nat → Nat → Int → Option iv_M} (hrc : ∀ {h : iv_H} {s : iv_M} (_ : Rep nc Ls Xs h s) {q0 : Nat} (t0 : T4 nc q0) {q1 : Nat} (t1 : T2 nc q1) {m2 : Int32} {x2 : Int} (p2 : m2.toInt = x2) {r : iv_M} {Q : Option Value → iv_H → Prop}, rc s q0 q1 x2 = some r → (∀ h1, Rep nc Ls Xs h1 r → Q none h1) → Cl (d - 2) 70 [.ref q0, .ref q1, .int m2] h Q) {h : iv_H} {s : iv_M} (hR : Rep nc Ls Xs h s) {q0 : Nat} (t0 : T4 nc q0) {q1 : Nat} (t1 : T2 nc q1) {m2 : Int32} {x2 : Int} (p2 : m2.toInt = x2) {r : iv_M} {Q : Option Value → iv_H → Prop} (e : FX4_layFrom_s N rc s q0 q1 x2 = some r) (hq : ∀ h1, Rep nc Ls Xs h1 r → Q none h1) : Cl d 70 [.ref q0, .ref q1, .int m2] h Q := by
  obtain ⟨d, rfl⟩ : ∃ k, d = k + 1 := ⟨d - 1, by omega⟩
  have hd : 2 ≤ d := by omega
  have hT := hX4_layFrom
  unfold FX4_layFrom_s at e
  rw [show d + 1 - 2 = d - 1 from by omega] at hrc
  refine Cl.into (by decide) gX4_layFrom rfl ?_
  show Rn d 70 none 0 [some (.ref q0), some (.ref q1), some (.int m2), none, none, none, none] [] h Q
  refine Rn.n hT 2 (pc' := 2) (L' := [some (.ref q0), some (.ref q1), some (.int m2), some (.int m2), none, none, none]) (st' := []) rfl ?_
  refine Rn.weak (ll_s (ll_s (ll_n (ll_s (ll_n (ll_n (ll_n ll_e))))))) (RX4_layFrom_l2 hd hrc t0 t1 (fun h_773 s_773 R_773 m774_3 x774_3 p774_3 e => ?_) hq N h s hR m2 x2 p2 e)
  try dsimp only at e
  exact Rn.weak (ll_s (ll_s (ll_n (ll_s (ll_n (ll_n (ll_n ll_e))))))) (RX4_layFrom_b27 hd hrc R_773 t0 t1 p774_3 hq e)
def FX4_layFrom (N : Nat) : Nat → iv_M → Nat → Nat → Int → Option iv_M
  | 0, _, _, _, _ => none
  | n + 1, s, q0, q1, x2 => FX4_layFrom_s N (FX4_layFrom N n) s q0 q1 x2
theorem RX4_layFrom {N nc Ls : Nat} {Xs : Nat → Int32} : ∀ (n : Nat) {d : Nat} (_ : 3 + 2 * n ≤ d) {h : iv_H} {s : iv_M} (_ : Rep nc Ls Xs h s) {q0 : Nat} (t0 : T4 nc q0) {q1 : Nat} (t1 : T2 nc q1) {m2 : Int32} {x2 : Int} (p2 : m2.toInt = x2) {r : iv_M} {Q : Option Value → iv_H → Prop} (_ : FX4_layFrom N n s q0 q1 x2 = some r) (_ : ∀ h1, Rep nc Ls Xs h1 r → Q none h1), Cl d 70 [.ref q0, .ref q1, .int m2] h Q := by
  intro n
  induction n with
  | zero => intro d hd h s hR q0 t0 q1 t1 m2 x2 p2 r Q e hq; rw [FX4_layFrom] at e; cases e
  | succ n ih =>
    intro d hd h s hR q0 t0 q1 t1 m2 x2 p2 r Q e hq
    rw [FX4_layFrom] at e
    exact RX4_layFrom_s (by omega) (fun {h s} hR {q0} t0 {q1} t1 {m2 x2} p2 {r Q} e hq => ih (by omega) hR t0 t1 p2 e hq) hR t0 t1 p2 e hq
set_option maxRecDepth 10000 in
theorem hX4_layRooms : iv_Tb 69 tX4_layRooms := iv_tb_of (m := mX4_layRooms) rfl
set_option maxRecDepth 10000 in
theorem gX4_layRooms : PG.2 69 = some mX4_layRooms := iv_pi_of (t := tX4_layRooms) rfl (by decide)
def FX4_layRooms_b55 (N : Nat) (s : iv_M) (q0 : Nat) (q1 : Nat) (x2 : Int)  (kb : iv_M → Int → Option (Int × iv_M)) (kx : iv_M → Option (Int × iv_M)) : Option (Int × iv_M) := (kb s (w32 (x2 + 1)))
set_option maxRecDepth 10000 in
set_option maxHeartbeats 4000000 in
theorem RX4_layRooms_b55 {d N nc Ls : Nat} {Xs : Nat → Int32} (hd : 43 ≤ d) {h : iv_H} {s : iv_M} (hR : Rep nc Ls Xs h s) {q0 : Nat} (t0 : T4 nc q0) {q1 : Nat} (t1 : T2 nc q1) {m2 : Int32} {x2 : Int} (p2 : m2.toInt = x2)  {kb : iv_M → Int → Option (Int × iv_M)} {kx : iv_M → Option (Int × iv_M)} {r : Int × iv_M} {Q : Option Value → iv_H → Prop} (hb : ∀ (h : iv_H) (s : iv_M) (hR : Rep nc Ls Xs h s) (mw2 : Int32) (xw2 : Int) (pw2 : mw2.toInt = xw2), kb s xw2 = some r → Rn d 69 (some .int) 28 [some (.ref q0), some (.ref q1), some (.int mw2)] [] h Q) (hk : ∀ (h : iv_H) (s : iv_M) (hR : Rep nc Ls Xs h s), kx s = some r → Rn d 69 (some .int) 61 [some (.ref q0), some (.ref q1), none] [] h Q) (hq : ∀ (z : Int32) (h1 : iv_H), z.toInt = r.1 → Rep nc Ls Xs h1 r.2 → Q (some (.int z)) h1) (e : FX4_layRooms_b55 N s q0 q1 x2  kb kx = some r) : Rn d 69 (some .int) 55 [some (.ref q0), some (.ref q1), some (.int m2)] [] h Q := by
  have hT := hX4_layRooms
  unfold FX4_layRooms_b55 at e
  refine Rn.n hT 2 (pc' := 28) (L' := [some (.ref q0), some (.ref q1), some (.int (m2 + (1 : Int32)))]) (st' := []) rfl ?_
  exact Rn.weak (ll_s (ll_s (ll_s ll_e))) (hb h s hR (m2 + (1 : Int32)) (w32 (x2 + 1)) (ti_add p2 L32_1) e)
def FX4_layRooms_l28 (N : Nat) (q0 : Nat) (q1 : Nat) (kx : iv_M → Option (Int × iv_M)) : Nat → iv_M → Int → Option (Int × iv_M)
  | 0, _, _ => none
  | n + 1, s, x2 => (if (s (q0 + 1) 2) ≤ x2 then (kx s) else ((FX2_isFixed N s q1 x2).bind fun v_822 => (if v_822 = 0 then ((FX1_take N s (q0 + 1) x2).bind fun s_825 => (FX4_layRooms_b55 N s_825 q0 q1 x2 (FX4_layRooms_l28 N q0 q1 kx n) kx)) else (FX4_layRooms_b55 N s q0 q1 x2 (FX4_layRooms_l28 N q0 q1 kx n) kx))))
set_option maxRecDepth 10000 in
set_option maxHeartbeats 4000000 in
theorem RX4_layRooms_l28 {d N nc Ls : Nat} {Xs : Nat → Int32} (hd : 43 ≤ d) {q0 : Nat} (t0 : T4 nc q0) {q1 : Nat} (t1 : T2 nc q1) {kx : iv_M → Option (Int × iv_M)} {r : Int × iv_M} {Q : Option Value → iv_H → Prop} (hk : ∀ (h : iv_H) (s : iv_M) (hR : Rep nc Ls Xs h s), kx s = some r → Rn d 69 (some .int) 61 [some (.ref q0), some (.ref q1), none] [] h Q) (hq : ∀ (z : Int32) (h1 : iv_H), z.toInt = r.1 → Rep nc Ls Xs h1 r.2 → Q (some (.int z)) h1) : ∀ (n : Nat) (h : iv_H) (s : iv_M) (hR : Rep nc Ls Xs h s) (m2 : Int32) (x2 : Int) (p2 : m2.toInt = x2), FX4_layRooms_l28 N q0 q1 kx n s x2 = some r → Rn d 69 (some .int) 28 [some (.ref q0), some (.ref q1), some (.int m2)] [] h Q := by
  have hT := hX4_layRooms
  intro n
  induction n with
  | zero =>
    intro h s hR m2 x2 p2 e
    rw [FX4_layRooms_l28] at e
    cases e
  | succ n ih =>
    intro h s hR m2 x2 p2 e
    rw [FX4_layRooms_l28] at e
    refine Rn.n hT 2 (pc' := 30) (L' := [some (.ref q0), some (.ref q1), some (.int m2)]) (st' := [.ref q0, .int m2]) rfl ?_
    refine Rn.hp hT rfl rfl (gR_hp (rp_gR hR (T4_o t0) rfl)) ?_
    obtain ⟨z_820, g_820, p_820⟩ : ∃ z : Int32, gI h 1 2 (q0 + 1) = some z ∧ z.toInt = s (q0 + 1) 2 := rp_gI (k := 2) hR (T1_o (T4_0 t0)) rfl
    refine Rn.hp hT rfl rfl (gI_hp g_820) ?_
    by_cases c_821 : (s (q0 + 1) 2) ≤ x2
    · rw [if_pos c_821] at e
      refine Rn.bt hT rfl rfl rfl (decide_eq_true ((ti_le p_820 p2).mpr c_821)) ?_
      exact Rn.weak (ll_s (ll_s (ll_n ll_e))) (hk h s hR e)
    · rw [if_neg c_821] at e
      refine Rn.bf hT rfl rfl rfl (decide_eq_false (fun z => c_821 ((ti_le p_820 p2).mp z))) ?_
      refine Rn.n hT 2 (pc' := 41) (L' := [some (.ref q0), some (.ref q1), some (.int m2)]) (st' := [.int m2, .ref q1]) rfl ?_
      obtain ⟨v_822, e_822, e⟩ := Option.bind_eq_some_iff.mp e
      refine Rn.call hT rfl rfl rfl (Nat.le_of_ble_eq_true rfl) (rcv_v gX2_isFixed (by omega) (rp_ck hR (T2_o t1))) (RX2_isFixed (by omega) hR t1 p2 e_822 (fun z_822 p_822 => ?_))
      show Rn d _ _ 44 [some (.ref q0), some (.ref q1), some (.int m2)] [.int z_822] h Q
      by_cases c_823 : v_822 = 0
      · rw [if_pos c_823] at e
        refine Rn.bf hT rfl rfl rfl (decide_eq_false (fun z => z ((ti_e p_822 L32_0).mpr c_823))) ?_
        refine Rn.n hT 1 (pc' := 48) (L' := [some (.ref q0), some (.ref q1), some (.int m2)]) (st' := [.ref q0]) rfl ?_
        refine Rn.hp hT rfl rfl (gR_hp (rp_gR hR (T4_o t0) rfl)) ?_
        refine Rn.n hT 1 (pc' := 52) (L' := [some (.ref q0), some (.ref q1), some (.int m2)]) (st' := [.int m2, .ref (q0 + 1)]) rfl ?_
        obtain ⟨s_825, e_824, e⟩ := Option.bind_eq_some_iff.mp e
        refine Rn.call hT rfl rfl rfl (Nat.le_of_ble_eq_true rfl) (rcv_v gX1_take (by omega) (rp_ck hR (T1_o (T4_0 t0)))) (RX1_take (by omega) hR (T4_0 t0) p2 e_824 (fun h_825 R_825 => ?_))
        show Rn d _ _ 55 [some (.ref q0), some (.ref q1), some (.int m2)] [] h_825 Q
        exact Rn.weak (ll_s (ll_s (ll_s ll_e))) (RX4_layRooms_b55 hd R_825 t0 t1 p2 ih hk hq e)
      · rw [if_neg c_823] at e
        refine Rn.bt hT rfl rfl rfl (decide_eq_true (fun z => c_823 ((ti_e p_822 L32_0).mp z))) ?_
        exact Rn.weak (ll_s (ll_s (ll_s ll_e))) (RX4_layRooms_b55 hd hR t0 t1 p2 ih hk hq e)
def FX4_layRooms_b95 (N : Nat) (s : iv_M) (q0 : Nat) (q1 : Nat) (x2 : Int)  (kb : iv_M → Int → Option (Int × iv_M)) (kx : iv_M → Option (Int × iv_M)) : Option (Int × iv_M) := (kb s (w32 (x2 + 1)))
set_option maxRecDepth 10000 in
set_option maxHeartbeats 4000000 in
theorem RX4_layRooms_b95 {d N nc Ls : Nat} {Xs : Nat → Int32} (hd : 43 ≤ d) {h : iv_H} {s : iv_M} (hR : Rep nc Ls Xs h s) {q0 : Nat} (t0 : T4 nc q0) {q1 : Nat} (t1 : T2 nc q1) {m2 : Int32} {x2 : Int} (p2 : m2.toInt = x2)  {kb : iv_M → Int → Option (Int × iv_M)} {kx : iv_M → Option (Int × iv_M)} {r : Int × iv_M} {Q : Option Value → iv_H → Prop} (hb : ∀ (h : iv_H) (s : iv_M) (hR : Rep nc Ls Xs h s) (mw2 : Int32) (xw2 : Int) (pw2 : mw2.toInt = xw2), kb s xw2 = some r → Rn d 69 (some .int) 63 [some (.ref q0), some (.ref q1), some (.int mw2)] [] h Q) (hk : ∀ (h : iv_H) (s : iv_M) (hR : Rep nc Ls Xs h s), kx s = some r → Rn d 69 (some .int) 101 [some (.ref q0), some (.ref q1), none] [] h Q) (hq : ∀ (z : Int32) (h1 : iv_H), z.toInt = r.1 → Rep nc Ls Xs h1 r.2 → Q (some (.int z)) h1) (e : FX4_layRooms_b95 N s q0 q1 x2  kb kx = some r) : Rn d 69 (some .int) 95 [some (.ref q0), some (.ref q1), some (.int m2)] [] h Q := by
  have hT := hX4_layRooms
  unfold FX4_layRooms_b95 at e
  refine Rn.n hT 2 (pc' := 63) (L' := [some (.ref q0), some (.ref q1), some (.int (m2 + (1 : Int32)))]) (st' := []) rfl ?_
  exact Rn.weak (ll_s (ll_s (ll_s ll_e))) (hb h s hR (m2 + (1 : Int32)) (w32 (x2 + 1)) (ti_add p2 L32_1) e)
def FX4_layRooms_l63 (N : Nat) (q0 : Nat) (q1 : Nat) (kx : iv_M → Option (Int × iv_M)) : Nat → iv_M → Int → Option (Int × iv_M)
  | 0, _, _ => none
  | n + 1, s, x2 => (if (s (q0 + 1) 2) ≤ x2 then (kx s) else ((FX2_isFixed N s q1 x2).bind fun v_828 => (if v_828 = 0 then (FX4_layRooms_b95 N s q0 q1 x2 (FX4_layRooms_l63 N q0 q1 kx n) kx) else ((FX1_fits N s (q0 + 1) x2).bind fun v_830 => (if v_830 = 0 then (some (0, s)) else (FX4_layRooms_b95 N s q0 q1 x2 (FX4_layRooms_l63 N q0 q1 kx n) kx))))))
set_option maxRecDepth 10000 in
set_option maxHeartbeats 4000000 in
theorem RX4_layRooms_l63 {d N nc Ls : Nat} {Xs : Nat → Int32} (hd : 43 ≤ d) {q0 : Nat} (t0 : T4 nc q0) {q1 : Nat} (t1 : T2 nc q1) {kx : iv_M → Option (Int × iv_M)} {r : Int × iv_M} {Q : Option Value → iv_H → Prop} (hk : ∀ (h : iv_H) (s : iv_M) (hR : Rep nc Ls Xs h s), kx s = some r → Rn d 69 (some .int) 101 [some (.ref q0), some (.ref q1), none] [] h Q) (hq : ∀ (z : Int32) (h1 : iv_H), z.toInt = r.1 → Rep nc Ls Xs h1 r.2 → Q (some (.int z)) h1) : ∀ (n : Nat) (h : iv_H) (s : iv_M) (hR : Rep nc Ls Xs h s) (m2 : Int32) (x2 : Int) (p2 : m2.toInt = x2), FX4_layRooms_l63 N q0 q1 kx n s x2 = some r → Rn d 69 (some .int) 63 [some (.ref q0), some (.ref q1), some (.int m2)] [] h Q := by
  have hT := hX4_layRooms
  intro n
  induction n with
  | zero =>
    intro h s hR m2 x2 p2 e
    rw [FX4_layRooms_l63] at e
    cases e
  | succ n ih =>
    intro h s hR m2 x2 p2 e
    rw [FX4_layRooms_l63] at e
    refine Rn.n hT 2 (pc' := 65) (L' := [some (.ref q0), some (.ref q1), some (.int m2)]) (st' := [.ref q0, .int m2]) rfl ?_
    refine Rn.hp hT rfl rfl (gR_hp (rp_gR hR (T4_o t0) rfl)) ?_
    obtain ⟨z_826, g_826, p_826⟩ : ∃ z : Int32, gI h 1 2 (q0 + 1) = some z ∧ z.toInt = s (q0 + 1) 2 := rp_gI (k := 2) hR (T1_o (T4_0 t0)) rfl
    refine Rn.hp hT rfl rfl (gI_hp g_826) ?_
    by_cases c_827 : (s (q0 + 1) 2) ≤ x2
    · rw [if_pos c_827] at e
      refine Rn.bt hT rfl rfl rfl (decide_eq_true ((ti_le p_826 p2).mpr c_827)) ?_
      exact Rn.weak (ll_s (ll_s (ll_n ll_e))) (hk h s hR e)
    · rw [if_neg c_827] at e
      refine Rn.bf hT rfl rfl rfl (decide_eq_false (fun z => c_827 ((ti_le p_826 p2).mp z))) ?_
      refine Rn.n hT 2 (pc' := 76) (L' := [some (.ref q0), some (.ref q1), some (.int m2)]) (st' := [.int m2, .ref q1]) rfl ?_
      obtain ⟨v_828, e_828, e⟩ := Option.bind_eq_some_iff.mp e
      refine Rn.call hT rfl rfl rfl (Nat.le_of_ble_eq_true rfl) (rcv_v gX2_isFixed (by omega) (rp_ck hR (T2_o t1))) (RX2_isFixed (by omega) hR t1 p2 e_828 (fun z_828 p_828 => ?_))
      show Rn d _ _ 79 [some (.ref q0), some (.ref q1), some (.int m2)] [.int z_828] h Q
      by_cases c_829 : v_828 = 0
      · rw [if_pos c_829] at e
        refine Rn.bt hT rfl rfl rfl (decide_eq_true ((ti_e p_828 L32_0).mpr c_829)) ?_
        exact Rn.weak (ll_s (ll_s (ll_s ll_e))) (RX4_layRooms_b95 hd hR t0 t1 p2 ih hk hq e)
      · rw [if_neg c_829] at e
        refine Rn.bf hT rfl rfl rfl (decide_eq_false (fun z => c_829 ((ti_e p_828 L32_0).mp z))) ?_
        refine Rn.n hT 1 (pc' := 83) (L' := [some (.ref q0), some (.ref q1), some (.int m2)]) (st' := [.ref q0]) rfl ?_
        refine Rn.hp hT rfl rfl (gR_hp (rp_gR hR (T4_o t0) rfl)) ?_
        refine Rn.n hT 1 (pc' := 87) (L' := [some (.ref q0), some (.ref q1), some (.int m2)]) (st' := [.int m2, .ref (q0 + 1)]) rfl ?_
        obtain ⟨v_830, e_830, e⟩ := Option.bind_eq_some_iff.mp e
        refine Rn.call hT rfl rfl rfl (Nat.le_of_ble_eq_true rfl) (rcv_v gX1_fits (by omega) (rp_ck hR (T1_o (T4_0 t0)))) (RX1_fits (by omega) hR (T4_0 t0) p2 e_830 (fun z_830 p_830 => ?_))
        show Rn d _ _ 90 [some (.ref q0), some (.ref q1), some (.int m2)] [.int z_830] h Q
        by_cases c_831 : v_830 = 0
        · rw [if_pos c_831] at e
          refine Rn.bf hT rfl rfl rfl (decide_eq_false (fun z => z ((ti_e p_830 L32_0).mpr c_831))) ?_
          refine Rn.n hT 1 (pc' := 94) (L' := [some (.ref q0), some (.ref q1), some (.int m2)]) (st' := [.int (0 : Int32)]) rfl ?_
          obtain rfl := Option.some.inj e
          exact Rn.ret hT rfl rfl rfl (hq (0 : Int32) h L32_0 hR)
        · rw [if_neg c_831] at e
          refine Rn.bt hT rfl rfl rfl (decide_eq_true (fun z => c_831 ((ti_e p_830 L32_0).mp z))) ?_
          exact Rn.weak (ll_s (ll_s (ll_s ll_e))) (RX4_layRooms_b95 hd hR t0 t1 p2 ih hk hq e)
def FX4_layRooms_b123 (N : Nat) (s : iv_M)  (xs0 : Int) : Option (Int × iv_M) := (some (xs0, s))
set_option maxRecDepth 10000 in
set_option maxHeartbeats 4000000 in
theorem RX4_layRooms_b123 {d N nc Ls : Nat} {Xs : Nat → Int32} (hd : 43 ≤ d) {h : iv_H} {s : iv_M} (hR : Rep nc Ls Xs h s)  {ms0 : Int32} {xs0 : Int} (ps0 : ms0.toInt = xs0) {r : Int × iv_M} {Q : Option Value → iv_H → Prop} (hq : ∀ (z : Int32) (h1 : iv_H), z.toInt = r.1 → Rep nc Ls Xs h1 r.2 → Q (some (.int z)) h1) (e : FX4_layRooms_b123 N s  xs0 = some r) : Rn d 69 (some .int) 123 [none, none, none] [.int ms0] h Q := by
  have hT := hX4_layRooms
  unfold FX4_layRooms_b123 at e
  obtain rfl := Option.some.inj e
  exact Rn.ret hT rfl rfl rfl (hq ms0 h ps0 hR)
def FX4_layRooms (N : Nat) (s : iv_M) (q0 : Nat) (q1 : Nat) : Option (Int × iv_M) := ((pt s q0 1 0).bind fun s_803 => ((pt s_803 q0 2 0).bind fun s_805 => ((pt s_805 q0 3 0).bind fun s_807 => ((FX1_copyFrom N s_807 (q0 + 1) (q1 + 1)).bind fun s_810 => (FX4_layRooms_l28 N q0 q1 (fun (s_811 : iv_M) => (FX4_layRooms_l63 N q0 q1 (fun (s_813 : iv_M) => ((FX4_layFrom N 20 s_813 q0 q1 0).bind fun s_816 => (if (s_816 q0 3) = 0 then (FX4_layRooms_b123 N s_816 (s_816 q0 2)) else (FX4_layRooms_b123 N s_816 (-3))))) N s_811 0)) N s_810 0)))))
set_option maxRecDepth 10000 in
set_option maxHeartbeats 4000000 in
theorem RX4_layRooms {d N nc Ls : Nat} {Xs : Nat → Int32} (hd : 44 ≤ d) {h : iv_H} {s : iv_M} (hR : Rep nc Ls Xs h s) {q0 : Nat} (t0 : T4 nc q0) {q1 : Nat} (t1 : T2 nc q1) {r : Int × iv_M} {Q : Option Value → iv_H → Prop} (e : FX4_layRooms N s q0 q1 = some r) (hq : ∀ (z : Int32) (h1 : iv_H), z.toInt = r.1 → Rep nc Ls Xs h1 r.2 → Q (some (.int z)) h1) : Cl d 69 [.ref q0, .ref q1] h Q := by
  obtain ⟨d, rfl⟩ : ∃ k, d = k + 1 := ⟨d - 1, by omega⟩
  have hd : 43 ≤ d := by omega
  have hT := hX4_layRooms
  unfold FX4_layRooms at e
  refine Cl.into (by decide) gX4_layRooms rfl ?_
  show Rn d 69 (some .int) 0 [some (.ref q0), some (.ref q1), none] [] h Q
  refine Rn.n hT 2 (pc' := 2) (L' := [some (.ref q0), some (.ref q1), none]) (st' := [.int (0 : Int32), .ref q0]) rfl ?_
  obtain ⟨s_803, e_804, e⟩ := Option.bind_eq_some_iff.mp e
  obtain ⟨h_803, g_804, R_803⟩ := rp_pI (ci := 4) (k := 1) hR (T4_o t0) rfl rfl L32_0 e_804
  refine Rn.hp hT rfl rfl (pV_hp rfl g_804) ?_
  refine Rn.n hT 2 (pc' := 7) (L' := [some (.ref q0), some (.ref q1), none]) (st' := [.int (0 : Int32), .ref q0]) rfl ?_
  obtain ⟨s_805, e_806, e⟩ := Option.bind_eq_some_iff.mp e
  obtain ⟨h_805, g_806, R_805⟩ := rp_pI (ci := 4) (k := 2) R_803 (T4_o t0) rfl rfl L32_0 e_806
  refine Rn.hp hT rfl rfl (pV_hp rfl g_806) ?_
  refine Rn.n hT 2 (pc' := 12) (L' := [some (.ref q0), some (.ref q1), none]) (st' := [.int (0 : Int32), .ref q0]) rfl ?_
  obtain ⟨s_807, e_808, e⟩ := Option.bind_eq_some_iff.mp e
  obtain ⟨h_807, g_808, R_807⟩ := rp_pI (ci := 4) (k := 3) R_805 (T4_o t0) rfl rfl L32_0 e_808
  refine Rn.hp hT rfl rfl (pV_hp (by decide) g_808) ?_
  refine Rn.n hT 1 (pc' := 16) (L' := [some (.ref q0), some (.ref q1), none]) (st' := [.ref q0]) rfl ?_
  refine Rn.hp hT rfl rfl (gR_hp (rp_gR R_807 (T4_o t0) rfl)) ?_
  refine Rn.n hT 1 (pc' := 20) (L' := [some (.ref q0), some (.ref q1), none]) (st' := [.ref q1, .ref (q0 + 1)]) rfl ?_
  refine Rn.hp hT rfl rfl (gR_hp (rp_gR R_807 (T2_o t1) rfl)) ?_
  obtain ⟨s_810, e_809, e⟩ := Option.bind_eq_some_iff.mp e
  refine Rn.call hT rfl rfl rfl (Nat.le_of_ble_eq_true rfl) (rcv_v gX1_copyFrom (by omega) (rp_ck R_807 (T1_o (T4_0 t0)))) (RX1_copyFrom (by omega) R_807 (T4_0 t0) (T2_9 t1) e_809 (fun h_810 R_810 => ?_))
  show Rn d _ _ 26 [some (.ref q0), some (.ref q1), none] [] h_810 Q
  refine Rn.n hT 2 (pc' := 28) (L' := [some (.ref q0), some (.ref q1), some (.int (0 : Int32))]) (st' := []) rfl ?_
  refine Rn.weak (ll_s (ll_s (ll_s ll_e))) (RX4_layRooms_l28 hd t0 t1 (fun h_811 s_811 R_811 e => ?_) hq N h_810 s_810 R_810 (0 : Int32) 0 L32_0 e)
  try dsimp only at e
  refine Rn.n hT 2 (pc' := 63) (L' := [some (.ref q0), some (.ref q1), some (.int (0 : Int32))]) (st' := []) rfl ?_
  refine Rn.weak (ll_s (ll_s (ll_s ll_e))) (RX4_layRooms_l63 hd t0 t1 (fun h_813 s_813 R_813 e => ?_) hq N h_811 s_811 R_811 (0 : Int32) 0 L32_0 e)
  try dsimp only at e
  refine Rn.n hT 3 (pc' := 104) (L' := [some (.ref q0), some (.ref q1), none]) (st' := [.int (0 : Int32), .ref q1, .ref q0]) rfl ?_
  obtain ⟨s_816, e_815, e⟩ := Option.bind_eq_some_iff.mp e
  refine Rn.call hT rfl rfl rfl (Nat.le_of_ble_eq_true rfl) (rcv_v gX4_layFrom (by omega) (rp_ck R_813 (T4_o t0))) (RX4_layFrom 20 (by omega) R_813 t0 t1 L32_0 e_815 (fun h_816 R_816 => ?_))
  show Rn d _ _ 107 [some (.ref q0), some (.ref q1), none] [] h_816 Q
  refine Rn.n hT 1 (pc' := 108) (L' := [some (.ref q0), some (.ref q1), none]) (st' := [.ref q0]) rfl ?_
  obtain ⟨z_817, g_817, p_817⟩ : ∃ z : Int32, gI h_816 4 3 q0 = some z ∧ z.toInt = s_816 q0 3 := rp_gI (k := 3) R_816 (T4_o t0) rfl
  refine Rn.hp hT rfl rfl (gI_hp g_817) ?_
  by_cases c_818 : (s_816 q0 3) = 0
  · rw [if_pos c_818] at e
    refine Rn.bt hT rfl rfl rfl (decide_eq_true ((ti_e p_817 L32_0).mpr c_818)) ?_
    refine Rn.n hT 1 (pc' := 120) (L' := [some (.ref q0), some (.ref q1), none]) (st' := [.ref q0]) rfl ?_
    obtain ⟨z_819, g_819, p_819⟩ : ∃ z : Int32, gI h_816 4 2 q0 = some z ∧ z.toInt = s_816 q0 2 := rp_gI (k := 2) R_816 (T4_o t0) rfl
    refine Rn.hp hT rfl rfl (gI_hp g_819) ?_
    exact Rn.weak (ll_n (ll_n (ll_n ll_e))) (RX4_layRooms_b123 hd R_816 p_819 hq e)
  · rw [if_neg c_818] at e
    refine Rn.bf hT rfl rfl rfl (decide_eq_false (fun z => c_818 ((ti_e p_817 L32_0).mp z))) ?_
    refine Rn.n hT 2 (pc' := 123) (L' := [some (.ref q0), some (.ref q1), none]) (st' := [.int (-3 : Int32)]) rfl ?_
    exact Rn.weak (ll_n (ll_n (ll_n ll_e))) (RX4_layRooms_b123 hd R_816 L32_m3 hq e)
set_option maxRecDepth 10000 in
theorem hX4_layPeople : iv_Tb 72 tX4_layPeople := iv_tb_of (m := mX4_layPeople) rfl
set_option maxRecDepth 10000 in
theorem gX4_layPeople : PG.2 72 = some mX4_layPeople := iv_pi_of (t := tX4_layPeople) rfl (by decide)
def FX4_layPeople_b114 (N : Nat) (s : iv_M) (q0 : Nat) (q1 : Nat) (x2 : Int) (x3 : Int) (x4 : Int) (x5 : Int)  (kb : iv_M → Int → Option (Int × iv_M)) (kx : iv_M → Option (Int × iv_M)) : Option (Int × iv_M) := (kb s (w32 (x5 + 1)))
set_option maxRecDepth 10000 in
set_option maxHeartbeats 4000000 in
theorem RX4_layPeople_b114 {d N nc Ls : Nat} {Xs : Nat → Int32} (hd : 1 ≤ d) {h : iv_H} {s : iv_M} (hR : Rep nc Ls Xs h s) {q0 : Nat} (t0 : T4 nc q0) {q1 : Nat} (t1 : T2 nc q1) {m2 : Int32} {x2 : Int} (p2 : m2.toInt = x2) {m3 : Int32} {x3 : Int} (p3 : m3.toInt = x3) {m4 : Int32} {x4 : Int} (p4 : m4.toInt = x4) {m5 : Int32} {x5 : Int} (p5 : m5.toInt = x5)  {kb : iv_M → Int → Option (Int × iv_M)} {kx : iv_M → Option (Int × iv_M)} {r : Int × iv_M} {Q : Option Value → iv_H → Prop} (hb : ∀ (h : iv_H) (s : iv_M) (hR : Rep nc Ls Xs h s) (mw5 : Int32) (xw5 : Int) (pw5 : mw5.toInt = xw5), kb s xw5 = some r → Rn d 72 (some .int) 48 [some (.ref q0), some (.ref q1), some (.int m2), some (.int m3), some (.int m4), some (.int mw5)] [] h Q) (hk : ∀ (h : iv_H) (s : iv_M) (hR : Rep nc Ls Xs h s), kx s = some r → Rn d 72 (some .int) 120 [some (.ref q0), some (.ref q1), some (.int m2), some (.int m3), some (.int m4), none] [] h Q) (hq : ∀ (z : Int32) (h1 : iv_H), z.toInt = r.1 → Rep nc Ls Xs h1 r.2 → Q (some (.int z)) h1) (e : FX4_layPeople_b114 N s q0 q1 x2 x3 x4 x5  kb kx = some r) : Rn d 72 (some .int) 114 [some (.ref q0), some (.ref q1), some (.int m2), some (.int m3), some (.int m4), some (.int m5)] [] h Q := by
  have hT := hX4_layPeople
  unfold FX4_layPeople_b114 at e
  refine Rn.n hT 2 (pc' := 48) (L' := [some (.ref q0), some (.ref q1), some (.int m2), some (.int m3), some (.int m4), some (.int (m5 + (1 : Int32)))]) (st' := []) rfl ?_
  exact Rn.weak (ll_s (ll_s (ll_s (ll_s (ll_s (ll_s ll_e)))))) (hb h s hR (m5 + (1 : Int32)) (w32 (x5 + 1)) (ti_add p5 L32_1) e)
def FX4_layPeople_l48 (N : Nat) (q0 : Nat) (q1 : Nat) (x2 : Int) (x3 : Int) (x4 : Int) (kx : iv_M → Option (Int × iv_M)) : Nat → iv_M → Int → Option (Int × iv_M)
  | 0, _, _ => none
  | n + 1, s, x5 => (if (s q1 2) ≤ x5 then (kx s) else ((rd s (q0 + 9) 64 x4).bind fun v_849 => (if v_849 ≤ 0 then (kx s) else (if (bAn (sr32 x4 x5) 1) = 0 then ((rd s (q0 + 8) 6 x5).bind fun v_852 => (if (bAn (sr32 v_852 x3) 1) = 1 then ((rd s (q0 + 9) 64 (bOr x4 (sl32 1 x5))).bind fun v_854 => ((rd s (q0 + 9) 64 x4).bind fun v_855 => ((wr s (q0 + 9) 64 (bOr x4 (sl32 1 x5)) (w32 (v_854 + v_855))).bind fun s_856 => (FX4_layPeople_b114 N s_856 q0 q1 x2 x3 x4 x5 (FX4_layPeople_l48 N q0 q1 x2 x3 x4 kx n) kx)))) else (FX4_layPeople_b114 N s q0 q1 x2 x3 x4 x5 (FX4_layPeople_l48 N q0 q1 x2 x3 x4 kx n) kx))) else (FX4_layPeople_b114 N s q0 q1 x2 x3 x4 x5 (FX4_layPeople_l48 N q0 q1 x2 x3 x4 kx n) kx)))))
set_option maxRecDepth 10000 in
set_option maxHeartbeats 4000000 in
theorem RX4_layPeople_l48 {d N nc Ls : Nat} {Xs : Nat → Int32} (hd : 1 ≤ d) {q0 : Nat} (t0 : T4 nc q0) {q1 : Nat} (t1 : T2 nc q1) {m2 : Int32} {x2 : Int} (p2 : m2.toInt = x2) {m3 : Int32} {x3 : Int} (p3 : m3.toInt = x3) {m4 : Int32} {x4 : Int} (p4 : m4.toInt = x4) {kx : iv_M → Option (Int × iv_M)} {r : Int × iv_M} {Q : Option Value → iv_H → Prop} (hk : ∀ (h : iv_H) (s : iv_M) (hR : Rep nc Ls Xs h s), kx s = some r → Rn d 72 (some .int) 120 [some (.ref q0), some (.ref q1), some (.int m2), some (.int m3), some (.int m4), none] [] h Q) (hq : ∀ (z : Int32) (h1 : iv_H), z.toInt = r.1 → Rep nc Ls Xs h1 r.2 → Q (some (.int z)) h1) : ∀ (n : Nat) (h : iv_H) (s : iv_M) (hR : Rep nc Ls Xs h s) (m5 : Int32) (x5 : Int) (p5 : m5.toInt = x5), FX4_layPeople_l48 N q0 q1 x2 x3 x4 kx n s x5 = some r → Rn d 72 (some .int) 48 [some (.ref q0), some (.ref q1), some (.int m2), some (.int m3), some (.int m4), some (.int m5)] [] h Q := by
  have hT := hX4_layPeople
  intro n
  induction n with
  | zero =>
    intro h s hR m5 x5 p5 e
    rw [FX4_layPeople_l48] at e
    cases e
  | succ n ih =>
    intro h s hR m5 x5 p5 e
    rw [FX4_layPeople_l48] at e
    refine Rn.n hT 2 (pc' := 51) (L' := [some (.ref q0), some (.ref q1), some (.int m2), some (.int m3), some (.int m4), some (.int m5)]) (st' := [.ref q1, .int m5]) rfl ?_
    obtain ⟨z_847, g_847, p_847⟩ : ∃ z : Int32, gI h 2 2 q1 = some z ∧ z.toInt = s q1 2 := rp_gI (k := 2) hR (T2_o t1) rfl
    refine Rn.hp hT rfl rfl (gI_hp g_847) ?_
    by_cases c_848 : (s q1 2) ≤ x5
    · rw [if_pos c_848] at e
      refine Rn.bt hT rfl rfl rfl (decide_eq_true ((ti_le p_847 p5).mpr c_848)) ?_
      exact Rn.weak (ll_s (ll_s (ll_s (ll_s (ll_s (ll_n ll_e)))))) (hk h s hR e)
    · rw [if_neg c_848] at e
      refine Rn.bf hT rfl rfl rfl (decide_eq_false (fun z => c_848 ((ti_le p_847 p5).mp z))) ?_
      refine Rn.n hT 1 (pc' := 58) (L' := [some (.ref q0), some (.ref q1), some (.int m2), some (.int m3), some (.int m4), some (.int m5)]) (st' := [.ref q0]) rfl ?_
      refine Rn.hp hT rfl rfl (gR_hp (rp_gR hR (T4_o t0) rfl)) ?_
      refine Rn.n hT 1 (pc' := 63) (L' := [some (.ref q0), some (.ref q1), some (.int m2), some (.int m3), some (.int m4), some (.int m5)]) (st' := [.int m4, .ref (q0 + 9)]) rfl ?_
      obtain ⟨v_849, e_849, e⟩ := Option.bind_eq_some_iff.mp e
      obtain ⟨z_849, g_849, p_849⟩ := rp_aI hR (T4_5 t0) (T4_5l t0) p4 e_849
      refine Rn.hp hT rfl rfl (aI_hp g_849) ?_
      by_cases c_850 : v_849 ≤ 0
      · rw [if_pos c_850] at e
        refine Rn.bt hT rfl rfl rfl (decide_eq_true ((ti_le p_849 L32_0).mpr c_850)) ?_
        exact Rn.weak (ll_s (ll_s (ll_s (ll_s (ll_s (ll_n ll_e)))))) (hk h s hR e)
      · rw [if_neg c_850] at e
        refine Rn.bf hT rfl rfl rfl (decide_eq_false (fun z => c_850 ((ti_le p_849 L32_0).mp z))) ?_
        refine Rn.n hT 5 (pc' := 74) (L' := [some (.ref q0), some (.ref q1), some (.int m2), some (.int m3), some (.int m4), some (.int m5)]) (st' := [.int ((m4 >>> (m5 &&& 31)) &&& (1 : Int32))]) rfl ?_
        by_cases c_851 : (bAn (sr32 x4 x5) 1) = 0
        · rw [if_pos c_851] at e
          refine Rn.bf hT rfl rfl rfl (decide_eq_false (fun z => z ((ti_e (ti_and (ti_shr p4 p5) L32_1) L32_0).mpr c_851))) ?_
          refine Rn.n hT 1 (pc' := 78) (L' := [some (.ref q0), some (.ref q1), some (.int m2), some (.int m3), some (.int m4), some (.int m5)]) (st' := [.ref q0]) rfl ?_
          refine Rn.hp hT rfl rfl (gR_hp (rp_gR hR (T4_o t0) rfl)) ?_
          refine Rn.n hT 1 (pc' := 83) (L' := [some (.ref q0), some (.ref q1), some (.int m2), some (.int m3), some (.int m4), some (.int m5)]) (st' := [.int m5, .ref (q0 + 8)]) rfl ?_
          obtain ⟨v_852, e_852, e⟩ := Option.bind_eq_some_iff.mp e
          obtain ⟨z_852, g_852, p_852⟩ := rp_aI hR (T4_4 t0) (T4_4l t0) p5 e_852
          refine Rn.hp hT rfl rfl (aI_hp g_852) ?_
          refine Rn.n hT 5 (pc' := 89) (L' := [some (.ref q0), some (.ref q1), some (.int m2), some (.int m3), some (.int m4), some (.int m5)]) (st' := [.int (1 : Int32), .int ((z_852 >>> (m3 &&& 31)) &&& (1 : Int32))]) rfl ?_
          by_cases c_853 : (bAn (sr32 v_852 x3) 1) = 1
          · rw [if_pos c_853] at e
            refine Rn.bf hT rfl rfl rfl (decide_eq_false (fun z => z ((ti_e (ti_and (ti_shr p_852 p3) L32_1) L32_1).mpr c_853))) ?_
            refine Rn.n hT 1 (pc' := 93) (L' := [some (.ref q0), some (.ref q1), some (.int m2), some (.int m3), some (.int m4), some (.int m5)]) (st' := [.ref q0]) rfl ?_
            refine Rn.hp hT rfl rfl (gR_hp (rp_gR hR (T4_o t0) rfl)) ?_
            refine Rn.n hT 6 (pc' := 104) (L' := [some (.ref q0), some (.ref q1), some (.int m2), some (.int m3), some (.int m4), some (.int m5)]) (st' := [.int (m4 ||| ((1 : Int32) <<< (m5 &&& 31))), .ref (q0 + 9), .int (m4 ||| ((1 : Int32) <<< (m5 &&& 31))), .ref (q0 + 9)]) rfl ?_
            obtain ⟨v_854, e_854, e⟩ := Option.bind_eq_some_iff.mp e
            obtain ⟨z_854, g_854, p_854⟩ := rp_aI hR (T4_5 t0) (T4_5l t0) (ti_or p4 (ti_shl L32_1 p5)) e_854
            refine Rn.hp hT rfl rfl (aI_hp g_854) ?_
            refine Rn.n hT 1 (pc' := 106) (L' := [some (.ref q0), some (.ref q1), some (.int m2), some (.int m3), some (.int m4), some (.int m5)]) (st' := [.ref q0, .int z_854, .int (m4 ||| ((1 : Int32) <<< (m5 &&& 31))), .ref (q0 + 9)]) rfl ?_
            refine Rn.hp hT rfl rfl (gR_hp (rp_gR hR (T4_o t0) rfl)) ?_
            refine Rn.n hT 1 (pc' := 111) (L' := [some (.ref q0), some (.ref q1), some (.int m2), some (.int m3), some (.int m4), some (.int m5)]) (st' := [.int m4, .ref (q0 + 9), .int z_854, .int (m4 ||| ((1 : Int32) <<< (m5 &&& 31))), .ref (q0 + 9)]) rfl ?_
            obtain ⟨v_855, e_855, e⟩ := Option.bind_eq_some_iff.mp e
            obtain ⟨z_855, g_855, p_855⟩ := rp_aI hR (T4_5 t0) (T4_5l t0) p4 e_855
            refine Rn.hp hT rfl rfl (aI_hp g_855) ?_
            refine Rn.n hT 1 (pc' := 113) (L' := [some (.ref q0), some (.ref q1), some (.int m2), some (.int m3), some (.int m4), some (.int m5)]) (st' := [.int (z_854 + z_855), .int (m4 ||| ((1 : Int32) <<< (m5 &&& 31))), .ref (q0 + 9)]) rfl ?_
            obtain ⟨s_856, e_857, e⟩ := Option.bind_eq_some_iff.mp e
            obtain ⟨h_856, g_857, R_856⟩ := rp_wI hR (T4_5 t0) (T4_5l t0) (ti_or p4 (ti_shl L32_1 p5)) (ti_add p_854 p_855) e_857
            refine Rn.hp hT rfl rfl (wI_hp g_857) ?_
            exact Rn.weak (ll_s (ll_s (ll_s (ll_s (ll_s (ll_s ll_e)))))) (RX4_layPeople_b114 hd R_856 t0 t1 p2 p3 p4 p5 ih hk hq e)
          · rw [if_neg c_853] at e
            refine Rn.bt hT rfl rfl rfl (decide_eq_true (fun z => c_853 ((ti_e (ti_and (ti_shr p_852 p3) L32_1) L32_1).mp z))) ?_
            exact Rn.weak (ll_s (ll_s (ll_s (ll_s (ll_s (ll_s ll_e)))))) (RX4_layPeople_b114 hd hR t0 t1 p2 p3 p4 p5 ih hk hq e)
        · rw [if_neg c_851] at e
          refine Rn.bt hT rfl rfl rfl (decide_eq_true (fun z => c_851 ((ti_e (ti_and (ti_shr p4 p5) L32_1) L32_0).mp z))) ?_
          exact Rn.weak (ll_s (ll_s (ll_s (ll_s (ll_s (ll_s ll_e)))))) (RX4_layPeople_b114 hd hR t0 t1 p2 p3 p4 p5 ih hk hq e)
def FX4_layPeople_b120 (N : Nat) (s : iv_M) (q0 : Nat) (q1 : Nat) (x2 : Int) (x3 : Int) (x4 : Int)  (kb : iv_M → Int → Option (Int × iv_M)) (kx : iv_M → Option (Int × iv_M)) : Option (Int × iv_M) := (kb s (w32 (x4 + (-1))))
set_option maxRecDepth 10000 in
set_option maxHeartbeats 4000000 in
theorem RX4_layPeople_b120 {d N nc Ls : Nat} {Xs : Nat → Int32} (hd : 1 ≤ d) {h : iv_H} {s : iv_M} (hR : Rep nc Ls Xs h s) {q0 : Nat} (t0 : T4 nc q0) {q1 : Nat} (t1 : T2 nc q1) {m2 : Int32} {x2 : Int} (p2 : m2.toInt = x2) {m3 : Int32} {x3 : Int} (p3 : m3.toInt = x3) {m4 : Int32} {x4 : Int} (p4 : m4.toInt = x4)  {kb : iv_M → Int → Option (Int × iv_M)} {kx : iv_M → Option (Int × iv_M)} {r : Int × iv_M} {Q : Option Value → iv_H → Prop} (hb : ∀ (h : iv_H) (s : iv_M) (hR : Rep nc Ls Xs h s) (mw4 : Int32) (xw4 : Int) (pw4 : mw4.toInt = xw4), kb s xw4 = some r → Rn d 72 (some .int) 40 [some (.ref q0), some (.ref q1), some (.int m2), some (.int m3), some (.int mw4), none] [] h Q) (hk : ∀ (h : iv_H) (s : iv_M) (hR : Rep nc Ls Xs h s), kx s = some r → Rn d 72 (some .int) 126 [some (.ref q0), some (.ref q1), some (.int m2), some (.int m3), none, none] [] h Q) (hq : ∀ (z : Int32) (h1 : iv_H), z.toInt = r.1 → Rep nc Ls Xs h1 r.2 → Q (some (.int z)) h1) (e : FX4_layPeople_b120 N s q0 q1 x2 x3 x4  kb kx = some r) : Rn d 72 (some .int) 120 [some (.ref q0), some (.ref q1), some (.int m2), some (.int m3), some (.int m4), none] [] h Q := by
  have hT := hX4_layPeople
  unfold FX4_layPeople_b120 at e
  refine Rn.n hT 2 (pc' := 40) (L' := [some (.ref q0), some (.ref q1), some (.int m2), some (.int m3), some (.int (m4 + (-1 : Int32))), none]) (st' := []) rfl ?_
  exact Rn.weak (ll_s (ll_s (ll_s (ll_s (ll_s (ll_n ll_e)))))) (hb h s hR (m4 + (-1 : Int32)) (w32 (x4 + (-1))) (ti_add p4 L32_m1) e)
def FX4_layPeople_l40 (N : Nat) (q0 : Nat) (q1 : Nat) (x2 : Int) (x3 : Int) (kx : iv_M → Option (Int × iv_M)) : Nat → iv_M → Int → Option (Int × iv_M)
  | 0, _, _ => none
  | n + 1, s, x4 => (if x4 < 0 then (kx s) else (FX4_layPeople_l48 N q0 q1 x2 x3 x4 (fun (s_845 : iv_M) => (FX4_layPeople_b120 N s_845 q0 q1 x2 x3 x4 (FX4_layPeople_l40 N q0 q1 x2 x3 kx n) kx)) N s 0))
set_option maxRecDepth 10000 in
set_option maxHeartbeats 4000000 in
theorem RX4_layPeople_l40 {d N nc Ls : Nat} {Xs : Nat → Int32} (hd : 1 ≤ d) {q0 : Nat} (t0 : T4 nc q0) {q1 : Nat} (t1 : T2 nc q1) {m2 : Int32} {x2 : Int} (p2 : m2.toInt = x2) {m3 : Int32} {x3 : Int} (p3 : m3.toInt = x3) {kx : iv_M → Option (Int × iv_M)} {r : Int × iv_M} {Q : Option Value → iv_H → Prop} (hk : ∀ (h : iv_H) (s : iv_M) (hR : Rep nc Ls Xs h s), kx s = some r → Rn d 72 (some .int) 126 [some (.ref q0), some (.ref q1), some (.int m2), some (.int m3), none, none] [] h Q) (hq : ∀ (z : Int32) (h1 : iv_H), z.toInt = r.1 → Rep nc Ls Xs h1 r.2 → Q (some (.int z)) h1) : ∀ (n : Nat) (h : iv_H) (s : iv_M) (hR : Rep nc Ls Xs h s) (m4 : Int32) (x4 : Int) (p4 : m4.toInt = x4), FX4_layPeople_l40 N q0 q1 x2 x3 kx n s x4 = some r → Rn d 72 (some .int) 40 [some (.ref q0), some (.ref q1), some (.int m2), some (.int m3), some (.int m4), none] [] h Q := by
  have hT := hX4_layPeople
  intro n
  induction n with
  | zero =>
    intro h s hR m4 x4 p4 e
    rw [FX4_layPeople_l40] at e
    cases e
  | succ n ih =>
    intro h s hR m4 x4 p4 e
    rw [FX4_layPeople_l40] at e
    refine Rn.n hT 1 (pc' := 42) (L' := [some (.ref q0), some (.ref q1), some (.int m2), some (.int m3), some (.int m4), none]) (st' := [.int m4]) rfl ?_
    by_cases c_844 : x4 < 0
    · rw [if_pos c_844] at e
      refine Rn.bt hT rfl rfl rfl (decide_eq_true ((ti_l p4 L32_0).mpr c_844)) ?_
      exact Rn.weak (ll_s (ll_s (ll_s (ll_s (ll_n (ll_n ll_e)))))) (hk h s hR e)
    · rw [if_neg c_844] at e
      refine Rn.bf hT rfl rfl rfl (decide_eq_false (fun z => c_844 ((ti_l p4 L32_0).mp z))) ?_
      refine Rn.n hT 2 (pc' := 48) (L' := [some (.ref q0), some (.ref q1), some (.int m2), some (.int m3), some (.int m4), some (.int (0 : Int32))]) (st' := []) rfl ?_
      refine Rn.weak (ll_s (ll_s (ll_s (ll_s (ll_s (ll_s ll_e)))))) (RX4_layPeople_l48 hd t0 t1 p2 p3 p4 (fun h_845 s_845 R_845 e => ?_) hq N h s hR (0 : Int32) 0 L32_0 e)
      try dsimp only at e
      exact Rn.weak (ll_s (ll_s (ll_s (ll_s (ll_s (ll_n ll_e)))))) (RX4_layPeople_b120 hd R_845 t0 t1 p2 p3 p4 ih hk hq e)
def FX4_layPeople_l26 (N : Nat) (q0 : Nat) (q1 : Nat) (x2 : Int) (kx : iv_M → Option (Int × iv_M)) : Nat → iv_M → Int → Option (Int × iv_M)
  | 0, _, _ => none
  | n + 1, s, x3 => (if (s (q1 + 1) 2) ≤ x3 then (kx s) else (FX4_layPeople_l40 N q0 q1 x2 x3 (fun (s_842 : iv_M) => (FX4_layPeople_l26 N q0 q1 x2 kx n s_842 (w32 (x3 + 1)))) N s x2))
set_option maxRecDepth 10000 in
set_option maxHeartbeats 4000000 in
theorem RX4_layPeople_l26 {d N nc Ls : Nat} {Xs : Nat → Int32} (hd : 1 ≤ d) {q0 : Nat} (t0 : T4 nc q0) {q1 : Nat} (t1 : T2 nc q1) {m2 : Int32} {x2 : Int} (p2 : m2.toInt = x2) {kx : iv_M → Option (Int × iv_M)} {r : Int × iv_M} {Q : Option Value → iv_H → Prop} (hk : ∀ (h : iv_H) (s : iv_M) (hR : Rep nc Ls Xs h s), kx s = some r → Rn d 72 (some .int) 132 [some (.ref q0), none, some (.int m2), none, none, none] [] h Q) (hq : ∀ (z : Int32) (h1 : iv_H), z.toInt = r.1 → Rep nc Ls Xs h1 r.2 → Q (some (.int z)) h1) : ∀ (n : Nat) (h : iv_H) (s : iv_M) (hR : Rep nc Ls Xs h s) (m3 : Int32) (x3 : Int) (p3 : m3.toInt = x3), FX4_layPeople_l26 N q0 q1 x2 kx n s x3 = some r → Rn d 72 (some .int) 26 [some (.ref q0), some (.ref q1), some (.int m2), some (.int m3), none, none] [] h Q := by
  have hT := hX4_layPeople
  intro n
  induction n with
  | zero =>
    intro h s hR m3 x3 p3 e
    rw [FX4_layPeople_l26] at e
    cases e
  | succ n ih =>
    intro h s hR m3 x3 p3 e
    rw [FX4_layPeople_l26] at e
    refine Rn.n hT 2 (pc' := 28) (L' := [some (.ref q0), some (.ref q1), some (.int m2), some (.int m3), none, none]) (st' := [.ref q1, .int m3]) rfl ?_
    refine Rn.hp hT rfl rfl (gR_hp (rp_gR hR (T2_o t1) rfl)) ?_
    obtain ⟨z_840, g_840, p_840⟩ : ∃ z : Int32, gI h 1 2 (q1 + 1) = some z ∧ z.toInt = s (q1 + 1) 2 := rp_gI (k := 2) hR (T1_o (T2_9 t1)) rfl
    refine Rn.hp hT rfl rfl (gI_hp g_840) ?_
    by_cases c_841 : (s (q1 + 1) 2) ≤ x3
    · rw [if_pos c_841] at e
      refine Rn.bt hT rfl rfl rfl (decide_eq_true ((ti_le p_840 p3).mpr c_841)) ?_
      exact Rn.weak (ll_s (ll_n (ll_s (ll_n (ll_n (ll_n ll_e)))))) (hk h s hR e)
    · rw [if_neg c_841] at e
      refine Rn.bf hT rfl rfl rfl (decide_eq_false (fun z => c_841 ((ti_le p_840 p3).mp z))) ?_
      refine Rn.n hT 2 (pc' := 40) (L' := [some (.ref q0), some (.ref q1), some (.int m2), some (.int m3), some (.int m2), none]) (st' := []) rfl ?_
      refine Rn.weak (ll_s (ll_s (ll_s (ll_s (ll_s (ll_n ll_e)))))) (RX4_layPeople_l40 hd t0 t1 p2 p3 (fun h_842 s_842 R_842 e => ?_) hq N h s hR m2 x2 p2 e)
      try dsimp only at e
      refine Rn.n hT 2 (pc' := 26) (L' := [some (.ref q0), some (.ref q1), some (.int m2), some (.int (m3 + (1 : Int32))), none, none]) (st' := []) rfl ?_
      exact Rn.weak (ll_s (ll_s (ll_s (ll_s (ll_n (ll_n ll_e)))))) (ih h_842 s_842 R_842 (m3 + (1 : Int32)) (w32 (x3 + 1)) (ti_add p3 L32_1) e)
def FX4_layPeople (N : Nat) (s : iv_M) (q0 : Nat) (q1 : Nat) : Option (Int × iv_M) := ((FJ7_fill_53178 N s (q0 + 9) 0).bind fun s_833 => ((wr s_833 (q0 + 9) 64 0 1).bind fun s_834 => (FX4_layPeople_l26 N q0 q1 (w32 ((sl32 1 (s_834 q1 2)) - 1)) (fun (s_837 : iv_M) => ((rd s_837 (q0 + 9) 64 (w32 ((sl32 1 (s_834 q1 2)) - 1))).bind fun v_839 => (some (v_839, s_837)))) N s_834 0)))
set_option maxRecDepth 10000 in
set_option maxHeartbeats 4000000 in
theorem RX4_layPeople {d N nc Ls : Nat} {Xs : Nat → Int32} (hd : 2 ≤ d) {h : iv_H} {s : iv_M} (hR : Rep nc Ls Xs h s) {q0 : Nat} (t0 : T4 nc q0) {q1 : Nat} (t1 : T2 nc q1) {r : Int × iv_M} {Q : Option Value → iv_H → Prop} (e : FX4_layPeople N s q0 q1 = some r) (hq : ∀ (z : Int32) (h1 : iv_H), z.toInt = r.1 → Rep nc Ls Xs h1 r.2 → Q (some (.int z)) h1) : Cl d 72 [.ref q0, .ref q1] h Q := by
  obtain ⟨d, rfl⟩ : ∃ k, d = k + 1 := ⟨d - 1, by omega⟩
  have hd : 1 ≤ d := by omega
  have hT := hX4_layPeople
  unfold FX4_layPeople at e
  refine Cl.into (by decide) gX4_layPeople rfl ?_
  show Rn d 72 (some .int) 0 [some (.ref q0), some (.ref q1), none, none, none, none] [] h Q
  refine Rn.n hT 1 (pc' := 1) (L' := [some (.ref q0), some (.ref q1), none, none, none, none]) (st' := [.ref q0]) rfl ?_
  refine Rn.hp hT rfl rfl (gR_hp (rp_gR hR (T4_o t0) rfl)) ?_
  refine Rn.n hT 1 (pc' := 5) (L' := [some (.ref q0), some (.ref q1), none, none, none, none]) (st' := [.int (0 : Int32), .ref (q0 + 9)]) rfl ?_
  obtain ⟨s_833, e_832, e⟩ := Option.bind_eq_some_iff.mp e
  refine Rn.call hT rfl rfl rfl (Nat.le_of_ble_eq_true rfl) rfl (RJ7_fill_53178 (by omega) hR (T4_5 t0) L32_0 e_832 (fun h_833 R_833 => ?_))
  show Rn d _ _ 8 [some (.ref q0), some (.ref q1), none, none, none, none] [] h_833 Q
  refine Rn.n hT 1 (pc' := 9) (L' := [some (.ref q0), some (.ref q1), none, none, none, none]) (st' := [.ref q0]) rfl ?_
  refine Rn.hp hT rfl rfl (gR_hp (rp_gR R_833 (T4_o t0) rfl)) ?_
  refine Rn.n hT 2 (pc' := 14) (L' := [some (.ref q0), some (.ref q1), none, none, none, none]) (st' := [.int (1 : Int32), .int (0 : Int32), .ref (q0 + 9)]) rfl ?_
  obtain ⟨s_834, e_835, e⟩ := Option.bind_eq_some_iff.mp e
  obtain ⟨h_834, g_835, R_834⟩ := rp_wI R_833 (T4_5 t0) (T4_5l t0) L32_0 L32_1 e_835
  refine Rn.hp hT rfl rfl (wI_hp g_835) ?_
  refine Rn.n hT 2 (pc' := 17) (L' := [some (.ref q0), some (.ref q1), none, none, none, none]) (st' := [.ref q1, .int (1 : Int32)]) rfl ?_
  obtain ⟨z_836, g_836, p_836⟩ : ∃ z : Int32, gI h_834 2 2 q1 = some z ∧ z.toInt = s_834 q1 2 := rp_gI (k := 2) R_834 (T2_o t1) rfl
  refine Rn.hp hT rfl rfl (gI_hp g_836) ?_
  refine Rn.n hT 6 (pc' := 26) (L' := [some (.ref q0), some (.ref q1), some (.int (((1 : Int32) <<< (z_836 &&& 31)) - (1 : Int32))), some (.int (0 : Int32)), none, none]) (st' := []) rfl ?_
  refine Rn.weak (ll_s (ll_s (ll_s (ll_s (ll_n (ll_n ll_e)))))) (RX4_layPeople_l26 hd t0 t1 (ti_sub (ti_shl L32_1 p_836) L32_1) (fun h_837 s_837 R_837 e => ?_) hq N h_834 s_834 R_834 (0 : Int32) 0 L32_0 e)
  try dsimp only at e
  refine Rn.n hT 1 (pc' := 133) (L' := [some (.ref q0), none, some (.int (((1 : Int32) <<< (z_836 &&& 31)) - (1 : Int32))), none, none, none]) (st' := [.ref q0]) rfl ?_
  refine Rn.hp hT rfl rfl (gR_hp (rp_gR R_837 (T4_o t0) rfl)) ?_
  refine Rn.n hT 1 (pc' := 137) (L' := [some (.ref q0), none, some (.int (((1 : Int32) <<< (z_836 &&& 31)) - (1 : Int32))), none, none, none]) (st' := [.int (((1 : Int32) <<< (z_836 &&& 31)) - (1 : Int32)), .ref (q0 + 9)]) rfl ?_
  obtain ⟨v_839, e_839, e⟩ := Option.bind_eq_some_iff.mp e
  obtain ⟨z_839, g_839, p_839⟩ := rp_aI R_837 (T4_5 t0) (T4_5l t0) (ti_sub (ti_shl L32_1 p_836) L32_1) e_839
  refine Rn.hp hT rfl rfl (aI_hp g_839) ?_
  obtain rfl := Option.some.inj e
  exact Rn.ret hT rfl rfl rfl (hq z_839 h_837 p_839 R_837)
set_option maxRecDepth 10000 in
theorem hX4_firstBed : iv_Tb 73 tX4_firstBed := iv_tb_of (m := mX4_firstBed) rfl
set_option maxRecDepth 10000 in
theorem gX4_firstBed : PG.2 73 = some mX4_firstBed := iv_pi_of (t := tX4_firstBed) rfl (by decide)
def FX4_firstBed_b66 (N : Nat) (s : iv_M) (q0 : Nat) (q1 : Nat) (x2 : Int) (x3 : Int) (x4 : Int) (x6 : Int) (xs0 : Int) (kb : iv_M → Int → Int → Option (Int × iv_M)) (kx : iv_M → Int → Option (Int × iv_M)) : Option (Int × iv_M) := (kb s xs0 (w32 (x6 + 1)))
set_option maxRecDepth 10000 in
set_option maxHeartbeats 4000000 in
theorem RX4_firstBed_b66 {d N nc Ls : Nat} {Xs : Nat → Int32} (hd : 2 ≤ d) {h : iv_H} {s : iv_M} (hR : Rep nc Ls Xs h s) {q0 : Nat} (t0 : T4 nc q0) {q1 : Nat} (t1 : T2 nc q1) {m2 : Int32} {x2 : Int} (p2 : m2.toInt = x2) {m3 : Int32} {x3 : Int} (p3 : m3.toInt = x3) {m4 : Int32} {x4 : Int} (p4 : m4.toInt = x4) {m6 : Int32} {x6 : Int} (p6 : m6.toInt = x6) {ms0 : Int32} {xs0 : Int} (ps0 : ms0.toInt = xs0) {kb : iv_M → Int → Int → Option (Int × iv_M)} {kx : iv_M → Int → Option (Int × iv_M)} {r : Int × iv_M} {Q : Option Value → iv_H → Prop} (hb : ∀ (h : iv_H) (s : iv_M) (hR : Rep nc Ls Xs h s) (mw5 : Int32) (xw5 : Int) (pw5 : mw5.toInt = xw5) (mw6 : Int32) (xw6 : Int) (pw6 : mw6.toInt = xw6), kb s xw5 xw6 = some r → Rn d 73 (some .int) 21 [some (.ref q0), some (.ref q1), some (.int m2), some (.int m3), some (.int m4), some (.int mw5), some (.int mw6)] [] h Q) (hk : ∀ (h : iv_H) (s : iv_M) (hR : Rep nc Ls Xs h s) (mw5 : Int32) (xw5 : Int) (pw5 : mw5.toInt = xw5), kx s xw5 = some r → Rn d 73 (some .int) 74 [some (.ref q0), some (.ref q1), some (.int m2), some (.int m3), none, some (.int mw5), none] [] h Q) (hq : ∀ (z : Int32) (h1 : iv_H), z.toInt = r.1 → Rep nc Ls Xs h1 r.2 → Q (some (.int z)) h1) (e : FX4_firstBed_b66 N s q0 q1 x2 x3 x4 x6 xs0 kb kx = some r) : Rn d 73 (some .int) 66 [some (.ref q0), some (.ref q1), some (.int m2), some (.int m3), some (.int m4), none, some (.int m6)] [.int ms0] h Q := by
  have hT := hX4_firstBed
  unfold FX4_firstBed_b66 at e
  refine Rn.n hT 3 (pc' := 21) (L' := [some (.ref q0), some (.ref q1), some (.int m2), some (.int m3), some (.int m4), some (.int ms0), some (.int (m6 + (1 : Int32)))]) (st' := []) rfl ?_
  exact Rn.weak (ll_s (ll_s (ll_s (ll_s (ll_s (ll_s (ll_s ll_e))))))) (hb h s hR ms0 xs0 ps0 (m6 + (1 : Int32)) (w32 (x6 + 1)) (ti_add p6 L32_1) e)
def FX4_firstBed_l21 (N : Nat) (q0 : Nat) (q1 : Nat) (x2 : Int) (x3 : Int) (x4 : Int) (kx : iv_M → Int → Option (Int × iv_M)) : Nat → iv_M → Int → Int → Option (Int × iv_M)
  | 0, _, _, _ => none
  | n + 1, s, x5, x6 => (if (s (q1 + 1) 2) ≤ x6 then (kx s x5) else (if x5 = (-1) then ((wr s (q0 + 8) 6 x3 (bAn x4 (sl32 1 x6))).bind fun s_867 => ((FX4_layPeople N s_867 q0 q1).bind fun r_869 => (fun (v_869 : Int) (s_870 : iv_M) => (if v_869 ≤ 0 then (FX4_firstBed_b66 N s_870 q0 q1 x2 x3 x4 x6 (-1) (FX4_firstBed_l21 N q0 q1 x2 x3 x4 kx n) kx) else (FX4_firstBed_b66 N s_870 q0 q1 x2 x3 x4 x6 x6 (FX4_firstBed_l21 N q0 q1 x2 x3 x4 kx n) kx))) r_869.1 r_869.2)) else (kx s x5)))
set_option maxRecDepth 10000 in
set_option maxHeartbeats 4000000 in
theorem RX4_firstBed_l21 {d N nc Ls : Nat} {Xs : Nat → Int32} (hd : 2 ≤ d) {q0 : Nat} (t0 : T4 nc q0) {q1 : Nat} (t1 : T2 nc q1) {m2 : Int32} {x2 : Int} (p2 : m2.toInt = x2) {m3 : Int32} {x3 : Int} (p3 : m3.toInt = x3) {m4 : Int32} {x4 : Int} (p4 : m4.toInt = x4) {kx : iv_M → Int → Option (Int × iv_M)} {r : Int × iv_M} {Q : Option Value → iv_H → Prop} (hk : ∀ (h : iv_H) (s : iv_M) (hR : Rep nc Ls Xs h s) (m5 : Int32) (x5 : Int) (p5 : m5.toInt = x5), kx s x5 = some r → Rn d 73 (some .int) 74 [some (.ref q0), some (.ref q1), some (.int m2), some (.int m3), none, some (.int m5), none] [] h Q) (hq : ∀ (z : Int32) (h1 : iv_H), z.toInt = r.1 → Rep nc Ls Xs h1 r.2 → Q (some (.int z)) h1) : ∀ (n : Nat) (h : iv_H) (s : iv_M) (hR : Rep nc Ls Xs h s) (m5 : Int32) (x5 : Int) (p5 : m5.toInt = x5) (m6 : Int32) (x6 : Int) (p6 : m6.toInt = x6), FX4_firstBed_l21 N q0 q1 x2 x3 x4 kx n s x5 x6 = some r → Rn d 73 (some .int) 21 [some (.ref q0), some (.ref q1), some (.int m2), some (.int m3), some (.int m4), some (.int m5), some (.int m6)] [] h Q := by
  have hT := hX4_firstBed
  intro n
  induction n with
  | zero =>
    intro h s hR m5 x5 p5 m6 x6 p6 e
    rw [FX4_firstBed_l21] at e
    cases e
  | succ n ih =>
    intro h s hR m5 x5 p5 m6 x6 p6 e
    rw [FX4_firstBed_l21] at e
    refine Rn.n hT 2 (pc' := 24) (L' := [some (.ref q0), some (.ref q1), some (.int m2), some (.int m3), some (.int m4), some (.int m5), some (.int m6)]) (st' := [.ref q1, .int m6]) rfl ?_
    refine Rn.hp hT rfl rfl (gR_hp (rp_gR hR (T2_o t1) rfl)) ?_
    obtain ⟨z_864, g_864, p_864⟩ : ∃ z : Int32, gI h 1 2 (q1 + 1) = some z ∧ z.toInt = s (q1 + 1) 2 := rp_gI (k := 2) hR (T1_o (T2_9 t1)) rfl
    refine Rn.hp hT rfl rfl (gI_hp g_864) ?_
    by_cases c_865 : (s (q1 + 1) 2) ≤ x6
    · rw [if_pos c_865] at e
      refine Rn.bt hT rfl rfl rfl (decide_eq_true ((ti_le p_864 p6).mpr c_865)) ?_
      exact Rn.weak (ll_s (ll_s (ll_s (ll_s (ll_n (ll_s (ll_n ll_e))))))) (hk h s hR m5 x5 p5 e)
    · rw [if_neg c_865] at e
      refine Rn.bf hT rfl rfl rfl (decide_eq_false (fun z => c_865 ((ti_le p_864 p6).mp z))) ?_
      refine Rn.n hT 2 (pc' := 36) (L' := [some (.ref q0), some (.ref q1), some (.int m2), some (.int m3), some (.int m4), some (.int m5), some (.int m6)]) (st' := [.int (-1 : Int32), .int m5]) rfl ?_
      by_cases c_866 : x5 = (-1)
      · rw [if_pos c_866] at e
        refine Rn.bf hT rfl rfl rfl (decide_eq_false (fun z => z ((ti_e p5 L32_m1).mpr c_866))) ?_
        refine Rn.n hT 1 (pc' := 40) (L' := [some (.ref q0), some (.ref q1), some (.int m2), some (.int m3), some (.int m4), some (.int m5), some (.int m6)]) (st' := [.ref q0]) rfl ?_
        refine Rn.hp hT rfl rfl (gR_hp (rp_gR hR (T4_o t0) rfl)) ?_
        refine Rn.n hT 6 (pc' := 51) (L' := [some (.ref q0), some (.ref q1), some (.int m2), some (.int m3), some (.int m4), some (.int m5), some (.int m6)]) (st' := [.int (m4 &&& ((1 : Int32) <<< (m6 &&& 31))), .int m3, .ref (q0 + 8)]) rfl ?_
        obtain ⟨s_867, e_868, e⟩ := Option.bind_eq_some_iff.mp e
        obtain ⟨h_867, g_868, R_867⟩ := rp_wI hR (T4_4 t0) (T4_4l t0) p3 (ti_and p4 (ti_shl L32_1 p6)) e_868
        refine Rn.hp hT rfl rfl (wI_hp g_868) ?_
        refine Rn.n hT 2 (pc' := 54) (L' := [some (.ref q0), some (.ref q1), some (.int m2), some (.int m3), some (.int m4), some (.int m5), some (.int m6)]) (st' := [.ref q1, .ref q0]) rfl ?_
        obtain ⟨⟨v_869, s_870⟩, e_869, e⟩ := Option.bind_eq_some_iff.mp e
        try dsimp only at e
        try dsimp only at e
        refine Rn.call hT rfl rfl rfl (Nat.le_of_ble_eq_true rfl) (rcv_v gX4_layPeople (by omega) (rp_ck R_867 (T4_o t0))) (RX4_layPeople (by omega) R_867 t0 t1 e_869 (fun z_869 h_870 p_869 R_870 => ?_))
        show Rn d _ _ 57 [some (.ref q0), some (.ref q1), some (.int m2), some (.int m3), some (.int m4), some (.int m5), some (.int m6)] [.int z_869] h_870 Q
        by_cases c_871 : v_869 ≤ 0
        · rw [if_pos c_871] at e
          refine Rn.bt hT rfl rfl rfl (decide_eq_true ((ti_le p_869 L32_0).mpr c_871)) ?_
          refine Rn.n hT 1 (pc' := 66) (L' := [some (.ref q0), some (.ref q1), some (.int m2), some (.int m3), some (.int m4), some (.int m5), some (.int m6)]) (st' := [.int (-1 : Int32)]) rfl ?_
          exact Rn.weak (ll_s (ll_s (ll_s (ll_s (ll_s (ll_n (ll_s ll_e))))))) (RX4_firstBed_b66 hd R_870 t0 t1 p2 p3 p4 p6 L32_m1 ih hk hq e)
        · rw [if_neg c_871] at e
          refine Rn.bf hT rfl rfl rfl (decide_eq_false (fun z => c_871 ((ti_le p_869 L32_0).mp z))) ?_
          refine Rn.n hT 2 (pc' := 66) (L' := [some (.ref q0), some (.ref q1), some (.int m2), some (.int m3), some (.int m4), some (.int m5), some (.int m6)]) (st' := [.int m6]) rfl ?_
          exact Rn.weak (ll_s (ll_s (ll_s (ll_s (ll_s (ll_n (ll_s ll_e))))))) (RX4_firstBed_b66 hd R_870 t0 t1 p2 p3 p4 p6 p6 ih hk hq e)
      · rw [if_neg c_866] at e
        refine Rn.bt hT rfl rfl rfl (decide_eq_true (fun z => c_866 ((ti_e p5 L32_m1).mp z))) ?_
        exact Rn.weak (ll_s (ll_s (ll_s (ll_s (ll_n (ll_s (ll_n ll_e))))))) (hk h s hR m5 x5 p5 e)
def FX4_firstBed_b74 (N : Nat) (s : iv_M) (q0 : Nat) (q1 : Nat) (x2 : Int) (x3 : Int) (x5 : Int)  (kb : iv_M → Int → Option (Int × iv_M)) (kx : iv_M → Option (Int × iv_M)) : Option (Int × iv_M) := (if x5 = (-1) then (some ((-2), s)) else (if x3 = x2 then (some (x5, s)) else (kb s (w32 (x3 + 1)))))
set_option maxRecDepth 10000 in
set_option maxHeartbeats 4000000 in
theorem RX4_firstBed_b74 {d N nc Ls : Nat} {Xs : Nat → Int32} (hd : 2 ≤ d) {h : iv_H} {s : iv_M} (hR : Rep nc Ls Xs h s) {q0 : Nat} (t0 : T4 nc q0) {q1 : Nat} (t1 : T2 nc q1) {m2 : Int32} {x2 : Int} (p2 : m2.toInt = x2) {m3 : Int32} {x3 : Int} (p3 : m3.toInt = x3) {m5 : Int32} {x5 : Int} (p5 : m5.toInt = x5)  {kb : iv_M → Int → Option (Int × iv_M)} {kx : iv_M → Option (Int × iv_M)} {r : Int × iv_M} {Q : Option Value → iv_H → Prop} (hb : ∀ (h : iv_H) (s : iv_M) (hR : Rep nc Ls Xs h s) (mw3 : Int32) (xw3 : Int) (pw3 : mw3.toInt = xw3), kb s xw3 = some r → Rn d 73 (some .int) 2 [some (.ref q0), some (.ref q1), some (.int m2), some (.int mw3), none, none, none] [] h Q) (hk : ∀ (h : iv_H) (s : iv_M) (hR : Rep nc Ls Xs h s), kx s = some r → Rn d 73 (some .int) 97 [none, none, none, none, none, none, none] [] h Q) (hq : ∀ (z : Int32) (h1 : iv_H), z.toInt = r.1 → Rep nc Ls Xs h1 r.2 → Q (some (.int z)) h1) (e : FX4_firstBed_b74 N s q0 q1 x2 x3 x5  kb kx = some r) : Rn d 73 (some .int) 74 [some (.ref q0), some (.ref q1), some (.int m2), some (.int m3), none, some (.int m5), none] [] h Q := by
  have hT := hX4_firstBed
  unfold FX4_firstBed_b74 at e
  refine Rn.n hT 2 (pc' := 77) (L' := [some (.ref q0), some (.ref q1), some (.int m2), some (.int m3), none, some (.int m5), none]) (st' := [.int (-1 : Int32), .int m5]) rfl ?_
  by_cases c_872 : x5 = (-1)
  · rw [if_pos c_872] at e
    refine Rn.bf hT rfl rfl rfl (decide_eq_false (fun z => z ((ti_e p5 L32_m1).mpr c_872))) ?_
    refine Rn.n hT 1 (pc' := 82) (L' := [some (.ref q0), some (.ref q1), some (.int m2), some (.int m3), none, some (.int m5), none]) (st' := [.int (-2 : Int32)]) rfl ?_
    obtain rfl := Option.some.inj e
    exact Rn.ret hT rfl rfl rfl (hq (-2 : Int32) h L32_m2 hR)
  · rw [if_neg c_872] at e
    refine Rn.bt hT rfl rfl rfl (decide_eq_true (fun z => c_872 ((ti_e p5 L32_m1).mp z))) ?_
    refine Rn.n hT 2 (pc' := 85) (L' := [some (.ref q0), some (.ref q1), some (.int m2), some (.int m3), none, some (.int m5), none]) (st' := [.int m2, .int m3]) rfl ?_
    by_cases c_873 : x3 = x2
    · rw [if_pos c_873] at e
      refine Rn.bf hT rfl rfl rfl (decide_eq_false (fun z => z ((ti_e p3 p2).mpr c_873))) ?_
      refine Rn.n hT 1 (pc' := 90) (L' := [some (.ref q0), some (.ref q1), some (.int m2), some (.int m3), none, some (.int m5), none]) (st' := [.int m5]) rfl ?_
      obtain rfl := Option.some.inj e
      exact Rn.ret hT rfl rfl rfl (hq m5 h p5 hR)
    · rw [if_neg c_873] at e
      refine Rn.bt hT rfl rfl rfl (decide_eq_true (fun z => c_873 ((ti_e p3 p2).mp z))) ?_
      refine Rn.n hT 2 (pc' := 2) (L' := [some (.ref q0), some (.ref q1), some (.int m2), some (.int (m3 + (1 : Int32))), none, some (.int m5), none]) (st' := []) rfl ?_
      exact Rn.weak (ll_s (ll_s (ll_s (ll_s (ll_n (ll_n (ll_n ll_e))))))) (hb h s hR (m3 + (1 : Int32)) (w32 (x3 + 1)) (ti_add p3 L32_1) e)
def FX4_firstBed_l2 (N : Nat) (q0 : Nat) (q1 : Nat) (x2 : Int) (kx : iv_M → Option (Int × iv_M)) : Nat → iv_M → Int → Option (Int × iv_M)
  | 0, _, _ => none
  | n + 1, s, x3 => (if x2 < x3 then (kx s) else ((rd s (q0 + 8) 6 x3).bind fun v_861 => (FX4_firstBed_l21 N q0 q1 x2 x3 v_861 (fun (s_862 : iv_M) (x863_5 : Int) => (FX4_firstBed_b74 N s_862 q0 q1 x2 x3 x863_5 (FX4_firstBed_l2 N q0 q1 x2 kx n) kx)) N s (-1) 0)))
set_option maxRecDepth 10000 in
set_option maxHeartbeats 4000000 in
theorem RX4_firstBed_l2 {d N nc Ls : Nat} {Xs : Nat → Int32} (hd : 2 ≤ d) {q0 : Nat} (t0 : T4 nc q0) {q1 : Nat} (t1 : T2 nc q1) {m2 : Int32} {x2 : Int} (p2 : m2.toInt = x2) {kx : iv_M → Option (Int × iv_M)} {r : Int × iv_M} {Q : Option Value → iv_H → Prop} (hk : ∀ (h : iv_H) (s : iv_M) (hR : Rep nc Ls Xs h s), kx s = some r → Rn d 73 (some .int) 97 [none, none, none, none, none, none, none] [] h Q) (hq : ∀ (z : Int32) (h1 : iv_H), z.toInt = r.1 → Rep nc Ls Xs h1 r.2 → Q (some (.int z)) h1) : ∀ (n : Nat) (h : iv_H) (s : iv_M) (hR : Rep nc Ls Xs h s) (m3 : Int32) (x3 : Int) (p3 : m3.toInt = x3), FX4_firstBed_l2 N q0 q1 x2 kx n s x3 = some r → Rn d 73 (some .int) 2 [some (.ref q0), some (.ref q1), some (.int m2), some (.int m3), none, none, none] [] h Q := by
  have hT := hX4_firstBed
  intro n
  induction n with
  | zero =>
    intro h s hR m3 x3 p3 e
    rw [FX4_firstBed_l2] at e
    cases e
  | succ n ih =>
    intro h s hR m3 x3 p3 e
    rw [FX4_firstBed_l2] at e
    refine Rn.n hT 2 (pc' := 4) (L' := [some (.ref q0), some (.ref q1), some (.int m2), some (.int m3), none, none, none]) (st' := [.int m2, .int m3]) rfl ?_
    by_cases c_860 : x2 < x3
    · rw [if_pos c_860] at e
      refine Rn.bt hT rfl rfl rfl (decide_eq_true ((ti_l p2 p3).mpr c_860)) ?_
      exact Rn.weak (ll_n (ll_n (ll_n (ll_n (ll_n (ll_n (ll_n ll_e))))))) (hk h s hR e)
    · rw [if_neg c_860] at e
      refine Rn.bf hT rfl rfl rfl (decide_eq_false (fun z => c_860 ((ti_l p2 p3).mp z))) ?_
      refine Rn.n hT 1 (pc' := 8) (L' := [some (.ref q0), some (.ref q1), some (.int m2), some (.int m3), none, none, none]) (st' := [.ref q0]) rfl ?_
      refine Rn.hp hT rfl rfl (gR_hp (rp_gR hR (T4_o t0) rfl)) ?_
      refine Rn.n hT 1 (pc' := 12) (L' := [some (.ref q0), some (.ref q1), some (.int m2), some (.int m3), none, none, none]) (st' := [.int m3, .ref (q0 + 8)]) rfl ?_
      obtain ⟨v_861, e_861, e⟩ := Option.bind_eq_some_iff.mp e
      obtain ⟨z_861, g_861, p_861⟩ := rp_aI hR (T4_4 t0) (T4_4l t0) p3 e_861
      refine Rn.hp hT rfl rfl (aI_hp g_861) ?_
      refine Rn.n hT 5 (pc' := 21) (L' := [some (.ref q0), some (.ref q1), some (.int m2), some (.int m3), some (.int z_861), some (.int (-1 : Int32)), some (.int (0 : Int32))]) (st' := []) rfl ?_
      refine Rn.weak (ll_s (ll_s (ll_s (ll_s (ll_s (ll_s (ll_s ll_e))))))) (RX4_firstBed_l21 hd t0 t1 p2 p3 p_861 (fun h_862 s_862 R_862 m863_5 x863_5 p863_5 e => ?_) hq N h s hR (-1 : Int32) (-1) L32_m1 (0 : Int32) 0 L32_0 e)
      try dsimp only at e
      exact Rn.weak (ll_s (ll_s (ll_s (ll_s (ll_n (ll_s (ll_n ll_e))))))) (RX4_firstBed_b74 hd R_862 t0 t1 p2 p3 p863_5 ih hk hq e)
def FX4_firstBed (N : Nat) (s : iv_M) (q0 : Nat) (q1 : Nat) (x2 : Int) : Option (Int × iv_M) := (FX4_firstBed_l2 N q0 q1 x2 (fun (s_858 : iv_M) => (some ((-2), s_858))) N s 0)
set_option maxRecDepth 10000 in
set_option maxHeartbeats 4000000 in
theorem RX4_firstBed {d N nc Ls : Nat} {Xs : Nat → Int32} (hd : 3 ≤ d) {h : iv_H} {s : iv_M} (hR : Rep nc Ls Xs h s) {q0 : Nat} (t0 : T4 nc q0) {q1 : Nat} (t1 : T2 nc q1) {m2 : Int32} {x2 : Int} (p2 : m2.toInt = x2) {r : Int × iv_M} {Q : Option Value → iv_H → Prop} (e : FX4_firstBed N s q0 q1 x2 = some r) (hq : ∀ (z : Int32) (h1 : iv_H), z.toInt = r.1 → Rep nc Ls Xs h1 r.2 → Q (some (.int z)) h1) : Cl d 73 [.ref q0, .ref q1, .int m2] h Q := by
  obtain ⟨d, rfl⟩ : ∃ k, d = k + 1 := ⟨d - 1, by omega⟩
  have hd : 2 ≤ d := by omega
  have hT := hX4_firstBed
  unfold FX4_firstBed at e
  refine Cl.into (by decide) gX4_firstBed rfl ?_
  show Rn d 73 (some .int) 0 [some (.ref q0), some (.ref q1), some (.int m2), none, none, none, none] [] h Q
  refine Rn.n hT 2 (pc' := 2) (L' := [some (.ref q0), some (.ref q1), some (.int m2), some (.int (0 : Int32)), none, none, none]) (st' := []) rfl ?_
  refine Rn.weak (ll_s (ll_s (ll_s (ll_s (ll_n (ll_n (ll_n ll_e))))))) (RX4_firstBed_l2 hd t0 t1 p2 (fun h_858 s_858 R_858 e => ?_) hq N h s hR (0 : Int32) 0 L32_0 e)
  try dsimp only at e
  refine Rn.n hT 1 (pc' := 99) (L' := [none, none, none, none, none, none, none]) (st' := [.int (-2 : Int32)]) rfl ?_
  obtain rfl := Option.some.inj e
  exact Rn.ret hT rfl rfl rfl (hq (-2 : Int32) h_858 L32_m2 R_858)
set_option maxRecDepth 10000 in
theorem hX6_open : iv_Tb 86 tX6_open := iv_tb_of (m := mX6_open) rfl
set_option maxRecDepth 10000 in
theorem gX6_open : PG.2 86 = some mX6_open := iv_pi_of (t := tX6_open) rfl (by decide)
def FX6_open (N : Nat) (s : iv_M) (q0 : Nat) (q1 : Nat) (x2 : Int) : Option (iv_M) := ((pt s q0 0 ((q1 : Nat) : Int)).bind fun s_874 => ((pt s_874 q0 1 (mnI x2 ((sh q1).2 : Int))).bind fun s_878 => ((pt s_878 q0 2 0).bind fun s_880 => ((pt s_880 q0 3 0).bind fun s_882 => ((pt s_882 q0 4 0).bind fun s_884 => some s_884)))))
set_option maxRecDepth 10000 in
set_option maxHeartbeats 4000000 in
theorem RX6_open {d N nc Ls : Nat} {Xs : Nat → Int32} (hd : 1 ≤ d) {h : iv_H} {s : iv_M} (hR : Rep nc Ls Xs h s) {q0 : Nat} (t0 : T6 nc q0) {q1 : Nat} (t1 : TA 2 nc q1) {m2 : Int32} {x2 : Int} (p2 : m2.toInt = x2) {r : iv_M} {Q : Option Value → iv_H → Prop} (e : FX6_open N s q0 q1 x2 = some r) (hq : ∀ h1, Rep nc Ls Xs h1 r → Q none h1) : Cl d 86 [.ref q0, .ref q1, .int m2] h Q := by
  obtain ⟨d, rfl⟩ : ∃ k, d = k + 1 := ⟨d - 1, by omega⟩
  have hd : 0 ≤ d := by omega
  have hT := hX6_open
  unfold FX6_open at e
  refine Cl.into (by decide) gX6_open rfl ?_
  show Rn d 86 none 0 [some (.ref q0), some (.ref q1), some (.int m2)] [] h Q
  refine Rn.n hT 2 (pc' := 2) (L' := [some (.ref q0), some (.ref q1), some (.int m2)]) (st' := [.ref q1, .ref q0]) rfl ?_
  obtain ⟨s_874, e_875, e⟩ := Option.bind_eq_some_iff.mp e
  obtain ⟨h_874, g_875, R_874⟩ := rp_pP (ci := 6) (k := 0) hR (T6_o t0) rfl (Mt_60 hR.2.2.2.2.2 (T6_o t0) t1) e_875
  refine Rn.hp hT rfl rfl (pV_hp rfl g_875) ?_
  refine Rn.n hT 3 (pc' := 8) (L' := [some (.ref q0), some (.ref q1), some (.int m2)]) (st' := [.ref q1, .int m2, .ref q0]) rfl ?_
  obtain ⟨z_876, g_876, p_876⟩ : ∃ z : Int32, aL h_874 q1 = some z ∧ z.toInt = ((sh q1).2 : Int) := rp_aL R_874 t1 (Or.inr (Or.inr rfl)) rfl
  refine Rn.hp hT rfl rfl (aL_hp g_876) ?_
  refine Rn.hp hT rfl rfl (mn_hp (Nat.le_of_ble_eq_true rfl)) ?_
  obtain ⟨s_878, e_879, e⟩ := Option.bind_eq_some_iff.mp e
  obtain ⟨h_878, g_879, R_878⟩ := rp_pI (ci := 6) (k := 1) R_874 (T6_o t0) rfl rfl (ti_mn p2 p_876) e_879
  refine Rn.hp hT rfl rfl (pV_hp rfl g_879) ?_
  refine Rn.n hT 2 (pc' := 17) (L' := [some (.ref q0), some (.ref q1), some (.int m2)]) (st' := [.int (0 : Int32), .ref q0]) rfl ?_
  obtain ⟨s_880, e_881, e⟩ := Option.bind_eq_some_iff.mp e
  obtain ⟨h_880, g_881, R_880⟩ := rp_pI (ci := 6) (k := 2) R_878 (T6_o t0) rfl rfl L32_0 e_881
  refine Rn.hp hT rfl rfl (pV_hp rfl g_881) ?_
  refine Rn.n hT 2 (pc' := 22) (L' := [some (.ref q0), some (.ref q1), some (.int m2)]) (st' := [.int (0 : Int32), .ref q0]) rfl ?_
  obtain ⟨s_882, e_883, e⟩ := Option.bind_eq_some_iff.mp e
  obtain ⟨h_882, g_883, R_882⟩ := rp_pI (ci := 6) (k := 3) R_880 (T6_o t0) rfl rfl L32_0 e_883
  refine Rn.hp hT rfl rfl (pV_hp rfl g_883) ?_
  refine Rn.n hT 2 (pc' := 27) (L' := [some (.ref q0), some (.ref q1), some (.int m2)]) (st' := [.int (0 : Int32), .ref q0]) rfl ?_
  obtain ⟨s_884, e_885, e⟩ := Option.bind_eq_some_iff.mp e
  obtain ⟨h_884, g_885, R_884⟩ := rp_pI (ci := 6) (k := 4) R_882 (T6_o t0) rfl rfl L32_0 e_885
  refine Rn.hp hT rfl rfl (pV_hp rfl g_885) ?_
  obtain rfl := Option.some.inj e
  exact Rn.ret hT rfl rfl rfl (hq h_884 R_884)
set_option maxRecDepth 10000 in
theorem hX6_here : iv_Tb 88 tX6_here := iv_tb_of (m := mX6_here) rfl
set_option maxRecDepth 10000 in
theorem gX6_here : PG.2 88 = some mX6_here := iv_pi_of (t := tX6_here) rfl (by decide)
def FX6_here_b28 (N : Nat) (s : iv_M)  (xs0 : Int) : Option (Int) := (some xs0)
set_option maxRecDepth 10000 in
set_option maxHeartbeats 4000000 in
theorem RX6_here_b28 {d N nc Ls : Nat} {Xs : Nat → Int32} (hd : 0 ≤ d) {h : iv_H} {s : iv_M} (hR : Rep nc Ls Xs h s)  {ms0 : Int32} {xs0 : Int} (ps0 : ms0.toInt = xs0) {r : Int} {Q : Option Value → iv_H → Prop} (hq : ∀ (z : Int32), z.toInt = r → Q (some (.int z)) h) (e : FX6_here_b28 N s  xs0 = some r) : Rn d 88 (some .int) 28 [none] [.int ms0] h Q := by
  have hT := hX6_here
  unfold FX6_here_b28 at e
  obtain rfl := Option.some.inj e
  exact Rn.ret hT rfl rfl rfl (hq ms0 ps0)
def FX6_here (N : Nat) (s : iv_M) (q0 : Nat) : Option (Int) := (if (s q0 1) ≤ (s q0 2) then (FX6_here_b28 N s (-1)) else ((rd s ((s q0 0).toNat) ((sh ((s q0 0).toNat)).2 : Int) (s q0 2)).bind fun v_890 => (FX6_here_b28 N s (bAn v_890 255))))
set_option maxRecDepth 10000 in
set_option maxHeartbeats 4000000 in
theorem RX6_here {d N nc Ls : Nat} {Xs : Nat → Int32} (hd : 1 ≤ d) {h : iv_H} {s : iv_M} (hR : Rep nc Ls Xs h s) {q0 : Nat} (t0 : T6 nc q0) {r : Int} {Q : Option Value → iv_H → Prop} (e : FX6_here N s q0 = some r) (hq : ∀ (z : Int32), z.toInt = r → Q (some (.int z)) h) : Cl d 88 [.ref q0] h Q := by
  obtain ⟨d, rfl⟩ : ∃ k, d = k + 1 := ⟨d - 1, by omega⟩
  have hd : 0 ≤ d := by omega
  have hT := hX6_here
  unfold FX6_here at e
  refine Cl.into (by decide) gX6_here rfl ?_
  show Rn d 88 (some .int) 0 [some (.ref q0)] [] h Q
  refine Rn.n hT 1 (pc' := 1) (L' := [some (.ref q0)]) (st' := [.ref q0]) rfl ?_
  obtain ⟨z_886, g_886, p_886⟩ : ∃ z : Int32, gI h 6 2 q0 = some z ∧ z.toInt = s q0 2 := rp_gI (k := 2) hR (T6_o t0) rfl
  refine Rn.hp hT rfl rfl (gI_hp g_886) ?_
  refine Rn.n hT 1 (pc' := 5) (L' := [some (.ref q0)]) (st' := [.ref q0, .int z_886]) rfl ?_
  obtain ⟨z_887, g_887, p_887⟩ : ∃ z : Int32, gI h 6 1 q0 = some z ∧ z.toInt = s q0 1 := rp_gI (k := 1) hR (T6_o t0) rfl
  refine Rn.hp hT rfl rfl (gI_hp g_887) ?_
  by_cases c_888 : (s q0 1) ≤ (s q0 2)
  · rw [if_pos c_888] at e
    refine Rn.bt hT rfl rfl rfl (decide_eq_true ((ti_le p_887 p_886).mpr c_888)) ?_
    refine Rn.n hT 1 (pc' := 28) (L' := [some (.ref q0)]) (st' := [.int (-1 : Int32)]) rfl ?_
    exact Rn.weak (ll_n ll_e) (RX6_here_b28 hd hR L32_m1 hq e)
  · rw [if_neg c_888] at e
    refine Rn.bf hT rfl rfl rfl (decide_eq_false (fun z => c_888 ((ti_le p_887 p_886).mp z))) ?_
    refine Rn.n hT 1 (pc' := 12) (L' := [some (.ref q0)]) (st' := [.ref q0]) rfl ?_
    refine Rn.hp hT rfl rfl (gR_hp (rp_gP (k := 0) hR (T6_o t0) rfl (nn_60 hR t0))) ?_
    refine Rn.n hT 1 (pc' := 16) (L' := [some (.ref q0)]) (st' := [.ref q0, .ref ((s q0 0).toNat)]) rfl ?_
    obtain ⟨z_889, g_889, p_889⟩ : ∃ z : Int32, gI h 6 2 q0 = some z ∧ z.toInt = s q0 2 := rp_gI (k := 2) hR (T6_o t0) rfl
    refine Rn.hp hT rfl rfl (gI_hp g_889) ?_
    obtain ⟨v_890, e_890, e⟩ := Option.bind_eq_some_iff.mp e
    obtain ⟨z_890, g_890, p_890⟩ := rp_aB hR (ty_60 hR t0) (Or.inl rfl) rfl p_889 e_890
    refine Rn.hp hT rfl rfl (aB_hp g_890) ?_
    refine Rn.n hT 3 (pc' := 28) (L' := [some (.ref q0)]) (st' := [.int (z_890 &&& (255 : Int32))]) rfl ?_
    exact Rn.weak (ll_n ll_e) (RX6_here_b28 hd hR (ti_and p_890 L32_255) hq e)
set_option maxRecDepth 10000 in
theorem hX6_skipBlanks : iv_Tb 89 tX6_skipBlanks := iv_tb_of (m := mX6_skipBlanks) rfl
set_option maxRecDepth 10000 in
theorem gX6_skipBlanks : PG.2 89 = some mX6_skipBlanks := iv_pi_of (t := tX6_skipBlanks) rfl (by decide)
def FX6_skipBlanks_l0 (N : Nat) (q0 : Nat) (kx : iv_M → Option (Int × iv_M)) : Nat → iv_M → Option (Int × iv_M)
  | 0, _ => none
  | n + 1, s => (if (s q0 1) ≤ (s q0 2) then (kx s) else ((rd s ((s q0 0).toNat) ((sh ((s q0 0).toNat)).2 : Int) (s q0 2)).bind fun v_897 => (if v_897 = 32 then ((pt s q0 2 (w32 ((s q0 2) + 1))).bind fun s_900 => (FX6_skipBlanks_l0 N q0 kx n s_900)) else (kx s))))
set_option maxRecDepth 10000 in
set_option maxHeartbeats 4000000 in
theorem RX6_skipBlanks_l0 {d N nc Ls : Nat} {Xs : Nat → Int32} (hd : 1 ≤ d) {q0 : Nat} (t0 : T6 nc q0) {kx : iv_M → Option (Int × iv_M)} {r : Int × iv_M} {Q : Option Value → iv_H → Prop} (hk : ∀ (h : iv_H) (s : iv_M) (hR : Rep nc Ls Xs h s), kx s = some r → Rn d 89 (some .int) 38 [some (.ref q0)] [] h Q) (hq : ∀ (z : Int32) (h1 : iv_H), z.toInt = r.1 → Rep nc Ls Xs h1 r.2 → Q (some (.int z)) h1) : ∀ (n : Nat) (h : iv_H) (s : iv_M) (hR : Rep nc Ls Xs h s), FX6_skipBlanks_l0 N q0 kx n s = some r → Rn d 89 (some .int) 0 [some (.ref q0)] [] h Q := by
  have hT := hX6_skipBlanks
  intro n
  induction n with
  | zero =>
    intro h s hR e
    rw [FX6_skipBlanks_l0] at e
    cases e
  | succ n ih =>
    intro h s hR e
    rw [FX6_skipBlanks_l0] at e
    refine Rn.n hT 1 (pc' := 1) (L' := [some (.ref q0)]) (st' := [.ref q0]) rfl ?_
    obtain ⟨z_893, g_893, p_893⟩ : ∃ z : Int32, gI h 6 2 q0 = some z ∧ z.toInt = s q0 2 := rp_gI (k := 2) hR (T6_o t0) rfl
    refine Rn.hp hT rfl rfl (gI_hp g_893) ?_
    refine Rn.n hT 1 (pc' := 5) (L' := [some (.ref q0)]) (st' := [.ref q0, .int z_893]) rfl ?_
    obtain ⟨z_894, g_894, p_894⟩ : ∃ z : Int32, gI h 6 1 q0 = some z ∧ z.toInt = s q0 1 := rp_gI (k := 1) hR (T6_o t0) rfl
    refine Rn.hp hT rfl rfl (gI_hp g_894) ?_
    by_cases c_895 : (s q0 1) ≤ (s q0 2)
    · rw [if_pos c_895] at e
      refine Rn.bt hT rfl rfl rfl (decide_eq_true ((ti_le p_894 p_893).mpr c_895)) ?_
      exact Rn.weak (ll_s ll_e) (hk h s hR e)
    · rw [if_neg c_895] at e
      refine Rn.bf hT rfl rfl rfl (decide_eq_false (fun z => c_895 ((ti_le p_894 p_893).mp z))) ?_
      refine Rn.n hT 1 (pc' := 12) (L' := [some (.ref q0)]) (st' := [.ref q0]) rfl ?_
      refine Rn.hp hT rfl rfl (gR_hp (rp_gP (k := 0) hR (T6_o t0) rfl (nn_60 hR t0))) ?_
      refine Rn.n hT 1 (pc' := 16) (L' := [some (.ref q0)]) (st' := [.ref q0, .ref ((s q0 0).toNat)]) rfl ?_
      obtain ⟨z_896, g_896, p_896⟩ : ∃ z : Int32, gI h 6 2 q0 = some z ∧ z.toInt = s q0 2 := rp_gI (k := 2) hR (T6_o t0) rfl
      refine Rn.hp hT rfl rfl (gI_hp g_896) ?_
      obtain ⟨v_897, e_897, e⟩ := Option.bind_eq_some_iff.mp e
      obtain ⟨z_897, g_897, p_897⟩ := rp_aB hR (ty_60 hR t0) (Or.inl rfl) rfl p_896 e_897
      refine Rn.hp hT rfl rfl (aB_hp g_897) ?_
      refine Rn.n hT 1 (pc' := 22) (L' := [some (.ref q0)]) (st' := [.int (32 : Int32), .int z_897]) rfl ?_
      by_cases c_898 : v_897 = 32
      · rw [if_pos c_898] at e
        refine Rn.bf hT rfl rfl rfl (decide_eq_false (fun z => z ((ti_e p_897 L32_32).mpr c_898))) ?_
        refine Rn.n hT 2 (pc' := 27) (L' := [some (.ref q0)]) (st' := [.ref q0, .ref q0]) rfl ?_
        obtain ⟨z_899, g_899, p_899⟩ : ∃ z : Int32, gI h 6 2 q0 = some z ∧ z.toInt = s q0 2 := rp_gI (k := 2) hR (T6_o t0) rfl
        refine Rn.hp hT rfl rfl (gI_hp g_899) ?_
        refine Rn.n hT 2 (pc' := 32) (L' := [some (.ref q0)]) (st' := [.int (z_899 + (1 : Int32)), .ref q0]) rfl ?_
        obtain ⟨s_900, e_901, e⟩ := Option.bind_eq_some_iff.mp e
        obtain ⟨h_900, g_901, R_900⟩ := rp_pI (ci := 6) (k := 2) hR (T6_o t0) rfl rfl (ti_add p_899 L32_1) e_901
        refine Rn.hp hT rfl rfl (pV_hp rfl g_901) ?_
        refine Rn.n hT 1 (pc' := 0) (L' := [some (.ref q0)]) (st' := []) rfl ?_
        exact Rn.weak (ll_s ll_e) (ih h_900 s_900 R_900 e)
      · rw [if_neg c_898] at e
        refine Rn.bt hT rfl rfl rfl (decide_eq_true (fun z => c_898 ((ti_e p_897 L32_32).mp z))) ?_
        exact Rn.weak (ll_s ll_e) (hk h s hR e)
def FX6_skipBlanks_b38 (N : Nat) (s : iv_M) (q0 : Nat)  : Option (Int × iv_M) := ((FX6_here N s q0).bind fun v_902 => (some (v_902, s)))
set_option maxRecDepth 10000 in
set_option maxHeartbeats 4000000 in
theorem RX6_skipBlanks_b38 {d N nc Ls : Nat} {Xs : Nat → Int32} (hd : 1 ≤ d) {h : iv_H} {s : iv_M} (hR : Rep nc Ls Xs h s) {q0 : Nat} (t0 : T6 nc q0)  {r : Int × iv_M} {Q : Option Value → iv_H → Prop} (hq : ∀ (z : Int32) (h1 : iv_H), z.toInt = r.1 → Rep nc Ls Xs h1 r.2 → Q (some (.int z)) h1) (e : FX6_skipBlanks_b38 N s q0  = some r) : Rn d 89 (some .int) 38 [some (.ref q0)] [] h Q := by
  have hT := hX6_skipBlanks
  unfold FX6_skipBlanks_b38 at e
  refine Rn.n hT 1 (pc' := 39) (L' := [some (.ref q0)]) (st' := [.ref q0]) rfl ?_
  obtain ⟨v_902, e_902, e⟩ := Option.bind_eq_some_iff.mp e
  refine Rn.call hT rfl rfl rfl (Nat.le_of_ble_eq_true rfl) (rcv_v gX6_here (by omega) (rp_ck hR (T6_o t0))) (RX6_here (by omega) hR t0 e_902 (fun z_902 p_902 => ?_))
  show Rn d _ _ 42 [some (.ref q0)] [.int z_902] h Q
  obtain rfl := Option.some.inj e
  exact Rn.ret hT rfl rfl rfl (hq z_902 h p_902 hR)
def FX6_skipBlanks (N : Nat) (s : iv_M) (q0 : Nat) : Option (Int × iv_M) := (FX6_skipBlanks_l0 N q0 (fun (s_891 : iv_M) => (FX6_skipBlanks_b38 N s_891 q0)) N s)
set_option maxRecDepth 10000 in
set_option maxHeartbeats 4000000 in
theorem RX6_skipBlanks {d N nc Ls : Nat} {Xs : Nat → Int32} (hd : 2 ≤ d) {h : iv_H} {s : iv_M} (hR : Rep nc Ls Xs h s) {q0 : Nat} (t0 : T6 nc q0) {r : Int × iv_M} {Q : Option Value → iv_H → Prop} (e : FX6_skipBlanks N s q0 = some r) (hq : ∀ (z : Int32) (h1 : iv_H), z.toInt = r.1 → Rep nc Ls Xs h1 r.2 → Q (some (.int z)) h1) : Cl d 89 [.ref q0] h Q := by
  obtain ⟨d, rfl⟩ : ∃ k, d = k + 1 := ⟨d - 1, by omega⟩
  have hd : 1 ≤ d := by omega
  have hT := hX6_skipBlanks
  unfold FX6_skipBlanks at e
  refine Cl.into (by decide) gX6_skipBlanks rfl ?_
  show Rn d 89 (some .int) 0 [some (.ref q0)] [] h Q
  refine Rn.weak (ll_s ll_e) (RX6_skipBlanks_l0 hd t0 (fun h_891 s_891 R_891 e => ?_) hq N h s hR e)
  try dsimp only at e
  exact Rn.weak (ll_s ll_e) (RX6_skipBlanks_b38 hd R_891 t0 hq e)
set_option maxRecDepth 10000 in
theorem hX6_isLetter : iv_Tb 94 tX6_isLetter := iv_tb_of (m := mX6_isLetter) rfl
set_option maxRecDepth 10000 in
theorem gX6_isLetter : PG.2 94 = some mX6_isLetter := iv_pi_of (t := tX6_isLetter) rfl (by decide)
def FX6_isLetter_b17 (N : Nat) (s : iv_M)  (xs0 : Int) : Option (Int) := (if xs0 = 0 ∨ xs0 = 1 then some xs0 else none)
set_option maxRecDepth 10000 in
set_option maxHeartbeats 4000000 in
theorem RX6_isLetter_b17 {d N nc Ls : Nat} {Xs : Nat → Int32} (hd : 0 ≤ d) {h : iv_H} {s : iv_M} (hR : Rep nc Ls Xs h s)  {ms0 : Int32} {xs0 : Int} (ps0 : ms0.toInt = xs0) {r : Int} {Q : Option Value → iv_H → Prop} (hq : ∀ (z : Int32), z.toInt = r → Q (some (.int z)) h) (e : FX6_isLetter_b17 N s  xs0 = some r) : Rn d 94 (some .boolean) 17 [none] [.int ms0] h Q := by
  have hT := hX6_isLetter
  unfold FX6_isLetter_b17 at e
  by_cases c_905 : xs0 = 0 ∨ xs0 = 1
  · rw [if_pos c_905] at e
    obtain rfl := Option.some.inj e
    exact Rn.ret hT rfl rfl (if_pos (ti_b ps0 c_905)) (hq ms0 ps0)
  · rw [if_neg c_905] at e
    cases e
def FX6_isLetter_b16 (N : Nat) (s : iv_M)   : Option (Int) := (FX6_isLetter_b17 N s 0)
set_option maxRecDepth 10000 in
set_option maxHeartbeats 4000000 in
theorem RX6_isLetter_b16 {d N nc Ls : Nat} {Xs : Nat → Int32} (hd : 0 ≤ d) {h : iv_H} {s : iv_M} (hR : Rep nc Ls Xs h s)   {r : Int} {Q : Option Value → iv_H → Prop} (hq : ∀ (z : Int32), z.toInt = r → Q (some (.int z)) h) (e : FX6_isLetter_b16 N s   = some r) : Rn d 94 (some .boolean) 16 [none] [] h Q := by
  have hT := hX6_isLetter
  unfold FX6_isLetter_b16 at e
  refine Rn.n hT 1 (pc' := 17) (L' := [none]) (st' := [.int (0 : Int32)]) rfl ?_
  exact Rn.weak (ll_n ll_e) (RX6_isLetter_b17 hd hR L32_0 hq e)
def FX6_isLetter (N : Nat) (s : iv_M) (x0 : Int) : Option (Int) := (if x0 < 97 then (FX6_isLetter_b16 N s) else (if 122 < x0 then (FX6_isLetter_b16 N s) else (FX6_isLetter_b17 N s 1)))
set_option maxRecDepth 10000 in
set_option maxHeartbeats 4000000 in
theorem RX6_isLetter {d N nc Ls : Nat} {Xs : Nat → Int32} (hd : 1 ≤ d) {h : iv_H} {s : iv_M} (hR : Rep nc Ls Xs h s) {m0 : Int32} {x0 : Int} (p0 : m0.toInt = x0) {r : Int} {Q : Option Value → iv_H → Prop} (e : FX6_isLetter N s x0 = some r) (hq : ∀ (z : Int32), z.toInt = r → Q (some (.int z)) h) : Cl d 94 [.int m0] h Q := by
  obtain ⟨d, rfl⟩ : ∃ k, d = k + 1 := ⟨d - 1, by omega⟩
  have hd : 0 ≤ d := by omega
  have hT := hX6_isLetter
  unfold FX6_isLetter at e
  refine Cl.into (by decide) gX6_isLetter rfl ?_
  show Rn d 94 (some .boolean) 0 [some (.int m0)] [] h Q
  refine Rn.n hT 2 (pc' := 3) (L' := [some (.int m0)]) (st' := [.int (97 : Int32), .int m0]) rfl ?_
  by_cases c_903 : x0 < 97
  · rw [if_pos c_903] at e
    refine Rn.bt hT rfl rfl rfl (decide_eq_true ((ti_l p0 L32_97).mpr c_903)) ?_
    exact Rn.weak (ll_n ll_e) (RX6_isLetter_b16 hd hR hq e)
  · rw [if_neg c_903] at e
    refine Rn.bf hT rfl rfl rfl (decide_eq_false (fun z => c_903 ((ti_l p0 L32_97).mp z))) ?_
    refine Rn.n hT 2 (pc' := 9) (L' := [some (.int m0)]) (st' := [.int (122 : Int32), .int m0]) rfl ?_
    by_cases c_904 : 122 < x0
    · rw [if_pos c_904] at e
      refine Rn.bt hT rfl rfl rfl (decide_eq_true ((ti_l L32_122 p0).mpr c_904)) ?_
      exact Rn.weak (ll_n ll_e) (RX6_isLetter_b16 hd hR hq e)
    · rw [if_neg c_904] at e
      refine Rn.bf hT rfl rfl rfl (decide_eq_false (fun z => c_904 ((ti_l L32_122 p0).mp z))) ?_
      refine Rn.n hT 2 (pc' := 17) (L' := [some (.int m0)]) (st' := [.int (1 : Int32)]) rfl ?_
      exact Rn.weak (ll_n ll_e) (RX6_isLetter_b17 hd hR L32_1 hq e)
set_option maxRecDepth 10000 in
theorem hX6_indexOfWord : iv_Tb 92 tX6_indexOfWord := iv_tb_of (m := mX6_indexOfWord) rfl
set_option maxRecDepth 10000 in
theorem gX6_indexOfWord : PG.2 92 = some mX6_indexOfWord := iv_pi_of (t := tX6_indexOfWord) rfl (by decide)
def FX6_indexOfWord_b100 (N : Nat) (s : iv_M) (q0 : Nat) (q1 : Nat) (x2 : Int) (x3 : Int) (x4 : Int) (x5 : Int)  (kb : Int → Int → Int → Int → Option (Int)) (kx : Unit → Option (Int)) : Option (Int) := (kb x2 x3 x4 (w32 (x5 + 1)))
set_option maxRecDepth 10000 in
set_option maxHeartbeats 4000000 in
theorem RX6_indexOfWord_b100 {d N nc Ls : Nat} {Xs : Nat → Int32} (hd : 10 ≤ d) {h : iv_H} {s : iv_M} (hR : Rep nc Ls Xs h s) {q0 : Nat} (t0 : T6 nc q0) {q1 : Nat} (t1 : TS q1) {m2 : Int32} {x2 : Int} (p2 : m2.toInt = x2) {m3 : Int32} {x3 : Int} (p3 : m3.toInt = x3) {m4 : Int32} {x4 : Int} (p4 : m4.toInt = x4) {m5 : Int32} {x5 : Int} (p5 : m5.toInt = x5)  {kb : Int → Int → Int → Int → Option (Int)} {kx : Unit → Option (Int)} {r : Int} {Q : Option Value → iv_H → Prop} (hb : ∀ (mw2 : Int32) (xw2 : Int) (pw2 : mw2.toInt = xw2) (mw3 : Int32) (xw3 : Int) (pw3 : mw3.toInt = xw3) (mw4 : Int32) (xw4 : Int) (pw4 : mw4.toInt = xw4) (mw5 : Int32) (xw5 : Int) (pw5 : mw5.toInt = xw5), kb xw2 xw3 xw4 xw5 = some r → Rn d 92 (some .int) 13 [some (.ref q0), some (.ref q1), some (.int mw2), some (.int mw3), some (.int mw4), some (.int mw5), none] [] h Q) (hk : ∀ (u : Unit), kx u = some r → Rn d 92 (some .int) 106 [none, none, none, none, none, none, none] [] h Q) (hq : ∀ (z : Int32), z.toInt = r → Q (some (.int z)) h) (e : FX6_indexOfWord_b100 N s q0 q1 x2 x3 x4 x5  kb kx = some r) : Rn d 92 (some .int) 100 [some (.ref q0), some (.ref q1), some (.int m2), some (.int m3), some (.int m4), some (.int m5), none] [] h Q := by
  have hT := hX6_indexOfWord
  unfold FX6_indexOfWord_b100 at e
  refine Rn.n hT 2 (pc' := 13) (L' := [some (.ref q0), some (.ref q1), some (.int m2), some (.int m3), some (.int m4), some (.int (m5 + (1 : Int32))), none]) (st' := []) rfl ?_
  exact Rn.weak (ll_s (ll_s (ll_s (ll_s (ll_s (ll_s (ll_n ll_e))))))) (hb m2 x2 p2 m3 x3 p3 m4 x4 p4 (m5 + (1 : Int32)) (w32 (x5 + 1)) (ti_add p5 L32_1) e)
def FX6_indexOfWord_b66 (N : Nat) (s : iv_M) (q0 : Nat) (q1 : Nat) (x2 : Int) (x3 : Int) (x5 : Int) (xs0 : Int) (kb : Int → Int → Int → Int → Option (Int)) (kx : Unit → Option (Int)) : Option (Int) := (FX6_indexOfWord_b100 N s q0 q1 x2 (w32 (x3 + 1)) xs0 x5 kb kx)
set_option maxRecDepth 10000 in
set_option maxHeartbeats 4000000 in
theorem RX6_indexOfWord_b66 {d N nc Ls : Nat} {Xs : Nat → Int32} (hd : 10 ≤ d) {h : iv_H} {s : iv_M} (hR : Rep nc Ls Xs h s) {q0 : Nat} (t0 : T6 nc q0) {q1 : Nat} (t1 : TS q1) {m2 : Int32} {x2 : Int} (p2 : m2.toInt = x2) {m3 : Int32} {x3 : Int} (p3 : m3.toInt = x3) {m5 : Int32} {x5 : Int} (p5 : m5.toInt = x5) {ms0 : Int32} {xs0 : Int} (ps0 : ms0.toInt = xs0) {kb : Int → Int → Int → Int → Option (Int)} {kx : Unit → Option (Int)} {r : Int} {Q : Option Value → iv_H → Prop} (hb : ∀ (mw2 : Int32) (xw2 : Int) (pw2 : mw2.toInt = xw2) (mw3 : Int32) (xw3 : Int) (pw3 : mw3.toInt = xw3) (mw4 : Int32) (xw4 : Int) (pw4 : mw4.toInt = xw4) (mw5 : Int32) (xw5 : Int) (pw5 : mw5.toInt = xw5), kb xw2 xw3 xw4 xw5 = some r → Rn d 92 (some .int) 13 [some (.ref q0), some (.ref q1), some (.int mw2), some (.int mw3), some (.int mw4), some (.int mw5), none] [] h Q) (hk : ∀ (u : Unit), kx u = some r → Rn d 92 (some .int) 106 [none, none, none, none, none, none, none] [] h Q) (hq : ∀ (z : Int32), z.toInt = r → Q (some (.int z)) h) (e : FX6_indexOfWord_b66 N s q0 q1 x2 x3 x5 xs0 kb kx = some r) : Rn d 92 (some .int) 66 [some (.ref q0), some (.ref q1), some (.int m2), some (.int m3), none, some (.int m5), none] [.int ms0] h Q := by
  have hT := hX6_indexOfWord
  unfold FX6_indexOfWord_b66 at e
  refine Rn.n hT 3 (pc' := 100) (L' := [some (.ref q0), some (.ref q1), some (.int m2), some (.int (m3 + (1 : Int32))), some (.int ms0), some (.int m5), none]) (st' := []) rfl ?_
  exact Rn.weak (ll_s (ll_s (ll_s (ll_s (ll_s (ll_s (ll_n ll_e))))))) (RX6_indexOfWord_b100 hd hR t0 t1 p2 (ti_add p3 L32_1) ps0 p5 hb hk hq e)
def FX6_indexOfWord_b65 (N : Nat) (s : iv_M) (q0 : Nat) (q1 : Nat) (x2 : Int) (x3 : Int) (x5 : Int)  (kb : Int → Int → Int → Int → Option (Int)) (kx : Unit → Option (Int)) : Option (Int) := (FX6_indexOfWord_b66 N s q0 q1 x2 x3 x5 0 kb kx)
set_option maxRecDepth 10000 in
set_option maxHeartbeats 4000000 in
theorem RX6_indexOfWord_b65 {d N nc Ls : Nat} {Xs : Nat → Int32} (hd : 10 ≤ d) {h : iv_H} {s : iv_M} (hR : Rep nc Ls Xs h s) {q0 : Nat} (t0 : T6 nc q0) {q1 : Nat} (t1 : TS q1) {m2 : Int32} {x2 : Int} (p2 : m2.toInt = x2) {m3 : Int32} {x3 : Int} (p3 : m3.toInt = x3) {m5 : Int32} {x5 : Int} (p5 : m5.toInt = x5)  {kb : Int → Int → Int → Int → Option (Int)} {kx : Unit → Option (Int)} {r : Int} {Q : Option Value → iv_H → Prop} (hb : ∀ (mw2 : Int32) (xw2 : Int) (pw2 : mw2.toInt = xw2) (mw3 : Int32) (xw3 : Int) (pw3 : mw3.toInt = xw3) (mw4 : Int32) (xw4 : Int) (pw4 : mw4.toInt = xw4) (mw5 : Int32) (xw5 : Int) (pw5 : mw5.toInt = xw5), kb xw2 xw3 xw4 xw5 = some r → Rn d 92 (some .int) 13 [some (.ref q0), some (.ref q1), some (.int mw2), some (.int mw3), some (.int mw4), some (.int mw5), none] [] h Q) (hk : ∀ (u : Unit), kx u = some r → Rn d 92 (some .int) 106 [none, none, none, none, none, none, none] [] h Q) (hq : ∀ (z : Int32), z.toInt = r → Q (some (.int z)) h) (e : FX6_indexOfWord_b65 N s q0 q1 x2 x3 x5  kb kx = some r) : Rn d 92 (some .int) 65 [some (.ref q0), some (.ref q1), some (.int m2), some (.int m3), none, some (.int m5), none] [] h Q := by
  have hT := hX6_indexOfWord
  unfold FX6_indexOfWord_b65 at e
  refine Rn.n hT 1 (pc' := 66) (L' := [some (.ref q0), some (.ref q1), some (.int m2), some (.int m3), none, some (.int m5), none]) (st' := [.int (0 : Int32)]) rfl ?_
  exact Rn.weak (ll_s (ll_s (ll_s (ll_s (ll_n (ll_s (ll_n ll_e))))))) (RX6_indexOfWord_b66 hd hR t0 t1 p2 p3 p5 L32_0 hb hk hq e)
def FX6_indexOfWord_b89 (N : Nat) (s : iv_M) (q0 : Nat) (q1 : Nat) (x2 : Int) (x5 : Int)  (kb : Int → Int → Int → Int → Option (Int)) (kx : Unit → Option (Int)) : Option (Int) := (FX6_indexOfWord_b100 N s q0 q1 (w32 (x2 + 1)) (s q0 3) 1 x5 kb kx)
set_option maxRecDepth 10000 in
set_option maxHeartbeats 4000000 in
theorem RX6_indexOfWord_b89 {d N nc Ls : Nat} {Xs : Nat → Int32} (hd : 10 ≤ d) {h : iv_H} {s : iv_M} (hR : Rep nc Ls Xs h s) {q0 : Nat} (t0 : T6 nc q0) {q1 : Nat} (t1 : TS q1) {m2 : Int32} {x2 : Int} (p2 : m2.toInt = x2) {m5 : Int32} {x5 : Int} (p5 : m5.toInt = x5)  {kb : Int → Int → Int → Int → Option (Int)} {kx : Unit → Option (Int)} {r : Int} {Q : Option Value → iv_H → Prop} (hb : ∀ (mw2 : Int32) (xw2 : Int) (pw2 : mw2.toInt = xw2) (mw3 : Int32) (xw3 : Int) (pw3 : mw3.toInt = xw3) (mw4 : Int32) (xw4 : Int) (pw4 : mw4.toInt = xw4) (mw5 : Int32) (xw5 : Int) (pw5 : mw5.toInt = xw5), kb xw2 xw3 xw4 xw5 = some r → Rn d 92 (some .int) 13 [some (.ref q0), some (.ref q1), some (.int mw2), some (.int mw3), some (.int mw4), some (.int mw5), none] [] h Q) (hk : ∀ (u : Unit), kx u = some r → Rn d 92 (some .int) 106 [none, none, none, none, none, none, none] [] h Q) (hq : ∀ (z : Int32), z.toInt = r → Q (some (.int z)) h) (e : FX6_indexOfWord_b89 N s q0 q1 x2 x5  kb kx = some r) : Rn d 92 (some .int) 89 [some (.ref q0), some (.ref q1), some (.int m2), none, none, some (.int m5), none] [] h Q := by
  have hT := hX6_indexOfWord
  unfold FX6_indexOfWord_b89 at e
  refine Rn.n hT 2 (pc' := 93) (L' := [some (.ref q0), some (.ref q1), some (.int (m2 + (1 : Int32))), none, none, some (.int m5), none]) (st' := [.ref q0]) rfl ?_
  obtain ⟨z_920, g_920, p_920⟩ : ∃ z : Int32, gI h 6 3 q0 = some z ∧ z.toInt = s q0 3 := rp_gI (k := 3) hR (T6_o t0) rfl
  refine Rn.hp hT rfl rfl (gI_hp g_920) ?_
  refine Rn.n hT 3 (pc' := 100) (L' := [some (.ref q0), some (.ref q1), some (.int (m2 + (1 : Int32))), some (.int z_920), some (.int (1 : Int32)), some (.int m5), none]) (st' := []) rfl ?_
  exact Rn.weak (ll_s (ll_s (ll_s (ll_s (ll_s (ll_s (ll_n ll_e))))))) (RX6_indexOfWord_b100 hd hR t0 t1 (ti_add p2 L32_1) p_920 L32_1 p5 hb hk hq e)
def FX6_indexOfWord_l13 (N : Nat) (s : iv_M) (q0 : Nat) (q1 : Nat) (kx : Unit → Option (Int)) : Nat → Int → Int → Int → Int → Option (Int)
  | 0, _, _, _, _ => none
  | n + 1, x2, x3, x4, x5 => (if (tL q1) ≤ x5 then (kx ()) else ((tA q1 x5).bind fun v_910 => (if v_910 = 44 then (if x4 = 0 then (FX6_indexOfWord_b89 N s q0 q1 x2 x5 (FX6_indexOfWord_l13 N s q0 q1 kx n) kx) else (if x3 = (s q0 2) then (some x2) else (FX6_indexOfWord_b89 N s q0 q1 x2 x5 (FX6_indexOfWord_l13 N s q0 q1 kx n) kx))) else (if x4 = 0 then (FX6_indexOfWord_b65 N s q0 q1 x2 x3 x5 (FX6_indexOfWord_l13 N s q0 q1 kx n) kx) else (if (s q0 2) ≤ x3 then (FX6_indexOfWord_b65 N s q0 q1 x2 x3 x5 (FX6_indexOfWord_l13 N s q0 q1 kx n) kx) else ((rd s ((s q0 0).toNat) ((sh ((s q0 0).toNat)).2 : Int) x3).bind fun v_918 => (if v_918 = v_910 then (FX6_indexOfWord_b66 N s q0 q1 x2 x3 x5 1 (FX6_indexOfWord_l13 N s q0 q1 kx n) kx) else (FX6_indexOfWord_b65 N s q0 q1 x2 x3 x5 (FX6_indexOfWord_l13 N s q0 q1 kx n) kx))))))))
set_option maxRecDepth 10000 in
set_option maxHeartbeats 4000000 in
theorem RX6_indexOfWord_l13 {d N nc Ls : Nat} {Xs : Nat → Int32} (hd : 10 ≤ d) {h : iv_H} {s : iv_M} (hR : Rep nc Ls Xs h s) {q0 : Nat} (t0 : T6 nc q0) {q1 : Nat} (t1 : TS q1) {kx : Unit → Option (Int)} {r : Int} {Q : Option Value → iv_H → Prop} (hk : ∀ (u : Unit), kx u = some r → Rn d 92 (some .int) 106 [none, none, none, none, none, none, none] [] h Q) (hq : ∀ (z : Int32), z.toInt = r → Q (some (.int z)) h) : ∀ (n : Nat) (m2 : Int32) (x2 : Int) (p2 : m2.toInt = x2) (m3 : Int32) (x3 : Int) (p3 : m3.toInt = x3) (m4 : Int32) (x4 : Int) (p4 : m4.toInt = x4) (m5 : Int32) (x5 : Int) (p5 : m5.toInt = x5), FX6_indexOfWord_l13 N s q0 q1 kx n x2 x3 x4 x5 = some r → Rn d 92 (some .int) 13 [some (.ref q0), some (.ref q1), some (.int m2), some (.int m3), some (.int m4), some (.int m5), none] [] h Q := by
  have hT := hX6_indexOfWord
  intro n
  induction n with
  | zero =>
    intro m2 x2 p2 m3 x3 p3 m4 x4 p4 m5 x5 p5 e
    rw [FX6_indexOfWord_l13] at e
    cases e
  | succ n ih =>
    intro m2 x2 p2 m3 x3 p3 m4 x4 p4 m5 x5 p5 e
    rw [FX6_indexOfWord_l13] at e
    refine Rn.n hT 2 (pc' := 16) (L' := [some (.ref q0), some (.ref q1), some (.int m2), some (.int m3), some (.int m4), some (.int m5), none]) (st' := [.ref q1, .int m5]) rfl ?_
    obtain ⟨z_908, g_908, p_908⟩ := rp_sL hR t1
    refine Rn.call hT rfl rfl rfl (Nat.le_of_ble_eq_true rfl) rfl (sL_cl (by omega) g_908 ?_)
    show Rn d _ _ 19 [some (.ref q0), some (.ref q1), some (.int m2), some (.int m3), some (.int m4), some (.int m5), none] [.int z_908, .int m5] h Q
    by_cases c_909 : (tL q1) ≤ x5
    · rw [if_pos c_909] at e
      refine Rn.bt hT rfl rfl rfl (decide_eq_true ((ti_le p_908 p5).mpr c_909)) ?_
      exact Rn.weak (ll_n (ll_n (ll_n (ll_n (ll_n (ll_n (ll_n ll_e))))))) (hk () e)
    · rw [if_neg c_909] at e
      refine Rn.bf hT rfl rfl rfl (decide_eq_false (fun z => c_909 ((ti_le p_908 p5).mp z))) ?_
      refine Rn.n hT 2 (pc' := 25) (L' := [some (.ref q0), some (.ref q1), some (.int m2), some (.int m3), some (.int m4), some (.int m5), none]) (st' := [.int m5, .ref q1]) rfl ?_
      obtain ⟨v_910, e_910, e⟩ := Option.bind_eq_some_iff.mp e
      obtain ⟨z_910, g_910, p_910⟩ := rp_sA hR t1 p5 e_910
      refine Rn.call hT rfl rfl rfl (Nat.le_of_ble_eq_true rfl) rfl (sA_cl (by omega) g_910 ?_)
      show Rn d _ _ 28 [some (.ref q0), some (.ref q1), some (.int m2), some (.int m3), some (.int m4), some (.int m5), none] [.int z_910] h Q
      refine Rn.n hT 3 (pc' := 34) (L' := [some (.ref q0), some (.ref q1), some (.int m2), some (.int m3), some (.int m4), some (.int m5), some (.int z_910)]) (st' := [.int (44 : Int32), .int z_910]) rfl ?_
      by_cases c_911 : v_910 = 44
      · rw [if_pos c_911] at e
        refine Rn.bt hT rfl rfl rfl (decide_eq_true ((ti_e p_910 L32_44).mpr c_911)) ?_
        refine Rn.n hT 1 (pc' := 76) (L' := [some (.ref q0), some (.ref q1), some (.int m2), some (.int m3), some (.int m4), some (.int m5), some (.int z_910)]) (st' := [.int m4]) rfl ?_
        by_cases c_912 : x4 = 0
        · rw [if_pos c_912] at e
          refine Rn.bt hT rfl rfl rfl (decide_eq_true ((ti_e p4 L32_0).mpr c_912)) ?_
          exact Rn.weak (ll_s (ll_s (ll_s (ll_n (ll_n (ll_s (ll_n ll_e))))))) (RX6_indexOfWord_b89 hd hR t0 t1 p2 p5 ih hk hq e)
        · rw [if_neg c_912] at e
          refine Rn.bf hT rfl rfl rfl (decide_eq_false (fun z => c_912 ((ti_e p4 L32_0).mp z))) ?_
          refine Rn.n hT 2 (pc' := 81) (L' := [some (.ref q0), some (.ref q1), some (.int m2), some (.int m3), some (.int m4), some (.int m5), some (.int z_910)]) (st' := [.ref q0, .int m3]) rfl ?_
          obtain ⟨z_913, g_913, p_913⟩ : ∃ z : Int32, gI h 6 2 q0 = some z ∧ z.toInt = s q0 2 := rp_gI (k := 2) hR (T6_o t0) rfl
          refine Rn.hp hT rfl rfl (gI_hp g_913) ?_
          by_cases c_914 : x3 = (s q0 2)
          · rw [if_pos c_914] at e
            refine Rn.bf hT rfl rfl rfl (decide_eq_false (fun z => z ((ti_e p3 p_913).mpr c_914))) ?_
            refine Rn.n hT 1 (pc' := 88) (L' := [some (.ref q0), some (.ref q1), some (.int m2), some (.int m3), some (.int m4), some (.int m5), some (.int z_910)]) (st' := [.int m2]) rfl ?_
            obtain rfl := Option.some.inj e
            exact Rn.ret hT rfl rfl rfl (hq m2 p2)
          · rw [if_neg c_914] at e
            refine Rn.bt hT rfl rfl rfl (decide_eq_true (fun z => c_914 ((ti_e p3 p_913).mp z))) ?_
            exact Rn.weak (ll_s (ll_s (ll_s (ll_n (ll_n (ll_s (ll_n ll_e))))))) (RX6_indexOfWord_b89 hd hR t0 t1 p2 p5 ih hk hq e)
      · rw [if_neg c_911] at e
        refine Rn.bf hT rfl rfl rfl (decide_eq_false (fun z => c_911 ((ti_e p_910 L32_44).mp z))) ?_
        refine Rn.n hT 1 (pc' := 39) (L' := [some (.ref q0), some (.ref q1), some (.int m2), some (.int m3), some (.int m4), some (.int m5), some (.int z_910)]) (st' := [.int m4]) rfl ?_
        by_cases c_915 : x4 = 0
        · rw [if_pos c_915] at e
          refine Rn.bt hT rfl rfl rfl (decide_eq_true ((ti_e p4 L32_0).mpr c_915)) ?_
          exact Rn.weak (ll_s (ll_s (ll_s (ll_s (ll_n (ll_s (ll_n ll_e))))))) (RX6_indexOfWord_b65 hd hR t0 t1 p2 p3 p5 ih hk hq e)
        · rw [if_neg c_915] at e
          refine Rn.bf hT rfl rfl rfl (decide_eq_false (fun z => c_915 ((ti_e p4 L32_0).mp z))) ?_
          refine Rn.n hT 2 (pc' := 44) (L' := [some (.ref q0), some (.ref q1), some (.int m2), some (.int m3), some (.int m4), some (.int m5), some (.int z_910)]) (st' := [.ref q0, .int m3]) rfl ?_
          obtain ⟨z_916, g_916, p_916⟩ : ∃ z : Int32, gI h 6 2 q0 = some z ∧ z.toInt = s q0 2 := rp_gI (k := 2) hR (T6_o t0) rfl
          refine Rn.hp hT rfl rfl (gI_hp g_916) ?_
          by_cases c_917 : (s q0 2) ≤ x3
          · rw [if_pos c_917] at e
            refine Rn.bt hT rfl rfl rfl (decide_eq_true ((ti_le p_916 p3).mpr c_917)) ?_
            exact Rn.weak (ll_s (ll_s (ll_s (ll_s (ll_n (ll_s (ll_n ll_e))))))) (RX6_indexOfWord_b65 hd hR t0 t1 p2 p3 p5 ih hk hq e)
          · rw [if_neg c_917] at e
            refine Rn.bf hT rfl rfl rfl (decide_eq_false (fun z => c_917 ((ti_le p_916 p3).mp z))) ?_
            refine Rn.n hT 1 (pc' := 51) (L' := [some (.ref q0), some (.ref q1), some (.int m2), some (.int m3), some (.int m4), some (.int m5), some (.int z_910)]) (st' := [.ref q0]) rfl ?_
            refine Rn.hp hT rfl rfl (gR_hp (rp_gP (k := 0) hR (T6_o t0) rfl (nn_60 hR t0))) ?_
            refine Rn.n hT 1 (pc' := 55) (L' := [some (.ref q0), some (.ref q1), some (.int m2), some (.int m3), some (.int m4), some (.int m5), some (.int z_910)]) (st' := [.int m3, .ref ((s q0 0).toNat)]) rfl ?_
            obtain ⟨v_918, e_918, e⟩ := Option.bind_eq_some_iff.mp e
            obtain ⟨z_918, g_918, p_918⟩ := rp_aB hR (ty_60 hR t0) (Or.inl rfl) rfl p3 e_918
            refine Rn.hp hT rfl rfl (aB_hp g_918) ?_
            refine Rn.n hT 1 (pc' := 58) (L' := [some (.ref q0), some (.ref q1), some (.int m2), some (.int m3), some (.int m4), some (.int m5), some (.int z_910)]) (st' := [.int z_910, .int z_918]) rfl ?_
            by_cases c_919 : v_918 = v_910
            · rw [if_pos c_919] at e
              refine Rn.bf hT rfl rfl rfl (decide_eq_false (fun z => z ((ti_e p_918 p_910).mpr c_919))) ?_
              refine Rn.n hT 2 (pc' := 66) (L' := [some (.ref q0), some (.ref q1), some (.int m2), some (.int m3), some (.int m4), some (.int m5), some (.int z_910)]) (st' := [.int (1 : Int32)]) rfl ?_
              exact Rn.weak (ll_s (ll_s (ll_s (ll_s (ll_n (ll_s (ll_n ll_e))))))) (RX6_indexOfWord_b66 hd hR t0 t1 p2 p3 p5 L32_1 ih hk hq e)
            · rw [if_neg c_919] at e
              refine Rn.bt hT rfl rfl rfl (decide_eq_true (fun z => c_919 ((ti_e p_918 p_910).mp z))) ?_
              exact Rn.weak (ll_s (ll_s (ll_s (ll_s (ll_n (ll_s (ll_n ll_e))))))) (RX6_indexOfWord_b65 hd hR t0 t1 p2 p3 p5 ih hk hq e)
def FX6_indexOfWord (N : Nat) (s : iv_M) (q0 : Nat) (q1 : Nat) : Option (Int) := (FX6_indexOfWord_l13 N s q0 q1 (fun (_ : Unit) => (some (-1))) N 0 (s q0 3) 1 0)
set_option maxRecDepth 10000 in
set_option maxHeartbeats 4000000 in
theorem RX6_indexOfWord {d N nc Ls : Nat} {Xs : Nat → Int32} (hd : 11 ≤ d) {h : iv_H} {s : iv_M} (hR : Rep nc Ls Xs h s) {q0 : Nat} (t0 : T6 nc q0) {q1 : Nat} (t1 : TS q1) {r : Int} {Q : Option Value → iv_H → Prop} (e : FX6_indexOfWord N s q0 q1 = some r) (hq : ∀ (z : Int32), z.toInt = r → Q (some (.int z)) h) : Cl d 92 [.ref q0, .ref q1] h Q := by
  obtain ⟨d, rfl⟩ : ∃ k, d = k + 1 := ⟨d - 1, by omega⟩
  have hd : 10 ≤ d := by omega
  have hT := hX6_indexOfWord
  unfold FX6_indexOfWord at e
  refine Cl.into (by decide) gX6_indexOfWord rfl ?_
  show Rn d 92 (some .int) 0 [some (.ref q0), some (.ref q1), none, none, none, none, none] [] h Q
  refine Rn.n hT 3 (pc' := 3) (L' := [some (.ref q0), some (.ref q1), some (.int (0 : Int32)), none, none, none, none]) (st' := [.ref q0]) rfl ?_
  obtain ⟨z_906, g_906, p_906⟩ : ∃ z : Int32, gI h 6 3 q0 = some z ∧ z.toInt = s q0 3 := rp_gI (k := 3) hR (T6_o t0) rfl
  refine Rn.hp hT rfl rfl (gI_hp g_906) ?_
  refine Rn.n hT 5 (pc' := 13) (L' := [some (.ref q0), some (.ref q1), some (.int (0 : Int32)), some (.int z_906), some (.int (1 : Int32)), some (.int (0 : Int32)), none]) (st' := []) rfl ?_
  refine Rn.weak (ll_s (ll_s (ll_s (ll_s (ll_s (ll_s (ll_n ll_e))))))) (RX6_indexOfWord_l13 hd hR t0 t1 (fun _ e => ?_) hq N (0 : Int32) 0 L32_0 z_906 (s q0 3) p_906 (1 : Int32) 1 L32_1 (0 : Int32) 0 L32_0 e)
  try dsimp only at e
  refine Rn.n hT 1 (pc' := 107) (L' := [none, none, none, none, none, none, none]) (st' := [.int (-1 : Int32)]) rfl ?_
  obtain rfl := Option.some.inj e
  exact Rn.ret hT rfl rfl rfl (hq (-1 : Int32) L32_m1)
set_option maxRecDepth 10000 in
theorem hX6_fail : iv_Tb 87 tX6_fail := iv_tb_of (m := mX6_fail) rfl
set_option maxRecDepth 10000 in
theorem gX6_fail : PG.2 87 = some mX6_fail := iv_pi_of (t := tX6_fail) rfl (by decide)
def FX6_fail_b19 (N : Nat) (s : iv_M)   : Option (iv_M) := some s
set_option maxRecDepth 10000 in
set_option maxHeartbeats 4000000 in
theorem RX6_fail_b19 {d N nc Ls : Nat} {Xs : Nat → Int32} (hd : 0 ≤ d) {h : iv_H} {s : iv_M} (hR : Rep nc Ls Xs h s)   {r : iv_M} {Q : Option Value → iv_H → Prop} (hq : ∀ h1, Rep nc Ls Xs h1 r → Q none h1) (e : FX6_fail_b19 N s   = some r) : Rn d 87 none 19 [none, none, none] [] h Q := by
  have hT := hX6_fail
  unfold FX6_fail_b19 at e
  obtain rfl := Option.some.inj e
  exact Rn.ret hT rfl rfl rfl (hq h hR)
def FX6_fail (N : Nat) (s : iv_M) (q0 : Nat) (x1 : Int) (x2 : Int) : Option (iv_M) := (if (s q0 4) = 0 then ((pt s q0 4 (w32 ((w32 (1 + (w32 (8 * x1)))) + x2))).bind fun s_923 => (FX6_fail_b19 N s_923)) else (FX6_fail_b19 N s))
set_option maxRecDepth 10000 in
set_option maxHeartbeats 4000000 in
theorem RX6_fail {d N nc Ls : Nat} {Xs : Nat → Int32} (hd : 1 ≤ d) {h : iv_H} {s : iv_M} (hR : Rep nc Ls Xs h s) {q0 : Nat} (t0 : T6 nc q0) {m1 : Int32} {x1 : Int} (p1 : m1.toInt = x1) {m2 : Int32} {x2 : Int} (p2 : m2.toInt = x2) {r : iv_M} {Q : Option Value → iv_H → Prop} (e : FX6_fail N s q0 x1 x2 = some r) (hq : ∀ h1, Rep nc Ls Xs h1 r → Q none h1) : Cl d 87 [.ref q0, .int m1, .int m2] h Q := by
  obtain ⟨d, rfl⟩ : ∃ k, d = k + 1 := ⟨d - 1, by omega⟩
  have hd : 0 ≤ d := by omega
  have hT := hX6_fail
  unfold FX6_fail at e
  refine Cl.into (by decide) gX6_fail rfl ?_
  show Rn d 87 none 0 [some (.ref q0), some (.int m1), some (.int m2)] [] h Q
  refine Rn.n hT 1 (pc' := 1) (L' := [some (.ref q0), some (.int m1), some (.int m2)]) (st' := [.ref q0]) rfl ?_
  obtain ⟨z_921, g_921, p_921⟩ : ∃ z : Int32, gI h 6 4 q0 = some z ∧ z.toInt = s q0 4 := rp_gI (k := 4) hR (T6_o t0) rfl
  refine Rn.hp hT rfl rfl (gI_hp g_921) ?_
  by_cases c_922 : (s q0 4) = 0
  · rw [if_pos c_922] at e
    refine Rn.bf hT rfl rfl rfl (decide_eq_false (fun z => z ((ti_e p_921 L32_0).mpr c_922))) ?_
    refine Rn.n hT 8 (pc' := 16) (L' := [some (.ref q0), some (.int m1), some (.int m2)]) (st' := [.int (((1 : Int32) + ((8 : Int32) * m1)) + m2), .ref q0]) rfl ?_
    obtain ⟨s_923, e_924, e⟩ := Option.bind_eq_some_iff.mp e
    obtain ⟨h_923, g_924, R_923⟩ := rp_pI (ci := 6) (k := 4) hR (T6_o t0) rfl rfl (ti_add (ti_add L32_1 (ti_mul L32_8 p1)) p2) e_924
    refine Rn.hp hT rfl rfl (pV_hp rfl g_924) ?_
    exact Rn.weak (ll_n (ll_n (ll_n ll_e))) (RX6_fail_b19 hd R_923 hq e)
  · rw [if_neg c_922] at e
    refine Rn.bt hT rfl rfl rfl (decide_eq_true (fun z => c_922 ((ti_e p_921 L32_0).mp z))) ?_
    exact Rn.weak (ll_n (ll_n (ll_n ll_e))) (RX6_fail_b19 hd hR hq e)
set_option maxRecDepth 10000 in
theorem hX6_readWord : iv_Tb 91 tX6_readWord := iv_tb_of (m := mX6_readWord) rfl
set_option maxRecDepth 10000 in
theorem gX6_readWord : PG.2 91 = some mX6_readWord := iv_pi_of (t := tX6_readWord) rfl (by decide)
def FX6_readWord_l13 (N : Nat) (q0 : Nat) (q1 : Nat) (kx : iv_M → Option (Int × iv_M)) : Nat → iv_M → Option (Int × iv_M)
  | 0, _ => none
  | n + 1, s => (if (s q0 1) ≤ (s q0 2) then (kx s) else ((rd s ((s q0 0).toNat) ((sh ((s q0 0).toNat)).2 : Int) (s q0 2)).bind fun v_936 => ((FX6_isLetter N s v_936).bind fun v_937 => (if v_937 = 0 then (kx s) else ((pt s q0 2 (w32 ((s q0 2) + 1))).bind fun s_940 => (FX6_readWord_l13 N q0 q1 kx n s_940))))))
set_option maxRecDepth 10000 in
set_option maxHeartbeats 4000000 in
theorem RX6_readWord_l13 {d N nc Ls : Nat} {Xs : Nat → Int32} (hd : 11 ≤ d) {q0 : Nat} (t0 : T6 nc q0) {q1 : Nat} (t1 : TS q1) {kx : iv_M → Option (Int × iv_M)} {r : Int × iv_M} {Q : Option Value → iv_H → Prop} (hk : ∀ (h : iv_H) (s : iv_M) (hR : Rep nc Ls Xs h s), kx s = some r → Rn d 91 (some .int) 52 [some (.ref q0), some (.ref q1), none] [] h Q) (hq : ∀ (z : Int32) (h1 : iv_H), z.toInt = r.1 → Rep nc Ls Xs h1 r.2 → Q (some (.int z)) h1) : ∀ (n : Nat) (h : iv_H) (s : iv_M) (hR : Rep nc Ls Xs h s), FX6_readWord_l13 N q0 q1 kx n s = some r → Rn d 91 (some .int) 13 [some (.ref q0), some (.ref q1), none] [] h Q := by
  have hT := hX6_readWord
  intro n
  induction n with
  | zero =>
    intro h s hR e
    rw [FX6_readWord_l13] at e
    cases e
  | succ n ih =>
    intro h s hR e
    rw [FX6_readWord_l13] at e
    refine Rn.n hT 1 (pc' := 14) (L' := [some (.ref q0), some (.ref q1), none]) (st' := [.ref q0]) rfl ?_
    obtain ⟨z_932, g_932, p_932⟩ : ∃ z : Int32, gI h 6 2 q0 = some z ∧ z.toInt = s q0 2 := rp_gI (k := 2) hR (T6_o t0) rfl
    refine Rn.hp hT rfl rfl (gI_hp g_932) ?_
    refine Rn.n hT 1 (pc' := 18) (L' := [some (.ref q0), some (.ref q1), none]) (st' := [.ref q0, .int z_932]) rfl ?_
    obtain ⟨z_933, g_933, p_933⟩ : ∃ z : Int32, gI h 6 1 q0 = some z ∧ z.toInt = s q0 1 := rp_gI (k := 1) hR (T6_o t0) rfl
    refine Rn.hp hT rfl rfl (gI_hp g_933) ?_
    by_cases c_934 : (s q0 1) ≤ (s q0 2)
    · rw [if_pos c_934] at e
      refine Rn.bt hT rfl rfl rfl (decide_eq_true ((ti_le p_933 p_932).mpr c_934)) ?_
      exact Rn.weak (ll_s (ll_s (ll_n ll_e))) (hk h s hR e)
    · rw [if_neg c_934] at e
      refine Rn.bf hT rfl rfl rfl (decide_eq_false (fun z => c_934 ((ti_le p_933 p_932).mp z))) ?_
      refine Rn.n hT 1 (pc' := 25) (L' := [some (.ref q0), some (.ref q1), none]) (st' := [.ref q0]) rfl ?_
      refine Rn.hp hT rfl rfl (gR_hp (rp_gP (k := 0) hR (T6_o t0) rfl (nn_60 hR t0))) ?_
      refine Rn.n hT 1 (pc' := 29) (L' := [some (.ref q0), some (.ref q1), none]) (st' := [.ref q0, .ref ((s q0 0).toNat)]) rfl ?_
      obtain ⟨z_935, g_935, p_935⟩ : ∃ z : Int32, gI h 6 2 q0 = some z ∧ z.toInt = s q0 2 := rp_gI (k := 2) hR (T6_o t0) rfl
      refine Rn.hp hT rfl rfl (gI_hp g_935) ?_
      obtain ⟨v_936, e_936, e⟩ := Option.bind_eq_some_iff.mp e
      obtain ⟨z_936, g_936, p_936⟩ := rp_aB hR (ty_60 hR t0) (Or.inl rfl) rfl p_935 e_936
      refine Rn.hp hT rfl rfl (aB_hp g_936) ?_
      obtain ⟨v_937, e_937, e⟩ := Option.bind_eq_some_iff.mp e
      refine Rn.call hT rfl rfl rfl (Nat.le_of_ble_eq_true rfl) rfl (RX6_isLetter (by omega) hR p_936 e_937 (fun z_937 p_937 => ?_))
      show Rn d _ _ 36 [some (.ref q0), some (.ref q1), none] [.int z_937] h Q
      by_cases c_938 : v_937 = 0
      · rw [if_pos c_938] at e
        refine Rn.bt hT rfl rfl rfl (decide_eq_true ((ti_e p_937 L32_0).mpr c_938)) ?_
        exact Rn.weak (ll_s (ll_s (ll_n ll_e))) (hk h s hR e)
      · rw [if_neg c_938] at e
        refine Rn.bf hT rfl rfl rfl (decide_eq_false (fun z => c_938 ((ti_e p_937 L32_0).mp z))) ?_
        refine Rn.n hT 2 (pc' := 41) (L' := [some (.ref q0), some (.ref q1), none]) (st' := [.ref q0, .ref q0]) rfl ?_
        obtain ⟨z_939, g_939, p_939⟩ : ∃ z : Int32, gI h 6 2 q0 = some z ∧ z.toInt = s q0 2 := rp_gI (k := 2) hR (T6_o t0) rfl
        refine Rn.hp hT rfl rfl (gI_hp g_939) ?_
        refine Rn.n hT 2 (pc' := 46) (L' := [some (.ref q0), some (.ref q1), none]) (st' := [.int (z_939 + (1 : Int32)), .ref q0]) rfl ?_
        obtain ⟨s_940, e_941, e⟩ := Option.bind_eq_some_iff.mp e
        obtain ⟨h_940, g_941, R_940⟩ := rp_pI (ci := 6) (k := 2) hR (T6_o t0) rfl rfl (ti_add p_939 L32_1) e_941
        refine Rn.hp hT rfl rfl (pV_hp rfl g_941) ?_
        refine Rn.n hT 1 (pc' := 13) (L' := [some (.ref q0), some (.ref q1), none]) (st' := []) rfl ?_
        exact Rn.weak (ll_s (ll_s (ll_n ll_e))) (ih h_940 s_940 R_940 e)
def FX6_readWord_b72 (N : Nat) (s : iv_M) (x2 : Int)  : Option (Int × iv_M) := (some (x2, s))
set_option maxRecDepth 10000 in
set_option maxHeartbeats 4000000 in
theorem RX6_readWord_b72 {d N nc Ls : Nat} {Xs : Nat → Int32} (hd : 11 ≤ d) {h : iv_H} {s : iv_M} (hR : Rep nc Ls Xs h s) {m2 : Int32} {x2 : Int} (p2 : m2.toInt = x2)  {r : Int × iv_M} {Q : Option Value → iv_H → Prop} (hq : ∀ (z : Int32) (h1 : iv_H), z.toInt = r.1 → Rep nc Ls Xs h1 r.2 → Q (some (.int z)) h1) (e : FX6_readWord_b72 N s x2  = some r) : Rn d 91 (some .int) 72 [none, none, some (.int m2)] [] h Q := by
  have hT := hX6_readWord
  unfold FX6_readWord_b72 at e
  refine Rn.n hT 1 (pc' := 73) (L' := [none, none, some (.int m2)]) (st' := [.int m2]) rfl ?_
  obtain rfl := Option.some.inj e
  exact Rn.ret hT rfl rfl rfl (hq m2 h p2 hR)
def FX6_readWord_b52 (N : Nat) (s : iv_M) (q0 : Nat) (q1 : Nat)  : Option (Int × iv_M) := ((FX6_indexOfWord N s q0 q1).bind fun v_942 => (if v_942 = (-1) then ((FX6_fail N s q0 (s q0 3) 0).bind fun s_946 => (FX6_readWord_b72 N s_946 v_942)) else (FX6_readWord_b72 N s v_942)))
set_option maxRecDepth 10000 in
set_option maxHeartbeats 4000000 in
theorem RX6_readWord_b52 {d N nc Ls : Nat} {Xs : Nat → Int32} (hd : 11 ≤ d) {h : iv_H} {s : iv_M} (hR : Rep nc Ls Xs h s) {q0 : Nat} (t0 : T6 nc q0) {q1 : Nat} (t1 : TS q1)  {r : Int × iv_M} {Q : Option Value → iv_H → Prop} (hq : ∀ (z : Int32) (h1 : iv_H), z.toInt = r.1 → Rep nc Ls Xs h1 r.2 → Q (some (.int z)) h1) (e : FX6_readWord_b52 N s q0 q1  = some r) : Rn d 91 (some .int) 52 [some (.ref q0), some (.ref q1), none] [] h Q := by
  have hT := hX6_readWord
  unfold FX6_readWord_b52 at e
  refine Rn.n hT 2 (pc' := 54) (L' := [some (.ref q0), some (.ref q1), none]) (st' := [.ref q1, .ref q0]) rfl ?_
  obtain ⟨v_942, e_942, e⟩ := Option.bind_eq_some_iff.mp e
  refine Rn.call hT rfl rfl rfl (Nat.le_of_ble_eq_true rfl) (rcv_v gX6_indexOfWord (by omega) (rp_ck hR (T6_o t0))) (RX6_indexOfWord (by omega) hR t0 t1 e_942 (fun z_942 p_942 => ?_))
  show Rn d _ _ 57 [some (.ref q0), some (.ref q1), none] [.int z_942] h Q
  refine Rn.n hT 3 (pc' := 60) (L' := [some (.ref q0), some (.ref q1), some (.int z_942)]) (st' := [.int (-1 : Int32), .int z_942]) rfl ?_
  by_cases c_943 : v_942 = (-1)
  · rw [if_pos c_943] at e
    refine Rn.bf hT rfl rfl rfl (decide_eq_false (fun z => z ((ti_e p_942 L32_m1).mpr c_943))) ?_
    refine Rn.n hT 2 (pc' := 65) (L' := [some (.ref q0), some (.ref q1), some (.int z_942)]) (st' := [.ref q0, .ref q0]) rfl ?_
    obtain ⟨z_944, g_944, p_944⟩ : ∃ z : Int32, gI h 6 3 q0 = some z ∧ z.toInt = s q0 3 := rp_gI (k := 3) hR (T6_o t0) rfl
    refine Rn.hp hT rfl rfl (gI_hp g_944) ?_
    refine Rn.n hT 1 (pc' := 69) (L' := [some (.ref q0), some (.ref q1), some (.int z_942)]) (st' := [.int (0 : Int32), .int z_944, .ref q0]) rfl ?_
    obtain ⟨s_946, e_945, e⟩ := Option.bind_eq_some_iff.mp e
    refine Rn.call hT rfl rfl rfl (Nat.le_of_ble_eq_true rfl) (rcv_v gX6_fail (by omega) (rp_ck hR (T6_o t0))) (RX6_fail (by omega) hR t0 p_944 L32_0 e_945 (fun h_946 R_946 => ?_))
    show Rn d _ _ 72 [some (.ref q0), some (.ref q1), some (.int z_942)] [] h_946 Q
    exact Rn.weak (ll_n (ll_n (ll_s ll_e))) (RX6_readWord_b72 hd R_946 p_942 hq e)
  · rw [if_neg c_943] at e
    refine Rn.bt hT rfl rfl rfl (decide_eq_true (fun z => c_943 ((ti_e p_942 L32_m1).mp z))) ?_
    exact Rn.weak (ll_n (ll_n (ll_s ll_e))) (RX6_readWord_b72 hd hR p_942 hq e)
def FX6_readWord (N : Nat) (s : iv_M) (q0 : Nat) (q1 : Nat) : Option (Int × iv_M) := ((FX6_skipBlanks N s q0).bind fun r_925 => (fun (v_925 : Int) (s_926 : iv_M) => ((pt s_926 q0 3 (s_926 q0 2)).bind fun s_928 => (FX6_readWord_l13 N q0 q1 (fun (s_930 : iv_M) => (FX6_readWord_b52 N s_930 q0 q1)) N s_928))) r_925.1 r_925.2)
set_option maxRecDepth 10000 in
set_option maxHeartbeats 4000000 in
theorem RX6_readWord {d N nc Ls : Nat} {Xs : Nat → Int32} (hd : 12 ≤ d) {h : iv_H} {s : iv_M} (hR : Rep nc Ls Xs h s) {q0 : Nat} (t0 : T6 nc q0) {q1 : Nat} (t1 : TS q1) {r : Int × iv_M} {Q : Option Value → iv_H → Prop} (e : FX6_readWord N s q0 q1 = some r) (hq : ∀ (z : Int32) (h1 : iv_H), z.toInt = r.1 → Rep nc Ls Xs h1 r.2 → Q (some (.int z)) h1) : Cl d 91 [.ref q0, .ref q1] h Q := by
  obtain ⟨d, rfl⟩ : ∃ k, d = k + 1 := ⟨d - 1, by omega⟩
  have hd : 11 ≤ d := by omega
  have hT := hX6_readWord
  unfold FX6_readWord at e
  refine Cl.into (by decide) gX6_readWord rfl ?_
  show Rn d 91 (some .int) 0 [some (.ref q0), some (.ref q1), none] [] h Q
  refine Rn.n hT 1 (pc' := 1) (L' := [some (.ref q0), some (.ref q1), none]) (st' := [.ref q0]) rfl ?_
  obtain ⟨⟨v_925, s_926⟩, e_925, e⟩ := Option.bind_eq_some_iff.mp e
  try dsimp only at e
  try dsimp only at e
  refine Rn.call hT rfl rfl rfl (Nat.le_of_ble_eq_true rfl) (rcv_v gX6_skipBlanks (by omega) (rp_ck hR (T6_o t0))) (RX6_skipBlanks (by omega) hR t0 e_925 (fun z_925 h_926 p_925 R_926 => ?_))
  show Rn d _ _ 4 [some (.ref q0), some (.ref q1), none] [.int z_925] h_926 Q
  refine Rn.n hT 3 (pc' := 7) (L' := [some (.ref q0), some (.ref q1), none]) (st' := [.ref q0, .ref q0]) rfl ?_
  obtain ⟨z_927, g_927, p_927⟩ : ∃ z : Int32, gI h_926 6 2 q0 = some z ∧ z.toInt = s_926 q0 2 := rp_gI (k := 2) R_926 (T6_o t0) rfl
  refine Rn.hp hT rfl rfl (gI_hp g_927) ?_
  obtain ⟨s_928, e_929, e⟩ := Option.bind_eq_some_iff.mp e
  obtain ⟨h_928, g_929, R_928⟩ := rp_pI (ci := 6) (k := 3) R_926 (T6_o t0) rfl rfl p_927 e_929
  refine Rn.hp hT rfl rfl (pV_hp rfl g_929) ?_
  refine Rn.weak (ll_s (ll_s (ll_n ll_e))) (RX6_readWord_l13 hd t0 t1 (fun h_930 s_930 R_930 e => ?_) hq N h_928 s_928 R_928 e)
  try dsimp only at e
  exact Rn.weak (ll_s (ll_s (ll_n ll_e))) (RX6_readWord_b52 hd R_930 t0 t1 hq e)
set_option maxRecDepth 10000 in
theorem hX5_isTooMuch : iv_Tb 78 tX5_isTooMuch := iv_tb_of (m := mX5_isTooMuch) rfl
set_option maxRecDepth 10000 in
theorem gX5_isTooMuch : PG.2 78 = some mX5_isTooMuch := iv_pi_of (t := tX5_isTooMuch) rfl (by decide)
def FX5_isTooMuch_b27 (N : Nat) (s : iv_M)   : Option (Int) := (some 1)
set_option maxRecDepth 10000 in
set_option maxHeartbeats 4000000 in
theorem RX5_isTooMuch_b27 {d N nc Ls : Nat} {Xs : Nat → Int32} (hd : 0 ≤ d) {h : iv_H} {s : iv_M} (hR : Rep nc Ls Xs h s)   {r : Int} {Q : Option Value → iv_H → Prop} (hq : ∀ (z : Int32), z.toInt = r → Q (some (.int z)) h) (e : FX5_isTooMuch_b27 N s   = some r) : Rn d 78 (some .boolean) 27 [none, none, none, none] [] h Q := by
  have hT := hX5_isTooMuch
  unfold FX5_isTooMuch_b27 at e
  refine Rn.n hT 1 (pc' := 28) (L' := [none, none, none, none]) (st' := [.int (1 : Int32)]) rfl ?_
  obtain rfl := Option.some.inj e
  exact Rn.ret hT rfl rfl rfl (hq (1 : Int32) L32_1)
def FX5_isTooMuch_b51 (N : Nat) (s : iv_M)  (xs0 : Int) : Option (Int) := (if xs0 = 0 ∨ xs0 = 1 then some xs0 else none)
set_option maxRecDepth 10000 in
set_option maxHeartbeats 4000000 in
theorem RX5_isTooMuch_b51 {d N nc Ls : Nat} {Xs : Nat → Int32} (hd : 0 ≤ d) {h : iv_H} {s : iv_M} (hR : Rep nc Ls Xs h s)  {ms0 : Int32} {xs0 : Int} (ps0 : ms0.toInt = xs0) {r : Int} {Q : Option Value → iv_H → Prop} (hq : ∀ (z : Int32), z.toInt = r → Q (some (.int z)) h) (e : FX5_isTooMuch_b51 N s  xs0 = some r) : Rn d 78 (some .boolean) 51 [none, none, none, none] [.int ms0] h Q := by
  have hT := hX5_isTooMuch
  unfold FX5_isTooMuch_b51 at e
  by_cases c_960 : xs0 = 0 ∨ xs0 = 1
  · rw [if_pos c_960] at e
    obtain rfl := Option.some.inj e
    exact Rn.ret hT rfl rfl (if_pos (ti_b ps0 c_960)) (hq ms0 ps0)
  · rw [if_neg c_960] at e
    cases e
def FX5_isTooMuch_b71 (N : Nat) (s : iv_M)  (xs0 : Int) : Option (Int) := (if xs0 = 0 ∨ xs0 = 1 then some xs0 else none)
set_option maxRecDepth 10000 in
set_option maxHeartbeats 4000000 in
theorem RX5_isTooMuch_b71 {d N nc Ls : Nat} {Xs : Nat → Int32} (hd : 0 ≤ d) {h : iv_H} {s : iv_M} (hR : Rep nc Ls Xs h s)  {ms0 : Int32} {xs0 : Int} (ps0 : ms0.toInt = xs0) {r : Int} {Q : Option Value → iv_H → Prop} (hq : ∀ (z : Int32), z.toInt = r → Q (some (.int z)) h) (e : FX5_isTooMuch_b71 N s  xs0 = some r) : Rn d 78 (some .boolean) 71 [none, none, none, none] [.int ms0] h Q := by
  have hT := hX5_isTooMuch
  unfold FX5_isTooMuch_b71 at e
  by_cases c_961 : xs0 = 0 ∨ xs0 = 1
  · rw [if_pos c_961] at e
    obtain rfl := Option.some.inj e
    exact Rn.ret hT rfl rfl (if_pos (ti_b ps0 c_961)) (hq ms0 ps0)
  · rw [if_neg c_961] at e
    cases e
def FX5_isTooMuch_b89 (N : Nat) (s : iv_M)  (xs0 : Int) : Option (Int) := (if xs0 = 0 ∨ xs0 = 1 then some xs0 else none)
set_option maxRecDepth 10000 in
set_option maxHeartbeats 4000000 in
theorem RX5_isTooMuch_b89 {d N nc Ls : Nat} {Xs : Nat → Int32} (hd : 0 ≤ d) {h : iv_H} {s : iv_M} (hR : Rep nc Ls Xs h s)  {ms0 : Int32} {xs0 : Int} (ps0 : ms0.toInt = xs0) {r : Int} {Q : Option Value → iv_H → Prop} (hq : ∀ (z : Int32), z.toInt = r → Q (some (.int z)) h) (e : FX5_isTooMuch_b89 N s  xs0 = some r) : Rn d 78 (some .boolean) 89 [none, none, none, none] [.int ms0] h Q := by
  have hT := hX5_isTooMuch
  unfold FX5_isTooMuch_b89 at e
  by_cases c_962 : xs0 = 0 ∨ xs0 = 1
  · rw [if_pos c_962] at e
    obtain rfl := Option.some.inj e
    exact Rn.ret hT rfl rfl (if_pos (ti_b ps0 c_962)) (hq ms0 ps0)
  · rw [if_neg c_962] at e
    cases e
def FX5_isTooMuch_b88 (N : Nat) (s : iv_M)   : Option (Int) := (FX5_isTooMuch_b89 N s 0)
set_option maxRecDepth 10000 in
set_option maxHeartbeats 4000000 in
theorem RX5_isTooMuch_b88 {d N nc Ls : Nat} {Xs : Nat → Int32} (hd : 0 ≤ d) {h : iv_H} {s : iv_M} (hR : Rep nc Ls Xs h s)   {r : Int} {Q : Option Value → iv_H → Prop} (hq : ∀ (z : Int32), z.toInt = r → Q (some (.int z)) h) (e : FX5_isTooMuch_b88 N s   = some r) : Rn d 78 (some .boolean) 88 [none, none, none, none] [] h Q := by
  have hT := hX5_isTooMuch
  unfold FX5_isTooMuch_b88 at e
  refine Rn.n hT 1 (pc' := 89) (L' := [none, none, none, none]) (st' := [.int (0 : Int32)]) rfl ?_
  exact Rn.weak (ll_n (ll_n (ll_n (ll_n ll_e)))) (RX5_isTooMuch_b89 hd hR L32_0 hq e)
def FX5_isTooMuch_b24 (N : Nat) (s : iv_M) (q0 : Nat) (q1 : Nat) (x3 : Int) (xs0 : Int) (xs1 : Int) : Option (Int) := (if xs1 = xs0 then (if x3 = 1 then (if (s (q1 + 1) 2) < 12 then (FX5_isTooMuch_b51 N s 0) else (FX5_isTooMuch_b51 N s 1)) else (if x3 = 4 then (if (s q1 2) < 6 then (FX5_isTooMuch_b71 N s 0) else (FX5_isTooMuch_b71 N s 1)) else (if x3 = 5 then (if (s q0 1) = 0 then (FX5_isTooMuch_b88 N s) else (FX5_isTooMuch_b89 N s 1)) else (FX5_isTooMuch_b88 N s)))) else (FX5_isTooMuch_b27 N s))
set_option maxRecDepth 10000 in
set_option maxHeartbeats 4000000 in
theorem RX5_isTooMuch_b24 {d N nc Ls : Nat} {Xs : Nat → Int32} (hd : 0 ≤ d) {h : iv_H} {s : iv_M} (hR : Rep nc Ls Xs h s) {q0 : Nat} (t0 : T5 nc q0) {q1 : Nat} (t1 : T2 nc q1) {m3 : Int32} {x3 : Int} (p3 : m3.toInt = x3) {ms0 : Int32} {xs0 : Int} (ps0 : ms0.toInt = xs0) {ms1 : Int32} {xs1 : Int} (ps1 : ms1.toInt = xs1) {r : Int} {Q : Option Value → iv_H → Prop} (hq : ∀ (z : Int32), z.toInt = r → Q (some (.int z)) h) (e : FX5_isTooMuch_b24 N s q0 q1 x3 xs0 xs1 = some r) : Rn d 78 (some .boolean) 24 [some (.ref q0), some (.ref q1), none, some (.int m3)] [.int ms0, .int ms1] h Q := by
  have hT := hX5_isTooMuch
  unfold FX5_isTooMuch_b24 at e
  by_cases c_950 : xs1 = xs0
  · rw [if_pos c_950] at e
    refine Rn.bt hT rfl rfl rfl (decide_eq_true ((ti_e ps1 ps0).mpr c_950)) ?_
    refine Rn.n hT 2 (pc' := 31) (L' := [some (.ref q0), some (.ref q1), none, some (.int m3)]) (st' := [.int (1 : Int32), .int m3]) rfl ?_
    by_cases c_951 : x3 = 1
    · rw [if_pos c_951] at e
      refine Rn.bf hT rfl rfl rfl (decide_eq_false (fun z => z ((ti_e p3 L32_1).mpr c_951))) ?_
      refine Rn.n hT 1 (pc' := 35) (L' := [some (.ref q0), some (.ref q1), none, some (.int m3)]) (st' := [.ref q1]) rfl ?_
      refine Rn.hp hT rfl rfl (gR_hp (rp_gR hR (T2_o t1) rfl)) ?_
      obtain ⟨z_958, g_958, p_958⟩ : ∃ z : Int32, gI h 1 2 (q1 + 1) = some z ∧ z.toInt = s (q1 + 1) 2 := rp_gI (k := 2) hR (T1_o (T2_9 t1)) rfl
      refine Rn.hp hT rfl rfl (gI_hp g_958) ?_
      refine Rn.n hT 1 (pc' := 43) (L' := [some (.ref q0), some (.ref q1), none, some (.int m3)]) (st' := [.int (12 : Int32), .int z_958]) rfl ?_
      by_cases c_959 : (s (q1 + 1) 2) < 12
      · rw [if_pos c_959] at e
        refine Rn.bt hT rfl rfl rfl (decide_eq_true ((ti_l p_958 L32_12).mpr c_959)) ?_
        refine Rn.n hT 1 (pc' := 51) (L' := [some (.ref q0), some (.ref q1), none, some (.int m3)]) (st' := [.int (0 : Int32)]) rfl ?_
        exact Rn.weak (ll_n (ll_n (ll_n (ll_n ll_e)))) (RX5_isTooMuch_b51 hd hR L32_0 hq e)
      · rw [if_neg c_959] at e
        refine Rn.bf hT rfl rfl rfl (decide_eq_false (fun z => c_959 ((ti_l p_958 L32_12).mp z))) ?_
        refine Rn.n hT 2 (pc' := 51) (L' := [some (.ref q0), some (.ref q1), none, some (.int m3)]) (st' := [.int (1 : Int32)]) rfl ?_
        exact Rn.weak (ll_n (ll_n (ll_n (ll_n ll_e)))) (RX5_isTooMuch_b51 hd hR L32_1 hq e)
    · rw [if_neg c_951] at e
      refine Rn.bt hT rfl rfl rfl (decide_eq_true (fun z => c_951 ((ti_e p3 L32_1).mp z))) ?_
      refine Rn.n hT 2 (pc' := 54) (L' := [some (.ref q0), some (.ref q1), none, some (.int m3)]) (st' := [.int (4 : Int32), .int m3]) rfl ?_
      by_cases c_952 : x3 = 4
      · rw [if_pos c_952] at e
        refine Rn.bf hT rfl rfl rfl (decide_eq_false (fun z => z ((ti_e p3 L32_4).mpr c_952))) ?_
        refine Rn.n hT 1 (pc' := 58) (L' := [some (.ref q0), some (.ref q1), none, some (.int m3)]) (st' := [.ref q1]) rfl ?_
        obtain ⟨z_956, g_956, p_956⟩ : ∃ z : Int32, gI h 2 2 q1 = some z ∧ z.toInt = s q1 2 := rp_gI (k := 2) hR (T2_o t1) rfl
        refine Rn.hp hT rfl rfl (gI_hp g_956) ?_
        refine Rn.n hT 1 (pc' := 63) (L' := [some (.ref q0), some (.ref q1), none, some (.int m3)]) (st' := [.int (6 : Int32), .int z_956]) rfl ?_
        by_cases c_957 : (s q1 2) < 6
        · rw [if_pos c_957] at e
          refine Rn.bt hT rfl rfl rfl (decide_eq_true ((ti_l p_956 L32_6).mpr c_957)) ?_
          refine Rn.n hT 1 (pc' := 71) (L' := [some (.ref q0), some (.ref q1), none, some (.int m3)]) (st' := [.int (0 : Int32)]) rfl ?_
          exact Rn.weak (ll_n (ll_n (ll_n (ll_n ll_e)))) (RX5_isTooMuch_b71 hd hR L32_0 hq e)
        · rw [if_neg c_957] at e
          refine Rn.bf hT rfl rfl rfl (decide_eq_false (fun z => c_957 ((ti_l p_956 L32_6).mp z))) ?_
          refine Rn.n hT 2 (pc' := 71) (L' := [some (.ref q0), some (.ref q1), none, some (.int m3)]) (st' := [.int (1 : Int32)]) rfl ?_
          exact Rn.weak (ll_n (ll_n (ll_n (ll_n ll_e)))) (RX5_isTooMuch_b71 hd hR L32_1 hq e)
      · rw [if_neg c_952] at e
        refine Rn.bt hT rfl rfl rfl (decide_eq_true (fun z => c_952 ((ti_e p3 L32_4).mp z))) ?_
        refine Rn.n hT 2 (pc' := 74) (L' := [some (.ref q0), some (.ref q1), none, some (.int m3)]) (st' := [.int (5 : Int32), .int m3]) rfl ?_
        by_cases c_953 : x3 = 5
        · rw [if_pos c_953] at e
          refine Rn.bf hT rfl rfl rfl (decide_eq_false (fun z => z ((ti_e p3 L32_5).mpr c_953))) ?_
          refine Rn.n hT 1 (pc' := 78) (L' := [some (.ref q0), some (.ref q1), none, some (.int m3)]) (st' := [.ref q0]) rfl ?_
          obtain ⟨z_954, g_954, p_954⟩ : ∃ z : Int32, gI h 5 1 q0 = some z ∧ z.toInt = s q0 1 := rp_gI (k := 1) hR (T5_o t0) rfl
          refine Rn.hp hT rfl rfl (gI_hp g_954) ?_
          by_cases c_955 : (s q0 1) = 0
          · rw [if_pos c_955] at e
            refine Rn.bt hT rfl rfl rfl (decide_eq_true ((ti_e p_954 L32_0).mpr c_955)) ?_
            exact Rn.weak (ll_n (ll_n (ll_n (ll_n ll_e)))) (RX5_isTooMuch_b88 hd hR hq e)
          · rw [if_neg c_955] at e
            refine Rn.bf hT rfl rfl rfl (decide_eq_false (fun z => c_955 ((ti_e p_954 L32_0).mp z))) ?_
            refine Rn.n hT 2 (pc' := 89) (L' := [some (.ref q0), some (.ref q1), none, some (.int m3)]) (st' := [.int (1 : Int32)]) rfl ?_
            exact Rn.weak (ll_n (ll_n (ll_n (ll_n ll_e)))) (RX5_isTooMuch_b89 hd hR L32_1 hq e)
        · rw [if_neg c_953] at e
          refine Rn.bt hT rfl rfl rfl (decide_eq_true (fun z => c_953 ((ti_e p3 L32_5).mp z))) ?_
          exact Rn.weak (ll_n (ll_n (ll_n (ll_n ll_e)))) (RX5_isTooMuch_b88 hd hR hq e)
  · rw [if_neg c_950] at e
    refine Rn.bf hT rfl rfl rfl (decide_eq_false (fun z => c_950 ((ti_e ps1 ps0).mp z))) ?_
    exact Rn.weak (ll_n (ll_n (ll_n (ll_n ll_e)))) (RX5_isTooMuch_b27 hd hR hq e)
def FX5_isTooMuch_b15 (N : Nat) (s : iv_M) (q0 : Nat) (q1 : Nat) (x3 : Int) (xs0 : Int) : Option (Int) := (if x3 = 0 then (FX5_isTooMuch_b24 N s q0 q1 x3 1 xs0) else (FX5_isTooMuch_b24 N s q0 q1 x3 0 xs0))
set_option maxRecDepth 10000 in
set_option maxHeartbeats 4000000 in
theorem RX5_isTooMuch_b15 {d N nc Ls : Nat} {Xs : Nat → Int32} (hd : 0 ≤ d) {h : iv_H} {s : iv_M} (hR : Rep nc Ls Xs h s) {q0 : Nat} (t0 : T5 nc q0) {q1 : Nat} (t1 : T2 nc q1) {m3 : Int32} {x3 : Int} (p3 : m3.toInt = x3) {ms0 : Int32} {xs0 : Int} (ps0 : ms0.toInt = xs0) {r : Int} {Q : Option Value → iv_H → Prop} (hq : ∀ (z : Int32), z.toInt = r → Q (some (.int z)) h) (e : FX5_isTooMuch_b15 N s q0 q1 x3 xs0 = some r) : Rn d 78 (some .boolean) 15 [some (.ref q0), some (.ref q1), none, some (.int m3)] [.int ms0] h Q := by
  have hT := hX5_isTooMuch
  unfold FX5_isTooMuch_b15 at e
  refine Rn.n hT 1 (pc' := 16) (L' := [some (.ref q0), some (.ref q1), none, some (.int m3)]) (st' := [.int m3, .int ms0]) rfl ?_
  by_cases c_949 : x3 = 0
  · rw [if_pos c_949] at e
    refine Rn.bf hT rfl rfl rfl (decide_eq_false (fun z => z ((ti_e p3 L32_0).mpr c_949))) ?_
    refine Rn.n hT 2 (pc' := 24) (L' := [some (.ref q0), some (.ref q1), none, some (.int m3)]) (st' := [.int (1 : Int32), .int ms0]) rfl ?_
    exact Rn.weak (ll_s (ll_s (ll_n (ll_s ll_e)))) (RX5_isTooMuch_b24 hd hR t0 t1 p3 L32_1 ps0 hq e)
  · rw [if_neg c_949] at e
    refine Rn.bt hT rfl rfl rfl (decide_eq_true (fun z => c_949 ((ti_e p3 L32_0).mp z))) ?_
    refine Rn.n hT 1 (pc' := 24) (L' := [some (.ref q0), some (.ref q1), none, some (.int m3)]) (st' := [.int (0 : Int32), .int ms0]) rfl ?_
    exact Rn.weak (ll_s (ll_s (ll_n (ll_s ll_e)))) (RX5_isTooMuch_b24 hd hR t0 t1 p3 L32_0 ps0 hq e)
def FX5_isTooMuch (N : Nat) (s : iv_M) (q0 : Nat) (q1 : Nat) (x2 : Int) (x3 : Int) : Option (Int) := (if 40 ≤ x2 then (FX5_isTooMuch_b27 N s) else (if x2 = 0 then (FX5_isTooMuch_b15 N s q0 q1 x3 1) else (FX5_isTooMuch_b15 N s q0 q1 x3 0)))
set_option maxRecDepth 10000 in
set_option maxHeartbeats 4000000 in
theorem RX5_isTooMuch {d N nc Ls : Nat} {Xs : Nat → Int32} (hd : 1 ≤ d) {h : iv_H} {s : iv_M} (hR : Rep nc Ls Xs h s) {q0 : Nat} (t0 : T5 nc q0) {q1 : Nat} (t1 : T2 nc q1) {m2 : Int32} {x2 : Int} (p2 : m2.toInt = x2) {m3 : Int32} {x3 : Int} (p3 : m3.toInt = x3) {r : Int} {Q : Option Value → iv_H → Prop} (e : FX5_isTooMuch N s q0 q1 x2 x3 = some r) (hq : ∀ (z : Int32), z.toInt = r → Q (some (.int z)) h) : Cl d 78 [.ref q0, .ref q1, .int m2, .int m3] h Q := by
  obtain ⟨d, rfl⟩ : ∃ k, d = k + 1 := ⟨d - 1, by omega⟩
  have hd : 0 ≤ d := by omega
  have hT := hX5_isTooMuch
  unfold FX5_isTooMuch at e
  refine Cl.into (by decide) gX5_isTooMuch rfl ?_
  show Rn d 78 (some .boolean) 0 [some (.ref q0), some (.ref q1), some (.int m2), some (.int m3)] [] h Q
  refine Rn.n hT 2 (pc' := 3) (L' := [some (.ref q0), some (.ref q1), some (.int m2), some (.int m3)]) (st' := [.int (40 : Int32), .int m2]) rfl ?_
  by_cases c_947 : 40 ≤ x2
  · rw [if_pos c_947] at e
    refine Rn.bt hT rfl rfl rfl (decide_eq_true ((ti_le L32_40 p2).mpr c_947)) ?_
    exact Rn.weak (ll_n (ll_n (ll_n (ll_n ll_e)))) (RX5_isTooMuch_b27 hd hR hq e)
  · rw [if_neg c_947] at e
    refine Rn.bf hT rfl rfl rfl (decide_eq_false (fun z => c_947 ((ti_le L32_40 p2).mp z))) ?_
    refine Rn.n hT 1 (pc' := 7) (L' := [some (.ref q0), some (.ref q1), some (.int m2), some (.int m3)]) (st' := [.int m2]) rfl ?_
    by_cases c_948 : x2 = 0
    · rw [if_pos c_948] at e
      refine Rn.bf hT rfl rfl rfl (decide_eq_false (fun z => z ((ti_e p2 L32_0).mpr c_948))) ?_
      refine Rn.n hT 2 (pc' := 15) (L' := [some (.ref q0), some (.ref q1), some (.int m2), some (.int m3)]) (st' := [.int (1 : Int32)]) rfl ?_
      exact Rn.weak (ll_s (ll_s (ll_n (ll_s ll_e)))) (RX5_isTooMuch_b15 hd hR t0 t1 p3 L32_1 hq e)
    · rw [if_neg c_948] at e
      refine Rn.bt hT rfl rfl rfl (decide_eq_true (fun z => c_948 ((ti_e p2 L32_0).mp z))) ?_
      refine Rn.n hT 1 (pc' := 15) (L' := [some (.ref q0), some (.ref q1), some (.int m2), some (.int m3)]) (st' := [.int (0 : Int32)]) rfl ?_
      exact Rn.weak (ll_s (ll_s (ll_n (ll_s ll_e)))) (RX5_isTooMuch_b15 hd hR t0 t1 p3 L32_0 hq e)
set_option maxRecDepth 10000 in
theorem hX6_isDigit : iv_Tb 93 tX6_isDigit := iv_tb_of (m := mX6_isDigit) rfl
set_option maxRecDepth 10000 in
theorem gX6_isDigit : PG.2 93 = some mX6_isDigit := iv_pi_of (t := tX6_isDigit) rfl (by decide)
def FX6_isDigit_b17 (N : Nat) (s : iv_M)  (xs0 : Int) : Option (Int) := (if xs0 = 0 ∨ xs0 = 1 then some xs0 else none)
set_option maxRecDepth 10000 in
set_option maxHeartbeats 4000000 in
theorem RX6_isDigit_b17 {d N nc Ls : Nat} {Xs : Nat → Int32} (hd : 0 ≤ d) {h : iv_H} {s : iv_M} (hR : Rep nc Ls Xs h s)  {ms0 : Int32} {xs0 : Int} (ps0 : ms0.toInt = xs0) {r : Int} {Q : Option Value → iv_H → Prop} (hq : ∀ (z : Int32), z.toInt = r → Q (some (.int z)) h) (e : FX6_isDigit_b17 N s  xs0 = some r) : Rn d 93 (some .boolean) 17 [none] [.int ms0] h Q := by
  have hT := hX6_isDigit
  unfold FX6_isDigit_b17 at e
  by_cases c_965 : xs0 = 0 ∨ xs0 = 1
  · rw [if_pos c_965] at e
    obtain rfl := Option.some.inj e
    exact Rn.ret hT rfl rfl (if_pos (ti_b ps0 c_965)) (hq ms0 ps0)
  · rw [if_neg c_965] at e
    cases e
def FX6_isDigit_b16 (N : Nat) (s : iv_M)   : Option (Int) := (FX6_isDigit_b17 N s 0)
set_option maxRecDepth 10000 in
set_option maxHeartbeats 4000000 in
theorem RX6_isDigit_b16 {d N nc Ls : Nat} {Xs : Nat → Int32} (hd : 0 ≤ d) {h : iv_H} {s : iv_M} (hR : Rep nc Ls Xs h s)   {r : Int} {Q : Option Value → iv_H → Prop} (hq : ∀ (z : Int32), z.toInt = r → Q (some (.int z)) h) (e : FX6_isDigit_b16 N s   = some r) : Rn d 93 (some .boolean) 16 [none] [] h Q := by
  have hT := hX6_isDigit
  unfold FX6_isDigit_b16 at e
  refine Rn.n hT 1 (pc' := 17) (L' := [none]) (st' := [.int (0 : Int32)]) rfl ?_
  exact Rn.weak (ll_n ll_e) (RX6_isDigit_b17 hd hR L32_0 hq e)
def FX6_isDigit (N : Nat) (s : iv_M) (x0 : Int) : Option (Int) := (if x0 < 48 then (FX6_isDigit_b16 N s) else (if 57 < x0 then (FX6_isDigit_b16 N s) else (FX6_isDigit_b17 N s 1)))
set_option maxRecDepth 10000 in
set_option maxHeartbeats 4000000 in
theorem RX6_isDigit {d N nc Ls : Nat} {Xs : Nat → Int32} (hd : 1 ≤ d) {h : iv_H} {s : iv_M} (hR : Rep nc Ls Xs h s) {m0 : Int32} {x0 : Int} (p0 : m0.toInt = x0) {r : Int} {Q : Option Value → iv_H → Prop} (e : FX6_isDigit N s x0 = some r) (hq : ∀ (z : Int32), z.toInt = r → Q (some (.int z)) h) : Cl d 93 [.int m0] h Q := by
  obtain ⟨d, rfl⟩ : ∃ k, d = k + 1 := ⟨d - 1, by omega⟩
  have hd : 0 ≤ d := by omega
  have hT := hX6_isDigit
  unfold FX6_isDigit at e
  refine Cl.into (by decide) gX6_isDigit rfl ?_
  show Rn d 93 (some .boolean) 0 [some (.int m0)] [] h Q
  refine Rn.n hT 2 (pc' := 3) (L' := [some (.int m0)]) (st' := [.int (48 : Int32), .int m0]) rfl ?_
  by_cases c_963 : x0 < 48
  · rw [if_pos c_963] at e
    refine Rn.bt hT rfl rfl rfl (decide_eq_true ((ti_l p0 L32_48).mpr c_963)) ?_
    exact Rn.weak (ll_n ll_e) (RX6_isDigit_b16 hd hR hq e)
  · rw [if_neg c_963] at e
    refine Rn.bf hT rfl rfl rfl (decide_eq_false (fun z => c_963 ((ti_l p0 L32_48).mp z))) ?_
    refine Rn.n hT 2 (pc' := 9) (L' := [some (.int m0)]) (st' := [.int (57 : Int32), .int m0]) rfl ?_
    by_cases c_964 : 57 < x0
    · rw [if_pos c_964] at e
      refine Rn.bt hT rfl rfl rfl (decide_eq_true ((ti_l L32_57 p0).mpr c_964)) ?_
      exact Rn.weak (ll_n ll_e) (RX6_isDigit_b16 hd hR hq e)
    · rw [if_neg c_964] at e
      refine Rn.bf hT rfl rfl rfl (decide_eq_false (fun z => c_964 ((ti_l L32_57 p0).mp z))) ?_
      refine Rn.n hT 2 (pc' := 17) (L' := [some (.int m0)]) (st' := [.int (1 : Int32)]) rfl ?_
      exact Rn.weak (ll_n ll_e) (RX6_isDigit_b17 hd hR L32_1 hq e)
