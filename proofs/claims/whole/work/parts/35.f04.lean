-- FLAT MIRRORS, 4 (written by wip/whole/mir2.py)
set_option maxRecDepth 10000 in
theorem hX9_add : iv_Tb 119 tX9_add := iv_tb_of (m := mX9_add) rfl
set_option maxRecDepth 10000 in
theorem gX9_add : PG.2 119 = some mX9_add := iv_pi_of (t := tX9_add) rfl (by decide)
def FX9_add_b79 (N : Nat) (s : iv_M) (q0 : Nat) (y1 : Int) (x3 : Int) (x4 : Int) (x5 : Int) (x8 : Int) (x9 : Int)  (kb : iv_M → Int → Int → Option (Int × iv_M)) (kx : iv_M → Int → Option (Int × iv_M)) : Option (Int × iv_M) := (kb s (bAn (w32 (x8 + 1)) 4095) (w32 (x9 + 1)))
set_option maxRecDepth 10000 in
set_option maxHeartbeats 4000000 in
theorem RX9_add_b79 {d N nc Ls : Nat} {Xs : Nat → Int32} (hd : 0 ≤ d) {h : iv_H} {s : iv_M} (hR : Rep nc Ls Xs h s) {q0 : Nat} (t0 : T9 nc q0) {j1 : Int64} {y1 : Int} (p1 : j1.toInt = y1) {m3 : Int32} {x3 : Int} (p3 : m3.toInt = x3) {m4 : Int32} {x4 : Int} (p4 : m4.toInt = x4) {m5 : Int32} {x5 : Int} (p5 : m5.toInt = x5) {m8 : Int32} {x8 : Int} (p8 : m8.toInt = x8) {m9 : Int32} {x9 : Int} (p9 : m9.toInt = x9)  {kb : iv_M → Int → Int → Option (Int × iv_M)} {kx : iv_M → Int → Option (Int × iv_M)} {r : Int × iv_M} {Q : Option Value → iv_H → Prop} (hb : ∀ (h : iv_H) (s : iv_M) (hR : Rep nc Ls Xs h s) (mw8 : Int32) (xw8 : Int) (pw8 : mw8.toInt = xw8) (mw9 : Int32) (xw9 : Int) (pw9 : mw9.toInt = xw9), kb s xw8 xw9 = some r → Rn d 119 (some .boolean) 25 [some (.ref q0), some (.long j1), none, some (.int m3), some (.int m4), some (.int m5), none, none, some (.int mw8), some (.int mw9), none] [] h Q) (hk : ∀ (h : iv_H) (s : iv_M) (hR : Rep nc Ls Xs h s) (mw8 : Int32) (xw8 : Int) (pw8 : mw8.toInt = xw8), kx s xw8 = some r → Rn d 119 (some .boolean) 95 [some (.ref q0), some (.long j1), none, some (.int m3), some (.int m4), some (.int m5), none, none, some (.int mw8), none, none] [] h Q) (hq : ∀ (z : Int32) (h1 : iv_H), z.toInt = r.1 → Rep nc Ls Xs h1 r.2 → Q (some (.int z)) h1) (e : FX9_add_b79 N s q0 y1 x3 x4 x5 x8 x9  kb kx = some r) : Rn d 119 (some .boolean) 79 [some (.ref q0), some (.long j1), none, some (.int m3), some (.int m4), some (.int m5), none, none, some (.int m8), some (.int m9), none] [] h Q := by
  have hT := hX9_add
  unfold FX9_add_b79 at e
  refine Rn.n hT 8 (pc' := 25) (L' := [some (.ref q0), some (.long j1), none, some (.int m3), some (.int m4), some (.int m5), none, none, some (.int ((m8 + (1 : Int32)) &&& (4095 : Int32))), some (.int (m9 + (1 : Int32))), none]) (st' := []) rfl ?_
  exact Rn.weak (ll_s (ll_s (ll_n (ll_s (ll_s (ll_s (ll_n (ll_n (ll_s (ll_s (ll_n ll_e))))))))))) (hb h s hR ((m8 + (1 : Int32)) &&& (4095 : Int32)) (bAn (w32 (x8 + 1)) 4095) (ti_and (ti_add p8 L32_1) L32_4095) (m9 + (1 : Int32)) (w32 (x9 + 1)) (ti_add p9 L32_1) e)
def FX9_add_l25 (N : Nat) (q0 : Nat) (y1 : Int) (x3 : Int) (x4 : Int) (x5 : Int) (kx : iv_M → Int → Option (Int × iv_M)) : Nat → iv_M → Int → Int → Option (Int × iv_M)
  | 0, _, _, _ => none
  | n + 1, s, x8, x9 => (if 4096 ≤ x9 then (kx s x8) else ((rd s (q0 + 5) 4096 x8).bind fun v_1412 => (if v_1412 = 0 then (kx s x8) else ((rd s (q0 + 5) 4096 x8).bind fun v_1414 => ((rd s (q0 + 1) 1500 (w32 (v_1414 - 1))).bind fun v_1415 => (if v_1415 = y1 then ((rd s (q0 + 2) 1500 (w32 (v_1414 - 1))).bind fun v_1417 => (if v_1417 = x3 then (some (1, s)) else (FX9_add_b79 N s q0 y1 x3 x4 x5 x8 x9 (FX9_add_l25 N q0 y1 x3 x4 x5 kx n) kx))) else (FX9_add_b79 N s q0 y1 x3 x4 x5 x8 x9 (FX9_add_l25 N q0 y1 x3 x4 x5 kx n) kx)))))))
set_option maxRecDepth 10000 in
set_option maxHeartbeats 4000000 in
theorem RX9_add_l25 {d N nc Ls : Nat} {Xs : Nat → Int32} (hd : 0 ≤ d) {q0 : Nat} (t0 : T9 nc q0) {j1 : Int64} {y1 : Int} (p1 : j1.toInt = y1) {m3 : Int32} {x3 : Int} (p3 : m3.toInt = x3) {m4 : Int32} {x4 : Int} (p4 : m4.toInt = x4) {m5 : Int32} {x5 : Int} (p5 : m5.toInt = x5) {kx : iv_M → Int → Option (Int × iv_M)} {r : Int × iv_M} {Q : Option Value → iv_H → Prop} (hk : ∀ (h : iv_H) (s : iv_M) (hR : Rep nc Ls Xs h s) (m8 : Int32) (x8 : Int) (p8 : m8.toInt = x8), kx s x8 = some r → Rn d 119 (some .boolean) 95 [some (.ref q0), some (.long j1), none, some (.int m3), some (.int m4), some (.int m5), none, none, some (.int m8), none, none] [] h Q) (hq : ∀ (z : Int32) (h1 : iv_H), z.toInt = r.1 → Rep nc Ls Xs h1 r.2 → Q (some (.int z)) h1) : ∀ (n : Nat) (h : iv_H) (s : iv_M) (hR : Rep nc Ls Xs h s) (m8 : Int32) (x8 : Int) (p8 : m8.toInt = x8) (m9 : Int32) (x9 : Int) (p9 : m9.toInt = x9), FX9_add_l25 N q0 y1 x3 x4 x5 kx n s x8 x9 = some r → Rn d 119 (some .boolean) 25 [some (.ref q0), some (.long j1), none, some (.int m3), some (.int m4), some (.int m5), none, none, some (.int m8), some (.int m9), none] [] h Q := by
  have hT := hX9_add
  intro n
  induction n with
  | zero =>
    intro h s hR m8 x8 p8 m9 x9 p9 e
    rw [FX9_add_l25] at e
    cases e
  | succ n ih =>
    intro h s hR m8 x8 p8 m9 x9 p9 e
    rw [FX9_add_l25] at e
    refine Rn.n hT 2 (pc' := 30) (L' := [some (.ref q0), some (.long j1), none, some (.int m3), some (.int m4), some (.int m5), none, none, some (.int m8), some (.int m9), none]) (st' := [.int (4096 : Int32), .int m9]) rfl ?_
    by_cases c_1411 : 4096 ≤ x9
    · rw [if_pos c_1411] at e
      refine Rn.bt hT rfl rfl rfl (decide_eq_true ((ti_le L32_4096 p9).mpr c_1411)) ?_
      exact Rn.weak (ll_s (ll_s (ll_n (ll_s (ll_s (ll_s (ll_n (ll_n (ll_s (ll_n (ll_n ll_e))))))))))) (hk h s hR m8 x8 p8 e)
    · rw [if_neg c_1411] at e
      refine Rn.bf hT rfl rfl rfl (decide_eq_false (fun z => c_1411 ((ti_le L32_4096 p9).mp z))) ?_
      refine Rn.n hT 1 (pc' := 34) (L' := [some (.ref q0), some (.long j1), none, some (.int m3), some (.int m4), some (.int m5), none, none, some (.int m8), some (.int m9), none]) (st' := [.ref q0]) rfl ?_
      refine Rn.hp hT rfl rfl (gR_hp (rp_gR hR (T9_o t0) rfl)) ?_
      refine Rn.n hT 1 (pc' := 39) (L' := [some (.ref q0), some (.long j1), none, some (.int m3), some (.int m4), some (.int m5), none, none, some (.int m8), some (.int m9), none]) (st' := [.int m8, .ref (q0 + 5)]) rfl ?_
      obtain ⟨v_1412, e_1412, e⟩ := Option.bind_eq_some_iff.mp e
      obtain ⟨z_1412, g_1412, p_1412⟩ := rp_aI hR (T9_5 t0) (T9_5l t0) p8 e_1412
      refine Rn.hp hT rfl rfl (aI_hp g_1412) ?_
      by_cases c_1413 : v_1412 = 0
      · rw [if_pos c_1413] at e
        refine Rn.bt hT rfl rfl rfl (decide_eq_true ((ti_e p_1412 L32_0).mpr c_1413)) ?_
        exact Rn.weak (ll_s (ll_s (ll_n (ll_s (ll_s (ll_s (ll_n (ll_n (ll_s (ll_n (ll_n ll_e))))))))))) (hk h s hR m8 x8 p8 e)
      · rw [if_neg c_1413] at e
        refine Rn.bf hT rfl rfl rfl (decide_eq_false (fun z => c_1413 ((ti_e p_1412 L32_0).mp z))) ?_
        refine Rn.n hT 1 (pc' := 44) (L' := [some (.ref q0), some (.long j1), none, some (.int m3), some (.int m4), some (.int m5), none, none, some (.int m8), some (.int m9), none]) (st' := [.ref q0]) rfl ?_
        refine Rn.hp hT rfl rfl (gR_hp (rp_gR hR (T9_o t0) rfl)) ?_
        refine Rn.n hT 1 (pc' := 49) (L' := [some (.ref q0), some (.long j1), none, some (.int m3), some (.int m4), some (.int m5), none, none, some (.int m8), some (.int m9), none]) (st' := [.int m8, .ref (q0 + 5)]) rfl ?_
        obtain ⟨v_1414, e_1414, e⟩ := Option.bind_eq_some_iff.mp e
        obtain ⟨z_1414, g_1414, p_1414⟩ := rp_aI hR (T9_5 t0) (T9_5l t0) p8 e_1414
        refine Rn.hp hT rfl rfl (aI_hp g_1414) ?_
        refine Rn.n hT 4 (pc' := 55) (L' := [some (.ref q0), some (.long j1), none, some (.int m3), some (.int m4), some (.int m5), none, none, some (.int m8), some (.int m9), some (.int (z_1414 - (1 : Int32)))]) (st' := [.ref q0]) rfl ?_
        refine Rn.hp hT rfl rfl (gR_hp (rp_gR hR (T9_o t0) rfl)) ?_
        refine Rn.n hT 1 (pc' := 60) (L' := [some (.ref q0), some (.long j1), none, some (.int m3), some (.int m4), some (.int m5), none, none, some (.int m8), some (.int m9), some (.int (z_1414 - (1 : Int32)))]) (st' := [.int (z_1414 - (1 : Int32)), .ref (q0 + 1)]) rfl ?_
        obtain ⟨v_1415, e_1415, e⟩ := Option.bind_eq_some_iff.mp e
        obtain ⟨z_1415, g_1415, p_1415⟩ := rp_aJ hR (T9_0 t0) (T9_0l t0) (ti_sub p_1414 L32_1) e_1415
        refine Rn.hp hT rfl rfl (aJ_hp g_1415) ?_
        refine Rn.n hT 2 (pc' := 63) (L' := [some (.ref q0), some (.long j1), none, some (.int m3), some (.int m4), some (.int m5), none, none, some (.int m8), some (.int m9), some (.int (z_1414 - (1 : Int32)))]) (st' := [.int (lg_cmp z_1415 j1)]) rfl ?_
        by_cases c_1416 : v_1415 = y1
        · rw [if_pos c_1416] at e
          refine Rn.bf hT rfl rfl rfl (decide_eq_false (fun z => z ((lc_e p_1415 p1).mpr c_1416))) ?_
          refine Rn.n hT 1 (pc' := 67) (L' := [some (.ref q0), some (.long j1), none, some (.int m3), some (.int m4), some (.int m5), none, none, some (.int m8), some (.int m9), some (.int (z_1414 - (1 : Int32)))]) (st' := [.ref q0]) rfl ?_
          refine Rn.hp hT rfl rfl (gR_hp (rp_gR hR (T9_o t0) rfl)) ?_
          refine Rn.n hT 1 (pc' := 72) (L' := [some (.ref q0), some (.long j1), none, some (.int m3), some (.int m4), some (.int m5), none, none, some (.int m8), some (.int m9), some (.int (z_1414 - (1 : Int32)))]) (st' := [.int (z_1414 - (1 : Int32)), .ref (q0 + 2)]) rfl ?_
          obtain ⟨v_1417, e_1417, e⟩ := Option.bind_eq_some_iff.mp e
          obtain ⟨z_1417, g_1417, p_1417⟩ := rp_aI hR (T9_1 t0) (T9_1l t0) (ti_sub p_1414 L32_1) e_1417
          refine Rn.hp hT rfl rfl (aI_hp g_1417) ?_
          refine Rn.n hT 1 (pc' := 74) (L' := [some (.ref q0), some (.long j1), none, some (.int m3), some (.int m4), some (.int m5), none, none, some (.int m8), some (.int m9), some (.int (z_1414 - (1 : Int32)))]) (st' := [.int m3, .int z_1417]) rfl ?_
          by_cases c_1418 : v_1417 = x3
          · rw [if_pos c_1418] at e
            refine Rn.bf hT rfl rfl rfl (decide_eq_false (fun z => z ((ti_e p_1417 p3).mpr c_1418))) ?_
            refine Rn.n hT 1 (pc' := 78) (L' := [some (.ref q0), some (.long j1), none, some (.int m3), some (.int m4), some (.int m5), none, none, some (.int m8), some (.int m9), some (.int (z_1414 - (1 : Int32)))]) (st' := [.int (1 : Int32)]) rfl ?_
            obtain rfl := Option.some.inj e
            exact Rn.ret hT rfl rfl rfl (hq (1 : Int32) h L32_1 hR)
          · rw [if_neg c_1418] at e
            refine Rn.bt hT rfl rfl rfl (decide_eq_true (fun z => c_1418 ((ti_e p_1417 p3).mp z))) ?_
            exact Rn.weak (ll_s (ll_s (ll_n (ll_s (ll_s (ll_s (ll_n (ll_n (ll_s (ll_s (ll_n ll_e))))))))))) (RX9_add_b79 hd hR t0 p1 p3 p4 p5 p8 p9 ih hk hq e)
        · rw [if_neg c_1416] at e
          refine Rn.bt hT rfl rfl rfl (decide_eq_true (fun z => c_1416 ((lc_e p_1415 p1).mp z))) ?_
          exact Rn.weak (ll_s (ll_s (ll_n (ll_s (ll_s (ll_s (ll_n (ll_n (ll_s (ll_s (ll_n ll_e))))))))))) (RX9_add_b79 hd hR t0 p1 p3 p4 p5 p8 p9 ih hk hq e)
def FX9_add_b95 (N : Nat) (s : iv_M) (q0 : Nat) (y1 : Int) (x3 : Int) (x4 : Int) (x5 : Int) (x8 : Int)  : Option (Int × iv_M) := (if (s q0 4) < 1500 then ((wr s (q0 + 1) 1500 (s q0 4) y1).bind fun s_1422 => ((wr s_1422 (q0 + 2) 1500 (s_1422 q0 4) x3).bind fun s_1425 => ((wr s_1425 (q0 + 3) 1500 (s_1425 q0 4) x4).bind fun s_1428 => ((wr s_1428 (q0 + 4) 1500 (s_1428 q0 4) x5).bind fun s_1431 => ((pt s_1431 q0 4 (w32 ((s_1431 q0 4) + 1))).bind fun s_1434 => ((wr s_1434 (q0 + 5) 4096 x8 (s_1434 q0 4)).bind fun s_1437 => (some (1, s_1437)))))))) else (some (0, s)))
set_option maxRecDepth 10000 in
set_option maxHeartbeats 4000000 in
theorem RX9_add_b95 {d N nc Ls : Nat} {Xs : Nat → Int32} (hd : 0 ≤ d) {h : iv_H} {s : iv_M} (hR : Rep nc Ls Xs h s) {q0 : Nat} (t0 : T9 nc q0) {j1 : Int64} {y1 : Int} (p1 : j1.toInt = y1) {m3 : Int32} {x3 : Int} (p3 : m3.toInt = x3) {m4 : Int32} {x4 : Int} (p4 : m4.toInt = x4) {m5 : Int32} {x5 : Int} (p5 : m5.toInt = x5) {m8 : Int32} {x8 : Int} (p8 : m8.toInt = x8)  {r : Int × iv_M} {Q : Option Value → iv_H → Prop} (hq : ∀ (z : Int32) (h1 : iv_H), z.toInt = r.1 → Rep nc Ls Xs h1 r.2 → Q (some (.int z)) h1) (e : FX9_add_b95 N s q0 y1 x3 x4 x5 x8  = some r) : Rn d 119 (some .boolean) 95 [some (.ref q0), some (.long j1), none, some (.int m3), some (.int m4), some (.int m5), none, none, some (.int m8), none, none] [] h Q := by
  have hT := hX9_add
  unfold FX9_add_b95 at e
  refine Rn.n hT 1 (pc' := 96) (L' := [some (.ref q0), some (.long j1), none, some (.int m3), some (.int m4), some (.int m5), none, none, some (.int m8), none, none]) (st' := [.ref q0]) rfl ?_
  obtain ⟨z_1419, g_1419, p_1419⟩ : ∃ z : Int32, gI h 9 4 q0 = some z ∧ z.toInt = s q0 4 := rp_gI (k := 4) hR (T9_o t0) rfl
  refine Rn.hp hT rfl rfl (gI_hp g_1419) ?_
  refine Rn.n hT 1 (pc' := 102) (L' := [some (.ref q0), some (.long j1), none, some (.int m3), some (.int m4), some (.int m5), none, none, some (.int m8), none, none]) (st' := [.int (1500 : Int32), .int z_1419]) rfl ?_
  by_cases c_1420 : (s q0 4) < 1500
  · rw [if_pos c_1420] at e
    refine Rn.bt hT rfl rfl rfl (decide_eq_true ((ti_l p_1419 L32_1500).mpr c_1420)) ?_
    refine Rn.n hT 1 (pc' := 108) (L' := [some (.ref q0), some (.long j1), none, some (.int m3), some (.int m4), some (.int m5), none, none, some (.int m8), none, none]) (st' := [.ref q0]) rfl ?_
    refine Rn.hp hT rfl rfl (gR_hp (rp_gR hR (T9_o t0) rfl)) ?_
    refine Rn.n hT 1 (pc' := 112) (L' := [some (.ref q0), some (.long j1), none, some (.int m3), some (.int m4), some (.int m5), none, none, some (.int m8), none, none]) (st' := [.ref q0, .ref (q0 + 1)]) rfl ?_
    obtain ⟨z_1421, g_1421, p_1421⟩ : ∃ z : Int32, gI h 9 4 q0 = some z ∧ z.toInt = s q0 4 := rp_gI (k := 4) hR (T9_o t0) rfl
    refine Rn.hp hT rfl rfl (gI_hp g_1421) ?_
    refine Rn.n hT 1 (pc' := 116) (L' := [some (.ref q0), some (.long j1), none, some (.int m3), some (.int m4), some (.int m5), none, none, some (.int m8), none, none]) (st' := [.long j1, .int z_1421, .ref (q0 + 1)]) rfl ?_
    obtain ⟨s_1422, e_1423, e⟩ := Option.bind_eq_some_iff.mp e
    obtain ⟨h_1422, g_1423, R_1422⟩ := rp_wJ hR (T9_0 t0) (T9_0l t0) p_1421 p1 e_1423
    refine Rn.hp hT rfl rfl (wJ_hp g_1423) ?_
    refine Rn.n hT 1 (pc' := 118) (L' := [some (.ref q0), some (.long j1), none, some (.int m3), some (.int m4), some (.int m5), none, none, some (.int m8), none, none]) (st' := [.ref q0]) rfl ?_
    refine Rn.hp hT rfl rfl (gR_hp (rp_gR R_1422 (T9_o t0) rfl)) ?_
    refine Rn.n hT 1 (pc' := 122) (L' := [some (.ref q0), some (.long j1), none, some (.int m3), some (.int m4), some (.int m5), none, none, some (.int m8), none, none]) (st' := [.ref q0, .ref (q0 + 2)]) rfl ?_
    obtain ⟨z_1424, g_1424, p_1424⟩ : ∃ z : Int32, gI h_1422 9 4 q0 = some z ∧ z.toInt = s_1422 q0 4 := rp_gI (k := 4) R_1422 (T9_o t0) rfl
    refine Rn.hp hT rfl rfl (gI_hp g_1424) ?_
    refine Rn.n hT 1 (pc' := 126) (L' := [some (.ref q0), some (.long j1), none, some (.int m3), some (.int m4), some (.int m5), none, none, some (.int m8), none, none]) (st' := [.int m3, .int z_1424, .ref (q0 + 2)]) rfl ?_
    obtain ⟨s_1425, e_1426, e⟩ := Option.bind_eq_some_iff.mp e
    obtain ⟨h_1425, g_1426, R_1425⟩ := rp_wI R_1422 (T9_1 t0) (T9_1l t0) p_1424 p3 e_1426
    refine Rn.hp hT rfl rfl (wI_hp g_1426) ?_
    refine Rn.n hT 1 (pc' := 128) (L' := [some (.ref q0), some (.long j1), none, some (.int m3), some (.int m4), some (.int m5), none, none, some (.int m8), none, none]) (st' := [.ref q0]) rfl ?_
    refine Rn.hp hT rfl rfl (gR_hp (rp_gR R_1425 (T9_o t0) rfl)) ?_
    refine Rn.n hT 1 (pc' := 132) (L' := [some (.ref q0), some (.long j1), none, some (.int m3), some (.int m4), some (.int m5), none, none, some (.int m8), none, none]) (st' := [.ref q0, .ref (q0 + 3)]) rfl ?_
    obtain ⟨z_1427, g_1427, p_1427⟩ : ∃ z : Int32, gI h_1425 9 4 q0 = some z ∧ z.toInt = s_1425 q0 4 := rp_gI (k := 4) R_1425 (T9_o t0) rfl
    refine Rn.hp hT rfl rfl (gI_hp g_1427) ?_
    refine Rn.n hT 1 (pc' := 137) (L' := [some (.ref q0), some (.long j1), none, some (.int m3), some (.int m4), some (.int m5), none, none, some (.int m8), none, none]) (st' := [.int m4, .int z_1427, .ref (q0 + 3)]) rfl ?_
    obtain ⟨s_1428, e_1429, e⟩ := Option.bind_eq_some_iff.mp e
    obtain ⟨h_1428, g_1429, R_1428⟩ := rp_wI R_1425 (T9_2 t0) (T9_2l t0) p_1427 p4 e_1429
    refine Rn.hp hT rfl rfl (wI_hp g_1429) ?_
    refine Rn.n hT 1 (pc' := 139) (L' := [some (.ref q0), some (.long j1), none, some (.int m3), some (.int m4), some (.int m5), none, none, some (.int m8), none, none]) (st' := [.ref q0]) rfl ?_
    refine Rn.hp hT rfl rfl (gR_hp (rp_gR R_1428 (T9_o t0) rfl)) ?_
    refine Rn.n hT 1 (pc' := 143) (L' := [some (.ref q0), some (.long j1), none, some (.int m3), some (.int m4), some (.int m5), none, none, some (.int m8), none, none]) (st' := [.ref q0, .ref (q0 + 4)]) rfl ?_
    obtain ⟨z_1430, g_1430, p_1430⟩ : ∃ z : Int32, gI h_1428 9 4 q0 = some z ∧ z.toInt = s_1428 q0 4 := rp_gI (k := 4) R_1428 (T9_o t0) rfl
    refine Rn.hp hT rfl rfl (gI_hp g_1430) ?_
    refine Rn.n hT 1 (pc' := 148) (L' := [some (.ref q0), some (.long j1), none, some (.int m3), some (.int m4), some (.int m5), none, none, some (.int m8), none, none]) (st' := [.int m5, .int z_1430, .ref (q0 + 4)]) rfl ?_
    obtain ⟨s_1431, e_1432, e⟩ := Option.bind_eq_some_iff.mp e
    obtain ⟨h_1431, g_1432, R_1431⟩ := rp_wI R_1428 (T9_3 t0) (T9_3l t0) p_1430 p5 e_1432
    refine Rn.hp hT rfl rfl (wI_hp g_1432) ?_
    refine Rn.n hT 2 (pc' := 151) (L' := [some (.ref q0), some (.long j1), none, some (.int m3), some (.int m4), some (.int m5), none, none, some (.int m8), none, none]) (st' := [.ref q0, .ref q0]) rfl ?_
    obtain ⟨z_1433, g_1433, p_1433⟩ : ∃ z : Int32, gI h_1431 9 4 q0 = some z ∧ z.toInt = s_1431 q0 4 := rp_gI (k := 4) R_1431 (T9_o t0) rfl
    refine Rn.hp hT rfl rfl (gI_hp g_1433) ?_
    refine Rn.n hT 2 (pc' := 156) (L' := [some (.ref q0), some (.long j1), none, some (.int m3), some (.int m4), some (.int m5), none, none, some (.int m8), none, none]) (st' := [.int (z_1433 + (1 : Int32)), .ref q0]) rfl ?_
    obtain ⟨s_1434, e_1435, e⟩ := Option.bind_eq_some_iff.mp e
    obtain ⟨h_1434, g_1435, R_1434⟩ := rp_pI (ci := 9) (k := 4) R_1431 (T9_o t0) rfl rfl (ti_add p_1433 L32_1) e_1435
    refine Rn.hp hT rfl rfl (pV_hp rfl g_1435) ?_
    refine Rn.n hT 1 (pc' := 160) (L' := [some (.ref q0), some (.long j1), none, some (.int m3), some (.int m4), some (.int m5), none, none, some (.int m8), none, none]) (st' := [.ref q0]) rfl ?_
    refine Rn.hp hT rfl rfl (gR_hp (rp_gR R_1434 (T9_o t0) rfl)) ?_
    refine Rn.n hT 2 (pc' := 166) (L' := [some (.ref q0), some (.long j1), none, some (.int m3), some (.int m4), some (.int m5), none, none, some (.int m8), none, none]) (st' := [.ref q0, .int m8, .ref (q0 + 5)]) rfl ?_
    obtain ⟨z_1436, g_1436, p_1436⟩ : ∃ z : Int32, gI h_1434 9 4 q0 = some z ∧ z.toInt = s_1434 q0 4 := rp_gI (k := 4) R_1434 (T9_o t0) rfl
    refine Rn.hp hT rfl rfl (gI_hp g_1436) ?_
    obtain ⟨s_1437, e_1438, e⟩ := Option.bind_eq_some_iff.mp e
    obtain ⟨h_1437, g_1438, R_1437⟩ := rp_wI R_1434 (T9_5 t0) (T9_5l t0) p8 p_1436 e_1438
    refine Rn.hp hT rfl rfl (wI_hp g_1438) ?_
    refine Rn.n hT 1 (pc' := 171) (L' := [some (.ref q0), some (.long j1), none, some (.int m3), some (.int m4), some (.int m5), none, none, some (.int m8), none, none]) (st' := [.int (1 : Int32)]) rfl ?_
    obtain rfl := Option.some.inj e
    exact Rn.ret hT rfl rfl rfl (hq (1 : Int32) h_1437 L32_1 R_1437)
  · rw [if_neg c_1420] at e
    refine Rn.bf hT rfl rfl rfl (decide_eq_false (fun z => c_1420 ((ti_l p_1419 L32_1500).mp z))) ?_
    refine Rn.n hT 1 (pc' := 106) (L' := [some (.ref q0), some (.long j1), none, some (.int m3), some (.int m4), some (.int m5), none, none, some (.int m8), none, none]) (st' := [.int (0 : Int32)]) rfl ?_
    obtain rfl := Option.some.inj e
    exact Rn.ret hT rfl rfl rfl (hq (0 : Int32) h L32_0 hR)
def FX9_add (N : Nat) (s : iv_M) (q0 : Nat) (y1 : Int) (x3 : Int) (x4 : Int) (x5 : Int) : Option (Int × iv_M) := (FX9_add_l25 N q0 y1 x3 x4 x5 (fun (s_1409 : iv_M) (x1410_8 : Int) => (FX9_add_b95 N s_1409 q0 y1 x3 x4 x5 x1410_8)) N s (w32 (us64 (w64 ((w64 ((w64 (y1 * 31)) + x3)) * (-7046029254386353131))) 52)) 0)
set_option maxRecDepth 10000 in
set_option maxHeartbeats 4000000 in
theorem RX9_add {d N nc Ls : Nat} {Xs : Nat → Int32} (hd : 1 ≤ d) {h : iv_H} {s : iv_M} (hR : Rep nc Ls Xs h s) {q0 : Nat} (t0 : T9 nc q0) {j1 : Int64} {y1 : Int} (p1 : j1.toInt = y1) {m3 : Int32} {x3 : Int} (p3 : m3.toInt = x3) {m4 : Int32} {x4 : Int} (p4 : m4.toInt = x4) {m5 : Int32} {x5 : Int} (p5 : m5.toInt = x5) {r : Int × iv_M} {Q : Option Value → iv_H → Prop} (e : FX9_add N s q0 y1 x3 x4 x5 = some r) (hq : ∀ (z : Int32) (h1 : iv_H), z.toInt = r.1 → Rep nc Ls Xs h1 r.2 → Q (some (.int z)) h1) : Cl d 119 [.ref q0, .long j1, .int m3, .int m4, .int m5] h Q := by
  obtain ⟨d, rfl⟩ : ∃ k, d = k + 1 := ⟨d - 1, by omega⟩
  have hd : 0 ≤ d := by omega
  have hT := hX9_add
  unfold FX9_add at e
  refine Cl.into (by decide) gX9_add rfl ?_
  show Rn d 119 (some .boolean) 0 [some (.ref q0), some (.long j1), none, some (.int m3), some (.int m4), some (.int m5), none, none, none, none, none] [] h Q
  refine Rn.n hT 16 (pc' := 25) (L' := [some (.ref q0), some (.long j1), none, some (.int m3), some (.int m4), some (.int m5), some (.long (((j1 * (31 : Int64)) + (m3).toInt64) * (-7046029254386353131 : Int64))), none, some (.int ((((((((j1 * (31 : Int64)) + (m3).toInt64) * (-7046029254386353131 : Int64))).toUInt64 >>> (((52 : Int32)).toInt64.toUInt64 &&& Int64.toUInt64 63)).toInt64)).toInt32)), some (.int (0 : Int32)), none]) (st' := []) rfl ?_
  refine Rn.weak (ll_s (ll_s (ll_n (ll_s (ll_s (ll_s (ll_n (ll_n (ll_s (ll_s (ll_n ll_e))))))))))) (RX9_add_l25 hd t0 p1 p3 p4 p5 (fun h_1409 s_1409 R_1409 m1410_8 x1410_8 p1410_8 e => ?_) hq N h s hR ((((((((j1 * (31 : Int64)) + (m3).toInt64) * (-7046029254386353131 : Int64))).toUInt64 >>> (((52 : Int32)).toInt64.toUInt64 &&& Int64.toUInt64 63)).toInt64)).toInt32) (w32 (us64 (w64 ((w64 ((w64 (y1 * 31)) + x3)) * (-7046029254386353131))) 52)) (tj_i (tj_ushr (tj_mul (tj_add (tj_mul p1 L64_31) (ti_j p3)) L64_m7046029254386353131) L32_52)) (0 : Int32) 0 L32_0 e)
  try dsimp only at e
  exact Rn.weak (ll_s (ll_s (ll_n (ll_s (ll_s (ll_s (ll_n (ll_n (ll_s (ll_n (ll_n ll_e))))))))))) (RX9_add_b95 hd R_1409 t0 p1 p3 p4 p5 p1410_8 hq e)
set_option maxRecDepth 10000 in
theorem hX9_trace : iv_Tb 120 tX9_trace := iv_tb_of (m := mX9_trace) rfl
set_option maxRecDepth 10000 in
theorem gX9_trace : PG.2 120 = some mX9_trace := iv_pi_of (t := tX9_trace) rfl (by decide)
def FX9_trace_l5 (N : Nat) (q0 : Nat) (x1 : Int) (x2 : Int) (kx : iv_M → Int → Option (Int × iv_M)) : Nat → iv_M → Int → Int → Option (Int × iv_M)
  | 0, _, _, _ => none
  | n + 1, s, x3, x4 => (if x4 ≤ 0 then (kx s x3) else (if 1500 ≤ x3 then (kx s x3) else ((rd s (q0 + 3) 1500 x4).bind fun v_1444 => (FX9_trace_l5 N q0 x1 x2 kx n s (w32 (x3 + 1)) v_1444))))
set_option maxRecDepth 10000 in
set_option maxHeartbeats 4000000 in
theorem RX9_trace_l5 {d N nc Ls : Nat} {Xs : Nat → Int32} (hd : 0 ≤ d) {q0 : Nat} (t0 : T9 nc q0) {m1 : Int32} {x1 : Int} (p1 : m1.toInt = x1) {m2 : Int32} {x2 : Int} (p2 : m2.toInt = x2) {kx : iv_M → Int → Option (Int × iv_M)} {r : Int × iv_M} {Q : Option Value → iv_H → Prop} (hk : ∀ (h : iv_H) (s : iv_M) (hR : Rep nc Ls Xs h s) (m3 : Int32) (x3 : Int) (p3 : m3.toInt = x3), kx s x3 = some r → Rn d 120 (some .int) 34 [some (.ref q0), some (.int m1), some (.int m2), some (.int m3), none, none] [] h Q) (hq : ∀ (z : Int32) (h1 : iv_H), z.toInt = r.1 → Rep nc Ls Xs h1 r.2 → Q (some (.int z)) h1) : ∀ (n : Nat) (h : iv_H) (s : iv_M) (hR : Rep nc Ls Xs h s) (m3 : Int32) (x3 : Int) (p3 : m3.toInt = x3) (m4 : Int32) (x4 : Int) (p4 : m4.toInt = x4), FX9_trace_l5 N q0 x1 x2 kx n s x3 x4 = some r → Rn d 120 (some .int) 5 [some (.ref q0), some (.int m1), some (.int m2), some (.int m3), some (.int m4), none] [] h Q := by
  have hT := hX9_trace
  intro n
  induction n with
  | zero =>
    intro h s hR m3 x3 p3 m4 x4 p4 e
    rw [FX9_trace_l5] at e
    cases e
  | succ n ih =>
    intro h s hR m3 x3 p3 m4 x4 p4 e
    rw [FX9_trace_l5] at e
    refine Rn.n hT 1 (pc' := 7) (L' := [some (.ref q0), some (.int m1), some (.int m2), some (.int m3), some (.int m4), none]) (st' := [.int m4]) rfl ?_
    by_cases c_1441 : x4 ≤ 0
    · rw [if_pos c_1441] at e
      refine Rn.bt hT rfl rfl rfl (decide_eq_true ((ti_le p4 L32_0).mpr c_1441)) ?_
      exact Rn.weak (ll_s (ll_s (ll_s (ll_s (ll_n (ll_n ll_e)))))) (hk h s hR m3 x3 p3 e)
    · rw [if_neg c_1441] at e
      refine Rn.bf hT rfl rfl rfl (decide_eq_false (fun z => c_1441 ((ti_le p4 L32_0).mp z))) ?_
      refine Rn.n hT 2 (pc' := 12) (L' := [some (.ref q0), some (.int m1), some (.int m2), some (.int m3), some (.int m4), none]) (st' := [.ref q0, .int m3]) rfl ?_
      refine Rn.hp hT rfl rfl (gR_hp (rp_gR hR (T9_o t0) rfl)) ?_
      obtain ⟨z_1442, g_1442, p_1442⟩ : ∃ z : Int32, aL h (q0 + 16) = some z ∧ z.toInt = 1500 := rp_aL hR (T9_12 t0) (Or.inl rfl) (T9_12l t0)
      refine Rn.hp hT rfl rfl (aL_hp g_1442) ?_
      by_cases c_1443 : 1500 ≤ x3
      · rw [if_pos c_1443] at e
        refine Rn.bt hT rfl rfl rfl (decide_eq_true ((ti_le p_1442 p3).mpr c_1443)) ?_
        exact Rn.weak (ll_s (ll_s (ll_s (ll_s (ll_n (ll_n ll_e)))))) (hk h s hR m3 x3 p3 e)
      · rw [if_neg c_1443] at e
        refine Rn.bf hT rfl rfl rfl (decide_eq_false (fun z => c_1443 ((ti_le p_1442 p3).mp z))) ?_
        refine Rn.n hT 2 (pc' := 23) (L' := [some (.ref q0), some (.int m1), some (.int m2), some (.int (m3 + (1 : Int32))), some (.int m4), none]) (st' := [.ref q0]) rfl ?_
        refine Rn.hp hT rfl rfl (gR_hp (rp_gR hR (T9_o t0) rfl)) ?_
        refine Rn.n hT 1 (pc' := 28) (L' := [some (.ref q0), some (.int m1), some (.int m2), some (.int (m3 + (1 : Int32))), some (.int m4), none]) (st' := [.int m4, .ref (q0 + 3)]) rfl ?_
        obtain ⟨v_1444, e_1444, e⟩ := Option.bind_eq_some_iff.mp e
        obtain ⟨z_1444, g_1444, p_1444⟩ := rp_aI hR (T9_2 t0) (T9_2l t0) p4 e_1444
        refine Rn.hp hT rfl rfl (aI_hp g_1444) ?_
        refine Rn.n hT 2 (pc' := 5) (L' := [some (.ref q0), some (.int m1), some (.int m2), some (.int (m3 + (1 : Int32))), some (.int z_1444), none]) (st' := []) rfl ?_
        exact Rn.weak (ll_s (ll_s (ll_s (ll_s (ll_s (ll_n ll_e)))))) (ih h s hR (m3 + (1 : Int32)) (w32 (x3 + 1)) (ti_add p3 L32_1) z_1444 v_1444 p_1444 e)
def FX9_trace_l51 (N : Nat) (q0 : Nat) (x3 : Int) (kx : iv_M → Option (Int × iv_M)) : Nat → iv_M → Int → Int → Option (Int × iv_M)
  | 0, _, _, _ => none
  | n + 1, s, x4, x5 => (if x5 < 0 then (kx s) else (if x4 ≤ 0 then (kx s) else ((rd s (q0 + 4) 1500 x4).bind fun v_1451 => ((wr s (q0 + 16) 1500 x5 v_1451).bind fun s_1452 => ((rd s_1452 (q0 + 3) 1500 x4).bind fun v_1454 => (FX9_trace_l51 N q0 x3 kx n s_1452 v_1454 (w32 (x5 + (-1)))))))))
set_option maxRecDepth 10000 in
set_option maxHeartbeats 4000000 in
theorem RX9_trace_l51 {d N nc Ls : Nat} {Xs : Nat → Int32} (hd : 0 ≤ d) {q0 : Nat} (t0 : T9 nc q0) {m3 : Int32} {x3 : Int} (p3 : m3.toInt = x3) {kx : iv_M → Option (Int × iv_M)} {r : Int × iv_M} {Q : Option Value → iv_H → Prop} (hk : ∀ (h : iv_H) (s : iv_M) (hR : Rep nc Ls Xs h s), kx s = some r → Rn d 120 (some .int) 90 [none, none, none, some (.int m3), none, none] [] h Q) (hq : ∀ (z : Int32) (h1 : iv_H), z.toInt = r.1 → Rep nc Ls Xs h1 r.2 → Q (some (.int z)) h1) : ∀ (n : Nat) (h : iv_H) (s : iv_M) (hR : Rep nc Ls Xs h s) (m4 : Int32) (x4 : Int) (p4 : m4.toInt = x4) (m5 : Int32) (x5 : Int) (p5 : m5.toInt = x5), FX9_trace_l51 N q0 x3 kx n s x4 x5 = some r → Rn d 120 (some .int) 51 [some (.ref q0), none, none, some (.int m3), some (.int m4), some (.int m5)] [] h Q := by
  have hT := hX9_trace
  intro n
  induction n with
  | zero =>
    intro h s hR m4 x4 p4 m5 x5 p5 e
    rw [FX9_trace_l51] at e
    cases e
  | succ n ih =>
    intro h s hR m4 x4 p4 m5 x5 p5 e
    rw [FX9_trace_l51] at e
    refine Rn.n hT 1 (pc' := 53) (L' := [some (.ref q0), none, none, some (.int m3), some (.int m4), some (.int m5)]) (st' := [.int m5]) rfl ?_
    by_cases c_1449 : x5 < 0
    · rw [if_pos c_1449] at e
      refine Rn.bt hT rfl rfl rfl (decide_eq_true ((ti_l p5 L32_0).mpr c_1449)) ?_
      exact Rn.weak (ll_n (ll_n (ll_n (ll_s (ll_n (ll_n ll_e)))))) (hk h s hR e)
    · rw [if_neg c_1449] at e
      refine Rn.bf hT rfl rfl rfl (decide_eq_false (fun z => c_1449 ((ti_l p5 L32_0).mp z))) ?_
      refine Rn.n hT 1 (pc' := 58) (L' := [some (.ref q0), none, none, some (.int m3), some (.int m4), some (.int m5)]) (st' := [.int m4]) rfl ?_
      by_cases c_1450 : x4 ≤ 0
      · rw [if_pos c_1450] at e
        refine Rn.bt hT rfl rfl rfl (decide_eq_true ((ti_le p4 L32_0).mpr c_1450)) ?_
        exact Rn.weak (ll_n (ll_n (ll_n (ll_s (ll_n (ll_n ll_e)))))) (hk h s hR e)
      · rw [if_neg c_1450] at e
        refine Rn.bf hT rfl rfl rfl (decide_eq_false (fun z => c_1450 ((ti_le p4 L32_0).mp z))) ?_
        refine Rn.n hT 1 (pc' := 62) (L' := [some (.ref q0), none, none, some (.int m3), some (.int m4), some (.int m5)]) (st' := [.ref q0]) rfl ?_
        refine Rn.hp hT rfl rfl (gR_hp (rp_gR hR (T9_o t0) rfl)) ?_
        refine Rn.n hT 2 (pc' := 68) (L' := [some (.ref q0), none, none, some (.int m3), some (.int m4), some (.int m5)]) (st' := [.ref q0, .int m5, .ref (q0 + 16)]) rfl ?_
        refine Rn.hp hT rfl rfl (gR_hp (rp_gR hR (T9_o t0) rfl)) ?_
        refine Rn.n hT 1 (pc' := 73) (L' := [some (.ref q0), none, none, some (.int m3), some (.int m4), some (.int m5)]) (st' := [.int m4, .ref (q0 + 4), .int m5, .ref (q0 + 16)]) rfl ?_
        obtain ⟨v_1451, e_1451, e⟩ := Option.bind_eq_some_iff.mp e
        obtain ⟨z_1451, g_1451, p_1451⟩ := rp_aI hR (T9_3 t0) (T9_3l t0) p4 e_1451
        refine Rn.hp hT rfl rfl (aI_hp g_1451) ?_
        obtain ⟨s_1452, e_1453, e⟩ := Option.bind_eq_some_iff.mp e
        obtain ⟨h_1452, g_1453, R_1452⟩ := rp_wI hR (T9_12 t0) (T9_12l t0) p5 p_1451 e_1453
        refine Rn.hp hT rfl rfl (wI_hp g_1453) ?_
        refine Rn.n hT 1 (pc' := 76) (L' := [some (.ref q0), none, none, some (.int m3), some (.int m4), some (.int m5)]) (st' := [.ref q0]) rfl ?_
        refine Rn.hp hT rfl rfl (gR_hp (rp_gR R_1452 (T9_o t0) rfl)) ?_
        refine Rn.n hT 1 (pc' := 81) (L' := [some (.ref q0), none, none, some (.int m3), some (.int m4), some (.int m5)]) (st' := [.int m4, .ref (q0 + 3)]) rfl ?_
        obtain ⟨v_1454, e_1454, e⟩ := Option.bind_eq_some_iff.mp e
        obtain ⟨z_1454, g_1454, p_1454⟩ := rp_aI R_1452 (T9_2 t0) (T9_2l t0) p4 e_1454
        refine Rn.hp hT rfl rfl (aI_hp g_1454) ?_
        refine Rn.n hT 3 (pc' := 51) (L' := [some (.ref q0), none, none, some (.int m3), some (.int z_1454), some (.int (m5 + (-1 : Int32)))]) (st' := []) rfl ?_
        exact Rn.weak (ll_s (ll_n (ll_n (ll_s (ll_s (ll_s ll_e)))))) (ih h_1452 s_1452 R_1452 z_1454 v_1454 p_1454 (m5 + (-1 : Int32)) (w32 (x5 + (-1))) (ti_add p5 L32_m1) e)
def FX9_trace_b90 (N : Nat) (s : iv_M) (x3 : Int)  : Option (Int × iv_M) := (some (x3, s))
set_option maxRecDepth 10000 in
set_option maxHeartbeats 4000000 in
theorem RX9_trace_b90 {d N nc Ls : Nat} {Xs : Nat → Int32} (hd : 0 ≤ d) {h : iv_H} {s : iv_M} (hR : Rep nc Ls Xs h s) {m3 : Int32} {x3 : Int} (p3 : m3.toInt = x3)  {r : Int × iv_M} {Q : Option Value → iv_H → Prop} (hq : ∀ (z : Int32) (h1 : iv_H), z.toInt = r.1 → Rep nc Ls Xs h1 r.2 → Q (some (.int z)) h1) (e : FX9_trace_b90 N s x3  = some r) : Rn d 120 (some .int) 90 [none, none, none, some (.int m3), none, none] [] h Q := by
  have hT := hX9_trace
  unfold FX9_trace_b90 at e
  refine Rn.n hT 1 (pc' := 91) (L' := [none, none, none, some (.int m3), none, none]) (st' := [.int m3]) rfl ?_
  obtain rfl := Option.some.inj e
  exact Rn.ret hT rfl rfl rfl (hq m3 h p3 hR)
def FX9_trace_b34 (N : Nat) (s : iv_M) (q0 : Nat) (x1 : Int) (x2 : Int) (x3 : Int)  : Option (Int × iv_M) := ((wr s (q0 + 16) 1500 (w32 (x3 - 1)) x2).bind fun s_1445 => (FX9_trace_l51 N q0 x3 (fun (s_1447 : iv_M) => (FX9_trace_b90 N s_1447 x3)) N s_1445 x1 (w32 (x3 - 2))))
set_option maxRecDepth 10000 in
set_option maxHeartbeats 4000000 in
theorem RX9_trace_b34 {d N nc Ls : Nat} {Xs : Nat → Int32} (hd : 0 ≤ d) {h : iv_H} {s : iv_M} (hR : Rep nc Ls Xs h s) {q0 : Nat} (t0 : T9 nc q0) {m1 : Int32} {x1 : Int} (p1 : m1.toInt = x1) {m2 : Int32} {x2 : Int} (p2 : m2.toInt = x2) {m3 : Int32} {x3 : Int} (p3 : m3.toInt = x3)  {r : Int × iv_M} {Q : Option Value → iv_H → Prop} (hq : ∀ (z : Int32) (h1 : iv_H), z.toInt = r.1 → Rep nc Ls Xs h1 r.2 → Q (some (.int z)) h1) (e : FX9_trace_b34 N s q0 x1 x2 x3  = some r) : Rn d 120 (some .int) 34 [some (.ref q0), some (.int m1), some (.int m2), some (.int m3), none, none] [] h Q := by
  have hT := hX9_trace
  unfold FX9_trace_b34 at e
  refine Rn.n hT 1 (pc' := 35) (L' := [some (.ref q0), some (.int m1), some (.int m2), some (.int m3), none, none]) (st' := [.ref q0]) rfl ?_
  refine Rn.hp hT rfl rfl (gR_hp (rp_gR hR (T9_o t0) rfl)) ?_
  refine Rn.n hT 4 (pc' := 42) (L' := [some (.ref q0), some (.int m1), some (.int m2), some (.int m3), none, none]) (st' := [.int m2, .int (m3 - (1 : Int32)), .ref (q0 + 16)]) rfl ?_
  obtain ⟨s_1445, e_1446, e⟩ := Option.bind_eq_some_iff.mp e
  obtain ⟨h_1445, g_1446, R_1445⟩ := rp_wI hR (T9_12 t0) (T9_12l t0) (ti_sub p3 L32_1) p2 e_1446
  refine Rn.hp hT rfl rfl (wI_hp g_1446) ?_
  refine Rn.n hT 6 (pc' := 51) (L' := [some (.ref q0), some (.int m1), some (.int m2), some (.int m3), some (.int m1), some (.int (m3 - (2 : Int32)))]) (st' := []) rfl ?_
  refine Rn.weak (ll_s (ll_n (ll_n (ll_s (ll_s (ll_s ll_e)))))) (RX9_trace_l51 hd t0 p3 (fun h_1447 s_1447 R_1447 e => ?_) hq N h_1445 s_1445 R_1445 m1 x1 p1 (m3 - (2 : Int32)) (w32 (x3 - 2)) (ti_sub p3 L32_2) e)
  try dsimp only at e
  exact Rn.weak (ll_n (ll_n (ll_n (ll_s (ll_n (ll_n ll_e)))))) (RX9_trace_b90 hd R_1447 p3 hq e)
def FX9_trace (N : Nat) (s : iv_M) (q0 : Nat) (x1 : Int) (x2 : Int) : Option (Int × iv_M) := (FX9_trace_l5 N q0 x1 x2 (fun (s_1439 : iv_M) (x1440_3 : Int) => (FX9_trace_b34 N s_1439 q0 x1 x2 x1440_3)) N s 1 x1)
set_option maxRecDepth 10000 in
set_option maxHeartbeats 4000000 in
theorem RX9_trace {d N nc Ls : Nat} {Xs : Nat → Int32} (hd : 1 ≤ d) {h : iv_H} {s : iv_M} (hR : Rep nc Ls Xs h s) {q0 : Nat} (t0 : T9 nc q0) {m1 : Int32} {x1 : Int} (p1 : m1.toInt = x1) {m2 : Int32} {x2 : Int} (p2 : m2.toInt = x2) {r : Int × iv_M} {Q : Option Value → iv_H → Prop} (e : FX9_trace N s q0 x1 x2 = some r) (hq : ∀ (z : Int32) (h1 : iv_H), z.toInt = r.1 → Rep nc Ls Xs h1 r.2 → Q (some (.int z)) h1) : Cl d 120 [.ref q0, .int m1, .int m2] h Q := by
  obtain ⟨d, rfl⟩ : ∃ k, d = k + 1 := ⟨d - 1, by omega⟩
  have hd : 0 ≤ d := by omega
  have hT := hX9_trace
  unfold FX9_trace at e
  refine Cl.into (by decide) gX9_trace rfl ?_
  show Rn d 120 (some .int) 0 [some (.ref q0), some (.int m1), some (.int m2), none, none, none] [] h Q
  refine Rn.n hT 4 (pc' := 5) (L' := [some (.ref q0), some (.int m1), some (.int m2), some (.int (1 : Int32)), some (.int m1), none]) (st' := []) rfl ?_
  refine Rn.weak (ll_s (ll_s (ll_s (ll_s (ll_s (ll_n ll_e)))))) (RX9_trace_l5 hd t0 p1 p2 (fun h_1439 s_1439 R_1439 m1440_3 x1440_3 p1440_3 e => ?_) hq N h s hR (1 : Int32) 1 L32_1 m1 x1 p1 e)
  try dsimp only at e
  exact Rn.weak (ll_s (ll_s (ll_s (ll_s (ll_n (ll_n ll_e)))))) (RX9_trace_b34 hd R_1439 t0 p1 p2 p1440_3 hq e)
set_option maxRecDepth 10000 in
theorem hX9_find : iv_Tb 118 tX9_find := iv_tb_of (m := mX9_find) rfl
set_option maxRecDepth 10000 in
theorem gX9_find : PG.2 118 = some mX9_find := iv_pi_of (t := tX9_find) rfl (by decide)
def FX9_find_b203 (N : Nat) (s : iv_M) (q0 : Nat) (y1 : Int) (x3 : Int) (x4 : Int) (x5 : Int) (x6 : Int) (y7 : Int) (x9 : Int)  (kb : iv_M → Int → Option (Int × iv_M)) (kx : iv_M → Option (Int × iv_M)) : Option (Int × iv_M) := ((rd s (q0 + 6) 126 x6).bind fun v_1496 => ((FX9_add N s q0 y7 x9 x4 v_1496).bind fun r_1497 => (fun (v_1497 : Int) (s_1498 : iv_M) => (if v_1497 = 0 then (some ((-3), s_1498)) else (kb s_1498 (w32 (x6 + 1))))) r_1497.1 r_1497.2))
set_option maxRecDepth 10000 in
set_option maxHeartbeats 4000000 in
theorem RX9_find_b203 {d N nc Ls : Nat} {Xs : Nat → Int32} (hd : 5 ≤ d) {h : iv_H} {s : iv_M} (hR : Rep nc Ls Xs h s) {q0 : Nat} (t0 : T9 nc q0) {j1 : Int64} {y1 : Int} (p1 : j1.toInt = y1) {m3 : Int32} {x3 : Int} (p3 : m3.toInt = x3) {m4 : Int32} {x4 : Int} (p4 : m4.toInt = x4) {m5 : Int32} {x5 : Int} (p5 : m5.toInt = x5) {m6 : Int32} {x6 : Int} (p6 : m6.toInt = x6) {j7 : Int64} {y7 : Int} (p7 : j7.toInt = y7) {m9 : Int32} {x9 : Int} (p9 : m9.toInt = x9)  {kb : iv_M → Int → Option (Int × iv_M)} {kx : iv_M → Option (Int × iv_M)} {r : Int × iv_M} {Q : Option Value → iv_H → Prop} (hb : ∀ (h : iv_H) (s : iv_M) (hR : Rep nc Ls Xs h s) (mw6 : Int32) (xw6 : Int) (pw6 : mw6.toInt = xw6), kb s xw6 = some r → Rn d 118 (some .int) 123 [some (.ref q0), some (.long j1), none, some (.int m3), some (.int m4), some (.int m5), some (.int mw6), none, none, none] [] h Q) (hk : ∀ (h : iv_H) (s : iv_M) (hR : Rep nc Ls Xs h s), kx s = some r → Rn d 118 (some .int) 232 [some (.ref q0), some (.long j1), none, some (.int m3), some (.int m4), none, none, none, none, none] [] h Q) (hq : ∀ (z : Int32) (h1 : iv_H), z.toInt = r.1 → Rep nc Ls Xs h1 r.2 → Q (some (.int z)) h1) (e : FX9_find_b203 N s q0 y1 x3 x4 x5 x6 y7 x9  kb kx = some r) : Rn d 118 (some .int) 203 [some (.ref q0), some (.long j1), none, some (.int m3), some (.int m4), some (.int m5), some (.int m6), some (.long j7), none, some (.int m9)] [] h Q := by
  have hT := hX9_find
  unfold FX9_find_b203 at e
  refine Rn.n hT 5 (pc' := 211) (L' := [some (.ref q0), some (.long j1), none, some (.int m3), some (.int m4), some (.int m5), some (.int m6), some (.long j7), none, some (.int m9)]) (st' := [.ref q0, .int m4, .int m9, .long j7, .ref q0]) rfl ?_
  refine Rn.hp hT rfl rfl (gR_hp (rp_gR hR (T9_o t0) rfl)) ?_
  refine Rn.n hT 1 (pc' := 216) (L' := [some (.ref q0), some (.long j1), none, some (.int m3), some (.int m4), some (.int m5), some (.int m6), some (.long j7), none, some (.int m9)]) (st' := [.int m6, .ref (q0 + 6), .int m4, .int m9, .long j7, .ref q0]) rfl ?_
  obtain ⟨v_1496, e_1496, e⟩ := Option.bind_eq_some_iff.mp e
  obtain ⟨z_1496, g_1496, p_1496⟩ := rp_aI hR (T9_6 t0) (T9_6l t0) p6 e_1496
  refine Rn.hp hT rfl rfl (aI_hp g_1496) ?_
  obtain ⟨⟨v_1497, s_1498⟩, e_1497, e⟩ := Option.bind_eq_some_iff.mp e
  try dsimp only at e
  try dsimp only at e
  refine Rn.call hT rfl rfl rfl (Nat.le_of_ble_eq_true rfl) (rcv_v gX9_add (by omega) (rp_ck hR (T9_o t0))) (RX9_add (by omega) hR t0 p7 p9 p4 p_1496 e_1497 (fun z_1497 h_1498 p_1497 R_1498 => ?_))
  show Rn d _ _ 220 [some (.ref q0), some (.long j1), none, some (.int m3), some (.int m4), some (.int m5), some (.int m6), some (.long j7), none, some (.int m9)] [.int z_1497] h_1498 Q
  by_cases c_1499 : v_1497 = 0
  · rw [if_pos c_1499] at e
    refine Rn.bf hT rfl rfl rfl (decide_eq_false (fun z => z ((ti_e p_1497 L32_0).mpr c_1499))) ?_
    refine Rn.n hT 1 (pc' := 225) (L' := [some (.ref q0), some (.long j1), none, some (.int m3), some (.int m4), some (.int m5), some (.int m6), some (.long j7), none, some (.int m9)]) (st' := [.int (-3 : Int32)]) rfl ?_
    obtain rfl := Option.some.inj e
    exact Rn.ret hT rfl rfl rfl (hq (-3 : Int32) h_1498 L32_m3 R_1498)
  · rw [if_neg c_1499] at e
    refine Rn.bt hT rfl rfl rfl (decide_eq_true (fun z => c_1499 ((ti_e p_1497 L32_0).mp z))) ?_
    refine Rn.n hT 2 (pc' := 123) (L' := [some (.ref q0), some (.long j1), none, some (.int m3), some (.int m4), some (.int m5), some (.int (m6 + (1 : Int32))), some (.long j7), none, some (.int m9)]) (st' := []) rfl ?_
    exact Rn.weak (ll_s (ll_s (ll_n (ll_s (ll_s (ll_s (ll_s (ll_n (ll_n (ll_n ll_e)))))))))) (hb h_1498 s_1498 R_1498 (m6 + (1 : Int32)) (w32 (x6 + 1)) (ti_add p6 L32_1) e)
def FX9_find_l123 (N : Nat) (q0 : Nat) (y1 : Int) (x3 : Int) (x4 : Int) (x5 : Int) (kx : iv_M → Option (Int × iv_M)) : Nat → iv_M → Int → Option (Int × iv_M)
  | 0, _, _ => none
  | n + 1, s, x6 => (if x5 ≤ x6 then (kx s) else ((rd s (q0 + 6) 126 x6).bind fun v_1483 => ((FX1_go N s (q0 + 7) v_1483).bind fun s_1485 => ((rd s_1485 (q0 + 6) 126 x6).bind fun v_1488 => ((FX1_goBack N s_1485 (q0 + 7) v_1488).bind fun s_1490 => (if (s_1485 (q0 + 7) 3) = y1 then (if (s_1485 (q0 + 7) 4) = x3 then ((rd s_1490 (q0 + 6) 126 x6).bind fun v_1493 => ((FX9_trace N s_1490 q0 x4 v_1493).bind fun r_1494 => (fun (v_1494 : Int) (s_1495 : iv_M) => (some (v_1494, s_1495))) r_1494.1 r_1494.2)) else (FX9_find_b203 N s_1490 q0 y1 x3 x4 x5 x6 (s_1485 (q0 + 7) 3) (s_1485 (q0 + 7) 4) (FX9_find_l123 N q0 y1 x3 x4 x5 kx n) kx)) else (FX9_find_b203 N s_1490 q0 y1 x3 x4 x5 x6 (s_1485 (q0 + 7) 3) (s_1485 (q0 + 7) 4) (FX9_find_l123 N q0 y1 x3 x4 x5 kx n) kx)))))))
set_option maxRecDepth 10000 in
set_option maxHeartbeats 4000000 in
theorem RX9_find_l123 {d N nc Ls : Nat} {Xs : Nat → Int32} (hd : 5 ≤ d) {q0 : Nat} (t0 : T9 nc q0) {j1 : Int64} {y1 : Int} (p1 : j1.toInt = y1) {m3 : Int32} {x3 : Int} (p3 : m3.toInt = x3) {m4 : Int32} {x4 : Int} (p4 : m4.toInt = x4) {m5 : Int32} {x5 : Int} (p5 : m5.toInt = x5) {kx : iv_M → Option (Int × iv_M)} {r : Int × iv_M} {Q : Option Value → iv_H → Prop} (hk : ∀ (h : iv_H) (s : iv_M) (hR : Rep nc Ls Xs h s), kx s = some r → Rn d 118 (some .int) 232 [some (.ref q0), some (.long j1), none, some (.int m3), some (.int m4), none, none, none, none, none] [] h Q) (hq : ∀ (z : Int32) (h1 : iv_H), z.toInt = r.1 → Rep nc Ls Xs h1 r.2 → Q (some (.int z)) h1) : ∀ (n : Nat) (h : iv_H) (s : iv_M) (hR : Rep nc Ls Xs h s) (m6 : Int32) (x6 : Int) (p6 : m6.toInt = x6), FX9_find_l123 N q0 y1 x3 x4 x5 kx n s x6 = some r → Rn d 118 (some .int) 123 [some (.ref q0), some (.long j1), none, some (.int m3), some (.int m4), some (.int m5), some (.int m6), none, none, none] [] h Q := by
  have hT := hX9_find
  intro n
  induction n with
  | zero =>
    intro h s hR m6 x6 p6 e
    rw [FX9_find_l123] at e
    cases e
  | succ n ih =>
    intro h s hR m6 x6 p6 e
    rw [FX9_find_l123] at e
    refine Rn.n hT 2 (pc' := 127) (L' := [some (.ref q0), some (.long j1), none, some (.int m3), some (.int m4), some (.int m5), some (.int m6), none, none, none]) (st' := [.int m5, .int m6]) rfl ?_
    by_cases c_1482 : x5 ≤ x6
    · rw [if_pos c_1482] at e
      refine Rn.bt hT rfl rfl rfl (decide_eq_true ((ti_le p5 p6).mpr c_1482)) ?_
      exact Rn.weak (ll_s (ll_s (ll_n (ll_s (ll_s (ll_n (ll_n (ll_n (ll_n (ll_n ll_e)))))))))) (hk h s hR e)
    · rw [if_neg c_1482] at e
      refine Rn.bf hT rfl rfl rfl (decide_eq_false (fun z => c_1482 ((ti_le p5 p6).mp z))) ?_
      refine Rn.n hT 1 (pc' := 131) (L' := [some (.ref q0), some (.long j1), none, some (.int m3), some (.int m4), some (.int m5), some (.int m6), none, none, none]) (st' := [.ref q0]) rfl ?_
      refine Rn.hp hT rfl rfl (gR_hp (rp_gR hR (T9_o t0) rfl)) ?_
      refine Rn.n hT 1 (pc' := 135) (L' := [some (.ref q0), some (.long j1), none, some (.int m3), some (.int m4), some (.int m5), some (.int m6), none, none, none]) (st' := [.ref q0, .ref (q0 + 7)]) rfl ?_
      refine Rn.hp hT rfl rfl (gR_hp (rp_gR hR (T9_o t0) rfl)) ?_
      refine Rn.n hT 1 (pc' := 140) (L' := [some (.ref q0), some (.long j1), none, some (.int m3), some (.int m4), some (.int m5), some (.int m6), none, none, none]) (st' := [.int m6, .ref (q0 + 6), .ref (q0 + 7)]) rfl ?_
      obtain ⟨v_1483, e_1483, e⟩ := Option.bind_eq_some_iff.mp e
      obtain ⟨z_1483, g_1483, p_1483⟩ := rp_aI hR (T9_6 t0) (T9_6l t0) p6 e_1483
      refine Rn.hp hT rfl rfl (aI_hp g_1483) ?_
      obtain ⟨s_1485, e_1484, e⟩ := Option.bind_eq_some_iff.mp e
      refine Rn.call hT rfl rfl rfl (Nat.le_of_ble_eq_true rfl) (rcv_v gX1_go (by omega) (rp_ck hR (T1_o (T9_7 t0)))) (RX1_go (by omega) hR (T9_7 t0) p_1483 e_1484 (fun h_1485 R_1485 => ?_))
      show Rn d _ _ 144 [some (.ref q0), some (.long j1), none, some (.int m3), some (.int m4), some (.int m5), some (.int m6), none, none, none] [] h_1485 Q
      refine Rn.n hT 1 (pc' := 145) (L' := [some (.ref q0), some (.long j1), none, some (.int m3), some (.int m4), some (.int m5), some (.int m6), none, none, none]) (st' := [.ref q0]) rfl ?_
      refine Rn.hp hT rfl rfl (gR_hp (rp_gR R_1485 (T9_o t0) rfl)) ?_
      obtain ⟨z_1486, g_1486, p_1486⟩ : ∃ z : Int64, gJ h_1485 1 3 (q0 + 7) = some z ∧ z.toInt = s_1485 (q0 + 7) 3 := rp_gJ (k := 3) R_1485 (T1_o (T9_7 t0)) rfl
      refine Rn.hp hT rfl rfl (gJ_hp g_1486) ?_
      refine Rn.n hT 2 (pc' := 154) (L' := [some (.ref q0), some (.long j1), none, some (.int m3), some (.int m4), some (.int m5), some (.int m6), some (.long z_1486), none, none]) (st' := [.ref q0]) rfl ?_
      refine Rn.hp hT rfl rfl (gR_hp (rp_gR R_1485 (T9_o t0) rfl)) ?_
      obtain ⟨z_1487, g_1487, p_1487⟩ : ∃ z : Int32, gI h_1485 1 4 (q0 + 7) = some z ∧ z.toInt = s_1485 (q0 + 7) 4 := rp_gI (k := 4) R_1485 (T1_o (T9_7 t0)) rfl
      refine Rn.hp hT rfl rfl (gI_hp g_1487) ?_
      refine Rn.n hT 2 (pc' := 163) (L' := [some (.ref q0), some (.long j1), none, some (.int m3), some (.int m4), some (.int m5), some (.int m6), some (.long z_1486), none, some (.int z_1487)]) (st' := [.ref q0]) rfl ?_
      refine Rn.hp hT rfl rfl (gR_hp (rp_gR R_1485 (T9_o t0) rfl)) ?_
      refine Rn.n hT 1 (pc' := 167) (L' := [some (.ref q0), some (.long j1), none, some (.int m3), some (.int m4), some (.int m5), some (.int m6), some (.long z_1486), none, some (.int z_1487)]) (st' := [.ref q0, .ref (q0 + 7)]) rfl ?_
      refine Rn.hp hT rfl rfl (gR_hp (rp_gR R_1485 (T9_o t0) rfl)) ?_
      refine Rn.n hT 1 (pc' := 172) (L' := [some (.ref q0), some (.long j1), none, some (.int m3), some (.int m4), some (.int m5), some (.int m6), some (.long z_1486), none, some (.int z_1487)]) (st' := [.int m6, .ref (q0 + 6), .ref (q0 + 7)]) rfl ?_
      obtain ⟨v_1488, e_1488, e⟩ := Option.bind_eq_some_iff.mp e
      obtain ⟨z_1488, g_1488, p_1488⟩ := rp_aI R_1485 (T9_6 t0) (T9_6l t0) p6 e_1488
      refine Rn.hp hT rfl rfl (aI_hp g_1488) ?_
      obtain ⟨s_1490, e_1489, e⟩ := Option.bind_eq_some_iff.mp e
      refine Rn.call hT rfl rfl rfl (Nat.le_of_ble_eq_true rfl) (rcv_v gX1_goBack (by omega) (rp_ck R_1485 (T1_o (T9_7 t0)))) (RX1_goBack (by omega) R_1485 (T9_7 t0) p_1488 e_1489 (fun h_1490 R_1490 => ?_))
      show Rn d _ _ 176 [some (.ref q0), some (.long j1), none, some (.int m3), some (.int m4), some (.int m5), some (.int m6), some (.long z_1486), none, some (.int z_1487)] [] h_1490 Q
      refine Rn.n hT 3 (pc' := 180) (L' := [some (.ref q0), some (.long j1), none, some (.int m3), some (.int m4), some (.int m5), some (.int m6), some (.long z_1486), none, some (.int z_1487)]) (st' := [.int (lg_cmp z_1486 j1)]) rfl ?_
      by_cases c_1491 : (s_1485 (q0 + 7) 3) = y1
      · rw [if_pos c_1491] at e
        refine Rn.bf hT rfl rfl rfl (decide_eq_false (fun z => z ((lc_e p_1486 p1).mpr c_1491))) ?_
        refine Rn.n hT 2 (pc' := 186) (L' := [some (.ref q0), some (.long j1), none, some (.int m3), some (.int m4), some (.int m5), some (.int m6), some (.long z_1486), none, some (.int z_1487)]) (st' := [.int m3, .int z_1487]) rfl ?_
        by_cases c_1492 : (s_1485 (q0 + 7) 4) = x3
        · rw [if_pos c_1492] at e
          refine Rn.bf hT rfl rfl rfl (decide_eq_false (fun z => z ((ti_e p_1487 p3).mpr c_1492))) ?_
          refine Rn.n hT 3 (pc' := 193) (L' := [some (.ref q0), some (.long j1), none, some (.int m3), some (.int m4), some (.int m5), some (.int m6), some (.long z_1486), none, some (.int z_1487)]) (st' := [.ref q0, .int m4, .ref q0]) rfl ?_
          refine Rn.hp hT rfl rfl (gR_hp (rp_gR R_1490 (T9_o t0) rfl)) ?_
          refine Rn.n hT 1 (pc' := 198) (L' := [some (.ref q0), some (.long j1), none, some (.int m3), some (.int m4), some (.int m5), some (.int m6), some (.long z_1486), none, some (.int z_1487)]) (st' := [.int m6, .ref (q0 + 6), .int m4, .ref q0]) rfl ?_
          obtain ⟨v_1493, e_1493, e⟩ := Option.bind_eq_some_iff.mp e
          obtain ⟨z_1493, g_1493, p_1493⟩ := rp_aI R_1490 (T9_6 t0) (T9_6l t0) p6 e_1493
          refine Rn.hp hT rfl rfl (aI_hp g_1493) ?_
          obtain ⟨⟨v_1494, s_1495⟩, e_1494, e⟩ := Option.bind_eq_some_iff.mp e
          try dsimp only at e
          try dsimp only at e
          refine Rn.call hT rfl rfl rfl (Nat.le_of_ble_eq_true rfl) (rcv_v gX9_trace (by omega) (rp_ck R_1490 (T9_o t0))) (RX9_trace (by omega) R_1490 t0 p4 p_1493 e_1494 (fun z_1494 h_1495 p_1494 R_1495 => ?_))
          show Rn d _ _ 202 [some (.ref q0), some (.long j1), none, some (.int m3), some (.int m4), some (.int m5), some (.int m6), some (.long z_1486), none, some (.int z_1487)] [.int z_1494] h_1495 Q
          obtain rfl := Option.some.inj e
          exact Rn.ret hT rfl rfl rfl (hq z_1494 h_1495 p_1494 R_1495)
        · rw [if_neg c_1492] at e
          refine Rn.bt hT rfl rfl rfl (decide_eq_true (fun z => c_1492 ((ti_e p_1487 p3).mp z))) ?_
          exact Rn.weak (ll_s (ll_s (ll_n (ll_s (ll_s (ll_s (ll_s (ll_s (ll_n (ll_s ll_e)))))))))) (RX9_find_b203 hd R_1490 t0 p1 p3 p4 p5 p6 p_1486 p_1487 ih hk hq e)
      · rw [if_neg c_1491] at e
        refine Rn.bt hT rfl rfl rfl (decide_eq_true (fun z => c_1491 ((lc_e p_1486 p1).mp z))) ?_
        exact Rn.weak (ll_s (ll_s (ll_n (ll_s (ll_s (ll_s (ll_s (ll_s (ll_n (ll_s ll_e)))))))))) (RX9_find_b203 hd R_1490 t0 p1 p3 p4 p5 p6 p_1486 p_1487 ih hk hq e)
def FX9_find_l62 (N : Nat) (q0 : Nat) (y1 : Int) (x3 : Int) (kx : iv_M → Option (Int × iv_M)) : Nat → iv_M → Int → Option (Int × iv_M)
  | 0, _, _ => none
  | n + 1, s, x4 => (if (s q0 4) ≤ x4 then (kx s) else (if 1500 ≤ x4 then (kx s) else ((rd s (q0 + 1) 1500 x4).bind fun v_1472 => ((rd s (q0 + 2) 1500 x4).bind fun v_1473 => ((FX1_arrange N s (q0 + 7) v_1472 v_1473).bind fun s_1475 => ((FX3_look N s_1475 (q0 + 14)).bind fun s_1477 => ((FX3_list N s_1477 (q0 + 14) (q0 + 6)).bind fun r_1478 => (fun (v_1478 : Int) (s_1479 : iv_M) => (FX9_find_l123 N q0 y1 x3 x4 v_1478 (fun (s_1480 : iv_M) => (FX9_find_l62 N q0 y1 x3 kx n s_1480 (w32 (x4 + 1)))) N s_1479 0)) r_1478.1 r_1478.2)))))))
set_option maxRecDepth 10000 in
set_option maxHeartbeats 4000000 in
theorem RX9_find_l62 {d N nc Ls : Nat} {Xs : Nat → Int32} (hd : 5 ≤ d) {q0 : Nat} (t0 : T9 nc q0) {j1 : Int64} {y1 : Int} (p1 : j1.toInt = y1) {m3 : Int32} {x3 : Int} (p3 : m3.toInt = x3) {kx : iv_M → Option (Int × iv_M)} {r : Int × iv_M} {Q : Option Value → iv_H → Prop} (hk : ∀ (h : iv_H) (s : iv_M) (hR : Rep nc Ls Xs h s), kx s = some r → Rn d 118 (some .int) 238 [none, none, none, none, none, none, none, none, none, none] [] h Q) (hq : ∀ (z : Int32) (h1 : iv_H), z.toInt = r.1 → Rep nc Ls Xs h1 r.2 → Q (some (.int z)) h1) : ∀ (n : Nat) (h : iv_H) (s : iv_M) (hR : Rep nc Ls Xs h s) (m4 : Int32) (x4 : Int) (p4 : m4.toInt = x4), FX9_find_l62 N q0 y1 x3 kx n s x4 = some r → Rn d 118 (some .int) 62 [some (.ref q0), some (.long j1), none, some (.int m3), some (.int m4), none, none, none, none, none] [] h Q := by
  have hT := hX9_find
  intro n
  induction n with
  | zero =>
    intro h s hR m4 x4 p4 e
    rw [FX9_find_l62] at e
    cases e
  | succ n ih =>
    intro h s hR m4 x4 p4 e
    rw [FX9_find_l62] at e
    refine Rn.n hT 2 (pc' := 65) (L' := [some (.ref q0), some (.long j1), none, some (.int m3), some (.int m4), none, none, none, none, none]) (st' := [.ref q0, .int m4]) rfl ?_
    obtain ⟨z_1469, g_1469, p_1469⟩ : ∃ z : Int32, gI h 9 4 q0 = some z ∧ z.toInt = s q0 4 := rp_gI (k := 4) hR (T9_o t0) rfl
    refine Rn.hp hT rfl rfl (gI_hp g_1469) ?_
    by_cases c_1470 : (s q0 4) ≤ x4
    · rw [if_pos c_1470] at e
      refine Rn.bt hT rfl rfl rfl (decide_eq_true ((ti_le p_1469 p4).mpr c_1470)) ?_
      exact Rn.weak (ll_n (ll_n (ll_n (ll_n (ll_n (ll_n (ll_n (ll_n (ll_n (ll_n ll_e)))))))))) (hk h s hR e)
    · rw [if_neg c_1470] at e
      refine Rn.bf hT rfl rfl rfl (decide_eq_false (fun z => c_1470 ((ti_le p_1469 p4).mp z))) ?_
      refine Rn.n hT 2 (pc' := 76) (L' := [some (.ref q0), some (.long j1), none, some (.int m3), some (.int m4), none, none, none, none, none]) (st' := [.int (1500 : Int32), .int m4]) rfl ?_
      by_cases c_1471 : 1500 ≤ x4
      · rw [if_pos c_1471] at e
        refine Rn.bt hT rfl rfl rfl (decide_eq_true ((ti_le L32_1500 p4).mpr c_1471)) ?_
        exact Rn.weak (ll_n (ll_n (ll_n (ll_n (ll_n (ll_n (ll_n (ll_n (ll_n (ll_n ll_e)))))))))) (hk h s hR e)
      · rw [if_neg c_1471] at e
        refine Rn.bf hT rfl rfl rfl (decide_eq_false (fun z => c_1471 ((ti_le L32_1500 p4).mp z))) ?_
        refine Rn.n hT 1 (pc' := 80) (L' := [some (.ref q0), some (.long j1), none, some (.int m3), some (.int m4), none, none, none, none, none]) (st' := [.ref q0]) rfl ?_
        refine Rn.hp hT rfl rfl (gR_hp (rp_gR hR (T9_o t0) rfl)) ?_
        refine Rn.n hT 1 (pc' := 84) (L' := [some (.ref q0), some (.long j1), none, some (.int m3), some (.int m4), none, none, none, none, none]) (st' := [.ref q0, .ref (q0 + 7)]) rfl ?_
        refine Rn.hp hT rfl rfl (gR_hp (rp_gR hR (T9_o t0) rfl)) ?_
        refine Rn.n hT 1 (pc' := 89) (L' := [some (.ref q0), some (.long j1), none, some (.int m3), some (.int m4), none, none, none, none, none]) (st' := [.int m4, .ref (q0 + 1), .ref (q0 + 7)]) rfl ?_
        obtain ⟨v_1472, e_1472, e⟩ := Option.bind_eq_some_iff.mp e
        obtain ⟨z_1472, g_1472, p_1472⟩ := rp_aJ hR (T9_0 t0) (T9_0l t0) p4 e_1472
        refine Rn.hp hT rfl rfl (aJ_hp g_1472) ?_
        refine Rn.n hT 1 (pc' := 91) (L' := [some (.ref q0), some (.long j1), none, some (.int m3), some (.int m4), none, none, none, none, none]) (st' := [.ref q0, .long z_1472, .ref (q0 + 7)]) rfl ?_
        refine Rn.hp hT rfl rfl (gR_hp (rp_gR hR (T9_o t0) rfl)) ?_
        refine Rn.n hT 1 (pc' := 96) (L' := [some (.ref q0), some (.long j1), none, some (.int m3), some (.int m4), none, none, none, none, none]) (st' := [.int m4, .ref (q0 + 2), .long z_1472, .ref (q0 + 7)]) rfl ?_
        obtain ⟨v_1473, e_1473, e⟩ := Option.bind_eq_some_iff.mp e
        obtain ⟨z_1473, g_1473, p_1473⟩ := rp_aI hR (T9_1 t0) (T9_1l t0) p4 e_1473
        refine Rn.hp hT rfl rfl (aI_hp g_1473) ?_
        obtain ⟨s_1475, e_1474, e⟩ := Option.bind_eq_some_iff.mp e
        refine Rn.call hT rfl rfl rfl (Nat.le_of_ble_eq_true rfl) (rcv_v gX1_arrange (by omega) (rp_ck hR (T1_o (T9_7 t0)))) (RX1_arrange (by omega) hR (T9_7 t0) p_1472 p_1473 e_1474 (fun h_1475 R_1475 => ?_))
        show Rn d _ _ 100 [some (.ref q0), some (.long j1), none, some (.int m3), some (.int m4), none, none, none, none, none] [] h_1475 Q
        refine Rn.n hT 1 (pc' := 101) (L' := [some (.ref q0), some (.long j1), none, some (.int m3), some (.int m4), none, none, none, none, none]) (st' := [.ref q0]) rfl ?_
        refine Rn.hp hT rfl rfl (gR_hp (rp_gR R_1475 (T9_o t0) rfl)) ?_
        obtain ⟨s_1477, e_1476, e⟩ := Option.bind_eq_some_iff.mp e
        refine Rn.call hT rfl rfl rfl (Nat.le_of_ble_eq_true rfl) (rcv_v gX3_look (by omega) (rp_ck R_1475 (T3_o (T9_8 t0)))) (RX3_look (by omega) R_1475 (T9_8 t0) e_1476 (fun h_1477 R_1477 => ?_))
        show Rn d _ _ 107 [some (.ref q0), some (.long j1), none, some (.int m3), some (.int m4), none, none, none, none, none] [] h_1477 Q
        refine Rn.n hT 1 (pc' := 108) (L' := [some (.ref q0), some (.long j1), none, some (.int m3), some (.int m4), none, none, none, none, none]) (st' := [.ref q0]) rfl ?_
        refine Rn.hp hT rfl rfl (gR_hp (rp_gR R_1477 (T9_o t0) rfl)) ?_
        refine Rn.n hT 1 (pc' := 112) (L' := [some (.ref q0), some (.long j1), none, some (.int m3), some (.int m4), none, none, none, none, none]) (st' := [.ref q0, .ref (q0 + 14)]) rfl ?_
        refine Rn.hp hT rfl rfl (gR_hp (rp_gR R_1477 (T9_o t0) rfl)) ?_
        obtain ⟨⟨v_1478, s_1479⟩, e_1478, e⟩ := Option.bind_eq_some_iff.mp e
        try dsimp only at e
        try dsimp only at e
        refine Rn.call hT rfl rfl rfl (Nat.le_of_ble_eq_true rfl) (rcv_v gX3_list (by omega) (rp_ck R_1477 (T3_o (T9_8 t0)))) (RX3_list (by omega) R_1477 (T9_8 t0) (T9_6 t0) e_1478 (fun z_1478 h_1479 p_1478 R_1479 => ?_))
        show Rn d _ _ 118 [some (.ref q0), some (.long j1), none, some (.int m3), some (.int m4), none, none, none, none, none] [.int z_1478] h_1479 Q
        refine Rn.n hT 3 (pc' := 123) (L' := [some (.ref q0), some (.long j1), none, some (.int m3), some (.int m4), some (.int z_1478), some (.int (0 : Int32)), none, none, none]) (st' := []) rfl ?_
        refine Rn.weak (ll_s (ll_s (ll_n (ll_s (ll_s (ll_s (ll_s (ll_n (ll_n (ll_n ll_e)))))))))) (RX9_find_l123 hd t0 p1 p3 p4 p_1478 (fun h_1480 s_1480 R_1480 e => ?_) hq N h_1479 s_1479 R_1479 (0 : Int32) 0 L32_0 e)
        try dsimp only at e
        refine Rn.n hT 2 (pc' := 62) (L' := [some (.ref q0), some (.long j1), none, some (.int m3), some (.int (m4 + (1 : Int32))), none, none, none, none, none]) (st' := []) rfl ?_
        exact Rn.weak (ll_s (ll_s (ll_n (ll_s (ll_s (ll_n (ll_n (ll_n (ll_n (ll_n ll_e)))))))))) (ih h_1480 s_1480 R_1480 (m4 + (1 : Int32)) (w32 (x4 + 1)) (ti_add p4 L32_1) e)
def FX9_find_b238 (N : Nat) (s : iv_M)   : Option (Int × iv_M) := (some ((-2), s))
set_option maxRecDepth 10000 in
set_option maxHeartbeats 4000000 in
theorem RX9_find_b238 {d N nc Ls : Nat} {Xs : Nat → Int32} (hd : 5 ≤ d) {h : iv_H} {s : iv_M} (hR : Rep nc Ls Xs h s)   {r : Int × iv_M} {Q : Option Value → iv_H → Prop} (hq : ∀ (z : Int32) (h1 : iv_H), z.toInt = r.1 → Rep nc Ls Xs h1 r.2 → Q (some (.int z)) h1) (e : FX9_find_b238 N s   = some r) : Rn d 118 (some .int) 238 [none, none, none, none, none, none, none, none, none, none] [] h Q := by
  have hT := hX9_find
  unfold FX9_find_b238 at e
  refine Rn.n hT 1 (pc' := 240) (L' := [none, none, none, none, none, none, none, none, none, none]) (st' := [.int (-2 : Int32)]) rfl ?_
  obtain rfl := Option.some.inj e
  exact Rn.ret hT rfl rfl rfl (hq (-2 : Int32) h L32_m2 hR)
def FX9_find_b25 (N : Nat) (s : iv_M) (q0 : Nat) (y1 : Int) (x3 : Int)  : Option (Int × iv_M) := ((FJ7_fill_53178 N s (q0 + 5) 0).bind fun s_1460 => ((pt s_1460 q0 4 0).bind fun s_1461 => ((FX9_add N s_1461 q0 (s_1461 (q0 + 7) 3) (s_1461 (q0 + 7) 4) (-1) (-1)).bind fun r_1465 => (fun (v_1465 : Int) (s_1466 : iv_M) => (FX9_find_l62 N q0 y1 x3 (fun (s_1467 : iv_M) => (FX9_find_b238 N s_1467)) N s_1466 0)) r_1465.1 r_1465.2)))
set_option maxRecDepth 10000 in
set_option maxHeartbeats 4000000 in
theorem RX9_find_b25 {d N nc Ls : Nat} {Xs : Nat → Int32} (hd : 5 ≤ d) {h : iv_H} {s : iv_M} (hR : Rep nc Ls Xs h s) {q0 : Nat} (t0 : T9 nc q0) {j1 : Int64} {y1 : Int} (p1 : j1.toInt = y1) {m3 : Int32} {x3 : Int} (p3 : m3.toInt = x3)  {r : Int × iv_M} {Q : Option Value → iv_H → Prop} (hq : ∀ (z : Int32) (h1 : iv_H), z.toInt = r.1 → Rep nc Ls Xs h1 r.2 → Q (some (.int z)) h1) (e : FX9_find_b25 N s q0 y1 x3  = some r) : Rn d 118 (some .int) 25 [some (.ref q0), some (.long j1), none, some (.int m3), none, none, none, none, none, none] [] h Q := by
  have hT := hX9_find
  unfold FX9_find_b25 at e
  refine Rn.n hT 1 (pc' := 26) (L' := [some (.ref q0), some (.long j1), none, some (.int m3), none, none, none, none, none, none]) (st' := [.ref q0]) rfl ?_
  refine Rn.hp hT rfl rfl (gR_hp (rp_gR hR (T9_o t0) rfl)) ?_
  refine Rn.n hT 1 (pc' := 30) (L' := [some (.ref q0), some (.long j1), none, some (.int m3), none, none, none, none, none, none]) (st' := [.int (0 : Int32), .ref (q0 + 5)]) rfl ?_
  obtain ⟨s_1460, e_1459, e⟩ := Option.bind_eq_some_iff.mp e
  refine Rn.call hT rfl rfl rfl (Nat.le_of_ble_eq_true rfl) rfl (RJ7_fill_53178 (by omega) hR (T9_5 t0) L32_0 e_1459 (fun h_1460 R_1460 => ?_))
  show Rn d _ _ 33 [some (.ref q0), some (.long j1), none, some (.int m3), none, none, none, none, none, none] [] h_1460 Q
  refine Rn.n hT 2 (pc' := 35) (L' := [some (.ref q0), some (.long j1), none, some (.int m3), none, none, none, none, none, none]) (st' := [.int (0 : Int32), .ref q0]) rfl ?_
  obtain ⟨s_1461, e_1462, e⟩ := Option.bind_eq_some_iff.mp e
  obtain ⟨h_1461, g_1462, R_1461⟩ := rp_pI (ci := 9) (k := 4) R_1460 (T9_o t0) rfl rfl L32_0 e_1462
  refine Rn.hp hT rfl rfl (pV_hp rfl g_1462) ?_
  refine Rn.n hT 2 (pc' := 40) (L' := [some (.ref q0), some (.long j1), none, some (.int m3), none, none, none, none, none, none]) (st' := [.ref q0, .ref q0]) rfl ?_
  refine Rn.hp hT rfl rfl (gR_hp (rp_gR R_1461 (T9_o t0) rfl)) ?_
  obtain ⟨z_1463, g_1463, p_1463⟩ : ∃ z : Int64, gJ h_1461 1 3 (q0 + 7) = some z ∧ z.toInt = s_1461 (q0 + 7) 3 := rp_gJ (k := 3) R_1461 (T1_o (T9_7 t0)) rfl
  refine Rn.hp hT rfl rfl (gJ_hp g_1463) ?_
  refine Rn.n hT 1 (pc' := 47) (L' := [some (.ref q0), some (.long j1), none, some (.int m3), none, none, none, none, none, none]) (st' := [.ref q0, .long z_1463, .ref q0]) rfl ?_
  refine Rn.hp hT rfl rfl (gR_hp (rp_gR R_1461 (T9_o t0) rfl)) ?_
  obtain ⟨z_1464, g_1464, p_1464⟩ : ∃ z : Int32, gI h_1461 1 4 (q0 + 7) = some z ∧ z.toInt = s_1461 (q0 + 7) 4 := rp_gI (k := 4) R_1461 (T1_o (T9_7 t0)) rfl
  refine Rn.hp hT rfl rfl (gI_hp g_1464) ?_
  refine Rn.n hT 2 (pc' := 55) (L' := [some (.ref q0), some (.long j1), none, some (.int m3), none, none, none, none, none, none]) (st' := [.int (-1 : Int32), .int (-1 : Int32), .int z_1464, .long z_1463, .ref q0]) rfl ?_
  obtain ⟨⟨v_1465, s_1466⟩, e_1465, e⟩ := Option.bind_eq_some_iff.mp e
  try dsimp only at e
  try dsimp only at e
  refine Rn.call hT rfl rfl rfl (Nat.le_of_ble_eq_true rfl) (rcv_v gX9_add (by omega) (rp_ck R_1461 (T9_o t0))) (RX9_add (by omega) R_1461 t0 p_1463 p_1464 L32_m1 L32_m1 e_1465 (fun z_1465 h_1466 p_1465 R_1466 => ?_))
  show Rn d _ _ 58 [some (.ref q0), some (.long j1), none, some (.int m3), none, none, none, none, none, none] [.int z_1465] h_1466 Q
  refine Rn.n hT 3 (pc' := 62) (L' := [some (.ref q0), some (.long j1), none, some (.int m3), some (.int (0 : Int32)), none, none, none, none, none]) (st' := []) rfl ?_
  refine Rn.weak (ll_s (ll_s (ll_n (ll_s (ll_s (ll_n (ll_n (ll_n (ll_n (ll_n ll_e)))))))))) (RX9_find_l62 hd t0 p1 p3 (fun h_1467 s_1467 R_1467 e => ?_) hq N h_1466 s_1466 R_1466 (0 : Int32) 0 L32_0 e)
  try dsimp only at e
  exact Rn.weak (ll_n (ll_n (ll_n (ll_n (ll_n (ll_n (ll_n (ll_n (ll_n (ll_n ll_e)))))))))) (RX9_find_b238 hd R_1467 hq e)
def FX9_find (N : Nat) (s : iv_M) (q0 : Nat) (y1 : Int) (x3 : Int) : Option (Int × iv_M) := (if (s (q0 + 7) 3) = y1 then (if (s (q0 + 7) 4) = x3 then (some (0, s)) else (FX9_find_b25 N s q0 y1 x3)) else (FX9_find_b25 N s q0 y1 x3))
set_option maxRecDepth 10000 in
set_option maxHeartbeats 4000000 in
theorem RX9_find {d N nc Ls : Nat} {Xs : Nat → Int32} (hd : 6 ≤ d) {h : iv_H} {s : iv_M} (hR : Rep nc Ls Xs h s) {q0 : Nat} (t0 : T9 nc q0) {j1 : Int64} {y1 : Int} (p1 : j1.toInt = y1) {m3 : Int32} {x3 : Int} (p3 : m3.toInt = x3) {r : Int × iv_M} {Q : Option Value → iv_H → Prop} (e : FX9_find N s q0 y1 x3 = some r) (hq : ∀ (z : Int32) (h1 : iv_H), z.toInt = r.1 → Rep nc Ls Xs h1 r.2 → Q (some (.int z)) h1) : Cl d 118 [.ref q0, .long j1, .int m3] h Q := by
  obtain ⟨d, rfl⟩ : ∃ k, d = k + 1 := ⟨d - 1, by omega⟩
  have hd : 5 ≤ d := by omega
  have hT := hX9_find
  unfold FX9_find at e
  refine Cl.into (by decide) gX9_find rfl ?_
  show Rn d 118 (some .int) 0 [some (.ref q0), some (.long j1), none, some (.int m3), none, none, none, none, none, none] [] h Q
  refine Rn.n hT 1 (pc' := 1) (L' := [some (.ref q0), some (.long j1), none, some (.int m3), none, none, none, none, none, none]) (st' := [.ref q0]) rfl ?_
  refine Rn.hp hT rfl rfl (gR_hp (rp_gR hR (T9_o t0) rfl)) ?_
  obtain ⟨z_1455, g_1455, p_1455⟩ : ∃ z : Int64, gJ h 1 3 (q0 + 7) = some z ∧ z.toInt = s (q0 + 7) 3 := rp_gJ (k := 3) hR (T1_o (T9_7 t0)) rfl
  refine Rn.hp hT rfl rfl (gJ_hp g_1455) ?_
  refine Rn.n hT 2 (pc' := 9) (L' := [some (.ref q0), some (.long j1), none, some (.int m3), none, none, none, none, none, none]) (st' := [.int (lg_cmp z_1455 j1)]) rfl ?_
  by_cases c_1456 : (s (q0 + 7) 3) = y1
  · rw [if_pos c_1456] at e
    refine Rn.bf hT rfl rfl rfl (decide_eq_false (fun z => z ((lc_e p_1455 p1).mpr c_1456))) ?_
    refine Rn.n hT 1 (pc' := 13) (L' := [some (.ref q0), some (.long j1), none, some (.int m3), none, none, none, none, none, none]) (st' := [.ref q0]) rfl ?_
    refine Rn.hp hT rfl rfl (gR_hp (rp_gR hR (T9_o t0) rfl)) ?_
    obtain ⟨z_1457, g_1457, p_1457⟩ : ∃ z : Int32, gI h 1 4 (q0 + 7) = some z ∧ z.toInt = s (q0 + 7) 4 := rp_gI (k := 4) hR (T1_o (T9_7 t0)) rfl
    refine Rn.hp hT rfl rfl (gI_hp g_1457) ?_
    refine Rn.n hT 1 (pc' := 20) (L' := [some (.ref q0), some (.long j1), none, some (.int m3), none, none, none, none, none, none]) (st' := [.int m3, .int z_1457]) rfl ?_
    by_cases c_1458 : (s (q0 + 7) 4) = x3
    · rw [if_pos c_1458] at e
      refine Rn.bf hT rfl rfl rfl (decide_eq_false (fun z => z ((ti_e p_1457 p3).mpr c_1458))) ?_
      refine Rn.n hT 1 (pc' := 24) (L' := [some (.ref q0), some (.long j1), none, some (.int m3), none, none, none, none, none, none]) (st' := [.int (0 : Int32)]) rfl ?_
      obtain rfl := Option.some.inj e
      exact Rn.ret hT rfl rfl rfl (hq (0 : Int32) h L32_0 hR)
    · rw [if_neg c_1458] at e
      refine Rn.bt hT rfl rfl rfl (decide_eq_true (fun z => c_1458 ((ti_e p_1457 p3).mp z))) ?_
      exact Rn.weak (ll_s (ll_s (ll_n (ll_s (ll_n (ll_n (ll_n (ll_n (ll_n (ll_n ll_e)))))))))) (RX9_find_b25 hd hR t0 p1 p3 hq e)
  · rw [if_neg c_1456] at e
    refine Rn.bt hT rfl rfl rfl (decide_eq_true (fun z => c_1456 ((lc_e p_1455 p1).mp z))) ?_
    exact Rn.weak (ll_s (ll_s (ll_n (ll_s (ll_n (ll_n (ll_n (ll_n (ll_n (ll_n ll_e)))))))))) (RX9_find_b25 hd hR t0 p1 p3 hq e)
set_option maxRecDepth 10000 in
theorem hX9_ask : iv_Tb 117 tX9_ask := iv_tb_of (m := mX9_ask) rfl
set_option maxRecDepth 10000 in
theorem gX9_ask : PG.2 117 = some mX9_ask := iv_pi_of (t := tX9_ask) rfl (by decide)
def FX9_ask_b18 (N : Nat) (s : iv_M) (q0 : Nat) (q1 : Nat) (o2 : Int) (x3 : Int) (x4 : Int)  : Option (iv_M) := ((pt s q0 9 x4).bind fun s_1504 => ((pt s_1504 q0 10 x3).bind fun s_1506 => ((FX1_copyFrom N s_1506 (q0 + 7) (q1 + 1)).bind fun s_1509 => ((FX3_open N s_1509 (q0 + 14) q1 (q0 + 7) o2).bind fun s_1511 => ((rd s_1511 (q1 + 14) 4 x3).bind fun v_1512 => ((rd s_1511 (q1 + 15) 4 x3).bind fun v_1513 => ((FX9_find N s_1511 q0 v_1512 v_1513).bind fun r_1514 => (fun (v_1514 : Int) (s_1515 : iv_M) => ((pt s_1515 q0 11 v_1514).bind fun s_1516 => some s_1516)) r_1514.1 r_1514.2)))))))
set_option maxRecDepth 10000 in
set_option maxHeartbeats 4000000 in
theorem RX9_ask_b18 {d N nc Ls : Nat} {Xs : Nat → Int32} (hd : 6 ≤ d) {h : iv_H} {s : iv_M} (hR : Rep nc Ls Xs h s) {q0 : Nat} (t0 : T9 nc q0) {q1 : Nat} (t1 : T2 nc q1) {o2 : Int} (t2 : (o2 < 0 ∨ TR nc (o2).toNat)) {m3 : Int32} {x3 : Int} (p3 : m3.toInt = x3) {m4 : Int32} {x4 : Int} (p4 : m4.toInt = x4)  {r : iv_M} {Q : Option Value → iv_H → Prop} (hq : ∀ h1, Rep nc Ls Xs h1 r → Q none h1) (e : FX9_ask_b18 N s q0 q1 o2 x3 x4  = some r) : Rn d 117 none 18 [some (.ref q0), some (.ref q1), some (iv_rf (rvo o2)), some (.int m3), some (.int m4)] [] h Q := by
  have hT := hX9_ask
  unfold FX9_ask_b18 at e
  refine Rn.n hT 2 (pc' := 21) (L' := [some (.ref q0), some (.ref q1), some (iv_rf (rvo o2)), some (.int m3), some (.int m4)]) (st' := [.int m4, .ref q0]) rfl ?_
  obtain ⟨s_1504, e_1505, e⟩ := Option.bind_eq_some_iff.mp e
  obtain ⟨h_1504, g_1505, R_1504⟩ := rp_pI (ci := 9) (k := 9) hR (T9_o t0) rfl rfl p4 e_1505
  refine Rn.hp hT rfl rfl (pV_hp rfl g_1505) ?_
  refine Rn.n hT 2 (pc' := 26) (L' := [some (.ref q0), some (.ref q1), some (iv_rf (rvo o2)), some (.int m3), some (.int m4)]) (st' := [.int m3, .ref q0]) rfl ?_
  obtain ⟨s_1506, e_1507, e⟩ := Option.bind_eq_some_iff.mp e
  obtain ⟨h_1506, g_1507, R_1506⟩ := rp_pI (ci := 9) (k := 10) R_1504 (T9_o t0) rfl rfl p3 e_1507
  refine Rn.hp hT rfl rfl (pV_hp rfl g_1507) ?_
  refine Rn.n hT 1 (pc' := 30) (L' := [some (.ref q0), some (.ref q1), some (iv_rf (rvo o2)), some (.int m3), some (.int m4)]) (st' := [.ref q0]) rfl ?_
  refine Rn.hp hT rfl rfl (gR_hp (rp_gR R_1506 (T9_o t0) rfl)) ?_
  refine Rn.n hT 1 (pc' := 34) (L' := [some (.ref q0), some (.ref q1), some (iv_rf (rvo o2)), some (.int m3), some (.int m4)]) (st' := [.ref q1, .ref (q0 + 7)]) rfl ?_
  refine Rn.hp hT rfl rfl (gR_hp (rp_gR R_1506 (T2_o t1) rfl)) ?_
  obtain ⟨s_1509, e_1508, e⟩ := Option.bind_eq_some_iff.mp e
  refine Rn.call hT rfl rfl rfl (Nat.le_of_ble_eq_true rfl) (rcv_v gX1_copyFrom (by omega) (rp_ck R_1506 (T1_o (T9_7 t0)))) (RX1_copyFrom (by omega) R_1506 (T9_7 t0) (T2_9 t1) e_1508 (fun h_1509 R_1509 => ?_))
  show Rn d _ _ 40 [some (.ref q0), some (.ref q1), some (iv_rf (rvo o2)), some (.int m3), some (.int m4)] [] h_1509 Q
  refine Rn.n hT 1 (pc' := 41) (L' := [some (.ref q0), some (.ref q1), some (iv_rf (rvo o2)), some (.int m3), some (.int m4)]) (st' := [.ref q0]) rfl ?_
  refine Rn.hp hT rfl rfl (gR_hp (rp_gR R_1509 (T9_o t0) rfl)) ?_
  refine Rn.n hT 2 (pc' := 46) (L' := [some (.ref q0), some (.ref q1), some (iv_rf (rvo o2)), some (.int m3), some (.int m4)]) (st' := [.ref q0, .ref q1, .ref (q0 + 14)]) rfl ?_
  refine Rn.hp hT rfl rfl (gR_hp (rp_gR R_1509 (T9_o t0) rfl)) ?_
  refine Rn.lo hT rfl rfl (L' := [some (.ref q0), some (.ref q1), some (iv_rf (rvo o2)), some (.int m3), some (.int m4)]) (st' := [iv_rf (rvo o2), .ref (q0 + 7), .ref q1, .ref (q0 + 14)]) (ldN (o := (rvo o2)) rfl) ?_
  obtain ⟨s_1511, e_1510, e⟩ := Option.bind_eq_some_iff.mp e
  refine Rn.call hT rfl rfl rfl (Nat.le_of_ble_eq_true rfl) (rcv_v gX3_open (by omega) (rp_ck R_1509 (T3_o (T9_8 t0)))) (RX3_open (by omega) R_1509 (T9_8 t0) t1 (T9_7 t0) t2 e_1510 (fun h_1511 R_1511 => ?_))
  show Rn d _ _ 53 [some (.ref q0), some (.ref q1), some (iv_rf (rvo o2)), some (.int m3), some (.int m4)] [] h_1511 Q
  refine Rn.n hT 3 (pc' := 56) (L' := [some (.ref q0), some (.ref q1), some (iv_rf (rvo o2)), some (.int m3), some (.int m4)]) (st' := [.ref q1, .ref q0, .ref q0]) rfl ?_
  refine Rn.hp hT rfl rfl (gR_hp (rp_gR R_1511 (T2_o t1) rfl)) ?_
  refine Rn.n hT 1 (pc' := 60) (L' := [some (.ref q0), some (.ref q1), some (iv_rf (rvo o2)), some (.int m3), some (.int m4)]) (st' := [.int m3, .ref (q1 + 14), .ref q0, .ref q0]) rfl ?_
  obtain ⟨v_1512, e_1512, e⟩ := Option.bind_eq_some_iff.mp e
  obtain ⟨z_1512, g_1512, p_1512⟩ := rp_aJ R_1511 (T2_14 t1) (T2_14l t1) p3 e_1512
  refine Rn.hp hT rfl rfl (aJ_hp g_1512) ?_
  refine Rn.n hT 1 (pc' := 62) (L' := [some (.ref q0), some (.ref q1), some (iv_rf (rvo o2)), some (.int m3), some (.int m4)]) (st' := [.ref q1, .long z_1512, .ref q0, .ref q0]) rfl ?_
  refine Rn.hp hT rfl rfl (gR_hp (rp_gR R_1511 (T2_o t1) rfl)) ?_
  refine Rn.n hT 1 (pc' := 66) (L' := [some (.ref q0), some (.ref q1), some (iv_rf (rvo o2)), some (.int m3), some (.int m4)]) (st' := [.int m3, .ref (q1 + 15), .long z_1512, .ref q0, .ref q0]) rfl ?_
  obtain ⟨v_1513, e_1513, e⟩ := Option.bind_eq_some_iff.mp e
  obtain ⟨z_1513, g_1513, p_1513⟩ := rp_aI R_1511 (T2_15 t1) (T2_15l t1) p3 e_1513
  refine Rn.hp hT rfl rfl (aI_hp g_1513) ?_
  obtain ⟨⟨v_1514, s_1515⟩, e_1514, e⟩ := Option.bind_eq_some_iff.mp e
  try dsimp only at e
  try dsimp only at e
  refine Rn.call hT rfl rfl rfl (Nat.le_of_ble_eq_true rfl) (rcv_v gX9_find (by omega) (rp_ck R_1511 (T9_o t0))) (RX9_find (by omega) R_1511 t0 p_1512 p_1513 e_1514 (fun z_1514 h_1515 p_1514 R_1515 => ?_))
  show Rn d _ _ 70 [some (.ref q0), some (.ref q1), some (iv_rf (rvo o2)), some (.int m3), some (.int m4)] [.int z_1514, .ref q0] h_1515 Q
  obtain ⟨s_1516, e_1517, e⟩ := Option.bind_eq_some_iff.mp e
  obtain ⟨h_1516, g_1517, R_1516⟩ := rp_pI (ci := 9) (k := 11) R_1515 (T9_o t0) rfl rfl p_1514 e_1517
  refine Rn.hp hT rfl rfl (pV_hp rfl g_1517) ?_
  obtain rfl := Option.some.inj e
  exact Rn.ret hT rfl rfl rfl (hq h_1516 R_1516)
def FX9_ask (N : Nat) (s : iv_M) (q0 : Nat) (q1 : Nat) (o2 : Int) (x3 : Int) (x4 : Int) : Option (iv_M) := (if (s q0 9) = x4 then (if (s q0 10) = x3 then some s else (FX9_ask_b18 N s q0 q1 o2 x3 x4)) else (FX9_ask_b18 N s q0 q1 o2 x3 x4))
set_option maxRecDepth 10000 in
set_option maxHeartbeats 4000000 in
theorem RX9_ask {d N nc Ls : Nat} {Xs : Nat → Int32} (hd : 7 ≤ d) {h : iv_H} {s : iv_M} (hR : Rep nc Ls Xs h s) {q0 : Nat} (t0 : T9 nc q0) {q1 : Nat} (t1 : T2 nc q1) {o2 : Int} (t2 : (o2 < 0 ∨ TR nc (o2).toNat)) {m3 : Int32} {x3 : Int} (p3 : m3.toInt = x3) {m4 : Int32} {x4 : Int} (p4 : m4.toInt = x4) {r : iv_M} {Q : Option Value → iv_H → Prop} (e : FX9_ask N s q0 q1 o2 x3 x4 = some r) (hq : ∀ h1, Rep nc Ls Xs h1 r → Q none h1) : Cl d 117 [.ref q0, .ref q1, iv_rf (rvo o2), .int m3, .int m4] h Q := by
  obtain ⟨d, rfl⟩ : ∃ k, d = k + 1 := ⟨d - 1, by omega⟩
  have hd : 6 ≤ d := by omega
  have hT := hX9_ask
  unfold FX9_ask at e
  have he : iv_ent 5 [.ref q0, .ref q1, iv_rf (rvo o2), .int m3, .int m4] = [some (.ref q0), some (.ref q1), some (iv_rf (rvo o2)), some (.int m3), some (.int m4)] := by cases rvo o2 <;> rfl
  refine Cl.into (by decide) gX9_ask (by rw [he]; rfl) ?_
  rw [he]
  refine Rn.n hT 1 (pc' := 1) (L' := [some (.ref q0), some (.ref q1), some (iv_rf (rvo o2)), some (.int m3), some (.int m4)]) (st' := [.ref q0]) rfl ?_
  obtain ⟨z_1500, g_1500, p_1500⟩ : ∃ z : Int32, gI h 9 9 q0 = some z ∧ z.toInt = s q0 9 := rp_gI (k := 9) hR (T9_o t0) rfl
  refine Rn.hp hT rfl rfl (gI_hp g_1500) ?_
  refine Rn.n hT 1 (pc' := 6) (L' := [some (.ref q0), some (.ref q1), some (iv_rf (rvo o2)), some (.int m3), some (.int m4)]) (st' := [.int m4, .int z_1500]) rfl ?_
  by_cases c_1501 : (s q0 9) = x4
  · rw [if_pos c_1501] at e
    refine Rn.bf hT rfl rfl rfl (decide_eq_false (fun z => z ((ti_e p_1500 p4).mpr c_1501))) ?_
    refine Rn.n hT 1 (pc' := 10) (L' := [some (.ref q0), some (.ref q1), some (iv_rf (rvo o2)), some (.int m3), some (.int m4)]) (st' := [.ref q0]) rfl ?_
    obtain ⟨z_1502, g_1502, p_1502⟩ : ∃ z : Int32, gI h 9 10 q0 = some z ∧ z.toInt = s q0 10 := rp_gI (k := 10) hR (T9_o t0) rfl
    refine Rn.hp hT rfl rfl (gI_hp g_1502) ?_
    refine Rn.n hT 1 (pc' := 14) (L' := [some (.ref q0), some (.ref q1), some (iv_rf (rvo o2)), some (.int m3), some (.int m4)]) (st' := [.int m3, .int z_1502]) rfl ?_
    by_cases c_1503 : (s q0 10) = x3
    · rw [if_pos c_1503] at e
      refine Rn.bf hT rfl rfl rfl (decide_eq_false (fun z => z ((ti_e p_1502 p3).mpr c_1503))) ?_
      obtain rfl := Option.some.inj e
      exact Rn.ret hT rfl rfl rfl (hq h hR)
    · rw [if_neg c_1503] at e
      refine Rn.bt hT rfl rfl rfl (decide_eq_true (fun z => c_1503 ((ti_e p_1502 p3).mp z))) ?_
      exact Rn.weak (ll_s (ll_s (ll_s (ll_s (ll_s ll_e))))) (RX9_ask_b18 hd hR t0 t1 t2 p3 p4 hq e)
  · rw [if_neg c_1501] at e
    refine Rn.bt hT rfl rfl rfl (decide_eq_true (fun z => c_1501 ((ti_e p_1500 p4).mp z))) ?_
    exact Rn.weak (ll_s (ll_s (ll_s (ll_s (ll_s ll_e))))) (RX9_ask_b18 hd hR t0 t1 t2 p3 p4 hq e)
set_option maxRecDepth 10000 in
theorem hX9_emptyCell : iv_Tb 123 tX9_emptyCell := iv_tb_of (m := mX9_emptyCell) rfl
set_option maxRecDepth 10000 in
theorem gX9_emptyCell : PG.2 123 = some mX9_emptyCell := iv_pi_of (t := tX9_emptyCell) rfl (by decide)
def FX9_emptyCell_l2 (N : Nat) (s : iv_M) (q0 : Nat) (kx : Unit → Option (Int)) : Nat → Int → Option (Int)
  | 0, _ => none
  | n + 1, x1 => (if 16 ≤ x1 then (kx ()) else ((FX1_isEmptyCell N s q0 x1).bind fun v_1520 => (if v_1520 = 0 then (FX9_emptyCell_l2 N s q0 kx n (w32 (x1 + 1))) else (some x1))))
set_option maxRecDepth 10000 in
set_option maxHeartbeats 4000000 in
theorem RX9_emptyCell_l2 {d N nc Ls : Nat} {Xs : Nat → Int32} (hd : 1 ≤ d) {h : iv_H} {s : iv_M} (hR : Rep nc Ls Xs h s) {q0 : Nat} (t0 : T1 nc q0) {kx : Unit → Option (Int)} {r : Int} {Q : Option Value → iv_H → Prop} (hk : ∀ (u : Unit), kx u = some r → Rn d 123 (some .int) 24 [none, none] [] h Q) (hq : ∀ (z : Int32), z.toInt = r → Q (some (.int z)) h) : ∀ (n : Nat) (m1 : Int32) (x1 : Int) (p1 : m1.toInt = x1), FX9_emptyCell_l2 N s q0 kx n x1 = some r → Rn d 123 (some .int) 2 [some (.ref q0), some (.int m1)] [] h Q := by
  have hT := hX9_emptyCell
  intro n
  induction n with
  | zero =>
    intro m1 x1 p1 e
    rw [FX9_emptyCell_l2] at e
    cases e
  | succ n ih =>
    intro m1 x1 p1 e
    rw [FX9_emptyCell_l2] at e
    refine Rn.n hT 2 (pc' := 5) (L' := [some (.ref q0), some (.int m1)]) (st' := [.int (16 : Int32), .int m1]) rfl ?_
    by_cases c_1519 : 16 ≤ x1
    · rw [if_pos c_1519] at e
      refine Rn.bt hT rfl rfl rfl (decide_eq_true ((ti_le L32_16 p1).mpr c_1519)) ?_
      exact Rn.weak (ll_n (ll_n ll_e)) (hk () e)
    · rw [if_neg c_1519] at e
      refine Rn.bf hT rfl rfl rfl (decide_eq_false (fun z => c_1519 ((ti_le L32_16 p1).mp z))) ?_
      refine Rn.n hT 2 (pc' := 10) (L' := [some (.ref q0), some (.int m1)]) (st' := [.int m1, .ref q0]) rfl ?_
      obtain ⟨v_1520, e_1520, e⟩ := Option.bind_eq_some_iff.mp e
      refine Rn.call hT rfl rfl rfl (Nat.le_of_ble_eq_true rfl) (rcv_v gX1_isEmptyCell (by omega) (rp_ck hR (T1_o t0))) (RX1_isEmptyCell (by omega) hR t0 p1 e_1520 (fun z_1520 p_1520 => ?_))
      show Rn d _ _ 13 [some (.ref q0), some (.int m1)] [.int z_1520] h Q
      by_cases c_1521 : v_1520 = 0
      · rw [if_pos c_1521] at e
        refine Rn.bt hT rfl rfl rfl (decide_eq_true ((ti_e p_1520 L32_0).mpr c_1521)) ?_
        refine Rn.n hT 2 (pc' := 2) (L' := [some (.ref q0), some (.int (m1 + (1 : Int32)))]) (st' := []) rfl ?_
        exact Rn.weak (ll_s (ll_s ll_e)) (ih (m1 + (1 : Int32)) (w32 (x1 + 1)) (ti_add p1 L32_1) e)
      · rw [if_neg c_1521] at e
        refine Rn.bf hT rfl rfl rfl (decide_eq_false (fun z => c_1521 ((ti_e p_1520 L32_0).mp z))) ?_
        refine Rn.n hT 1 (pc' := 17) (L' := [some (.ref q0), some (.int m1)]) (st' := [.int m1]) rfl ?_
        obtain rfl := Option.some.inj e
        exact Rn.ret hT rfl rfl rfl (hq m1 p1)
def FX9_emptyCell (N : Nat) (s : iv_M) (q0 : Nat) : Option (Int) := (FX9_emptyCell_l2 N s q0 (fun (_ : Unit) => (some 0)) N 0)
set_option maxRecDepth 10000 in
set_option maxHeartbeats 4000000 in
theorem RX9_emptyCell {d N nc Ls : Nat} {Xs : Nat → Int32} (hd : 2 ≤ d) {h : iv_H} {s : iv_M} (hR : Rep nc Ls Xs h s) {q0 : Nat} (t0 : T1 nc q0) {r : Int} {Q : Option Value → iv_H → Prop} (e : FX9_emptyCell N s q0 = some r) (hq : ∀ (z : Int32), z.toInt = r → Q (some (.int z)) h) : Cl d 123 [.ref q0] h Q := by
  obtain ⟨d, rfl⟩ : ∃ k, d = k + 1 := ⟨d - 1, by omega⟩
  have hd : 1 ≤ d := by omega
  have hT := hX9_emptyCell
  unfold FX9_emptyCell at e
  refine Cl.into (by decide) gX9_emptyCell rfl ?_
  show Rn d 123 (some .int) 0 [some (.ref q0), none] [] h Q
  refine Rn.n hT 2 (pc' := 2) (L' := [some (.ref q0), some (.int (0 : Int32))]) (st' := []) rfl ?_
  refine Rn.weak (ll_s (ll_s ll_e)) (RX9_emptyCell_l2 hd hR t0 (fun _ e => ?_) hq N (0 : Int32) 0 L32_0 e)
  try dsimp only at e
  refine Rn.n hT 1 (pc' := 25) (L' := [none, none]) (st' := [.int (0 : Int32)]) rfl ?_
  obtain rfl := Option.some.inj e
  exact Rn.ret hT rfl rfl rfl (hq (0 : Int32) L32_0)
set_option maxRecDepth 10000 in
theorem hX9_isOdd : iv_Tb 122 tX9_isOdd := iv_tb_of (m := mX9_isOdd) rfl
set_option maxRecDepth 10000 in
theorem gX9_isOdd : PG.2 122 = some mX9_isOdd := iv_pi_of (t := tX9_isOdd) rfl (by decide)
def FX9_isOdd_b209 (N : Nat) (s : iv_M) (q0 : Nat) (q1 : Nat) (x3 : Int) (x4 : Int) (x6 : Int) (x7 : Int) (x8 : Int) (x9 : Int) (x10 : Int) (xs0 : Int) (xs1 : Int) (kb : iv_M → Int → Int → Option (Int × iv_M)) (kx : iv_M → Int → Option (Int × iv_M)) : Option (Int × iv_M) := (kb s (w32 (xs1 + xs0)) (w32 (x10 + 1)))
set_option maxRecDepth 10000 in
set_option maxHeartbeats 4000000 in
theorem RX9_isOdd_b209 {d N nc Ls : Nat} {Xs : Nat → Int32} (hd : 4 ≤ d) {h : iv_H} {s : iv_M} (hR : Rep nc Ls Xs h s) {q0 : Nat} (t0 : T9 nc q0) {q1 : Nat} (t1 : T2 nc q1) {m3 : Int32} {x3 : Int} (p3 : m3.toInt = x3) {m4 : Int32} {x4 : Int} (p4 : m4.toInt = x4) {m6 : Int32} {x6 : Int} (p6 : m6.toInt = x6) {m7 : Int32} {x7 : Int} (p7 : m7.toInt = x7) {m8 : Int32} {x8 : Int} (p8 : m8.toInt = x8) {m9 : Int32} {x9 : Int} (p9 : m9.toInt = x9) {m10 : Int32} {x10 : Int} (p10 : m10.toInt = x10) {ms0 : Int32} {xs0 : Int} (ps0 : ms0.toInt = xs0) {ms1 : Int32} {xs1 : Int} (ps1 : ms1.toInt = xs1) {kb : iv_M → Int → Int → Option (Int × iv_M)} {kx : iv_M → Int → Option (Int × iv_M)} {r : Int × iv_M} {Q : Option Value → iv_H → Prop} (hb : ∀ (h : iv_H) (s : iv_M) (hR : Rep nc Ls Xs h s) (mw5 : Int32) (xw5 : Int) (pw5 : mw5.toInt = xw5) (mw10 : Int32) (xw10 : Int) (pw10 : mw10.toInt = xw10), kb s xw5 xw10 = some r → Rn d 122 (some .boolean) 148 [some (.ref q0), some (.ref q1), none, some (.int m3), some (.int m4), some (.int mw5), some (.int m6), some (.int m7), some (.int m8), some (.int m9), some (.int mw10), none] [] h Q) (hk : ∀ (h : iv_H) (s : iv_M) (hR : Rep nc Ls Xs h s) (mw5 : Int32) (xw5 : Int) (pw5 : mw5.toInt = xw5), kx s xw5 = some r → Rn d 122 (some .boolean) 218 [some (.ref q0), some (.ref q1), none, some (.int m3), some (.int m4), some (.int mw5), some (.int m6), some (.int m7), none, none, none, none] [] h Q) (hq : ∀ (z : Int32) (h1 : iv_H), z.toInt = r.1 → Rep nc Ls Xs h1 r.2 → Q (some (.int z)) h1) (e : FX9_isOdd_b209 N s q0 q1 x3 x4 x6 x7 x8 x9 x10 xs0 xs1 kb kx = some r) : Rn d 122 (some .boolean) 209 [some (.ref q0), some (.ref q1), none, some (.int m3), some (.int m4), none, some (.int m6), some (.int m7), some (.int m8), some (.int m9), some (.int m10), none] [.int ms0, .int ms1] h Q := by
  have hT := hX9_isOdd
  unfold FX9_isOdd_b209 at e
  refine Rn.n hT 4 (pc' := 148) (L' := [some (.ref q0), some (.ref q1), none, some (.int m3), some (.int m4), some (.int (ms1 + ms0)), some (.int m6), some (.int m7), some (.int m8), some (.int m9), some (.int (m10 + (1 : Int32))), none]) (st' := []) rfl ?_
  exact Rn.weak (ll_s (ll_s (ll_n (ll_s (ll_s (ll_s (ll_s (ll_s (ll_s (ll_s (ll_s (ll_n ll_e)))))))))))) (hb h s hR (ms1 + ms0) (w32 (xs1 + xs0)) (ti_add ps1 ps0) (m10 + (1 : Int32)) (w32 (x10 + 1)) (ti_add p10 L32_1) e)
def FX9_isOdd_b201 (N : Nat) (s : iv_M) (q0 : Nat) (q1 : Nat) (x3 : Int) (x4 : Int) (x6 : Int) (x7 : Int) (x8 : Int) (x9 : Int) (x10 : Int) (xs0 : Int) (xs1 : Int) (xs2 : Int) (kb : iv_M → Int → Int → Option (Int × iv_M)) (kx : iv_M → Int → Option (Int × iv_M)) : Option (Int × iv_M) := (if xs1 = xs0 then (FX9_isOdd_b209 N s q0 q1 x3 x4 x6 x7 x8 x9 x10 0 xs2 kb kx) else (FX9_isOdd_b209 N s q0 q1 x3 x4 x6 x7 x8 x9 x10 1 xs2 kb kx))
set_option maxRecDepth 10000 in
set_option maxHeartbeats 4000000 in
theorem RX9_isOdd_b201 {d N nc Ls : Nat} {Xs : Nat → Int32} (hd : 4 ≤ d) {h : iv_H} {s : iv_M} (hR : Rep nc Ls Xs h s) {q0 : Nat} (t0 : T9 nc q0) {q1 : Nat} (t1 : T2 nc q1) {m3 : Int32} {x3 : Int} (p3 : m3.toInt = x3) {m4 : Int32} {x4 : Int} (p4 : m4.toInt = x4) {m6 : Int32} {x6 : Int} (p6 : m6.toInt = x6) {m7 : Int32} {x7 : Int} (p7 : m7.toInt = x7) {m8 : Int32} {x8 : Int} (p8 : m8.toInt = x8) {m9 : Int32} {x9 : Int} (p9 : m9.toInt = x9) {m10 : Int32} {x10 : Int} (p10 : m10.toInt = x10) {ms0 : Int32} {xs0 : Int} (ps0 : ms0.toInt = xs0) {ms1 : Int32} {xs1 : Int} (ps1 : ms1.toInt = xs1) {ms2 : Int32} {xs2 : Int} (ps2 : ms2.toInt = xs2) {kb : iv_M → Int → Int → Option (Int × iv_M)} {kx : iv_M → Int → Option (Int × iv_M)} {r : Int × iv_M} {Q : Option Value → iv_H → Prop} (hb : ∀ (h : iv_H) (s : iv_M) (hR : Rep nc Ls Xs h s) (mw5 : Int32) (xw5 : Int) (pw5 : mw5.toInt = xw5) (mw10 : Int32) (xw10 : Int) (pw10 : mw10.toInt = xw10), kb s xw5 xw10 = some r → Rn d 122 (some .boolean) 148 [some (.ref q0), some (.ref q1), none, some (.int m3), some (.int m4), some (.int mw5), some (.int m6), some (.int m7), some (.int m8), some (.int m9), some (.int mw10), none] [] h Q) (hk : ∀ (h : iv_H) (s : iv_M) (hR : Rep nc Ls Xs h s) (mw5 : Int32) (xw5 : Int) (pw5 : mw5.toInt = xw5), kx s xw5 = some r → Rn d 122 (some .boolean) 218 [some (.ref q0), some (.ref q1), none, some (.int m3), some (.int m4), some (.int mw5), some (.int m6), some (.int m7), none, none, none, none] [] h Q) (hq : ∀ (z : Int32) (h1 : iv_H), z.toInt = r.1 → Rep nc Ls Xs h1 r.2 → Q (some (.int z)) h1) (e : FX9_isOdd_b201 N s q0 q1 x3 x4 x6 x7 x8 x9 x10 xs0 xs1 xs2 kb kx = some r) : Rn d 122 (some .boolean) 201 [some (.ref q0), some (.ref q1), none, some (.int m3), some (.int m4), none, some (.int m6), some (.int m7), some (.int m8), some (.int m9), some (.int m10), none] [.int ms0, .int ms1, .int ms2] h Q := by
  have hT := hX9_isOdd
  unfold FX9_isOdd_b201 at e
  by_cases c_1547 : xs1 = xs0
  · rw [if_pos c_1547] at e
    refine Rn.bt hT rfl rfl rfl (decide_eq_true ((ti_e ps1 ps0).mpr c_1547)) ?_
    refine Rn.n hT 1 (pc' := 209) (L' := [some (.ref q0), some (.ref q1), none, some (.int m3), some (.int m4), none, some (.int m6), some (.int m7), some (.int m8), some (.int m9), some (.int m10), none]) (st' := [.int (0 : Int32), .int ms2]) rfl ?_
    exact Rn.weak (ll_s (ll_s (ll_n (ll_s (ll_s (ll_n (ll_s (ll_s (ll_s (ll_s (ll_s (ll_n ll_e)))))))))))) (RX9_isOdd_b209 hd hR t0 t1 p3 p4 p6 p7 p8 p9 p10 L32_0 ps2 hb hk hq e)
  · rw [if_neg c_1547] at e
    refine Rn.bf hT rfl rfl rfl (decide_eq_false (fun z => c_1547 ((ti_e ps1 ps0).mp z))) ?_
    refine Rn.n hT 2 (pc' := 209) (L' := [some (.ref q0), some (.ref q1), none, some (.int m3), some (.int m4), none, some (.int m6), some (.int m7), some (.int m8), some (.int m9), some (.int m10), none]) (st' := [.int (1 : Int32), .int ms2]) rfl ?_
    exact Rn.weak (ll_s (ll_s (ll_n (ll_s (ll_s (ll_n (ll_s (ll_s (ll_s (ll_s (ll_s (ll_n ll_e)))))))))))) (RX9_isOdd_b209 hd hR t0 t1 p3 p4 p6 p7 p8 p9 p10 L32_1 ps2 hb hk hq e)
def FX9_isOdd_b175 (N : Nat) (s : iv_M) (q0 : Nat) (q1 : Nat) (x3 : Int) (x4 : Int) (x5 : Int) (x6 : Int) (x7 : Int) (x8 : Int) (x9 : Int) (x10 : Int) (xs0 : Int) (kb : iv_M → Int → Int → Option (Int × iv_M)) (kx : iv_M → Int → Option (Int × iv_M)) : Option (Int × iv_M) := ((rd s ((q0 + 7) + 1) 12 x10).bind fun v_1545 => (if v_1545 ≤ x9 then (FX9_isOdd_b201 N s q0 q1 x3 x4 x6 x7 x8 x9 x10 0 xs0 x5 kb kx) else (FX9_isOdd_b201 N s q0 q1 x3 x4 x6 x7 x8 x9 x10 1 xs0 x5 kb kx)))
set_option maxRecDepth 10000 in
set_option maxHeartbeats 4000000 in
theorem RX9_isOdd_b175 {d N nc Ls : Nat} {Xs : Nat → Int32} (hd : 4 ≤ d) {h : iv_H} {s : iv_M} (hR : Rep nc Ls Xs h s) {q0 : Nat} (t0 : T9 nc q0) {q1 : Nat} (t1 : T2 nc q1) {m3 : Int32} {x3 : Int} (p3 : m3.toInt = x3) {m4 : Int32} {x4 : Int} (p4 : m4.toInt = x4) {m5 : Int32} {x5 : Int} (p5 : m5.toInt = x5) {m6 : Int32} {x6 : Int} (p6 : m6.toInt = x6) {m7 : Int32} {x7 : Int} (p7 : m7.toInt = x7) {m8 : Int32} {x8 : Int} (p8 : m8.toInt = x8) {m9 : Int32} {x9 : Int} (p9 : m9.toInt = x9) {m10 : Int32} {x10 : Int} (p10 : m10.toInt = x10) {ms0 : Int32} {xs0 : Int} (ps0 : ms0.toInt = xs0) {kb : iv_M → Int → Int → Option (Int × iv_M)} {kx : iv_M → Int → Option (Int × iv_M)} {r : Int × iv_M} {Q : Option Value → iv_H → Prop} (hb : ∀ (h : iv_H) (s : iv_M) (hR : Rep nc Ls Xs h s) (mw5 : Int32) (xw5 : Int) (pw5 : mw5.toInt = xw5) (mw10 : Int32) (xw10 : Int) (pw10 : mw10.toInt = xw10), kb s xw5 xw10 = some r → Rn d 122 (some .boolean) 148 [some (.ref q0), some (.ref q1), none, some (.int m3), some (.int m4), some (.int mw5), some (.int m6), some (.int m7), some (.int m8), some (.int m9), some (.int mw10), none] [] h Q) (hk : ∀ (h : iv_H) (s : iv_M) (hR : Rep nc Ls Xs h s) (mw5 : Int32) (xw5 : Int) (pw5 : mw5.toInt = xw5), kx s xw5 = some r → Rn d 122 (some .boolean) 218 [some (.ref q0), some (.ref q1), none, some (.int m3), some (.int m4), some (.int mw5), some (.int m6), some (.int m7), none, none, none, none] [] h Q) (hq : ∀ (z : Int32) (h1 : iv_H), z.toInt = r.1 → Rep nc Ls Xs h1 r.2 → Q (some (.int z)) h1) (e : FX9_isOdd_b175 N s q0 q1 x3 x4 x5 x6 x7 x8 x9 x10 xs0 kb kx = some r) : Rn d 122 (some .boolean) 175 [some (.ref q0), some (.ref q1), none, some (.int m3), some (.int m4), some (.int m5), some (.int m6), some (.int m7), some (.int m8), some (.int m9), some (.int m10), none] [.int ms0] h Q := by
  have hT := hX9_isOdd
  unfold FX9_isOdd_b175 at e
  refine Rn.n hT 5 (pc' := 184) (L' := [some (.ref q0), some (.ref q1), none, some (.int m3), some (.int m4), some (.int m5), some (.int m6), some (.int m7), some (.int m8), some (.int m9), some (.int m10), some (.int ms0)]) (st' := [.ref q0, .int m9, .int ms0, .int m5]) rfl ?_
  refine Rn.hp hT rfl rfl (gR_hp (rp_gR hR (T9_o t0) rfl)) ?_
  refine Rn.hp hT rfl rfl (gR_hp (rp_gR hR (T1_o (T9_7 t0)) rfl)) ?_
  refine Rn.n hT 1 (pc' := 192) (L' := [some (.ref q0), some (.ref q1), none, some (.int m3), some (.int m4), some (.int m5), some (.int m6), some (.int m7), some (.int m8), some (.int m9), some (.int m10), some (.int ms0)]) (st' := [.int m10, .ref ((q0 + 7) + 1), .int m9, .int ms0, .int m5]) rfl ?_
  obtain ⟨v_1545, e_1545, e⟩ := Option.bind_eq_some_iff.mp e
  obtain ⟨z_1545, g_1545, p_1545⟩ := rp_aI hR (T1_5 (T9_7 t0)) (T1_5l (T9_7 t0)) p10 e_1545
  refine Rn.hp hT rfl rfl (aI_hp g_1545) ?_
  by_cases c_1546 : v_1545 ≤ x9
  · rw [if_pos c_1546] at e
    refine Rn.bt hT rfl rfl rfl (decide_eq_true ((ti_le p_1545 p9).mpr c_1546)) ?_
    refine Rn.n hT 1 (pc' := 201) (L' := [some (.ref q0), some (.ref q1), none, some (.int m3), some (.int m4), some (.int m5), some (.int m6), some (.int m7), some (.int m8), some (.int m9), some (.int m10), some (.int ms0)]) (st' := [.int (0 : Int32), .int ms0, .int m5]) rfl ?_
    exact Rn.weak (ll_s (ll_s (ll_n (ll_s (ll_s (ll_n (ll_s (ll_s (ll_s (ll_s (ll_s (ll_n ll_e)))))))))))) (RX9_isOdd_b201 hd hR t0 t1 p3 p4 p6 p7 p8 p9 p10 L32_0 ps0 p5 hb hk hq e)
  · rw [if_neg c_1546] at e
    refine Rn.bf hT rfl rfl rfl (decide_eq_false (fun z => c_1546 ((ti_le p_1545 p9).mp z))) ?_
    refine Rn.n hT 2 (pc' := 201) (L' := [some (.ref q0), some (.ref q1), none, some (.int m3), some (.int m4), some (.int m5), some (.int m6), some (.int m7), some (.int m8), some (.int m9), some (.int m10), some (.int ms0)]) (st' := [.int (1 : Int32), .int ms0, .int m5]) rfl ?_
    exact Rn.weak (ll_s (ll_s (ll_n (ll_s (ll_s (ll_n (ll_s (ll_s (ll_s (ll_s (ll_s (ll_n ll_e)))))))))))) (RX9_isOdd_b201 hd hR t0 t1 p3 p4 p6 p7 p8 p9 p10 L32_1 ps0 p5 hb hk hq e)
def FX9_isOdd_l148 (N : Nat) (q0 : Nat) (q1 : Nat) (x3 : Int) (x4 : Int) (x6 : Int) (x7 : Int) (x8 : Int) (x9 : Int) (kx : iv_M → Int → Option (Int × iv_M)) : Nat → iv_M → Int → Int → Option (Int × iv_M)
  | 0, _, _, _ => none
  | n + 1, s, x5, x10 => (if x7 ≤ x10 then (kx s x5) else ((rd s ((q1 + 1) + 1) 12 x10).bind fun v_1543 => (if v_1543 ≤ x8 then (FX9_isOdd_b175 N s q0 q1 x3 x4 x5 x6 x7 x8 x9 x10 0 (FX9_isOdd_l148 N q0 q1 x3 x4 x6 x7 x8 x9 kx n) kx) else (FX9_isOdd_b175 N s q0 q1 x3 x4 x5 x6 x7 x8 x9 x10 1 (FX9_isOdd_l148 N q0 q1 x3 x4 x6 x7 x8 x9 kx n) kx))))
set_option maxRecDepth 10000 in
set_option maxHeartbeats 4000000 in
theorem RX9_isOdd_l148 {d N nc Ls : Nat} {Xs : Nat → Int32} (hd : 4 ≤ d) {q0 : Nat} (t0 : T9 nc q0) {q1 : Nat} (t1 : T2 nc q1) {m3 : Int32} {x3 : Int} (p3 : m3.toInt = x3) {m4 : Int32} {x4 : Int} (p4 : m4.toInt = x4) {m6 : Int32} {x6 : Int} (p6 : m6.toInt = x6) {m7 : Int32} {x7 : Int} (p7 : m7.toInt = x7) {m8 : Int32} {x8 : Int} (p8 : m8.toInt = x8) {m9 : Int32} {x9 : Int} (p9 : m9.toInt = x9) {kx : iv_M → Int → Option (Int × iv_M)} {r : Int × iv_M} {Q : Option Value → iv_H → Prop} (hk : ∀ (h : iv_H) (s : iv_M) (hR : Rep nc Ls Xs h s) (m5 : Int32) (x5 : Int) (p5 : m5.toInt = x5), kx s x5 = some r → Rn d 122 (some .boolean) 218 [some (.ref q0), some (.ref q1), none, some (.int m3), some (.int m4), some (.int m5), some (.int m6), some (.int m7), none, none, none, none] [] h Q) (hq : ∀ (z : Int32) (h1 : iv_H), z.toInt = r.1 → Rep nc Ls Xs h1 r.2 → Q (some (.int z)) h1) : ∀ (n : Nat) (h : iv_H) (s : iv_M) (hR : Rep nc Ls Xs h s) (m5 : Int32) (x5 : Int) (p5 : m5.toInt = x5) (m10 : Int32) (x10 : Int) (p10 : m10.toInt = x10), FX9_isOdd_l148 N q0 q1 x3 x4 x6 x7 x8 x9 kx n s x5 x10 = some r → Rn d 122 (some .boolean) 148 [some (.ref q0), some (.ref q1), none, some (.int m3), some (.int m4), some (.int m5), some (.int m6), some (.int m7), some (.int m8), some (.int m9), some (.int m10), none] [] h Q := by
  have hT := hX9_isOdd
  intro n
  induction n with
  | zero =>
    intro h s hR m5 x5 p5 m10 x10 p10 e
    rw [FX9_isOdd_l148] at e
    cases e
  | succ n ih =>
    intro h s hR m5 x5 p5 m10 x10 p10 e
    rw [FX9_isOdd_l148] at e
    refine Rn.n hT 2 (pc' := 152) (L' := [some (.ref q0), some (.ref q1), none, some (.int m3), some (.int m4), some (.int m5), some (.int m6), some (.int m7), some (.int m8), some (.int m9), some (.int m10), none]) (st' := [.int m7, .int m10]) rfl ?_
    by_cases c_1542 : x7 ≤ x10
    · rw [if_pos c_1542] at e
      refine Rn.bt hT rfl rfl rfl (decide_eq_true ((ti_le p7 p10).mpr c_1542)) ?_
      exact Rn.weak (ll_s (ll_s (ll_n (ll_s (ll_s (ll_s (ll_s (ll_s (ll_n (ll_n (ll_n (ll_n ll_e)))))))))))) (hk h s hR m5 x5 p5 e)
    · rw [if_neg c_1542] at e
      refine Rn.bf hT rfl rfl rfl (decide_eq_false (fun z => c_1542 ((ti_le p7 p10).mp z))) ?_
      refine Rn.n hT 2 (pc' := 158) (L' := [some (.ref q0), some (.ref q1), none, some (.int m3), some (.int m4), some (.int m5), some (.int m6), some (.int m7), some (.int m8), some (.int m9), some (.int m10), none]) (st' := [.ref q1, .int m8]) rfl ?_
      refine Rn.hp hT rfl rfl (gR_hp (rp_gR hR (T2_o t1) rfl)) ?_
      refine Rn.hp hT rfl rfl (gR_hp (rp_gR hR (T1_o (T2_9 t1)) rfl)) ?_
      refine Rn.n hT 1 (pc' := 166) (L' := [some (.ref q0), some (.ref q1), none, some (.int m3), some (.int m4), some (.int m5), some (.int m6), some (.int m7), some (.int m8), some (.int m9), some (.int m10), none]) (st' := [.int m10, .ref ((q1 + 1) + 1), .int m8]) rfl ?_
      obtain ⟨v_1543, e_1543, e⟩ := Option.bind_eq_some_iff.mp e
      obtain ⟨z_1543, g_1543, p_1543⟩ := rp_aI hR (T1_5 (T2_9 t1)) (T1_5l (T2_9 t1)) p10 e_1543
      refine Rn.hp hT rfl rfl (aI_hp g_1543) ?_
      by_cases c_1544 : v_1543 ≤ x8
      · rw [if_pos c_1544] at e
        refine Rn.bt hT rfl rfl rfl (decide_eq_true ((ti_le p_1543 p8).mpr c_1544)) ?_
        refine Rn.n hT 1 (pc' := 175) (L' := [some (.ref q0), some (.ref q1), none, some (.int m3), some (.int m4), some (.int m5), some (.int m6), some (.int m7), some (.int m8), some (.int m9), some (.int m10), none]) (st' := [.int (0 : Int32)]) rfl ?_
        exact Rn.weak (ll_s (ll_s (ll_n (ll_s (ll_s (ll_s (ll_s (ll_s (ll_s (ll_s (ll_s (ll_n ll_e)))))))))))) (RX9_isOdd_b175 hd hR t0 t1 p3 p4 p5 p6 p7 p8 p9 p10 L32_0 ih hk hq e)
      · rw [if_neg c_1544] at e
        refine Rn.bf hT rfl rfl rfl (decide_eq_false (fun z => c_1544 ((ti_le p_1543 p8).mp z))) ?_
        refine Rn.n hT 2 (pc' := 175) (L' := [some (.ref q0), some (.ref q1), none, some (.int m3), some (.int m4), some (.int m5), some (.int m6), some (.int m7), some (.int m8), some (.int m9), some (.int m10), none]) (st' := [.int (1 : Int32)]) rfl ?_
        exact Rn.weak (ll_s (ll_s (ll_n (ll_s (ll_s (ll_s (ll_s (ll_s (ll_s (ll_s (ll_s (ll_n ll_e)))))))))))) (RX9_isOdd_b175 hd hR t0 t1 p3 p4 p5 p6 p7 p8 p9 p10 L32_1 ih hk hq e)
def FX9_isOdd_b142 (N : Nat) (s : iv_M) (q0 : Nat) (q1 : Nat) (x3 : Int) (x4 : Int) (x6 : Int) (x7 : Int) (x8 : Int) (x9 : Int) (xs0 : Int) (xs1 : Int) (kb : iv_M → Int → Int → Option (Int × iv_M)) (kx : iv_M → Int → Option (Int × iv_M)) : Option (Int × iv_M) := (FX9_isOdd_l148 N q0 q1 x3 x4 x6 x7 x8 x9 (fun (s_1540 : iv_M) (x1541_5 : Int) => (kb s_1540 x1541_5 (w32 (x7 + 1)))) N s (w32 (xs1 + xs0)) 0)
set_option maxRecDepth 10000 in
set_option maxHeartbeats 4000000 in
theorem RX9_isOdd_b142 {d N nc Ls : Nat} {Xs : Nat → Int32} (hd : 4 ≤ d) {h : iv_H} {s : iv_M} (hR : Rep nc Ls Xs h s) {q0 : Nat} (t0 : T9 nc q0) {q1 : Nat} (t1 : T2 nc q1) {m3 : Int32} {x3 : Int} (p3 : m3.toInt = x3) {m4 : Int32} {x4 : Int} (p4 : m4.toInt = x4) {m6 : Int32} {x6 : Int} (p6 : m6.toInt = x6) {m7 : Int32} {x7 : Int} (p7 : m7.toInt = x7) {m8 : Int32} {x8 : Int} (p8 : m8.toInt = x8) {m9 : Int32} {x9 : Int} (p9 : m9.toInt = x9) {ms0 : Int32} {xs0 : Int} (ps0 : ms0.toInt = xs0) {ms1 : Int32} {xs1 : Int} (ps1 : ms1.toInt = xs1) {kb : iv_M → Int → Int → Option (Int × iv_M)} {kx : iv_M → Int → Option (Int × iv_M)} {r : Int × iv_M} {Q : Option Value → iv_H → Prop} (hb : ∀ (h : iv_H) (s : iv_M) (hR : Rep nc Ls Xs h s) (mw5 : Int32) (xw5 : Int) (pw5 : mw5.toInt = xw5) (mw7 : Int32) (xw7 : Int) (pw7 : mw7.toInt = xw7), kb s xw5 xw7 = some r → Rn d 122 (some .boolean) 78 [some (.ref q0), some (.ref q1), none, some (.int m3), some (.int m4), some (.int mw5), some (.int m6), some (.int mw7), none, none, none, none] [] h Q) (hk : ∀ (h : iv_H) (s : iv_M) (hR : Rep nc Ls Xs h s) (mw5 : Int32) (xw5 : Int) (pw5 : mw5.toInt = xw5), kx s xw5 = some r → Rn d 122 (some .boolean) 224 [none, none, none, none, none, some (.int mw5), none, none, none, none, none, none] [] h Q) (hq : ∀ (z : Int32) (h1 : iv_H), z.toInt = r.1 → Rep nc Ls Xs h1 r.2 → Q (some (.int z)) h1) (e : FX9_isOdd_b142 N s q0 q1 x3 x4 x6 x7 x8 x9 xs0 xs1 kb kx = some r) : Rn d 122 (some .boolean) 142 [some (.ref q0), some (.ref q1), none, some (.int m3), some (.int m4), none, some (.int m6), some (.int m7), some (.int m8), some (.int m9), none, none] [.int ms0, .int ms1] h Q := by
  have hT := hX9_isOdd
  unfold FX9_isOdd_b142 at e
  refine Rn.n hT 4 (pc' := 148) (L' := [some (.ref q0), some (.ref q1), none, some (.int m3), some (.int m4), some (.int (ms1 + ms0)), some (.int m6), some (.int m7), some (.int m8), some (.int m9), some (.int (0 : Int32)), none]) (st' := []) rfl ?_
  refine Rn.weak (ll_s (ll_s (ll_n (ll_s (ll_s (ll_s (ll_s (ll_s (ll_s (ll_s (ll_s (ll_n ll_e)))))))))))) (RX9_isOdd_l148 hd t0 t1 p3 p4 p6 p7 p8 p9 (fun h_1540 s_1540 R_1540 m1541_5 x1541_5 p1541_5 e => ?_) hq N h s hR (ms1 + ms0) (w32 (xs1 + xs0)) (ti_add ps1 ps0) (0 : Int32) 0 L32_0 e)
  try dsimp only at e
  refine Rn.n hT 2 (pc' := 78) (L' := [some (.ref q0), some (.ref q1), none, some (.int m3), some (.int m4), some (.int m1541_5), some (.int m6), some (.int (m7 + (1 : Int32))), none, none, none, none]) (st' := []) rfl ?_
  exact Rn.weak (ll_s (ll_s (ll_n (ll_s (ll_s (ll_s (ll_s (ll_s (ll_n (ll_n (ll_n (ll_n ll_e)))))))))))) (hb h_1540 s_1540 R_1540 m1541_5 x1541_5 p1541_5 (m7 + (1 : Int32)) (w32 (x7 + 1)) (ti_add p7 L32_1) e)
def FX9_isOdd_b134 (N : Nat) (s : iv_M) (q0 : Nat) (q1 : Nat) (x3 : Int) (x4 : Int) (x6 : Int) (x7 : Int) (x8 : Int) (x9 : Int) (xs0 : Int) (xs1 : Int) (xs2 : Int) (kb : iv_M → Int → Int → Option (Int × iv_M)) (kx : iv_M → Int → Option (Int × iv_M)) : Option (Int × iv_M) := (if xs1 = xs0 then (FX9_isOdd_b142 N s q0 q1 x3 x4 x6 x7 x8 x9 0 xs2 kb kx) else (FX9_isOdd_b142 N s q0 q1 x3 x4 x6 x7 x8 x9 1 xs2 kb kx))
set_option maxRecDepth 10000 in
set_option maxHeartbeats 4000000 in
theorem RX9_isOdd_b134 {d N nc Ls : Nat} {Xs : Nat → Int32} (hd : 4 ≤ d) {h : iv_H} {s : iv_M} (hR : Rep nc Ls Xs h s) {q0 : Nat} (t0 : T9 nc q0) {q1 : Nat} (t1 : T2 nc q1) {m3 : Int32} {x3 : Int} (p3 : m3.toInt = x3) {m4 : Int32} {x4 : Int} (p4 : m4.toInt = x4) {m6 : Int32} {x6 : Int} (p6 : m6.toInt = x6) {m7 : Int32} {x7 : Int} (p7 : m7.toInt = x7) {m8 : Int32} {x8 : Int} (p8 : m8.toInt = x8) {m9 : Int32} {x9 : Int} (p9 : m9.toInt = x9) {ms0 : Int32} {xs0 : Int} (ps0 : ms0.toInt = xs0) {ms1 : Int32} {xs1 : Int} (ps1 : ms1.toInt = xs1) {ms2 : Int32} {xs2 : Int} (ps2 : ms2.toInt = xs2) {kb : iv_M → Int → Int → Option (Int × iv_M)} {kx : iv_M → Int → Option (Int × iv_M)} {r : Int × iv_M} {Q : Option Value → iv_H → Prop} (hb : ∀ (h : iv_H) (s : iv_M) (hR : Rep nc Ls Xs h s) (mw5 : Int32) (xw5 : Int) (pw5 : mw5.toInt = xw5) (mw7 : Int32) (xw7 : Int) (pw7 : mw7.toInt = xw7), kb s xw5 xw7 = some r → Rn d 122 (some .boolean) 78 [some (.ref q0), some (.ref q1), none, some (.int m3), some (.int m4), some (.int mw5), some (.int m6), some (.int mw7), none, none, none, none] [] h Q) (hk : ∀ (h : iv_H) (s : iv_M) (hR : Rep nc Ls Xs h s) (mw5 : Int32) (xw5 : Int) (pw5 : mw5.toInt = xw5), kx s xw5 = some r → Rn d 122 (some .boolean) 224 [none, none, none, none, none, some (.int mw5), none, none, none, none, none, none] [] h Q) (hq : ∀ (z : Int32) (h1 : iv_H), z.toInt = r.1 → Rep nc Ls Xs h1 r.2 → Q (some (.int z)) h1) (e : FX9_isOdd_b134 N s q0 q1 x3 x4 x6 x7 x8 x9 xs0 xs1 xs2 kb kx = some r) : Rn d 122 (some .boolean) 134 [some (.ref q0), some (.ref q1), none, some (.int m3), some (.int m4), none, some (.int m6), some (.int m7), some (.int m8), some (.int m9), none, none] [.int ms0, .int ms1, .int ms2] h Q := by
  have hT := hX9_isOdd
  unfold FX9_isOdd_b134 at e
  by_cases c_1539 : xs1 = xs0
  · rw [if_pos c_1539] at e
    refine Rn.bt hT rfl rfl rfl (decide_eq_true ((ti_e ps1 ps0).mpr c_1539)) ?_
    refine Rn.n hT 1 (pc' := 142) (L' := [some (.ref q0), some (.ref q1), none, some (.int m3), some (.int m4), none, some (.int m6), some (.int m7), some (.int m8), some (.int m9), none, none]) (st' := [.int (0 : Int32), .int ms2]) rfl ?_
    exact Rn.weak (ll_s (ll_s (ll_n (ll_s (ll_s (ll_n (ll_s (ll_s (ll_s (ll_s (ll_n (ll_n ll_e)))))))))))) (RX9_isOdd_b142 hd hR t0 t1 p3 p4 p6 p7 p8 p9 L32_0 ps2 hb hk hq e)
  · rw [if_neg c_1539] at e
    refine Rn.bf hT rfl rfl rfl (decide_eq_false (fun z => c_1539 ((ti_e ps1 ps0).mp z))) ?_
    refine Rn.n hT 2 (pc' := 142) (L' := [some (.ref q0), some (.ref q1), none, some (.int m3), some (.int m4), none, some (.int m6), some (.int m7), some (.int m8), some (.int m9), none, none]) (st' := [.int (1 : Int32), .int ms2]) rfl ?_
    exact Rn.weak (ll_s (ll_s (ll_n (ll_s (ll_s (ll_n (ll_s (ll_s (ll_s (ll_s (ll_n (ll_n ll_e)))))))))))) (RX9_isOdd_b142 hd hR t0 t1 p3 p4 p6 p7 p8 p9 L32_1 ps2 hb hk hq e)
def FX9_isOdd_b122 (N : Nat) (s : iv_M) (q0 : Nat) (q1 : Nat) (x3 : Int) (x4 : Int) (x6 : Int) (x7 : Int) (x8 : Int) (x9 : Int) (xs0 : Int) (xs1 : Int) (kb : iv_M → Int → Int → Option (Int × iv_M)) (kx : iv_M → Int → Option (Int × iv_M)) : Option (Int × iv_M) := (if x4 ≤ x9 then (FX9_isOdd_b134 N s q0 q1 x3 x4 x6 x7 x8 x9 0 xs0 xs1 kb kx) else (FX9_isOdd_b134 N s q0 q1 x3 x4 x6 x7 x8 x9 1 xs0 xs1 kb kx))
set_option maxRecDepth 10000 in
set_option maxHeartbeats 4000000 in
theorem RX9_isOdd_b122 {d N nc Ls : Nat} {Xs : Nat → Int32} (hd : 4 ≤ d) {h : iv_H} {s : iv_M} (hR : Rep nc Ls Xs h s) {q0 : Nat} (t0 : T9 nc q0) {q1 : Nat} (t1 : T2 nc q1) {m3 : Int32} {x3 : Int} (p3 : m3.toInt = x3) {m4 : Int32} {x4 : Int} (p4 : m4.toInt = x4) {m6 : Int32} {x6 : Int} (p6 : m6.toInt = x6) {m7 : Int32} {x7 : Int} (p7 : m7.toInt = x7) {m8 : Int32} {x8 : Int} (p8 : m8.toInt = x8) {m9 : Int32} {x9 : Int} (p9 : m9.toInt = x9) {ms0 : Int32} {xs0 : Int} (ps0 : ms0.toInt = xs0) {ms1 : Int32} {xs1 : Int} (ps1 : ms1.toInt = xs1) {kb : iv_M → Int → Int → Option (Int × iv_M)} {kx : iv_M → Int → Option (Int × iv_M)} {r : Int × iv_M} {Q : Option Value → iv_H → Prop} (hb : ∀ (h : iv_H) (s : iv_M) (hR : Rep nc Ls Xs h s) (mw5 : Int32) (xw5 : Int) (pw5 : mw5.toInt = xw5) (mw7 : Int32) (xw7 : Int) (pw7 : mw7.toInt = xw7), kb s xw5 xw7 = some r → Rn d 122 (some .boolean) 78 [some (.ref q0), some (.ref q1), none, some (.int m3), some (.int m4), some (.int mw5), some (.int m6), some (.int mw7), none, none, none, none] [] h Q) (hk : ∀ (h : iv_H) (s : iv_M) (hR : Rep nc Ls Xs h s) (mw5 : Int32) (xw5 : Int) (pw5 : mw5.toInt = xw5), kx s xw5 = some r → Rn d 122 (some .boolean) 224 [none, none, none, none, none, some (.int mw5), none, none, none, none, none, none] [] h Q) (hq : ∀ (z : Int32) (h1 : iv_H), z.toInt = r.1 → Rep nc Ls Xs h1 r.2 → Q (some (.int z)) h1) (e : FX9_isOdd_b122 N s q0 q1 x3 x4 x6 x7 x8 x9 xs0 xs1 kb kx = some r) : Rn d 122 (some .boolean) 122 [some (.ref q0), some (.ref q1), none, some (.int m3), some (.int m4), none, some (.int m6), some (.int m7), some (.int m8), some (.int m9), none, none] [.int ms0, .int ms1] h Q := by
  have hT := hX9_isOdd
  unfold FX9_isOdd_b122 at e
  refine Rn.n hT 2 (pc' := 126) (L' := [some (.ref q0), some (.ref q1), none, some (.int m3), some (.int m4), none, some (.int m6), some (.int m7), some (.int m8), some (.int m9), none, none]) (st' := [.int m4, .int m9, .int ms0, .int ms1]) rfl ?_
  by_cases c_1538 : x4 ≤ x9
  · rw [if_pos c_1538] at e
    refine Rn.bt hT rfl rfl rfl (decide_eq_true ((ti_le p4 p9).mpr c_1538)) ?_
    refine Rn.n hT 1 (pc' := 134) (L' := [some (.ref q0), some (.ref q1), none, some (.int m3), some (.int m4), none, some (.int m6), some (.int m7), some (.int m8), some (.int m9), none, none]) (st' := [.int (0 : Int32), .int ms0, .int ms1]) rfl ?_
    exact Rn.weak (ll_s (ll_s (ll_n (ll_s (ll_s (ll_n (ll_s (ll_s (ll_s (ll_s (ll_n (ll_n ll_e)))))))))))) (RX9_isOdd_b134 hd hR t0 t1 p3 p4 p6 p7 p8 p9 L32_0 ps0 ps1 hb hk hq e)
  · rw [if_neg c_1538] at e
    refine Rn.bf hT rfl rfl rfl (decide_eq_false (fun z => c_1538 ((ti_le p4 p9).mp z))) ?_
    refine Rn.n hT 2 (pc' := 134) (L' := [some (.ref q0), some (.ref q1), none, some (.int m3), some (.int m4), none, some (.int m6), some (.int m7), some (.int m8), some (.int m9), none, none]) (st' := [.int (1 : Int32), .int ms0, .int ms1]) rfl ?_
    exact Rn.weak (ll_s (ll_s (ll_n (ll_s (ll_s (ll_n (ll_s (ll_s (ll_s (ll_s (ll_n (ll_n ll_e)))))))))))) (RX9_isOdd_b134 hd hR t0 t1 p3 p4 p6 p7 p8 p9 L32_1 ps0 ps1 hb hk hq e)
def FX9_isOdd_l78 (N : Nat) (q0 : Nat) (q1 : Nat) (x3 : Int) (x4 : Int) (x6 : Int) (kx : iv_M → Int → Option (Int × iv_M)) : Nat → iv_M → Int → Int → Option (Int × iv_M)
  | 0, _, _, _ => none
  | n + 1, s, x5, x7 => (if x6 ≤ x7 then (kx s x5) else ((rd s ((q1 + 1) + 1) 12 x7).bind fun v_1535 => ((rd s ((q0 + 7) + 1) 12 x7).bind fun v_1536 => (if x3 ≤ v_1535 then (FX9_isOdd_b122 N s q0 q1 x3 x4 x6 x7 v_1535 v_1536 0 x5 (FX9_isOdd_l78 N q0 q1 x3 x4 x6 kx n) kx) else (FX9_isOdd_b122 N s q0 q1 x3 x4 x6 x7 v_1535 v_1536 1 x5 (FX9_isOdd_l78 N q0 q1 x3 x4 x6 kx n) kx)))))
set_option maxRecDepth 10000 in
set_option maxHeartbeats 4000000 in
theorem RX9_isOdd_l78 {d N nc Ls : Nat} {Xs : Nat → Int32} (hd : 4 ≤ d) {q0 : Nat} (t0 : T9 nc q0) {q1 : Nat} (t1 : T2 nc q1) {m3 : Int32} {x3 : Int} (p3 : m3.toInt = x3) {m4 : Int32} {x4 : Int} (p4 : m4.toInt = x4) {m6 : Int32} {x6 : Int} (p6 : m6.toInt = x6) {kx : iv_M → Int → Option (Int × iv_M)} {r : Int × iv_M} {Q : Option Value → iv_H → Prop} (hk : ∀ (h : iv_H) (s : iv_M) (hR : Rep nc Ls Xs h s) (m5 : Int32) (x5 : Int) (p5 : m5.toInt = x5), kx s x5 = some r → Rn d 122 (some .boolean) 224 [none, none, none, none, none, some (.int m5), none, none, none, none, none, none] [] h Q) (hq : ∀ (z : Int32) (h1 : iv_H), z.toInt = r.1 → Rep nc Ls Xs h1 r.2 → Q (some (.int z)) h1) : ∀ (n : Nat) (h : iv_H) (s : iv_M) (hR : Rep nc Ls Xs h s) (m5 : Int32) (x5 : Int) (p5 : m5.toInt = x5) (m7 : Int32) (x7 : Int) (p7 : m7.toInt = x7), FX9_isOdd_l78 N q0 q1 x3 x4 x6 kx n s x5 x7 = some r → Rn d 122 (some .boolean) 78 [some (.ref q0), some (.ref q1), none, some (.int m3), some (.int m4), some (.int m5), some (.int m6), some (.int m7), none, none, none, none] [] h Q := by
  have hT := hX9_isOdd
  intro n
  induction n with
  | zero =>
    intro h s hR m5 x5 p5 m7 x7 p7 e
    rw [FX9_isOdd_l78] at e
    cases e
  | succ n ih =>
    intro h s hR m5 x5 p5 m7 x7 p7 e
    rw [FX9_isOdd_l78] at e
    refine Rn.n hT 2 (pc' := 82) (L' := [some (.ref q0), some (.ref q1), none, some (.int m3), some (.int m4), some (.int m5), some (.int m6), some (.int m7), none, none, none, none]) (st' := [.int m6, .int m7]) rfl ?_
    by_cases c_1534 : x6 ≤ x7
    · rw [if_pos c_1534] at e
      refine Rn.bt hT rfl rfl rfl (decide_eq_true ((ti_le p6 p7).mpr c_1534)) ?_
      exact Rn.weak (ll_n (ll_n (ll_n (ll_n (ll_n (ll_s (ll_n (ll_n (ll_n (ll_n (ll_n (ll_n ll_e)))))))))))) (hk h s hR m5 x5 p5 e)
    · rw [if_neg c_1534] at e
      refine Rn.bf hT rfl rfl rfl (decide_eq_false (fun z => c_1534 ((ti_le p6 p7).mp z))) ?_
      refine Rn.n hT 1 (pc' := 86) (L' := [some (.ref q0), some (.ref q1), none, some (.int m3), some (.int m4), some (.int m5), some (.int m6), some (.int m7), none, none, none, none]) (st' := [.ref q1]) rfl ?_
      refine Rn.hp hT rfl rfl (gR_hp (rp_gR hR (T2_o t1) rfl)) ?_
      refine Rn.hp hT rfl rfl (gR_hp (rp_gR hR (T1_o (T2_9 t1)) rfl)) ?_
      refine Rn.n hT 1 (pc' := 94) (L' := [some (.ref q0), some (.ref q1), none, some (.int m3), some (.int m4), some (.int m5), some (.int m6), some (.int m7), none, none, none, none]) (st' := [.int m7, .ref ((q1 + 1) + 1)]) rfl ?_
      obtain ⟨v_1535, e_1535, e⟩ := Option.bind_eq_some_iff.mp e
      obtain ⟨z_1535, g_1535, p_1535⟩ := rp_aI hR (T1_5 (T2_9 t1)) (T1_5l (T2_9 t1)) p7 e_1535
      refine Rn.hp hT rfl rfl (aI_hp g_1535) ?_
      refine Rn.n hT 2 (pc' := 98) (L' := [some (.ref q0), some (.ref q1), none, some (.int m3), some (.int m4), some (.int m5), some (.int m6), some (.int m7), some (.int z_1535), none, none, none]) (st' := [.ref q0]) rfl ?_
      refine Rn.hp hT rfl rfl (gR_hp (rp_gR hR (T9_o t0) rfl)) ?_
      refine Rn.hp hT rfl rfl (gR_hp (rp_gR hR (T1_o (T9_7 t0)) rfl)) ?_
      refine Rn.n hT 1 (pc' := 106) (L' := [some (.ref q0), some (.ref q1), none, some (.int m3), some (.int m4), some (.int m5), some (.int m6), some (.int m7), some (.int z_1535), none, none, none]) (st' := [.int m7, .ref ((q0 + 7) + 1)]) rfl ?_
      obtain ⟨v_1536, e_1536, e⟩ := Option.bind_eq_some_iff.mp e
      obtain ⟨z_1536, g_1536, p_1536⟩ := rp_aI hR (T1_5 (T9_7 t0)) (T1_5l (T9_7 t0)) p7 e_1536
      refine Rn.hp hT rfl rfl (aI_hp g_1536) ?_
      refine Rn.n hT 4 (pc' := 114) (L' := [some (.ref q0), some (.ref q1), none, some (.int m3), some (.int m4), some (.int m5), some (.int m6), some (.int m7), some (.int z_1535), some (.int z_1536), none, none]) (st' := [.int m3, .int z_1535, .int m5]) rfl ?_
      by_cases c_1537 : x3 ≤ v_1535
      · rw [if_pos c_1537] at e
        refine Rn.bt hT rfl rfl rfl (decide_eq_true ((ti_le p3 p_1535).mpr c_1537)) ?_
        refine Rn.n hT 1 (pc' := 122) (L' := [some (.ref q0), some (.ref q1), none, some (.int m3), some (.int m4), some (.int m5), some (.int m6), some (.int m7), some (.int z_1535), some (.int z_1536), none, none]) (st' := [.int (0 : Int32), .int m5]) rfl ?_
        exact Rn.weak (ll_s (ll_s (ll_n (ll_s (ll_s (ll_n (ll_s (ll_s (ll_s (ll_s (ll_n (ll_n ll_e)))))))))))) (RX9_isOdd_b122 hd hR t0 t1 p3 p4 p6 p7 p_1535 p_1536 L32_0 p5 ih hk hq e)
      · rw [if_neg c_1537] at e
        refine Rn.bf hT rfl rfl rfl (decide_eq_false (fun z => c_1537 ((ti_le p3 p_1535).mp z))) ?_
        refine Rn.n hT 2 (pc' := 122) (L' := [some (.ref q0), some (.ref q1), none, some (.int m3), some (.int m4), some (.int m5), some (.int m6), some (.int m7), some (.int z_1535), some (.int z_1536), none, none]) (st' := [.int (1 : Int32), .int m5]) rfl ?_
        exact Rn.weak (ll_s (ll_s (ll_n (ll_s (ll_s (ll_n (ll_s (ll_s (ll_s (ll_s (ll_n (ll_n ll_e)))))))))))) (RX9_isOdd_b122 hd hR t0 t1 p3 p4 p6 p7 p_1535 p_1536 L32_1 p5 ih hk hq e)
def FX9_isOdd_b237 (N : Nat) (s : iv_M)  (xs0 : Int) : Option (Int × iv_M) := (if xs0 = 0 ∨ xs0 = 1 then some (xs0, s) else none)
set_option maxRecDepth 10000 in
set_option maxHeartbeats 4000000 in
theorem RX9_isOdd_b237 {d N nc Ls : Nat} {Xs : Nat → Int32} (hd : 4 ≤ d) {h : iv_H} {s : iv_M} (hR : Rep nc Ls Xs h s)  {ms0 : Int32} {xs0 : Int} (ps0 : ms0.toInt = xs0) {r : Int × iv_M} {Q : Option Value → iv_H → Prop} (hq : ∀ (z : Int32) (h1 : iv_H), z.toInt = r.1 → Rep nc Ls Xs h1 r.2 → Q (some (.int z)) h1) (e : FX9_isOdd_b237 N s  xs0 = some r) : Rn d 122 (some .boolean) 237 [none, none, none, none, none, none, none, none, none, none, none, none] [.int ms0] h Q := by
  have hT := hX9_isOdd
  unfold FX9_isOdd_b237 at e
  by_cases c_1548 : xs0 = 0 ∨ xs0 = 1
  · rw [if_pos c_1548] at e
    obtain rfl := Option.some.inj e
    exact Rn.ret hT rfl rfl (if_pos (ti_b ps0 c_1548)) (hq ms0 h ps0 hR)
  · rw [if_neg c_1548] at e
    cases e
def FX9_isOdd (N : Nat) (s : iv_M) (q0 : Nat) (q1 : Nat) (x2 : Int) : Option (Int × iv_M) := ((FX1_copyFrom N s (q0 + 7) (q1 + 1)).bind fun s_1523 => ((rd s_1523 (q1 + 14) 4 x2).bind fun v_1524 => ((rd s_1523 (q1 + 15) 4 x2).bind fun v_1525 => ((FX1_arrange N s_1523 (q0 + 7) v_1524 v_1525).bind fun s_1527 => ((FX9_emptyCell N s_1527 (q1 + 1)).bind fun v_1528 => ((FX9_emptyCell N s_1527 (q0 + 7)).bind fun v_1529 => (FX9_isOdd_l78 N q0 q1 v_1528 v_1529 (s_1527 (q1 + 1) 2) (fun (s_1531 : iv_M) (x1532_5 : Int) => (if (bAn x1532_5 1) = 1 then (FX9_isOdd_b237 N s_1531 1) else (FX9_isOdd_b237 N s_1531 0))) N s_1527 (w32 ((w32 ((w32 ((bAn v_1528 3) + (sr32 v_1528 2))) + (bAn v_1529 3))) + (sr32 v_1529 2))) 0)))))))
set_option maxRecDepth 10000 in
set_option maxHeartbeats 4000000 in
theorem RX9_isOdd {d N nc Ls : Nat} {Xs : Nat → Int32} (hd : 5 ≤ d) {h : iv_H} {s : iv_M} (hR : Rep nc Ls Xs h s) {q0 : Nat} (t0 : T9 nc q0) {q1 : Nat} (t1 : T2 nc q1) {m2 : Int32} {x2 : Int} (p2 : m2.toInt = x2) {r : Int × iv_M} {Q : Option Value → iv_H → Prop} (e : FX9_isOdd N s q0 q1 x2 = some r) (hq : ∀ (z : Int32) (h1 : iv_H), z.toInt = r.1 → Rep nc Ls Xs h1 r.2 → Q (some (.int z)) h1) : Cl d 122 [.ref q0, .ref q1, .int m2] h Q := by
  obtain ⟨d, rfl⟩ : ∃ k, d = k + 1 := ⟨d - 1, by omega⟩
  have hd : 4 ≤ d := by omega
  have hT := hX9_isOdd
  unfold FX9_isOdd at e
  refine Cl.into (by decide) gX9_isOdd rfl ?_
  show Rn d 122 (some .boolean) 0 [some (.ref q0), some (.ref q1), some (.int m2), none, none, none, none, none, none, none, none, none] [] h Q
  refine Rn.n hT 1 (pc' := 1) (L' := [some (.ref q0), some (.ref q1), some (.int m2), none, none, none, none, none, none, none, none, none]) (st' := [.ref q0]) rfl ?_
  refine Rn.hp hT rfl rfl (gR_hp (rp_gR hR (T9_o t0) rfl)) ?_
  refine Rn.n hT 1 (pc' := 5) (L' := [some (.ref q0), some (.ref q1), some (.int m2), none, none, none, none, none, none, none, none, none]) (st' := [.ref q1, .ref (q0 + 7)]) rfl ?_
  refine Rn.hp hT rfl rfl (gR_hp (rp_gR hR (T2_o t1) rfl)) ?_
  obtain ⟨s_1523, e_1522, e⟩ := Option.bind_eq_some_iff.mp e
  refine Rn.call hT rfl rfl rfl (Nat.le_of_ble_eq_true rfl) (rcv_v gX1_copyFrom (by omega) (rp_ck hR (T1_o (T9_7 t0)))) (RX1_copyFrom (by omega) hR (T9_7 t0) (T2_9 t1) e_1522 (fun h_1523 R_1523 => ?_))
  show Rn d _ _ 11 [some (.ref q0), some (.ref q1), some (.int m2), none, none, none, none, none, none, none, none, none] [] h_1523 Q
  refine Rn.n hT 1 (pc' := 12) (L' := [some (.ref q0), some (.ref q1), some (.int m2), none, none, none, none, none, none, none, none, none]) (st' := [.ref q0]) rfl ?_
  refine Rn.hp hT rfl rfl (gR_hp (rp_gR R_1523 (T9_o t0) rfl)) ?_
  refine Rn.n hT 1 (pc' := 16) (L' := [some (.ref q0), some (.ref q1), some (.int m2), none, none, none, none, none, none, none, none, none]) (st' := [.ref q1, .ref (q0 + 7)]) rfl ?_
  refine Rn.hp hT rfl rfl (gR_hp (rp_gR R_1523 (T2_o t1) rfl)) ?_
  refine Rn.n hT 1 (pc' := 20) (L' := [some (.ref q0), some (.ref q1), some (.int m2), none, none, none, none, none, none, none, none, none]) (st' := [.int m2, .ref (q1 + 14), .ref (q0 + 7)]) rfl ?_
  obtain ⟨v_1524, e_1524, e⟩ := Option.bind_eq_some_iff.mp e
  obtain ⟨z_1524, g_1524, p_1524⟩ := rp_aJ R_1523 (T2_14 t1) (T2_14l t1) p2 e_1524
  refine Rn.hp hT rfl rfl (aJ_hp g_1524) ?_
  refine Rn.n hT 1 (pc' := 22) (L' := [some (.ref q0), some (.ref q1), some (.int m2), none, none, none, none, none, none, none, none, none]) (st' := [.ref q1, .long z_1524, .ref (q0 + 7)]) rfl ?_
  refine Rn.hp hT rfl rfl (gR_hp (rp_gR R_1523 (T2_o t1) rfl)) ?_
  refine Rn.n hT 1 (pc' := 26) (L' := [some (.ref q0), some (.ref q1), some (.int m2), none, none, none, none, none, none, none, none, none]) (st' := [.int m2, .ref (q1 + 15), .long z_1524, .ref (q0 + 7)]) rfl ?_
  obtain ⟨v_1525, e_1525, e⟩ := Option.bind_eq_some_iff.mp e
  obtain ⟨z_1525, g_1525, p_1525⟩ := rp_aI R_1523 (T2_15 t1) (T2_15l t1) p2 e_1525
  refine Rn.hp hT rfl rfl (aI_hp g_1525) ?_
  obtain ⟨s_1527, e_1526, e⟩ := Option.bind_eq_some_iff.mp e
  refine Rn.call hT rfl rfl rfl (Nat.le_of_ble_eq_true rfl) (rcv_v gX1_arrange (by omega) (rp_ck R_1523 (T1_o (T9_7 t0)))) (RX1_arrange (by omega) R_1523 (T9_7 t0) p_1524 p_1525 e_1526 (fun h_1527 R_1527 => ?_))
  show Rn d _ _ 30 [some (.ref q0), some (.ref q1), some (.int m2), none, none, none, none, none, none, none, none, none] [] h_1527 Q
  refine Rn.n hT 1 (pc' := 31) (L' := [some (.ref q0), some (.ref q1), some (.int m2), none, none, none, none, none, none, none, none, none]) (st' := [.ref q1]) rfl ?_
  refine Rn.hp hT rfl rfl (gR_hp (rp_gR R_1527 (T2_o t1) rfl)) ?_
  obtain ⟨v_1528, e_1528, e⟩ := Option.bind_eq_some_iff.mp e
  refine Rn.call hT rfl rfl rfl (Nat.le_of_ble_eq_true rfl) rfl (RX9_emptyCell (by omega) R_1527 (T2_9 t1) e_1528 (fun z_1528 p_1528 => ?_))
  show Rn d _ _ 37 [some (.ref q0), some (.ref q1), some (.int m2), none, none, none, none, none, none, none, none, none] [.int z_1528] h_1527 Q
  refine Rn.n hT 2 (pc' := 39) (L' := [some (.ref q0), some (.ref q1), some (.int m2), some (.int z_1528), none, none, none, none, none, none, none, none]) (st' := [.ref q0]) rfl ?_
  refine Rn.hp hT rfl rfl (gR_hp (rp_gR R_1527 (T9_o t0) rfl)) ?_
  obtain ⟨v_1529, e_1529, e⟩ := Option.bind_eq_some_iff.mp e
  refine Rn.call hT rfl rfl rfl (Nat.le_of_ble_eq_true rfl) rfl (RX9_emptyCell (by omega) R_1527 (T9_7 t0) e_1529 (fun z_1529 p_1529 => ?_))
  show Rn d _ _ 45 [some (.ref q0), some (.ref q1), some (.int m2), some (.int z_1528), none, none, none, none, none, none, none, none] [.int z_1529] h_1527 Q
  refine Rn.n hT 18 (pc' := 67) (L' := [some (.ref q0), some (.ref q1), some (.int m2), some (.int z_1528), some (.int z_1529), some (.int ((((z_1528 &&& (3 : Int32)) + (z_1528 >>> ((2 : Int32) &&& 31))) + (z_1529 &&& (3 : Int32))) + (z_1529 >>> ((2 : Int32) &&& 31)))), none, none, none, none, none, none]) (st' := [.ref q1]) rfl ?_
  refine Rn.hp hT rfl rfl (gR_hp (rp_gR R_1527 (T2_o t1) rfl)) ?_
  obtain ⟨z_1530, g_1530, p_1530⟩ : ∃ z : Int32, gI h_1527 1 2 (q1 + 1) = some z ∧ z.toInt = s_1527 (q1 + 1) 2 := rp_gI (k := 2) R_1527 (T1_o (T2_9 t1)) rfl
  refine Rn.hp hT rfl rfl (gI_hp g_1530) ?_
  refine Rn.n hT 3 (pc' := 78) (L' := [some (.ref q0), some (.ref q1), some (.int m2), some (.int z_1528), some (.int z_1529), some (.int ((((z_1528 &&& (3 : Int32)) + (z_1528 >>> ((2 : Int32) &&& 31))) + (z_1529 &&& (3 : Int32))) + (z_1529 >>> ((2 : Int32) &&& 31)))), some (.int z_1530), some (.int (0 : Int32)), none, none, none, none]) (st' := []) rfl ?_
  refine Rn.weak (ll_s (ll_s (ll_n (ll_s (ll_s (ll_s (ll_s (ll_s (ll_n (ll_n (ll_n (ll_n ll_e)))))))))))) (RX9_isOdd_l78 hd t0 t1 p_1528 p_1529 p_1530 (fun h_1531 s_1531 R_1531 m1532_5 x1532_5 p1532_5 e => ?_) hq N h_1527 s_1527 R_1527 ((((z_1528 &&& (3 : Int32)) + (z_1528 >>> ((2 : Int32) &&& 31))) + (z_1529 &&& (3 : Int32))) + (z_1529 >>> ((2 : Int32) &&& 31))) (w32 ((w32 ((w32 ((bAn v_1528 3) + (sr32 v_1528 2))) + (bAn v_1529 3))) + (sr32 v_1529 2))) (ti_add (ti_add (ti_add (ti_and p_1528 L32_3) (ti_shr p_1528 L32_2)) (ti_and p_1529 L32_3)) (ti_shr p_1529 L32_2)) (0 : Int32) 0 L32_0 e)
  try dsimp only at e
  refine Rn.n hT 4 (pc' := 229) (L' := [none, none, none, none, none, some (.int m1532_5), none, none, none, none, none, none]) (st' := [.int (1 : Int32), .int (m1532_5 &&& (1 : Int32))]) rfl ?_
  by_cases c_1533 : (bAn x1532_5 1) = 1
  · rw [if_pos c_1533] at e
    refine Rn.bf hT rfl rfl rfl (decide_eq_false (fun z => z ((ti_e (ti_and p1532_5 L32_1) L32_1).mpr c_1533))) ?_
    refine Rn.n hT 2 (pc' := 237) (L' := [none, none, none, none, none, some (.int m1532_5), none, none, none, none, none, none]) (st' := [.int (1 : Int32)]) rfl ?_
    exact Rn.weak (ll_n (ll_n (ll_n (ll_n (ll_n (ll_n (ll_n (ll_n (ll_n (ll_n (ll_n (ll_n ll_e)))))))))))) (RX9_isOdd_b237 hd R_1531 L32_1 hq e)
  · rw [if_neg c_1533] at e
    refine Rn.bt hT rfl rfl rfl (decide_eq_true (fun z => c_1533 ((ti_e (ti_and p1532_5 L32_1) L32_1).mp z))) ?_
    refine Rn.n hT 1 (pc' := 237) (L' := [none, none, none, none, none, some (.int m1532_5), none, none, none, none, none, none]) (st' := [.int (0 : Int32)]) rfl ?_
    exact Rn.weak (ll_n (ll_n (ll_n (ll_n (ll_n (ll_n (ll_n (ll_n (ll_n (ll_n (ll_n (ll_n ll_e)))))))))))) (RX9_isOdd_b237 hd R_1531 L32_0 hq e)
set_option maxRecDepth 10000 in
theorem hX9_marksOf : iv_Tb 121 tX9_marksOf := iv_tb_of (m := mX9_marksOf) rfl
set_option maxRecDepth 10000 in
theorem gX9_marksOf : PG.2 121 = some mX9_marksOf := iv_pi_of (t := tX9_marksOf) rfl (by decide)
def FX9_marksOf_b140 (N : Nat) (s : iv_M) (q0 : Nat) (q1 : Nat) (x2 : Int) (x4 : Int) (xs0 : Int) (xs1 : Int) (kb : iv_M → Int → Int → Option (Int × iv_M)) (kx : iv_M → Int → Option (Int × iv_M)) : Option (Int × iv_M) := (kb s (bOr xs1 xs0) (w32 (x4 + 1)))
set_option maxRecDepth 10000 in
set_option maxHeartbeats 4000000 in
theorem RX9_marksOf_b140 {d N nc Ls : Nat} {Xs : Nat → Int32} (hd : 5 ≤ d) {h : iv_H} {s : iv_M} (hR : Rep nc Ls Xs h s) {q0 : Nat} (t0 : T9 nc q0) {q1 : Nat} (t1 : T2 nc q1) {m2 : Int32} {x2 : Int} (p2 : m2.toInt = x2) {m4 : Int32} {x4 : Int} (p4 : m4.toInt = x4) {ms0 : Int32} {xs0 : Int} (ps0 : ms0.toInt = xs0) {ms1 : Int32} {xs1 : Int} (ps1 : ms1.toInt = xs1) {kb : iv_M → Int → Int → Option (Int × iv_M)} {kx : iv_M → Int → Option (Int × iv_M)} {r : Int × iv_M} {Q : Option Value → iv_H → Prop} (hb : ∀ (h : iv_H) (s : iv_M) (hR : Rep nc Ls Xs h s) (mw3 : Int32) (xw3 : Int) (pw3 : mw3.toInt = xw3) (mw4 : Int32) (xw4 : Int) (pw4 : mw4.toInt = xw4), kb s xw3 xw4 = some r → Rn d 121 (some .int) 5 [some (.ref q0), some (.ref q1), some (.int m2), some (.int mw3), some (.int mw4), none, none] [] h Q) (hk : ∀ (h : iv_H) (s : iv_M) (hR : Rep nc Ls Xs h s) (mw3 : Int32) (xw3 : Int) (pw3 : mw3.toInt = xw3), kx s xw3 = some r → Rn d 121 (some .int) 148 [some (.ref q0), some (.ref q1), some (.int m2), some (.int mw3), none, none, none] [] h Q) (hq : ∀ (z : Int32) (h1 : iv_H), z.toInt = r.1 → Rep nc Ls Xs h1 r.2 → Q (some (.int z)) h1) (e : FX9_marksOf_b140 N s q0 q1 x2 x4 xs0 xs1 kb kx = some r) : Rn d 121 (some .int) 140 [some (.ref q0), some (.ref q1), some (.int m2), none, some (.int m4), none, none] [.int ms0, .int ms1] h Q := by
  have hT := hX9_marksOf
  unfold FX9_marksOf_b140 at e
  refine Rn.n hT 4 (pc' := 5) (L' := [some (.ref q0), some (.ref q1), some (.int m2), some (.int (ms1 ||| ms0)), some (.int (m4 + (1 : Int32))), none, none]) (st' := []) rfl ?_
  exact Rn.weak (ll_s (ll_s (ll_s (ll_s (ll_s (ll_n (ll_n ll_e))))))) (hb h s hR (ms1 ||| ms0) (bOr xs1 xs0) (ti_or ps1 ps0) (m4 + (1 : Int32)) (w32 (x4 + 1)) (ti_add p4 L32_1) e)
def FX9_marksOf_b139 (N : Nat) (s : iv_M) (q0 : Nat) (q1 : Nat) (x2 : Int) (x4 : Int) (xs0 : Int) (kb : iv_M → Int → Int → Option (Int × iv_M)) (kx : iv_M → Int → Option (Int × iv_M)) : Option (Int × iv_M) := (FX9_marksOf_b140 N s q0 q1 x2 x4 0 xs0 kb kx)
set_option maxRecDepth 10000 in
set_option maxHeartbeats 4000000 in
theorem RX9_marksOf_b139 {d N nc Ls : Nat} {Xs : Nat → Int32} (hd : 5 ≤ d) {h : iv_H} {s : iv_M} (hR : Rep nc Ls Xs h s) {q0 : Nat} (t0 : T9 nc q0) {q1 : Nat} (t1 : T2 nc q1) {m2 : Int32} {x2 : Int} (p2 : m2.toInt = x2) {m4 : Int32} {x4 : Int} (p4 : m4.toInt = x4) {ms0 : Int32} {xs0 : Int} (ps0 : ms0.toInt = xs0) {kb : iv_M → Int → Int → Option (Int × iv_M)} {kx : iv_M → Int → Option (Int × iv_M)} {r : Int × iv_M} {Q : Option Value → iv_H → Prop} (hb : ∀ (h : iv_H) (s : iv_M) (hR : Rep nc Ls Xs h s) (mw3 : Int32) (xw3 : Int) (pw3 : mw3.toInt = xw3) (mw4 : Int32) (xw4 : Int) (pw4 : mw4.toInt = xw4), kb s xw3 xw4 = some r → Rn d 121 (some .int) 5 [some (.ref q0), some (.ref q1), some (.int m2), some (.int mw3), some (.int mw4), none, none] [] h Q) (hk : ∀ (h : iv_H) (s : iv_M) (hR : Rep nc Ls Xs h s) (mw3 : Int32) (xw3 : Int) (pw3 : mw3.toInt = xw3), kx s xw3 = some r → Rn d 121 (some .int) 148 [some (.ref q0), some (.ref q1), some (.int m2), some (.int mw3), none, none, none] [] h Q) (hq : ∀ (z : Int32) (h1 : iv_H), z.toInt = r.1 → Rep nc Ls Xs h1 r.2 → Q (some (.int z)) h1) (e : FX9_marksOf_b139 N s q0 q1 x2 x4 xs0 kb kx = some r) : Rn d 121 (some .int) 139 [some (.ref q0), some (.ref q1), some (.int m2), none, some (.int m4), none, none] [.int ms0] h Q := by
  have hT := hX9_marksOf
  unfold FX9_marksOf_b139 at e
  refine Rn.n hT 1 (pc' := 140) (L' := [some (.ref q0), some (.ref q1), some (.int m2), none, some (.int m4), none, none]) (st' := [.int (0 : Int32), .int ms0]) rfl ?_
  exact Rn.weak (ll_s (ll_s (ll_s (ll_n (ll_s (ll_n (ll_n ll_e))))))) (RX9_marksOf_b140 hd hR t0 t1 p2 p4 L32_0 ps0 hb hk hq e)
def FX9_marksOf_b118 (N : Nat) (s : iv_M) (q0 : Nat) (q1 : Nat) (x2 : Int) (x4 : Int) (x5 : Int) (xs0 : Int) (xs1 : Int) (kb : iv_M → Int → Int → Option (Int × iv_M)) (kx : iv_M → Int → Option (Int × iv_M)) : Option (Int × iv_M) := (if x5 = 0 then (FX9_marksOf_b139 N s q0 q1 x2 x4 (bOr xs1 xs0) kb kx) else (if (bAn (s q1 1) 3) = 0 then (FX9_marksOf_b140 N s q0 q1 x2 x4 4 (bOr xs1 xs0) kb kx) else (FX9_marksOf_b139 N s q0 q1 x2 x4 (bOr xs1 xs0) kb kx)))
set_option maxRecDepth 10000 in
set_option maxHeartbeats 4000000 in
theorem RX9_marksOf_b118 {d N nc Ls : Nat} {Xs : Nat → Int32} (hd : 5 ≤ d) {h : iv_H} {s : iv_M} (hR : Rep nc Ls Xs h s) {q0 : Nat} (t0 : T9 nc q0) {q1 : Nat} (t1 : T2 nc q1) {m2 : Int32} {x2 : Int} (p2 : m2.toInt = x2) {m4 : Int32} {x4 : Int} (p4 : m4.toInt = x4) {m5 : Int32} {x5 : Int} (p5 : m5.toInt = x5) {ms0 : Int32} {xs0 : Int} (ps0 : ms0.toInt = xs0) {ms1 : Int32} {xs1 : Int} (ps1 : ms1.toInt = xs1) {kb : iv_M → Int → Int → Option (Int × iv_M)} {kx : iv_M → Int → Option (Int × iv_M)} {r : Int × iv_M} {Q : Option Value → iv_H → Prop} (hb : ∀ (h : iv_H) (s : iv_M) (hR : Rep nc Ls Xs h s) (mw3 : Int32) (xw3 : Int) (pw3 : mw3.toInt = xw3) (mw4 : Int32) (xw4 : Int) (pw4 : mw4.toInt = xw4), kb s xw3 xw4 = some r → Rn d 121 (some .int) 5 [some (.ref q0), some (.ref q1), some (.int m2), some (.int mw3), some (.int mw4), none, none] [] h Q) (hk : ∀ (h : iv_H) (s : iv_M) (hR : Rep nc Ls Xs h s) (mw3 : Int32) (xw3 : Int) (pw3 : mw3.toInt = xw3), kx s xw3 = some r → Rn d 121 (some .int) 148 [some (.ref q0), some (.ref q1), some (.int m2), some (.int mw3), none, none, none] [] h Q) (hq : ∀ (z : Int32) (h1 : iv_H), z.toInt = r.1 → Rep nc Ls Xs h1 r.2 → Q (some (.int z)) h1) (e : FX9_marksOf_b118 N s q0 q1 x2 x4 x5 xs0 xs1 kb kx = some r) : Rn d 121 (some .int) 118 [some (.ref q0), some (.ref q1), some (.int m2), none, some (.int m4), some (.int m5), none] [.int ms0, .int ms1] h Q := by
  have hT := hX9_marksOf
  unfold FX9_marksOf_b118 at e
  refine Rn.n hT 4 (pc' := 123) (L' := [some (.ref q0), some (.ref q1), some (.int m2), some (.int (ms1 ||| ms0)), some (.int m4), some (.int m5), none]) (st' := [.int m5, .int (ms1 ||| ms0)]) rfl ?_
  by_cases c_1573 : x5 = 0
  · rw [if_pos c_1573] at e
    refine Rn.bt hT rfl rfl rfl (decide_eq_true ((ti_e p5 L32_0).mpr c_1573)) ?_
    exact Rn.weak (ll_s (ll_s (ll_s (ll_n (ll_s (ll_n (ll_n ll_e))))))) (RX9_marksOf_b139 hd hR t0 t1 p2 p4 (ti_or ps1 ps0) hb hk hq e)
  · rw [if_neg c_1573] at e
    refine Rn.bf hT rfl rfl rfl (decide_eq_false (fun z => c_1573 ((ti_e p5 L32_0).mp z))) ?_
    refine Rn.n hT 1 (pc' := 127) (L' := [some (.ref q0), some (.ref q1), some (.int m2), some (.int (ms1 ||| ms0)), some (.int m4), some (.int m5), none]) (st' := [.ref q1, .int (ms1 ||| ms0)]) rfl ?_
    obtain ⟨z_1574, g_1574, p_1574⟩ : ∃ z : Int32, gI h 2 1 q1 = some z ∧ z.toInt = s q1 1 := rp_gI (k := 1) hR (T2_o t1) rfl
    refine Rn.hp hT rfl rfl (gI_hp g_1574) ?_
    refine Rn.n hT 2 (pc' := 132) (L' := [some (.ref q0), some (.ref q1), some (.int m2), some (.int (ms1 ||| ms0)), some (.int m4), some (.int m5), none]) (st' := [.int (z_1574 &&& (3 : Int32)), .int (ms1 ||| ms0)]) rfl ?_
    by_cases c_1575 : (bAn (s q1 1) 3) = 0
    · rw [if_pos c_1575] at e
      refine Rn.bf hT rfl rfl rfl (decide_eq_false (fun z => z ((ti_e (ti_and p_1574 L32_3) L32_0).mpr c_1575))) ?_
      refine Rn.n hT 2 (pc' := 140) (L' := [some (.ref q0), some (.ref q1), some (.int m2), some (.int (ms1 ||| ms0)), some (.int m4), some (.int m5), none]) (st' := [.int (4 : Int32), .int (ms1 ||| ms0)]) rfl ?_
      exact Rn.weak (ll_s (ll_s (ll_s (ll_n (ll_s (ll_n (ll_n ll_e))))))) (RX9_marksOf_b140 hd hR t0 t1 p2 p4 L32_4 (ti_or ps1 ps0) hb hk hq e)
    · rw [if_neg c_1575] at e
      refine Rn.bt hT rfl rfl rfl (decide_eq_true (fun z => c_1575 ((ti_e (ti_and p_1574 L32_3) L32_0).mp z))) ?_
      exact Rn.weak (ll_s (ll_s (ll_s (ll_n (ll_s (ll_n (ll_n ll_e))))))) (RX9_marksOf_b139 hd hR t0 t1 p2 p4 (ti_or ps1 ps0) hb hk hq e)
def FX9_marksOf_b117 (N : Nat) (s : iv_M) (q0 : Nat) (q1 : Nat) (x2 : Int) (x4 : Int) (x5 : Int) (xs0 : Int) (kb : iv_M → Int → Int → Option (Int × iv_M)) (kx : iv_M → Int → Option (Int × iv_M)) : Option (Int × iv_M) := (FX9_marksOf_b118 N s q0 q1 x2 x4 x5 0 xs0 kb kx)
set_option maxRecDepth 10000 in
set_option maxHeartbeats 4000000 in
theorem RX9_marksOf_b117 {d N nc Ls : Nat} {Xs : Nat → Int32} (hd : 5 ≤ d) {h : iv_H} {s : iv_M} (hR : Rep nc Ls Xs h s) {q0 : Nat} (t0 : T9 nc q0) {q1 : Nat} (t1 : T2 nc q1) {m2 : Int32} {x2 : Int} (p2 : m2.toInt = x2) {m4 : Int32} {x4 : Int} (p4 : m4.toInt = x4) {m5 : Int32} {x5 : Int} (p5 : m5.toInt = x5) {ms0 : Int32} {xs0 : Int} (ps0 : ms0.toInt = xs0) {kb : iv_M → Int → Int → Option (Int × iv_M)} {kx : iv_M → Int → Option (Int × iv_M)} {r : Int × iv_M} {Q : Option Value → iv_H → Prop} (hb : ∀ (h : iv_H) (s : iv_M) (hR : Rep nc Ls Xs h s) (mw3 : Int32) (xw3 : Int) (pw3 : mw3.toInt = xw3) (mw4 : Int32) (xw4 : Int) (pw4 : mw4.toInt = xw4), kb s xw3 xw4 = some r → Rn d 121 (some .int) 5 [some (.ref q0), some (.ref q1), some (.int m2), some (.int mw3), some (.int mw4), none, none] [] h Q) (hk : ∀ (h : iv_H) (s : iv_M) (hR : Rep nc Ls Xs h s) (mw3 : Int32) (xw3 : Int) (pw3 : mw3.toInt = xw3), kx s xw3 = some r → Rn d 121 (some .int) 148 [some (.ref q0), some (.ref q1), some (.int m2), some (.int mw3), none, none, none] [] h Q) (hq : ∀ (z : Int32) (h1 : iv_H), z.toInt = r.1 → Rep nc Ls Xs h1 r.2 → Q (some (.int z)) h1) (e : FX9_marksOf_b117 N s q0 q1 x2 x4 x5 xs0 kb kx = some r) : Rn d 121 (some .int) 117 [some (.ref q0), some (.ref q1), some (.int m2), none, some (.int m4), some (.int m5), none] [.int ms0] h Q := by
  have hT := hX9_marksOf
  unfold FX9_marksOf_b117 at e
  refine Rn.n hT 1 (pc' := 118) (L' := [some (.ref q0), some (.ref q1), some (.int m2), none, some (.int m4), some (.int m5), none]) (st' := [.int (0 : Int32), .int ms0]) rfl ?_
  exact Rn.weak (ll_s (ll_s (ll_s (ll_n (ll_s (ll_s (ll_n ll_e))))))) (RX9_marksOf_b118 hd hR t0 t1 p2 p4 p5 L32_0 ps0 hb hk hq e)
def FX9_marksOf_b96 (N : Nat) (s : iv_M) (q0 : Nat) (q1 : Nat) (x2 : Int) (x4 : Int) (x5 : Int) (x6 : Int) (xs0 : Int) (xs1 : Int) (kb : iv_M → Int → Int → Option (Int × iv_M)) (kx : iv_M → Int → Option (Int × iv_M)) : Option (Int × iv_M) := (if x6 = 0 then (FX9_marksOf_b117 N s q0 q1 x2 x4 x5 (bOr xs1 xs0) kb kx) else (if (bAn (s q1 1) 4) = 0 then (FX9_marksOf_b118 N s q0 q1 x2 x4 x5 2 (bOr xs1 xs0) kb kx) else (FX9_marksOf_b117 N s q0 q1 x2 x4 x5 (bOr xs1 xs0) kb kx)))
set_option maxRecDepth 10000 in
set_option maxHeartbeats 4000000 in
theorem RX9_marksOf_b96 {d N nc Ls : Nat} {Xs : Nat → Int32} (hd : 5 ≤ d) {h : iv_H} {s : iv_M} (hR : Rep nc Ls Xs h s) {q0 : Nat} (t0 : T9 nc q0) {q1 : Nat} (t1 : T2 nc q1) {m2 : Int32} {x2 : Int} (p2 : m2.toInt = x2) {m4 : Int32} {x4 : Int} (p4 : m4.toInt = x4) {m5 : Int32} {x5 : Int} (p5 : m5.toInt = x5) {m6 : Int32} {x6 : Int} (p6 : m6.toInt = x6) {ms0 : Int32} {xs0 : Int} (ps0 : ms0.toInt = xs0) {ms1 : Int32} {xs1 : Int} (ps1 : ms1.toInt = xs1) {kb : iv_M → Int → Int → Option (Int × iv_M)} {kx : iv_M → Int → Option (Int × iv_M)} {r : Int × iv_M} {Q : Option Value → iv_H → Prop} (hb : ∀ (h : iv_H) (s : iv_M) (hR : Rep nc Ls Xs h s) (mw3 : Int32) (xw3 : Int) (pw3 : mw3.toInt = xw3) (mw4 : Int32) (xw4 : Int) (pw4 : mw4.toInt = xw4), kb s xw3 xw4 = some r → Rn d 121 (some .int) 5 [some (.ref q0), some (.ref q1), some (.int m2), some (.int mw3), some (.int mw4), none, none] [] h Q) (hk : ∀ (h : iv_H) (s : iv_M) (hR : Rep nc Ls Xs h s) (mw3 : Int32) (xw3 : Int) (pw3 : mw3.toInt = xw3), kx s xw3 = some r → Rn d 121 (some .int) 148 [some (.ref q0), some (.ref q1), some (.int m2), some (.int mw3), none, none, none] [] h Q) (hq : ∀ (z : Int32) (h1 : iv_H), z.toInt = r.1 → Rep nc Ls Xs h1 r.2 → Q (some (.int z)) h1) (e : FX9_marksOf_b96 N s q0 q1 x2 x4 x5 x6 xs0 xs1 kb kx = some r) : Rn d 121 (some .int) 96 [some (.ref q0), some (.ref q1), some (.int m2), none, some (.int m4), some (.int m5), some (.int m6)] [.int ms0, .int ms1] h Q := by
  have hT := hX9_marksOf
  unfold FX9_marksOf_b96 at e
  refine Rn.n hT 4 (pc' := 101) (L' := [some (.ref q0), some (.ref q1), some (.int m2), some (.int (ms1 ||| ms0)), some (.int m4), some (.int m5), some (.int m6)]) (st' := [.int m6, .int (ms1 ||| ms0)]) rfl ?_
  by_cases c_1570 : x6 = 0
  · rw [if_pos c_1570] at e
    refine Rn.bt hT rfl rfl rfl (decide_eq_true ((ti_e p6 L32_0).mpr c_1570)) ?_
    exact Rn.weak (ll_s (ll_s (ll_s (ll_n (ll_s (ll_s (ll_n ll_e))))))) (RX9_marksOf_b117 hd hR t0 t1 p2 p4 p5 (ti_or ps1 ps0) hb hk hq e)
  · rw [if_neg c_1570] at e
    refine Rn.bf hT rfl rfl rfl (decide_eq_false (fun z => c_1570 ((ti_e p6 L32_0).mp z))) ?_
    refine Rn.n hT 1 (pc' := 105) (L' := [some (.ref q0), some (.ref q1), some (.int m2), some (.int (ms1 ||| ms0)), some (.int m4), some (.int m5), some (.int m6)]) (st' := [.ref q1, .int (ms1 ||| ms0)]) rfl ?_
    obtain ⟨z_1571, g_1571, p_1571⟩ : ∃ z : Int32, gI h 2 1 q1 = some z ∧ z.toInt = s q1 1 := rp_gI (k := 1) hR (T2_o t1) rfl
    refine Rn.hp hT rfl rfl (gI_hp g_1571) ?_
    refine Rn.n hT 2 (pc' := 110) (L' := [some (.ref q0), some (.ref q1), some (.int m2), some (.int (ms1 ||| ms0)), some (.int m4), some (.int m5), some (.int m6)]) (st' := [.int (z_1571 &&& (4 : Int32)), .int (ms1 ||| ms0)]) rfl ?_
    by_cases c_1572 : (bAn (s q1 1) 4) = 0
    · rw [if_pos c_1572] at e
      refine Rn.bf hT rfl rfl rfl (decide_eq_false (fun z => z ((ti_e (ti_and p_1571 L32_4) L32_0).mpr c_1572))) ?_
      refine Rn.n hT 2 (pc' := 118) (L' := [some (.ref q0), some (.ref q1), some (.int m2), some (.int (ms1 ||| ms0)), some (.int m4), some (.int m5), some (.int m6)]) (st' := [.int (2 : Int32), .int (ms1 ||| ms0)]) rfl ?_
      exact Rn.weak (ll_s (ll_s (ll_s (ll_n (ll_s (ll_s (ll_n ll_e))))))) (RX9_marksOf_b118 hd hR t0 t1 p2 p4 p5 L32_2 (ti_or ps1 ps0) hb hk hq e)
    · rw [if_neg c_1572] at e
      refine Rn.bt hT rfl rfl rfl (decide_eq_true (fun z => c_1572 ((ti_e (ti_and p_1571 L32_4) L32_0).mp z))) ?_
      exact Rn.weak (ll_s (ll_s (ll_s (ll_n (ll_s (ll_s (ll_n ll_e))))))) (RX9_marksOf_b117 hd hR t0 t1 p2 p4 p5 (ti_or ps1 ps0) hb hk hq e)
def FX9_marksOf_b95 (N : Nat) (s : iv_M) (q0 : Nat) (q1 : Nat) (x2 : Int) (x4 : Int) (x5 : Int) (x6 : Int) (xs0 : Int) (kb : iv_M → Int → Int → Option (Int × iv_M)) (kx : iv_M → Int → Option (Int × iv_M)) : Option (Int × iv_M) := (FX9_marksOf_b96 N s q0 q1 x2 x4 x5 x6 0 xs0 kb kx)
set_option maxRecDepth 10000 in
set_option maxHeartbeats 4000000 in
theorem RX9_marksOf_b95 {d N nc Ls : Nat} {Xs : Nat → Int32} (hd : 5 ≤ d) {h : iv_H} {s : iv_M} (hR : Rep nc Ls Xs h s) {q0 : Nat} (t0 : T9 nc q0) {q1 : Nat} (t1 : T2 nc q1) {m2 : Int32} {x2 : Int} (p2 : m2.toInt = x2) {m4 : Int32} {x4 : Int} (p4 : m4.toInt = x4) {m5 : Int32} {x5 : Int} (p5 : m5.toInt = x5) {m6 : Int32} {x6 : Int} (p6 : m6.toInt = x6) {ms0 : Int32} {xs0 : Int} (ps0 : ms0.toInt = xs0) {kb : iv_M → Int → Int → Option (Int × iv_M)} {kx : iv_M → Int → Option (Int × iv_M)} {r : Int × iv_M} {Q : Option Value → iv_H → Prop} (hb : ∀ (h : iv_H) (s : iv_M) (hR : Rep nc Ls Xs h s) (mw3 : Int32) (xw3 : Int) (pw3 : mw3.toInt = xw3) (mw4 : Int32) (xw4 : Int) (pw4 : mw4.toInt = xw4), kb s xw3 xw4 = some r → Rn d 121 (some .int) 5 [some (.ref q0), some (.ref q1), some (.int m2), some (.int mw3), some (.int mw4), none, none] [] h Q) (hk : ∀ (h : iv_H) (s : iv_M) (hR : Rep nc Ls Xs h s) (mw3 : Int32) (xw3 : Int) (pw3 : mw3.toInt = xw3), kx s xw3 = some r → Rn d 121 (some .int) 148 [some (.ref q0), some (.ref q1), some (.int m2), some (.int mw3), none, none, none] [] h Q) (hq : ∀ (z : Int32) (h1 : iv_H), z.toInt = r.1 → Rep nc Ls Xs h1 r.2 → Q (some (.int z)) h1) (e : FX9_marksOf_b95 N s q0 q1 x2 x4 x5 x6 xs0 kb kx = some r) : Rn d 121 (some .int) 95 [some (.ref q0), some (.ref q1), some (.int m2), none, some (.int m4), some (.int m5), some (.int m6)] [.int ms0] h Q := by
  have hT := hX9_marksOf
  unfold FX9_marksOf_b95 at e
  refine Rn.n hT 1 (pc' := 96) (L' := [some (.ref q0), some (.ref q1), some (.int m2), none, some (.int m4), some (.int m5), some (.int m6)]) (st' := [.int (0 : Int32), .int ms0]) rfl ?_
  exact Rn.weak (ll_s (ll_s (ll_s (ll_n (ll_s (ll_s (ll_s ll_e))))))) (RX9_marksOf_b96 hd hR t0 t1 p2 p4 p5 p6 L32_0 ps0 hb hk hq e)
def FX9_marksOf_b82 (N : Nat) (s : iv_M) (q0 : Nat) (q1 : Nat) (x2 : Int) (x4 : Int) (x5 : Int) (x6 : Int) (xs0 : Int) (kb : iv_M → Int → Int → Option (Int × iv_M)) (kx : iv_M → Int → Option (Int × iv_M)) : Option (Int × iv_M) := ((FX2_isFixed N s q1 x4).bind fun v_1568 => (if v_1568 = 0 then (FX9_marksOf_b95 N s q0 q1 x2 x4 x5 x6 xs0 kb kx) else (FX9_marksOf_b96 N s q0 q1 x2 x4 x5 x6 1 xs0 kb kx)))
set_option maxRecDepth 10000 in
set_option maxHeartbeats 4000000 in
theorem RX9_marksOf_b82 {d N nc Ls : Nat} {Xs : Nat → Int32} (hd : 5 ≤ d) {h : iv_H} {s : iv_M} (hR : Rep nc Ls Xs h s) {q0 : Nat} (t0 : T9 nc q0) {q1 : Nat} (t1 : T2 nc q1) {m2 : Int32} {x2 : Int} (p2 : m2.toInt = x2) {m4 : Int32} {x4 : Int} (p4 : m4.toInt = x4) {m5 : Int32} {x5 : Int} (p5 : m5.toInt = x5) {m6 : Int32} {x6 : Int} (p6 : m6.toInt = x6) {ms0 : Int32} {xs0 : Int} (ps0 : ms0.toInt = xs0) {kb : iv_M → Int → Int → Option (Int × iv_M)} {kx : iv_M → Int → Option (Int × iv_M)} {r : Int × iv_M} {Q : Option Value → iv_H → Prop} (hb : ∀ (h : iv_H) (s : iv_M) (hR : Rep nc Ls Xs h s) (mw3 : Int32) (xw3 : Int) (pw3 : mw3.toInt = xw3) (mw4 : Int32) (xw4 : Int) (pw4 : mw4.toInt = xw4), kb s xw3 xw4 = some r → Rn d 121 (some .int) 5 [some (.ref q0), some (.ref q1), some (.int m2), some (.int mw3), some (.int mw4), none, none] [] h Q) (hk : ∀ (h : iv_H) (s : iv_M) (hR : Rep nc Ls Xs h s) (mw3 : Int32) (xw3 : Int) (pw3 : mw3.toInt = xw3), kx s xw3 = some r → Rn d 121 (some .int) 148 [some (.ref q0), some (.ref q1), some (.int m2), some (.int mw3), none, none, none] [] h Q) (hq : ∀ (z : Int32) (h1 : iv_H), z.toInt = r.1 → Rep nc Ls Xs h1 r.2 → Q (some (.int z)) h1) (e : FX9_marksOf_b82 N s q0 q1 x2 x4 x5 x6 xs0 kb kx = some r) : Rn d 121 (some .int) 82 [some (.ref q0), some (.ref q1), some (.int m2), none, some (.int m4), some (.int m5), some (.int m6)] [.int ms0] h Q := by
  have hT := hX9_marksOf
  unfold FX9_marksOf_b82 at e
  refine Rn.n hT 2 (pc' := 85) (L' := [some (.ref q0), some (.ref q1), some (.int m2), none, some (.int m4), some (.int m5), some (.int m6)]) (st' := [.int m4, .ref q1, .int ms0]) rfl ?_
  obtain ⟨v_1568, e_1568, e⟩ := Option.bind_eq_some_iff.mp e
  refine Rn.call hT rfl rfl rfl (Nat.le_of_ble_eq_true rfl) (rcv_v gX2_isFixed (by omega) (rp_ck hR (T2_o t1))) (RX2_isFixed (by omega) hR t1 p4 e_1568 (fun z_1568 p_1568 => ?_))
  show Rn d _ _ 88 [some (.ref q0), some (.ref q1), some (.int m2), none, some (.int m4), some (.int m5), some (.int m6)] [.int z_1568, .int ms0] h Q
  by_cases c_1569 : v_1568 = 0
  · rw [if_pos c_1569] at e
    refine Rn.bt hT rfl rfl rfl (decide_eq_true ((ti_e p_1568 L32_0).mpr c_1569)) ?_
    exact Rn.weak (ll_s (ll_s (ll_s (ll_n (ll_s (ll_s (ll_s ll_e))))))) (RX9_marksOf_b95 hd hR t0 t1 p2 p4 p5 p6 ps0 hb hk hq e)
  · rw [if_neg c_1569] at e
    refine Rn.bf hT rfl rfl rfl (decide_eq_false (fun z => c_1569 ((ti_e p_1568 L32_0).mp z))) ?_
    refine Rn.n hT 2 (pc' := 96) (L' := [some (.ref q0), some (.ref q1), some (.int m2), none, some (.int m4), some (.int m5), some (.int m6)]) (st' := [.int (1 : Int32), .int ms0]) rfl ?_
    exact Rn.weak (ll_s (ll_s (ll_s (ll_n (ll_s (ll_s (ll_s ll_e))))))) (RX9_marksOf_b96 hd hR t0 t1 p2 p4 p5 p6 L32_1 ps0 hb hk hq e)
def FX9_marksOf_b69 (N : Nat) (s : iv_M) (q0 : Nat) (q1 : Nat) (x2 : Int) (x3 : Int) (x4 : Int) (x5 : Int) (xs0 : Int) (kb : iv_M → Int → Int → Option (Int × iv_M)) (kx : iv_M → Int → Option (Int × iv_M)) : Option (Int × iv_M) := (if x5 = 0 then (if xs0 = 0 then (FX9_marksOf_b95 N s q0 q1 x2 x4 x5 xs0 x3 kb kx) else (FX9_marksOf_b82 N s q0 q1 x2 x4 x5 xs0 x3 kb kx)) else (FX9_marksOf_b82 N s q0 q1 x2 x4 x5 xs0 x3 kb kx))
set_option maxRecDepth 10000 in
set_option maxHeartbeats 4000000 in
theorem RX9_marksOf_b69 {d N nc Ls : Nat} {Xs : Nat → Int32} (hd : 5 ≤ d) {h : iv_H} {s : iv_M} (hR : Rep nc Ls Xs h s) {q0 : Nat} (t0 : T9 nc q0) {q1 : Nat} (t1 : T2 nc q1) {m2 : Int32} {x2 : Int} (p2 : m2.toInt = x2) {m3 : Int32} {x3 : Int} (p3 : m3.toInt = x3) {m4 : Int32} {x4 : Int} (p4 : m4.toInt = x4) {m5 : Int32} {x5 : Int} (p5 : m5.toInt = x5) {ms0 : Int32} {xs0 : Int} (ps0 : ms0.toInt = xs0) {kb : iv_M → Int → Int → Option (Int × iv_M)} {kx : iv_M → Int → Option (Int × iv_M)} {r : Int × iv_M} {Q : Option Value → iv_H → Prop} (hb : ∀ (h : iv_H) (s : iv_M) (hR : Rep nc Ls Xs h s) (mw3 : Int32) (xw3 : Int) (pw3 : mw3.toInt = xw3) (mw4 : Int32) (xw4 : Int) (pw4 : mw4.toInt = xw4), kb s xw3 xw4 = some r → Rn d 121 (some .int) 5 [some (.ref q0), some (.ref q1), some (.int m2), some (.int mw3), some (.int mw4), none, none] [] h Q) (hk : ∀ (h : iv_H) (s : iv_M) (hR : Rep nc Ls Xs h s) (mw3 : Int32) (xw3 : Int) (pw3 : mw3.toInt = xw3), kx s xw3 = some r → Rn d 121 (some .int) 148 [some (.ref q0), some (.ref q1), some (.int m2), some (.int mw3), none, none, none] [] h Q) (hq : ∀ (z : Int32) (h1 : iv_H), z.toInt = r.1 → Rep nc Ls Xs h1 r.2 → Q (some (.int z)) h1) (e : FX9_marksOf_b69 N s q0 q1 x2 x3 x4 x5 xs0 kb kx = some r) : Rn d 121 (some .int) 69 [some (.ref q0), some (.ref q1), some (.int m2), some (.int m3), some (.int m4), some (.int m5), none] [.int ms0] h Q := by
  have hT := hX9_marksOf
  unfold FX9_marksOf_b69 at e
  refine Rn.n hT 3 (pc' := 74) (L' := [some (.ref q0), some (.ref q1), some (.int m2), some (.int m3), some (.int m4), some (.int m5), some (.int ms0)]) (st' := [.int m5, .int m3]) rfl ?_
  by_cases c_1566 : x5 = 0
  · rw [if_pos c_1566] at e
    refine Rn.bf hT rfl rfl rfl (decide_eq_false (fun z => z ((ti_e p5 L32_0).mpr c_1566))) ?_
    refine Rn.n hT 1 (pc' := 79) (L' := [some (.ref q0), some (.ref q1), some (.int m2), some (.int m3), some (.int m4), some (.int m5), some (.int ms0)]) (st' := [.int ms0, .int m3]) rfl ?_
    by_cases c_1567 : xs0 = 0
    · rw [if_pos c_1567] at e
      refine Rn.bt hT rfl rfl rfl (decide_eq_true ((ti_e ps0 L32_0).mpr c_1567)) ?_
      exact Rn.weak (ll_s (ll_s (ll_s (ll_n (ll_s (ll_s (ll_s ll_e))))))) (RX9_marksOf_b95 hd hR t0 t1 p2 p4 p5 ps0 p3 hb hk hq e)
    · rw [if_neg c_1567] at e
      refine Rn.bf hT rfl rfl rfl (decide_eq_false (fun z => c_1567 ((ti_e ps0 L32_0).mp z))) ?_
      exact Rn.weak (ll_s (ll_s (ll_s (ll_n (ll_s (ll_s (ll_s ll_e))))))) (RX9_marksOf_b82 hd hR t0 t1 p2 p4 p5 ps0 p3 hb hk hq e)
  · rw [if_neg c_1566] at e
    refine Rn.bt hT rfl rfl rfl (decide_eq_true (fun z => c_1566 ((ti_e p5 L32_0).mp z))) ?_
    exact Rn.weak (ll_s (ll_s (ll_s (ll_n (ll_s (ll_s (ll_s ll_e))))))) (RX9_marksOf_b82 hd hR t0 t1 p2 p4 p5 ps0 p3 hb hk hq e)
def FX9_marksOf_b42 (N : Nat) (s : iv_M) (q0 : Nat) (q1 : Nat) (x2 : Int) (x3 : Int) (x4 : Int) (xs0 : Int) (kb : iv_M → Int → Int → Option (Int × iv_M)) (kx : iv_M → Int → Option (Int × iv_M)) : Option (Int × iv_M) := ((FX2_draftTurn N s q1 x2 x4).bind fun v_1563 => ((rd s ((q1 + 1) + 2) 12 x4).bind fun v_1564 => (if v_1563 = v_1564 then (FX9_marksOf_b69 N s q0 q1 x2 x3 x4 xs0 0 kb kx) else (FX9_marksOf_b69 N s q0 q1 x2 x3 x4 xs0 1 kb kx))))
set_option maxRecDepth 10000 in
set_option maxHeartbeats 4000000 in
theorem RX9_marksOf_b42 {d N nc Ls : Nat} {Xs : Nat → Int32} (hd : 5 ≤ d) {h : iv_H} {s : iv_M} (hR : Rep nc Ls Xs h s) {q0 : Nat} (t0 : T9 nc q0) {q1 : Nat} (t1 : T2 nc q1) {m2 : Int32} {x2 : Int} (p2 : m2.toInt = x2) {m3 : Int32} {x3 : Int} (p3 : m3.toInt = x3) {m4 : Int32} {x4 : Int} (p4 : m4.toInt = x4) {ms0 : Int32} {xs0 : Int} (ps0 : ms0.toInt = xs0) {kb : iv_M → Int → Int → Option (Int × iv_M)} {kx : iv_M → Int → Option (Int × iv_M)} {r : Int × iv_M} {Q : Option Value → iv_H → Prop} (hb : ∀ (h : iv_H) (s : iv_M) (hR : Rep nc Ls Xs h s) (mw3 : Int32) (xw3 : Int) (pw3 : mw3.toInt = xw3) (mw4 : Int32) (xw4 : Int) (pw4 : mw4.toInt = xw4), kb s xw3 xw4 = some r → Rn d 121 (some .int) 5 [some (.ref q0), some (.ref q1), some (.int m2), some (.int mw3), some (.int mw4), none, none] [] h Q) (hk : ∀ (h : iv_H) (s : iv_M) (hR : Rep nc Ls Xs h s) (mw3 : Int32) (xw3 : Int) (pw3 : mw3.toInt = xw3), kx s xw3 = some r → Rn d 121 (some .int) 148 [some (.ref q0), some (.ref q1), some (.int m2), some (.int mw3), none, none, none] [] h Q) (hq : ∀ (z : Int32) (h1 : iv_H), z.toInt = r.1 → Rep nc Ls Xs h1 r.2 → Q (some (.int z)) h1) (e : FX9_marksOf_b42 N s q0 q1 x2 x3 x4 xs0 kb kx = some r) : Rn d 121 (some .int) 42 [some (.ref q0), some (.ref q1), some (.int m2), some (.int m3), some (.int m4), none, none] [.int ms0] h Q := by
  have hT := hX9_marksOf
  unfold FX9_marksOf_b42 at e
  refine Rn.n hT 4 (pc' := 48) (L' := [some (.ref q0), some (.ref q1), some (.int m2), some (.int m3), some (.int m4), some (.int ms0), none]) (st' := [.int m4, .int m2, .ref q1]) rfl ?_
  obtain ⟨v_1563, e_1563, e⟩ := Option.bind_eq_some_iff.mp e
  refine Rn.call hT rfl rfl rfl (Nat.le_of_ble_eq_true rfl) (rcv_v gX2_draftTurn (by omega) (rp_ck hR (T2_o t1))) (RX2_draftTurn (by omega) hR t1 p2 p4 e_1563 (fun z_1563 p_1563 => ?_))
  show Rn d _ _ 51 [some (.ref q0), some (.ref q1), some (.int m2), some (.int m3), some (.int m4), some (.int ms0), none] [.int z_1563] h Q
  refine Rn.n hT 1 (pc' := 52) (L' := [some (.ref q0), some (.ref q1), some (.int m2), some (.int m3), some (.int m4), some (.int ms0), none]) (st' := [.ref q1, .int z_1563]) rfl ?_
  refine Rn.hp hT rfl rfl (gR_hp (rp_gR hR (T2_o t1) rfl)) ?_
  refine Rn.hp hT rfl rfl (gR_hp (rp_gR hR (T1_o (T2_9 t1)) rfl)) ?_
  refine Rn.n hT 1 (pc' := 60) (L' := [some (.ref q0), some (.ref q1), some (.int m2), some (.int m3), some (.int m4), some (.int ms0), none]) (st' := [.int m4, .ref ((q1 + 1) + 2), .int z_1563]) rfl ?_
  obtain ⟨v_1564, e_1564, e⟩ := Option.bind_eq_some_iff.mp e
  obtain ⟨z_1564, g_1564, p_1564⟩ := rp_aI hR (T1_6 (T2_9 t1)) (T1_6l (T2_9 t1)) p4 e_1564
  refine Rn.hp hT rfl rfl (aI_hp g_1564) ?_
  by_cases c_1565 : v_1563 = v_1564
  · rw [if_pos c_1565] at e
    refine Rn.bt hT rfl rfl rfl (decide_eq_true ((ti_e p_1563 p_1564).mpr c_1565)) ?_
    refine Rn.n hT 1 (pc' := 69) (L' := [some (.ref q0), some (.ref q1), some (.int m2), some (.int m3), some (.int m4), some (.int ms0), none]) (st' := [.int (0 : Int32)]) rfl ?_
    exact Rn.weak (ll_s (ll_s (ll_s (ll_s (ll_s (ll_s (ll_n ll_e))))))) (RX9_marksOf_b69 hd hR t0 t1 p2 p3 p4 ps0 L32_0 hb hk hq e)
  · rw [if_neg c_1565] at e
    refine Rn.bf hT rfl rfl rfl (decide_eq_false (fun z => c_1565 ((ti_e p_1563 p_1564).mp z))) ?_
    refine Rn.n hT 2 (pc' := 69) (L' := [some (.ref q0), some (.ref q1), some (.int m2), some (.int m3), some (.int m4), some (.int ms0), none]) (st' := [.int (1 : Int32)]) rfl ?_
    exact Rn.weak (ll_s (ll_s (ll_s (ll_s (ll_s (ll_s (ll_n ll_e))))))) (RX9_marksOf_b69 hd hR t0 t1 p2 p3 p4 ps0 L32_1 hb hk hq e)
def FX9_marksOf_l5 (N : Nat) (q0 : Nat) (q1 : Nat) (x2 : Int) (kx : iv_M → Int → Option (Int × iv_M)) : Nat → iv_M → Int → Int → Option (Int × iv_M)
  | 0, _, _, _ => none
  | n + 1, s, x3, x4 => (if (s (q1 + 1) 2) ≤ x4 then (kx s x3) else ((FX2_draftCell N s q1 x2 x4).bind fun v_1560 => ((rd s ((q1 + 1) + 1) 12 x4).bind fun v_1561 => (if v_1560 = v_1561 then (FX9_marksOf_b42 N s q0 q1 x2 x3 x4 0 (FX9_marksOf_l5 N q0 q1 x2 kx n) kx) else (FX9_marksOf_b42 N s q0 q1 x2 x3 x4 1 (FX9_marksOf_l5 N q0 q1 x2 kx n) kx)))))
set_option maxRecDepth 10000 in
set_option maxHeartbeats 4000000 in
theorem RX9_marksOf_l5 {d N nc Ls : Nat} {Xs : Nat → Int32} (hd : 5 ≤ d) {q0 : Nat} (t0 : T9 nc q0) {q1 : Nat} (t1 : T2 nc q1) {m2 : Int32} {x2 : Int} (p2 : m2.toInt = x2) {kx : iv_M → Int → Option (Int × iv_M)} {r : Int × iv_M} {Q : Option Value → iv_H → Prop} (hk : ∀ (h : iv_H) (s : iv_M) (hR : Rep nc Ls Xs h s) (m3 : Int32) (x3 : Int) (p3 : m3.toInt = x3), kx s x3 = some r → Rn d 121 (some .int) 148 [some (.ref q0), some (.ref q1), some (.int m2), some (.int m3), none, none, none] [] h Q) (hq : ∀ (z : Int32) (h1 : iv_H), z.toInt = r.1 → Rep nc Ls Xs h1 r.2 → Q (some (.int z)) h1) : ∀ (n : Nat) (h : iv_H) (s : iv_M) (hR : Rep nc Ls Xs h s) (m3 : Int32) (x3 : Int) (p3 : m3.toInt = x3) (m4 : Int32) (x4 : Int) (p4 : m4.toInt = x4), FX9_marksOf_l5 N q0 q1 x2 kx n s x3 x4 = some r → Rn d 121 (some .int) 5 [some (.ref q0), some (.ref q1), some (.int m2), some (.int m3), some (.int m4), none, none] [] h Q := by
  have hT := hX9_marksOf
  intro n
  induction n with
  | zero =>
    intro h s hR m3 x3 p3 m4 x4 p4 e
    rw [FX9_marksOf_l5] at e
    cases e
  | succ n ih =>
    intro h s hR m3 x3 p3 m4 x4 p4 e
    rw [FX9_marksOf_l5] at e
    refine Rn.n hT 2 (pc' := 8) (L' := [some (.ref q0), some (.ref q1), some (.int m2), some (.int m3), some (.int m4), none, none]) (st' := [.ref q1, .int m4]) rfl ?_
    refine Rn.hp hT rfl rfl (gR_hp (rp_gR hR (T2_o t1) rfl)) ?_
    obtain ⟨z_1558, g_1558, p_1558⟩ : ∃ z : Int32, gI h 1 2 (q1 + 1) = some z ∧ z.toInt = s (q1 + 1) 2 := rp_gI (k := 2) hR (T1_o (T2_9 t1)) rfl
    refine Rn.hp hT rfl rfl (gI_hp g_1558) ?_
    by_cases c_1559 : (s (q1 + 1) 2) ≤ x4
    · rw [if_pos c_1559] at e
      refine Rn.bt hT rfl rfl rfl (decide_eq_true ((ti_le p_1558 p4).mpr c_1559)) ?_
      exact Rn.weak (ll_s (ll_s (ll_s (ll_s (ll_n (ll_n (ll_n ll_e))))))) (hk h s hR m3 x3 p3 e)
    · rw [if_neg c_1559] at e
      refine Rn.bf hT rfl rfl rfl (decide_eq_false (fun z => c_1559 ((ti_le p_1558 p4).mp z))) ?_
      refine Rn.n hT 3 (pc' := 21) (L' := [some (.ref q0), some (.ref q1), some (.int m2), some (.int m3), some (.int m4), none, none]) (st' := [.int m4, .int m2, .ref q1]) rfl ?_
      obtain ⟨v_1560, e_1560, e⟩ := Option.bind_eq_some_iff.mp e
      refine Rn.call hT rfl rfl rfl (Nat.le_of_ble_eq_true rfl) (rcv_v gX2_draftCell (by omega) (rp_ck hR (T2_o t1))) (RX2_draftCell (by omega) hR t1 p2 p4 e_1560 (fun z_1560 p_1560 => ?_))
      show Rn d _ _ 24 [some (.ref q0), some (.ref q1), some (.int m2), some (.int m3), some (.int m4), none, none] [.int z_1560] h Q
      refine Rn.n hT 1 (pc' := 25) (L' := [some (.ref q0), some (.ref q1), some (.int m2), some (.int m3), some (.int m4), none, none]) (st' := [.ref q1, .int z_1560]) rfl ?_
      refine Rn.hp hT rfl rfl (gR_hp (rp_gR hR (T2_o t1) rfl)) ?_
      refine Rn.hp hT rfl rfl (gR_hp (rp_gR hR (T1_o (T2_9 t1)) rfl)) ?_
      refine Rn.n hT 1 (pc' := 33) (L' := [some (.ref q0), some (.ref q1), some (.int m2), some (.int m3), some (.int m4), none, none]) (st' := [.int m4, .ref ((q1 + 1) + 1), .int z_1560]) rfl ?_
      obtain ⟨v_1561, e_1561, e⟩ := Option.bind_eq_some_iff.mp e
      obtain ⟨z_1561, g_1561, p_1561⟩ := rp_aI hR (T1_5 (T2_9 t1)) (T1_5l (T2_9 t1)) p4 e_1561
      refine Rn.hp hT rfl rfl (aI_hp g_1561) ?_
      by_cases c_1562 : v_1560 = v_1561
      · rw [if_pos c_1562] at e
        refine Rn.bt hT rfl rfl rfl (decide_eq_true ((ti_e p_1560 p_1561).mpr c_1562)) ?_
        refine Rn.n hT 1 (pc' := 42) (L' := [some (.ref q0), some (.ref q1), some (.int m2), some (.int m3), some (.int m4), none, none]) (st' := [.int (0 : Int32)]) rfl ?_
        exact Rn.weak (ll_s (ll_s (ll_s (ll_s (ll_s (ll_n (ll_n ll_e))))))) (RX9_marksOf_b42 hd hR t0 t1 p2 p3 p4 L32_0 ih hk hq e)
      · rw [if_neg c_1562] at e
        refine Rn.bf hT rfl rfl rfl (decide_eq_false (fun z => c_1562 ((ti_e p_1560 p_1561).mp z))) ?_
        refine Rn.n hT 2 (pc' := 42) (L' := [some (.ref q0), some (.ref q1), some (.int m2), some (.int m3), some (.int m4), none, none]) (st' := [.int (1 : Int32)]) rfl ?_
        exact Rn.weak (ll_s (ll_s (ll_s (ll_s (ll_s (ll_n (ll_n ll_e))))))) (RX9_marksOf_b42 hd hR t0 t1 p2 p3 p4 L32_1 ih hk hq e)
def FX9_marksOf_b182 (N : Nat) (s : iv_M) (x3 : Int)  : Option (Int × iv_M) := (some (x3, s))
set_option maxRecDepth 10000 in
set_option maxHeartbeats 4000000 in
theorem RX9_marksOf_b182 {d N nc Ls : Nat} {Xs : Nat → Int32} (hd : 5 ≤ d) {h : iv_H} {s : iv_M} (hR : Rep nc Ls Xs h s) {m3 : Int32} {x3 : Int} (p3 : m3.toInt = x3)  {r : Int × iv_M} {Q : Option Value → iv_H → Prop} (hq : ∀ (z : Int32) (h1 : iv_H), z.toInt = r.1 → Rep nc Ls Xs h1 r.2 → Q (some (.int z)) h1) (e : FX9_marksOf_b182 N s x3  = some r) : Rn d 121 (some .int) 182 [none, none, none, some (.int m3), none, none, none] [] h Q := by
  have hT := hX9_marksOf
  unfold FX9_marksOf_b182 at e
  refine Rn.n hT 1 (pc' := 183) (L' := [none, none, none, some (.int m3), none, none, none]) (st' := [.int m3]) rfl ?_
  obtain rfl := Option.some.inj e
  exact Rn.ret hT rfl rfl rfl (hq m3 h p3 hR)
def FX9_marksOf (N : Nat) (s : iv_M) (q0 : Nat) (q1 : Nat) (x2 : Int) : Option (Int × iv_M) := (FX9_marksOf_l5 N q0 q1 x2 (fun (s_1549 : iv_M) (x1550_3 : Int) => (if (bAn (s_1549 q1 1) 2) = 0 then ((FX1_emptyCells N s_1549 (q1 + 1)).bind fun v_1553 => (if v_1553 = 1 then ((FX9_isOdd N s_1549 q0 q1 x2).bind fun r_1555 => (fun (v_1555 : Int) (s_1556 : iv_M) => (if v_1555 = 0 then (FX9_marksOf_b182 N s_1556 x1550_3) else (FX9_marksOf_b182 N s_1556 (bOr x1550_3 8)))) r_1555.1 r_1555.2) else (FX9_marksOf_b182 N s_1549 x1550_3))) else (FX9_marksOf_b182 N s_1549 x1550_3))) N s 0 0)
set_option maxRecDepth 10000 in
set_option maxHeartbeats 4000000 in
theorem RX9_marksOf {d N nc Ls : Nat} {Xs : Nat → Int32} (hd : 6 ≤ d) {h : iv_H} {s : iv_M} (hR : Rep nc Ls Xs h s) {q0 : Nat} (t0 : T9 nc q0) {q1 : Nat} (t1 : T2 nc q1) {m2 : Int32} {x2 : Int} (p2 : m2.toInt = x2) {r : Int × iv_M} {Q : Option Value → iv_H → Prop} (e : FX9_marksOf N s q0 q1 x2 = some r) (hq : ∀ (z : Int32) (h1 : iv_H), z.toInt = r.1 → Rep nc Ls Xs h1 r.2 → Q (some (.int z)) h1) : Cl d 121 [.ref q0, .ref q1, .int m2] h Q := by
  obtain ⟨d, rfl⟩ : ∃ k, d = k + 1 := ⟨d - 1, by omega⟩
  have hd : 5 ≤ d := by omega
  have hT := hX9_marksOf
  unfold FX9_marksOf at e
  refine Cl.into (by decide) gX9_marksOf rfl ?_
  show Rn d 121 (some .int) 0 [some (.ref q0), some (.ref q1), some (.int m2), none, none, none, none] [] h Q
  refine Rn.n hT 4 (pc' := 5) (L' := [some (.ref q0), some (.ref q1), some (.int m2), some (.int (0 : Int32)), some (.int (0 : Int32)), none, none]) (st' := []) rfl ?_
  refine Rn.weak (ll_s (ll_s (ll_s (ll_s (ll_s (ll_n (ll_n ll_e))))))) (RX9_marksOf_l5 hd t0 t1 p2 (fun h_1549 s_1549 R_1549 m1550_3 x1550_3 p1550_3 e => ?_) hq N h s hR (0 : Int32) 0 L32_0 (0 : Int32) 0 L32_0 e)
  try dsimp only at e
  refine Rn.n hT 1 (pc' := 149) (L' := [some (.ref q0), some (.ref q1), some (.int m2), some (.int m1550_3), none, none, none]) (st' := [.ref q1]) rfl ?_
  obtain ⟨z_1551, g_1551, p_1551⟩ : ∃ z : Int32, gI h_1549 2 1 q1 = some z ∧ z.toInt = s_1549 q1 1 := rp_gI (k := 1) R_1549 (T2_o t1) rfl
  refine Rn.hp hT rfl rfl (gI_hp g_1551) ?_
  refine Rn.n hT 2 (pc' := 154) (L' := [some (.ref q0), some (.ref q1), some (.int m2), some (.int m1550_3), none, none, none]) (st' := [.int (z_1551 &&& (2 : Int32))]) rfl ?_
  by_cases c_1552 : (bAn (s_1549 q1 1) 2) = 0
  · rw [if_pos c_1552] at e
    refine Rn.bf hT rfl rfl rfl (decide_eq_false (fun z => z ((ti_e (ti_and p_1551 L32_2) L32_0).mpr c_1552))) ?_
    refine Rn.n hT 1 (pc' := 158) (L' := [some (.ref q0), some (.ref q1), some (.int m2), some (.int m1550_3), none, none, none]) (st' := [.ref q1]) rfl ?_
    refine Rn.hp hT rfl rfl (gR_hp (rp_gR R_1549 (T2_o t1) rfl)) ?_
    obtain ⟨v_1553, e_1553, e⟩ := Option.bind_eq_some_iff.mp e
    refine Rn.call hT rfl rfl rfl (Nat.le_of_ble_eq_true rfl) (rcv_v gX1_emptyCells (by omega) (rp_ck R_1549 (T1_o (T2_9 t1)))) (RX1_emptyCells (by omega) R_1549 (T2_9 t1) e_1553 (fun z_1553 p_1553 => ?_))
    show Rn d _ _ 164 [some (.ref q0), some (.ref q1), some (.int m2), some (.int m1550_3), none, none, none] [.int z_1553] h_1549 Q
    refine Rn.n hT 1 (pc' := 165) (L' := [some (.ref q0), some (.ref q1), some (.int m2), some (.int m1550_3), none, none, none]) (st' := [.int (1 : Int32), .int z_1553]) rfl ?_
    by_cases c_1554 : v_1553 = 1
    · rw [if_pos c_1554] at e
      refine Rn.bf hT rfl rfl rfl (decide_eq_false (fun z => z ((ti_e p_1553 L32_1).mpr c_1554))) ?_
      refine Rn.n hT 3 (pc' := 171) (L' := [some (.ref q0), some (.ref q1), some (.int m2), some (.int m1550_3), none, none, none]) (st' := [.int m2, .ref q1, .ref q0]) rfl ?_
      obtain ⟨⟨v_1555, s_1556⟩, e_1555, e⟩ := Option.bind_eq_some_iff.mp e
      try dsimp only at e
      try dsimp only at e
      refine Rn.call hT rfl rfl rfl (Nat.le_of_ble_eq_true rfl) (rcv_v gX9_isOdd (by omega) (rp_ck R_1549 (T9_o t0))) (RX9_isOdd (by omega) R_1549 t0 t1 p2 e_1555 (fun z_1555 h_1556 p_1555 R_1556 => ?_))
      show Rn d _ _ 174 [some (.ref q0), some (.ref q1), some (.int m2), some (.int m1550_3), none, none, none] [.int z_1555] h_1556 Q
      by_cases c_1557 : v_1555 = 0
      · rw [if_pos c_1557] at e
        refine Rn.bt hT rfl rfl rfl (decide_eq_true ((ti_e p_1555 L32_0).mpr c_1557)) ?_
        exact Rn.weak (ll_n (ll_n (ll_n (ll_s (ll_n (ll_n (ll_n ll_e))))))) (RX9_marksOf_b182 hd R_1556 p1550_3 hq e)
      · rw [if_neg c_1557] at e
        refine Rn.bf hT rfl rfl rfl (decide_eq_false (fun z => c_1557 ((ti_e p_1555 L32_0).mp z))) ?_
        refine Rn.n hT 4 (pc' := 182) (L' := [some (.ref q0), some (.ref q1), some (.int m2), some (.int (m1550_3 ||| (8 : Int32))), none, none, none]) (st' := []) rfl ?_
        exact Rn.weak (ll_n (ll_n (ll_n (ll_s (ll_n (ll_n (ll_n ll_e))))))) (RX9_marksOf_b182 hd R_1556 (ti_or p1550_3 L32_8) hq e)
    · rw [if_neg c_1554] at e
      refine Rn.bt hT rfl rfl rfl (decide_eq_true (fun z => c_1554 ((ti_e p_1553 L32_1).mp z))) ?_
      exact Rn.weak (ll_n (ll_n (ll_n (ll_s (ll_n (ll_n (ll_n ll_e))))))) (RX9_marksOf_b182 hd R_1549 p1550_3 hq e)
  · rw [if_neg c_1552] at e
    refine Rn.bt hT rfl rfl rfl (decide_eq_true (fun z => c_1552 ((ti_e (ti_and p_1551 L32_2) L32_0).mp z))) ?_
    exact Rn.weak (ll_n (ll_n (ll_n (ll_s (ll_n (ll_n (ll_n ll_e))))))) (RX9_marksOf_b182 hd R_1549 p1550_3 hq e)
set_option maxRecDepth 10000 in
theorem hX10_begin : iv_Tb 125 tX10_begin := iv_tb_of (m := mX10_begin) rfl
set_option maxRecDepth 10000 in
theorem gX10_begin : PG.2 125 = some mX10_begin := iv_pi_of (t := tX10_begin) rfl (by decide)
def FX10_begin (N : Nat) (s : iv_M) (q0 : Nat) (q1 : Nat) (o2 : Int) : Option (iv_M) := ((FX1_copyFrom N s (q0 + 1) (q1 + 1)).bind fun s_1577 => ((FX3_open N s_1577 (q0 + 8) q1 (q0 + 1) o2).bind fun s_1579 => ((pt s_1579 q0 2 0).bind fun s_1580 => some s_1580)))
set_option maxRecDepth 10000 in
set_option maxHeartbeats 4000000 in
theorem RX10_begin {d N nc Ls : Nat} {Xs : Nat → Int32} (hd : 5 ≤ d) {h : iv_H} {s : iv_M} (hR : Rep nc Ls Xs h s) {q0 : Nat} (t0 : T10 nc q0) {q1 : Nat} (t1 : T2 nc q1) {o2 : Int} (t2 : (o2 < 0 ∨ TR nc (o2).toNat)) {r : iv_M} {Q : Option Value → iv_H → Prop} (e : FX10_begin N s q0 q1 o2 = some r) (hq : ∀ h1, Rep nc Ls Xs h1 r → Q none h1) : Cl d 125 [.ref q0, .ref q1, iv_rf (rvo o2)] h Q := by
  obtain ⟨d, rfl⟩ : ∃ k, d = k + 1 := ⟨d - 1, by omega⟩
  have hd : 4 ≤ d := by omega
  have hT := hX10_begin
  unfold FX10_begin at e
  have he : iv_ent 3 [.ref q0, .ref q1, iv_rf (rvo o2)] = [some (.ref q0), some (.ref q1), some (iv_rf (rvo o2))] := by cases rvo o2 <;> rfl
  refine Cl.into (by decide) gX10_begin (by rw [he]; rfl) ?_
  rw [he]
  refine Rn.n hT 1 (pc' := 1) (L' := [some (.ref q0), some (.ref q1), some (iv_rf (rvo o2))]) (st' := [.ref q0]) rfl ?_
  refine Rn.hp hT rfl rfl (gR_hp (rp_gR hR (T10_o t0) rfl)) ?_
  refine Rn.n hT 1 (pc' := 5) (L' := [some (.ref q0), some (.ref q1), some (iv_rf (rvo o2))]) (st' := [.ref q1, .ref (q0 + 1)]) rfl ?_
  refine Rn.hp hT rfl rfl (gR_hp (rp_gR hR (T2_o t1) rfl)) ?_
  obtain ⟨s_1577, e_1576, e⟩ := Option.bind_eq_some_iff.mp e
  refine Rn.call hT rfl rfl rfl (Nat.le_of_ble_eq_true rfl) (rcv_v gX1_copyFrom (by omega) (rp_ck hR (T1_o (T10_0 t0)))) (RX1_copyFrom (by omega) hR (T10_0 t0) (T2_9 t1) e_1576 (fun h_1577 R_1577 => ?_))
  show Rn d _ _ 11 [some (.ref q0), some (.ref q1), some (iv_rf (rvo o2))] [] h_1577 Q
  refine Rn.n hT 1 (pc' := 12) (L' := [some (.ref q0), some (.ref q1), some (iv_rf (rvo o2))]) (st' := [.ref q0]) rfl ?_
  refine Rn.hp hT rfl rfl (gR_hp (rp_gR R_1577 (T10_o t0) rfl)) ?_
  refine Rn.n hT 2 (pc' := 17) (L' := [some (.ref q0), some (.ref q1), some (iv_rf (rvo o2))]) (st' := [.ref q0, .ref q1, .ref (q0 + 8)]) rfl ?_
  refine Rn.hp hT rfl rfl (gR_hp (rp_gR R_1577 (T10_o t0) rfl)) ?_
  refine Rn.lo hT rfl rfl (L' := [some (.ref q0), some (.ref q1), some (iv_rf (rvo o2))]) (st' := [iv_rf (rvo o2), .ref (q0 + 1), .ref q1, .ref (q0 + 8)]) (ldN (o := (rvo o2)) rfl) ?_
  obtain ⟨s_1579, e_1578, e⟩ := Option.bind_eq_some_iff.mp e
  refine Rn.call hT rfl rfl rfl (Nat.le_of_ble_eq_true rfl) (rcv_v gX3_open (by omega) (rp_ck R_1577 (T3_o (T10_1 t0)))) (RX3_open (by omega) R_1577 (T10_1 t0) t1 (T10_0 t0) t2 e_1578 (fun h_1579 R_1579 => ?_))
  show Rn d _ _ 24 [some (.ref q0), some (.ref q1), some (iv_rf (rvo o2))] [] h_1579 Q
  refine Rn.n hT 2 (pc' := 26) (L' := [some (.ref q0), some (.ref q1), some (iv_rf (rvo o2))]) (st' := [.int (0 : Int32), .ref q0]) rfl ?_
  obtain ⟨s_1580, e_1581, e⟩ := Option.bind_eq_some_iff.mp e
  obtain ⟨h_1580, g_1581, R_1580⟩ := rp_pI (ci := 10) (k := 2) R_1579 (T10_o t0) rfl rfl L32_0 e_1581
  refine Rn.hp hT rfl rfl (pV_hp rfl g_1581) ?_
  obtain rfl := Option.some.inj e
  exact Rn.ret hT rfl rfl rfl (hq h_1580 R_1580)
set_option maxRecDepth 10000 in
theorem hX10_liveOne : iv_Tb 126 tX10_liveOne := iv_tb_of (m := mX10_liveOne) rfl
set_option maxRecDepth 10000 in
theorem gX10_liveOne : PG.2 126 = some mX10_liveOne := iv_pi_of (t := tX10_liveOne) rfl (by decide)
def FX10_liveOne_b39 (N : Nat) (s : iv_M) (q0 : Nat)  : Option (iv_M) := ((pt s (q0 + 8) 4 (w32 ((s (q0 + 8) 4) + 1))).bind fun s_1593 => some s_1593)
set_option maxRecDepth 10000 in
set_option maxHeartbeats 4000000 in
theorem RX10_liveOne_b39 {d N nc Ls : Nat} {Xs : Nat → Int32} (hd : 4 ≤ d) {h : iv_H} {s : iv_M} (hR : Rep nc Ls Xs h s) {q0 : Nat} (t0 : T10 nc q0)  {r : iv_M} {Q : Option Value → iv_H → Prop} (hq : ∀ h1, Rep nc Ls Xs h1 r → Q none h1) (e : FX10_liveOne_b39 N s q0  = some r) : Rn d 126 none 39 [some (.ref q0), none] [] h Q := by
  have hT := hX10_liveOne
  unfold FX10_liveOne_b39 at e
  refine Rn.n hT 1 (pc' := 40) (L' := [some (.ref q0), none]) (st' := [.ref q0]) rfl ?_
  refine Rn.hp hT rfl rfl (gR_hp (rp_gR hR (T10_o t0) rfl)) ?_
  refine Rn.n hT 1 (pc' := 44) (L' := [some (.ref q0), none]) (st' := [.ref (q0 + 8), .ref (q0 + 8)]) rfl ?_
  obtain ⟨z_1592, g_1592, p_1592⟩ : ∃ z : Int32, gI h 3 4 (q0 + 8) = some z ∧ z.toInt = s (q0 + 8) 4 := rp_gI (k := 4) hR (T3_o (T10_1 t0)) rfl
  refine Rn.hp hT rfl rfl (gI_hp g_1592) ?_
  refine Rn.n hT 2 (pc' := 49) (L' := [some (.ref q0), none]) (st' := [.int (z_1592 + (1 : Int32)), .ref (q0 + 8)]) rfl ?_
  obtain ⟨s_1593, e_1594, e⟩ := Option.bind_eq_some_iff.mp e
  obtain ⟨h_1593, g_1594, R_1593⟩ := rp_pI (ci := 3) (k := 4) hR (T3_o (T10_1 t0)) rfl rfl (ti_add p_1592 L32_1) e_1594
  refine Rn.hp hT rfl rfl (pV_hp rfl g_1594) ?_
  obtain rfl := Option.some.inj e
  exact Rn.ret hT rfl rfl rfl (hq h_1593 R_1593)
def FX10_liveOne (N : Nat) (s : iv_M) (q0 : Nat) (x1 : Int) : Option (iv_M) := ((FX3_broken N s (q0 + 8) x1).bind fun r_1582 => (fun (v_1582 : Int) (s_1583 : iv_M) => (if v_1582 = 0 then ((FX1_go N s_1583 (q0 + 1) x1).bind fun s_1589 => ((FX3_look N s_1589 (q0 + 8)).bind fun s_1591 => (FX10_liveOne_b39 N s_1591 q0))) else ((pt s_1583 q0 2 (w32 ((s_1583 q0 2) + 1))).bind fun s_1586 => (FX10_liveOne_b39 N s_1586 q0)))) r_1582.1 r_1582.2)
set_option maxRecDepth 10000 in
set_option maxHeartbeats 4000000 in
theorem RX10_liveOne {d N nc Ls : Nat} {Xs : Nat → Int32} (hd : 5 ≤ d) {h : iv_H} {s : iv_M} (hR : Rep nc Ls Xs h s) {q0 : Nat} (t0 : T10 nc q0) {m1 : Int32} {x1 : Int} (p1 : m1.toInt = x1) {r : iv_M} {Q : Option Value → iv_H → Prop} (e : FX10_liveOne N s q0 x1 = some r) (hq : ∀ h1, Rep nc Ls Xs h1 r → Q none h1) : Cl d 126 [.ref q0, .int m1] h Q := by
  obtain ⟨d, rfl⟩ : ∃ k, d = k + 1 := ⟨d - 1, by omega⟩
  have hd : 4 ≤ d := by omega
  have hT := hX10_liveOne
  unfold FX10_liveOne at e
  refine Cl.into (by decide) gX10_liveOne rfl ?_
  show Rn d 126 none 0 [some (.ref q0), some (.int m1)] [] h Q
  refine Rn.n hT 1 (pc' := 1) (L' := [some (.ref q0), some (.int m1)]) (st' := [.ref q0]) rfl ?_
  refine Rn.hp hT rfl rfl (gR_hp (rp_gR hR (T10_o t0) rfl)) ?_
  refine Rn.n hT 1 (pc' := 5) (L' := [some (.ref q0), some (.int m1)]) (st' := [.int m1, .ref (q0 + 8)]) rfl ?_
  obtain ⟨⟨v_1582, s_1583⟩, e_1582, e⟩ := Option.bind_eq_some_iff.mp e
  try dsimp only at e
  try dsimp only at e
  refine Rn.call hT rfl rfl rfl (Nat.le_of_ble_eq_true rfl) (rcv_v gX3_broken (by omega) (rp_ck hR (T3_o (T10_1 t0)))) (RX3_broken (by omega) hR (T10_1 t0) p1 e_1582 (fun z_1582 h_1583 p_1582 R_1583 => ?_))
  show Rn d _ _ 8 [some (.ref q0), some (.int m1)] [.int z_1582] h_1583 Q
  by_cases c_1584 : v_1582 = 0
  · rw [if_pos c_1584] at e
    refine Rn.bf hT rfl rfl rfl (decide_eq_false (fun z => z ((ti_e p_1582 L32_0).mpr c_1584))) ?_
    refine Rn.n hT 1 (pc' := 12) (L' := [some (.ref q0), some (.int m1)]) (st' := [.ref q0]) rfl ?_
    refine Rn.hp hT rfl rfl (gR_hp (rp_gR R_1583 (T10_o t0) rfl)) ?_
    refine Rn.n hT 1 (pc' := 16) (L' := [some (.ref q0), some (.int m1)]) (st' := [.int m1, .ref (q0 + 1)]) rfl ?_
    obtain ⟨s_1589, e_1588, e⟩ := Option.bind_eq_some_iff.mp e
    refine Rn.call hT rfl rfl rfl (Nat.le_of_ble_eq_true rfl) (rcv_v gX1_go (by omega) (rp_ck R_1583 (T1_o (T10_0 t0)))) (RX1_go (by omega) R_1583 (T10_0 t0) p1 e_1588 (fun h_1589 R_1589 => ?_))
    show Rn d _ _ 19 [some (.ref q0), some (.int m1)] [] h_1589 Q
    refine Rn.n hT 1 (pc' := 20) (L' := [some (.ref q0), some (.int m1)]) (st' := [.ref q0]) rfl ?_
    refine Rn.hp hT rfl rfl (gR_hp (rp_gR R_1589 (T10_o t0) rfl)) ?_
    obtain ⟨s_1591, e_1590, e⟩ := Option.bind_eq_some_iff.mp e
    refine Rn.call hT rfl rfl rfl (Nat.le_of_ble_eq_true rfl) (rcv_v gX3_look (by omega) (rp_ck R_1589 (T3_o (T10_1 t0)))) (RX3_look (by omega) R_1589 (T10_1 t0) e_1590 (fun h_1591 R_1591 => ?_))
    show Rn d _ _ 26 [some (.ref q0), some (.int m1)] [] h_1591 Q
    refine Rn.n hT 1 (pc' := 39) (L' := [some (.ref q0), some (.int m1)]) (st' := []) rfl ?_
    exact Rn.weak (ll_s (ll_n ll_e)) (RX10_liveOne_b39 hd R_1591 t0 hq e)
  · rw [if_neg c_1584] at e
    refine Rn.bt hT rfl rfl rfl (decide_eq_true (fun z => c_1584 ((ti_e p_1582 L32_0).mp z))) ?_
    refine Rn.n hT 2 (pc' := 31) (L' := [some (.ref q0), some (.int m1)]) (st' := [.ref q0, .ref q0]) rfl ?_
    obtain ⟨z_1585, g_1585, p_1585⟩ : ∃ z : Int32, gI h_1583 10 2 q0 = some z ∧ z.toInt = s_1583 q0 2 := rp_gI (k := 2) R_1583 (T10_o t0) rfl
    refine Rn.hp hT rfl rfl (gI_hp g_1585) ?_
    refine Rn.n hT 2 (pc' := 36) (L' := [some (.ref q0), some (.int m1)]) (st' := [.int (z_1585 + (1 : Int32)), .ref q0]) rfl ?_
    obtain ⟨s_1586, e_1587, e⟩ := Option.bind_eq_some_iff.mp e
    obtain ⟨h_1586, g_1587, R_1586⟩ := rp_pI (ci := 10) (k := 2) R_1583 (T10_o t0) rfl rfl (ti_add p_1585 L32_1) e_1587
    refine Rn.hp hT rfl rfl (pV_hp rfl g_1587) ?_
    exact Rn.weak (ll_s (ll_n ll_e)) (RX10_liveOne_b39 hd R_1586 t0 hq e)
set_option maxRecDepth 10000 in
theorem hX10_liveTo : iv_Tb 127 tX10_liveTo := iv_tb_of (m := mX10_liveTo) rfl
set_option maxRecDepth 10000 in
theorem gX10_liveTo : PG.2 127 = some mX10_liveTo := iv_pi_of (t := tX10_liveTo) rfl (by decide)
def FX10_liveTo_l9 (N : Nat) (q0 : Nat) (q1 : Nat) (x3 : Int) (kx : iv_M → Option (iv_M)) : Nat → iv_M → Int → Option (iv_M)
  | 0, _, _ => none
  | n + 1, s, x4 => (if x3 ≤ x4 then (kx s) else (if (s (q1 + 16) 1) ≤ x4 then (kx s) else ((rd s ((q1 + 16) + 1) ((sh ((q1 + 16) + 1)).2 : Int) x4).bind fun v_1602 => ((FX10_liveOne N s q0 (w32 v_1602)).bind fun s_1604 => (FX10_liveTo_l9 N q0 q1 x3 kx n s_1604 (w32 (x4 + 1)))))))
set_option maxRecDepth 10000 in
set_option maxHeartbeats 4000000 in
theorem RX10_liveTo_l9 {d N nc Ls : Nat} {Xs : Nat → Int32} (hd : 5 ≤ d) {q0 : Nat} (t0 : T10 nc q0) {q1 : Nat} (t1 : T2 nc q1) {m3 : Int32} {x3 : Int} (p3 : m3.toInt = x3) {kx : iv_M → Option (iv_M)} {r : iv_M} {Q : Option Value → iv_H → Prop} (hk : ∀ (h : iv_H) (s : iv_M) (hR : Rep nc Ls Xs h s), kx s = some r → Rn d 127 none 48 [none, none, none, none, none] [] h Q) (hq : ∀ h1, Rep nc Ls Xs h1 r → Q none h1) : ∀ (n : Nat) (h : iv_H) (s : iv_M) (hR : Rep nc Ls Xs h s) (m4 : Int32) (x4 : Int) (p4 : m4.toInt = x4), FX10_liveTo_l9 N q0 q1 x3 kx n s x4 = some r → Rn d 127 none 9 [some (.ref q0), some (.ref q1), none, some (.int m3), some (.int m4)] [] h Q := by
  have hT := hX10_liveTo
  intro n
  induction n with
  | zero =>
    intro h s hR m4 x4 p4 e
    rw [FX10_liveTo_l9] at e
    cases e
  | succ n ih =>
    intro h s hR m4 x4 p4 e
    rw [FX10_liveTo_l9] at e
    refine Rn.n hT 2 (pc' := 12) (L' := [some (.ref q0), some (.ref q1), none, some (.int m3), some (.int m4)]) (st' := [.int m3, .int m4]) rfl ?_
    by_cases c_1599 : x3 ≤ x4
    · rw [if_pos c_1599] at e
      refine Rn.bt hT rfl rfl rfl (decide_eq_true ((ti_le p3 p4).mpr c_1599)) ?_
      exact Rn.weak (ll_n (ll_n (ll_n (ll_n (ll_n ll_e))))) (hk h s hR e)
    · rw [if_neg c_1599] at e
      refine Rn.bf hT rfl rfl rfl (decide_eq_false (fun z => c_1599 ((ti_le p3 p4).mp z))) ?_
      refine Rn.n hT 2 (pc' := 18) (L' := [some (.ref q0), some (.ref q1), none, some (.int m3), some (.int m4)]) (st' := [.ref q1, .int m4]) rfl ?_
      refine Rn.hp hT rfl rfl (gR_hp (rp_gR hR (T2_o t1) rfl)) ?_
      obtain ⟨z_1600, g_1600, p_1600⟩ : ∃ z : Int32, gI h 7 1 (q1 + 16) = some z ∧ z.toInt = s (q1 + 16) 1 := rp_gI (k := 1) hR (T7_o (T2_16 t1)) rfl
      refine Rn.hp hT rfl rfl (gI_hp g_1600) ?_
      by_cases c_1601 : (s (q1 + 16) 1) ≤ x4
      · rw [if_pos c_1601] at e
        refine Rn.bt hT rfl rfl rfl (decide_eq_true ((ti_le p_1600 p4).mpr c_1601)) ?_
        exact Rn.weak (ll_n (ll_n (ll_n (ll_n (ll_n ll_e))))) (hk h s hR e)
      · rw [if_neg c_1601] at e
        refine Rn.bf hT rfl rfl rfl (decide_eq_false (fun z => c_1601 ((ti_le p_1600 p4).mp z))) ?_
        refine Rn.n hT 2 (pc' := 29) (L' := [some (.ref q0), some (.ref q1), none, some (.int m3), some (.int m4)]) (st' := [.ref q1, .ref q0]) rfl ?_
        refine Rn.hp hT rfl rfl (gR_hp (rp_gR hR (T2_o t1) rfl)) ?_
        refine Rn.hp hT rfl rfl (gR_hp (rp_gR hR (T7_o (T2_16 t1)) rfl)) ?_
        refine Rn.n hT 1 (pc' := 37) (L' := [some (.ref q0), some (.ref q1), none, some (.int m3), some (.int m4)]) (st' := [.int m4, .ref ((q1 + 16) + 1), .ref q0]) rfl ?_
        obtain ⟨v_1602, e_1602, e⟩ := Option.bind_eq_some_iff.mp e
        obtain ⟨z_1602, g_1602, p_1602⟩ := rp_aJ hR (T7_0 (T2_16 t1)) rfl p4 e_1602
        refine Rn.hp hT rfl rfl (aJ_hp g_1602) ?_
        refine Rn.n hT 1 (pc' := 39) (L' := [some (.ref q0), some (.ref q1), none, some (.int m3), some (.int m4)]) (st' := [.int ((z_1602).toInt32), .ref q0]) rfl ?_
        obtain ⟨s_1604, e_1603, e⟩ := Option.bind_eq_some_iff.mp e
        refine Rn.call hT rfl rfl rfl (Nat.le_of_ble_eq_true rfl) (rcv_v gX10_liveOne (by omega) (rp_ck hR (T10_o t0))) (RX10_liveOne (by omega) hR t0 (tj_i p_1602) e_1603 (fun h_1604 R_1604 => ?_))
        show Rn d _ _ 42 [some (.ref q0), some (.ref q1), none, some (.int m3), some (.int m4)] [] h_1604 Q
        refine Rn.n hT 2 (pc' := 9) (L' := [some (.ref q0), some (.ref q1), none, some (.int m3), some (.int (m4 + (1 : Int32)))]) (st' := []) rfl ?_
        exact Rn.weak (ll_s (ll_s (ll_n (ll_s (ll_s ll_e))))) (ih h_1604 s_1604 R_1604 (m4 + (1 : Int32)) (w32 (x4 + 1)) (ti_add p4 L32_1) e)
def FX10_liveTo_b48 (N : Nat) (s : iv_M)   : Option (iv_M) := some s
set_option maxRecDepth 10000 in
set_option maxHeartbeats 4000000 in
theorem RX10_liveTo_b48 {d N nc Ls : Nat} {Xs : Nat → Int32} (hd : 5 ≤ d) {h : iv_H} {s : iv_M} (hR : Rep nc Ls Xs h s)   {r : iv_M} {Q : Option Value → iv_H → Prop} (hq : ∀ h1, Rep nc Ls Xs h1 r → Q none h1) (e : FX10_liveTo_b48 N s   = some r) : Rn d 127 none 48 [none, none, none, none, none] [] h Q := by
  have hT := hX10_liveTo
  unfold FX10_liveTo_b48 at e
  obtain rfl := Option.some.inj e
  exact Rn.ret hT rfl rfl rfl (hq h hR)
def FX10_liveTo (N : Nat) (s : iv_M) (q0 : Nat) (q1 : Nat) (o2 : Int) (x3 : Int) : Option (iv_M) := ((FX10_begin N s q0 q1 o2).bind fun s_1596 => (FX10_liveTo_l9 N q0 q1 x3 (fun (s_1597 : iv_M) => (FX10_liveTo_b48 N s_1597)) N s_1596 0))
set_option maxRecDepth 10000 in
set_option maxHeartbeats 4000000 in
theorem RX10_liveTo {d N nc Ls : Nat} {Xs : Nat → Int32} (hd : 6 ≤ d) {h : iv_H} {s : iv_M} (hR : Rep nc Ls Xs h s) {q0 : Nat} (t0 : T10 nc q0) {q1 : Nat} (t1 : T2 nc q1) {o2 : Int} (t2 : (o2 < 0 ∨ TR nc (o2).toNat)) {m3 : Int32} {x3 : Int} (p3 : m3.toInt = x3) {r : iv_M} {Q : Option Value → iv_H → Prop} (e : FX10_liveTo N s q0 q1 o2 x3 = some r) (hq : ∀ h1, Rep nc Ls Xs h1 r → Q none h1) : Cl d 127 [.ref q0, .ref q1, iv_rf (rvo o2), .int m3] h Q := by
  obtain ⟨d, rfl⟩ : ∃ k, d = k + 1 := ⟨d - 1, by omega⟩
  have hd : 5 ≤ d := by omega
  have hT := hX10_liveTo
  unfold FX10_liveTo at e
  have he : iv_ent 5 [.ref q0, .ref q1, iv_rf (rvo o2), .int m3] = [some (.ref q0), some (.ref q1), some (iv_rf (rvo o2)), some (.int m3), none] := by cases rvo o2 <;> rfl
  refine Cl.into (by decide) gX10_liveTo (by rw [he]; rfl) ?_
  rw [he]
  refine Rn.n hT 2 (pc' := 2) (L' := [some (.ref q0), some (.ref q1), some (iv_rf (rvo o2)), some (.int m3), none]) (st' := [.ref q1, .ref q0]) rfl ?_
  refine Rn.lo hT rfl rfl (L' := [some (.ref q0), some (.ref q1), some (iv_rf (rvo o2)), some (.int m3), none]) (st' := [iv_rf (rvo o2), .ref q1, .ref q0]) (ldN (o := (rvo o2)) rfl) ?_
  obtain ⟨s_1596, e_1595, e⟩ := Option.bind_eq_some_iff.mp e
  refine Rn.call hT rfl rfl rfl (Nat.le_of_ble_eq_true rfl) (rcv_v gX10_begin (by omega) (rp_ck hR (T10_o t0))) (RX10_begin (by omega) hR t0 t1 t2 e_1595 (fun h_1596 R_1596 => ?_))
  show Rn d _ _ 6 [some (.ref q0), some (.ref q1), some (iv_rf (rvo o2)), some (.int m3), none] [] h_1596 Q
  refine Rn.n hT 2 (pc' := 9) (L' := [some (.ref q0), some (.ref q1), some (iv_rf (rvo o2)), some (.int m3), some (.int (0 : Int32))]) (st' := []) rfl ?_
  refine Rn.weak (ll_s (ll_s (ll_n (ll_s (ll_s ll_e))))) (RX10_liveTo_l9 hd t0 t1 p3 (fun h_1597 s_1597 R_1597 e => ?_) hq N h_1596 s_1596 R_1596 (0 : Int32) 0 L32_0 e)
  try dsimp only at e
  exact Rn.weak (ll_n (ll_n (ll_n (ll_n (ll_n ll_e))))) (RX10_liveTo_b48 hd R_1597 hq e)
set_option maxRecDepth 10000 in
theorem hX10_roomsWished : iv_Tb 128 tX10_roomsWished := iv_tb_of (m := mX10_roomsWished) rfl
set_option maxRecDepth 10000 in
theorem gX10_roomsWished : PG.2 128 = some mX10_roomsWished := iv_pi_of (t := tX10_roomsWished) rfl (by decide)
def FX10_roomsWished_b161 (N : Nat) (s : iv_M) (q0 : Nat) (q1 : Nat) (q3 : Nat) (x4 : Int) (x5 : Int) (x6 : Int)  (kb : iv_M → Int → Option (iv_M)) (kx : iv_M → Option (iv_M)) : Option (iv_M) := (kb s (w32 (x6 + 1)))
set_option maxRecDepth 10000 in
set_option maxHeartbeats 4000000 in
theorem RX10_roomsWished_b161 {d N nc Ls : Nat} {Xs : Nat → Int32} (hd : 5 ≤ d) {h : iv_H} {s : iv_M} (hR : Rep nc Ls Xs h s) {q0 : Nat} (t0 : T10 nc q0) {q1 : Nat} (t1 : T2 nc q1) {q3 : Nat} (t3 : TA 0 nc q3) {m4 : Int32} {x4 : Int} (p4 : m4.toInt = x4) {m5 : Int32} {x5 : Int} (p5 : m5.toInt = x5) {m6 : Int32} {x6 : Int} (p6 : m6.toInt = x6)  {kb : iv_M → Int → Option (iv_M)} {kx : iv_M → Option (iv_M)} {r : iv_M} {Q : Option Value → iv_H → Prop} (hb : ∀ (h : iv_H) (s : iv_M) (hR : Rep nc Ls Xs h s) (mw6 : Int32) (xw6 : Int) (pw6 : mw6.toInt = xw6), kb s xw6 = some r → Rn d 128 none 80 [some (.ref q0), some (.ref q1), none, some (.ref q3), some (.int m4), some (.int m5), some (.int mw6), none, none] [] h Q) (hk : ∀ (h : iv_H) (s : iv_M) (hR : Rep nc Ls Xs h s), kx s = some r → Rn d 128 none 167 [some (.ref q0), some (.ref q1), none, some (.ref q3), some (.int m4), none, none, none, none] [] h Q) (hq : ∀ h1, Rep nc Ls Xs h1 r → Q none h1) (e : FX10_roomsWished_b161 N s q0 q1 q3 x4 x5 x6  kb kx = some r) : Rn d 128 none 161 [some (.ref q0), some (.ref q1), none, some (.ref q3), some (.int m4), some (.int m5), some (.int m6), none, none] [] h Q := by
  have hT := hX10_roomsWished
  unfold FX10_roomsWished_b161 at e
  refine Rn.n hT 2 (pc' := 80) (L' := [some (.ref q0), some (.ref q1), none, some (.ref q3), some (.int m4), some (.int m5), some (.int (m6 + (1 : Int32))), none, none]) (st' := []) rfl ?_
  exact Rn.weak (ll_s (ll_s (ll_n (ll_s (ll_s (ll_s (ll_s (ll_n (ll_n ll_e))))))))) (hb h s hR (m6 + (1 : Int32)) (w32 (x6 + 1)) (ti_add p6 L32_1) e)
def FX10_roomsWished_b159 (N : Nat) (s : iv_M) (q0 : Nat) (q1 : Nat) (q3 : Nat) (x4 : Int) (x5 : Int) (x6 : Int) (xs0 : Int) (xs1 : Int) (xs2 : Int) (qs3 : Nat) (kb : iv_M → Int → Option (iv_M)) (kx : iv_M → Option (iv_M)) : Option (iv_M) := ((wr s qs3 ((sh qs3).2 : Int) xs2 (bAn xs1 xs0)).bind fun s_1630 => (FX10_roomsWished_b161 N s_1630 q0 q1 q3 x4 x5 x6 kb kx))
set_option maxRecDepth 10000 in
set_option maxHeartbeats 4000000 in
theorem RX10_roomsWished_b159 {d N nc Ls : Nat} {Xs : Nat → Int32} (hd : 5 ≤ d) {h : iv_H} {s : iv_M} (hR : Rep nc Ls Xs h s) {q0 : Nat} (t0 : T10 nc q0) {q1 : Nat} (t1 : T2 nc q1) {q3 : Nat} (t3 : TA 0 nc q3) {m4 : Int32} {x4 : Int} (p4 : m4.toInt = x4) {m5 : Int32} {x5 : Int} (p5 : m5.toInt = x5) {m6 : Int32} {x6 : Int} (p6 : m6.toInt = x6) {ms0 : Int32} {xs0 : Int} (ps0 : ms0.toInt = xs0) {ms1 : Int32} {xs1 : Int} (ps1 : ms1.toInt = xs1) {ms2 : Int32} {xs2 : Int} (ps2 : ms2.toInt = xs2) {qs3 : Nat} (ts3 : TA 0 nc qs3) {kb : iv_M → Int → Option (iv_M)} {kx : iv_M → Option (iv_M)} {r : iv_M} {Q : Option Value → iv_H → Prop} (hb : ∀ (h : iv_H) (s : iv_M) (hR : Rep nc Ls Xs h s) (mw6 : Int32) (xw6 : Int) (pw6 : mw6.toInt = xw6), kb s xw6 = some r → Rn d 128 none 80 [some (.ref q0), some (.ref q1), none, some (.ref q3), some (.int m4), some (.int m5), some (.int mw6), none, none] [] h Q) (hk : ∀ (h : iv_H) (s : iv_M) (hR : Rep nc Ls Xs h s), kx s = some r → Rn d 128 none 167 [some (.ref q0), some (.ref q1), none, some (.ref q3), some (.int m4), none, none, none, none] [] h Q) (hq : ∀ h1, Rep nc Ls Xs h1 r → Q none h1) (e : FX10_roomsWished_b159 N s q0 q1 q3 x4 x5 x6 xs0 xs1 xs2 qs3 kb kx = some r) : Rn d 128 none 159 [some (.ref q0), some (.ref q1), none, some (.ref q3), some (.int m4), some (.int m5), some (.int m6), none, none] [.int ms0, .int ms1, .int ms2, .ref qs3] h Q := by
  have hT := hX10_roomsWished
  unfold FX10_roomsWished_b159 at e
  refine Rn.n hT 1 (pc' := 160) (L' := [some (.ref q0), some (.ref q1), none, some (.ref q3), some (.int m4), some (.int m5), some (.int m6), none, none]) (st' := [.int (ms1 &&& ms0), .int ms2, .ref qs3]) rfl ?_
  obtain ⟨s_1630, e_1631, e⟩ := Option.bind_eq_some_iff.mp e
  obtain ⟨h_1630, g_1631, R_1630⟩ := rp_wI hR ts3 rfl ps2 (ti_and ps1 ps0) e_1631
  refine Rn.hp hT rfl rfl (wI_hp g_1631) ?_
  exact Rn.weak (ll_s (ll_s (ll_n (ll_s (ll_s (ll_s (ll_s (ll_n (ll_n ll_e))))))))) (RX10_roomsWished_b161 hd R_1630 t0 t1 t3 p4 p5 p6 hb hk hq e)
def FX10_roomsWished_b158 (N : Nat) (s : iv_M) (q0 : Nat) (q1 : Nat) (q3 : Nat) (x4 : Int) (x5 : Int) (x6 : Int) (xs0 : Int) (xs1 : Int) (qs2 : Nat) (kb : iv_M → Int → Option (iv_M)) (kx : iv_M → Option (iv_M)) : Option (iv_M) := (FX10_roomsWished_b159 N s q0 q1 q3 x4 x5 x6 0 xs0 xs1 qs2 kb kx)
set_option maxRecDepth 10000 in
set_option maxHeartbeats 4000000 in
theorem RX10_roomsWished_b158 {d N nc Ls : Nat} {Xs : Nat → Int32} (hd : 5 ≤ d) {h : iv_H} {s : iv_M} (hR : Rep nc Ls Xs h s) {q0 : Nat} (t0 : T10 nc q0) {q1 : Nat} (t1 : T2 nc q1) {q3 : Nat} (t3 : TA 0 nc q3) {m4 : Int32} {x4 : Int} (p4 : m4.toInt = x4) {m5 : Int32} {x5 : Int} (p5 : m5.toInt = x5) {m6 : Int32} {x6 : Int} (p6 : m6.toInt = x6) {ms0 : Int32} {xs0 : Int} (ps0 : ms0.toInt = xs0) {ms1 : Int32} {xs1 : Int} (ps1 : ms1.toInt = xs1) {qs2 : Nat} (ts2 : TA 0 nc qs2) {kb : iv_M → Int → Option (iv_M)} {kx : iv_M → Option (iv_M)} {r : iv_M} {Q : Option Value → iv_H → Prop} (hb : ∀ (h : iv_H) (s : iv_M) (hR : Rep nc Ls Xs h s) (mw6 : Int32) (xw6 : Int) (pw6 : mw6.toInt = xw6), kb s xw6 = some r → Rn d 128 none 80 [some (.ref q0), some (.ref q1), none, some (.ref q3), some (.int m4), some (.int m5), some (.int mw6), none, none] [] h Q) (hk : ∀ (h : iv_H) (s : iv_M) (hR : Rep nc Ls Xs h s), kx s = some r → Rn d 128 none 167 [some (.ref q0), some (.ref q1), none, some (.ref q3), some (.int m4), none, none, none, none] [] h Q) (hq : ∀ h1, Rep nc Ls Xs h1 r → Q none h1) (e : FX10_roomsWished_b158 N s q0 q1 q3 x4 x5 x6 xs0 xs1 qs2 kb kx = some r) : Rn d 128 none 158 [some (.ref q0), some (.ref q1), none, some (.ref q3), some (.int m4), some (.int m5), some (.int m6), none, none] [.int ms0, .int ms1, .ref qs2] h Q := by
  have hT := hX10_roomsWished
  unfold FX10_roomsWished_b158 at e
  refine Rn.n hT 1 (pc' := 159) (L' := [some (.ref q0), some (.ref q1), none, some (.ref q3), some (.int m4), some (.int m5), some (.int m6), none, none]) (st' := [.int (0 : Int32), .int ms0, .int ms1, .ref qs2]) rfl ?_
  exact Rn.weak (ll_s (ll_s (ll_n (ll_s (ll_s (ll_s (ll_s (ll_n (ll_n ll_e))))))))) (RX10_roomsWished_b159 hd hR t0 t1 t3 p4 p5 p6 L32_0 ps0 ps1 ts2 hb hk hq e)
def FX10_roomsWished_l80 (N : Nat) (q0 : Nat) (q1 : Nat) (q3 : Nat) (x4 : Int) (x5 : Int) (kx : iv_M → Option (iv_M)) : Nat → iv_M → Int → Option (iv_M)
  | 0, _, _ => none
  | n + 1, s, x6 => (if (s (q1 + 18) 1) ≤ x6 then (kx s) else ((rd s ((q1 + 18) + 1) ((sh ((q1 + 18) + 1)).2 : Int) x6).bind fun v_1624 => (if (bAn (sr32 (w32 v_1624) 4) 15) = x4 then ((rd s ((q0 + 1) + 3) 16 (bAn (w32 v_1624) 15)).bind fun v_1626 => ((rd s q3 ((sh q3).2 : Int) (sr32 (w32 v_1624) 8)).bind fun v_1627 => (if x5 = 0 then (FX10_roomsWished_b158 N s q0 q1 q3 x4 x5 x6 v_1627 (sr32 (w32 v_1624) 8) q3 (FX10_roomsWished_l80 N q0 q1 q3 x4 x5 kx n) kx) else (if v_1626 = (-1) then (FX10_roomsWished_b158 N s q0 q1 q3 x4 x5 x6 v_1627 (sr32 (w32 v_1624) 8) q3 (FX10_roomsWished_l80 N q0 q1 q3 x4 x5 kx n) kx) else (FX10_roomsWished_b159 N s q0 q1 q3 x4 x5 x6 (sl32 1 v_1626) v_1627 (sr32 (w32 v_1624) 8) q3 (FX10_roomsWished_l80 N q0 q1 q3 x4 x5 kx n) kx))))) else (FX10_roomsWished_b161 N s q0 q1 q3 x4 x5 x6 (FX10_roomsWished_l80 N q0 q1 q3 x4 x5 kx n) kx))))
set_option maxRecDepth 10000 in
set_option maxHeartbeats 4000000 in
theorem RX10_roomsWished_l80 {d N nc Ls : Nat} {Xs : Nat → Int32} (hd : 5 ≤ d) {q0 : Nat} (t0 : T10 nc q0) {q1 : Nat} (t1 : T2 nc q1) {q3 : Nat} (t3 : TA 0 nc q3) {m4 : Int32} {x4 : Int} (p4 : m4.toInt = x4) {m5 : Int32} {x5 : Int} (p5 : m5.toInt = x5) {kx : iv_M → Option (iv_M)} {r : iv_M} {Q : Option Value → iv_H → Prop} (hk : ∀ (h : iv_H) (s : iv_M) (hR : Rep nc Ls Xs h s), kx s = some r → Rn d 128 none 167 [some (.ref q0), some (.ref q1), none, some (.ref q3), some (.int m4), none, none, none, none] [] h Q) (hq : ∀ h1, Rep nc Ls Xs h1 r → Q none h1) : ∀ (n : Nat) (h : iv_H) (s : iv_M) (hR : Rep nc Ls Xs h s) (m6 : Int32) (x6 : Int) (p6 : m6.toInt = x6), FX10_roomsWished_l80 N q0 q1 q3 x4 x5 kx n s x6 = some r → Rn d 128 none 80 [some (.ref q0), some (.ref q1), none, some (.ref q3), some (.int m4), some (.int m5), some (.int m6), none, none] [] h Q := by
  have hT := hX10_roomsWished
  intro n
  induction n with
  | zero =>
    intro h s hR m6 x6 p6 e
    rw [FX10_roomsWished_l80] at e
    cases e
  | succ n ih =>
    intro h s hR m6 x6 p6 e
    rw [FX10_roomsWished_l80] at e
    refine Rn.n hT 2 (pc' := 83) (L' := [some (.ref q0), some (.ref q1), none, some (.ref q3), some (.int m4), some (.int m5), some (.int m6), none, none]) (st' := [.ref q1, .int m6]) rfl ?_
    refine Rn.hp hT rfl rfl (gR_hp (rp_gR hR (T2_o t1) rfl)) ?_
    obtain ⟨z_1622, g_1622, p_1622⟩ : ∃ z : Int32, gI h 7 1 (q1 + 18) = some z ∧ z.toInt = s (q1 + 18) 1 := rp_gI (k := 1) hR (T7_o (T2_17 t1)) rfl
    refine Rn.hp hT rfl rfl (gI_hp g_1622) ?_
    by_cases c_1623 : (s (q1 + 18) 1) ≤ x6
    · rw [if_pos c_1623] at e
      refine Rn.bt hT rfl rfl rfl (decide_eq_true ((ti_le p_1622 p6).mpr c_1623)) ?_
      exact Rn.weak (ll_s (ll_s (ll_n (ll_s (ll_s (ll_n (ll_n (ll_n (ll_n ll_e))))))))) (hk h s hR e)
    · rw [if_neg c_1623] at e
      refine Rn.bf hT rfl rfl rfl (decide_eq_false (fun z => c_1623 ((ti_le p_1622 p6).mp z))) ?_
      refine Rn.n hT 1 (pc' := 93) (L' := [some (.ref q0), some (.ref q1), none, some (.ref q3), some (.int m4), some (.int m5), some (.int m6), none, none]) (st' := [.ref q1]) rfl ?_
      refine Rn.hp hT rfl rfl (gR_hp (rp_gR hR (T2_o t1) rfl)) ?_
      refine Rn.hp hT rfl rfl (gR_hp (rp_gR hR (T7_o (T2_17 t1)) rfl)) ?_
      refine Rn.n hT 1 (pc' := 101) (L' := [some (.ref q0), some (.ref q1), none, some (.ref q3), some (.int m4), some (.int m5), some (.int m6), none, none]) (st' := [.int m6, .ref ((q1 + 18) + 1)]) rfl ?_
      obtain ⟨v_1624, e_1624, e⟩ := Option.bind_eq_some_iff.mp e
      obtain ⟨z_1624, g_1624, p_1624⟩ := rp_aJ hR (T7_0 (T2_17 t1)) rfl p6 e_1624
      refine Rn.hp hT rfl rfl (aJ_hp g_1624) ?_
      refine Rn.n hT 8 (pc' := 114) (L' := [some (.ref q0), some (.ref q1), none, some (.ref q3), some (.int m4), some (.int m5), some (.int m6), some (.int ((z_1624).toInt32)), none]) (st' := [.int m4, .int (((z_1624).toInt32 >>> ((4 : Int32) &&& 31)) &&& (15 : Int32))]) rfl ?_
      by_cases c_1625 : (bAn (sr32 (w32 v_1624) 4) 15) = x4
      · rw [if_pos c_1625] at e
        refine Rn.bf hT rfl rfl rfl (decide_eq_false (fun z => z ((ti_e (ti_and (ti_shr (tj_i p_1624) L32_4) L32_15) p4).mpr c_1625))) ?_
        refine Rn.n hT 1 (pc' := 118) (L' := [some (.ref q0), some (.ref q1), none, some (.ref q3), some (.int m4), some (.int m5), some (.int m6), some (.int ((z_1624).toInt32)), none]) (st' := [.ref q0]) rfl ?_
        refine Rn.hp hT rfl rfl (gR_hp (rp_gR hR (T10_o t0) rfl)) ?_
        refine Rn.hp hT rfl rfl (gR_hp (rp_gR hR (T1_o (T10_0 t0)) rfl)) ?_
        refine Rn.n hT 3 (pc' := 129) (L' := [some (.ref q0), some (.ref q1), none, some (.ref q3), some (.int m4), some (.int m5), some (.int m6), some (.int ((z_1624).toInt32)), none]) (st' := [.int ((z_1624).toInt32 &&& (15 : Int32)), .ref ((q0 + 1) + 3)]) rfl ?_
        obtain ⟨v_1626, e_1626, e⟩ := Option.bind_eq_some_iff.mp e
        obtain ⟨z_1626, g_1626, p_1626⟩ := rp_aI hR (T1_7 (T10_0 t0)) (T1_7l (T10_0 t0)) (ti_and (tj_i p_1624) L32_15) e_1626
        refine Rn.hp hT rfl rfl (aI_hp g_1626) ?_
        refine Rn.n hT 6 (pc' := 139) (L' := [some (.ref q0), some (.ref q1), none, some (.ref q3), some (.int m4), some (.int m5), some (.int m6), some (.int ((z_1624).toInt32)), some (.int z_1626)]) (st' := [.int ((z_1624).toInt32 >>> ((8 : Int32) &&& 31)), .ref q3, .int ((z_1624).toInt32 >>> ((8 : Int32) &&& 31)), .ref q3]) rfl ?_
        obtain ⟨v_1627, e_1627, e⟩ := Option.bind_eq_some_iff.mp e
        obtain ⟨z_1627, g_1627, p_1627⟩ := rp_aI hR t3 rfl (ti_shr (tj_i p_1624) L32_8) e_1627
        refine Rn.hp hT rfl rfl (aI_hp g_1627) ?_
        refine Rn.n hT 1 (pc' := 142) (L' := [some (.ref q0), some (.ref q1), none, some (.ref q3), some (.int m4), some (.int m5), some (.int m6), some (.int ((z_1624).toInt32)), some (.int z_1626)]) (st' := [.int m5, .int z_1627, .int ((z_1624).toInt32 >>> ((8 : Int32) &&& 31)), .ref q3]) rfl ?_
        by_cases c_1628 : x5 = 0
        · rw [if_pos c_1628] at e
          refine Rn.bt hT rfl rfl rfl (decide_eq_true ((ti_e p5 L32_0).mpr c_1628)) ?_
          exact Rn.weak (ll_s (ll_s (ll_n (ll_s (ll_s (ll_s (ll_s (ll_n (ll_n ll_e))))))))) (RX10_roomsWished_b158 hd hR t0 t1 t3 p4 p5 p6 p_1627 (ti_shr (tj_i p_1624) L32_8) t3 ih hk hq e)
        · rw [if_neg c_1628] at e
          refine Rn.bf hT rfl rfl rfl (decide_eq_false (fun z => c_1628 ((ti_e p5 L32_0).mp z))) ?_
          refine Rn.n hT 2 (pc' := 148) (L' := [some (.ref q0), some (.ref q1), none, some (.ref q3), some (.int m4), some (.int m5), some (.int m6), some (.int ((z_1624).toInt32)), some (.int z_1626)]) (st' := [.int (-1 : Int32), .int z_1626, .int z_1627, .int ((z_1624).toInt32 >>> ((8 : Int32) &&& 31)), .ref q3]) rfl ?_
          by_cases c_1629 : v_1626 = (-1)
          · rw [if_pos c_1629] at e
            refine Rn.bt hT rfl rfl rfl (decide_eq_true ((ti_e p_1626 L32_m1).mpr c_1629)) ?_
            exact Rn.weak (ll_s (ll_s (ll_n (ll_s (ll_s (ll_s (ll_s (ll_n (ll_n ll_e))))))))) (RX10_roomsWished_b158 hd hR t0 t1 t3 p4 p5 p6 p_1627 (ti_shr (tj_i p_1624) L32_8) t3 ih hk hq e)
          · rw [if_neg c_1629] at e
            refine Rn.bf hT rfl rfl rfl (decide_eq_false (fun z => c_1629 ((ti_e p_1626 L32_m1).mp z))) ?_
            refine Rn.n hT 4 (pc' := 159) (L' := [some (.ref q0), some (.ref q1), none, some (.ref q3), some (.int m4), some (.int m5), some (.int m6), some (.int ((z_1624).toInt32)), some (.int z_1626)]) (st' := [.int ((1 : Int32) <<< (z_1626 &&& 31)), .int z_1627, .int ((z_1624).toInt32 >>> ((8 : Int32) &&& 31)), .ref q3]) rfl ?_
            exact Rn.weak (ll_s (ll_s (ll_n (ll_s (ll_s (ll_s (ll_s (ll_n (ll_n ll_e))))))))) (RX10_roomsWished_b159 hd hR t0 t1 t3 p4 p5 p6 (ti_shl L32_1 p_1626) p_1627 (ti_shr (tj_i p_1624) L32_8) t3 ih hk hq e)
      · rw [if_neg c_1625] at e
        refine Rn.bt hT rfl rfl rfl (decide_eq_true (fun z => c_1625 ((ti_e (ti_and (ti_shr (tj_i p_1624) L32_4) L32_15) p4).mp z))) ?_
        exact Rn.weak (ll_s (ll_s (ll_n (ll_s (ll_s (ll_s (ll_s (ll_n (ll_n ll_e))))))))) (RX10_roomsWished_b161 hd hR t0 t1 t3 p4 p5 p6 ih hk hq e)
def FX10_roomsWished_b77 (N : Nat) (s : iv_M) (q0 : Nat) (q1 : Nat) (q3 : Nat) (x4 : Int) (x5 : Int)  (kb : iv_M → Int → Option (iv_M)) (kx : iv_M → Option (iv_M)) : Option (iv_M) := (FX10_roomsWished_l80 N q0 q1 q3 x4 x5 (fun (s_1620 : iv_M) => (kb s_1620 (w32 (x4 + 1)))) N s 0)
set_option maxRecDepth 10000 in
set_option maxHeartbeats 4000000 in
theorem RX10_roomsWished_b77 {d N nc Ls : Nat} {Xs : Nat → Int32} (hd : 5 ≤ d) {h : iv_H} {s : iv_M} (hR : Rep nc Ls Xs h s) {q0 : Nat} (t0 : T10 nc q0) {q1 : Nat} (t1 : T2 nc q1) {q3 : Nat} (t3 : TA 0 nc q3) {m4 : Int32} {x4 : Int} (p4 : m4.toInt = x4) {m5 : Int32} {x5 : Int} (p5 : m5.toInt = x5)  {kb : iv_M → Int → Option (iv_M)} {kx : iv_M → Option (iv_M)} {r : iv_M} {Q : Option Value → iv_H → Prop} (hb : ∀ (h : iv_H) (s : iv_M) (hR : Rep nc Ls Xs h s) (mw4 : Int32) (xw4 : Int) (pw4 : mw4.toInt = xw4), kb s xw4 = some r → Rn d 128 none 24 [some (.ref q0), some (.ref q1), none, some (.ref q3), some (.int mw4), none, none, none, none] [] h Q) (hk : ∀ (h : iv_H) (s : iv_M) (hR : Rep nc Ls Xs h s), kx s = some r → Rn d 128 none 173 [none, none, none, none, none, none, none, none, none] [] h Q) (hq : ∀ h1, Rep nc Ls Xs h1 r → Q none h1) (e : FX10_roomsWished_b77 N s q0 q1 q3 x4 x5  kb kx = some r) : Rn d 128 none 77 [some (.ref q0), some (.ref q1), none, some (.ref q3), some (.int m4), some (.int m5), none, none, none] [] h Q := by
  have hT := hX10_roomsWished
  unfold FX10_roomsWished_b77 at e
  refine Rn.n hT 2 (pc' := 80) (L' := [some (.ref q0), some (.ref q1), none, some (.ref q3), some (.int m4), some (.int m5), some (.int (0 : Int32)), none, none]) (st' := []) rfl ?_
  refine Rn.weak (ll_s (ll_s (ll_n (ll_s (ll_s (ll_s (ll_s (ll_n (ll_n ll_e))))))))) (RX10_roomsWished_l80 hd t0 t1 t3 p4 p5 (fun h_1620 s_1620 R_1620 e => ?_) hq N h s hR (0 : Int32) 0 L32_0 e)
  try dsimp only at e
  refine Rn.n hT 2 (pc' := 24) (L' := [some (.ref q0), some (.ref q1), none, some (.ref q3), some (.int (m4 + (1 : Int32))), none, none, none, none]) (st' := []) rfl ?_
  exact Rn.weak (ll_s (ll_s (ll_n (ll_s (ll_s (ll_n (ll_n (ll_n (ll_n ll_e))))))))) (hb h_1620 s_1620 R_1620 (m4 + (1 : Int32)) (w32 (x4 + 1)) (ti_add p4 L32_1) e)
def FX10_roomsWished_b48 (N : Nat) (s : iv_M) (q0 : Nat) (q1 : Nat) (q3 : Nat) (x4 : Int) (xs0 : Int) (kb : iv_M → Int → Option (iv_M)) (kx : iv_M → Option (iv_M)) : Option (iv_M) := (if xs0 = 0 then (FX10_roomsWished_b77 N s q0 q1 q3 x4 xs0 kb kx) else (if x4 ≤ 0 then (FX10_roomsWished_b77 N s q0 q1 q3 x4 xs0 kb kx) else ((rd s ((q1 + 16) + 1) ((sh ((q1 + 16) + 1)).2 : Int) (w32 (x4 - 1))).bind fun v_1617 => ((FX10_liveOne N s q0 (w32 v_1617)).bind fun s_1619 => (FX10_roomsWished_b77 N s_1619 q0 q1 q3 x4 xs0 kb kx)))))
set_option maxRecDepth 10000 in
set_option maxHeartbeats 4000000 in
theorem RX10_roomsWished_b48 {d N nc Ls : Nat} {Xs : Nat → Int32} (hd : 5 ≤ d) {h : iv_H} {s : iv_M} (hR : Rep nc Ls Xs h s) {q0 : Nat} (t0 : T10 nc q0) {q1 : Nat} (t1 : T2 nc q1) {q3 : Nat} (t3 : TA 0 nc q3) {m4 : Int32} {x4 : Int} (p4 : m4.toInt = x4) {ms0 : Int32} {xs0 : Int} (ps0 : ms0.toInt = xs0) {kb : iv_M → Int → Option (iv_M)} {kx : iv_M → Option (iv_M)} {r : iv_M} {Q : Option Value → iv_H → Prop} (hb : ∀ (h : iv_H) (s : iv_M) (hR : Rep nc Ls Xs h s) (mw4 : Int32) (xw4 : Int) (pw4 : mw4.toInt = xw4), kb s xw4 = some r → Rn d 128 none 24 [some (.ref q0), some (.ref q1), none, some (.ref q3), some (.int mw4), none, none, none, none] [] h Q) (hk : ∀ (h : iv_H) (s : iv_M) (hR : Rep nc Ls Xs h s), kx s = some r → Rn d 128 none 173 [none, none, none, none, none, none, none, none, none] [] h Q) (hq : ∀ h1, Rep nc Ls Xs h1 r → Q none h1) (e : FX10_roomsWished_b48 N s q0 q1 q3 x4 xs0 kb kx = some r) : Rn d 128 none 48 [some (.ref q0), some (.ref q1), none, some (.ref q3), some (.int m4), none, none, none, none] [.int ms0] h Q := by
  have hT := hX10_roomsWished
  unfold FX10_roomsWished_b48 at e
  refine Rn.n hT 2 (pc' := 52) (L' := [some (.ref q0), some (.ref q1), none, some (.ref q3), some (.int m4), some (.int ms0), none, none, none]) (st' := [.int ms0]) rfl ?_
  by_cases c_1615 : xs0 = 0
  · rw [if_pos c_1615] at e
    refine Rn.bt hT rfl rfl rfl (decide_eq_true ((ti_e ps0 L32_0).mpr c_1615)) ?_
    exact Rn.weak (ll_s (ll_s (ll_n (ll_s (ll_s (ll_s (ll_n (ll_n (ll_n ll_e))))))))) (RX10_roomsWished_b77 hd hR t0 t1 t3 p4 ps0 hb hk hq e)
  · rw [if_neg c_1615] at e
    refine Rn.bf hT rfl rfl rfl (decide_eq_false (fun z => c_1615 ((ti_e ps0 L32_0).mp z))) ?_
    refine Rn.n hT 1 (pc' := 57) (L' := [some (.ref q0), some (.ref q1), none, some (.ref q3), some (.int m4), some (.int ms0), none, none, none]) (st' := [.int m4]) rfl ?_
    by_cases c_1616 : x4 ≤ 0
    · rw [if_pos c_1616] at e
      refine Rn.bt hT rfl rfl rfl (decide_eq_true ((ti_le p4 L32_0).mpr c_1616)) ?_
      exact Rn.weak (ll_s (ll_s (ll_n (ll_s (ll_s (ll_s (ll_n (ll_n (ll_n ll_e))))))))) (RX10_roomsWished_b77 hd hR t0 t1 t3 p4 ps0 hb hk hq e)
    · rw [if_neg c_1616] at e
      refine Rn.bf hT rfl rfl rfl (decide_eq_false (fun z => c_1616 ((ti_le p4 L32_0).mp z))) ?_
      refine Rn.n hT 2 (pc' := 62) (L' := [some (.ref q0), some (.ref q1), none, some (.ref q3), some (.int m4), some (.int ms0), none, none, none]) (st' := [.ref q1, .ref q0]) rfl ?_
      refine Rn.hp hT rfl rfl (gR_hp (rp_gR hR (T2_o t1) rfl)) ?_
      refine Rn.hp hT rfl rfl (gR_hp (rp_gR hR (T7_o (T2_16 t1)) rfl)) ?_
      refine Rn.n hT 3 (pc' := 72) (L' := [some (.ref q0), some (.ref q1), none, some (.ref q3), some (.int m4), some (.int ms0), none, none, none]) (st' := [.int (m4 - (1 : Int32)), .ref ((q1 + 16) + 1), .ref q0]) rfl ?_
      obtain ⟨v_1617, e_1617, e⟩ := Option.bind_eq_some_iff.mp e
      obtain ⟨z_1617, g_1617, p_1617⟩ := rp_aJ hR (T7_0 (T2_16 t1)) rfl (ti_sub p4 L32_1) e_1617
      refine Rn.hp hT rfl rfl (aJ_hp g_1617) ?_
      refine Rn.n hT 1 (pc' := 74) (L' := [some (.ref q0), some (.ref q1), none, some (.ref q3), some (.int m4), some (.int ms0), none, none, none]) (st' := [.int ((z_1617).toInt32), .ref q0]) rfl ?_
      obtain ⟨s_1619, e_1618, e⟩ := Option.bind_eq_some_iff.mp e
      refine Rn.call hT rfl rfl rfl (Nat.le_of_ble_eq_true rfl) (rcv_v gX10_liveOne (by omega) (rp_ck hR (T10_o t0))) (RX10_liveOne (by omega) hR t0 (tj_i p_1617) e_1618 (fun h_1619 R_1619 => ?_))
      show Rn d _ _ 77 [some (.ref q0), some (.ref q1), none, some (.ref q3), some (.int m4), some (.int ms0), none, none, none] [] h_1619 Q
      exact Rn.weak (ll_s (ll_s (ll_n (ll_s (ll_s (ll_s (ll_n (ll_n (ll_n ll_e))))))))) (RX10_roomsWished_b77 hd R_1619 t0 t1 t3 p4 ps0 hb hk hq e)
def FX10_roomsWished_l24 (N : Nat) (q0 : Nat) (q1 : Nat) (q3 : Nat) (kx : iv_M → Option (iv_M)) : Nat → iv_M → Int → Option (iv_M)
  | 0, _, _ => none
  | n + 1, s, x4 => (if 10 < x4 then (kx s) else (if (s (q1 + 16) 1) < x4 then (FX10_roomsWished_b48 N s q0 q1 q3 x4 0 (FX10_roomsWished_l24 N q0 q1 q3 kx n) kx) else (FX10_roomsWished_b48 N s q0 q1 q3 x4 1 (FX10_roomsWished_l24 N q0 q1 q3 kx n) kx)))
set_option maxRecDepth 10000 in
set_option maxHeartbeats 4000000 in
theorem RX10_roomsWished_l24 {d N nc Ls : Nat} {Xs : Nat → Int32} (hd : 5 ≤ d) {q0 : Nat} (t0 : T10 nc q0) {q1 : Nat} (t1 : T2 nc q1) {q3 : Nat} (t3 : TA 0 nc q3) {kx : iv_M → Option (iv_M)} {r : iv_M} {Q : Option Value → iv_H → Prop} (hk : ∀ (h : iv_H) (s : iv_M) (hR : Rep nc Ls Xs h s), kx s = some r → Rn d 128 none 173 [none, none, none, none, none, none, none, none, none] [] h Q) (hq : ∀ h1, Rep nc Ls Xs h1 r → Q none h1) : ∀ (n : Nat) (h : iv_H) (s : iv_M) (hR : Rep nc Ls Xs h s) (m4 : Int32) (x4 : Int) (p4 : m4.toInt = x4), FX10_roomsWished_l24 N q0 q1 q3 kx n s x4 = some r → Rn d 128 none 24 [some (.ref q0), some (.ref q1), none, some (.ref q3), some (.int m4), none, none, none, none] [] h Q := by
  have hT := hX10_roomsWished
  intro n
  induction n with
  | zero =>
    intro h s hR m4 x4 p4 e
    rw [FX10_roomsWished_l24] at e
    cases e
  | succ n ih =>
    intro h s hR m4 x4 p4 e
    rw [FX10_roomsWished_l24] at e
    refine Rn.n hT 2 (pc' := 28) (L' := [some (.ref q0), some (.ref q1), none, some (.ref q3), some (.int m4), none, none, none, none]) (st' := [.int (10 : Int32), .int m4]) rfl ?_
    by_cases c_1612 : 10 < x4
    · rw [if_pos c_1612] at e
      refine Rn.bt hT rfl rfl rfl (decide_eq_true ((ti_l L32_10 p4).mpr c_1612)) ?_
      exact Rn.weak (ll_n (ll_n (ll_n (ll_n (ll_n (ll_n (ll_n (ll_n (ll_n ll_e))))))))) (hk h s hR e)
    · rw [if_neg c_1612] at e
      refine Rn.bf hT rfl rfl rfl (decide_eq_false (fun z => c_1612 ((ti_l L32_10 p4).mp z))) ?_
      refine Rn.n hT 2 (pc' := 34) (L' := [some (.ref q0), some (.ref q1), none, some (.ref q3), some (.int m4), none, none, none, none]) (st' := [.ref q1, .int m4]) rfl ?_
      refine Rn.hp hT rfl rfl (gR_hp (rp_gR hR (T2_o t1) rfl)) ?_
      obtain ⟨z_1613, g_1613, p_1613⟩ : ∃ z : Int32, gI h 7 1 (q1 + 16) = some z ∧ z.toInt = s (q1 + 16) 1 := rp_gI (k := 1) hR (T7_o (T2_16 t1)) rfl
      refine Rn.hp hT rfl rfl (gI_hp g_1613) ?_
      by_cases c_1614 : (s (q1 + 16) 1) < x4
      · rw [if_pos c_1614] at e
        refine Rn.bt hT rfl rfl rfl (decide_eq_true ((ti_l p_1613 p4).mpr c_1614)) ?_
        refine Rn.n hT 1 (pc' := 48) (L' := [some (.ref q0), some (.ref q1), none, some (.ref q3), some (.int m4), none, none, none, none]) (st' := [.int (0 : Int32)]) rfl ?_
        exact Rn.weak (ll_s (ll_s (ll_n (ll_s (ll_s (ll_n (ll_n (ll_n (ll_n ll_e))))))))) (RX10_roomsWished_b48 hd hR t0 t1 t3 p4 L32_0 ih hk hq e)
      · rw [if_neg c_1614] at e
        refine Rn.bf hT rfl rfl rfl (decide_eq_false (fun z => c_1614 ((ti_l p_1613 p4).mp z))) ?_
        refine Rn.n hT 2 (pc' := 48) (L' := [some (.ref q0), some (.ref q1), none, some (.ref q3), some (.int m4), none, none, none, none]) (st' := [.int (1 : Int32)]) rfl ?_
        exact Rn.weak (ll_s (ll_s (ll_n (ll_s (ll_s (ll_n (ll_n (ll_n (ll_n ll_e))))))))) (RX10_roomsWished_b48 hd hR t0 t1 t3 p4 L32_1 ih hk hq e)
def FX10_roomsWished (N : Nat) (s : iv_M) (q0 : Nat) (q1 : Nat) (o2 : Int) (q3 : Nat) : Option (iv_M) := ((FX10_begin N s q0 q1 o2).bind fun s_1606 => ((FJ7_fill_53178 N s_1606 q3 (w32 ((sl32 1 (s_1606 (q1 + 1) 2)) - 1))).bind fun s_1609 => (FX10_roomsWished_l24 N q0 q1 q3 (fun (s_1610 : iv_M) => some s_1610) N s_1609 0)))
set_option maxRecDepth 10000 in
set_option maxHeartbeats 4000000 in
theorem RX10_roomsWished {d N nc Ls : Nat} {Xs : Nat → Int32} (hd : 6 ≤ d) {h : iv_H} {s : iv_M} (hR : Rep nc Ls Xs h s) {q0 : Nat} (t0 : T10 nc q0) {q1 : Nat} (t1 : T2 nc q1) {o2 : Int} (t2 : (o2 < 0 ∨ TR nc (o2).toNat)) {q3 : Nat} (t3 : TA 0 nc q3) {r : iv_M} {Q : Option Value → iv_H → Prop} (e : FX10_roomsWished N s q0 q1 o2 q3 = some r) (hq : ∀ h1, Rep nc Ls Xs h1 r → Q none h1) : Cl d 128 [.ref q0, .ref q1, iv_rf (rvo o2), .ref q3] h Q := by
  obtain ⟨d, rfl⟩ : ∃ k, d = k + 1 := ⟨d - 1, by omega⟩
  have hd : 5 ≤ d := by omega
  have hT := hX10_roomsWished
  unfold FX10_roomsWished at e
  have he : iv_ent 9 [.ref q0, .ref q1, iv_rf (rvo o2), .ref q3] = [some (.ref q0), some (.ref q1), some (iv_rf (rvo o2)), some (.ref q3), none, none, none, none, none] := by cases rvo o2 <;> rfl
  refine Cl.into (by decide) gX10_roomsWished (by rw [he]; rfl) ?_
  rw [he]
  refine Rn.n hT 2 (pc' := 2) (L' := [some (.ref q0), some (.ref q1), some (iv_rf (rvo o2)), some (.ref q3), none, none, none, none, none]) (st' := [.ref q1, .ref q0]) rfl ?_
  refine Rn.lo hT rfl rfl (L' := [some (.ref q0), some (.ref q1), some (iv_rf (rvo o2)), some (.ref q3), none, none, none, none, none]) (st' := [iv_rf (rvo o2), .ref q1, .ref q0]) (ldN (o := (rvo o2)) rfl) ?_
  obtain ⟨s_1606, e_1605, e⟩ := Option.bind_eq_some_iff.mp e
  refine Rn.call hT rfl rfl rfl (Nat.le_of_ble_eq_true rfl) (rcv_v gX10_begin (by omega) (rp_ck hR (T10_o t0))) (RX10_begin (by omega) hR t0 t1 t2 e_1605 (fun h_1606 R_1606 => ?_))
  show Rn d _ _ 6 [some (.ref q0), some (.ref q1), some (iv_rf (rvo o2)), some (.ref q3), none, none, none, none, none] [] h_1606 Q
  refine Rn.n hT 3 (pc' := 9) (L' := [some (.ref q0), some (.ref q1), some (iv_rf (rvo o2)), some (.ref q3), none, none, none, none, none]) (st' := [.ref q1, .int (1 : Int32), .ref q3]) rfl ?_
  refine Rn.hp hT rfl rfl (gR_hp (rp_gR R_1606 (T2_o t1) rfl)) ?_
  obtain ⟨z_1607, g_1607, p_1607⟩ : ∃ z : Int32, gI h_1606 1 2 (q1 + 1) = some z ∧ z.toInt = s_1606 (q1 + 1) 2 := rp_gI (k := 2) R_1606 (T1_o (T2_9 t1)) rfl
  refine Rn.hp hT rfl rfl (gI_hp g_1607) ?_
  refine Rn.n hT 3 (pc' := 18) (L' := [some (.ref q0), some (.ref q1), some (iv_rf (rvo o2)), some (.ref q3), none, none, none, none, none]) (st' := [.int (((1 : Int32) <<< (z_1607 &&& 31)) - (1 : Int32)), .ref q3]) rfl ?_
  obtain ⟨s_1609, e_1608, e⟩ := Option.bind_eq_some_iff.mp e
  refine Rn.call hT rfl rfl rfl (Nat.le_of_ble_eq_true rfl) rfl (RJ7_fill_53178 (by omega) R_1606 t3 (ti_sub (ti_shl L32_1 p_1607) L32_1) e_1608 (fun h_1609 R_1609 => ?_))
  show Rn d _ _ 21 [some (.ref q0), some (.ref q1), some (iv_rf (rvo o2)), some (.ref q3), none, none, none, none, none] [] h_1609 Q
  refine Rn.n hT 2 (pc' := 24) (L' := [some (.ref q0), some (.ref q1), some (iv_rf (rvo o2)), some (.ref q3), some (.int (0 : Int32)), none, none, none, none]) (st' := []) rfl ?_
  refine Rn.weak (ll_s (ll_s (ll_n (ll_s (ll_s (ll_n (ll_n (ll_n (ll_n ll_e))))))))) (RX10_roomsWished_l24 hd t0 t1 t3 (fun h_1610 s_1610 R_1610 e => ?_) hq N h_1609 s_1609 R_1609 (0 : Int32) 0 L32_0 e)
  try dsimp only at e
  obtain rfl := Option.some.inj e
  exact Rn.ret hT rfl rfl rfl (hq h_1610 R_1610)
set_option maxRecDepth 10000 in
theorem hX10_redraws : iv_Tb 129 tX10_redraws := iv_tb_of (m := mX10_redraws) rfl
set_option maxRecDepth 10000 in
theorem gX10_redraws : PG.2 129 = some mX10_redraws := iv_pi_of (t := tX10_redraws) rfl (by decide)
def FX10_redraws_b51 (N : Nat) (s : iv_M) (q0 : Nat) (x3 : Int)  : Option (Int × iv_M) := ((FX1_go N s (q0 + 1) x3).bind fun s_1642 => (some (1, s_1642)))
set_option maxRecDepth 10000 in
set_option maxHeartbeats 4000000 in
theorem RX10_redraws_b51 {d N nc Ls : Nat} {Xs : Nat → Int32} (hd : 4 ≤ d) {h : iv_H} {s : iv_M} (hR : Rep nc Ls Xs h s) {q0 : Nat} (t0 : T10 nc q0) {m3 : Int32} {x3 : Int} (p3 : m3.toInt = x3)  {r : Int × iv_M} {Q : Option Value → iv_H → Prop} (hq : ∀ (z : Int32) (h1 : iv_H), z.toInt = r.1 → Rep nc Ls Xs h1 r.2 → Q (some (.int z)) h1) (e : FX10_redraws_b51 N s q0 x3  = some r) : Rn d 129 (some .boolean) 51 [some (.ref q0), none, none, some (.int m3)] [] h Q := by
  have hT := hX10_redraws
  unfold FX10_redraws_b51 at e
  refine Rn.n hT 1 (pc' := 52) (L' := [some (.ref q0), none, none, some (.int m3)]) (st' := [.ref q0]) rfl ?_
  refine Rn.hp hT rfl rfl (gR_hp (rp_gR hR (T10_o t0) rfl)) ?_
  refine Rn.n hT 1 (pc' := 56) (L' := [some (.ref q0), none, none, some (.int m3)]) (st' := [.int m3, .ref (q0 + 1)]) rfl ?_
  obtain ⟨s_1642, e_1641, e⟩ := Option.bind_eq_some_iff.mp e
  refine Rn.call hT rfl rfl rfl (Nat.le_of_ble_eq_true rfl) (rcv_v gX1_go (by omega) (rp_ck hR (T1_o (T10_0 t0)))) (RX1_go (by omega) hR (T10_0 t0) p3 e_1641 (fun h_1642 R_1642 => ?_))
  show Rn d _ _ 59 [some (.ref q0), none, none, some (.int m3)] [] h_1642 Q
  refine Rn.n hT 1 (pc' := 60) (L' := [some (.ref q0), none, none, some (.int m3)]) (st' := [.int (1 : Int32)]) rfl ?_
  obtain rfl := Option.some.inj e
  exact Rn.ret hT rfl rfl rfl (hq (1 : Int32) h_1642 L32_1 R_1642)
def FX10_redraws (N : Nat) (s : iv_M) (q0 : Nat) (q1 : Nat) (x2 : Int) (x3 : Int) : Option (Int × iv_M) := ((FX1_copyFrom N s (q0 + 1) (q1 + 1)).bind fun s_1633 => ((rd s_1633 (q1 + 14) 4 x2).bind fun v_1634 => ((rd s_1633 (q1 + 15) 4 x2).bind fun v_1635 => ((FX1_arrange N s_1633 (q0 + 1) v_1634 v_1635).bind fun s_1637 => (if (sr32 x3 8) = 1 then ((FX1_canGo N s_1637 (q0 + 1) x3).bind fun v_1639 => (if v_1639 = 0 then (some (0, s_1637)) else (FX10_redraws_b51 N s_1637 q0 x3))) else (FX10_redraws_b51 N s_1637 q0 x3))))))
set_option maxRecDepth 10000 in
set_option maxHeartbeats 4000000 in
theorem RX10_redraws {d N nc Ls : Nat} {Xs : Nat → Int32} (hd : 5 ≤ d) {h : iv_H} {s : iv_M} (hR : Rep nc Ls Xs h s) {q0 : Nat} (t0 : T10 nc q0) {q1 : Nat} (t1 : T2 nc q1) {m2 : Int32} {x2 : Int} (p2 : m2.toInt = x2) {m3 : Int32} {x3 : Int} (p3 : m3.toInt = x3) {r : Int × iv_M} {Q : Option Value → iv_H → Prop} (e : FX10_redraws N s q0 q1 x2 x3 = some r) (hq : ∀ (z : Int32) (h1 : iv_H), z.toInt = r.1 → Rep nc Ls Xs h1 r.2 → Q (some (.int z)) h1) : Cl d 129 [.ref q0, .ref q1, .int m2, .int m3] h Q := by
  obtain ⟨d, rfl⟩ : ∃ k, d = k + 1 := ⟨d - 1, by omega⟩
  have hd : 4 ≤ d := by omega
  have hT := hX10_redraws
  unfold FX10_redraws at e
  refine Cl.into (by decide) gX10_redraws rfl ?_
  show Rn d 129 (some .boolean) 0 [some (.ref q0), some (.ref q1), some (.int m2), some (.int m3)] [] h Q
  refine Rn.n hT 1 (pc' := 1) (L' := [some (.ref q0), some (.ref q1), some (.int m2), some (.int m3)]) (st' := [.ref q0]) rfl ?_
  refine Rn.hp hT rfl rfl (gR_hp (rp_gR hR (T10_o t0) rfl)) ?_
  refine Rn.n hT 1 (pc' := 5) (L' := [some (.ref q0), some (.ref q1), some (.int m2), some (.int m3)]) (st' := [.ref q1, .ref (q0 + 1)]) rfl ?_
  refine Rn.hp hT rfl rfl (gR_hp (rp_gR hR (T2_o t1) rfl)) ?_
  obtain ⟨s_1633, e_1632, e⟩ := Option.bind_eq_some_iff.mp e
  refine Rn.call hT rfl rfl rfl (Nat.le_of_ble_eq_true rfl) (rcv_v gX1_copyFrom (by omega) (rp_ck hR (T1_o (T10_0 t0)))) (RX1_copyFrom (by omega) hR (T10_0 t0) (T2_9 t1) e_1632 (fun h_1633 R_1633 => ?_))
  show Rn d _ _ 11 [some (.ref q0), some (.ref q1), some (.int m2), some (.int m3)] [] h_1633 Q
  refine Rn.n hT 1 (pc' := 12) (L' := [some (.ref q0), some (.ref q1), some (.int m2), some (.int m3)]) (st' := [.ref q0]) rfl ?_
  refine Rn.hp hT rfl rfl (gR_hp (rp_gR R_1633 (T10_o t0) rfl)) ?_
  refine Rn.n hT 1 (pc' := 16) (L' := [some (.ref q0), some (.ref q1), some (.int m2), some (.int m3)]) (st' := [.ref q1, .ref (q0 + 1)]) rfl ?_
  refine Rn.hp hT rfl rfl (gR_hp (rp_gR R_1633 (T2_o t1) rfl)) ?_
  refine Rn.n hT 1 (pc' := 20) (L' := [some (.ref q0), some (.ref q1), some (.int m2), some (.int m3)]) (st' := [.int m2, .ref (q1 + 14), .ref (q0 + 1)]) rfl ?_
  obtain ⟨v_1634, e_1634, e⟩ := Option.bind_eq_some_iff.mp e
  obtain ⟨z_1634, g_1634, p_1634⟩ := rp_aJ R_1633 (T2_14 t1) (T2_14l t1) p2 e_1634
  refine Rn.hp hT rfl rfl (aJ_hp g_1634) ?_
  refine Rn.n hT 1 (pc' := 22) (L' := [some (.ref q0), some (.ref q1), some (.int m2), some (.int m3)]) (st' := [.ref q1, .long z_1634, .ref (q0 + 1)]) rfl ?_
  refine Rn.hp hT rfl rfl (gR_hp (rp_gR R_1633 (T2_o t1) rfl)) ?_
  refine Rn.n hT 1 (pc' := 26) (L' := [some (.ref q0), some (.ref q1), some (.int m2), some (.int m3)]) (st' := [.int m2, .ref (q1 + 15), .long z_1634, .ref (q0 + 1)]) rfl ?_
  obtain ⟨v_1635, e_1635, e⟩ := Option.bind_eq_some_iff.mp e
  obtain ⟨z_1635, g_1635, p_1635⟩ := rp_aI R_1633 (T2_15 t1) (T2_15l t1) p2 e_1635
  refine Rn.hp hT rfl rfl (aI_hp g_1635) ?_
  obtain ⟨s_1637, e_1636, e⟩ := Option.bind_eq_some_iff.mp e
  refine Rn.call hT rfl rfl rfl (Nat.le_of_ble_eq_true rfl) (rcv_v gX1_arrange (by omega) (rp_ck R_1633 (T1_o (T10_0 t0)))) (RX1_arrange (by omega) R_1633 (T10_0 t0) p_1634 p_1635 e_1636 (fun h_1637 R_1637 => ?_))
  show Rn d _ _ 30 [some (.ref q0), some (.ref q1), some (.int m2), some (.int m3)] [] h_1637 Q
  refine Rn.n hT 4 (pc' := 35) (L' := [some (.ref q0), some (.ref q1), some (.int m2), some (.int m3)]) (st' := [.int (1 : Int32), .int (m3 >>> ((8 : Int32) &&& 31))]) rfl ?_
  by_cases c_1638 : (sr32 x3 8) = 1
  · rw [if_pos c_1638] at e
    refine Rn.bf hT rfl rfl rfl (decide_eq_false (fun z => z ((ti_e (ti_shr p3 L32_8) L32_1).mpr c_1638))) ?_
    refine Rn.n hT 1 (pc' := 39) (L' := [some (.ref q0), some (.ref q1), some (.int m2), some (.int m3)]) (st' := [.ref q0]) rfl ?_
    refine Rn.hp hT rfl rfl (gR_hp (rp_gR R_1637 (T10_o t0) rfl)) ?_
    refine Rn.n hT 1 (pc' := 43) (L' := [some (.ref q0), some (.ref q1), some (.int m2), some (.int m3)]) (st' := [.int m3, .ref (q0 + 1)]) rfl ?_
    obtain ⟨v_1639, e_1639, e⟩ := Option.bind_eq_some_iff.mp e
    refine Rn.call hT rfl rfl rfl (Nat.le_of_ble_eq_true rfl) (rcv_v gX1_canGo (by omega) (rp_ck R_1637 (T1_o (T10_0 t0)))) (RX1_canGo (by omega) R_1637 (T10_0 t0) p3 e_1639 (fun z_1639 p_1639 => ?_))
    show Rn d _ _ 46 [some (.ref q0), some (.ref q1), some (.int m2), some (.int m3)] [.int z_1639] h_1637 Q
    by_cases c_1640 : v_1639 = 0
    · rw [if_pos c_1640] at e
      refine Rn.bf hT rfl rfl rfl (decide_eq_false (fun z => z ((ti_e p_1639 L32_0).mpr c_1640))) ?_
      refine Rn.n hT 1 (pc' := 50) (L' := [some (.ref q0), some (.ref q1), some (.int m2), some (.int m3)]) (st' := [.int (0 : Int32)]) rfl ?_
      obtain rfl := Option.some.inj e
      exact Rn.ret hT rfl rfl rfl (hq (0 : Int32) h_1637 L32_0 R_1637)
    · rw [if_neg c_1640] at e
      refine Rn.bt hT rfl rfl rfl (decide_eq_true (fun z => c_1640 ((ti_e p_1639 L32_0).mp z))) ?_
      exact Rn.weak (ll_s (ll_n (ll_n (ll_s ll_e)))) (RX10_redraws_b51 hd R_1637 t0 p3 hq e)
  · rw [if_neg c_1638] at e
    refine Rn.bt hT rfl rfl rfl (decide_eq_true (fun z => c_1638 ((ti_e (ti_shr p3 L32_8) L32_1).mp z))) ?_
    exact Rn.weak (ll_s (ll_n (ll_n (ll_s ll_e)))) (RX10_redraws_b51 hd R_1637 t0 p3 hq e)
set_option maxRecDepth 10000 in
theorem hX10_isAsTheyWoke : iv_Tb 132 tX10_isAsTheyWoke := iv_tb_of (m := mX10_isAsTheyWoke) rfl
set_option maxRecDepth 10000 in
theorem gX10_isAsTheyWoke : PG.2 132 = some mX10_isAsTheyWoke := iv_pi_of (t := tX10_isAsTheyWoke) rfl (by decide)
def FX10_isAsTheyWoke_l2 (N : Nat) (s : iv_M) (q0 : Nat) (q1 : Nat) (kx : Unit → Option (Int)) : Nat → Int → Option (Int)
  | 0, _ => none
  | n + 1, x2 => (if (s (q1 + 20) 1) ≤ x2 then (kx ()) else ((rd s ((q1 + 20) + 1) ((sh ((q1 + 20) + 1)).2 : Int) x2).bind fun v_1646 => ((rd s ((q0 + 1) + 1) 12 (sr32 (w32 v_1646) 4)).bind fun v_1647 => (if v_1647 = (bAn (w32 v_1646) 15) then (FX10_isAsTheyWoke_l2 N s q0 q1 kx n (w32 (x2 + 1))) else (some 0)))))
set_option maxRecDepth 10000 in
set_option maxHeartbeats 4000000 in
theorem RX10_isAsTheyWoke_l2 {d N nc Ls : Nat} {Xs : Nat → Int32} (hd : 0 ≤ d) {h : iv_H} {s : iv_M} (hR : Rep nc Ls Xs h s) {q0 : Nat} (t0 : T10 nc q0) {q1 : Nat} (t1 : T2 nc q1) {kx : Unit → Option (Int)} {r : Int} {Q : Option Value → iv_H → Prop} (hk : ∀ (u : Unit), kx u = some r → Rn d 132 (some .boolean) 50 [none, none, none, none] [] h Q) (hq : ∀ (z : Int32), z.toInt = r → Q (some (.int z)) h) : ∀ (n : Nat) (m2 : Int32) (x2 : Int) (p2 : m2.toInt = x2), FX10_isAsTheyWoke_l2 N s q0 q1 kx n x2 = some r → Rn d 132 (some .boolean) 2 [some (.ref q0), some (.ref q1), some (.int m2), none] [] h Q := by
  have hT := hX10_isAsTheyWoke
  intro n
  induction n with
  | zero =>
    intro m2 x2 p2 e
    rw [FX10_isAsTheyWoke_l2] at e
    cases e
  | succ n ih =>
    intro m2 x2 p2 e
    rw [FX10_isAsTheyWoke_l2] at e
    refine Rn.n hT 2 (pc' := 4) (L' := [some (.ref q0), some (.ref q1), some (.int m2), none]) (st' := [.ref q1, .int m2]) rfl ?_
    refine Rn.hp hT rfl rfl (gR_hp (rp_gR hR (T2_o t1) rfl)) ?_
    obtain ⟨z_1644, g_1644, p_1644⟩ : ∃ z : Int32, gI h 7 1 (q1 + 20) = some z ∧ z.toInt = s (q1 + 20) 1 := rp_gI (k := 1) hR (T7_o (T2_18 t1)) rfl
    refine Rn.hp hT rfl rfl (gI_hp g_1644) ?_
    by_cases c_1645 : (s (q1 + 20) 1) ≤ x2
    · rw [if_pos c_1645] at e
      refine Rn.bt hT rfl rfl rfl (decide_eq_true ((ti_le p_1644 p2).mpr c_1645)) ?_
      exact Rn.weak (ll_n (ll_n (ll_n (ll_n ll_e)))) (hk () e)
    · rw [if_neg c_1645] at e
      refine Rn.bf hT rfl rfl rfl (decide_eq_false (fun z => c_1645 ((ti_le p_1644 p2).mp z))) ?_
      refine Rn.n hT 1 (pc' := 14) (L' := [some (.ref q0), some (.ref q1), some (.int m2), none]) (st' := [.ref q1]) rfl ?_
      refine Rn.hp hT rfl rfl (gR_hp (rp_gR hR (T2_o t1) rfl)) ?_
      refine Rn.hp hT rfl rfl (gR_hp (rp_gR hR (T7_o (T2_18 t1)) rfl)) ?_
      refine Rn.n hT 1 (pc' := 21) (L' := [some (.ref q0), some (.ref q1), some (.int m2), none]) (st' := [.int m2, .ref ((q1 + 20) + 1)]) rfl ?_
      obtain ⟨v_1646, e_1646, e⟩ := Option.bind_eq_some_iff.mp e
      obtain ⟨z_1646, g_1646, p_1646⟩ := rp_aJ hR (T7_0 (T2_18 t1)) rfl p2 e_1646
      refine Rn.hp hT rfl rfl (aJ_hp g_1646) ?_
      refine Rn.n hT 3 (pc' := 25) (L' := [some (.ref q0), some (.ref q1), some (.int m2), some (.int ((z_1646).toInt32))]) (st' := [.ref q0]) rfl ?_
      refine Rn.hp hT rfl rfl (gR_hp (rp_gR hR (T10_o t0) rfl)) ?_
      refine Rn.hp hT rfl rfl (gR_hp (rp_gR hR (T1_o (T10_0 t0)) rfl)) ?_
      refine Rn.n hT 3 (pc' := 34) (L' := [some (.ref q0), some (.ref q1), some (.int m2), some (.int ((z_1646).toInt32))]) (st' := [.int ((z_1646).toInt32 >>> ((4 : Int32) &&& 31)), .ref ((q0 + 1) + 1)]) rfl ?_
      obtain ⟨v_1647, e_1647, e⟩ := Option.bind_eq_some_iff.mp e
      obtain ⟨z_1647, g_1647, p_1647⟩ := rp_aI hR (T1_5 (T10_0 t0)) (T1_5l (T10_0 t0)) (ti_shr (tj_i p_1646) L32_4) e_1647
      refine Rn.hp hT rfl rfl (aI_hp g_1647) ?_
      refine Rn.n hT 3 (pc' := 39) (L' := [some (.ref q0), some (.ref q1), some (.int m2), some (.int ((z_1646).toInt32))]) (st' := [.int ((z_1646).toInt32 &&& (15 : Int32)), .int z_1647]) rfl ?_
      by_cases c_1648 : v_1647 = (bAn (w32 v_1646) 15)
      · rw [if_pos c_1648] at e
        refine Rn.bt hT rfl rfl rfl (decide_eq_true ((ti_e p_1647 (ti_and (tj_i p_1646) L32_15)).mpr c_1648)) ?_
        refine Rn.n hT 2 (pc' := 2) (L' := [some (.ref q0), some (.ref q1), some (.int (m2 + (1 : Int32))), some (.int ((z_1646).toInt32))]) (st' := []) rfl ?_
        exact Rn.weak (ll_s (ll_s (ll_s (ll_n ll_e)))) (ih (m2 + (1 : Int32)) (w32 (x2 + 1)) (ti_add p2 L32_1) e)
      · rw [if_neg c_1648] at e
        refine Rn.bf hT rfl rfl rfl (decide_eq_false (fun z => c_1648 ((ti_e p_1647 (ti_and (tj_i p_1646) L32_15)).mp z))) ?_
        refine Rn.n hT 1 (pc' := 43) (L' := [some (.ref q0), some (.ref q1), some (.int m2), some (.int ((z_1646).toInt32))]) (st' := [.int (0 : Int32)]) rfl ?_
        obtain rfl := Option.some.inj e
        exact Rn.ret hT rfl rfl rfl (hq (0 : Int32) L32_0)
def FX10_isAsTheyWoke (N : Nat) (s : iv_M) (q0 : Nat) (q1 : Nat) : Option (Int) := (FX10_isAsTheyWoke_l2 N s q0 q1 (fun (_ : Unit) => (some 1)) N 0)
set_option maxRecDepth 10000 in
set_option maxHeartbeats 4000000 in
theorem RX10_isAsTheyWoke {d N nc Ls : Nat} {Xs : Nat → Int32} (hd : 1 ≤ d) {h : iv_H} {s : iv_M} (hR : Rep nc Ls Xs h s) {q0 : Nat} (t0 : T10 nc q0) {q1 : Nat} (t1 : T2 nc q1) {r : Int} {Q : Option Value → iv_H → Prop} (e : FX10_isAsTheyWoke N s q0 q1 = some r) (hq : ∀ (z : Int32), z.toInt = r → Q (some (.int z)) h) : Cl d 132 [.ref q0, .ref q1] h Q := by
  obtain ⟨d, rfl⟩ : ∃ k, d = k + 1 := ⟨d - 1, by omega⟩
  have hd : 0 ≤ d := by omega
  have hT := hX10_isAsTheyWoke
  unfold FX10_isAsTheyWoke at e
  refine Cl.into (by decide) gX10_isAsTheyWoke rfl ?_
  show Rn d 132 (some .boolean) 0 [some (.ref q0), some (.ref q1), none, none] [] h Q
  refine Rn.n hT 2 (pc' := 2) (L' := [some (.ref q0), some (.ref q1), some (.int (0 : Int32)), none]) (st' := []) rfl ?_
  refine Rn.weak (ll_s (ll_s (ll_s (ll_n ll_e)))) (RX10_isAsTheyWoke_l2 hd hR t0 t1 (fun _ e => ?_) hq N (0 : Int32) 0 L32_0 e)
  try dsimp only at e
  refine Rn.n hT 1 (pc' := 51) (L' := [none, none, none, none]) (st' := [.int (1 : Int32)]) rfl ?_
  obtain rfl := Option.some.inj e
  exact Rn.ret hT rfl rfl rfl (hq (1 : Int32) L32_1)
set_option maxRecDepth 10000 in
theorem hX10_tally : iv_Tb 133 tX10_tally := iv_tb_of (m := mX10_tally) rfl
set_option maxRecDepth 10000 in
theorem gX10_tally : PG.2 133 = some mX10_tally := iv_pi_of (t := tX10_tally) rfl (by decide)
def FX10_tally_b69 (N : Nat) (s : iv_M) (q0 : Nat) (x1 : Int) (x2 : Int)  (kb : iv_M → Int → Option (iv_M)) (kx : iv_M → Option (iv_M)) : Option (iv_M) := (kb s (w32 (x2 + 1)))
set_option maxRecDepth 10000 in
set_option maxHeartbeats 4000000 in
theorem RX10_tally_b69 {d N nc Ls : Nat} {Xs : Nat → Int32} (hd : 0 ≤ d) {h : iv_H} {s : iv_M} (hR : Rep nc Ls Xs h s) {q0 : Nat} (t0 : T10 nc q0) {m1 : Int32} {x1 : Int} (p1 : m1.toInt = x1) {m2 : Int32} {x2 : Int} (p2 : m2.toInt = x2)  {kb : iv_M → Int → Option (iv_M)} {kx : iv_M → Option (iv_M)} {r : iv_M} {Q : Option Value → iv_H → Prop} (hb : ∀ (h : iv_H) (s : iv_M) (hR : Rep nc Ls Xs h s) (mw2 : Int32) (xw2 : Int) (pw2 : mw2.toInt = xw2), kb s xw2 = some r → Rn d 133 none 12 [some (.ref q0), some (.int m1), some (.int mw2)] [] h Q) (hk : ∀ (h : iv_H) (s : iv_M) (hR : Rep nc Ls Xs h s), kx s = some r → Rn d 133 none 75 [none, none, none] [] h Q) (hq : ∀ h1, Rep nc Ls Xs h1 r → Q none h1) (e : FX10_tally_b69 N s q0 x1 x2  kb kx = some r) : Rn d 133 none 69 [some (.ref q0), some (.int m1), some (.int m2)] [] h Q := by
  have hT := hX10_tally
  unfold FX10_tally_b69 at e
  refine Rn.n hT 2 (pc' := 12) (L' := [some (.ref q0), some (.int m1), some (.int (m2 + (1 : Int32)))]) (st' := []) rfl ?_
  exact Rn.weak (ll_s (ll_s (ll_s ll_e))) (hb h s hR (m2 + (1 : Int32)) (w32 (x2 + 1)) (ti_add p2 L32_1) e)
def FX10_tally_l12 (N : Nat) (q0 : Nat) (x1 : Int) (kx : iv_M → Option (iv_M)) : Nat → iv_M → Int → Option (iv_M)
  | 0, _, _ => none
  | n + 1, s, x2 => (if x1 ≤ x2 then (kx s) else (if 3 ≤ x2 then (kx s) else ((gx (q0 + 10) 3 x2).bind fun v_1656 => ((rd s (q0 + 14) 3 x2).bind fun v_1657 => ((rd s v_1656 126 v_1657).bind fun v_1658 => ((rd s (q0 + 16) 4 (sr32 v_1658 8)).bind fun v_1659 => ((wr s (q0 + 16) 4 (sr32 v_1658 8) (w32 (v_1659 + 1))).bind fun s_1660 => ((rd s_1660 (q0 + 16) 4 0).bind fun v_1662 => (if v_1662 = 1 then ((rd s_1660 (q0 + 14) 3 x2).bind fun v_1664 => ((wr s_1660 (q0 + 15) 3 x2 v_1664).bind fun s_1665 => (FX10_tally_b69 N s_1665 q0 x1 x2 (FX10_tally_l12 N q0 x1 kx n) kx))) else (FX10_tally_b69 N s_1660 q0 x1 x2 (FX10_tally_l12 N q0 x1 kx n) kx))))))))))
set_option maxRecDepth 10000 in
set_option maxHeartbeats 4000000 in
theorem RX10_tally_l12 {d N nc Ls : Nat} {Xs : Nat → Int32} (hd : 0 ≤ d) {q0 : Nat} (t0 : T10 nc q0) {m1 : Int32} {x1 : Int} (p1 : m1.toInt = x1) {kx : iv_M → Option (iv_M)} {r : iv_M} {Q : Option Value → iv_H → Prop} (hk : ∀ (h : iv_H) (s : iv_M) (hR : Rep nc Ls Xs h s), kx s = some r → Rn d 133 none 75 [none, none, none] [] h Q) (hq : ∀ h1, Rep nc Ls Xs h1 r → Q none h1) : ∀ (n : Nat) (h : iv_H) (s : iv_M) (hR : Rep nc Ls Xs h s) (m2 : Int32) (x2 : Int) (p2 : m2.toInt = x2), FX10_tally_l12 N q0 x1 kx n s x2 = some r → Rn d 133 none 12 [some (.ref q0), some (.int m1), some (.int m2)] [] h Q := by
  have hT := hX10_tally
  intro n
  induction n with
  | zero =>
    intro h s hR m2 x2 p2 e
    rw [FX10_tally_l12] at e
    cases e
  | succ n ih =>
    intro h s hR m2 x2 p2 e
    rw [FX10_tally_l12] at e
    refine Rn.n hT 2 (pc' := 14) (L' := [some (.ref q0), some (.int m1), some (.int m2)]) (st' := [.int m1, .int m2]) rfl ?_
    by_cases c_1654 : x1 ≤ x2
    · rw [if_pos c_1654] at e
      refine Rn.bt hT rfl rfl rfl (decide_eq_true ((ti_le p1 p2).mpr c_1654)) ?_
      exact Rn.weak (ll_n (ll_n (ll_n ll_e))) (hk h s hR e)
    · rw [if_neg c_1654] at e
      refine Rn.bf hT rfl rfl rfl (decide_eq_false (fun z => c_1654 ((ti_le p1 p2).mp z))) ?_
      refine Rn.n hT 2 (pc' := 19) (L' := [some (.ref q0), some (.int m1), some (.int m2)]) (st' := [.int (3 : Int32), .int m2]) rfl ?_
      by_cases c_1655 : 3 ≤ x2
      · rw [if_pos c_1655] at e
        refine Rn.bt hT rfl rfl rfl (decide_eq_true ((ti_le L32_3 p2).mpr c_1655)) ?_
        exact Rn.weak (ll_n (ll_n (ll_n ll_e))) (hk h s hR e)
      · rw [if_neg c_1655] at e
        refine Rn.bf hT rfl rfl rfl (decide_eq_false (fun z => c_1655 ((ti_le L32_3 p2).mp z))) ?_
        refine Rn.n hT 1 (pc' := 23) (L' := [some (.ref q0), some (.int m1), some (.int m2)]) (st' := [.ref q0]) rfl ?_
        refine Rn.hp hT rfl rfl (gR_hp (rp_gR hR (T10_o t0) rfl)) ?_
        refine Rn.n hT 1 (pc' := 27) (L' := [some (.ref q0), some (.int m1), some (.int m2)]) (st' := [.ref q0, .ref (q0 + 16)]) rfl ?_
        refine Rn.hp hT rfl rfl (gR_hp (rp_gR hR (T10_o t0) rfl)) ?_
        refine Rn.n hT 1 (pc' := 31) (L' := [some (.ref q0), some (.int m1), some (.int m2)]) (st' := [.int m2, .ref (q0 + 10), .ref (q0 + 16)]) rfl ?_
        obtain ⟨v_1656, e_1656, e⟩ := Option.bind_eq_some_iff.mp e
        refine Rn.hp hT rfl rfl (aR_hp (rp_gx (m := 3) hR (T10_3 t0) p2 e_1656)) ?_
        refine Rn.n hT 1 (pc' := 33) (L' := [some (.ref q0), some (.int m1), some (.int m2)]) (st' := [.ref q0, .ref v_1656, .ref (q0 + 16)]) rfl ?_
        refine Rn.hp hT rfl rfl (gR_hp (rp_gR hR (T10_o t0) rfl)) ?_
        refine Rn.n hT 1 (pc' := 37) (L' := [some (.ref q0), some (.int m1), some (.int m2)]) (st' := [.int m2, .ref (q0 + 14), .ref v_1656, .ref (q0 + 16)]) rfl ?_
        obtain ⟨v_1657, e_1657, e⟩ := Option.bind_eq_some_iff.mp e
        obtain ⟨z_1657, g_1657, p_1657⟩ := rp_aI hR (T10_4 t0) (T10_4l t0) p2 e_1657
        refine Rn.hp hT rfl rfl (aI_hp g_1657) ?_
        obtain ⟨v_1658, e_1658, e⟩ := Option.bind_eq_some_iff.mp e
        obtain ⟨z_1658, g_1658, p_1658⟩ := rp_aI hR (ga_a (gx_ty (T10_3g t0) e_1656)) (ga_l (gx_ty (T10_3g t0) e_1656)) p_1657 e_1658
        refine Rn.hp hT rfl rfl (aI_hp g_1658) ?_
        refine Rn.n hT 3 (pc' := 43) (L' := [some (.ref q0), some (.int m1), some (.int m2)]) (st' := [.int (z_1658 >>> ((8 : Int32) &&& 31)), .ref (q0 + 16), .int (z_1658 >>> ((8 : Int32) &&& 31)), .ref (q0 + 16)]) rfl ?_
        obtain ⟨v_1659, e_1659, e⟩ := Option.bind_eq_some_iff.mp e
        obtain ⟨z_1659, g_1659, p_1659⟩ := rp_aI hR (T10_6 t0) (T10_6l t0) (ti_shr p_1658 L32_8) e_1659
        refine Rn.hp hT rfl rfl (aI_hp g_1659) ?_
        refine Rn.n hT 2 (pc' := 46) (L' := [some (.ref q0), some (.int m1), some (.int m2)]) (st' := [.int (z_1659 + (1 : Int32)), .int (z_1658 >>> ((8 : Int32) &&& 31)), .ref (q0 + 16)]) rfl ?_
        obtain ⟨s_1660, e_1661, e⟩ := Option.bind_eq_some_iff.mp e
        obtain ⟨h_1660, g_1661, R_1660⟩ := rp_wI hR (T10_6 t0) (T10_6l t0) (ti_shr p_1658 L32_8) (ti_add p_1659 L32_1) e_1661
        refine Rn.hp hT rfl rfl (wI_hp g_1661) ?_
        refine Rn.n hT 1 (pc' := 48) (L' := [some (.ref q0), some (.int m1), some (.int m2)]) (st' := [.ref q0]) rfl ?_
        refine Rn.hp hT rfl rfl (gR_hp (rp_gR R_1660 (T10_o t0) rfl)) ?_
        refine Rn.n hT 1 (pc' := 52) (L' := [some (.ref q0), some (.int m1), some (.int m2)]) (st' := [.int (0 : Int32), .ref (q0 + 16)]) rfl ?_
        obtain ⟨v_1662, e_1662, e⟩ := Option.bind_eq_some_iff.mp e
        obtain ⟨z_1662, g_1662, p_1662⟩ := rp_aI R_1660 (T10_6 t0) (T10_6l t0) L32_0 e_1662
        refine Rn.hp hT rfl rfl (aI_hp g_1662) ?_
        refine Rn.n hT 1 (pc' := 54) (L' := [some (.ref q0), some (.int m1), some (.int m2)]) (st' := [.int (1 : Int32), .int z_1662]) rfl ?_
        by_cases c_1663 : v_1662 = 1
        · rw [if_pos c_1663] at e
          refine Rn.bf hT rfl rfl rfl (decide_eq_false (fun z => z ((ti_e p_1662 L32_1).mpr c_1663))) ?_
          refine Rn.n hT 1 (pc' := 58) (L' := [some (.ref q0), some (.int m1), some (.int m2)]) (st' := [.ref q0]) rfl ?_
          refine Rn.hp hT rfl rfl (gR_hp (rp_gR R_1660 (T10_o t0) rfl)) ?_
          refine Rn.n hT 2 (pc' := 63) (L' := [some (.ref q0), some (.int m1), some (.int m2)]) (st' := [.ref q0, .int m2, .ref (q0 + 15)]) rfl ?_
          refine Rn.hp hT rfl rfl (gR_hp (rp_gR R_1660 (T10_o t0) rfl)) ?_
          refine Rn.n hT 1 (pc' := 67) (L' := [some (.ref q0), some (.int m1), some (.int m2)]) (st' := [.int m2, .ref (q0 + 14), .int m2, .ref (q0 + 15)]) rfl ?_
          obtain ⟨v_1664, e_1664, e⟩ := Option.bind_eq_some_iff.mp e
          obtain ⟨z_1664, g_1664, p_1664⟩ := rp_aI R_1660 (T10_4 t0) (T10_4l t0) p2 e_1664
          refine Rn.hp hT rfl rfl (aI_hp g_1664) ?_
          obtain ⟨s_1665, e_1666, e⟩ := Option.bind_eq_some_iff.mp e
          obtain ⟨h_1665, g_1666, R_1665⟩ := rp_wI R_1660 (T10_5 t0) (T10_5l t0) p2 p_1664 e_1666
          refine Rn.hp hT rfl rfl (wI_hp g_1666) ?_
          exact Rn.weak (ll_s (ll_s (ll_s ll_e))) (RX10_tally_b69 hd R_1665 t0 p1 p2 ih hk hq e)
        · rw [if_neg c_1663] at e
          refine Rn.bt hT rfl rfl rfl (decide_eq_true (fun z => c_1663 ((ti_e p_1662 L32_1).mp z))) ?_
          exact Rn.weak (ll_s (ll_s (ll_s ll_e))) (RX10_tally_b69 hd R_1660 t0 p1 p2 ih hk hq e)
def FX10_tally_b75 (N : Nat) (s : iv_M)   : Option (iv_M) := some s
set_option maxRecDepth 10000 in
set_option maxHeartbeats 4000000 in
theorem RX10_tally_b75 {d N nc Ls : Nat} {Xs : Nat → Int32} (hd : 0 ≤ d) {h : iv_H} {s : iv_M} (hR : Rep nc Ls Xs h s)   {r : iv_M} {Q : Option Value → iv_H → Prop} (hq : ∀ h1, Rep nc Ls Xs h1 r → Q none h1) (e : FX10_tally_b75 N s   = some r) : Rn d 133 none 75 [none, none, none] [] h Q := by
  have hT := hX10_tally
  unfold FX10_tally_b75 at e
  obtain rfl := Option.some.inj e
  exact Rn.ret hT rfl rfl rfl (hq h hR)
def FX10_tally (N : Nat) (s : iv_M) (q0 : Nat) (x1 : Int) : Option (iv_M) := ((rd s (q0 + 16) 4 0).bind fun v_1649 => ((wr s (q0 + 16) 4 0 (w32 (v_1649 + 1))).bind fun s_1650 => (FX10_tally_l12 N q0 x1 (fun (s_1652 : iv_M) => (FX10_tally_b75 N s_1652)) N s_1650 0)))
set_option maxRecDepth 10000 in
set_option maxHeartbeats 4000000 in
theorem RX10_tally {d N nc Ls : Nat} {Xs : Nat → Int32} (hd : 1 ≤ d) {h : iv_H} {s : iv_M} (hR : Rep nc Ls Xs h s) {q0 : Nat} (t0 : T10 nc q0) {m1 : Int32} {x1 : Int} (p1 : m1.toInt = x1) {r : iv_M} {Q : Option Value → iv_H → Prop} (e : FX10_tally N s q0 x1 = some r) (hq : ∀ h1, Rep nc Ls Xs h1 r → Q none h1) : Cl d 133 [.ref q0, .int m1] h Q := by
  obtain ⟨d, rfl⟩ : ∃ k, d = k + 1 := ⟨d - 1, by omega⟩
  have hd : 0 ≤ d := by omega
  have hT := hX10_tally
  unfold FX10_tally at e
  refine Cl.into (by decide) gX10_tally rfl ?_
  show Rn d 133 none 0 [some (.ref q0), some (.int m1), none] [] h Q
  refine Rn.n hT 1 (pc' := 1) (L' := [some (.ref q0), some (.int m1), none]) (st' := [.ref q0]) rfl ?_
  refine Rn.hp hT rfl rfl (gR_hp (rp_gR hR (T10_o t0) rfl)) ?_
  refine Rn.n hT 2 (pc' := 6) (L' := [some (.ref q0), some (.int m1), none]) (st' := [.int (0 : Int32), .ref (q0 + 16), .int (0 : Int32), .ref (q0 + 16)]) rfl ?_
  obtain ⟨v_1649, e_1649, e⟩ := Option.bind_eq_some_iff.mp e
  obtain ⟨z_1649, g_1649, p_1649⟩ := rp_aI hR (T10_6 t0) (T10_6l t0) L32_0 e_1649
  refine Rn.hp hT rfl rfl (aI_hp g_1649) ?_
  refine Rn.n hT 2 (pc' := 9) (L' := [some (.ref q0), some (.int m1), none]) (st' := [.int (z_1649 + (1 : Int32)), .int (0 : Int32), .ref (q0 + 16)]) rfl ?_
  obtain ⟨s_1650, e_1651, e⟩ := Option.bind_eq_some_iff.mp e
  obtain ⟨h_1650, g_1651, R_1650⟩ := rp_wI hR (T10_6 t0) (T10_6l t0) L32_0 (ti_add p_1649 L32_1) e_1651
  refine Rn.hp hT rfl rfl (wI_hp g_1651) ?_
  refine Rn.n hT 2 (pc' := 12) (L' := [some (.ref q0), some (.int m1), some (.int (0 : Int32))]) (st' := []) rfl ?_
  refine Rn.weak (ll_s (ll_s (ll_s ll_e))) (RX10_tally_l12 hd t0 p1 (fun h_1652 s_1652 R_1652 e => ?_) hq N h_1650 s_1650 R_1650 (0 : Int32) 0 L32_0 e)
  try dsimp only at e
  exact Rn.weak (ll_n (ll_n (ll_n ll_e))) (RX10_tally_b75 hd R_1652 hq e)
set_option maxRecDepth 10000 in
theorem hX10_goRows : iv_Tb 131 tX10_goRows := iv_tb_of (m := mX10_goRows) rfl
set_option maxRecDepth 10000 in
theorem gX10_goRows : PG.2 131 = some mX10_goRows := iv_pi_of (t := tX10_goRows) rfl (by decide)
def FX10_goRows_b23 (N : Nat) (rc : iv_M → Nat → Nat → Int → Int → Option iv_M) (s : iv_M)   : Option (iv_M) := some s
set_option maxRecDepth 10000 in
set_option maxHeartbeats 4000000 in
theorem RX10_goRows_b23 {d N nc Ls : Nat} {Xs : Nat → Int32} (hd : 5 ≤ d) {rc : iv_M → Nat → Nat → Int → Int → Option iv_M} (hrc : ∀ {h : iv_H} {s : iv_M} (_ : Rep nc Ls Xs h s) {q0 : Nat} (t0 : T10 nc q0) {q1 : Nat} (t1 : T2 nc q1) {m2 : Int32} {x2 : Int} (p2 : m2.toInt = x2) {m3 : Int32} {x3 : Int} (p3 : m3.toInt = x3) {r : iv_M} {Q : Option Value → iv_H → Prop}, rc s q0 q1 x2 x3 = some r → (∀ h1, Rep nc Ls Xs h1 r → Q none h1) → Cl d 131 [.ref q0, .ref q1, .int m2, .int m3] h Q) {h : iv_H} {s : iv_M} (hR : Rep nc Ls Xs h s)   {r : iv_M} {Q : Option Value → iv_H → Prop} (hq : ∀ h1, Rep nc Ls Xs h1 r → Q none h1) (e : FX10_goRows_b23 N rc s   = some r) : Rn d 131 none 23 [none, none, none, none, none, none, none] [] h Q := by
  have hT := hX10_goRows
  unfold FX10_goRows_b23 at e
  obtain rfl := Option.some.inj e
  exact Rn.ret hT rfl rfl rfl (hq h hR)
def FX10_goRows_b10 (N : Nat) (rc : iv_M → Nat → Nat → Int → Int → Option iv_M) (s : iv_M) (q0 : Nat) (q1 : Nat) (x3 : Int)  : Option (iv_M) := ((FX10_isAsTheyWoke N s q0 q1).bind fun v_1674 => (if v_1674 = 0 then (FX10_goRows_b23 N rc s) else ((FX10_tally N s q0 x3).bind fun s_1677 => (FX10_goRows_b23 N rc s_1677))))
set_option maxRecDepth 10000 in
set_option maxHeartbeats 4000000 in
theorem RX10_goRows_b10 {d N nc Ls : Nat} {Xs : Nat → Int32} (hd : 5 ≤ d) {rc : iv_M → Nat → Nat → Int → Int → Option iv_M} (hrc : ∀ {h : iv_H} {s : iv_M} (_ : Rep nc Ls Xs h s) {q0 : Nat} (t0 : T10 nc q0) {q1 : Nat} (t1 : T2 nc q1) {m2 : Int32} {x2 : Int} (p2 : m2.toInt = x2) {m3 : Int32} {x3 : Int} (p3 : m3.toInt = x3) {r : iv_M} {Q : Option Value → iv_H → Prop}, rc s q0 q1 x2 x3 = some r → (∀ h1, Rep nc Ls Xs h1 r → Q none h1) → Cl d 131 [.ref q0, .ref q1, .int m2, .int m3] h Q) {h : iv_H} {s : iv_M} (hR : Rep nc Ls Xs h s) {q0 : Nat} (t0 : T10 nc q0) {q1 : Nat} (t1 : T2 nc q1) {m3 : Int32} {x3 : Int} (p3 : m3.toInt = x3)  {r : iv_M} {Q : Option Value → iv_H → Prop} (hq : ∀ h1, Rep nc Ls Xs h1 r → Q none h1) (e : FX10_goRows_b10 N rc s q0 q1 x3  = some r) : Rn d 131 none 10 [some (.ref q0), some (.ref q1), none, some (.int m3), none, none, none] [] h Q := by
  have hT := hX10_goRows
  unfold FX10_goRows_b10 at e
  refine Rn.n hT 2 (pc' := 12) (L' := [some (.ref q0), some (.ref q1), none, some (.int m3), none, none, none]) (st' := [.ref q1, .ref q0]) rfl ?_
  obtain ⟨v_1674, e_1674, e⟩ := Option.bind_eq_some_iff.mp e
  refine Rn.call hT rfl rfl rfl (Nat.le_of_ble_eq_true rfl) (rcv_v gX10_isAsTheyWoke (by omega) (rp_ck hR (T10_o t0))) (RX10_isAsTheyWoke (by omega) hR t0 t1 e_1674 (fun z_1674 p_1674 => ?_))
  show Rn d _ _ 15 [some (.ref q0), some (.ref q1), none, some (.int m3), none, none, none] [.int z_1674] h Q
  by_cases c_1675 : v_1674 = 0
  · rw [if_pos c_1675] at e
    refine Rn.bt hT rfl rfl rfl (decide_eq_true ((ti_e p_1674 L32_0).mpr c_1675)) ?_
    exact Rn.weak (ll_n (ll_n (ll_n (ll_n (ll_n (ll_n (ll_n ll_e))))))) (RX10_goRows_b23 hd hrc hR hq e)
  · rw [if_neg c_1675] at e
    refine Rn.bf hT rfl rfl rfl (decide_eq_false (fun z => c_1675 ((ti_e p_1674 L32_0).mp z))) ?_
    refine Rn.n hT 2 (pc' := 20) (L' := [some (.ref q0), some (.ref q1), none, some (.int m3), none, none, none]) (st' := [.int m3, .ref q0]) rfl ?_
    obtain ⟨s_1677, e_1676, e⟩ := Option.bind_eq_some_iff.mp e
    refine Rn.call hT rfl rfl rfl (Nat.le_of_ble_eq_true rfl) (rcv_v gX10_tally (by omega) (rp_ck hR (T10_o t0))) (RX10_tally (by omega) hR t0 p3 e_1676 (fun h_1677 R_1677 => ?_))
    show Rn d _ _ 23 [some (.ref q0), some (.ref q1), none, some (.int m3), none, none, none] [] h_1677 Q
    exact Rn.weak (ll_n (ll_n (ll_n (ll_n (ll_n (ll_n (ll_n ll_e))))))) (RX10_goRows_b23 hd hrc R_1677 hq e)
def FX10_goRows_b87 (N : Nat) (rc : iv_M → Nat → Nat → Int → Int → Option iv_M) (s : iv_M) (q0 : Nat) (q1 : Nat) (x2 : Int) (x3 : Int) (q4 : Nat) (x5 : Int) (x6 : Int)  (kb : iv_M → Int → Option (iv_M)) (kx : iv_M → Option (iv_M)) : Option (iv_M) := ((rc s q0 q1 (w32 (x2 + 1)) x3).bind fun s_1688 => ((rd s_1688 q4 ((sh q4).2 : Int) x6).bind fun v_1689 => ((FX1_goBack N s_1688 (q0 + 1) v_1689).bind fun s_1691 => (kb s_1691 (w32 (x6 + 1))))))
set_option maxRecDepth 10000 in
set_option maxHeartbeats 4000000 in
theorem RX10_goRows_b87 {d N nc Ls : Nat} {Xs : Nat → Int32} (hd : 5 ≤ d) {rc : iv_M → Nat → Nat → Int → Int → Option iv_M} (hrc : ∀ {h : iv_H} {s : iv_M} (_ : Rep nc Ls Xs h s) {q0 : Nat} (t0 : T10 nc q0) {q1 : Nat} (t1 : T2 nc q1) {m2 : Int32} {x2 : Int} (p2 : m2.toInt = x2) {m3 : Int32} {x3 : Int} (p3 : m3.toInt = x3) {r : iv_M} {Q : Option Value → iv_H → Prop}, rc s q0 q1 x2 x3 = some r → (∀ h1, Rep nc Ls Xs h1 r → Q none h1) → Cl d 131 [.ref q0, .ref q1, .int m2, .int m3] h Q) {h : iv_H} {s : iv_M} (hR : Rep nc Ls Xs h s) {q0 : Nat} (t0 : T10 nc q0) {q1 : Nat} (t1 : T2 nc q1) {m2 : Int32} {x2 : Int} (p2 : m2.toInt = x2) {m3 : Int32} {x3 : Int} (p3 : m3.toInt = x3) {q4 : Nat} (t4 : TA 0 nc q4) {m5 : Int32} {x5 : Int} (p5 : m5.toInt = x5) {m6 : Int32} {x6 : Int} (p6 : m6.toInt = x6)  {kb : iv_M → Int → Option (iv_M)} {kx : iv_M → Option (iv_M)} {r : iv_M} {Q : Option Value → iv_H → Prop} (hb : ∀ (h : iv_H) (s : iv_M) (hR : Rep nc Ls Xs h s) (mw6 : Int32) (xw6 : Int) (pw6 : mw6.toInt = xw6), kb s xw6 = some r → Rn d 131 none 46 [some (.ref q0), some (.ref q1), some (.int m2), some (.int m3), some (.ref q4), some (.int m5), some (.int mw6)] [] h Q) (hk : ∀ (h : iv_H) (s : iv_M) (hR : Rep nc Ls Xs h s), kx s = some r → Rn d 131 none 114 [none, none, none, none, none, none, none] [] h Q) (hq : ∀ h1, Rep nc Ls Xs h1 r → Q none h1) (e : FX10_goRows_b87 N rc s q0 q1 x2 x3 q4 x5 x6  kb kx = some r) : Rn d 131 none 87 [some (.ref q0), some (.ref q1), some (.int m2), some (.int m3), some (.ref q4), some (.int m5), some (.int m6)] [] h Q := by
  have hT := hX10_goRows
  unfold FX10_goRows_b87 at e
  refine Rn.n hT 6 (pc' := 93) (L' := [some (.ref q0), some (.ref q1), some (.int m2), some (.int m3), some (.ref q4), some (.int m5), some (.int m6)]) (st' := [.int m3, .int (m2 + (1 : Int32)), .ref q1, .ref q0]) rfl ?_
  obtain ⟨s_1688, e_1687, e⟩ := Option.bind_eq_some_iff.mp e
  refine Rn.call hT rfl rfl rfl (Nat.le_of_ble_eq_true rfl) (rcv_v gX10_goRows (by omega) (rp_ck hR (T10_o t0))) (hrc hR t0 t1 (ti_add p2 L32_1) p3 e_1687 (fun h_1688 R_1688 => ?_))
  show Rn d _ _ 96 [some (.ref q0), some (.ref q1), some (.int m2), some (.int m3), some (.ref q4), some (.int m5), some (.int m6)] [] h_1688 Q
  refine Rn.n hT 1 (pc' := 97) (L' := [some (.ref q0), some (.ref q1), some (.int m2), some (.int m3), some (.ref q4), some (.int m5), some (.int m6)]) (st' := [.ref q0]) rfl ?_
  refine Rn.hp hT rfl rfl (gR_hp (rp_gR R_1688 (T10_o t0) rfl)) ?_
  refine Rn.n hT 2 (pc' := 104) (L' := [some (.ref q0), some (.ref q1), some (.int m2), some (.int m3), some (.ref q4), some (.int m5), some (.int m6)]) (st' := [.int m6, .ref q4, .ref (q0 + 1)]) rfl ?_
  obtain ⟨v_1689, e_1689, e⟩ := Option.bind_eq_some_iff.mp e
  obtain ⟨z_1689, g_1689, p_1689⟩ := rp_aI R_1688 t4 rfl p6 e_1689
  refine Rn.hp hT rfl rfl (aI_hp g_1689) ?_
  obtain ⟨s_1691, e_1690, e⟩ := Option.bind_eq_some_iff.mp e
  refine Rn.call hT rfl rfl rfl (Nat.le_of_ble_eq_true rfl) (rcv_v gX1_goBack (by omega) (rp_ck R_1688 (T1_o (T10_0 t0)))) (RX1_goBack (by omega) R_1688 (T10_0 t0) p_1689 e_1690 (fun h_1691 R_1691 => ?_))
  show Rn d _ _ 108 [some (.ref q0), some (.ref q1), some (.int m2), some (.int m3), some (.ref q4), some (.int m5), some (.int m6)] [] h_1691 Q
  refine Rn.n hT 2 (pc' := 46) (L' := [some (.ref q0), some (.ref q1), some (.int m2), some (.int m3), some (.ref q4), some (.int m5), some (.int (m6 + (1 : Int32)))]) (st' := []) rfl ?_
  exact Rn.weak (ll_s (ll_s (ll_s (ll_s (ll_s (ll_s (ll_s ll_e))))))) (hb h_1691 s_1691 R_1691 (m6 + (1 : Int32)) (w32 (x6 + 1)) (ti_add p6 L32_1) e)
def FX10_goRows_l46 (N : Nat) (rc : iv_M → Nat → Nat → Int → Int → Option iv_M) (q0 : Nat) (q1 : Nat) (x2 : Int) (x3 : Int) (q4 : Nat) (x5 : Int) (kx : iv_M → Option (iv_M)) : Nat → iv_M → Int → Option (iv_M)
  | 0, _, _ => none
  | n + 1, s, x6 => (if x5 ≤ x6 then (kx s) else ((wr s (q0 + 14) 3 x2 x6).bind fun s_1679 => ((rd s_1679 q4 ((sh q4).2 : Int) x6).bind fun v_1681 => ((FX1_go N s_1679 (q0 + 1) v_1681).bind fun s_1683 => (if x3 ≤ (w32 (x2 + 1)) then (FX10_goRows_b87 N rc s_1683 q0 q1 x2 x3 q4 x5 x6 (FX10_goRows_l46 N rc q0 q1 x2 x3 q4 x5 kx n) kx) else ((FX3_look N s_1683 (q0 + 8)).bind fun s_1686 => (FX10_goRows_b87 N rc s_1686 q0 q1 x2 x3 q4 x5 x6 (FX10_goRows_l46 N rc q0 q1 x2 x3 q4 x5 kx n) kx)))))))
set_option maxRecDepth 10000 in
set_option maxHeartbeats 4000000 in
theorem RX10_goRows_l46 {d N nc Ls : Nat} {Xs : Nat → Int32} (hd : 5 ≤ d) {rc : iv_M → Nat → Nat → Int → Int → Option iv_M} (hrc : ∀ {h : iv_H} {s : iv_M} (_ : Rep nc Ls Xs h s) {q0 : Nat} (t0 : T10 nc q0) {q1 : Nat} (t1 : T2 nc q1) {m2 : Int32} {x2 : Int} (p2 : m2.toInt = x2) {m3 : Int32} {x3 : Int} (p3 : m3.toInt = x3) {r : iv_M} {Q : Option Value → iv_H → Prop}, rc s q0 q1 x2 x3 = some r → (∀ h1, Rep nc Ls Xs h1 r → Q none h1) → Cl d 131 [.ref q0, .ref q1, .int m2, .int m3] h Q) {q0 : Nat} (t0 : T10 nc q0) {q1 : Nat} (t1 : T2 nc q1) {m2 : Int32} {x2 : Int} (p2 : m2.toInt = x2) {m3 : Int32} {x3 : Int} (p3 : m3.toInt = x3) {q4 : Nat} (t4 : TA 0 nc q4) {m5 : Int32} {x5 : Int} (p5 : m5.toInt = x5) {kx : iv_M → Option (iv_M)} {r : iv_M} {Q : Option Value → iv_H → Prop} (hk : ∀ (h : iv_H) (s : iv_M) (hR : Rep nc Ls Xs h s), kx s = some r → Rn d 131 none 114 [none, none, none, none, none, none, none] [] h Q) (hq : ∀ h1, Rep nc Ls Xs h1 r → Q none h1) : ∀ (n : Nat) (h : iv_H) (s : iv_M) (hR : Rep nc Ls Xs h s) (m6 : Int32) (x6 : Int) (p6 : m6.toInt = x6), FX10_goRows_l46 N rc q0 q1 x2 x3 q4 x5 kx n s x6 = some r → Rn d 131 none 46 [some (.ref q0), some (.ref q1), some (.int m2), some (.int m3), some (.ref q4), some (.int m5), some (.int m6)] [] h Q := by
  have hT := hX10_goRows
  intro n
  induction n with
  | zero =>
    intro h s hR m6 x6 p6 e
    rw [FX10_goRows_l46] at e
    cases e
  | succ n ih =>
    intro h s hR m6 x6 p6 e
    rw [FX10_goRows_l46] at e
    refine Rn.n hT 2 (pc' := 50) (L' := [some (.ref q0), some (.ref q1), some (.int m2), some (.int m3), some (.ref q4), some (.int m5), some (.int m6)]) (st' := [.int m5, .int m6]) rfl ?_
    by_cases c_1678 : x5 ≤ x6
    · rw [if_pos c_1678] at e
      refine Rn.bt hT rfl rfl rfl (decide_eq_true ((ti_le p5 p6).mpr c_1678)) ?_
      exact Rn.weak (ll_n (ll_n (ll_n (ll_n (ll_n (ll_n (ll_n ll_e))))))) (hk h s hR e)
    · rw [if_neg c_1678] at e
      refine Rn.bf hT rfl rfl rfl (decide_eq_false (fun z => c_1678 ((ti_le p5 p6).mp z))) ?_
      refine Rn.n hT 1 (pc' := 54) (L' := [some (.ref q0), some (.ref q1), some (.int m2), some (.int m3), some (.ref q4), some (.int m5), some (.int m6)]) (st' := [.ref q0]) rfl ?_
      refine Rn.hp hT rfl rfl (gR_hp (rp_gR hR (T10_o t0) rfl)) ?_
      refine Rn.n hT 2 (pc' := 60) (L' := [some (.ref q0), some (.ref q1), some (.int m2), some (.int m3), some (.ref q4), some (.int m5), some (.int m6)]) (st' := [.int m6, .int m2, .ref (q0 + 14)]) rfl ?_
      obtain ⟨s_1679, e_1680, e⟩ := Option.bind_eq_some_iff.mp e
      obtain ⟨h_1679, g_1680, R_1679⟩ := rp_wI hR (T10_4 t0) (T10_4l t0) p2 p6 e_1680
      refine Rn.hp hT rfl rfl (wI_hp g_1680) ?_
      refine Rn.n hT 1 (pc' := 62) (L' := [some (.ref q0), some (.ref q1), some (.int m2), some (.int m3), some (.ref q4), some (.int m5), some (.int m6)]) (st' := [.ref q0]) rfl ?_
      refine Rn.hp hT rfl rfl (gR_hp (rp_gR R_1679 (T10_o t0) rfl)) ?_
      refine Rn.n hT 2 (pc' := 69) (L' := [some (.ref q0), some (.ref q1), some (.int m2), some (.int m3), some (.ref q4), some (.int m5), some (.int m6)]) (st' := [.int m6, .ref q4, .ref (q0 + 1)]) rfl ?_
      obtain ⟨v_1681, e_1681, e⟩ := Option.bind_eq_some_iff.mp e
      obtain ⟨z_1681, g_1681, p_1681⟩ := rp_aI R_1679 t4 rfl p6 e_1681
      refine Rn.hp hT rfl rfl (aI_hp g_1681) ?_
      obtain ⟨s_1683, e_1682, e⟩ := Option.bind_eq_some_iff.mp e
      refine Rn.call hT rfl rfl rfl (Nat.le_of_ble_eq_true rfl) (rcv_v gX1_go (by omega) (rp_ck R_1679 (T1_o (T10_0 t0)))) (RX1_go (by omega) R_1679 (T10_0 t0) p_1681 e_1682 (fun h_1683 R_1683 => ?_))
      show Rn d _ _ 73 [some (.ref q0), some (.ref q1), some (.int m2), some (.int m3), some (.ref q4), some (.int m5), some (.int m6)] [] h_1683 Q
      refine Rn.n hT 4 (pc' := 77) (L' := [some (.ref q0), some (.ref q1), some (.int m2), some (.int m3), some (.ref q4), some (.int m5), some (.int m6)]) (st' := [.int m3, .int (m2 + (1 : Int32))]) rfl ?_
      by_cases c_1684 : x3 ≤ (w32 (x2 + 1))
      · rw [if_pos c_1684] at e
        refine Rn.bt hT rfl rfl rfl (decide_eq_true ((ti_le p3 (ti_add p2 L32_1)).mpr c_1684)) ?_
        exact Rn.weak (ll_s (ll_s (ll_s (ll_s (ll_s (ll_s (ll_s ll_e))))))) (RX10_goRows_b87 hd hrc R_1683 t0 t1 p2 p3 t4 p5 p6 ih hk hq e)
      · rw [if_neg c_1684] at e
        refine Rn.bf hT rfl rfl rfl (decide_eq_false (fun z => c_1684 ((ti_le p3 (ti_add p2 L32_1)).mp z))) ?_
        refine Rn.n hT 1 (pc' := 81) (L' := [some (.ref q0), some (.ref q1), some (.int m2), some (.int m3), some (.ref q4), some (.int m5), some (.int m6)]) (st' := [.ref q0]) rfl ?_
        refine Rn.hp hT rfl rfl (gR_hp (rp_gR R_1683 (T10_o t0) rfl)) ?_
        obtain ⟨s_1686, e_1685, e⟩ := Option.bind_eq_some_iff.mp e
        refine Rn.call hT rfl rfl rfl (Nat.le_of_ble_eq_true rfl) (rcv_v gX3_look (by omega) (rp_ck R_1683 (T3_o (T10_1 t0)))) (RX3_look (by omega) R_1683 (T10_1 t0) e_1685 (fun h_1686 R_1686 => ?_))
        show Rn d _ _ 87 [some (.ref q0), some (.ref q1), some (.int m2), some (.int m3), some (.ref q4), some (.int m5), some (.int m6)] [] h_1686 Q
        exact Rn.weak (ll_s (ll_s (ll_s (ll_s (ll_s (ll_s (ll_s ll_e))))))) (RX10_goRows_b87 hd hrc R_1686 t0 t1 p2 p3 t4 p5 p6 ih hk hq e)
def FX10_goRows_s (N : Nat) (rc : iv_M → Nat → Nat → Int → Int → Option iv_M) (s : iv_M) (q0 : Nat) (q1 : Nat) (x2 : Int) (x3 : Int) : Option (iv_M) := (if x3 ≤ x2 then (FX10_goRows_b10 N rc s q0 q1 x3) else (if x2 < 3 then ((gx (q0 + 10) 3 x2).bind fun v_1669 => ((FX3_list N s (q0 + 8) v_1669).bind fun r_1670 => (fun (v_1670 : Int) (s_1671 : iv_M) => (FX10_goRows_l46 N rc q0 q1 x2 x3 v_1669 v_1670 (fun (s_1672 : iv_M) => some s_1672) N s_1671 0)) r_1670.1 r_1670.2)) else (FX10_goRows_b10 N rc s q0 q1 x3)))
set_option maxRecDepth 10000 in
set_option maxHeartbeats 4000000 in
theorem RX10_goRows_s {d N nc Ls : Nat} {Xs : Nat → Int32} (hd : 6 ≤ d) {rc : iv_M → Nat → Nat → Int → Int → Option iv_M} (hrc : ∀ {h : iv_H} {s : iv_M} (_ : Rep nc Ls Xs h s) {q0 : Nat} (t0 : T10 nc q0) {q1 : Nat} (t1 : T2 nc q1) {m2 : Int32} {x2 : Int} (p2 : m2.toInt = x2) {m3 : Int32} {x3 : Int} (p3 : m3.toInt = x3) {r : iv_M} {Q : Option Value → iv_H → Prop}, rc s q0 q1 x2 x3 = some r → (∀ h1, Rep nc Ls Xs h1 r → Q none h1) → Cl (d - 1) 131 [.ref q0, .ref q1, .int m2, .int m3] h Q) {h : iv_H} {s : iv_M} (hR : Rep nc Ls Xs h s) {q0 : Nat} (t0 : T10 nc q0) {q1 : Nat} (t1 : T2 nc q1) {m2 : Int32} {x2 : Int} (p2 : m2.toInt = x2) {m3 : Int32} {x3 : Int} (p3 : m3.toInt = x3) {r : iv_M} {Q : Option Value → iv_H → Prop} (e : FX10_goRows_s N rc s q0 q1 x2 x3 = some r) (hq : ∀ h1, Rep nc Ls Xs h1 r → Q none h1) : Cl d 131 [.ref q0, .ref q1, .int m2, .int m3] h Q := by
  obtain ⟨d, rfl⟩ : ∃ k, d = k + 1 := ⟨d - 1, by omega⟩
  have hd : 5 ≤ d := by omega
  have hT := hX10_goRows
  unfold FX10_goRows_s at e
  rw [show d + 1 - 1 = d from by omega] at hrc
  refine Cl.into (by decide) gX10_goRows rfl ?_
  show Rn d 131 none 0 [some (.ref q0), some (.ref q1), some (.int m2), some (.int m3), none, none, none] [] h Q
  refine Rn.n hT 2 (pc' := 2) (L' := [some (.ref q0), some (.ref q1), some (.int m2), some (.int m3), none, none, none]) (st' := [.int m3, .int m2]) rfl ?_
  by_cases c_1667 : x3 ≤ x2
  · rw [if_pos c_1667] at e
    refine Rn.bt hT rfl rfl rfl (decide_eq_true ((ti_le p3 p2).mpr c_1667)) ?_
    exact Rn.weak (ll_s (ll_s (ll_n (ll_s (ll_n (ll_n (ll_n ll_e))))))) (RX10_goRows_b10 hd hrc hR t0 t1 p3 hq e)
  · rw [if_neg c_1667] at e
    refine Rn.bf hT rfl rfl rfl (decide_eq_false (fun z => c_1667 ((ti_le p3 p2).mp z))) ?_
    refine Rn.n hT 2 (pc' := 7) (L' := [some (.ref q0), some (.ref q1), some (.int m2), some (.int m3), none, none, none]) (st' := [.int (3 : Int32), .int m2]) rfl ?_
    by_cases c_1668 : x2 < 3
    · rw [if_pos c_1668] at e
      refine Rn.bt hT rfl rfl rfl (decide_eq_true ((ti_l p2 L32_3).mpr c_1668)) ?_
      refine Rn.n hT 1 (pc' := 25) (L' := [some (.ref q0), some (.ref q1), some (.int m2), some (.int m3), none, none, none]) (st' := [.ref q0]) rfl ?_
      refine Rn.hp hT rfl rfl (gR_hp (rp_gR hR (T10_o t0) rfl)) ?_
      refine Rn.n hT 1 (pc' := 29) (L' := [some (.ref q0), some (.ref q1), some (.int m2), some (.int m3), none, none, none]) (st' := [.int m2, .ref (q0 + 10)]) rfl ?_
      obtain ⟨v_1669, e_1669, e⟩ := Option.bind_eq_some_iff.mp e
      refine Rn.hp hT rfl rfl (aR_hp (rp_gx (m := 3) hR (T10_3 t0) p2 e_1669)) ?_
      refine Rn.n hT 2 (pc' := 33) (L' := [some (.ref q0), some (.ref q1), some (.int m2), some (.int m3), some (.ref v_1669), none, none]) (st' := [.ref q0]) rfl ?_
      refine Rn.hp hT rfl rfl (gR_hp (rp_gR hR (T10_o t0) rfl)) ?_
      refine Rn.n hT 1 (pc' := 38) (L' := [some (.ref q0), some (.ref q1), some (.int m2), some (.int m3), some (.ref v_1669), none, none]) (st' := [.ref v_1669, .ref (q0 + 8)]) rfl ?_
      obtain ⟨⟨v_1670, s_1671⟩, e_1670, e⟩ := Option.bind_eq_some_iff.mp e
      try dsimp only at e
      try dsimp only at e
      refine Rn.call hT rfl rfl rfl (Nat.le_of_ble_eq_true rfl) (rcv_v gX3_list (by omega) (rp_ck hR (T3_o (T10_1 t0)))) (RX3_list (by omega) hR (T10_1 t0) (ga_a (gx_ty (T10_3g t0) e_1669)) e_1670 (fun z_1670 h_1671 p_1670 R_1671 => ?_))
      show Rn d _ _ 41 [some (.ref q0), some (.ref q1), some (.int m2), some (.int m3), some (.ref v_1669), none, none] [.int z_1670] h_1671 Q
      refine Rn.n hT 3 (pc' := 46) (L' := [some (.ref q0), some (.ref q1), some (.int m2), some (.int m3), some (.ref v_1669), some (.int z_1670), some (.int (0 : Int32))]) (st' := []) rfl ?_
      refine Rn.weak (ll_s (ll_s (ll_s (ll_s (ll_s (ll_s (ll_s ll_e))))))) (RX10_goRows_l46 hd hrc t0 t1 p2 p3 (ga_a (gx_ty (T10_3g t0) e_1669)) p_1670 (fun h_1672 s_1672 R_1672 e => ?_) hq N h_1671 s_1671 R_1671 (0 : Int32) 0 L32_0 e)
      try dsimp only at e
      obtain rfl := Option.some.inj e
      exact Rn.ret hT rfl rfl rfl (hq h_1672 R_1672)
    · rw [if_neg c_1668] at e
      refine Rn.bf hT rfl rfl rfl (decide_eq_false (fun z => c_1668 ((ti_l p2 L32_3).mp z))) ?_
      exact Rn.weak (ll_s (ll_s (ll_n (ll_s (ll_n (ll_n (ll_n ll_e))))))) (RX10_goRows_b10 hd hrc hR t0 t1 p3 hq e)
def FX10_goRows (N : Nat) : Nat → iv_M → Nat → Nat → Int → Int → Option iv_M
  | 0, _, _, _, _, _ => none
  | n + 1, s, q0, q1, x2, x3 => FX10_goRows_s N (FX10_goRows N n) s q0 q1 x2 x3
theorem RX10_goRows {N nc Ls : Nat} {Xs : Nat → Int32} : ∀ (n : Nat) {d : Nat} (_ : 6 + 1 * n ≤ d) {h : iv_H} {s : iv_M} (_ : Rep nc Ls Xs h s) {q0 : Nat} (t0 : T10 nc q0) {q1 : Nat} (t1 : T2 nc q1) {m2 : Int32} {x2 : Int} (p2 : m2.toInt = x2) {m3 : Int32} {x3 : Int} (p3 : m3.toInt = x3) {r : iv_M} {Q : Option Value → iv_H → Prop} (_ : FX10_goRows N n s q0 q1 x2 x3 = some r) (_ : ∀ h1, Rep nc Ls Xs h1 r → Q none h1), Cl d 131 [.ref q0, .ref q1, .int m2, .int m3] h Q := by
  intro n
  induction n with
  | zero => intro d hd h s hR q0 t0 q1 t1 m2 x2 p2 m3 x3 p3 r Q e hq; rw [FX10_goRows] at e; cases e
  | succ n ih =>
    intro d hd h s hR q0 t0 q1 t1 m2 x2 p2 m3 x3 p3 r Q e hq
    rw [FX10_goRows] at e
    exact RX10_goRows_s (by omega) (fun {h s} hR {q0} t0 {q1} t1 {m2 x2} p2 {m3 x3} p3 {r Q} e hq => ih (by omega) hR t0 t1 p2 p3 e hq) hR t0 t1 p2 p3 e hq
set_option maxRecDepth 10000 in
theorem hX10_askRows : iv_Tb 130 tX10_askRows := iv_tb_of (m := mX10_askRows) rfl
set_option maxRecDepth 10000 in
theorem gX10_askRows : PG.2 130 = some mX10_askRows := iv_pi_of (t := tX10_askRows) rfl (by decide)
def FX10_askRows_b18 (N : Nat) (s : iv_M) (q0 : Nat) (q1 : Nat) (o2 : Int) (x3 : Int) (x4 : Int)  : Option (iv_M) := ((pt s q0 7 x4).bind fun s_1696 => ((pt s_1696 q0 8 x3).bind fun s_1698 => ((FX10_begin N s_1698 q0 q1 o2).bind fun s_1701 => ((FJ7_fill_53178 N s_1701 (q0 + 16) 0).bind fun s_1703 => ((FX10_goRows N 6 s_1703 q0 q1 0 x3).bind fun s_1705 => some s_1705)))))
set_option maxRecDepth 10000 in
set_option maxHeartbeats 4000000 in
theorem RX10_askRows_b18 {d N nc Ls : Nat} {Xs : Nat → Int32} (hd : 12 ≤ d) {h : iv_H} {s : iv_M} (hR : Rep nc Ls Xs h s) {q0 : Nat} (t0 : T10 nc q0) {q1 : Nat} (t1 : T2 nc q1) {o2 : Int} (t2 : (o2 < 0 ∨ TR nc (o2).toNat)) {m3 : Int32} {x3 : Int} (p3 : m3.toInt = x3) {m4 : Int32} {x4 : Int} (p4 : m4.toInt = x4)  {r : iv_M} {Q : Option Value → iv_H → Prop} (hq : ∀ h1, Rep nc Ls Xs h1 r → Q none h1) (e : FX10_askRows_b18 N s q0 q1 o2 x3 x4  = some r) : Rn d 130 none 18 [some (.ref q0), some (.ref q1), some (iv_rf (rvo o2)), some (.int m3), some (.int m4)] [] h Q := by
  have hT := hX10_askRows
  unfold FX10_askRows_b18 at e
  refine Rn.n hT 2 (pc' := 21) (L' := [some (.ref q0), some (.ref q1), some (iv_rf (rvo o2)), some (.int m3), some (.int m4)]) (st' := [.int m4, .ref q0]) rfl ?_
  obtain ⟨s_1696, e_1697, e⟩ := Option.bind_eq_some_iff.mp e
  obtain ⟨h_1696, g_1697, R_1696⟩ := rp_pI (ci := 10) (k := 7) hR (T10_o t0) rfl rfl p4 e_1697
  refine Rn.hp hT rfl rfl (pV_hp rfl g_1697) ?_
  refine Rn.n hT 2 (pc' := 26) (L' := [some (.ref q0), some (.ref q1), some (iv_rf (rvo o2)), some (.int m3), some (.int m4)]) (st' := [.int m3, .ref q0]) rfl ?_
  obtain ⟨s_1698, e_1699, e⟩ := Option.bind_eq_some_iff.mp e
  obtain ⟨h_1698, g_1699, R_1698⟩ := rp_pI (ci := 10) (k := 8) R_1696 (T10_o t0) rfl rfl p3 e_1699
  refine Rn.hp hT rfl rfl (pV_hp rfl g_1699) ?_
  refine Rn.n hT 2 (pc' := 31) (L' := [some (.ref q0), some (.ref q1), some (iv_rf (rvo o2)), some (.int m3), some (.int m4)]) (st' := [.ref q1, .ref q0]) rfl ?_
  refine Rn.lo hT rfl rfl (L' := [some (.ref q0), some (.ref q1), some (iv_rf (rvo o2)), some (.int m3), some (.int m4)]) (st' := [iv_rf (rvo o2), .ref q1, .ref q0]) (ldN (o := (rvo o2)) rfl) ?_
  obtain ⟨s_1701, e_1700, e⟩ := Option.bind_eq_some_iff.mp e
  refine Rn.call hT rfl rfl rfl (Nat.le_of_ble_eq_true rfl) (rcv_v gX10_begin (by omega) (rp_ck R_1698 (T10_o t0))) (RX10_begin (by omega) R_1698 t0 t1 t2 e_1700 (fun h_1701 R_1701 => ?_))
  show Rn d _ _ 35 [some (.ref q0), some (.ref q1), some (iv_rf (rvo o2)), some (.int m3), some (.int m4)] [] h_1701 Q
  refine Rn.n hT 1 (pc' := 36) (L' := [some (.ref q0), some (.ref q1), some (iv_rf (rvo o2)), some (.int m3), some (.int m4)]) (st' := [.ref q0]) rfl ?_
  refine Rn.hp hT rfl rfl (gR_hp (rp_gR R_1701 (T10_o t0) rfl)) ?_
  refine Rn.n hT 1 (pc' := 40) (L' := [some (.ref q0), some (.ref q1), some (iv_rf (rvo o2)), some (.int m3), some (.int m4)]) (st' := [.int (0 : Int32), .ref (q0 + 16)]) rfl ?_
  obtain ⟨s_1703, e_1702, e⟩ := Option.bind_eq_some_iff.mp e
  refine Rn.call hT rfl rfl rfl (Nat.le_of_ble_eq_true rfl) rfl (RJ7_fill_53178 (by omega) R_1701 (T10_6 t0) L32_0 e_1702 (fun h_1703 R_1703 => ?_))
  show Rn d _ _ 43 [some (.ref q0), some (.ref q1), some (iv_rf (rvo o2)), some (.int m3), some (.int m4)] [] h_1703 Q
  refine Rn.n hT 4 (pc' := 47) (L' := [some (.ref q0), some (.ref q1), some (iv_rf (rvo o2)), some (.int m3), some (.int m4)]) (st' := [.int m3, .int (0 : Int32), .ref q1, .ref q0]) rfl ?_
  obtain ⟨s_1705, e_1704, e⟩ := Option.bind_eq_some_iff.mp e
  refine Rn.call hT rfl rfl rfl (Nat.le_of_ble_eq_true rfl) (rcv_v gX10_goRows (by omega) (rp_ck R_1703 (T10_o t0))) (RX10_goRows 6 (by omega) R_1703 t0 t1 L32_0 p3 e_1704 (fun h_1705 R_1705 => ?_))
  show Rn d _ _ 50 [some (.ref q0), some (.ref q1), some (iv_rf (rvo o2)), some (.int m3), some (.int m4)] [] h_1705 Q
  obtain rfl := Option.some.inj e
  exact Rn.ret hT rfl rfl rfl (hq h_1705 R_1705)
def FX10_askRows (N : Nat) (s : iv_M) (q0 : Nat) (q1 : Nat) (o2 : Int) (x3 : Int) (x4 : Int) : Option (iv_M) := (if (s q0 7) = x4 then (if (s q0 8) = x3 then some s else (FX10_askRows_b18 N s q0 q1 o2 x3 x4)) else (FX10_askRows_b18 N s q0 q1 o2 x3 x4))
set_option maxRecDepth 10000 in
set_option maxHeartbeats 4000000 in
theorem RX10_askRows {d N nc Ls : Nat} {Xs : Nat → Int32} (hd : 13 ≤ d) {h : iv_H} {s : iv_M} (hR : Rep nc Ls Xs h s) {q0 : Nat} (t0 : T10 nc q0) {q1 : Nat} (t1 : T2 nc q1) {o2 : Int} (t2 : (o2 < 0 ∨ TR nc (o2).toNat)) {m3 : Int32} {x3 : Int} (p3 : m3.toInt = x3) {m4 : Int32} {x4 : Int} (p4 : m4.toInt = x4) {r : iv_M} {Q : Option Value → iv_H → Prop} (e : FX10_askRows N s q0 q1 o2 x3 x4 = some r) (hq : ∀ h1, Rep nc Ls Xs h1 r → Q none h1) : Cl d 130 [.ref q0, .ref q1, iv_rf (rvo o2), .int m3, .int m4] h Q := by
  obtain ⟨d, rfl⟩ : ∃ k, d = k + 1 := ⟨d - 1, by omega⟩
  have hd : 12 ≤ d := by omega
  have hT := hX10_askRows
  unfold FX10_askRows at e
  have he : iv_ent 5 [.ref q0, .ref q1, iv_rf (rvo o2), .int m3, .int m4] = [some (.ref q0), some (.ref q1), some (iv_rf (rvo o2)), some (.int m3), some (.int m4)] := by cases rvo o2 <;> rfl
  refine Cl.into (by decide) gX10_askRows (by rw [he]; rfl) ?_
  rw [he]
  refine Rn.n hT 1 (pc' := 1) (L' := [some (.ref q0), some (.ref q1), some (iv_rf (rvo o2)), some (.int m3), some (.int m4)]) (st' := [.ref q0]) rfl ?_
  obtain ⟨z_1692, g_1692, p_1692⟩ : ∃ z : Int32, gI h 10 7 q0 = some z ∧ z.toInt = s q0 7 := rp_gI (k := 7) hR (T10_o t0) rfl
  refine Rn.hp hT rfl rfl (gI_hp g_1692) ?_
  refine Rn.n hT 1 (pc' := 6) (L' := [some (.ref q0), some (.ref q1), some (iv_rf (rvo o2)), some (.int m3), some (.int m4)]) (st' := [.int m4, .int z_1692]) rfl ?_
  by_cases c_1693 : (s q0 7) = x4
  · rw [if_pos c_1693] at e
    refine Rn.bf hT rfl rfl rfl (decide_eq_false (fun z => z ((ti_e p_1692 p4).mpr c_1693))) ?_
    refine Rn.n hT 1 (pc' := 10) (L' := [some (.ref q0), some (.ref q1), some (iv_rf (rvo o2)), some (.int m3), some (.int m4)]) (st' := [.ref q0]) rfl ?_
    obtain ⟨z_1694, g_1694, p_1694⟩ : ∃ z : Int32, gI h 10 8 q0 = some z ∧ z.toInt = s q0 8 := rp_gI (k := 8) hR (T10_o t0) rfl
    refine Rn.hp hT rfl rfl (gI_hp g_1694) ?_
    refine Rn.n hT 1 (pc' := 14) (L' := [some (.ref q0), some (.ref q1), some (iv_rf (rvo o2)), some (.int m3), some (.int m4)]) (st' := [.int m3, .int z_1694]) rfl ?_
    by_cases c_1695 : (s q0 8) = x3
    · rw [if_pos c_1695] at e
      refine Rn.bf hT rfl rfl rfl (decide_eq_false (fun z => z ((ti_e p_1694 p3).mpr c_1695))) ?_
      obtain rfl := Option.some.inj e
      exact Rn.ret hT rfl rfl rfl (hq h hR)
    · rw [if_neg c_1695] at e
      refine Rn.bt hT rfl rfl rfl (decide_eq_true (fun z => c_1695 ((ti_e p_1694 p3).mp z))) ?_
      exact Rn.weak (ll_s (ll_s (ll_s (ll_s (ll_s ll_e))))) (RX10_askRows_b18 hd hR t0 t1 t2 p3 p4 hq e)
  · rw [if_neg c_1693] at e
    refine Rn.bt hT rfl rfl rfl (decide_eq_true (fun z => c_1693 ((ti_e p_1692 p4).mp z))) ?_
    exact Rn.weak (ll_s (ll_s (ll_s (ll_s (ll_s ll_e))))) (RX10_askRows_b18 hd hR t0 t1 t2 p3 p4 hq e)
set_option maxRecDepth 10000 in
theorem hX10_drawTimes : iv_Tb 134 tX10_drawTimes := iv_tb_of (m := mX10_drawTimes) rfl
set_option maxRecDepth 10000 in
theorem gX10_drawTimes : PG.2 134 = some mX10_drawTimes := iv_pi_of (t := tX10_drawTimes) rfl (by decide)
def FX10_drawTimes_b125 (N : Nat) (s : iv_M) (q0 : Nat) (q1 : Nat) (o2 : Int) (x3 : Int) (x4 : Int) (x5 : Int) (x6 : Int) (y7 : Int) (x9 : Int) (x10 : Int)  (kb : iv_M → Int → Int → Option (iv_M)) (kx : iv_M → Int → Option (iv_M)) : Option (iv_M) := ((pt s (q0 + 8) 4 (w32 ((s (q0 + 8) 4) + 1))).bind fun s_1743 => (kb s_1743 y7 (w32 (x10 + 1))))
set_option maxRecDepth 10000 in
set_option maxHeartbeats 4000000 in
theorem RX10_drawTimes_b125 {d N nc Ls : Nat} {Xs : Nat → Int32} (hd : 5 ≤ d) {h : iv_H} {s : iv_M} (hR : Rep nc Ls Xs h s) {q0 : Nat} (t0 : T10 nc q0) {q1 : Nat} (t1 : T2 nc q1) {o2 : Int} (t2 : (o2 < 0 ∨ TR nc (o2).toNat)) {m3 : Int32} {x3 : Int} (p3 : m3.toInt = x3) {m4 : Int32} {x4 : Int} (p4 : m4.toInt = x4) {m5 : Int32} {x5 : Int} (p5 : m5.toInt = x5) {m6 : Int32} {x6 : Int} (p6 : m6.toInt = x6) {j7 : Int64} {y7 : Int} (p7 : j7.toInt = y7) {m9 : Int32} {x9 : Int} (p9 : m9.toInt = x9) {m10 : Int32} {x10 : Int} (p10 : m10.toInt = x10)  {kb : iv_M → Int → Int → Option (iv_M)} {kx : iv_M → Int → Option (iv_M)} {r : iv_M} {Q : Option Value → iv_H → Prop} (hb : ∀ (h : iv_H) (s : iv_M) (hR : Rep nc Ls Xs h s) (jw7 : Int64) (yw7 : Int) (pw7 : jw7.toInt = yw7) (mw10 : Int32) (xw10 : Int) (pw10 : mw10.toInt = xw10), kb s yw7 xw10 = some r → Rn d 134 none 40 [some (.ref q0), some (.ref q1), some (iv_rf (rvo o2)), some (.int m3), some (.int m4), some (.int m5), some (.int m6), some (.long jw7), none, some (.int m9), some (.int mw10), none] [] h Q) (hk : ∀ (h : iv_H) (s : iv_M) (hR : Rep nc Ls Xs h s) (jw7 : Int64) (yw7 : Int) (pw7 : jw7.toInt = yw7), kx s yw7 = some r → Rn d 134 none 144 [some (.ref q0), some (.ref q1), some (iv_rf (rvo o2)), some (.int m3), some (.int m4), some (.int m5), some (.int m6), some (.long jw7), none, some (.int m9), none, none] [] h Q) (hq : ∀ h1, Rep nc Ls Xs h1 r → Q none h1) (e : FX10_drawTimes_b125 N s q0 q1 o2 x3 x4 x5 x6 y7 x9 x10  kb kx = some r) : Rn d 134 none 125 [some (.ref q0), some (.ref q1), some (iv_rf (rvo o2)), some (.int m3), some (.int m4), some (.int m5), some (.int m6), some (.long j7), none, some (.int m9), some (.int m10), none] [] h Q := by
  have hT := hX10_drawTimes
  unfold FX10_drawTimes_b125 at e
  refine Rn.n hT 1 (pc' := 126) (L' := [some (.ref q0), some (.ref q1), some (iv_rf (rvo o2)), some (.int m3), some (.int m4), some (.int m5), some (.int m6), some (.long j7), none, some (.int m9), some (.int m10), none]) (st' := [.ref q0]) rfl ?_
  refine Rn.hp hT rfl rfl (gR_hp (rp_gR hR (T10_o t0) rfl)) ?_
  refine Rn.n hT 1 (pc' := 130) (L' := [some (.ref q0), some (.ref q1), some (iv_rf (rvo o2)), some (.int m3), some (.int m4), some (.int m5), some (.int m6), some (.long j7), none, some (.int m9), some (.int m10), none]) (st' := [.ref (q0 + 8), .ref (q0 + 8)]) rfl ?_
  obtain ⟨z_1742, g_1742, p_1742⟩ : ∃ z : Int32, gI h 3 4 (q0 + 8) = some z ∧ z.toInt = s (q0 + 8) 4 := rp_gI (k := 4) hR (T3_o (T10_1 t0)) rfl
  refine Rn.hp hT rfl rfl (gI_hp g_1742) ?_
  refine Rn.n hT 2 (pc' := 135) (L' := [some (.ref q0), some (.ref q1), some (iv_rf (rvo o2)), some (.int m3), some (.int m4), some (.int m5), some (.int m6), some (.long j7), none, some (.int m9), some (.int m10), none]) (st' := [.int (z_1742 + (1 : Int32)), .ref (q0 + 8)]) rfl ?_
  obtain ⟨s_1743, e_1744, e⟩ := Option.bind_eq_some_iff.mp e
  obtain ⟨h_1743, g_1744, R_1743⟩ := rp_pI (ci := 3) (k := 4) hR (T3_o (T10_1 t0)) rfl rfl (ti_add p_1742 L32_1) e_1744
  refine Rn.hp hT rfl rfl (pV_hp rfl g_1744) ?_
  refine Rn.n hT 2 (pc' := 40) (L' := [some (.ref q0), some (.ref q1), some (iv_rf (rvo o2)), some (.int m3), some (.int m4), some (.int m5), some (.int m6), some (.long j7), none, some (.int m9), some (.int (m10 + (1 : Int32))), none]) (st' := []) rfl ?_
  exact Rn.weak (ll_s (ll_s (ll_s (ll_s (ll_s (ll_s (ll_s (ll_s (ll_n (ll_s (ll_s (ll_n ll_e)))))))))))) (hb h_1743 s_1743 R_1743 j7 y7 p7 (m10 + (1 : Int32)) (w32 (x10 + 1)) (ti_add p10 L32_1) e)
def FX10_drawTimes_l40 (N : Nat) (q0 : Nat) (q1 : Nat) (o2 : Int) (x3 : Int) (x4 : Int) (x5 : Int) (x6 : Int) (x9 : Int) (kx : iv_M → Int → Option (iv_M)) : Nat → iv_M → Int → Int → Option (iv_M)
  | 0, _, _, _ => none
  | n + 1, s, y7, x10 => (if x4 ≤ x10 then (kx s y7) else ((gx (q0 + 10) 3 0).bind fun v_1728 => ((FX3_list N s (q0 + 8) v_1728).bind fun r_1729 => (fun (v_1729 : Int) (s_1730 : iv_M) => (if v_1729 ≤ 0 then (FX10_drawTimes_b125 N s_1730 q0 q1 o2 x3 x4 x5 x6 y7 x9 x10 (FX10_drawTimes_l40 N q0 q1 o2 x3 x4 x5 x6 x9 kx n) kx) else ((gx (q0 + 10) 3 0).bind fun v_1732 => (if v_1729 = 0 then none else ((rd s_1730 v_1732 126 (w32 (Int.tmod (dv64 (bAn (w64 ((w64 (y7 * 1103515245)) + 12345)) 2147483647) 65536) v_1729))).bind fun v_1734 => ((FX1_go N s_1730 (q0 + 1) v_1734).bind fun s_1736 => ((FX3_look N s_1736 (q0 + 8)).bind fun s_1738 => ((pt s_1738 q0 11 (w32 ((s_1738 q0 11) + 1))).bind fun s_1740 => (FX10_drawTimes_b125 N s_1740 q0 q1 o2 x3 x4 x5 x6 (bAn (w64 ((w64 (y7 * 1103515245)) + 12345)) 2147483647) x9 x10 (FX10_drawTimes_l40 N q0 q1 o2 x3 x4 x5 x6 x9 kx n) kx))))))))) r_1729.1 r_1729.2)))
set_option maxRecDepth 10000 in
set_option maxHeartbeats 4000000 in
theorem RX10_drawTimes_l40 {d N nc Ls : Nat} {Xs : Nat → Int32} (hd : 5 ≤ d) {q0 : Nat} (t0 : T10 nc q0) {q1 : Nat} (t1 : T2 nc q1) {o2 : Int} (t2 : (o2 < 0 ∨ TR nc (o2).toNat)) {m3 : Int32} {x3 : Int} (p3 : m3.toInt = x3) {m4 : Int32} {x4 : Int} (p4 : m4.toInt = x4) {m5 : Int32} {x5 : Int} (p5 : m5.toInt = x5) {m6 : Int32} {x6 : Int} (p6 : m6.toInt = x6) {m9 : Int32} {x9 : Int} (p9 : m9.toInt = x9) {kx : iv_M → Int → Option (iv_M)} {r : iv_M} {Q : Option Value → iv_H → Prop} (hk : ∀ (h : iv_H) (s : iv_M) (hR : Rep nc Ls Xs h s) (j7 : Int64) (y7 : Int) (p7 : j7.toInt = y7), kx s y7 = some r → Rn d 134 none 144 [some (.ref q0), some (.ref q1), some (iv_rf (rvo o2)), some (.int m3), some (.int m4), some (.int m5), some (.int m6), some (.long j7), none, some (.int m9), none, none] [] h Q) (hq : ∀ h1, Rep nc Ls Xs h1 r → Q none h1) : ∀ (n : Nat) (h : iv_H) (s : iv_M) (hR : Rep nc Ls Xs h s) (j7 : Int64) (y7 : Int) (p7 : j7.toInt = y7) (m10 : Int32) (x10 : Int) (p10 : m10.toInt = x10), FX10_drawTimes_l40 N q0 q1 o2 x3 x4 x5 x6 x9 kx n s y7 x10 = some r → Rn d 134 none 40 [some (.ref q0), some (.ref q1), some (iv_rf (rvo o2)), some (.int m3), some (.int m4), some (.int m5), some (.int m6), some (.long j7), none, some (.int m9), some (.int m10), none] [] h Q := by
  have hT := hX10_drawTimes
  intro n
  induction n with
  | zero =>
    intro h s hR j7 y7 p7 m10 x10 p10 e
    rw [FX10_drawTimes_l40] at e
    cases e
  | succ n ih =>
    intro h s hR j7 y7 p7 m10 x10 p10 e
    rw [FX10_drawTimes_l40] at e
    refine Rn.n hT 2 (pc' := 44) (L' := [some (.ref q0), some (.ref q1), some (iv_rf (rvo o2)), some (.int m3), some (.int m4), some (.int m5), some (.int m6), some (.long j7), none, some (.int m9), some (.int m10), none]) (st' := [.int m4, .int m10]) rfl ?_
    by_cases c_1727 : x4 ≤ x10
    · rw [if_pos c_1727] at e
      refine Rn.bt hT rfl rfl rfl (decide_eq_true ((ti_le p4 p10).mpr c_1727)) ?_
      exact Rn.weak (ll_s (ll_s (ll_s (ll_s (ll_s (ll_s (ll_s (ll_s (ll_n (ll_s (ll_n (ll_n ll_e)))))))))))) (hk h s hR j7 y7 p7 e)
    · rw [if_neg c_1727] at e
      refine Rn.bf hT rfl rfl rfl (decide_eq_false (fun z => c_1727 ((ti_le p4 p10).mp z))) ?_
      refine Rn.n hT 1 (pc' := 48) (L' := [some (.ref q0), some (.ref q1), some (iv_rf (rvo o2)), some (.int m3), some (.int m4), some (.int m5), some (.int m6), some (.long j7), none, some (.int m9), some (.int m10), none]) (st' := [.ref q0]) rfl ?_
      refine Rn.hp hT rfl rfl (gR_hp (rp_gR hR (T10_o t0) rfl)) ?_
      refine Rn.n hT 1 (pc' := 52) (L' := [some (.ref q0), some (.ref q1), some (iv_rf (rvo o2)), some (.int m3), some (.int m4), some (.int m5), some (.int m6), some (.long j7), none, some (.int m9), some (.int m10), none]) (st' := [.ref q0, .ref (q0 + 8)]) rfl ?_
      refine Rn.hp hT rfl rfl (gR_hp (rp_gR hR (T10_o t0) rfl)) ?_
      refine Rn.n hT 1 (pc' := 56) (L' := [some (.ref q0), some (.ref q1), some (iv_rf (rvo o2)), some (.int m3), some (.int m4), some (.int m5), some (.int m6), some (.long j7), none, some (.int m9), some (.int m10), none]) (st' := [.int (0 : Int32), .ref (q0 + 10), .ref (q0 + 8)]) rfl ?_
      obtain ⟨v_1728, e_1728, e⟩ := Option.bind_eq_some_iff.mp e
      refine Rn.hp hT rfl rfl (aR_hp (rp_gx (m := 3) hR (T10_3 t0) L32_0 e_1728)) ?_
      obtain ⟨⟨v_1729, s_1730⟩, e_1729, e⟩ := Option.bind_eq_some_iff.mp e
      try dsimp only at e
      try dsimp only at e
      refine Rn.call hT rfl rfl rfl (Nat.le_of_ble_eq_true rfl) (rcv_v gX3_list (by omega) (rp_ck hR (T3_o (T10_1 t0)))) (RX3_list (by omega) hR (T10_1 t0) (ga_a (gx_ty (T10_3g t0) e_1728)) e_1729 (fun z_1729 h_1730 p_1729 R_1730 => ?_))
      show Rn d _ _ 60 [some (.ref q0), some (.ref q1), some (iv_rf (rvo o2)), some (.int m3), some (.int m4), some (.int m5), some (.int m6), some (.long j7), none, some (.int m9), some (.int m10), none] [.int z_1729] h_1730 Q
      refine Rn.n hT 2 (pc' := 64) (L' := [some (.ref q0), some (.ref q1), some (iv_rf (rvo o2)), some (.int m3), some (.int m4), some (.int m5), some (.int m6), some (.long j7), none, some (.int m9), some (.int m10), some (.int z_1729)]) (st' := [.int z_1729]) rfl ?_
      by_cases c_1731 : v_1729 ≤ 0
      · rw [if_pos c_1731] at e
        refine Rn.bt hT rfl rfl rfl (decide_eq_true ((ti_le p_1729 L32_0).mpr c_1731)) ?_
        exact Rn.weak (ll_s (ll_s (ll_s (ll_s (ll_s (ll_s (ll_s (ll_s (ll_n (ll_s (ll_s (ll_n ll_e)))))))))))) (RX10_drawTimes_b125 hd R_1730 t0 t1 t2 p3 p4 p5 p6 p7 p9 p10 ih hk hq e)
      · rw [if_neg c_1731] at e
        refine Rn.bf hT rfl rfl rfl (decide_eq_false (fun z => c_1731 ((ti_le p_1729 L32_0).mp z))) ?_
        refine Rn.n hT 9 (pc' := 84) (L' := [some (.ref q0), some (.ref q1), some (iv_rf (rvo o2)), some (.int m3), some (.int m4), some (.int m5), some (.int m6), some (.long (((j7 * (1103515245 : Int64)) + (12345 : Int64)) &&& (2147483647 : Int64))), none, some (.int m9), some (.int m10), some (.int z_1729)]) (st' := [.ref q0]) rfl ?_
        refine Rn.hp hT rfl rfl (gR_hp (rp_gR R_1730 (T10_o t0) rfl)) ?_
        refine Rn.n hT 1 (pc' := 88) (L' := [some (.ref q0), some (.ref q1), some (iv_rf (rvo o2)), some (.int m3), some (.int m4), some (.int m5), some (.int m6), some (.long (((j7 * (1103515245 : Int64)) + (12345 : Int64)) &&& (2147483647 : Int64))), none, some (.int m9), some (.int m10), some (.int z_1729)]) (st' := [.ref q0, .ref (q0 + 1)]) rfl ?_
        refine Rn.hp hT rfl rfl (gR_hp (rp_gR R_1730 (T10_o t0) rfl)) ?_
        refine Rn.n hT 1 (pc' := 92) (L' := [some (.ref q0), some (.ref q1), some (iv_rf (rvo o2)), some (.int m3), some (.int m4), some (.int m5), some (.int m6), some (.long (((j7 * (1103515245 : Int64)) + (12345 : Int64)) &&& (2147483647 : Int64))), none, some (.int m9), some (.int m10), some (.int z_1729)]) (st' := [.int (0 : Int32), .ref (q0 + 10), .ref (q0 + 1)]) rfl ?_
        obtain ⟨v_1732, e_1732, e⟩ := Option.bind_eq_some_iff.mp e
        refine Rn.hp hT rfl rfl (aR_hp (rp_gx (m := 3) R_1730 (T10_3 t0) L32_0 e_1732)) ?_
        refine Rn.n hT 5 (pc' := 102) (L' := [some (.ref q0), some (.ref q1), some (iv_rf (rvo o2)), some (.int m3), some (.int m4), some (.int m5), some (.int m6), some (.long (((j7 * (1103515245 : Int64)) + (12345 : Int64)) &&& (2147483647 : Int64))), none, some (.int m9), some (.int m10), some (.int z_1729)]) (st' := [.long ((z_1729).toInt64), .long ((((j7 * (1103515245 : Int64)) + (12345 : Int64)) &&& (2147483647 : Int64)) / (65536 : Int64)), .ref v_1732, .ref (q0 + 1)]) rfl ?_
        by_cases c_1733 : v_1729 = 0
        · rw [if_pos c_1733] at e
          cases e
        · rw [if_neg c_1733] at e
          refine Rn.pu hT rfl rfl (st' := [.long (((((j7 * (1103515245 : Int64)) + (12345 : Int64)) &&& (2147483647 : Int64)) / (65536 : Int64)) - ((((j7 * (1103515245 : Int64)) + (12345 : Int64)) &&& (2147483647 : Int64)) / (65536 : Int64)) / (z_1729).toInt64 * (z_1729).toInt64), .ref v_1732, .ref (q0 + 1)]) (if_neg (fun z => c_1733 ((tj_e (ti_j p_1729) L64_0).mp z))) ?_
          refine Rn.n hT 1 (pc' := 104) (L' := [some (.ref q0), some (.ref q1), some (iv_rf (rvo o2)), some (.int m3), some (.int m4), some (.int m5), some (.int m6), some (.long (((j7 * (1103515245 : Int64)) + (12345 : Int64)) &&& (2147483647 : Int64))), none, some (.int m9), some (.int m10), some (.int z_1729)]) (st' := [.int (((((((j7 * (1103515245 : Int64)) + (12345 : Int64)) &&& (2147483647 : Int64)) / (65536 : Int64)) - ((((j7 * (1103515245 : Int64)) + (12345 : Int64)) &&& (2147483647 : Int64)) / (65536 : Int64)) / (z_1729).toInt64 * (z_1729).toInt64)).toInt32), .ref v_1732, .ref (q0 + 1)]) rfl ?_
          obtain ⟨v_1734, e_1734, e⟩ := Option.bind_eq_some_iff.mp e
          obtain ⟨z_1734, g_1734, p_1734⟩ := rp_aI R_1730 (ga_a (gx_ty (T10_3g t0) e_1732)) (ga_l (gx_ty (T10_3g t0) e_1732)) (tj_i (tj_rem (tj_div (tj_and (tj_add (tj_mul p7 L64_1103515245) L64_12345) L64_2147483647) L64_65536) (ti_j p_1729))) e_1734
          refine Rn.hp hT rfl rfl (aI_hp g_1734) ?_
          obtain ⟨s_1736, e_1735, e⟩ := Option.bind_eq_some_iff.mp e
          refine Rn.call hT rfl rfl rfl (Nat.le_of_ble_eq_true rfl) (rcv_v gX1_go (by omega) (rp_ck R_1730 (T1_o (T10_0 t0)))) (RX1_go (by omega) R_1730 (T10_0 t0) p_1734 e_1735 (fun h_1736 R_1736 => ?_))
          show Rn d _ _ 108 [some (.ref q0), some (.ref q1), some (iv_rf (rvo o2)), some (.int m3), some (.int m4), some (.int m5), some (.int m6), some (.long (((j7 * (1103515245 : Int64)) + (12345 : Int64)) &&& (2147483647 : Int64))), none, some (.int m9), some (.int m10), some (.int z_1729)] [] h_1736 Q
          refine Rn.n hT 1 (pc' := 109) (L' := [some (.ref q0), some (.ref q1), some (iv_rf (rvo o2)), some (.int m3), some (.int m4), some (.int m5), some (.int m6), some (.long (((j7 * (1103515245 : Int64)) + (12345 : Int64)) &&& (2147483647 : Int64))), none, some (.int m9), some (.int m10), some (.int z_1729)]) (st' := [.ref q0]) rfl ?_
          refine Rn.hp hT rfl rfl (gR_hp (rp_gR R_1736 (T10_o t0) rfl)) ?_
          obtain ⟨s_1738, e_1737, e⟩ := Option.bind_eq_some_iff.mp e
          refine Rn.call hT rfl rfl rfl (Nat.le_of_ble_eq_true rfl) (rcv_v gX3_look (by omega) (rp_ck R_1736 (T3_o (T10_1 t0)))) (RX3_look (by omega) R_1736 (T10_1 t0) e_1737 (fun h_1738 R_1738 => ?_))
          show Rn d _ _ 115 [some (.ref q0), some (.ref q1), some (iv_rf (rvo o2)), some (.int m3), some (.int m4), some (.int m5), some (.int m6), some (.long (((j7 * (1103515245 : Int64)) + (12345 : Int64)) &&& (2147483647 : Int64))), none, some (.int m9), some (.int m10), some (.int z_1729)] [] h_1738 Q
          refine Rn.n hT 2 (pc' := 117) (L' := [some (.ref q0), some (.ref q1), some (iv_rf (rvo o2)), some (.int m3), some (.int m4), some (.int m5), some (.int m6), some (.long (((j7 * (1103515245 : Int64)) + (12345 : Int64)) &&& (2147483647 : Int64))), none, some (.int m9), some (.int m10), some (.int z_1729)]) (st' := [.ref q0, .ref q0]) rfl ?_
          obtain ⟨z_1739, g_1739, p_1739⟩ : ∃ z : Int32, gI h_1738 10 11 q0 = some z ∧ z.toInt = s_1738 q0 11 := rp_gI (k := 11) R_1738 (T10_o t0) rfl
          refine Rn.hp hT rfl rfl (gI_hp g_1739) ?_
          refine Rn.n hT 2 (pc' := 122) (L' := [some (.ref q0), some (.ref q1), some (iv_rf (rvo o2)), some (.int m3), some (.int m4), some (.int m5), some (.int m6), some (.long (((j7 * (1103515245 : Int64)) + (12345 : Int64)) &&& (2147483647 : Int64))), none, some (.int m9), some (.int m10), some (.int z_1729)]) (st' := [.int (z_1739 + (1 : Int32)), .ref q0]) rfl ?_
          obtain ⟨s_1740, e_1741, e⟩ := Option.bind_eq_some_iff.mp e
          obtain ⟨h_1740, g_1741, R_1740⟩ := rp_pI (ci := 10) (k := 11) R_1738 (T10_o t0) rfl rfl (ti_add p_1739 L32_1) e_1741
          refine Rn.hp hT rfl rfl (pV_hp rfl g_1741) ?_
          exact Rn.weak (ll_s (ll_s (ll_s (ll_s (ll_s (ll_s (ll_s (ll_s (ll_n (ll_s (ll_s (ll_n ll_e)))))))))))) (RX10_drawTimes_b125 hd R_1740 t0 t1 t2 p3 p4 p5 p6 (tj_and (tj_add (tj_mul p7 L64_1103515245) L64_12345) L64_2147483647) p9 p10 ih hk hq e)
def FX10_drawTimes_b184 (N : Nat) (s : iv_M) (q0 : Nat) (q1 : Nat) (o2 : Int) (x3 : Int) (x4 : Int) (x5 : Int) (x6 : Int) (y7 : Int) (x9 : Int) (xs0 : Int) (xs1 : Int) (qs2 : Nat) (kb : iv_M → Int → Int → Option (iv_M)) (kx : iv_M → Option (iv_M)) : Option (iv_M) := ((pt s qs2 10 (w32 (xs1 + xs0))).bind fun s_1745 => (kb s_1745 y7 (w32 (x9 + 1))))
set_option maxRecDepth 10000 in
set_option maxHeartbeats 4000000 in
theorem RX10_drawTimes_b184 {d N nc Ls : Nat} {Xs : Nat → Int32} (hd : 5 ≤ d) {h : iv_H} {s : iv_M} (hR : Rep nc Ls Xs h s) {q0 : Nat} (t0 : T10 nc q0) {q1 : Nat} (t1 : T2 nc q1) {o2 : Int} (t2 : (o2 < 0 ∨ TR nc (o2).toNat)) {m3 : Int32} {x3 : Int} (p3 : m3.toInt = x3) {m4 : Int32} {x4 : Int} (p4 : m4.toInt = x4) {m5 : Int32} {x5 : Int} (p5 : m5.toInt = x5) {m6 : Int32} {x6 : Int} (p6 : m6.toInt = x6) {j7 : Int64} {y7 : Int} (p7 : j7.toInt = y7) {m9 : Int32} {x9 : Int} (p9 : m9.toInt = x9) {ms0 : Int32} {xs0 : Int} (ps0 : ms0.toInt = xs0) {ms1 : Int32} {xs1 : Int} (ps1 : ms1.toInt = xs1) {qs2 : Nat} (ts2 : T10 nc qs2) {kb : iv_M → Int → Int → Option (iv_M)} {kx : iv_M → Option (iv_M)} {r : iv_M} {Q : Option Value → iv_H → Prop} (hb : ∀ (h : iv_H) (s : iv_M) (hR : Rep nc Ls Xs h s) (jw7 : Int64) (yw7 : Int) (pw7 : jw7.toInt = yw7) (mw9 : Int32) (xw9 : Int) (pw9 : mw9.toInt = xw9), kb s yw7 xw9 = some r → Rn d 134 none 25 [some (.ref q0), some (.ref q1), some (iv_rf (rvo o2)), some (.int m3), some (.int m4), some (.int m5), some (.int m6), some (.long jw7), none, some (.int mw9), none, none] [] h Q) (hk : ∀ (h : iv_H) (s : iv_M) (hR : Rep nc Ls Xs h s), kx s = some r → Rn d 134 none 194 [none, none, none, none, none, none, none, none, none, none, none, none] [] h Q) (hq : ∀ h1, Rep nc Ls Xs h1 r → Q none h1) (e : FX10_drawTimes_b184 N s q0 q1 o2 x3 x4 x5 x6 y7 x9 xs0 xs1 qs2 kb kx = some r) : Rn d 134 none 184 [some (.ref q0), some (.ref q1), some (iv_rf (rvo o2)), some (.int m3), some (.int m4), some (.int m5), some (.int m6), some (.long j7), none, some (.int m9), none, none] [.int ms0, .int ms1, .ref qs2] h Q := by
  have hT := hX10_drawTimes
  unfold FX10_drawTimes_b184 at e
  refine Rn.n hT 1 (pc' := 185) (L' := [some (.ref q0), some (.ref q1), some (iv_rf (rvo o2)), some (.int m3), some (.int m4), some (.int m5), some (.int m6), some (.long j7), none, some (.int m9), none, none]) (st' := [.int (ms1 + ms0), .ref qs2]) rfl ?_
  obtain ⟨s_1745, e_1746, e⟩ := Option.bind_eq_some_iff.mp e
  obtain ⟨h_1745, g_1746, R_1745⟩ := rp_pI (ci := 10) (k := 10) hR (T10_o ts2) rfl rfl (ti_add ps1 ps0) e_1746
  refine Rn.hp hT rfl rfl (pV_hp rfl g_1746) ?_
  refine Rn.n hT 2 (pc' := 25) (L' := [some (.ref q0), some (.ref q1), some (iv_rf (rvo o2)), some (.int m3), some (.int m4), some (.int m5), some (.int m6), some (.long j7), none, some (.int (m9 + (1 : Int32))), none, none]) (st' := []) rfl ?_
  exact Rn.weak (ll_s (ll_s (ll_s (ll_s (ll_s (ll_s (ll_s (ll_s (ll_n (ll_s (ll_n (ll_n ll_e)))))))))))) (hb h_1745 s_1745 R_1745 j7 y7 p7 (m9 + (1 : Int32)) (w32 (x9 + 1)) (ti_add p9 L32_1) e)
def FX10_drawTimes_l25 (N : Nat) (q0 : Nat) (q1 : Nat) (o2 : Int) (x3 : Int) (x4 : Int) (x5 : Int) (x6 : Int) (kx : iv_M → Option (iv_M)) : Nat → iv_M → Int → Int → Option (iv_M)
  | 0, _, _, _ => none
  | n + 1, s, y7, x9 => (if x3 ≤ x9 then (kx s) else ((FX10_begin N s q0 q1 o2).bind fun s_1717 => (FX10_drawTimes_l40 N q0 q1 o2 x3 x4 x5 x6 x9 (fun (s_1718 : iv_M) (y1719_7 : Int) => ((FX1_mismatches N s_1718 (q0 + 1)).bind fun v_1721 => ((pt s_1718 q0 9 (w32 ((s_1718 q0 9) + v_1721))).bind fun s_1722 => ((FX1_doorToDoor N s_1722 (q0 + 1) x5 x6).bind fun v_1725 => (if v_1725 = 0 then (FX10_drawTimes_b184 N s_1722 q0 q1 o2 x3 x4 x5 x6 y1719_7 x9 0 (s_1722 q0 10) q0 (FX10_drawTimes_l25 N q0 q1 o2 x3 x4 x5 x6 kx n) kx) else (FX10_drawTimes_b184 N s_1722 q0 q1 o2 x3 x4 x5 x6 y1719_7 x9 1 (s_1722 q0 10) q0 (FX10_drawTimes_l25 N q0 q1 o2 x3 x4 x5 x6 kx n) kx)))))) N s_1717 y7 0)))
set_option maxRecDepth 10000 in
set_option maxHeartbeats 4000000 in
theorem RX10_drawTimes_l25 {d N nc Ls : Nat} {Xs : Nat → Int32} (hd : 5 ≤ d) {q0 : Nat} (t0 : T10 nc q0) {q1 : Nat} (t1 : T2 nc q1) {o2 : Int} (t2 : (o2 < 0 ∨ TR nc (o2).toNat)) {m3 : Int32} {x3 : Int} (p3 : m3.toInt = x3) {m4 : Int32} {x4 : Int} (p4 : m4.toInt = x4) {m5 : Int32} {x5 : Int} (p5 : m5.toInt = x5) {m6 : Int32} {x6 : Int} (p6 : m6.toInt = x6) {kx : iv_M → Option (iv_M)} {r : iv_M} {Q : Option Value → iv_H → Prop} (hk : ∀ (h : iv_H) (s : iv_M) (hR : Rep nc Ls Xs h s), kx s = some r → Rn d 134 none 194 [none, none, none, none, none, none, none, none, none, none, none, none] [] h Q) (hq : ∀ h1, Rep nc Ls Xs h1 r → Q none h1) : ∀ (n : Nat) (h : iv_H) (s : iv_M) (hR : Rep nc Ls Xs h s) (j7 : Int64) (y7 : Int) (p7 : j7.toInt = y7) (m9 : Int32) (x9 : Int) (p9 : m9.toInt = x9), FX10_drawTimes_l25 N q0 q1 o2 x3 x4 x5 x6 kx n s y7 x9 = some r → Rn d 134 none 25 [some (.ref q0), some (.ref q1), some (iv_rf (rvo o2)), some (.int m3), some (.int m4), some (.int m5), some (.int m6), some (.long j7), none, some (.int m9), none, none] [] h Q := by
  have hT := hX10_drawTimes
  intro n
  induction n with
  | zero =>
    intro h s hR j7 y7 p7 m9 x9 p9 e
    rw [FX10_drawTimes_l25] at e
    cases e
  | succ n ih =>
    intro h s hR j7 y7 p7 m9 x9 p9 e
    rw [FX10_drawTimes_l25] at e
    refine Rn.n hT 2 (pc' := 28) (L' := [some (.ref q0), some (.ref q1), some (iv_rf (rvo o2)), some (.int m3), some (.int m4), some (.int m5), some (.int m6), some (.long j7), none, some (.int m9), none, none]) (st' := [.int m3, .int m9]) rfl ?_
    by_cases c_1715 : x3 ≤ x9
    · rw [if_pos c_1715] at e
      refine Rn.bt hT rfl rfl rfl (decide_eq_true ((ti_le p3 p9).mpr c_1715)) ?_
      exact Rn.weak (ll_n (ll_n (ll_n (ll_n (ll_n (ll_n (ll_n (ll_n (ll_n (ll_n (ll_n (ll_n ll_e)))))))))))) (hk h s hR e)
    · rw [if_neg c_1715] at e
      refine Rn.bf hT rfl rfl rfl (decide_eq_false (fun z => c_1715 ((ti_le p3 p9).mp z))) ?_
      refine Rn.n hT 2 (pc' := 33) (L' := [some (.ref q0), some (.ref q1), some (iv_rf (rvo o2)), some (.int m3), some (.int m4), some (.int m5), some (.int m6), some (.long j7), none, some (.int m9), none, none]) (st' := [.ref q1, .ref q0]) rfl ?_
      refine Rn.lo hT rfl rfl (L' := [some (.ref q0), some (.ref q1), some (iv_rf (rvo o2)), some (.int m3), some (.int m4), some (.int m5), some (.int m6), some (.long j7), none, some (.int m9), none, none]) (st' := [iv_rf (rvo o2), .ref q1, .ref q0]) (ldN (o := (rvo o2)) rfl) ?_
      obtain ⟨s_1717, e_1716, e⟩ := Option.bind_eq_some_iff.mp e
      refine Rn.call hT rfl rfl rfl (Nat.le_of_ble_eq_true rfl) (rcv_v gX10_begin (by omega) (rp_ck hR (T10_o t0))) (RX10_begin (by omega) hR t0 t1 t2 e_1716 (fun h_1717 R_1717 => ?_))
      show Rn d _ _ 37 [some (.ref q0), some (.ref q1), some (iv_rf (rvo o2)), some (.int m3), some (.int m4), some (.int m5), some (.int m6), some (.long j7), none, some (.int m9), none, none] [] h_1717 Q
      refine Rn.n hT 2 (pc' := 40) (L' := [some (.ref q0), some (.ref q1), some (iv_rf (rvo o2)), some (.int m3), some (.int m4), some (.int m5), some (.int m6), some (.long j7), none, some (.int m9), some (.int (0 : Int32)), none]) (st' := []) rfl ?_
      refine Rn.weak (ll_s (ll_s (ll_s (ll_s (ll_s (ll_s (ll_s (ll_s (ll_n (ll_s (ll_s (ll_n ll_e)))))))))))) (RX10_drawTimes_l40 hd t0 t1 t2 p3 p4 p5 p6 p9 (fun h_1718 s_1718 R_1718 j1719_7 y1719_7 p1719_7 e => ?_) hq N h_1717 s_1717 R_1717 j7 y7 p7 (0 : Int32) 0 L32_0 e)
      try dsimp only at e
      refine Rn.n hT 2 (pc' := 146) (L' := [some (.ref q0), some (.ref q1), some (iv_rf (rvo o2)), some (.int m3), some (.int m4), some (.int m5), some (.int m6), some (.long j1719_7), none, some (.int m9), none, none]) (st' := [.ref q0, .ref q0]) rfl ?_
      obtain ⟨z_1720, g_1720, p_1720⟩ : ∃ z : Int32, gI h_1718 10 9 q0 = some z ∧ z.toInt = s_1718 q0 9 := rp_gI (k := 9) R_1718 (T10_o t0) rfl
      refine Rn.hp hT rfl rfl (gI_hp g_1720) ?_
      refine Rn.n hT 1 (pc' := 150) (L' := [some (.ref q0), some (.ref q1), some (iv_rf (rvo o2)), some (.int m3), some (.int m4), some (.int m5), some (.int m6), some (.long j1719_7), none, some (.int m9), none, none]) (st' := [.ref q0, .int z_1720, .ref q0]) rfl ?_
      refine Rn.hp hT rfl rfl (gR_hp (rp_gR R_1718 (T10_o t0) rfl)) ?_
      obtain ⟨v_1721, e_1721, e⟩ := Option.bind_eq_some_iff.mp e
      refine Rn.call hT rfl rfl rfl (Nat.le_of_ble_eq_true rfl) (rcv_v gX1_mismatches (by omega) (rp_ck R_1718 (T1_o (T10_0 t0)))) (RX1_mismatches (by omega) R_1718 (T10_0 t0) e_1721 (fun z_1721 p_1721 => ?_))
      show Rn d _ _ 156 [some (.ref q0), some (.ref q1), some (iv_rf (rvo o2)), some (.int m3), some (.int m4), some (.int m5), some (.int m6), some (.long j1719_7), none, some (.int m9), none, none] [.int z_1721, .int z_1720, .ref q0] h_1718 Q
      refine Rn.n hT 1 (pc' := 157) (L' := [some (.ref q0), some (.ref q1), some (iv_rf (rvo o2)), some (.int m3), some (.int m4), some (.int m5), some (.int m6), some (.long j1719_7), none, some (.int m9), none, none]) (st' := [.int (z_1720 + z_1721), .ref q0]) rfl ?_
      obtain ⟨s_1722, e_1723, e⟩ := Option.bind_eq_some_iff.mp e
      obtain ⟨h_1722, g_1723, R_1722⟩ := rp_pI (ci := 10) (k := 9) R_1718 (T10_o t0) rfl rfl (ti_add p_1720 p_1721) e_1723
      refine Rn.hp hT rfl rfl (pV_hp rfl g_1723) ?_
      refine Rn.n hT 2 (pc' := 162) (L' := [some (.ref q0), some (.ref q1), some (iv_rf (rvo o2)), some (.int m3), some (.int m4), some (.int m5), some (.int m6), some (.long j1719_7), none, some (.int m9), none, none]) (st' := [.ref q0, .ref q0]) rfl ?_
      obtain ⟨z_1724, g_1724, p_1724⟩ : ∃ z : Int32, gI h_1722 10 10 q0 = some z ∧ z.toInt = s_1722 q0 10 := rp_gI (k := 10) R_1722 (T10_o t0) rfl
      refine Rn.hp hT rfl rfl (gI_hp g_1724) ?_
      refine Rn.n hT 1 (pc' := 166) (L' := [some (.ref q0), some (.ref q1), some (iv_rf (rvo o2)), some (.int m3), some (.int m4), some (.int m5), some (.int m6), some (.long j1719_7), none, some (.int m9), none, none]) (st' := [.ref q0, .int z_1724, .ref q0]) rfl ?_
      refine Rn.hp hT rfl rfl (gR_hp (rp_gR R_1722 (T10_o t0) rfl)) ?_
      refine Rn.n hT 2 (pc' := 173) (L' := [some (.ref q0), some (.ref q1), some (iv_rf (rvo o2)), some (.int m3), some (.int m4), some (.int m5), some (.int m6), some (.long j1719_7), none, some (.int m9), none, none]) (st' := [.int m6, .int m5, .ref (q0 + 1), .int z_1724, .ref q0]) rfl ?_
      obtain ⟨v_1725, e_1725, e⟩ := Option.bind_eq_some_iff.mp e
      refine Rn.call hT rfl rfl rfl (Nat.le_of_ble_eq_true rfl) (rcv_v gX1_doorToDoor (by omega) (rp_ck R_1722 (T1_o (T10_0 t0)))) (RX1_doorToDoor (by omega) R_1722 (T10_0 t0) p5 p6 e_1725 (fun z_1725 p_1725 => ?_))
      show Rn d _ _ 176 [some (.ref q0), some (.ref q1), some (iv_rf (rvo o2)), some (.int m3), some (.int m4), some (.int m5), some (.int m6), some (.long j1719_7), none, some (.int m9), none, none] [.int z_1725, .int z_1724, .ref q0] h_1722 Q
      by_cases c_1726 : v_1725 = 0
      · rw [if_pos c_1726] at e
        refine Rn.bt hT rfl rfl rfl (decide_eq_true ((ti_e p_1725 L32_0).mpr c_1726)) ?_
        refine Rn.n hT 1 (pc' := 184) (L' := [some (.ref q0), some (.ref q1), some (iv_rf (rvo o2)), some (.int m3), some (.int m4), some (.int m5), some (.int m6), some (.long j1719_7), none, some (.int m9), none, none]) (st' := [.int (0 : Int32), .int z_1724, .ref q0]) rfl ?_
        exact Rn.weak (ll_s (ll_s (ll_s (ll_s (ll_s (ll_s (ll_s (ll_s (ll_n (ll_s (ll_n (ll_n ll_e)))))))))))) (RX10_drawTimes_b184 hd R_1722 t0 t1 t2 p3 p4 p5 p6 p1719_7 p9 L32_0 p_1724 t0 ih hk hq e)
      · rw [if_neg c_1726] at e
        refine Rn.bf hT rfl rfl rfl (decide_eq_false (fun z => c_1726 ((ti_e p_1725 L32_0).mp z))) ?_
        refine Rn.n hT 2 (pc' := 184) (L' := [some (.ref q0), some (.ref q1), some (iv_rf (rvo o2)), some (.int m3), some (.int m4), some (.int m5), some (.int m6), some (.long j1719_7), none, some (.int m9), none, none]) (st' := [.int (1 : Int32), .int z_1724, .ref q0]) rfl ?_
        exact Rn.weak (ll_s (ll_s (ll_s (ll_s (ll_s (ll_s (ll_s (ll_s (ll_n (ll_s (ll_n (ll_n ll_e)))))))))))) (RX10_drawTimes_b184 hd R_1722 t0 t1 t2 p3 p4 p5 p6 p1719_7 p9 L32_1 p_1724 t0 ih hk hq e)
def FX10_drawTimes (N : Nat) (s : iv_M) (q0 : Nat) (q1 : Nat) (o2 : Int) (x3 : Int) (x4 : Int) (x5 : Int) (x6 : Int) : Option (iv_M) := ((pt s q0 9 0).bind fun s_1706 => ((pt s_1706 q0 10 0).bind fun s_1708 => ((pt s_1708 q0 11 0).bind fun s_1710 => (FX10_drawTimes_l25 N q0 q1 o2 x3 x4 x5 x6 (fun (s_1713 : iv_M) => some s_1713) N s_1710 (s_1710 q1 7) 0))))
set_option maxRecDepth 10000 in
set_option maxHeartbeats 4000000 in
theorem RX10_drawTimes {d N nc Ls : Nat} {Xs : Nat → Int32} (hd : 6 ≤ d) {h : iv_H} {s : iv_M} (hR : Rep nc Ls Xs h s) {q0 : Nat} (t0 : T10 nc q0) {q1 : Nat} (t1 : T2 nc q1) {o2 : Int} (t2 : (o2 < 0 ∨ TR nc (o2).toNat)) {m3 : Int32} {x3 : Int} (p3 : m3.toInt = x3) {m4 : Int32} {x4 : Int} (p4 : m4.toInt = x4) {m5 : Int32} {x5 : Int} (p5 : m5.toInt = x5) {m6 : Int32} {x6 : Int} (p6 : m6.toInt = x6) {r : iv_M} {Q : Option Value → iv_H → Prop} (e : FX10_drawTimes N s q0 q1 o2 x3 x4 x5 x6 = some r) (hq : ∀ h1, Rep nc Ls Xs h1 r → Q none h1) : Cl d 134 [.ref q0, .ref q1, iv_rf (rvo o2), .int m3, .int m4, .int m5, .int m6] h Q := by
  obtain ⟨d, rfl⟩ : ∃ k, d = k + 1 := ⟨d - 1, by omega⟩
  have hd : 5 ≤ d := by omega
  have hT := hX10_drawTimes
  unfold FX10_drawTimes at e
  have he : iv_ent 12 [.ref q0, .ref q1, iv_rf (rvo o2), .int m3, .int m4, .int m5, .int m6] = [some (.ref q0), some (.ref q1), some (iv_rf (rvo o2)), some (.int m3), some (.int m4), some (.int m5), some (.int m6), none, none, none, none, none] := by cases rvo o2 <;> rfl
  refine Cl.into (by decide) gX10_drawTimes (by rw [he]; rfl) ?_
  rw [he]
  refine Rn.n hT 2 (pc' := 2) (L' := [some (.ref q0), some (.ref q1), some (iv_rf (rvo o2)), some (.int m3), some (.int m4), some (.int m5), some (.int m6), none, none, none, none, none]) (st' := [.int (0 : Int32), .ref q0]) rfl ?_
  obtain ⟨s_1706, e_1707, e⟩ := Option.bind_eq_some_iff.mp e
  obtain ⟨h_1706, g_1707, R_1706⟩ := rp_pI (ci := 10) (k := 9) hR (T10_o t0) rfl rfl L32_0 e_1707
  refine Rn.hp hT rfl rfl (pV_hp rfl g_1707) ?_
  refine Rn.n hT 2 (pc' := 7) (L' := [some (.ref q0), some (.ref q1), some (iv_rf (rvo o2)), some (.int m3), some (.int m4), some (.int m5), some (.int m6), none, none, none, none, none]) (st' := [.int (0 : Int32), .ref q0]) rfl ?_
  obtain ⟨s_1708, e_1709, e⟩ := Option.bind_eq_some_iff.mp e
  obtain ⟨h_1708, g_1709, R_1708⟩ := rp_pI (ci := 10) (k := 10) R_1706 (T10_o t0) rfl rfl L32_0 e_1709
  refine Rn.hp hT rfl rfl (pV_hp rfl g_1709) ?_
  refine Rn.n hT 2 (pc' := 12) (L' := [some (.ref q0), some (.ref q1), some (iv_rf (rvo o2)), some (.int m3), some (.int m4), some (.int m5), some (.int m6), none, none, none, none, none]) (st' := [.int (0 : Int32), .ref q0]) rfl ?_
  obtain ⟨s_1710, e_1711, e⟩ := Option.bind_eq_some_iff.mp e
  obtain ⟨h_1710, g_1711, R_1710⟩ := rp_pI (ci := 10) (k := 11) R_1708 (T10_o t0) rfl rfl L32_0 e_1711
  refine Rn.hp hT rfl rfl (pV_hp rfl g_1711) ?_
  refine Rn.n hT 1 (pc' := 16) (L' := [some (.ref q0), some (.ref q1), some (iv_rf (rvo o2)), some (.int m3), some (.int m4), some (.int m5), some (.int m6), none, none, none, none, none]) (st' := [.ref q1]) rfl ?_
  obtain ⟨z_1712, g_1712, p_1712⟩ : ∃ z : Int32, gI h_1710 2 7 q1 = some z ∧ z.toInt = s_1710 q1 7 := rp_gI (k := 7) R_1710 (T2_o t1) rfl
  refine Rn.hp hT rfl rfl (gI_hp g_1712) ?_
  refine Rn.n hT 4 (pc' := 25) (L' := [some (.ref q0), some (.ref q1), some (iv_rf (rvo o2)), some (.int m3), some (.int m4), some (.int m5), some (.int m6), some (.long ((z_1712).toInt64)), none, some (.int (0 : Int32)), none, none]) (st' := []) rfl ?_
  refine Rn.weak (ll_s (ll_s (ll_s (ll_s (ll_s (ll_s (ll_s (ll_s (ll_n (ll_s (ll_n (ll_n ll_e)))))))))))) (RX10_drawTimes_l25 hd t0 t1 t2 p3 p4 p5 p6 (fun h_1713 s_1713 R_1713 e => ?_) hq N h_1710 s_1710 R_1710 ((z_1712).toInt64) (s_1710 q1 7) (ti_j p_1712) (0 : Int32) 0 L32_0 e)
  try dsimp only at e
  obtain rfl := Option.some.inj e
  exact Rn.ret hT rfl rfl rfl (hq h_1713 R_1713)
set_option maxRecDepth 10000 in
theorem hX11_putBytes : iv_Tb 137 tX11_putBytes := iv_tb_of (m := mX11_putBytes) rfl
set_option maxRecDepth 10000 in
theorem gX11_putBytes : PG.2 137 = some mX11_putBytes := iv_pi_of (t := tX11_putBytes) rfl (by decide)
def FX11_putBytes_l3 (N : Nat) (q0 : Nat) (x1 : Int) (kx : iv_M → Option (iv_M)) : Nat → iv_M → Int → Option (iv_M)
  | 0, _, _ => none
  | n + 1, s, x2 => (if x2 < 0 then (kx s) else (if 400 ≤ (s q0 1) then (kx s) else ((wr s (q0 + 1) 400 (s q0 1) (w8 (w8 (sr32 x1 x2)))).bind fun s_1753 => ((pt s_1753 q0 1 (w32 ((s_1753 q0 1) + 1))).bind fun s_1756 => (FX11_putBytes_l3 N q0 x1 kx n s_1756 (w32 (x2 + (-8))))))))
set_option maxRecDepth 10000 in
set_option maxHeartbeats 4000000 in
theorem RX11_putBytes_l3 {d N nc Ls : Nat} {Xs : Nat → Int32} (hd : 0 ≤ d) {q0 : Nat} (t0 : T11 nc q0) {m1 : Int32} {x1 : Int} (p1 : m1.toInt = x1) {kx : iv_M → Option (iv_M)} {r : iv_M} {Q : Option Value → iv_H → Prop} (hk : ∀ (h : iv_H) (s : iv_M) (hR : Rep nc Ls Xs h s), kx s = some r → Rn d 137 none 46 [none, none, none] [] h Q) (hq : ∀ h1, Rep nc Ls Xs h1 r → Q none h1) : ∀ (n : Nat) (h : iv_H) (s : iv_M) (hR : Rep nc Ls Xs h s) (m2 : Int32) (x2 : Int) (p2 : m2.toInt = x2), FX11_putBytes_l3 N q0 x1 kx n s x2 = some r → Rn d 137 none 3 [some (.ref q0), some (.int m1), some (.int m2)] [] h Q := by
  have hT := hX11_putBytes
  intro n
  induction n with
  | zero =>
    intro h s hR m2 x2 p2 e
    rw [FX11_putBytes_l3] at e
    cases e
  | succ n ih =>
    intro h s hR m2 x2 p2 e
    rw [FX11_putBytes_l3] at e
    refine Rn.n hT 1 (pc' := 4) (L' := [some (.ref q0), some (.int m1), some (.int m2)]) (st' := [.int m2]) rfl ?_
    by_cases c_1749 : x2 < 0
    · rw [if_pos c_1749] at e
      refine Rn.bt hT rfl rfl rfl (decide_eq_true ((ti_l p2 L32_0).mpr c_1749)) ?_
      exact Rn.weak (ll_n (ll_n (ll_n ll_e))) (hk h s hR e)
    · rw [if_neg c_1749] at e
      refine Rn.bf hT rfl rfl rfl (decide_eq_false (fun z => c_1749 ((ti_l p2 L32_0).mp z))) ?_
      refine Rn.n hT 1 (pc' := 8) (L' := [some (.ref q0), some (.int m1), some (.int m2)]) (st' := [.ref q0]) rfl ?_
      obtain ⟨z_1750, g_1750, p_1750⟩ : ∃ z : Int32, gI h 11 1 q0 = some z ∧ z.toInt = s q0 1 := rp_gI (k := 1) hR (T11_o t0) rfl
      refine Rn.hp hT rfl rfl (gI_hp g_1750) ?_
      refine Rn.n hT 1 (pc' := 14) (L' := [some (.ref q0), some (.int m1), some (.int m2)]) (st' := [.int (400 : Int32), .int z_1750]) rfl ?_
      by_cases c_1751 : 400 ≤ (s q0 1)
      · rw [if_pos c_1751] at e
        refine Rn.bt hT rfl rfl rfl (decide_eq_true ((ti_le L32_400 p_1750).mpr c_1751)) ?_
        exact Rn.weak (ll_n (ll_n (ll_n ll_e))) (hk h s hR e)
      · rw [if_neg c_1751] at e
        refine Rn.bf hT rfl rfl rfl (decide_eq_false (fun z => c_1751 ((ti_le L32_400 p_1750).mp z))) ?_
        refine Rn.n hT 1 (pc' := 18) (L' := [some (.ref q0), some (.int m1), some (.int m2)]) (st' := [.ref q0]) rfl ?_
        refine Rn.hp hT rfl rfl (gR_hp (rp_gR hR (T11_o t0) rfl)) ?_
        refine Rn.n hT 1 (pc' := 22) (L' := [some (.ref q0), some (.int m1), some (.int m2)]) (st' := [.ref q0, .ref (q0 + 1)]) rfl ?_
        obtain ⟨z_1752, g_1752, p_1752⟩ : ∃ z : Int32, gI h 11 1 q0 = some z ∧ z.toInt = s q0 1 := rp_gI (k := 1) hR (T11_o t0) rfl
        refine Rn.hp hT rfl rfl (gI_hp g_1752) ?_
        refine Rn.n hT 4 (pc' := 29) (L' := [some (.ref q0), some (.int m1), some (.int m2)]) (st' := [.int (((m1 >>> (m2 &&& 31))).toInt8.toInt32), .int z_1752, .ref (q0 + 1)]) rfl ?_
        obtain ⟨s_1753, e_1754, e⟩ := Option.bind_eq_some_iff.mp e
        obtain ⟨h_1753, g_1754, R_1753⟩ := rp_wB hR (T11_0 t0) (T11_0l t0) p_1752 (ti_8 (ti_8 (ti_shr p1 p2))) e_1754
        refine Rn.hp hT rfl rfl (wB_hp g_1754) ?_
        refine Rn.n hT 2 (pc' := 32) (L' := [some (.ref q0), some (.int m1), some (.int m2)]) (st' := [.ref q0, .ref q0]) rfl ?_
        obtain ⟨z_1755, g_1755, p_1755⟩ : ∃ z : Int32, gI h_1753 11 1 q0 = some z ∧ z.toInt = s_1753 q0 1 := rp_gI (k := 1) R_1753 (T11_o t0) rfl
        refine Rn.hp hT rfl rfl (gI_hp g_1755) ?_
        refine Rn.n hT 2 (pc' := 37) (L' := [some (.ref q0), some (.int m1), some (.int m2)]) (st' := [.int (z_1755 + (1 : Int32)), .ref q0]) rfl ?_
        obtain ⟨s_1756, e_1757, e⟩ := Option.bind_eq_some_iff.mp e
        obtain ⟨h_1756, g_1757, R_1756⟩ := rp_pI (ci := 11) (k := 1) R_1753 (T11_o t0) rfl rfl (ti_add p_1755 L32_1) e_1757
        refine Rn.hp hT rfl rfl (pV_hp rfl g_1757) ?_
        refine Rn.n hT 2 (pc' := 3) (L' := [some (.ref q0), some (.int m1), some (.int (m2 + (-8 : Int32)))]) (st' := []) rfl ?_
        exact Rn.weak (ll_s (ll_s (ll_s ll_e))) (ih h_1756 s_1756 R_1756 (m2 + (-8 : Int32)) (w32 (x2 + (-8))) (ti_add p2 L32_m8) e)
def FX11_putBytes_b46 (N : Nat) (s : iv_M)   : Option (iv_M) := some s
set_option maxRecDepth 10000 in
set_option maxHeartbeats 4000000 in
theorem RX11_putBytes_b46 {d N nc Ls : Nat} {Xs : Nat → Int32} (hd : 0 ≤ d) {h : iv_H} {s : iv_M} (hR : Rep nc Ls Xs h s)   {r : iv_M} {Q : Option Value → iv_H → Prop} (hq : ∀ h1, Rep nc Ls Xs h1 r → Q none h1) (e : FX11_putBytes_b46 N s   = some r) : Rn d 137 none 46 [none, none, none] [] h Q := by
  have hT := hX11_putBytes
  unfold FX11_putBytes_b46 at e
  obtain rfl := Option.some.inj e
  exact Rn.ret hT rfl rfl rfl (hq h hR)
def FX11_putBytes (N : Nat) (s : iv_M) (q0 : Nat) (x1 : Int) : Option (iv_M) := (FX11_putBytes_l3 N q0 x1 (fun (s_1747 : iv_M) => (FX11_putBytes_b46 N s_1747)) N s 24)
set_option maxRecDepth 10000 in
set_option maxHeartbeats 4000000 in
theorem RX11_putBytes {d N nc Ls : Nat} {Xs : Nat → Int32} (hd : 1 ≤ d) {h : iv_H} {s : iv_M} (hR : Rep nc Ls Xs h s) {q0 : Nat} (t0 : T11 nc q0) {m1 : Int32} {x1 : Int} (p1 : m1.toInt = x1) {r : iv_M} {Q : Option Value → iv_H → Prop} (e : FX11_putBytes N s q0 x1 = some r) (hq : ∀ h1, Rep nc Ls Xs h1 r → Q none h1) : Cl d 137 [.ref q0, .int m1] h Q := by
  obtain ⟨d, rfl⟩ : ∃ k, d = k + 1 := ⟨d - 1, by omega⟩
  have hd : 0 ≤ d := by omega
  have hT := hX11_putBytes
  unfold FX11_putBytes at e
  refine Cl.into (by decide) gX11_putBytes rfl ?_
  show Rn d 137 none 0 [some (.ref q0), some (.int m1), none] [] h Q
  refine Rn.n hT 2 (pc' := 3) (L' := [some (.ref q0), some (.int m1), some (.int (24 : Int32))]) (st' := []) rfl ?_
  refine Rn.weak (ll_s (ll_s (ll_s ll_e))) (RX11_putBytes_l3 hd t0 p1 (fun h_1747 s_1747 R_1747 e => ?_) hq N h s hR (24 : Int32) 24 L32_24 e)
  try dsimp only at e
  exact Rn.weak (ll_n (ll_n (ll_n ll_e))) (RX11_putBytes_b46 hd R_1747 hq e)
set_option maxRecDepth 10000 in
theorem hX11_feed : iv_Tb 136 tX11_feed := iv_tb_of (m := mX11_feed) rfl
set_option maxRecDepth 10000 in
theorem gX11_feed : PG.2 136 = some mX11_feed := iv_pi_of (t := tX11_feed) rfl (by decide)
def FX11_feed (N : Nat) (s : iv_M) (q0 : Nat) (x1 : Int) (x2 : Int) (x3 : Int) (x4 : Int) (x5 : Int) : Option (Int × iv_M) := (if (w32 ((s q0 1) + 20)) ≤ 400 then ((FX11_putBytes N s q0 x1).bind fun s_1761 => ((FX11_putBytes N s_1761 q0 x2).bind fun s_1763 => ((FX11_putBytes N s_1763 q0 x3).bind fun s_1765 => ((FX11_putBytes N s_1765 q0 x4).bind fun s_1767 => ((FX11_putBytes N s_1767 q0 x5).bind fun s_1769 => (some ((s_1769 q0 1), s_1769))))))) else (some ((-1), s)))
set_option maxRecDepth 10000 in
set_option maxHeartbeats 4000000 in
theorem RX11_feed {d N nc Ls : Nat} {Xs : Nat → Int32} (hd : 2 ≤ d) {h : iv_H} {s : iv_M} (hR : Rep nc Ls Xs h s) {q0 : Nat} (t0 : T11 nc q0) {m1 : Int32} {x1 : Int} (p1 : m1.toInt = x1) {m2 : Int32} {x2 : Int} (p2 : m2.toInt = x2) {m3 : Int32} {x3 : Int} (p3 : m3.toInt = x3) {m4 : Int32} {x4 : Int} (p4 : m4.toInt = x4) {m5 : Int32} {x5 : Int} (p5 : m5.toInt = x5) {r : Int × iv_M} {Q : Option Value → iv_H → Prop} (e : FX11_feed N s q0 x1 x2 x3 x4 x5 = some r) (hq : ∀ (z : Int32) (h1 : iv_H), z.toInt = r.1 → Rep nc Ls Xs h1 r.2 → Q (some (.int z)) h1) : Cl d 136 [.ref q0, .int m1, .int m2, .int m3, .int m4, .int m5] h Q := by
  obtain ⟨d, rfl⟩ : ∃ k, d = k + 1 := ⟨d - 1, by omega⟩
  have hd : 1 ≤ d := by omega
  have hT := hX11_feed
  unfold FX11_feed at e
  refine Cl.into (by decide) gX11_feed rfl ?_
  show Rn d 136 (some .int) 0 [some (.ref q0), some (.int m1), some (.int m2), some (.int m3), some (.int m4), some (.int m5)] [] h Q
  refine Rn.n hT 1 (pc' := 1) (L' := [some (.ref q0), some (.int m1), some (.int m2), some (.int m3), some (.int m4), some (.int m5)]) (st' := [.ref q0]) rfl ?_
  obtain ⟨z_1758, g_1758, p_1758⟩ : ∃ z : Int32, gI h 11 1 q0 = some z ∧ z.toInt = s q0 1 := rp_gI (k := 1) hR (T11_o t0) rfl
  refine Rn.hp hT rfl rfl (gI_hp g_1758) ?_
  refine Rn.n hT 3 (pc' := 10) (L' := [some (.ref q0), some (.int m1), some (.int m2), some (.int m3), some (.int m4), some (.int m5)]) (st' := [.int (400 : Int32), .int (z_1758 + (20 : Int32))]) rfl ?_
  by_cases c_1759 : (w32 ((s q0 1) + 20)) ≤ 400
  · rw [if_pos c_1759] at e
    refine Rn.bt hT rfl rfl rfl (decide_eq_true ((ti_le (ti_add p_1758 L32_20) L32_400).mpr c_1759)) ?_
    refine Rn.n hT 2 (pc' := 17) (L' := [some (.ref q0), some (.int m1), some (.int m2), some (.int m3), some (.int m4), some (.int m5)]) (st' := [.int m1, .ref q0]) rfl ?_
    obtain ⟨s_1761, e_1760, e⟩ := Option.bind_eq_some_iff.mp e
    refine Rn.call hT rfl rfl rfl (Nat.le_of_ble_eq_true rfl) (rcv_v gX11_putBytes (by omega) (rp_ck hR (T11_o t0))) (RX11_putBytes (by omega) hR t0 p1 e_1760 (fun h_1761 R_1761 => ?_))
    show Rn d _ _ 20 [some (.ref q0), some (.int m1), some (.int m2), some (.int m3), some (.int m4), some (.int m5)] [] h_1761 Q
    refine Rn.n hT 2 (pc' := 22) (L' := [some (.ref q0), some (.int m1), some (.int m2), some (.int m3), some (.int m4), some (.int m5)]) (st' := [.int m2, .ref q0]) rfl ?_
    obtain ⟨s_1763, e_1762, e⟩ := Option.bind_eq_some_iff.mp e
    refine Rn.call hT rfl rfl rfl (Nat.le_of_ble_eq_true rfl) (rcv_v gX11_putBytes (by omega) (rp_ck R_1761 (T11_o t0))) (RX11_putBytes (by omega) R_1761 t0 p2 e_1762 (fun h_1763 R_1763 => ?_))
    show Rn d _ _ 25 [some (.ref q0), some (.int m1), some (.int m2), some (.int m3), some (.int m4), some (.int m5)] [] h_1763 Q
    refine Rn.n hT 2 (pc' := 27) (L' := [some (.ref q0), some (.int m1), some (.int m2), some (.int m3), some (.int m4), some (.int m5)]) (st' := [.int m3, .ref q0]) rfl ?_
    obtain ⟨s_1765, e_1764, e⟩ := Option.bind_eq_some_iff.mp e
    refine Rn.call hT rfl rfl rfl (Nat.le_of_ble_eq_true rfl) (rcv_v gX11_putBytes (by omega) (rp_ck R_1763 (T11_o t0))) (RX11_putBytes (by omega) R_1763 t0 p3 e_1764 (fun h_1765 R_1765 => ?_))
    show Rn d _ _ 30 [some (.ref q0), some (.int m1), some (.int m2), some (.int m3), some (.int m4), some (.int m5)] [] h_1765 Q
    refine Rn.n hT 2 (pc' := 33) (L' := [some (.ref q0), some (.int m1), some (.int m2), some (.int m3), some (.int m4), some (.int m5)]) (st' := [.int m4, .ref q0]) rfl ?_
    obtain ⟨s_1767, e_1766, e⟩ := Option.bind_eq_some_iff.mp e
    refine Rn.call hT rfl rfl rfl (Nat.le_of_ble_eq_true rfl) (rcv_v gX11_putBytes (by omega) (rp_ck R_1765 (T11_o t0))) (RX11_putBytes (by omega) R_1765 t0 p4 e_1766 (fun h_1767 R_1767 => ?_))
    show Rn d _ _ 36 [some (.ref q0), some (.int m1), some (.int m2), some (.int m3), some (.int m4), some (.int m5)] [] h_1767 Q
    refine Rn.n hT 2 (pc' := 39) (L' := [some (.ref q0), some (.int m1), some (.int m2), some (.int m3), some (.int m4), some (.int m5)]) (st' := [.int m5, .ref q0]) rfl ?_
    obtain ⟨s_1769, e_1768, e⟩ := Option.bind_eq_some_iff.mp e
    refine Rn.call hT rfl rfl rfl (Nat.le_of_ble_eq_true rfl) (rcv_v gX11_putBytes (by omega) (rp_ck R_1767 (T11_o t0))) (RX11_putBytes (by omega) R_1767 t0 p5 e_1768 (fun h_1769 R_1769 => ?_))
    show Rn d _ _ 42 [some (.ref q0), some (.int m1), some (.int m2), some (.int m3), some (.int m4), some (.int m5)] [] h_1769 Q
    refine Rn.n hT 1 (pc' := 43) (L' := [some (.ref q0), some (.int m1), some (.int m2), some (.int m3), some (.int m4), some (.int m5)]) (st' := [.ref q0]) rfl ?_
    obtain ⟨z_1770, g_1770, p_1770⟩ : ∃ z : Int32, gI h_1769 11 1 q0 = some z ∧ z.toInt = s_1769 q0 1 := rp_gI (k := 1) R_1769 (T11_o t0) rfl
    refine Rn.hp hT rfl rfl (gI_hp g_1770) ?_
    obtain rfl := Option.some.inj e
    exact Rn.ret hT rfl rfl rfl (hq z_1770 h_1769 p_1770 R_1769)
  · rw [if_neg c_1759] at e
    refine Rn.bf hT rfl rfl rfl (decide_eq_false (fun z => c_1759 ((ti_le (ti_add p_1758 L32_20) L32_400).mp z))) ?_
    refine Rn.n hT 1 (pc' := 14) (L' := [some (.ref q0), some (.int m1), some (.int m2), some (.int m3), some (.int m4), some (.int m5)]) (st' := [.int (-1 : Int32)]) rfl ?_
    obtain rfl := Option.some.inj e
    exact Rn.ret hT rfl rfl rfl (hq (-1 : Int32) h L32_m1 hR)
set_option maxRecDepth 10000 in
theorem hX11_end : iv_Tb 138 tX11_end := iv_tb_of (m := mX11_end) rfl
set_option maxRecDepth 10000 in
theorem gX11_end : PG.2 138 = some mX11_end := iv_pi_of (t := tX11_end) rfl (by decide)
def FX11_end_b12 (N : Nat) (s : iv_M)   : Option (Int × iv_M) := (some ((-1), s))
set_option maxRecDepth 10000 in
set_option maxHeartbeats 4000000 in
theorem RX11_end_b12 {d N nc Ls : Nat} {Xs : Nat → Int32} (hd : 0 ≤ d) {h : iv_H} {s : iv_M} (hR : Rep nc Ls Xs h s)   {r : Int × iv_M} {Q : Option Value → iv_H → Prop} (hq : ∀ (z : Int32) (h1 : iv_H), z.toInt = r.1 → Rep nc Ls Xs h1 r.2 → Q (some (.int z)) h1) (e : FX11_end_b12 N s   = some r) : Rn d 138 (some .int) 12 [none, none] [] h Q := by
  have hT := hX11_end
  unfold FX11_end_b12 at e
  refine Rn.n hT 1 (pc' := 13) (L' := [none, none]) (st' := [.int (-1 : Int32)]) rfl ?_
  obtain rfl := Option.some.inj e
  exact Rn.ret hT rfl rfl rfl (hq (-1 : Int32) h L32_m1 hR)
def FX11_end (N : Nat) (s : iv_M) (q0 : Nat) (x1 : Int) : Option (Int × iv_M) := (if x1 < 0 then (FX11_end_b12 N s) else (if x1 ≤ (s q0 1) then ((pt s q0 1 x1).bind fun s_1774 => (some (x1, s_1774))) else (FX11_end_b12 N s)))
set_option maxRecDepth 10000 in
set_option maxHeartbeats 4000000 in
theorem RX11_end {d N nc Ls : Nat} {Xs : Nat → Int32} (hd : 1 ≤ d) {h : iv_H} {s : iv_M} (hR : Rep nc Ls Xs h s) {q0 : Nat} (t0 : T11 nc q0) {m1 : Int32} {x1 : Int} (p1 : m1.toInt = x1) {r : Int × iv_M} {Q : Option Value → iv_H → Prop} (e : FX11_end N s q0 x1 = some r) (hq : ∀ (z : Int32) (h1 : iv_H), z.toInt = r.1 → Rep nc Ls Xs h1 r.2 → Q (some (.int z)) h1) : Cl d 138 [.ref q0, .int m1] h Q := by
  obtain ⟨d, rfl⟩ : ∃ k, d = k + 1 := ⟨d - 1, by omega⟩
  have hd : 0 ≤ d := by omega
  have hT := hX11_end
  unfold FX11_end at e
  refine Cl.into (by decide) gX11_end rfl ?_
  show Rn d 138 (some .int) 0 [some (.ref q0), some (.int m1)] [] h Q
  refine Rn.n hT 1 (pc' := 1) (L' := [some (.ref q0), some (.int m1)]) (st' := [.int m1]) rfl ?_
  by_cases c_1771 : x1 < 0
  · rw [if_pos c_1771] at e
    refine Rn.bt hT rfl rfl rfl (decide_eq_true ((ti_l p1 L32_0).mpr c_1771)) ?_
    exact Rn.weak (ll_n (ll_n ll_e)) (RX11_end_b12 hd hR hq e)
  · rw [if_neg c_1771] at e
    refine Rn.bf hT rfl rfl rfl (decide_eq_false (fun z => c_1771 ((ti_l p1 L32_0).mp z))) ?_
    refine Rn.n hT 2 (pc' := 6) (L' := [some (.ref q0), some (.int m1)]) (st' := [.ref q0, .int m1]) rfl ?_
    obtain ⟨z_1772, g_1772, p_1772⟩ : ∃ z : Int32, gI h 11 1 q0 = some z ∧ z.toInt = s q0 1 := rp_gI (k := 1) hR (T11_o t0) rfl
    refine Rn.hp hT rfl rfl (gI_hp g_1772) ?_
    by_cases c_1773 : x1 ≤ (s q0 1)
    · rw [if_pos c_1773] at e
      refine Rn.bt hT rfl rfl rfl (decide_eq_true ((ti_le p1 p_1772).mpr c_1773)) ?_
      refine Rn.n hT 2 (pc' := 16) (L' := [some (.ref q0), some (.int m1)]) (st' := [.int m1, .ref q0]) rfl ?_
      obtain ⟨s_1774, e_1775, e⟩ := Option.bind_eq_some_iff.mp e
      obtain ⟨h_1774, g_1775, R_1774⟩ := rp_pI (ci := 11) (k := 1) hR (T11_o t0) rfl rfl p1 e_1775
      refine Rn.hp hT rfl rfl (pV_hp rfl g_1775) ?_
      refine Rn.n hT 1 (pc' := 20) (L' := [some (.ref q0), some (.int m1)]) (st' := [.int m1]) rfl ?_
      obtain rfl := Option.some.inj e
      exact Rn.ret hT rfl rfl rfl (hq m1 h_1774 p1 R_1774)
    · rw [if_neg c_1773] at e
      refine Rn.bf hT rfl rfl rfl (decide_eq_false (fun z => c_1773 ((ti_le p1 p_1772).mp z))) ?_
      exact Rn.weak (ll_n (ll_n ll_e)) (RX11_end_b12 hd hR hq e)
