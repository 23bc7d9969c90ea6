-- FLAT MIRRORS, 7 (written by wip/whole/mir2.py)
set_option maxRecDepth 10000 in
theorem hX12_stood : iv_Tb 215 tX12_stood := iv_tb_of (m := mX12_stood) rfl
set_option maxRecDepth 10000 in
theorem gX12_stood : PG.2 215 = some mX12_stood := iv_pi_of (t := tX12_stood) rfl (by decide)
def FX12_stood_l5 (N : Nat) (s : iv_M) (q0 : Nat) (q1 : Nat) (kx : Int → Option (Int)) : Nat → Int → Option (Int)
  | 0, _ => none
  | n + 1, x2 => (if (s q0 28) ≤ x2 then (kx x2) else ((rd s (q0 + 26) 400 x2).bind fun v_2436 => (if v_2436 < 97 then (kx x2) else ((rd s (q0 + 26) 400 x2).bind fun v_2438 => (if 122 < v_2438 then (kx x2) else (FX12_stood_l5 N s q0 q1 kx n (w32 (x2 + 1))))))))
set_option maxRecDepth 10000 in
set_option maxHeartbeats 4000000 in
theorem RX12_stood_l5 {d N nc Ls : Nat} {Xs : Nat → Int32} (hd : 10 ≤ d) {h : iv_H} {s : iv_M} (hR : Rep nc Ls Xs h s) {q0 : Nat} (t0 : T12 nc q0) {q1 : Nat} (t1 : TS q1) {kx : Int → Option (Int)} {r : Int} {Q : Option Value → iv_H → Prop} (hk : ∀ (m2 : Int32) (x2 : Int) (p2 : m2.toInt = x2), kx x2 = some r → Rn d 215 (some .boolean) 41 [some (.ref q0), some (.ref q1), some (.int m2), none, none] [] h Q) (hq : ∀ (z : Int32), z.toInt = r → Q (some (.int z)) h) : ∀ (n : Nat) (m2 : Int32) (x2 : Int) (p2 : m2.toInt = x2), FX12_stood_l5 N s q0 q1 kx n x2 = some r → Rn d 215 (some .boolean) 5 [some (.ref q0), some (.ref q1), some (.int m2), none, none] [] h Q := by
  have hT := hX12_stood
  intro n
  induction n with
  | zero =>
    intro m2 x2 p2 e
    rw [FX12_stood_l5] at e
    cases e
  | succ n ih =>
    intro m2 x2 p2 e
    rw [FX12_stood_l5] at e
    refine Rn.n hT 2 (pc' := 7) (L' := [some (.ref q0), some (.ref q1), some (.int m2), none, none]) (st' := [.ref q0, .int m2]) rfl ?_
    obtain ⟨z_2434, g_2434, p_2434⟩ : ∃ z : Int32, gI h 12 28 q0 = some z ∧ z.toInt = s q0 28 := rp_gI (k := 28) hR (T12_o t0) rfl
    refine Rn.hp hT rfl rfl (gI_hp g_2434) ?_
    by_cases c_2435 : (s q0 28) ≤ x2
    · rw [if_pos c_2435] at e
      refine Rn.bt hT rfl rfl rfl (decide_eq_true ((ti_le p_2434 p2).mpr c_2435)) ?_
      exact Rn.weak (ll_s (ll_s (ll_s (ll_n (ll_n ll_e))))) (hk m2 x2 p2 e)
    · rw [if_neg c_2435] at e
      refine Rn.bf hT rfl rfl rfl (decide_eq_false (fun z => c_2435 ((ti_le p_2434 p2).mp z))) ?_
      refine Rn.n hT 1 (pc' := 14) (L' := [some (.ref q0), some (.ref q1), some (.int m2), none, none]) (st' := [.ref q0]) rfl ?_
      refine Rn.hp hT rfl rfl (gR_hp (rp_gR hR (T12_o t0) rfl)) ?_
      refine Rn.n hT 1 (pc' := 18) (L' := [some (.ref q0), some (.ref q1), some (.int m2), none, none]) (st' := [.int m2, .ref (q0 + 26)]) rfl ?_
      obtain ⟨v_2436, e_2436, e⟩ := Option.bind_eq_some_iff.mp e
      obtain ⟨z_2436, g_2436, p_2436⟩ := rp_aB hR (T12_39 t0) (Or.inl rfl) (T12_39l t0) p2 e_2436
      refine Rn.hp hT rfl rfl (aB_hp g_2436) ?_
      refine Rn.n hT 1 (pc' := 21) (L' := [some (.ref q0), some (.ref q1), some (.int m2), none, none]) (st' := [.int (97 : Int32), .int z_2436]) rfl ?_
      by_cases c_2437 : v_2436 < 97
      · rw [if_pos c_2437] at e
        refine Rn.bt hT rfl rfl rfl (decide_eq_true ((ti_l p_2436 L32_97).mpr c_2437)) ?_
        exact Rn.weak (ll_s (ll_s (ll_s (ll_n (ll_n ll_e))))) (hk m2 x2 p2 e)
      · rw [if_neg c_2437] at e
        refine Rn.bf hT rfl rfl rfl (decide_eq_false (fun z => c_2437 ((ti_l p_2436 L32_97).mp z))) ?_
        refine Rn.n hT 1 (pc' := 25) (L' := [some (.ref q0), some (.ref q1), some (.int m2), none, none]) (st' := [.ref q0]) rfl ?_
        refine Rn.hp hT rfl rfl (gR_hp (rp_gR hR (T12_o t0) rfl)) ?_
        refine Rn.n hT 1 (pc' := 29) (L' := [some (.ref q0), some (.ref q1), some (.int m2), none, none]) (st' := [.int m2, .ref (q0 + 26)]) rfl ?_
        obtain ⟨v_2438, e_2438, e⟩ := Option.bind_eq_some_iff.mp e
        obtain ⟨z_2438, g_2438, p_2438⟩ := rp_aB hR (T12_39 t0) (Or.inl rfl) (T12_39l t0) p2 e_2438
        refine Rn.hp hT rfl rfl (aB_hp g_2438) ?_
        refine Rn.n hT 1 (pc' := 32) (L' := [some (.ref q0), some (.ref q1), some (.int m2), none, none]) (st' := [.int (122 : Int32), .int z_2438]) rfl ?_
        by_cases c_2439 : 122 < v_2438
        · rw [if_pos c_2439] at e
          refine Rn.bt hT rfl rfl rfl (decide_eq_true ((ti_l L32_122 p_2438).mpr c_2439)) ?_
          exact Rn.weak (ll_s (ll_s (ll_s (ll_n (ll_n ll_e))))) (hk m2 x2 p2 e)
        · rw [if_neg c_2439] at e
          refine Rn.bf hT rfl rfl rfl (decide_eq_false (fun z => c_2439 ((ti_l L32_122 p_2438).mp z))) ?_
          refine Rn.n hT 2 (pc' := 5) (L' := [some (.ref q0), some (.ref q1), some (.int (m2 + (1 : Int32))), none, none]) (st' := []) rfl ?_
          exact Rn.weak (ll_s (ll_s (ll_s (ll_n (ll_n ll_e))))) (ih (m2 + (1 : Int32)) (w32 (x2 + 1)) (ti_add p2 L32_1) e)
def FX12_stood_b102 (N : Nat) (s : iv_M) (q0 : Nat) (q1 : Nat) (x4 : Int) (xs0 : Int) (kb : Int → Int → Option (Int)) (kx : Int → Option (Int)) : Option (Int) := (kb xs0 (w32 (x4 + 1)))
set_option maxRecDepth 10000 in
set_option maxHeartbeats 4000000 in
theorem RX12_stood_b102 {d N nc Ls : Nat} {Xs : Nat → Int32} (hd : 10 ≤ d) {h : iv_H} {s : iv_M} (hR : Rep nc Ls Xs h s) {q0 : Nat} (t0 : T12 nc q0) {q1 : Nat} (t1 : TS q1) {m4 : Int32} {x4 : Int} (p4 : m4.toInt = x4) {ms0 : Int32} {xs0 : Int} (ps0 : ms0.toInt = xs0) {kb : Int → Int → Option (Int)} {kx : Int → Option (Int)} {r : Int} {Q : Option Value → iv_H → Prop} (hb : ∀ (mw3 : Int32) (xw3 : Int) (pw3 : mw3.toInt = xw3) (mw4 : Int32) (xw4 : Int) (pw4 : mw4.toInt = xw4), kb xw3 xw4 = some r → Rn d 215 (some .boolean) 63 [some (.ref q0), some (.ref q1), none, some (.int mw3), some (.int mw4)] [] h Q) (hk : ∀ (mw3 : Int32) (xw3 : Int) (pw3 : mw3.toInt = xw3), kx xw3 = some r → Rn d 215 (some .boolean) 109 [none, none, none, some (.int mw3), none] [] h Q) (hq : ∀ (z : Int32), z.toInt = r → Q (some (.int z)) h) (e : FX12_stood_b102 N s q0 q1 x4 xs0 kb kx = some r) : Rn d 215 (some .boolean) 102 [some (.ref q0), some (.ref q1), none, none, some (.int m4)] [.int ms0] h Q := by
  have hT := hX12_stood
  unfold FX12_stood_b102 at e
  refine Rn.n hT 3 (pc' := 63) (L' := [some (.ref q0), some (.ref q1), none, some (.int ms0), some (.int (m4 + (1 : Int32)))]) (st' := []) rfl ?_
  exact Rn.weak (ll_s (ll_s (ll_n (ll_s (ll_s ll_e))))) (hb ms0 xs0 ps0 (m4 + (1 : Int32)) (w32 (x4 + 1)) (ti_add p4 L32_1) e)
def FX12_stood_l63 (N : Nat) (s : iv_M) (q0 : Nat) (q1 : Nat) (kx : Int → Option (Int)) : Nat → Int → Int → Option (Int)
  | 0, _, _ => none
  | n + 1, x3, x4 => (if (tL q1) ≤ x4 then (kx x3) else (if x3 = 0 then (kx x3) else ((rd s (q0 + 26) 400 (w32 ((s q0 29) + x4))).bind fun v_2448 => ((tA q1 x4).bind fun v_2449 => (if v_2448 = v_2449 then (FX12_stood_b102 N s q0 q1 x4 1 (FX12_stood_l63 N s q0 q1 kx n) kx) else (FX12_stood_b102 N s q0 q1 x4 0 (FX12_stood_l63 N s q0 q1 kx n) kx))))))
set_option maxRecDepth 10000 in
set_option maxHeartbeats 4000000 in
theorem RX12_stood_l63 {d N nc Ls : Nat} {Xs : Nat → Int32} (hd : 10 ≤ d) {h : iv_H} {s : iv_M} (hR : Rep nc Ls Xs h s) {q0 : Nat} (t0 : T12 nc q0) {q1 : Nat} (t1 : TS q1) {kx : Int → Option (Int)} {r : Int} {Q : Option Value → iv_H → Prop} (hk : ∀ (m3 : Int32) (x3 : Int) (p3 : m3.toInt = x3), kx x3 = some r → Rn d 215 (some .boolean) 109 [none, none, none, some (.int m3), none] [] h Q) (hq : ∀ (z : Int32), z.toInt = r → Q (some (.int z)) h) : ∀ (n : Nat) (m3 : Int32) (x3 : Int) (p3 : m3.toInt = x3) (m4 : Int32) (x4 : Int) (p4 : m4.toInt = x4), FX12_stood_l63 N s q0 q1 kx n x3 x4 = some r → Rn d 215 (some .boolean) 63 [some (.ref q0), some (.ref q1), none, some (.int m3), some (.int m4)] [] h Q := by
  have hT := hX12_stood
  intro n
  induction n with
  | zero =>
    intro m3 x3 p3 m4 x4 p4 e
    rw [FX12_stood_l63] at e
    cases e
  | succ n ih =>
    intro m3 x3 p3 m4 x4 p4 e
    rw [FX12_stood_l63] at e
    refine Rn.n hT 2 (pc' := 66) (L' := [some (.ref q0), some (.ref q1), none, some (.int m3), some (.int m4)]) (st' := [.ref q1, .int m4]) rfl ?_
    obtain ⟨z_2444, g_2444, p_2444⟩ := rp_sL hR t1
    refine Rn.call hT rfl rfl rfl (Nat.le_of_ble_eq_true rfl) rfl (sL_cl (by omega) g_2444 ?_)
    show Rn d _ _ 69 [some (.ref q0), some (.ref q1), none, some (.int m3), some (.int m4)] [.int z_2444, .int m4] h Q
    by_cases c_2445 : (tL q1) ≤ x4
    · rw [if_pos c_2445] at e
      refine Rn.bt hT rfl rfl rfl (decide_eq_true ((ti_le p_2444 p4).mpr c_2445)) ?_
      exact Rn.weak (ll_n (ll_n (ll_n (ll_s (ll_n ll_e))))) (hk m3 x3 p3 e)
    · rw [if_neg c_2445] at e
      refine Rn.bf hT rfl rfl rfl (decide_eq_false (fun z => c_2445 ((ti_le p_2444 p4).mp z))) ?_
      refine Rn.n hT 1 (pc' := 73) (L' := [some (.ref q0), some (.ref q1), none, some (.int m3), some (.int m4)]) (st' := [.int m3]) rfl ?_
      by_cases c_2446 : x3 = 0
      · rw [if_pos c_2446] at e
        refine Rn.bt hT rfl rfl rfl (decide_eq_true ((ti_e p3 L32_0).mpr c_2446)) ?_
        exact Rn.weak (ll_n (ll_n (ll_n (ll_s (ll_n ll_e))))) (hk m3 x3 p3 e)
      · rw [if_neg c_2446] at e
        refine Rn.bf hT rfl rfl rfl (decide_eq_false (fun z => c_2446 ((ti_e p3 L32_0).mp z))) ?_
        refine Rn.n hT 1 (pc' := 77) (L' := [some (.ref q0), some (.ref q1), none, some (.int m3), some (.int m4)]) (st' := [.ref q0]) rfl ?_
        refine Rn.hp hT rfl rfl (gR_hp (rp_gR hR (T12_o t0) rfl)) ?_
        refine Rn.n hT 1 (pc' := 81) (L' := [some (.ref q0), some (.ref q1), none, some (.int m3), some (.int m4)]) (st' := [.ref q0, .ref (q0 + 26)]) rfl ?_
        obtain ⟨z_2447, g_2447, p_2447⟩ : ∃ z : Int32, gI h 12 29 q0 = some z ∧ z.toInt = s q0 29 := rp_gI (k := 29) hR (T12_o t0) rfl
        refine Rn.hp hT rfl rfl (gI_hp g_2447) ?_
        refine Rn.n hT 2 (pc' := 87) (L' := [some (.ref q0), some (.ref q1), none, some (.int m3), some (.int m4)]) (st' := [.int (z_2447 + m4), .ref (q0 + 26)]) rfl ?_
        obtain ⟨v_2448, e_2448, e⟩ := Option.bind_eq_some_iff.mp e
        obtain ⟨z_2448, g_2448, p_2448⟩ := rp_aB hR (T12_39 t0) (Or.inl rfl) (T12_39l t0) (ti_add p_2447 p4) e_2448
        refine Rn.hp hT rfl rfl (aB_hp g_2448) ?_
        refine Rn.n hT 2 (pc' := 91) (L' := [some (.ref q0), some (.ref q1), none, some (.int m3), some (.int m4)]) (st' := [.int m4, .ref q1, .int z_2448]) rfl ?_
        obtain ⟨v_2449, e_2449, e⟩ := Option.bind_eq_some_iff.mp e
        obtain ⟨z_2449, g_2449, p_2449⟩ := rp_sA hR t1 p4 e_2449
        refine Rn.call hT rfl rfl rfl (Nat.le_of_ble_eq_true rfl) rfl (sA_cl (by omega) g_2449 ?_)
        show Rn d _ _ 94 [some (.ref q0), some (.ref q1), none, some (.int m3), some (.int m4)] [.int z_2449, .int z_2448] h Q
        by_cases c_2450 : v_2448 = v_2449
        · rw [if_pos c_2450] at e
          refine Rn.bf hT rfl rfl rfl (decide_eq_false (fun z => z ((ti_e p_2448 p_2449).mpr c_2450))) ?_
          refine Rn.n hT 2 (pc' := 102) (L' := [some (.ref q0), some (.ref q1), none, some (.int m3), some (.int m4)]) (st' := [.int (1 : Int32)]) rfl ?_
          exact Rn.weak (ll_s (ll_s (ll_n (ll_n (ll_s ll_e))))) (RX12_stood_b102 hd hR t0 t1 p4 L32_1 ih hk hq e)
        · rw [if_neg c_2450] at e
          refine Rn.bt hT rfl rfl rfl (decide_eq_true (fun z => c_2450 ((ti_e p_2448 p_2449).mp z))) ?_
          refine Rn.n hT 1 (pc' := 102) (L' := [some (.ref q0), some (.ref q1), none, some (.int m3), some (.int m4)]) (st' := [.int (0 : Int32)]) rfl ?_
          exact Rn.weak (ll_s (ll_s (ll_n (ll_n (ll_s ll_e))))) (RX12_stood_b102 hd hR t0 t1 p4 L32_0 ih hk hq e)
def FX12_stood_b109 (N : Nat) (s : iv_M) (x3 : Int)  : Option (Int) := (if x3 = 0 ∨ x3 = 1 then some x3 else none)
set_option maxRecDepth 10000 in
set_option maxHeartbeats 4000000 in
theorem RX12_stood_b109 {d N nc Ls : Nat} {Xs : Nat → Int32} (hd : 10 ≤ d) {h : iv_H} {s : iv_M} (hR : Rep nc Ls Xs h s) {m3 : Int32} {x3 : Int} (p3 : m3.toInt = x3)  {r : Int} {Q : Option Value → iv_H → Prop} (hq : ∀ (z : Int32), z.toInt = r → Q (some (.int z)) h) (e : FX12_stood_b109 N s x3  = some r) : Rn d 215 (some .boolean) 109 [none, none, none, some (.int m3), none] [] h Q := by
  have hT := hX12_stood
  unfold FX12_stood_b109 at e
  refine Rn.n hT 1 (pc' := 110) (L' := [none, none, none, some (.int m3), none]) (st' := [.int m3]) rfl ?_
  by_cases c_2451 : x3 = 0 ∨ x3 = 1
  · rw [if_pos c_2451] at e
    obtain rfl := Option.some.inj e
    exact Rn.ret hT rfl rfl (if_pos (ti_b p3 c_2451)) (hq m3 p3)
  · rw [if_neg c_2451] at e
    cases e
def FX12_stood_b59 (N : Nat) (s : iv_M) (q0 : Nat) (q1 : Nat) (xs0 : Int) : Option (Int) := (FX12_stood_l63 N s q0 q1 (fun (x2443_3 : Int) => (FX12_stood_b109 N s x2443_3)) N xs0 0)
set_option maxRecDepth 10000 in
set_option maxHeartbeats 4000000 in
theorem RX12_stood_b59 {d N nc Ls : Nat} {Xs : Nat → Int32} (hd : 10 ≤ d) {h : iv_H} {s : iv_M} (hR : Rep nc Ls Xs h s) {q0 : Nat} (t0 : T12 nc q0) {q1 : Nat} (t1 : TS q1) {ms0 : Int32} {xs0 : Int} (ps0 : ms0.toInt = xs0) {r : Int} {Q : Option Value → iv_H → Prop} (hq : ∀ (z : Int32), z.toInt = r → Q (some (.int z)) h) (e : FX12_stood_b59 N s q0 q1 xs0 = some r) : Rn d 215 (some .boolean) 59 [some (.ref q0), some (.ref q1), none, none, none] [.int ms0] h Q := by
  have hT := hX12_stood
  unfold FX12_stood_b59 at e
  refine Rn.n hT 3 (pc' := 63) (L' := [some (.ref q0), some (.ref q1), none, some (.int ms0), some (.int (0 : Int32))]) (st' := []) rfl ?_
  refine Rn.weak (ll_s (ll_s (ll_n (ll_s (ll_s ll_e))))) (RX12_stood_l63 hd hR t0 t1 (fun m2443_3 x2443_3 p2443_3 e => ?_) hq N ms0 xs0 ps0 (0 : Int32) 0 L32_0 e)
  try dsimp only at e
  exact Rn.weak (ll_n (ll_n (ll_n (ll_s (ll_n ll_e))))) (RX12_stood_b109 hd hR p2443_3 hq e)
def FX12_stood_b41 (N : Nat) (s : iv_M) (q0 : Nat) (q1 : Nat) (x2 : Int)  : Option (Int) := (if (w32 (x2 - (s q0 29))) = (tL q1) then (FX12_stood_b59 N s q0 q1 1) else (FX12_stood_b59 N s q0 q1 0))
set_option maxRecDepth 10000 in
set_option maxHeartbeats 4000000 in
theorem RX12_stood_b41 {d N nc Ls : Nat} {Xs : Nat → Int32} (hd : 10 ≤ d) {h : iv_H} {s : iv_M} (hR : Rep nc Ls Xs h s) {q0 : Nat} (t0 : T12 nc q0) {q1 : Nat} (t1 : TS q1) {m2 : Int32} {x2 : Int} (p2 : m2.toInt = x2)  {r : Int} {Q : Option Value → iv_H → Prop} (hq : ∀ (z : Int32), z.toInt = r → Q (some (.int z)) h) (e : FX12_stood_b41 N s q0 q1 x2  = some r) : Rn d 215 (some .boolean) 41 [some (.ref q0), some (.ref q1), some (.int m2), none, none] [] h Q := by
  have hT := hX12_stood
  unfold FX12_stood_b41 at e
  refine Rn.n hT 2 (pc' := 43) (L' := [some (.ref q0), some (.ref q1), some (.int m2), none, none]) (st' := [.ref q0, .int m2]) rfl ?_
  obtain ⟨z_2440, g_2440, p_2440⟩ : ∃ z : Int32, gI h 12 29 q0 = some z ∧ z.toInt = s q0 29 := rp_gI (k := 29) hR (T12_o t0) rfl
  refine Rn.hp hT rfl rfl (gI_hp g_2440) ?_
  refine Rn.n hT 2 (pc' := 48) (L' := [some (.ref q0), some (.ref q1), some (.int m2), none, none]) (st' := [.ref q1, .int (m2 - z_2440)]) rfl ?_
  obtain ⟨z_2441, g_2441, p_2441⟩ := rp_sL hR t1
  refine Rn.call hT rfl rfl rfl (Nat.le_of_ble_eq_true rfl) rfl (sL_cl (by omega) g_2441 ?_)
  show Rn d _ _ 51 [some (.ref q0), some (.ref q1), some (.int m2), none, none] [.int z_2441, .int (m2 - z_2440)] h Q
  by_cases c_2442 : (w32 (x2 - (s q0 29))) = (tL q1)
  · rw [if_pos c_2442] at e
    refine Rn.bf hT rfl rfl rfl (decide_eq_false (fun z => z ((ti_e (ti_sub p2 p_2440) p_2441).mpr c_2442))) ?_
    refine Rn.n hT 2 (pc' := 59) (L' := [some (.ref q0), some (.ref q1), some (.int m2), none, none]) (st' := [.int (1 : Int32)]) rfl ?_
    exact Rn.weak (ll_s (ll_s (ll_n (ll_n (ll_n ll_e))))) (RX12_stood_b59 hd hR t0 t1 L32_1 hq e)
  · rw [if_neg c_2442] at e
    refine Rn.bt hT rfl rfl rfl (decide_eq_true (fun z => c_2442 ((ti_e (ti_sub p2 p_2440) p_2441).mp z))) ?_
    refine Rn.n hT 1 (pc' := 59) (L' := [some (.ref q0), some (.ref q1), some (.int m2), none, none]) (st' := [.int (0 : Int32)]) rfl ?_
    exact Rn.weak (ll_s (ll_s (ll_n (ll_n (ll_n ll_e))))) (RX12_stood_b59 hd hR t0 t1 L32_0 hq e)
def FX12_stood (N : Nat) (s : iv_M) (q0 : Nat) (q1 : Nat) : Option (Int) := (FX12_stood_l5 N s q0 q1 (fun (x2433_2 : Int) => (FX12_stood_b41 N s q0 q1 x2433_2)) N (s q0 29))
set_option maxRecDepth 10000 in
set_option maxHeartbeats 4000000 in
theorem RX12_stood {d N nc Ls : Nat} {Xs : Nat → Int32} (hd : 11 ≤ d) {h : iv_H} {s : iv_M} (hR : Rep nc Ls Xs h s) {q0 : Nat} (t0 : T12 nc q0) {q1 : Nat} (t1 : TS q1) {r : Int} {Q : Option Value → iv_H → Prop} (e : FX12_stood N s q0 q1 = some r) (hq : ∀ (z : Int32), z.toInt = r → Q (some (.int z)) h) : Cl d 215 [.ref q0, .ref q1] h Q := by
  obtain ⟨d, rfl⟩ : ∃ k, d = k + 1 := ⟨d - 1, by omega⟩
  have hd : 10 ≤ d := by omega
  have hT := hX12_stood
  unfold FX12_stood at e
  refine Cl.into (by decide) gX12_stood rfl ?_
  show Rn d 215 (some .boolean) 0 [some (.ref q0), some (.ref q1), none, none, none] [] h Q
  refine Rn.n hT 1 (pc' := 1) (L' := [some (.ref q0), some (.ref q1), none, none, none]) (st' := [.ref q0]) rfl ?_
  obtain ⟨z_2432, g_2432, p_2432⟩ : ∃ z : Int32, gI h 12 29 q0 = some z ∧ z.toInt = s q0 29 := rp_gI (k := 29) hR (T12_o t0) rfl
  refine Rn.hp hT rfl rfl (gI_hp g_2432) ?_
  refine Rn.n hT 1 (pc' := 5) (L' := [some (.ref q0), some (.ref q1), some (.int z_2432), none, none]) (st' := []) rfl ?_
  refine Rn.weak (ll_s (ll_s (ll_s (ll_n (ll_n ll_e))))) (RX12_stood_l5 hd hR t0 t1 (fun m2433_2 x2433_2 p2433_2 e => ?_) hq N z_2432 (s q0 29) p_2432 e)
  try dsimp only at e
  exact Rn.weak (ll_s (ll_s (ll_s (ll_n (ll_n ll_e))))) (RX12_stood_b41 hd hR t0 t1 p2433_2 hq e)
set_option maxRecDepth 10000 in
theorem hX12_entry : iv_Tb 216 tX12_entry := iv_tb_of (m := mX12_entry) rfl
set_option maxRecDepth 10000 in
theorem gX12_entry : PG.2 216 = some mX12_entry := iv_pi_of (t := tX12_entry) rfl (by decide)
def FX12_entry_b55 (N : Nat) (s : iv_M)   : Option (iv_M) := some s
set_option maxRecDepth 10000 in
set_option maxHeartbeats 4000000 in
theorem RX12_entry_b55 {d N nc Ls : Nat} {Xs : Nat → Int32} (hd : 0 ≤ d) {h : iv_H} {s : iv_M} (hR : Rep nc Ls Xs h s)   {r : iv_M} {Q : Option Value → iv_H → Prop} (hq : ∀ h1, Rep nc Ls Xs h1 r → Q none h1) (e : FX12_entry_b55 N s   = some r) : Rn d 216 none 55 [none, none, none] [] h Q := by
  have hT := hX12_entry
  unfold FX12_entry_b55 at e
  obtain rfl := Option.some.inj e
  exact Rn.ret hT rfl rfl rfl (hq h hR)
def FX12_entry (N : Nat) (s : iv_M) (q0 : Nat) (x1 : Int) (x2 : Int) : Option (iv_M) := (if (s q0 30) = 0 then ((wr s (q0 + 27) 1800 (w32 ((w32 (300 * (s q0 31))) + (s q0 33))) x1).bind fun s_2456 => ((wr s_2456 (q0 + 28) 1800 (w32 ((w32 (300 * (s_2456 q0 31))) + (s_2456 q0 33))) x2).bind fun s_2460 => ((pt s_2460 q0 33 (w32 ((s_2460 q0 33) + 1))).bind fun s_2463 => (FX12_entry_b55 N s_2463)))) else (FX12_entry_b55 N s))
set_option maxRecDepth 10000 in
set_option maxHeartbeats 4000000 in
theorem RX12_entry {d N nc Ls : Nat} {Xs : Nat → Int32} (hd : 1 ≤ d) {h : iv_H} {s : iv_M} (hR : Rep nc Ls Xs h s) {q0 : Nat} (t0 : T12 nc q0) {m1 : Int32} {x1 : Int} (p1 : m1.toInt = x1) {m2 : Int32} {x2 : Int} (p2 : m2.toInt = x2) {r : iv_M} {Q : Option Value → iv_H → Prop} (e : FX12_entry N s q0 x1 x2 = some r) (hq : ∀ h1, Rep nc Ls Xs h1 r → Q none h1) : Cl d 216 [.ref q0, .int m1, .int m2] h Q := by
  obtain ⟨d, rfl⟩ : ∃ k, d = k + 1 := ⟨d - 1, by omega⟩
  have hd : 0 ≤ d := by omega
  have hT := hX12_entry
  unfold FX12_entry at e
  refine Cl.into (by decide) gX12_entry rfl ?_
  show Rn d 216 none 0 [some (.ref q0), some (.int m1), some (.int m2)] [] h Q
  refine Rn.n hT 1 (pc' := 1) (L' := [some (.ref q0), some (.int m1), some (.int m2)]) (st' := [.ref q0]) rfl ?_
  obtain ⟨z_2452, g_2452, p_2452⟩ : ∃ z : Int32, gI h 12 30 q0 = some z ∧ z.toInt = s q0 30 := rp_gI (k := 30) hR (T12_o t0) rfl
  refine Rn.hp hT rfl rfl (gI_hp g_2452) ?_
  by_cases c_2453 : (s q0 30) = 0
  · rw [if_pos c_2453] at e
    refine Rn.bf hT rfl rfl rfl (decide_eq_false (fun z => z ((ti_e p_2452 L32_0).mpr c_2453))) ?_
    refine Rn.n hT 1 (pc' := 8) (L' := [some (.ref q0), some (.int m1), some (.int m2)]) (st' := [.ref q0]) rfl ?_
    refine Rn.hp hT rfl rfl (gR_hp (rp_gR hR (T12_o t0) rfl)) ?_
    refine Rn.n hT 2 (pc' := 15) (L' := [some (.ref q0), some (.int m1), some (.int m2)]) (st' := [.ref q0, .int (300 : Int32), .ref (q0 + 27)]) rfl ?_
    obtain ⟨z_2454, g_2454, p_2454⟩ : ∃ z : Int32, gI h 12 31 q0 = some z ∧ z.toInt = s q0 31 := rp_gI (k := 31) hR (T12_o t0) rfl
    refine Rn.hp hT rfl rfl (gI_hp g_2454) ?_
    refine Rn.n hT 2 (pc' := 20) (L' := [some (.ref q0), some (.int m1), some (.int m2)]) (st' := [.ref q0, .int ((300 : Int32) * z_2454), .ref (q0 + 27)]) rfl ?_
    obtain ⟨z_2455, g_2455, p_2455⟩ : ∃ z : Int32, gI h 12 33 q0 = some z ∧ z.toInt = s q0 33 := rp_gI (k := 33) hR (T12_o t0) rfl
    refine Rn.hp hT rfl rfl (gI_hp g_2455) ?_
    refine Rn.n hT 2 (pc' := 25) (L' := [some (.ref q0), some (.int m1), some (.int m2)]) (st' := [.int m1, .int (((300 : Int32) * z_2454) + z_2455), .ref (q0 + 27)]) rfl ?_
    obtain ⟨s_2456, e_2457, e⟩ := Option.bind_eq_some_iff.mp e
    obtain ⟨h_2456, g_2457, R_2456⟩ := rp_wI hR (T12_40 t0) (T12_40l t0) (ti_add (ti_mul L32_300 p_2454) p_2455) p1 e_2457
    refine Rn.hp hT rfl rfl (wI_hp g_2457) ?_
    refine Rn.n hT 1 (pc' := 27) (L' := [some (.ref q0), some (.int m1), some (.int m2)]) (st' := [.ref q0]) rfl ?_
    refine Rn.hp hT rfl rfl (gR_hp (rp_gR R_2456 (T12_o t0) rfl)) ?_
    refine Rn.n hT 2 (pc' := 34) (L' := [some (.ref q0), some (.int m1), some (.int m2)]) (st' := [.ref q0, .int (300 : Int32), .ref (q0 + 28)]) rfl ?_
    obtain ⟨z_2458, g_2458, p_2458⟩ : ∃ z : Int32, gI h_2456 12 31 q0 = some z ∧ z.toInt = s_2456 q0 31 := rp_gI (k := 31) R_2456 (T12_o t0) rfl
    refine Rn.hp hT rfl rfl (gI_hp g_2458) ?_
    refine Rn.n hT 2 (pc' := 39) (L' := [some (.ref q0), some (.int m1), some (.int m2)]) (st' := [.ref q0, .int ((300 : Int32) * z_2458), .ref (q0 + 28)]) rfl ?_
    obtain ⟨z_2459, g_2459, p_2459⟩ : ∃ z : Int32, gI h_2456 12 33 q0 = some z ∧ z.toInt = s_2456 q0 33 := rp_gI (k := 33) R_2456 (T12_o t0) rfl
    refine Rn.hp hT rfl rfl (gI_hp g_2459) ?_
    refine Rn.n hT 2 (pc' := 44) (L' := [some (.ref q0), some (.int m1), some (.int m2)]) (st' := [.int m2, .int (((300 : Int32) * z_2458) + z_2459), .ref (q0 + 28)]) rfl ?_
    obtain ⟨s_2460, e_2461, e⟩ := Option.bind_eq_some_iff.mp e
    obtain ⟨h_2460, g_2461, R_2460⟩ := rp_wI R_2456 (T12_41 t0) (T12_41l t0) (ti_add (ti_mul L32_300 p_2458) p_2459) p2 e_2461
    refine Rn.hp hT rfl rfl (wI_hp g_2461) ?_
    refine Rn.n hT 2 (pc' := 47) (L' := [some (.ref q0), some (.int m1), some (.int m2)]) (st' := [.ref q0, .ref q0]) rfl ?_
    obtain ⟨z_2462, g_2462, p_2462⟩ : ∃ z : Int32, gI h_2460 12 33 q0 = some z ∧ z.toInt = s_2460 q0 33 := rp_gI (k := 33) R_2460 (T12_o t0) rfl
    refine Rn.hp hT rfl rfl (gI_hp g_2462) ?_
    refine Rn.n hT 2 (pc' := 52) (L' := [some (.ref q0), some (.int m1), some (.int m2)]) (st' := [.int (z_2462 + (1 : Int32)), .ref q0]) rfl ?_
    obtain ⟨s_2463, e_2464, e⟩ := Option.bind_eq_some_iff.mp e
    obtain ⟨h_2463, g_2464, R_2463⟩ := rp_pI (ci := 12) (k := 33) R_2460 (T12_o t0) rfl rfl (ti_add p_2462 L32_1) e_2464
    refine Rn.hp hT rfl rfl (pV_hp rfl g_2464) ?_
    exact Rn.weak (ll_n (ll_n (ll_n ll_e))) (RX12_entry_b55 hd R_2463 hq e)
  · rw [if_neg c_2453] at e
    refine Rn.bt hT rfl rfl rfl (decide_eq_true (fun z => c_2453 ((ti_e p_2452 L32_0).mp z))) ?_
    exact Rn.weak (ll_n (ll_n (ll_n ll_e))) (RX12_entry_b55 hd hR hq e)
set_option maxRecDepth 10000 in
theorem hX12_isCounted : iv_Tb 217 tX12_isCounted := iv_tb_of (m := mX12_isCounted) rfl
set_option maxRecDepth 10000 in
theorem gX12_isCounted : PG.2 217 = some mX12_isCounted := iv_pi_of (t := tX12_isCounted) rfl (by decide)
def FX12_isCounted_b15 (N : Nat) (s : iv_M) (q0 : Nat)  : Option (iv_M) := ((pt s q0 35 (w32 ((s q0 35) + 1))).bind fun s_2470 => some s_2470)
set_option maxRecDepth 10000 in
set_option maxHeartbeats 4000000 in
theorem RX12_isCounted_b15 {d N nc Ls : Nat} {Xs : Nat → Int32} (hd : 1 ≤ d) {h : iv_H} {s : iv_M} (hR : Rep nc Ls Xs h s) {q0 : Nat} (t0 : T12 nc q0)  {r : iv_M} {Q : Option Value → iv_H → Prop} (hq : ∀ h1, Rep nc Ls Xs h1 r → Q none h1) (e : FX12_isCounted_b15 N s q0  = some r) : Rn d 217 none 15 [some (.ref q0), none] [] h Q := by
  have hT := hX12_isCounted
  unfold FX12_isCounted_b15 at e
  refine Rn.n hT 2 (pc' := 17) (L' := [some (.ref q0), none]) (st' := [.ref q0, .ref q0]) rfl ?_
  obtain ⟨z_2469, g_2469, p_2469⟩ : ∃ z : Int32, gI h 12 35 q0 = some z ∧ z.toInt = s q0 35 := rp_gI (k := 35) hR (T12_o t0) rfl
  refine Rn.hp hT rfl rfl (gI_hp g_2469) ?_
  refine Rn.n hT 2 (pc' := 22) (L' := [some (.ref q0), none]) (st' := [.int (z_2469 + (1 : Int32)), .ref q0]) rfl ?_
  obtain ⟨s_2470, e_2471, e⟩ := Option.bind_eq_some_iff.mp e
  obtain ⟨h_2470, g_2471, R_2470⟩ := rp_pI (ci := 12) (k := 35) hR (T12_o t0) rfl rfl (ti_add p_2469 L32_1) e_2471
  refine Rn.hp hT rfl rfl (pV_hp rfl g_2471) ?_
  obtain rfl := Option.some.inj e
  exact Rn.ret hT rfl rfl rfl (hq h_2470 R_2470)
def FX12_isCounted (N : Nat) (s : iv_M) (q0 : Nat) (x1 : Int) : Option (iv_M) := (if (s q0 35) = 60 then ((FX12_fails N s q0 3 x1).bind fun s_2468 => (FX12_isCounted_b15 N s_2468 q0)) else (FX12_isCounted_b15 N s q0))
set_option maxRecDepth 10000 in
set_option maxHeartbeats 4000000 in
theorem RX12_isCounted {d N nc Ls : Nat} {Xs : Nat → Int32} (hd : 2 ≤ d) {h : iv_H} {s : iv_M} (hR : Rep nc Ls Xs h s) {q0 : Nat} (t0 : T12 nc q0) {m1 : Int32} {x1 : Int} (p1 : m1.toInt = x1) {r : iv_M} {Q : Option Value → iv_H → Prop} (e : FX12_isCounted N s q0 x1 = some r) (hq : ∀ h1, Rep nc Ls Xs h1 r → Q none h1) : Cl d 217 [.ref q0, .int m1] h Q := by
  obtain ⟨d, rfl⟩ : ∃ k, d = k + 1 := ⟨d - 1, by omega⟩
  have hd : 1 ≤ d := by omega
  have hT := hX12_isCounted
  unfold FX12_isCounted at e
  refine Cl.into (by decide) gX12_isCounted rfl ?_
  show Rn d 217 none 0 [some (.ref q0), some (.int m1)] [] h Q
  refine Rn.n hT 1 (pc' := 1) (L' := [some (.ref q0), some (.int m1)]) (st' := [.ref q0]) rfl ?_
  obtain ⟨z_2465, g_2465, p_2465⟩ : ∃ z : Int32, gI h 12 35 q0 = some z ∧ z.toInt = s q0 35 := rp_gI (k := 35) hR (T12_o t0) rfl
  refine Rn.hp hT rfl rfl (gI_hp g_2465) ?_
  refine Rn.n hT 1 (pc' := 6) (L' := [some (.ref q0), some (.int m1)]) (st' := [.int (60 : Int32), .int z_2465]) rfl ?_
  by_cases c_2466 : (s q0 35) = 60
  · rw [if_pos c_2466] at e
    refine Rn.bf hT rfl rfl rfl (decide_eq_false (fun z => z ((ti_e p_2465 L32_60).mpr c_2466))) ?_
    refine Rn.n hT 3 (pc' := 12) (L' := [some (.ref q0), some (.int m1)]) (st' := [.int m1, .int (3 : Int32), .ref q0]) rfl ?_
    obtain ⟨s_2468, e_2467, e⟩ := Option.bind_eq_some_iff.mp e
    refine Rn.call hT rfl rfl rfl (Nat.le_of_ble_eq_true rfl) (rcv_v gX12_fails (by omega) (rp_ck hR (T12_o t0))) (RX12_fails (by omega) hR t0 L32_3 p1 e_2467 (fun h_2468 R_2468 => ?_))
    show Rn d _ _ 15 [some (.ref q0), some (.int m1)] [] h_2468 Q
    exact Rn.weak (ll_s (ll_n ll_e)) (RX12_isCounted_b15 hd R_2468 t0 hq e)
  · rw [if_neg c_2466] at e
    refine Rn.bt hT rfl rfl rfl (decide_eq_true (fun z => c_2466 ((ti_e p_2465 L32_60).mp z))) ?_
    exact Rn.weak (ll_s (ll_n ll_e)) (RX12_isCounted_b15 hd hR t0 hq e)
set_option maxRecDepth 10000 in
theorem hX12_digits : iv_Tb 218 tX12_digits := iv_tb_of (m := mX12_digits) rfl
set_option maxRecDepth 10000 in
theorem gX12_digits : PG.2 218 = some mX12_digits := iv_pi_of (t := tX12_digits) rfl (by decide)
def FX12_digits_b58 (N : Nat) (s : iv_M) (q0 : Nat) (x1 : Int) (x2 : Int) (xs0 : Int) (kb : iv_M → Int → Option (Int × iv_M)) (kx : iv_M → Int → Option (Int × iv_M)) : Option (Int × iv_M) := ((pt s q0 29 (w32 ((s q0 29) + 1))).bind fun s_2489 => (kb s_2489 xs0))
set_option maxRecDepth 10000 in
set_option maxHeartbeats 4000000 in
theorem RX12_digits_b58 {d N nc Ls : Nat} {Xs : Nat → Int32} (hd : 2 ≤ d) {h : iv_H} {s : iv_M} (hR : Rep nc Ls Xs h s) {q0 : Nat} (t0 : T12 nc q0) {m1 : Int32} {x1 : Int} (p1 : m1.toInt = x1) {m2 : Int32} {x2 : Int} (p2 : m2.toInt = x2) {ms0 : Int32} {xs0 : Int} (ps0 : ms0.toInt = xs0) {kb : iv_M → Int → Option (Int × iv_M)} {kx : iv_M → Int → Option (Int × iv_M)} {r : Int × iv_M} {Q : Option Value → iv_H → Prop} (hb : ∀ (h : iv_H) (s : iv_M) (hR : Rep nc Ls Xs h s) (mw3 : Int32) (xw3 : Int) (pw3 : mw3.toInt = xw3), kb s xw3 = some r → Rn d 218 (some .int) 25 [some (.ref q0), some (.int m1), some (.int m2), some (.int mw3)] [] h Q) (hk : ∀ (h : iv_H) (s : iv_M) (hR : Rep nc Ls Xs h s) (mw3 : Int32) (xw3 : Int) (pw3 : mw3.toInt = xw3), kx s xw3 = some r → Rn d 218 (some .int) 72 [some (.ref q0), some (.int m1), some (.int m2), some (.int mw3)] [] h Q) (hq : ∀ (z : Int32) (h1 : iv_H), z.toInt = r.1 → Rep nc Ls Xs h1 r.2 → Q (some (.int z)) h1) (e : FX12_digits_b58 N s q0 x1 x2 xs0 kb kx = some r) : Rn d 218 (some .int) 58 [some (.ref q0), some (.int m1), some (.int m2), none] [.int ms0] h Q := by
  have hT := hX12_digits
  unfold FX12_digits_b58 at e
  refine Rn.n hT 3 (pc' := 61) (L' := [some (.ref q0), some (.int m1), some (.int m2), some (.int ms0)]) (st' := [.ref q0, .ref q0]) rfl ?_
  obtain ⟨z_2488, g_2488, p_2488⟩ : ∃ z : Int32, gI h 12 29 q0 = some z ∧ z.toInt = s q0 29 := rp_gI (k := 29) hR (T12_o t0) rfl
  refine Rn.hp hT rfl rfl (gI_hp g_2488) ?_
  refine Rn.n hT 2 (pc' := 66) (L' := [some (.ref q0), some (.int m1), some (.int m2), some (.int ms0)]) (st' := [.int (z_2488 + (1 : Int32)), .ref q0]) rfl ?_
  obtain ⟨s_2489, e_2490, e⟩ := Option.bind_eq_some_iff.mp e
  obtain ⟨h_2489, g_2490, R_2489⟩ := rp_pI (ci := 12) (k := 29) hR (T12_o t0) rfl rfl (ti_add p_2488 L32_1) e_2490
  refine Rn.hp hT rfl rfl (pV_hp rfl g_2490) ?_
  refine Rn.n hT 1 (pc' := 25) (L' := [some (.ref q0), some (.int m1), some (.int m2), some (.int ms0)]) (st' := []) rfl ?_
  exact Rn.weak (ll_s (ll_s (ll_s (ll_s ll_e)))) (hb h_2489 s_2489 R_2489 ms0 xs0 ps0 e)
def FX12_digits_l25 (N : Nat) (q0 : Nat) (x1 : Int) (x2 : Int) (kx : iv_M → Int → Option (Int × iv_M)) : Nat → iv_M → Int → Option (Int × iv_M)
  | 0, _, _ => none
  | n + 1, s, x3 => ((FX12_isDigit N s q0).bind fun v_2483 => (if v_2483 = 0 then (kx s x3) else (if 5 ≤ (w32 ((s q0 29) - x2)) then (FX12_digits_b58 N s q0 x1 x2 x3 (FX12_digits_l25 N q0 x1 x2 kx n) kx) else ((FX12_sign N s q0).bind fun v_2487 => (FX12_digits_b58 N s q0 x1 x2 (w32 ((w32 ((w32 (10 * x3)) + v_2487)) - 48)) (FX12_digits_l25 N q0 x1 x2 kx n) kx)))))
set_option maxRecDepth 10000 in
set_option maxHeartbeats 4000000 in
theorem RX12_digits_l25 {d N nc Ls : Nat} {Xs : Nat → Int32} (hd : 2 ≤ d) {q0 : Nat} (t0 : T12 nc q0) {m1 : Int32} {x1 : Int} (p1 : m1.toInt = x1) {m2 : Int32} {x2 : Int} (p2 : m2.toInt = x2) {kx : iv_M → Int → Option (Int × iv_M)} {r : Int × iv_M} {Q : Option Value → iv_H → Prop} (hk : ∀ (h : iv_H) (s : iv_M) (hR : Rep nc Ls Xs h s) (m3 : Int32) (x3 : Int) (p3 : m3.toInt = x3), kx s x3 = some r → Rn d 218 (some .int) 72 [some (.ref q0), some (.int m1), some (.int m2), some (.int m3)] [] h Q) (hq : ∀ (z : Int32) (h1 : iv_H), z.toInt = r.1 → Rep nc Ls Xs h1 r.2 → Q (some (.int z)) h1) : ∀ (n : Nat) (h : iv_H) (s : iv_M) (hR : Rep nc Ls Xs h s) (m3 : Int32) (x3 : Int) (p3 : m3.toInt = x3), FX12_digits_l25 N q0 x1 x2 kx n s x3 = some r → Rn d 218 (some .int) 25 [some (.ref q0), some (.int m1), some (.int m2), some (.int m3)] [] h Q := by
  have hT := hX12_digits
  intro n
  induction n with
  | zero =>
    intro h s hR m3 x3 p3 e
    rw [FX12_digits_l25] at e
    cases e
  | succ n ih =>
    intro h s hR m3 x3 p3 e
    rw [FX12_digits_l25] at e
    refine Rn.n hT 1 (pc' := 26) (L' := [some (.ref q0), some (.int m1), some (.int m2), some (.int m3)]) (st' := [.ref q0]) rfl ?_
    obtain ⟨v_2483, e_2483, e⟩ := Option.bind_eq_some_iff.mp e
    refine Rn.call hT rfl rfl rfl (Nat.le_of_ble_eq_true rfl) (rcv_v gX12_isDigit (by omega) (rp_ck hR (T12_o t0))) (RX12_isDigit (by omega) hR t0 e_2483 (fun z_2483 p_2483 => ?_))
    show Rn d _ _ 29 [some (.ref q0), some (.int m1), some (.int m2), some (.int m3)] [.int z_2483] h Q
    by_cases c_2484 : v_2483 = 0
    · rw [if_pos c_2484] at e
      refine Rn.bt hT rfl rfl rfl (decide_eq_true ((ti_e p_2483 L32_0).mpr c_2484)) ?_
      exact Rn.weak (ll_s (ll_s (ll_s (ll_s ll_e)))) (hk h s hR m3 x3 p3 e)
    · rw [if_neg c_2484] at e
      refine Rn.bf hT rfl rfl rfl (decide_eq_false (fun z => c_2484 ((ti_e p_2483 L32_0).mp z))) ?_
      refine Rn.n hT 1 (pc' := 33) (L' := [some (.ref q0), some (.int m1), some (.int m2), some (.int m3)]) (st' := [.ref q0]) rfl ?_
      obtain ⟨z_2485, g_2485, p_2485⟩ : ∃ z : Int32, gI h 12 29 q0 = some z ∧ z.toInt = s q0 29 := rp_gI (k := 29) hR (T12_o t0) rfl
      refine Rn.hp hT rfl rfl (gI_hp g_2485) ?_
      refine Rn.n hT 3 (pc' := 39) (L' := [some (.ref q0), some (.int m1), some (.int m2), some (.int m3)]) (st' := [.int (5 : Int32), .int (z_2485 - m2)]) rfl ?_
      by_cases c_2486 : 5 ≤ (w32 ((s q0 29) - x2))
      · rw [if_pos c_2486] at e
        refine Rn.bt hT rfl rfl rfl (decide_eq_true ((ti_le L32_5 (ti_sub p_2485 p2)).mpr c_2486)) ?_
        refine Rn.n hT 1 (pc' := 58) (L' := [some (.ref q0), some (.int m1), some (.int m2), some (.int m3)]) (st' := [.int m3]) rfl ?_
        exact Rn.weak (ll_s (ll_s (ll_s (ll_n ll_e)))) (RX12_digits_b58 hd hR t0 p1 p2 p3 ih hk hq e)
      · rw [if_neg c_2486] at e
        refine Rn.bf hT rfl rfl rfl (decide_eq_false (fun z => c_2486 ((ti_le L32_5 (ti_sub p_2485 p2)).mp z))) ?_
        refine Rn.n hT 4 (pc' := 47) (L' := [some (.ref q0), some (.int m1), some (.int m2), some (.int m3)]) (st' := [.ref q0, .int ((10 : Int32) * m3)]) rfl ?_
        obtain ⟨v_2487, e_2487, e⟩ := Option.bind_eq_some_iff.mp e
        refine Rn.call hT rfl rfl rfl (Nat.le_of_ble_eq_true rfl) (rcv_v gX12_sign (by omega) (rp_ck hR (T12_o t0))) (RX12_sign (by omega) hR t0 e_2487 (fun z_2487 p_2487 => ?_))
        show Rn d _ _ 50 [some (.ref q0), some (.int m1), some (.int m2), some (.int m3)] [.int z_2487, .int ((10 : Int32) * m3)] h Q
        refine Rn.n hT 4 (pc' := 58) (L' := [some (.ref q0), some (.int m1), some (.int m2), some (.int m3)]) (st' := [.int ((((10 : Int32) * m3) + z_2487) - (48 : Int32))]) rfl ?_
        exact Rn.weak (ll_s (ll_s (ll_s (ll_n ll_e)))) (RX12_digits_b58 hd hR t0 p1 p2 (ti_sub (ti_add (ti_mul L32_10 p3) p_2487) L32_48) ih hk hq e)
def FX12_digits_b93 (N : Nat) (s : iv_M) (x3 : Int)  : Option (Int × iv_M) := (some (x3, s))
set_option maxRecDepth 10000 in
set_option maxHeartbeats 4000000 in
theorem RX12_digits_b93 {d N nc Ls : Nat} {Xs : Nat → Int32} (hd : 2 ≤ d) {h : iv_H} {s : iv_M} (hR : Rep nc Ls Xs h s) {m3 : Int32} {x3 : Int} (p3 : m3.toInt = x3)  {r : Int × iv_M} {Q : Option Value → iv_H → Prop} (hq : ∀ (z : Int32) (h1 : iv_H), z.toInt = r.1 → Rep nc Ls Xs h1 r.2 → Q (some (.int z)) h1) (e : FX12_digits_b93 N s x3  = some r) : Rn d 218 (some .int) 93 [none, none, none, some (.int m3)] [] h Q := by
  have hT := hX12_digits
  unfold FX12_digits_b93 at e
  refine Rn.n hT 1 (pc' := 94) (L' := [none, none, none, some (.int m3)]) (st' := [.int m3]) rfl ?_
  obtain rfl := Option.some.inj e
  exact Rn.ret hT rfl rfl rfl (hq m3 h p3 hR)
def FX12_digits_b87 (N : Nat) (s : iv_M) (q0 : Nat) (x2 : Int) (x3 : Int)  : Option (Int × iv_M) := ((FX12_fails N s q0 1 x2).bind fun s_2492 => (FX12_digits_b93 N s_2492 x3))
set_option maxRecDepth 10000 in
set_option maxHeartbeats 4000000 in
theorem RX12_digits_b87 {d N nc Ls : Nat} {Xs : Nat → Int32} (hd : 2 ≤ d) {h : iv_H} {s : iv_M} (hR : Rep nc Ls Xs h s) {q0 : Nat} (t0 : T12 nc q0) {m2 : Int32} {x2 : Int} (p2 : m2.toInt = x2) {m3 : Int32} {x3 : Int} (p3 : m3.toInt = x3)  {r : Int × iv_M} {Q : Option Value → iv_H → Prop} (hq : ∀ (z : Int32) (h1 : iv_H), z.toInt = r.1 → Rep nc Ls Xs h1 r.2 → Q (some (.int z)) h1) (e : FX12_digits_b87 N s q0 x2 x3  = some r) : Rn d 218 (some .int) 87 [some (.ref q0), none, some (.int m2), some (.int m3)] [] h Q := by
  have hT := hX12_digits
  unfold FX12_digits_b87 at e
  refine Rn.n hT 3 (pc' := 90) (L' := [some (.ref q0), none, some (.int m2), some (.int m3)]) (st' := [.int m2, .int (1 : Int32), .ref q0]) rfl ?_
  obtain ⟨s_2492, e_2491, e⟩ := Option.bind_eq_some_iff.mp e
  refine Rn.call hT rfl rfl rfl (Nat.le_of_ble_eq_true rfl) (rcv_v gX12_fails (by omega) (rp_ck hR (T12_o t0))) (RX12_fails (by omega) hR t0 L32_1 p2 e_2491 (fun h_2492 R_2492 => ?_))
  show Rn d _ _ 93 [some (.ref q0), none, some (.int m2), some (.int m3)] [] h_2492 Q
  exact Rn.weak (ll_n (ll_n (ll_n (ll_s ll_e)))) (RX12_digits_b93 hd R_2492 p3 hq e)
def FX12_digits (N : Nat) (s : iv_M) (q0 : Nat) (x1 : Int) : Option (Int × iv_M) := ((FX12_isDigit N s q0).bind fun v_2472 => (if v_2472 = 0 then ((FX12_fails N s q0 0 (s q0 29)).bind fun s_2482 => (some (0, s_2482))) else (FX12_digits_l25 N q0 x1 (s q0 29) (fun (s_2475 : iv_M) (x2476_3 : Int) => (if 5 < (w32 ((s_2475 q0 29) - (s q0 29))) then (FX12_digits_b87 N s_2475 q0 (s q0 29) x2476_3) else (if x2476_3 ≤ x1 then (FX12_digits_b93 N s_2475 x2476_3) else (FX12_digits_b87 N s_2475 q0 (s q0 29) x2476_3)))) N s 0)))
set_option maxRecDepth 10000 in
set_option maxHeartbeats 4000000 in
theorem RX12_digits {d N nc Ls : Nat} {Xs : Nat → Int32} (hd : 3 ≤ d) {h : iv_H} {s : iv_M} (hR : Rep nc Ls Xs h s) {q0 : Nat} (t0 : T12 nc q0) {m1 : Int32} {x1 : Int} (p1 : m1.toInt = x1) {r : Int × iv_M} {Q : Option Value → iv_H → Prop} (e : FX12_digits N s q0 x1 = some r) (hq : ∀ (z : Int32) (h1 : iv_H), z.toInt = r.1 → Rep nc Ls Xs h1 r.2 → Q (some (.int z)) h1) : Cl d 218 [.ref q0, .int m1] h Q := by
  obtain ⟨d, rfl⟩ : ∃ k, d = k + 1 := ⟨d - 1, by omega⟩
  have hd : 2 ≤ d := by omega
  have hT := hX12_digits
  unfold FX12_digits at e
  refine Cl.into (by decide) gX12_digits rfl ?_
  show Rn d 218 (some .int) 0 [some (.ref q0), some (.int m1), none, none] [] h Q
  refine Rn.n hT 1 (pc' := 1) (L' := [some (.ref q0), some (.int m1), none, none]) (st' := [.ref q0]) rfl ?_
  obtain ⟨v_2472, e_2472, e⟩ := Option.bind_eq_some_iff.mp e
  refine Rn.call hT rfl rfl rfl (Nat.le_of_ble_eq_true rfl) (rcv_v gX12_isDigit (by omega) (rp_ck hR (T12_o t0))) (RX12_isDigit (by omega) hR t0 e_2472 (fun z_2472 p_2472 => ?_))
  show Rn d _ _ 4 [some (.ref q0), some (.int m1), none, none] [.int z_2472] h Q
  by_cases c_2473 : v_2472 = 0
  · rw [if_pos c_2473] at e
    refine Rn.bf hT rfl rfl rfl (decide_eq_false (fun z => z ((ti_e p_2472 L32_0).mpr c_2473))) ?_
    refine Rn.n hT 3 (pc' := 10) (L' := [some (.ref q0), some (.int m1), none, none]) (st' := [.ref q0, .int (0 : Int32), .ref q0]) rfl ?_
    obtain ⟨z_2480, g_2480, p_2480⟩ : ∃ z : Int32, gI h 12 29 q0 = some z ∧ z.toInt = s q0 29 := rp_gI (k := 29) hR (T12_o t0) rfl
    refine Rn.hp hT rfl rfl (gI_hp g_2480) ?_
    obtain ⟨s_2482, e_2481, e⟩ := Option.bind_eq_some_iff.mp e
    refine Rn.call hT rfl rfl rfl (Nat.le_of_ble_eq_true rfl) (rcv_v gX12_fails (by omega) (rp_ck hR (T12_o t0))) (RX12_fails (by omega) hR t0 L32_0 p_2480 e_2481 (fun h_2482 R_2482 => ?_))
    show Rn d _ _ 16 [some (.ref q0), some (.int m1), none, none] [] h_2482 Q
    refine Rn.n hT 1 (pc' := 17) (L' := [some (.ref q0), some (.int m1), none, none]) (st' := [.int (0 : Int32)]) rfl ?_
    obtain rfl := Option.some.inj e
    exact Rn.ret hT rfl rfl rfl (hq (0 : Int32) h_2482 L32_0 R_2482)
  · rw [if_neg c_2473] at e
    refine Rn.bt hT rfl rfl rfl (decide_eq_true (fun z => c_2473 ((ti_e p_2472 L32_0).mp z))) ?_
    refine Rn.n hT 1 (pc' := 19) (L' := [some (.ref q0), some (.int m1), none, none]) (st' := [.ref q0]) rfl ?_
    obtain ⟨z_2474, g_2474, p_2474⟩ : ∃ z : Int32, gI h 12 29 q0 = some z ∧ z.toInt = s q0 29 := rp_gI (k := 29) hR (T12_o t0) rfl
    refine Rn.hp hT rfl rfl (gI_hp g_2474) ?_
    refine Rn.n hT 3 (pc' := 25) (L' := [some (.ref q0), some (.int m1), some (.int z_2474), some (.int (0 : Int32))]) (st' := []) rfl ?_
    refine Rn.weak (ll_s (ll_s (ll_s (ll_s ll_e)))) (RX12_digits_l25 hd t0 p1 p_2474 (fun h_2475 s_2475 R_2475 m2476_3 x2476_3 p2476_3 e => ?_) hq N h s hR (0 : Int32) 0 L32_0 e)
    try dsimp only at e
    refine Rn.n hT 1 (pc' := 73) (L' := [some (.ref q0), some (.int m1), some (.int z_2474), some (.int m2476_3)]) (st' := [.ref q0]) rfl ?_
    obtain ⟨z_2477, g_2477, p_2477⟩ : ∃ z : Int32, gI h_2475 12 29 q0 = some z ∧ z.toInt = s_2475 q0 29 := rp_gI (k := 29) R_2475 (T12_o t0) rfl
    refine Rn.hp hT rfl rfl (gI_hp g_2477) ?_
    refine Rn.n hT 3 (pc' := 79) (L' := [some (.ref q0), some (.int m1), some (.int z_2474), some (.int m2476_3)]) (st' := [.int (5 : Int32), .int (z_2477 - z_2474)]) rfl ?_
    by_cases c_2478 : 5 < (w32 ((s_2475 q0 29) - (s q0 29)))
    · rw [if_pos c_2478] at e
      refine Rn.bt hT rfl rfl rfl (decide_eq_true ((ti_l L32_5 (ti_sub p_2477 p_2474)).mpr c_2478)) ?_
      exact Rn.weak (ll_s (ll_n (ll_s (ll_s ll_e)))) (RX12_digits_b87 hd R_2475 t0 p_2474 p2476_3 hq e)
    · rw [if_neg c_2478] at e
      refine Rn.bf hT rfl rfl rfl (decide_eq_false (fun z => c_2478 ((ti_l L32_5 (ti_sub p_2477 p_2474)).mp z))) ?_
      refine Rn.n hT 2 (pc' := 84) (L' := [some (.ref q0), some (.int m1), some (.int z_2474), some (.int m2476_3)]) (st' := [.int m1, .int m2476_3]) rfl ?_
      by_cases c_2479 : x2476_3 ≤ x1
      · rw [if_pos c_2479] at e
        refine Rn.bt hT rfl rfl rfl (decide_eq_true ((ti_le p2476_3 p1).mpr c_2479)) ?_
        exact Rn.weak (ll_n (ll_n (ll_n (ll_s ll_e)))) (RX12_digits_b93 hd R_2475 p2476_3 hq e)
      · rw [if_neg c_2479] at e
        refine Rn.bf hT rfl rfl rfl (decide_eq_false (fun z => c_2479 ((ti_le p2476_3 p1).mp z))) ?_
        exact Rn.weak (ll_s (ll_n (ll_s (ll_s ll_e)))) (RX12_digits_b87 hd R_2475 t0 p_2474 p2476_3 hq e)
set_option maxRecDepth 10000 in
theorem hX12_value : iv_Tb 219 tX12_value := iv_tb_of (m := mX12_value) rfl
set_option maxRecDepth 10000 in
theorem gX12_value : PG.2 219 = some mX12_value := iv_pi_of (t := tX12_value) rfl (by decide)
def FX12_value_l38 (N : Nat) (q0 : Nat) (x1 : Int) (kx : iv_M → Int → Option (iv_M)) : Nat → iv_M → Int → Option (iv_M)
  | 0, _, _ => none
  | n + 1, s, x2 => (if (s q0 37) ≤ x2 then (kx s x2) else ((FX12_wordOf N s x2).bind fun v_2508 => ((FX12_stood N s q0 v_2508).bind fun v_2509 => (if v_2509 = 0 then (FX12_value_l38 N q0 x1 kx n s (w32 (x2 + 1))) else (kx s x2)))))
set_option maxRecDepth 10000 in
set_option maxHeartbeats 4000000 in
theorem RX12_value_l38 {d N nc Ls : Nat} {Xs : Nat → Int32} (hd : 11 ≤ d) {q0 : Nat} (t0 : T12 nc q0) {m1 : Int32} {x1 : Int} (p1 : m1.toInt = x1) {kx : iv_M → Int → Option (iv_M)} {r : iv_M} {Q : Option Value → iv_H → Prop} (hk : ∀ (h : iv_H) (s : iv_M) (hR : Rep nc Ls Xs h s) (m2 : Int32) (x2 : Int) (p2 : m2.toInt = x2), kx s x2 = some r → Rn d 219 none 63 [some (.ref q0), some (.int m1), some (.int m2)] [] h Q) (hq : ∀ h1, Rep nc Ls Xs h1 r → Q none h1) : ∀ (n : Nat) (h : iv_H) (s : iv_M) (hR : Rep nc Ls Xs h s) (m2 : Int32) (x2 : Int) (p2 : m2.toInt = x2), FX12_value_l38 N q0 x1 kx n s x2 = some r → Rn d 219 none 38 [some (.ref q0), some (.int m1), some (.int m2)] [] h Q := by
  have hT := hX12_value
  intro n
  induction n with
  | zero =>
    intro h s hR m2 x2 p2 e
    rw [FX12_value_l38] at e
    cases e
  | succ n ih =>
    intro h s hR m2 x2 p2 e
    rw [FX12_value_l38] at e
    refine Rn.n hT 2 (pc' := 40) (L' := [some (.ref q0), some (.int m1), some (.int m2)]) (st' := [.ref q0, .int m2]) rfl ?_
    obtain ⟨z_2506, g_2506, p_2506⟩ : ∃ z : Int32, gI h 12 37 q0 = some z ∧ z.toInt = s q0 37 := rp_gI (k := 37) hR (T12_o t0) rfl
    refine Rn.hp hT rfl rfl (gI_hp g_2506) ?_
    by_cases c_2507 : (s q0 37) ≤ x2
    · rw [if_pos c_2507] at e
      refine Rn.bt hT rfl rfl rfl (decide_eq_true ((ti_le p_2506 p2).mpr c_2507)) ?_
      exact Rn.weak (ll_s (ll_s (ll_s ll_e))) (hk h s hR m2 x2 p2 e)
    · rw [if_neg c_2507] at e
      refine Rn.bf hT rfl rfl rfl (decide_eq_false (fun z => c_2507 ((ti_le p_2506 p2).mp z))) ?_
      refine Rn.n hT 2 (pc' := 48) (L' := [some (.ref q0), some (.int m1), some (.int m2)]) (st' := [.int m2, .ref q0]) rfl ?_
      obtain ⟨v_2508, e_2508, e⟩ := Option.bind_eq_some_iff.mp e
      refine Rn.call hT rfl rfl rfl (Nat.le_of_ble_eq_true rfl) rfl (RX12_wordOf (by omega) hR p2 e_2508 (fun t_2508 => ?_))
      show Rn d _ _ 51 [some (.ref q0), some (.int m1), some (.int m2)] [.ref v_2508, .ref q0] h Q
      obtain ⟨v_2509, e_2509, e⟩ := Option.bind_eq_some_iff.mp e
      refine Rn.call hT rfl rfl rfl (Nat.le_of_ble_eq_true rfl) (rcv_v gX12_stood (by omega) (rp_ck hR (T12_o t0))) (RX12_stood (by omega) hR t0 t_2508 e_2509 (fun z_2509 p_2509 => ?_))
      show Rn d _ _ 54 [some (.ref q0), some (.int m1), some (.int m2)] [.int z_2509] h Q
      by_cases c_2510 : v_2509 = 0
      · rw [if_pos c_2510] at e
        refine Rn.bf hT rfl rfl rfl (decide_eq_false (fun z => z ((ti_e p_2509 L32_0).mpr c_2510))) ?_
        refine Rn.n hT 2 (pc' := 38) (L' := [some (.ref q0), some (.int m1), some (.int (m2 + (1 : Int32)))]) (st' := []) rfl ?_
        exact Rn.weak (ll_s (ll_s (ll_s ll_e))) (ih h s hR (m2 + (1 : Int32)) (w32 (x2 + 1)) (ti_add p2 L32_1) e)
      · rw [if_neg c_2510] at e
        refine Rn.bt hT rfl rfl rfl (decide_eq_true (fun z => c_2510 ((ti_e p_2509 L32_0).mp z))) ?_
        exact Rn.weak (ll_s (ll_s (ll_s ll_e))) (hk h s hR m2 x2 p2 e)
def FX12_value_b63 (N : Nat) (s : iv_M) (q0 : Nat) (x1 : Int) (x2 : Int)  : Option (iv_M) := (if x2 = (s q0 37) then ((FX12_fails N s q0 0 x1).bind fun s_2523 => some s_2523) else ((FX12_isCounted N s q0 x1).bind fun s_2514 => ((FX12_wordOf N s_2514 x2).bind fun v_2516 => ((pt s_2514 q0 29 (w32 ((s_2514 q0 29) + (tL v_2516)))).bind fun s_2518 => ((FX12_entry N s_2518 q0 1 x2).bind fun s_2521 => some s_2521)))))
set_option maxRecDepth 10000 in
set_option maxHeartbeats 4000000 in
theorem RX12_value_b63 {d N nc Ls : Nat} {Xs : Nat → Int32} (hd : 11 ≤ d) {h : iv_H} {s : iv_M} (hR : Rep nc Ls Xs h s) {q0 : Nat} (t0 : T12 nc q0) {m1 : Int32} {x1 : Int} (p1 : m1.toInt = x1) {m2 : Int32} {x2 : Int} (p2 : m2.toInt = x2)  {r : iv_M} {Q : Option Value → iv_H → Prop} (hq : ∀ h1, Rep nc Ls Xs h1 r → Q none h1) (e : FX12_value_b63 N s q0 x1 x2  = some r) : Rn d 219 none 63 [some (.ref q0), some (.int m1), some (.int m2)] [] h Q := by
  have hT := hX12_value
  unfold FX12_value_b63 at e
  refine Rn.n hT 2 (pc' := 65) (L' := [some (.ref q0), some (.int m1), some (.int m2)]) (st' := [.ref q0, .int m2]) rfl ?_
  obtain ⟨z_2511, g_2511, p_2511⟩ : ∃ z : Int32, gI h 12 37 q0 = some z ∧ z.toInt = s q0 37 := rp_gI (k := 37) hR (T12_o t0) rfl
  refine Rn.hp hT rfl rfl (gI_hp g_2511) ?_
  by_cases c_2512 : x2 = (s q0 37)
  · rw [if_pos c_2512] at e
    refine Rn.bf hT rfl rfl rfl (decide_eq_false (fun z => z ((ti_e p2 p_2511).mpr c_2512))) ?_
    refine Rn.n hT 3 (pc' := 74) (L' := [some (.ref q0), some (.int m1), some (.int m2)]) (st' := [.int m1, .int (0 : Int32), .ref q0]) rfl ?_
    obtain ⟨s_2523, e_2522, e⟩ := Option.bind_eq_some_iff.mp e
    refine Rn.call hT rfl rfl rfl (Nat.le_of_ble_eq_true rfl) (rcv_v gX12_fails (by omega) (rp_ck hR (T12_o t0))) (RX12_fails (by omega) hR t0 L32_0 p1 e_2522 (fun h_2523 R_2523 => ?_))
    show Rn d _ _ 77 [some (.ref q0), some (.int m1), some (.int m2)] [] h_2523 Q
    obtain rfl := Option.some.inj e
    exact Rn.ret hT rfl rfl rfl (hq h_2523 R_2523)
  · rw [if_neg c_2512] at e
    refine Rn.bt hT rfl rfl rfl (decide_eq_true (fun z => c_2512 ((ti_e p2 p_2511).mp z))) ?_
    refine Rn.n hT 2 (pc' := 80) (L' := [some (.ref q0), some (.int m1), some (.int m2)]) (st' := [.int m1, .ref q0]) rfl ?_
    obtain ⟨s_2514, e_2513, e⟩ := Option.bind_eq_some_iff.mp e
    refine Rn.call hT rfl rfl rfl (Nat.le_of_ble_eq_true rfl) (rcv_v gX12_isCounted (by omega) (rp_ck hR (T12_o t0))) (RX12_isCounted (by omega) hR t0 p1 e_2513 (fun h_2514 R_2514 => ?_))
    show Rn d _ _ 83 [some (.ref q0), some (.int m1), some (.int m2)] [] h_2514 Q
    refine Rn.n hT 2 (pc' := 85) (L' := [some (.ref q0), some (.int m1), some (.int m2)]) (st' := [.ref q0, .ref q0]) rfl ?_
    obtain ⟨z_2515, g_2515, p_2515⟩ : ∃ z : Int32, gI h_2514 12 29 q0 = some z ∧ z.toInt = s_2514 q0 29 := rp_gI (k := 29) R_2514 (T12_o t0) rfl
    refine Rn.hp hT rfl rfl (gI_hp g_2515) ?_
    refine Rn.n hT 1 (pc' := 89) (L' := [some (.ref q0), some (.int m1), some (.int m2)]) (st' := [.int m2, .int z_2515, .ref q0]) rfl ?_
    obtain ⟨v_2516, e_2516, e⟩ := Option.bind_eq_some_iff.mp e
    refine Rn.call hT rfl rfl rfl (Nat.le_of_ble_eq_true rfl) rfl (RX12_wordOf (by omega) R_2514 p2 e_2516 (fun t_2516 => ?_))
    show Rn d _ _ 92 [some (.ref q0), some (.int m1), some (.int m2)] [.ref v_2516, .int z_2515, .ref q0] h_2514 Q
    obtain ⟨z_2517, g_2517, p_2517⟩ := rp_sL R_2514 t_2516
    refine Rn.call hT rfl rfl rfl (Nat.le_of_ble_eq_true rfl) rfl (sL_cl (by omega) g_2517 ?_)
    show Rn d _ _ 95 [some (.ref q0), some (.int m1), some (.int m2)] [.int z_2517, .int z_2515, .ref q0] h_2514 Q
    refine Rn.n hT 1 (pc' := 96) (L' := [some (.ref q0), some (.int m1), some (.int m2)]) (st' := [.int (z_2515 + z_2517), .ref q0]) rfl ?_
    obtain ⟨s_2518, e_2519, e⟩ := Option.bind_eq_some_iff.mp e
    obtain ⟨h_2518, g_2519, R_2518⟩ := rp_pI (ci := 12) (k := 29) R_2514 (T12_o t0) rfl rfl (ti_add p_2515 p_2517) e_2519
    refine Rn.hp hT rfl rfl (pV_hp rfl g_2519) ?_
    refine Rn.n hT 3 (pc' := 102) (L' := [some (.ref q0), some (.int m1), some (.int m2)]) (st' := [.int m2, .int (1 : Int32), .ref q0]) rfl ?_
    obtain ⟨s_2521, e_2520, e⟩ := Option.bind_eq_some_iff.mp e
    refine Rn.call hT rfl rfl rfl (Nat.le_of_ble_eq_true rfl) (rcv_v gX12_entry (by omega) (rp_ck R_2518 (T12_o t0))) (RX12_entry (by omega) R_2518 t0 L32_1 p2 e_2520 (fun h_2521 R_2521 => ?_))
    show Rn d _ _ 105 [some (.ref q0), some (.int m1), some (.int m2)] [] h_2521 Q
    obtain rfl := Option.some.inj e
    exact Rn.ret hT rfl rfl rfl (hq h_2521 R_2521)
def FX12_value (N : Nat) (s : iv_M) (q0 : Nat) : Option (iv_M) := ((FX12_blanks N s q0).bind fun s_2494 => ((FX12_isDigit N s_2494 q0).bind fun v_2496 => (if v_2496 = 0 then (FX12_value_l38 N q0 (s_2494 q0 29) (fun (s_2498 : iv_M) (x2499_2 : Int) => (FX12_value_b63 N s_2498 q0 (s_2494 q0 29) x2499_2)) N s_2494 0) else ((FX12_digits N s_2494 q0 99999).bind fun r_2500 => (fun (v_2500 : Int) (s_2501 : iv_M) => ((FX12_isCounted N s_2501 q0 (s_2494 q0 29)).bind fun s_2503 => ((FX12_entry N s_2503 q0 0 v_2500).bind fun s_2505 => some s_2505))) r_2500.1 r_2500.2))))
set_option maxRecDepth 10000 in
set_option maxHeartbeats 4000000 in
theorem RX12_value {d N nc Ls : Nat} {Xs : Nat → Int32} (hd : 12 ≤ d) {h : iv_H} {s : iv_M} (hR : Rep nc Ls Xs h s) {q0 : Nat} (t0 : T12 nc q0) {r : iv_M} {Q : Option Value → iv_H → Prop} (e : FX12_value N s q0 = some r) (hq : ∀ h1, Rep nc Ls Xs h1 r → Q none h1) : Cl d 219 [.ref q0] h Q := by
  obtain ⟨d, rfl⟩ : ∃ k, d = k + 1 := ⟨d - 1, by omega⟩
  have hd : 11 ≤ d := by omega
  have hT := hX12_value
  unfold FX12_value at e
  refine Cl.into (by decide) gX12_value rfl ?_
  show Rn d 219 none 0 [some (.ref q0), none, none] [] h Q
  refine Rn.n hT 1 (pc' := 1) (L' := [some (.ref q0), none, none]) (st' := [.ref q0]) rfl ?_
  obtain ⟨s_2494, e_2493, e⟩ := Option.bind_eq_some_iff.mp e
  refine Rn.call hT rfl rfl rfl (Nat.le_of_ble_eq_true rfl) (rcv_v gX12_blanks (by omega) (rp_ck hR (T12_o t0))) (RX12_blanks (by omega) hR t0 e_2493 (fun h_2494 R_2494 => ?_))
  show Rn d _ _ 4 [some (.ref q0), none, none] [] h_2494 Q
  refine Rn.n hT 1 (pc' := 5) (L' := [some (.ref q0), none, none]) (st' := [.ref q0]) rfl ?_
  obtain ⟨z_2495, g_2495, p_2495⟩ : ∃ z : Int32, gI h_2494 12 29 q0 = some z ∧ z.toInt = s_2494 q0 29 := rp_gI (k := 29) R_2494 (T12_o t0) rfl
  refine Rn.hp hT rfl rfl (gI_hp g_2495) ?_
  refine Rn.n hT 2 (pc' := 10) (L' := [some (.ref q0), some (.int z_2495), none]) (st' := [.ref q0]) rfl ?_
  obtain ⟨v_2496, e_2496, e⟩ := Option.bind_eq_some_iff.mp e
  refine Rn.call hT rfl rfl rfl (Nat.le_of_ble_eq_true rfl) (rcv_v gX12_isDigit (by omega) (rp_ck R_2494 (T12_o t0))) (RX12_isDigit (by omega) R_2494 t0 e_2496 (fun z_2496 p_2496 => ?_))
  show Rn d _ _ 13 [some (.ref q0), some (.int z_2495), none] [.int z_2496] h_2494 Q
  by_cases c_2497 : v_2496 = 0
  · rw [if_pos c_2497] at e
    refine Rn.bt hT rfl rfl rfl (decide_eq_true ((ti_e p_2496 L32_0).mpr c_2497)) ?_
    refine Rn.n hT 2 (pc' := 38) (L' := [some (.ref q0), some (.int z_2495), some (.int (0 : Int32))]) (st' := []) rfl ?_
    refine Rn.weak (ll_s (ll_s (ll_s ll_e))) (RX12_value_l38 hd t0 p_2495 (fun h_2498 s_2498 R_2498 m2499_2 x2499_2 p2499_2 e => ?_) hq N h_2494 s_2494 R_2494 (0 : Int32) 0 L32_0 e)
    try dsimp only at e
    exact Rn.weak (ll_s (ll_s (ll_s ll_e))) (RX12_value_b63 hd R_2498 t0 p_2495 p2499_2 hq e)
  · rw [if_neg c_2497] at e
    refine Rn.bf hT rfl rfl rfl (decide_eq_false (fun z => c_2497 ((ti_e p_2496 L32_0).mp z))) ?_
    refine Rn.n hT 2 (pc' := 20) (L' := [some (.ref q0), some (.int z_2495), none]) (st' := [.int (99999 : Int32), .ref q0]) rfl ?_
    obtain ⟨⟨v_2500, s_2501⟩, e_2500, e⟩ := Option.bind_eq_some_iff.mp e
    try dsimp only at e
    try dsimp only at e
    refine Rn.call hT rfl rfl rfl (Nat.le_of_ble_eq_true rfl) (rcv_v gX12_digits (by omega) (rp_ck R_2494 (T12_o t0))) (RX12_digits (by omega) R_2494 t0 L32_99999 e_2500 (fun z_2500 h_2501 p_2500 R_2501 => ?_))
    show Rn d _ _ 23 [some (.ref q0), some (.int z_2495), none] [.int z_2500] h_2501 Q
    refine Rn.n hT 3 (pc' := 26) (L' := [some (.ref q0), some (.int z_2495), some (.int z_2500)]) (st' := [.int z_2495, .ref q0]) rfl ?_
    obtain ⟨s_2503, e_2502, e⟩ := Option.bind_eq_some_iff.mp e
    refine Rn.call hT rfl rfl rfl (Nat.le_of_ble_eq_true rfl) (rcv_v gX12_isCounted (by omega) (rp_ck R_2501 (T12_o t0))) (RX12_isCounted (by omega) R_2501 t0 p_2495 e_2502 (fun h_2503 R_2503 => ?_))
    show Rn d _ _ 29 [some (.ref q0), some (.int z_2495), some (.int z_2500)] [] h_2503 Q
    refine Rn.n hT 3 (pc' := 32) (L' := [some (.ref q0), some (.int z_2495), some (.int z_2500)]) (st' := [.int z_2500, .int (0 : Int32), .ref q0]) rfl ?_
    obtain ⟨s_2505, e_2504, e⟩ := Option.bind_eq_some_iff.mp e
    refine Rn.call hT rfl rfl rfl (Nat.le_of_ble_eq_true rfl) (rcv_v gX12_entry (by omega) (rp_ck R_2503 (T12_o t0))) (RX12_entry (by omega) R_2503 t0 L32_0 p_2500 e_2504 (fun h_2505 R_2505 => ?_))
    show Rn d _ _ 35 [some (.ref q0), some (.int z_2495), some (.int z_2500)] [] h_2505 Q
    obtain rfl := Option.some.inj e
    exact Rn.ret hT rfl rfl rfl (hq h_2505 R_2505)
set_option maxRecDepth 10000 in
theorem hX12_term : iv_Tb 220 tX12_term := iv_tb_of (m := mX12_term) rfl
set_option maxRecDepth 10000 in
theorem gX12_term : PG.2 220 = some mX12_term := iv_pi_of (t := tX12_term) rfl (by decide)
def FX12_term_b72 (N : Nat) (s : iv_M) (q0 : Nat) (xs0 : Int) (kb : iv_M → Option (iv_M)) (kx : iv_M → Option (iv_M)) : Option (iv_M) := ((pt s q0 29 (w32 ((s q0 29) + 1))).bind fun s_2543 => ((FX12_value N s_2543 q0).bind fun s_2546 => ((FX12_entry N s_2546 q0 xs0 0).bind fun s_2548 => ((FX12_blanks N s_2548 q0).bind fun s_2550 => (kb s_2550)))))
set_option maxRecDepth 10000 in
set_option maxHeartbeats 4000000 in
theorem RX12_term_b72 {d N nc Ls : Nat} {Xs : Nat → Int32} (hd : 12 ≤ d) {h : iv_H} {s : iv_M} (hR : Rep nc Ls Xs h s) {q0 : Nat} (t0 : T12 nc q0) {ms0 : Int32} {xs0 : Int} (ps0 : ms0.toInt = xs0) {kb : iv_M → Option (iv_M)} {kx : iv_M → Option (iv_M)} {r : iv_M} {Q : Option Value → iv_H → Prop} (hb : ∀ (h : iv_H) (s : iv_M) (hR : Rep nc Ls Xs h s), kb s = some r → Rn d 220 none 8 [some (.ref q0), none] [] h Q) (hk : ∀ (h : iv_H) (s : iv_M) (hR : Rep nc Ls Xs h s), kx s = some r → Rn d 220 none 100 [none, none] [] h Q) (hq : ∀ h1, Rep nc Ls Xs h1 r → Q none h1) (e : FX12_term_b72 N s q0 xs0 kb kx = some r) : Rn d 220 none 72 [some (.ref q0), none] [.int ms0] h Q := by
  have hT := hX12_term
  unfold FX12_term_b72 at e
  refine Rn.n hT 3 (pc' := 75) (L' := [some (.ref q0), some (.int ms0)]) (st' := [.ref q0, .ref q0]) rfl ?_
  obtain ⟨z_2542, g_2542, p_2542⟩ : ∃ z : Int32, gI h 12 29 q0 = some z ∧ z.toInt = s q0 29 := rp_gI (k := 29) hR (T12_o t0) rfl
  refine Rn.hp hT rfl rfl (gI_hp g_2542) ?_
  refine Rn.n hT 2 (pc' := 80) (L' := [some (.ref q0), some (.int ms0)]) (st' := [.int (z_2542 + (1 : Int32)), .ref q0]) rfl ?_
  obtain ⟨s_2543, e_2544, e⟩ := Option.bind_eq_some_iff.mp e
  obtain ⟨h_2543, g_2544, R_2543⟩ := rp_pI (ci := 12) (k := 29) hR (T12_o t0) rfl rfl (ti_add p_2542 L32_1) e_2544
  refine Rn.hp hT rfl rfl (pV_hp rfl g_2544) ?_
  refine Rn.n hT 1 (pc' := 84) (L' := [some (.ref q0), some (.int ms0)]) (st' := [.ref q0]) rfl ?_
  obtain ⟨s_2546, e_2545, e⟩ := Option.bind_eq_some_iff.mp e
  refine Rn.call hT rfl rfl rfl (Nat.le_of_ble_eq_true rfl) (rcv_v gX12_value (by omega) (rp_ck R_2543 (T12_o t0))) (RX12_value (by omega) R_2543 t0 e_2545 (fun h_2546 R_2546 => ?_))
  show Rn d _ _ 87 [some (.ref q0), some (.int ms0)] [] h_2546 Q
  refine Rn.n hT 3 (pc' := 90) (L' := [some (.ref q0), some (.int ms0)]) (st' := [.int (0 : Int32), .int ms0, .ref q0]) rfl ?_
  obtain ⟨s_2548, e_2547, e⟩ := Option.bind_eq_some_iff.mp e
  refine Rn.call hT rfl rfl rfl (Nat.le_of_ble_eq_true rfl) (rcv_v gX12_entry (by omega) (rp_ck R_2546 (T12_o t0))) (RX12_entry (by omega) R_2546 t0 ps0 L32_0 e_2547 (fun h_2548 R_2548 => ?_))
  show Rn d _ _ 93 [some (.ref q0), some (.int ms0)] [] h_2548 Q
  refine Rn.n hT 1 (pc' := 94) (L' := [some (.ref q0), some (.int ms0)]) (st' := [.ref q0]) rfl ?_
  obtain ⟨s_2550, e_2549, e⟩ := Option.bind_eq_some_iff.mp e
  refine Rn.call hT rfl rfl rfl (Nat.le_of_ble_eq_true rfl) (rcv_v gX12_blanks (by omega) (rp_ck R_2548 (T12_o t0))) (RX12_blanks (by omega) R_2548 t0 e_2549 (fun h_2550 R_2550 => ?_))
  show Rn d _ _ 97 [some (.ref q0), some (.int ms0)] [] h_2550 Q
  refine Rn.n hT 1 (pc' := 8) (L' := [some (.ref q0), some (.int ms0)]) (st' := []) rfl ?_
  exact Rn.weak (ll_s (ll_n ll_e)) (hb h_2550 s_2550 R_2550 e)
def FX12_term_b42 (N : Nat) (s : iv_M) (q0 : Nat)  (kb : iv_M → Option (iv_M)) (kx : iv_M → Option (iv_M)) : Option (iv_M) := ((FX12_sign N s q0).bind fun v_2538 => (if v_2538 = 42 then (FX12_term_b72 N s q0 13 kb kx) else ((FX12_sign N s q0).bind fun v_2540 => (if v_2540 = 47 then (FX12_term_b72 N s q0 14 kb kx) else (FX12_term_b72 N s q0 15 kb kx)))))
set_option maxRecDepth 10000 in
set_option maxHeartbeats 4000000 in
theorem RX12_term_b42 {d N nc Ls : Nat} {Xs : Nat → Int32} (hd : 12 ≤ d) {h : iv_H} {s : iv_M} (hR : Rep nc Ls Xs h s) {q0 : Nat} (t0 : T12 nc q0)  {kb : iv_M → Option (iv_M)} {kx : iv_M → Option (iv_M)} {r : iv_M} {Q : Option Value → iv_H → Prop} (hb : ∀ (h : iv_H) (s : iv_M) (hR : Rep nc Ls Xs h s), kb s = some r → Rn d 220 none 8 [some (.ref q0), none] [] h Q) (hk : ∀ (h : iv_H) (s : iv_M) (hR : Rep nc Ls Xs h s), kx s = some r → Rn d 220 none 100 [none, none] [] h Q) (hq : ∀ h1, Rep nc Ls Xs h1 r → Q none h1) (e : FX12_term_b42 N s q0  kb kx = some r) : Rn d 220 none 42 [some (.ref q0), none] [] h Q := by
  have hT := hX12_term
  unfold FX12_term_b42 at e
  refine Rn.n hT 1 (pc' := 43) (L' := [some (.ref q0), none]) (st' := [.ref q0]) rfl ?_
  obtain ⟨v_2538, e_2538, e⟩ := Option.bind_eq_some_iff.mp e
  refine Rn.call hT rfl rfl rfl (Nat.le_of_ble_eq_true rfl) (rcv_v gX12_sign (by omega) (rp_ck hR (T12_o t0))) (RX12_sign (by omega) hR t0 e_2538 (fun z_2538 p_2538 => ?_))
  show Rn d _ _ 46 [some (.ref q0), none] [.int z_2538] h Q
  refine Rn.n hT 1 (pc' := 48) (L' := [some (.ref q0), none]) (st' := [.int (42 : Int32), .int z_2538]) rfl ?_
  by_cases c_2539 : v_2538 = 42
  · rw [if_pos c_2539] at e
    refine Rn.bf hT rfl rfl rfl (decide_eq_false (fun z => z ((ti_e p_2538 L32_42).mpr c_2539))) ?_
    refine Rn.n hT 2 (pc' := 72) (L' := [some (.ref q0), none]) (st' := [.int (13 : Int32)]) rfl ?_
    exact Rn.weak (ll_s (ll_n ll_e)) (RX12_term_b72 hd hR t0 L32_13 hb hk hq e)
  · rw [if_neg c_2539] at e
    refine Rn.bt hT rfl rfl rfl (decide_eq_true (fun z => c_2539 ((ti_e p_2538 L32_42).mp z))) ?_
    refine Rn.n hT 1 (pc' := 57) (L' := [some (.ref q0), none]) (st' := [.ref q0]) rfl ?_
    obtain ⟨v_2540, e_2540, e⟩ := Option.bind_eq_some_iff.mp e
    refine Rn.call hT rfl rfl rfl (Nat.le_of_ble_eq_true rfl) (rcv_v gX12_sign (by omega) (rp_ck hR (T12_o t0))) (RX12_sign (by omega) hR t0 e_2540 (fun z_2540 p_2540 => ?_))
    show Rn d _ _ 60 [some (.ref q0), none] [.int z_2540] h Q
    refine Rn.n hT 1 (pc' := 62) (L' := [some (.ref q0), none]) (st' := [.int (47 : Int32), .int z_2540]) rfl ?_
    by_cases c_2541 : v_2540 = 47
    · rw [if_pos c_2541] at e
      refine Rn.bf hT rfl rfl rfl (decide_eq_false (fun z => z ((ti_e p_2540 L32_47).mpr c_2541))) ?_
      refine Rn.n hT 2 (pc' := 72) (L' := [some (.ref q0), none]) (st' := [.int (14 : Int32)]) rfl ?_
      exact Rn.weak (ll_s (ll_n ll_e)) (RX12_term_b72 hd hR t0 L32_14 hb hk hq e)
    · rw [if_neg c_2541] at e
      refine Rn.bt hT rfl rfl rfl (decide_eq_true (fun z => c_2541 ((ti_e p_2540 L32_47).mp z))) ?_
      refine Rn.n hT 1 (pc' := 72) (L' := [some (.ref q0), none]) (st' := [.int (15 : Int32)]) rfl ?_
      exact Rn.weak (ll_s (ll_n ll_e)) (RX12_term_b72 hd hR t0 L32_15 hb hk hq e)
def FX12_term_l8 (N : Nat) (q0 : Nat) (kx : iv_M → Option (iv_M)) : Nat → iv_M → Option (iv_M)
  | 0, _ => none
  | n + 1, s => (if (s q0 30) = 0 then ((FX12_sign N s q0).bind fun v_2532 => (if v_2532 = 42 then (FX12_term_b42 N s q0 (FX12_term_l8 N q0 kx n) kx) else ((FX12_sign N s q0).bind fun v_2534 => (if v_2534 = 47 then (FX12_term_b42 N s q0 (FX12_term_l8 N q0 kx n) kx) else ((FX12_sign N s q0).bind fun v_2536 => (if v_2536 = 37 then (FX12_term_b42 N s q0 (FX12_term_l8 N q0 kx n) kx) else (kx s))))))) else (kx s))
set_option maxRecDepth 10000 in
set_option maxHeartbeats 4000000 in
theorem RX12_term_l8 {d N nc Ls : Nat} {Xs : Nat → Int32} (hd : 12 ≤ d) {q0 : Nat} (t0 : T12 nc q0) {kx : iv_M → Option (iv_M)} {r : iv_M} {Q : Option Value → iv_H → Prop} (hk : ∀ (h : iv_H) (s : iv_M) (hR : Rep nc Ls Xs h s), kx s = some r → Rn d 220 none 100 [none, none] [] h Q) (hq : ∀ h1, Rep nc Ls Xs h1 r → Q none h1) : ∀ (n : Nat) (h : iv_H) (s : iv_M) (hR : Rep nc Ls Xs h s), FX12_term_l8 N q0 kx n s = some r → Rn d 220 none 8 [some (.ref q0), none] [] h Q := by
  have hT := hX12_term
  intro n
  induction n with
  | zero =>
    intro h s hR e
    rw [FX12_term_l8] at e
    cases e
  | succ n ih =>
    intro h s hR e
    rw [FX12_term_l8] at e
    refine Rn.n hT 1 (pc' := 9) (L' := [some (.ref q0), none]) (st' := [.ref q0]) rfl ?_
    obtain ⟨z_2530, g_2530, p_2530⟩ : ∃ z : Int32, gI h 12 30 q0 = some z ∧ z.toInt = s q0 30 := rp_gI (k := 30) hR (T12_o t0) rfl
    refine Rn.hp hT rfl rfl (gI_hp g_2530) ?_
    by_cases c_2531 : (s q0 30) = 0
    · rw [if_pos c_2531] at e
      refine Rn.bf hT rfl rfl rfl (decide_eq_false (fun z => z ((ti_e p_2530 L32_0).mpr c_2531))) ?_
      refine Rn.n hT 1 (pc' := 16) (L' := [some (.ref q0), none]) (st' := [.ref q0]) rfl ?_
      obtain ⟨v_2532, e_2532, e⟩ := Option.bind_eq_some_iff.mp e
      refine Rn.call hT rfl rfl rfl (Nat.le_of_ble_eq_true rfl) (rcv_v gX12_sign (by omega) (rp_ck hR (T12_o t0))) (RX12_sign (by omega) hR t0 e_2532 (fun z_2532 p_2532 => ?_))
      show Rn d _ _ 19 [some (.ref q0), none] [.int z_2532] h Q
      refine Rn.n hT 1 (pc' := 21) (L' := [some (.ref q0), none]) (st' := [.int (42 : Int32), .int z_2532]) rfl ?_
      by_cases c_2533 : v_2532 = 42
      · rw [if_pos c_2533] at e
        refine Rn.bt hT rfl rfl rfl (decide_eq_true ((ti_e p_2532 L32_42).mpr c_2533)) ?_
        exact Rn.weak (ll_s (ll_n ll_e)) (RX12_term_b42 hd hR t0 ih hk hq e)
      · rw [if_neg c_2533] at e
        refine Rn.bf hT rfl rfl rfl (decide_eq_false (fun z => c_2533 ((ti_e p_2532 L32_42).mp z))) ?_
        refine Rn.n hT 1 (pc' := 25) (L' := [some (.ref q0), none]) (st' := [.ref q0]) rfl ?_
        obtain ⟨v_2534, e_2534, e⟩ := Option.bind_eq_some_iff.mp e
        refine Rn.call hT rfl rfl rfl (Nat.le_of_ble_eq_true rfl) (rcv_v gX12_sign (by omega) (rp_ck hR (T12_o t0))) (RX12_sign (by omega) hR t0 e_2534 (fun z_2534 p_2534 => ?_))
        show Rn d _ _ 28 [some (.ref q0), none] [.int z_2534] h Q
        refine Rn.n hT 1 (pc' := 30) (L' := [some (.ref q0), none]) (st' := [.int (47 : Int32), .int z_2534]) rfl ?_
        by_cases c_2535 : v_2534 = 47
        · rw [if_pos c_2535] at e
          refine Rn.bt hT rfl rfl rfl (decide_eq_true ((ti_e p_2534 L32_47).mpr c_2535)) ?_
          exact Rn.weak (ll_s (ll_n ll_e)) (RX12_term_b42 hd hR t0 ih hk hq e)
        · rw [if_neg c_2535] at e
          refine Rn.bf hT rfl rfl rfl (decide_eq_false (fun z => c_2535 ((ti_e p_2534 L32_47).mp z))) ?_
          refine Rn.n hT 1 (pc' := 34) (L' := [some (.ref q0), none]) (st' := [.ref q0]) rfl ?_
          obtain ⟨v_2536, e_2536, e⟩ := Option.bind_eq_some_iff.mp e
          refine Rn.call hT rfl rfl rfl (Nat.le_of_ble_eq_true rfl) (rcv_v gX12_sign (by omega) (rp_ck hR (T12_o t0))) (RX12_sign (by omega) hR t0 e_2536 (fun z_2536 p_2536 => ?_))
          show Rn d _ _ 37 [some (.ref q0), none] [.int z_2536] h Q
          refine Rn.n hT 1 (pc' := 39) (L' := [some (.ref q0), none]) (st' := [.int (37 : Int32), .int z_2536]) rfl ?_
          by_cases c_2537 : v_2536 = 37
          · rw [if_pos c_2537] at e
            refine Rn.bf hT rfl rfl rfl (decide_eq_false (fun z => z ((ti_e p_2536 L32_37).mpr c_2537))) ?_
            exact Rn.weak (ll_s (ll_n ll_e)) (RX12_term_b42 hd hR t0 ih hk hq e)
          · rw [if_neg c_2537] at e
            refine Rn.bt hT rfl rfl rfl (decide_eq_true (fun z => c_2537 ((ti_e p_2536 L32_37).mp z))) ?_
            exact Rn.weak (ll_n (ll_n ll_e)) (hk h s hR e)
    · rw [if_neg c_2531] at e
      refine Rn.bt hT rfl rfl rfl (decide_eq_true (fun z => c_2531 ((ti_e p_2530 L32_0).mp z))) ?_
      exact Rn.weak (ll_n (ll_n ll_e)) (hk h s hR e)
def FX12_term_b100 (N : Nat) (s : iv_M)   : Option (iv_M) := some s
set_option maxRecDepth 10000 in
set_option maxHeartbeats 4000000 in
theorem RX12_term_b100 {d N nc Ls : Nat} {Xs : Nat → Int32} (hd : 12 ≤ d) {h : iv_H} {s : iv_M} (hR : Rep nc Ls Xs h s)   {r : iv_M} {Q : Option Value → iv_H → Prop} (hq : ∀ h1, Rep nc Ls Xs h1 r → Q none h1) (e : FX12_term_b100 N s   = some r) : Rn d 220 none 100 [none, none] [] h Q := by
  have hT := hX12_term
  unfold FX12_term_b100 at e
  obtain rfl := Option.some.inj e
  exact Rn.ret hT rfl rfl rfl (hq h hR)
def FX12_term (N : Nat) (s : iv_M) (q0 : Nat) : Option (iv_M) := ((FX12_value N s q0).bind fun s_2525 => ((FX12_blanks N s_2525 q0).bind fun s_2527 => (FX12_term_l8 N q0 (fun (s_2528 : iv_M) => (FX12_term_b100 N s_2528)) N s_2527)))
set_option maxRecDepth 10000 in
set_option maxHeartbeats 4000000 in
theorem RX12_term {d N nc Ls : Nat} {Xs : Nat → Int32} (hd : 13 ≤ d) {h : iv_H} {s : iv_M} (hR : Rep nc Ls Xs h s) {q0 : Nat} (t0 : T12 nc q0) {r : iv_M} {Q : Option Value → iv_H → Prop} (e : FX12_term N s q0 = some r) (hq : ∀ h1, Rep nc Ls Xs h1 r → Q none h1) : Cl d 220 [.ref q0] h Q := by
  obtain ⟨d, rfl⟩ : ∃ k, d = k + 1 := ⟨d - 1, by omega⟩
  have hd : 12 ≤ d := by omega
  have hT := hX12_term
  unfold FX12_term at e
  refine Cl.into (by decide) gX12_term rfl ?_
  show Rn d 220 none 0 [some (.ref q0), none] [] h Q
  refine Rn.n hT 1 (pc' := 1) (L' := [some (.ref q0), none]) (st' := [.ref q0]) rfl ?_
  obtain ⟨s_2525, e_2524, e⟩ := Option.bind_eq_some_iff.mp e
  refine Rn.call hT rfl rfl rfl (Nat.le_of_ble_eq_true rfl) (rcv_v gX12_value (by omega) (rp_ck hR (T12_o t0))) (RX12_value (by omega) hR t0 e_2524 (fun h_2525 R_2525 => ?_))
  show Rn d _ _ 4 [some (.ref q0), none] [] h_2525 Q
  refine Rn.n hT 1 (pc' := 5) (L' := [some (.ref q0), none]) (st' := [.ref q0]) rfl ?_
  obtain ⟨s_2527, e_2526, e⟩ := Option.bind_eq_some_iff.mp e
  refine Rn.call hT rfl rfl rfl (Nat.le_of_ble_eq_true rfl) (rcv_v gX12_blanks (by omega) (rp_ck R_2525 (T12_o t0))) (RX12_blanks (by omega) R_2525 t0 e_2526 (fun h_2527 R_2527 => ?_))
  show Rn d _ _ 8 [some (.ref q0), none] [] h_2527 Q
  refine Rn.weak (ll_s (ll_n ll_e)) (RX12_term_l8 hd t0 (fun h_2528 s_2528 R_2528 e => ?_) hq N h_2527 s_2527 R_2527 e)
  try dsimp only at e
  exact Rn.weak (ll_n (ll_n ll_e)) (RX12_term_b100 hd R_2528 hq e)
set_option maxRecDepth 10000 in
theorem hX12_sum : iv_Tb 221 tX12_sum := iv_tb_of (m := mX12_sum) rfl
set_option maxRecDepth 10000 in
theorem gX12_sum : PG.2 221 = some mX12_sum := iv_pi_of (t := tX12_sum) rfl (by decide)
def FX12_sum_b43 (N : Nat) (s : iv_M) (q0 : Nat) (xs0 : Int) (kb : iv_M → Option (iv_M)) (kx : iv_M → Option (iv_M)) : Option (iv_M) := ((pt s q0 29 (w32 ((s q0 29) + 1))).bind fun s_2564 => ((FX12_term N s_2564 q0).bind fun s_2567 => ((FX12_entry N s_2567 q0 xs0 0).bind fun s_2569 => (kb s_2569))))
set_option maxRecDepth 10000 in
set_option maxHeartbeats 4000000 in
theorem RX12_sum_b43 {d N nc Ls : Nat} {Xs : Nat → Int32} (hd : 13 ≤ d) {h : iv_H} {s : iv_M} (hR : Rep nc Ls Xs h s) {q0 : Nat} (t0 : T12 nc q0) {ms0 : Int32} {xs0 : Int} (ps0 : ms0.toInt = xs0) {kb : iv_M → Option (iv_M)} {kx : iv_M → Option (iv_M)} {r : iv_M} {Q : Option Value → iv_H → Prop} (hb : ∀ (h : iv_H) (s : iv_M) (hR : Rep nc Ls Xs h s), kb s = some r → Rn d 221 none 4 [some (.ref q0), none] [] h Q) (hk : ∀ (h : iv_H) (s : iv_M) (hR : Rep nc Ls Xs h s), kx s = some r → Rn d 221 none 67 [none, none] [] h Q) (hq : ∀ h1, Rep nc Ls Xs h1 r → Q none h1) (e : FX12_sum_b43 N s q0 xs0 kb kx = some r) : Rn d 221 none 43 [some (.ref q0), none] [.int ms0] h Q := by
  have hT := hX12_sum
  unfold FX12_sum_b43 at e
  refine Rn.n hT 3 (pc' := 46) (L' := [some (.ref q0), some (.int ms0)]) (st' := [.ref q0, .ref q0]) rfl ?_
  obtain ⟨z_2563, g_2563, p_2563⟩ : ∃ z : Int32, gI h 12 29 q0 = some z ∧ z.toInt = s q0 29 := rp_gI (k := 29) hR (T12_o t0) rfl
  refine Rn.hp hT rfl rfl (gI_hp g_2563) ?_
  refine Rn.n hT 2 (pc' := 51) (L' := [some (.ref q0), some (.int ms0)]) (st' := [.int (z_2563 + (1 : Int32)), .ref q0]) rfl ?_
  obtain ⟨s_2564, e_2565, e⟩ := Option.bind_eq_some_iff.mp e
  obtain ⟨h_2564, g_2565, R_2564⟩ := rp_pI (ci := 12) (k := 29) hR (T12_o t0) rfl rfl (ti_add p_2563 L32_1) e_2565
  refine Rn.hp hT rfl rfl (pV_hp rfl g_2565) ?_
  refine Rn.n hT 1 (pc' := 55) (L' := [some (.ref q0), some (.int ms0)]) (st' := [.ref q0]) rfl ?_
  obtain ⟨s_2567, e_2566, e⟩ := Option.bind_eq_some_iff.mp e
  refine Rn.call hT rfl rfl rfl (Nat.le_of_ble_eq_true rfl) (rcv_v gX12_term (by omega) (rp_ck R_2564 (T12_o t0))) (RX12_term (by omega) R_2564 t0 e_2566 (fun h_2567 R_2567 => ?_))
  show Rn d _ _ 58 [some (.ref q0), some (.int ms0)] [] h_2567 Q
  refine Rn.n hT 3 (pc' := 61) (L' := [some (.ref q0), some (.int ms0)]) (st' := [.int (0 : Int32), .int ms0, .ref q0]) rfl ?_
  obtain ⟨s_2569, e_2568, e⟩ := Option.bind_eq_some_iff.mp e
  refine Rn.call hT rfl rfl rfl (Nat.le_of_ble_eq_true rfl) (rcv_v gX12_entry (by omega) (rp_ck R_2567 (T12_o t0))) (RX12_entry (by omega) R_2567 t0 ps0 L32_0 e_2568 (fun h_2569 R_2569 => ?_))
  show Rn d _ _ 64 [some (.ref q0), some (.int ms0)] [] h_2569 Q
  refine Rn.n hT 1 (pc' := 4) (L' := [some (.ref q0), some (.int ms0)]) (st' := []) rfl ?_
  exact Rn.weak (ll_s (ll_n ll_e)) (hb h_2569 s_2569 R_2569 e)
def FX12_sum_b29 (N : Nat) (s : iv_M) (q0 : Nat)  (kb : iv_M → Option (iv_M)) (kx : iv_M → Option (iv_M)) : Option (iv_M) := ((FX12_sign N s q0).bind fun v_2561 => (if v_2561 = 43 then (FX12_sum_b43 N s q0 2 kb kx) else (FX12_sum_b43 N s q0 3 kb kx)))
set_option maxRecDepth 10000 in
set_option maxHeartbeats 4000000 in
theorem RX12_sum_b29 {d N nc Ls : Nat} {Xs : Nat → Int32} (hd : 13 ≤ d) {h : iv_H} {s : iv_M} (hR : Rep nc Ls Xs h s) {q0 : Nat} (t0 : T12 nc q0)  {kb : iv_M → Option (iv_M)} {kx : iv_M → Option (iv_M)} {r : iv_M} {Q : Option Value → iv_H → Prop} (hb : ∀ (h : iv_H) (s : iv_M) (hR : Rep nc Ls Xs h s), kb s = some r → Rn d 221 none 4 [some (.ref q0), none] [] h Q) (hk : ∀ (h : iv_H) (s : iv_M) (hR : Rep nc Ls Xs h s), kx s = some r → Rn d 221 none 67 [none, none] [] h Q) (hq : ∀ h1, Rep nc Ls Xs h1 r → Q none h1) (e : FX12_sum_b29 N s q0  kb kx = some r) : Rn d 221 none 29 [some (.ref q0), none] [] h Q := by
  have hT := hX12_sum
  unfold FX12_sum_b29 at e
  refine Rn.n hT 1 (pc' := 30) (L' := [some (.ref q0), none]) (st' := [.ref q0]) rfl ?_
  obtain ⟨v_2561, e_2561, e⟩ := Option.bind_eq_some_iff.mp e
  refine Rn.call hT rfl rfl rfl (Nat.le_of_ble_eq_true rfl) (rcv_v gX12_sign (by omega) (rp_ck hR (T12_o t0))) (RX12_sign (by omega) hR t0 e_2561 (fun z_2561 p_2561 => ?_))
  show Rn d _ _ 33 [some (.ref q0), none] [.int z_2561] h Q
  refine Rn.n hT 1 (pc' := 35) (L' := [some (.ref q0), none]) (st' := [.int (43 : Int32), .int z_2561]) rfl ?_
  by_cases c_2562 : v_2561 = 43
  · rw [if_pos c_2562] at e
    refine Rn.bf hT rfl rfl rfl (decide_eq_false (fun z => z ((ti_e p_2561 L32_43).mpr c_2562))) ?_
    refine Rn.n hT 2 (pc' := 43) (L' := [some (.ref q0), none]) (st' := [.int (2 : Int32)]) rfl ?_
    exact Rn.weak (ll_s (ll_n ll_e)) (RX12_sum_b43 hd hR t0 L32_2 hb hk hq e)
  · rw [if_neg c_2562] at e
    refine Rn.bt hT rfl rfl rfl (decide_eq_true (fun z => c_2562 ((ti_e p_2561 L32_43).mp z))) ?_
    refine Rn.n hT 1 (pc' := 43) (L' := [some (.ref q0), none]) (st' := [.int (3 : Int32)]) rfl ?_
    exact Rn.weak (ll_s (ll_n ll_e)) (RX12_sum_b43 hd hR t0 L32_3 hb hk hq e)
def FX12_sum_l4 (N : Nat) (q0 : Nat) (kx : iv_M → Option (iv_M)) : Nat → iv_M → Option (iv_M)
  | 0, _ => none
  | n + 1, s => (if (s q0 30) = 0 then ((FX12_sign N s q0).bind fun v_2557 => (if v_2557 = 43 then (FX12_sum_b29 N s q0 (FX12_sum_l4 N q0 kx n) kx) else ((FX12_sign N s q0).bind fun v_2559 => (if v_2559 = 45 then (FX12_sum_b29 N s q0 (FX12_sum_l4 N q0 kx n) kx) else (kx s))))) else (kx s))
set_option maxRecDepth 10000 in
set_option maxHeartbeats 4000000 in
theorem RX12_sum_l4 {d N nc Ls : Nat} {Xs : Nat → Int32} (hd : 13 ≤ d) {q0 : Nat} (t0 : T12 nc q0) {kx : iv_M → Option (iv_M)} {r : iv_M} {Q : Option Value → iv_H → Prop} (hk : ∀ (h : iv_H) (s : iv_M) (hR : Rep nc Ls Xs h s), kx s = some r → Rn d 221 none 67 [none, none] [] h Q) (hq : ∀ h1, Rep nc Ls Xs h1 r → Q none h1) : ∀ (n : Nat) (h : iv_H) (s : iv_M) (hR : Rep nc Ls Xs h s), FX12_sum_l4 N q0 kx n s = some r → Rn d 221 none 4 [some (.ref q0), none] [] h Q := by
  have hT := hX12_sum
  intro n
  induction n with
  | zero =>
    intro h s hR e
    rw [FX12_sum_l4] at e
    cases e
  | succ n ih =>
    intro h s hR e
    rw [FX12_sum_l4] at e
    refine Rn.n hT 1 (pc' := 5) (L' := [some (.ref q0), none]) (st' := [.ref q0]) rfl ?_
    obtain ⟨z_2555, g_2555, p_2555⟩ : ∃ z : Int32, gI h 12 30 q0 = some z ∧ z.toInt = s q0 30 := rp_gI (k := 30) hR (T12_o t0) rfl
    refine Rn.hp hT rfl rfl (gI_hp g_2555) ?_
    by_cases c_2556 : (s q0 30) = 0
    · rw [if_pos c_2556] at e
      refine Rn.bf hT rfl rfl rfl (decide_eq_false (fun z => z ((ti_e p_2555 L32_0).mpr c_2556))) ?_
      refine Rn.n hT 1 (pc' := 12) (L' := [some (.ref q0), none]) (st' := [.ref q0]) rfl ?_
      obtain ⟨v_2557, e_2557, e⟩ := Option.bind_eq_some_iff.mp e
      refine Rn.call hT rfl rfl rfl (Nat.le_of_ble_eq_true rfl) (rcv_v gX12_sign (by omega) (rp_ck hR (T12_o t0))) (RX12_sign (by omega) hR t0 e_2557 (fun z_2557 p_2557 => ?_))
      show Rn d _ _ 15 [some (.ref q0), none] [.int z_2557] h Q
      refine Rn.n hT 1 (pc' := 17) (L' := [some (.ref q0), none]) (st' := [.int (43 : Int32), .int z_2557]) rfl ?_
      by_cases c_2558 : v_2557 = 43
      · rw [if_pos c_2558] at e
        refine Rn.bt hT rfl rfl rfl (decide_eq_true ((ti_e p_2557 L32_43).mpr c_2558)) ?_
        exact Rn.weak (ll_s (ll_n ll_e)) (RX12_sum_b29 hd hR t0 ih hk hq e)
      · rw [if_neg c_2558] at e
        refine Rn.bf hT rfl rfl rfl (decide_eq_false (fun z => c_2558 ((ti_e p_2557 L32_43).mp z))) ?_
        refine Rn.n hT 1 (pc' := 21) (L' := [some (.ref q0), none]) (st' := [.ref q0]) rfl ?_
        obtain ⟨v_2559, e_2559, e⟩ := Option.bind_eq_some_iff.mp e
        refine Rn.call hT rfl rfl rfl (Nat.le_of_ble_eq_true rfl) (rcv_v gX12_sign (by omega) (rp_ck hR (T12_o t0))) (RX12_sign (by omega) hR t0 e_2559 (fun z_2559 p_2559 => ?_))
        show Rn d _ _ 24 [some (.ref q0), none] [.int z_2559] h Q
        refine Rn.n hT 1 (pc' := 26) (L' := [some (.ref q0), none]) (st' := [.int (45 : Int32), .int z_2559]) rfl ?_
        by_cases c_2560 : v_2559 = 45
        · rw [if_pos c_2560] at e
          refine Rn.bf hT rfl rfl rfl (decide_eq_false (fun z => z ((ti_e p_2559 L32_45).mpr c_2560))) ?_
          exact Rn.weak (ll_s (ll_n ll_e)) (RX12_sum_b29 hd hR t0 ih hk hq e)
        · rw [if_neg c_2560] at e
          refine Rn.bt hT rfl rfl rfl (decide_eq_true (fun z => c_2560 ((ti_e p_2559 L32_45).mp z))) ?_
          exact Rn.weak (ll_n (ll_n ll_e)) (hk h s hR e)
    · rw [if_neg c_2556] at e
      refine Rn.bt hT rfl rfl rfl (decide_eq_true (fun z => c_2556 ((ti_e p_2555 L32_0).mp z))) ?_
      exact Rn.weak (ll_n (ll_n ll_e)) (hk h s hR e)
def FX12_sum_b67 (N : Nat) (s : iv_M)   : Option (iv_M) := some s
set_option maxRecDepth 10000 in
set_option maxHeartbeats 4000000 in
theorem RX12_sum_b67 {d N nc Ls : Nat} {Xs : Nat → Int32} (hd : 13 ≤ d) {h : iv_H} {s : iv_M} (hR : Rep nc Ls Xs h s)   {r : iv_M} {Q : Option Value → iv_H → Prop} (hq : ∀ h1, Rep nc Ls Xs h1 r → Q none h1) (e : FX12_sum_b67 N s   = some r) : Rn d 221 none 67 [none, none] [] h Q := by
  have hT := hX12_sum
  unfold FX12_sum_b67 at e
  obtain rfl := Option.some.inj e
  exact Rn.ret hT rfl rfl rfl (hq h hR)
def FX12_sum (N : Nat) (s : iv_M) (q0 : Nat) : Option (iv_M) := ((FX12_term N s q0).bind fun s_2552 => (FX12_sum_l4 N q0 (fun (s_2553 : iv_M) => (FX12_sum_b67 N s_2553)) N s_2552))
set_option maxRecDepth 10000 in
set_option maxHeartbeats 4000000 in
theorem RX12_sum {d N nc Ls : Nat} {Xs : Nat → Int32} (hd : 14 ≤ d) {h : iv_H} {s : iv_M} (hR : Rep nc Ls Xs h s) {q0 : Nat} (t0 : T12 nc q0) {r : iv_M} {Q : Option Value → iv_H → Prop} (e : FX12_sum N s q0 = some r) (hq : ∀ h1, Rep nc Ls Xs h1 r → Q none h1) : Cl d 221 [.ref q0] h Q := by
  obtain ⟨d, rfl⟩ : ∃ k, d = k + 1 := ⟨d - 1, by omega⟩
  have hd : 13 ≤ d := by omega
  have hT := hX12_sum
  unfold FX12_sum at e
  refine Cl.into (by decide) gX12_sum rfl ?_
  show Rn d 221 none 0 [some (.ref q0), none] [] h Q
  refine Rn.n hT 1 (pc' := 1) (L' := [some (.ref q0), none]) (st' := [.ref q0]) rfl ?_
  obtain ⟨s_2552, e_2551, e⟩ := Option.bind_eq_some_iff.mp e
  refine Rn.call hT rfl rfl rfl (Nat.le_of_ble_eq_true rfl) (rcv_v gX12_term (by omega) (rp_ck hR (T12_o t0))) (RX12_term (by omega) hR t0 e_2551 (fun h_2552 R_2552 => ?_))
  show Rn d _ _ 4 [some (.ref q0), none] [] h_2552 Q
  refine Rn.weak (ll_s (ll_n ll_e)) (RX12_sum_l4 hd t0 (fun h_2553 s_2553 R_2553 e => ?_) hq N h_2552 s_2552 R_2552 e)
  try dsimp only at e
  exact Rn.weak (ll_n (ll_n ll_e)) (RX12_sum_b67 hd R_2553 hq e)
set_option maxRecDepth 10000 in
theorem hX12_compared : iv_Tb 222 tX12_compared := iv_tb_of (m := mX12_compared) rfl
set_option maxRecDepth 10000 in
theorem gX12_compared : PG.2 222 = some mX12_compared := iv_pi_of (t := tX12_compared) rfl (by decide)
def FX12_compared_b139 (N : Nat) (s : iv_M)  (xs0 : Int) (qs1 : Nat) : Option (iv_M) := ((FX12_entry N s qs1 xs0 0).bind fun s_2599 => some s_2599)
set_option maxRecDepth 10000 in
set_option maxHeartbeats 4000000 in
theorem RX12_compared_b139 {d N nc Ls : Nat} {Xs : Nat → Int32} (hd : 14 ≤ d) {h : iv_H} {s : iv_M} (hR : Rep nc Ls Xs h s)  {ms0 : Int32} {xs0 : Int} (ps0 : ms0.toInt = xs0) {qs1 : Nat} (ts1 : T12 nc qs1) {r : iv_M} {Q : Option Value → iv_H → Prop} (hq : ∀ h1, Rep nc Ls Xs h1 r → Q none h1) (e : FX12_compared_b139 N s  xs0 qs1 = some r) : Rn d 222 none 139 [none, none, none] [.int ms0, .ref qs1] h Q := by
  have hT := hX12_compared
  unfold FX12_compared_b139 at e
  refine Rn.n hT 1 (pc' := 140) (L' := [none, none, none]) (st' := [.int (0 : Int32), .int ms0, .ref qs1]) rfl ?_
  obtain ⟨s_2599, e_2598, e⟩ := Option.bind_eq_some_iff.mp e
  refine Rn.call hT rfl rfl rfl (Nat.le_of_ble_eq_true rfl) (rcv_v gX12_entry (by omega) (rp_ck hR (T12_o ts1))) (RX12_entry (by omega) hR ts1 ps0 L32_0 e_2598 (fun h_2599 R_2599 => ?_))
  show Rn d _ _ 143 [none, none, none] [] h_2599 Q
  obtain rfl := Option.some.inj e
  exact Rn.ret hT rfl rfl rfl (hq h_2599 R_2599)
def FX12_compared_b90 (N : Nat) (s : iv_M) (q0 : Nat) (x1 : Int) (x2 : Int) (xs0 : Int) (xs1 : Int) (qs2 : Nat) : Option (iv_M) := ((pt s qs2 29 (w32 (xs1 + xs0))).bind fun s_2590 => ((FX12_sum N s_2590 q0).bind fun s_2593 => (if x1 = 61 then (FX12_compared_b139 N s_2593 6 q0) else (if x1 = 60 then (if x2 = 0 then (FX12_compared_b139 N s_2593 4 q0) else (FX12_compared_b139 N s_2593 5 q0)) else (if x2 = 0 then (FX12_compared_b139 N s_2593 8 q0) else (FX12_compared_b139 N s_2593 7 q0))))))
set_option maxRecDepth 10000 in
set_option maxHeartbeats 4000000 in
theorem RX12_compared_b90 {d N nc Ls : Nat} {Xs : Nat → Int32} (hd : 14 ≤ d) {h : iv_H} {s : iv_M} (hR : Rep nc Ls Xs h s) {q0 : Nat} (t0 : T12 nc q0) {m1 : Int32} {x1 : Int} (p1 : m1.toInt = x1) {m2 : Int32} {x2 : Int} (p2 : m2.toInt = x2) {ms0 : Int32} {xs0 : Int} (ps0 : ms0.toInt = xs0) {ms1 : Int32} {xs1 : Int} (ps1 : ms1.toInt = xs1) {qs2 : Nat} (ts2 : T12 nc qs2) {r : iv_M} {Q : Option Value → iv_H → Prop} (hq : ∀ h1, Rep nc Ls Xs h1 r → Q none h1) (e : FX12_compared_b90 N s q0 x1 x2 xs0 xs1 qs2 = some r) : Rn d 222 none 90 [some (.ref q0), some (.int m1), some (.int m2)] [.int ms0, .int ms1, .ref qs2] h Q := by
  have hT := hX12_compared
  unfold FX12_compared_b90 at e
  refine Rn.n hT 1 (pc' := 91) (L' := [some (.ref q0), some (.int m1), some (.int m2)]) (st' := [.int (ms1 + ms0), .ref qs2]) rfl ?_
  obtain ⟨s_2590, e_2591, e⟩ := Option.bind_eq_some_iff.mp e
  obtain ⟨h_2590, g_2591, R_2590⟩ := rp_pI (ci := 12) (k := 29) hR (T12_o ts2) rfl rfl (ti_add ps1 ps0) e_2591
  refine Rn.hp hT rfl rfl (pV_hp rfl g_2591) ?_
  refine Rn.n hT 1 (pc' := 95) (L' := [some (.ref q0), some (.int m1), some (.int m2)]) (st' := [.ref q0]) rfl ?_
  obtain ⟨s_2593, e_2592, e⟩ := Option.bind_eq_some_iff.mp e
  refine Rn.call hT rfl rfl rfl (Nat.le_of_ble_eq_true rfl) (rcv_v gX12_sum (by omega) (rp_ck R_2590 (T12_o t0))) (RX12_sum (by omega) R_2590 t0 e_2592 (fun h_2593 R_2593 => ?_))
  show Rn d _ _ 98 [some (.ref q0), some (.int m1), some (.int m2)] [] h_2593 Q
  refine Rn.n hT 3 (pc' := 102) (L' := [some (.ref q0), some (.int m1), some (.int m2)]) (st' := [.int (61 : Int32), .int m1, .ref q0]) rfl ?_
  by_cases c_2594 : x1 = 61
  · rw [if_pos c_2594] at e
    refine Rn.bf hT rfl rfl rfl (decide_eq_false (fun z => z ((ti_e p1 L32_61).mpr c_2594))) ?_
    refine Rn.n hT 2 (pc' := 139) (L' := [some (.ref q0), some (.int m1), some (.int m2)]) (st' := [.int (6 : Int32), .ref q0]) rfl ?_
    exact Rn.weak (ll_n (ll_n (ll_n ll_e))) (RX12_compared_b139 hd R_2593 L32_6 t0 hq e)
  · rw [if_neg c_2594] at e
    refine Rn.bt hT rfl rfl rfl (decide_eq_true (fun z => c_2594 ((ti_e p1 L32_61).mp z))) ?_
    refine Rn.n hT 2 (pc' := 113) (L' := [some (.ref q0), some (.int m1), some (.int m2)]) (st' := [.int (60 : Int32), .int m1, .ref q0]) rfl ?_
    by_cases c_2595 : x1 = 60
    · rw [if_pos c_2595] at e
      refine Rn.bf hT rfl rfl rfl (decide_eq_false (fun z => z ((ti_e p1 L32_60).mpr c_2595))) ?_
      refine Rn.n hT 1 (pc' := 117) (L' := [some (.ref q0), some (.int m1), some (.int m2)]) (st' := [.int m2, .ref q0]) rfl ?_
      by_cases c_2597 : x2 = 0
      · rw [if_pos c_2597] at e
        refine Rn.bt hT rfl rfl rfl (decide_eq_true ((ti_e p2 L32_0).mpr c_2597)) ?_
        refine Rn.n hT 2 (pc' := 139) (L' := [some (.ref q0), some (.int m1), some (.int m2)]) (st' := [.int (4 : Int32), .ref q0]) rfl ?_
        exact Rn.weak (ll_n (ll_n (ll_n ll_e))) (RX12_compared_b139 hd R_2593 L32_4 t0 hq e)
      · rw [if_neg c_2597] at e
        refine Rn.bf hT rfl rfl rfl (decide_eq_false (fun z => c_2597 ((ti_e p2 L32_0).mp z))) ?_
        refine Rn.n hT 2 (pc' := 139) (L' := [some (.ref q0), some (.int m1), some (.int m2)]) (st' := [.int (5 : Int32), .ref q0]) rfl ?_
        exact Rn.weak (ll_n (ll_n (ll_n ll_e))) (RX12_compared_b139 hd R_2593 L32_5 t0 hq e)
    · rw [if_neg c_2595] at e
      refine Rn.bt hT rfl rfl rfl (decide_eq_true (fun z => c_2595 ((ti_e p1 L32_60).mp z))) ?_
      refine Rn.n hT 1 (pc' := 129) (L' := [some (.ref q0), some (.int m1), some (.int m2)]) (st' := [.int m2, .ref q0]) rfl ?_
      by_cases c_2596 : x2 = 0
      · rw [if_pos c_2596] at e
        refine Rn.bt hT rfl rfl rfl (decide_eq_true ((ti_e p2 L32_0).mpr c_2596)) ?_
        refine Rn.n hT 1 (pc' := 139) (L' := [some (.ref q0), some (.int m1), some (.int m2)]) (st' := [.int (8 : Int32), .ref q0]) rfl ?_
        exact Rn.weak (ll_n (ll_n (ll_n ll_e))) (RX12_compared_b139 hd R_2593 L32_8 t0 hq e)
      · rw [if_neg c_2596] at e
        refine Rn.bf hT rfl rfl rfl (decide_eq_false (fun z => c_2596 ((ti_e p2 L32_0).mp z))) ?_
        refine Rn.n hT 2 (pc' := 139) (L' := [some (.ref q0), some (.int m1), some (.int m2)]) (st' := [.int (7 : Int32), .ref q0]) rfl ?_
        exact Rn.weak (ll_n (ll_n (ll_n ll_e))) (RX12_compared_b139 hd R_2593 L32_7 t0 hq e)
def FX12_compared_b75 (N : Nat) (s : iv_M) (q0 : Nat) (x1 : Int) (xs0 : Int) : Option (iv_M) := (if xs0 = 0 then (FX12_compared_b90 N s q0 x1 xs0 0 (s q0 29) q0) else (FX12_compared_b90 N s q0 x1 xs0 1 (s q0 29) q0))
set_option maxRecDepth 10000 in
set_option maxHeartbeats 4000000 in
theorem RX12_compared_b75 {d N nc Ls : Nat} {Xs : Nat → Int32} (hd : 14 ≤ d) {h : iv_H} {s : iv_M} (hR : Rep nc Ls Xs h s) {q0 : Nat} (t0 : T12 nc q0) {m1 : Int32} {x1 : Int} (p1 : m1.toInt = x1) {ms0 : Int32} {xs0 : Int} (ps0 : ms0.toInt = xs0) {r : iv_M} {Q : Option Value → iv_H → Prop} (hq : ∀ h1, Rep nc Ls Xs h1 r → Q none h1) (e : FX12_compared_b75 N s q0 x1 xs0 = some r) : Rn d 222 none 75 [some (.ref q0), some (.int m1), none] [.int ms0] h Q := by
  have hT := hX12_compared
  unfold FX12_compared_b75 at e
  refine Rn.n hT 3 (pc' := 78) (L' := [some (.ref q0), some (.int m1), some (.int ms0)]) (st' := [.ref q0, .ref q0]) rfl ?_
  obtain ⟨z_2588, g_2588, p_2588⟩ : ∃ z : Int32, gI h 12 29 q0 = some z ∧ z.toInt = s q0 29 := rp_gI (k := 29) hR (T12_o t0) rfl
  refine Rn.hp hT rfl rfl (gI_hp g_2588) ?_
  refine Rn.n hT 1 (pc' := 82) (L' := [some (.ref q0), some (.int m1), some (.int ms0)]) (st' := [.int ms0, .int z_2588, .ref q0]) rfl ?_
  by_cases c_2589 : xs0 = 0
  · rw [if_pos c_2589] at e
    refine Rn.bt hT rfl rfl rfl (decide_eq_true ((ti_e ps0 L32_0).mpr c_2589)) ?_
    refine Rn.n hT 1 (pc' := 90) (L' := [some (.ref q0), some (.int m1), some (.int ms0)]) (st' := [.int (0 : Int32), .int z_2588, .ref q0]) rfl ?_
    exact Rn.weak (ll_s (ll_s (ll_s ll_e))) (RX12_compared_b90 hd hR t0 p1 ps0 L32_0 p_2588 t0 hq e)
  · rw [if_neg c_2589] at e
    refine Rn.bf hT rfl rfl rfl (decide_eq_false (fun z => c_2589 ((ti_e ps0 L32_0).mp z))) ?_
    refine Rn.n hT 2 (pc' := 90) (L' := [some (.ref q0), some (.int m1), some (.int ms0)]) (st' := [.int (1 : Int32), .int z_2588, .ref q0]) rfl ?_
    exact Rn.weak (ll_s (ll_s (ll_s ll_e))) (RX12_compared_b90 hd hR t0 p1 ps0 L32_1 p_2588 t0 hq e)
def FX12_compared_b74 (N : Nat) (s : iv_M) (q0 : Nat) (x1 : Int)  : Option (iv_M) := (FX12_compared_b75 N s q0 x1 0)
set_option maxRecDepth 10000 in
set_option maxHeartbeats 4000000 in
theorem RX12_compared_b74 {d N nc Ls : Nat} {Xs : Nat → Int32} (hd : 14 ≤ d) {h : iv_H} {s : iv_M} (hR : Rep nc Ls Xs h s) {q0 : Nat} (t0 : T12 nc q0) {m1 : Int32} {x1 : Int} (p1 : m1.toInt = x1)  {r : iv_M} {Q : Option Value → iv_H → Prop} (hq : ∀ h1, Rep nc Ls Xs h1 r → Q none h1) (e : FX12_compared_b74 N s q0 x1  = some r) : Rn d 222 none 74 [some (.ref q0), some (.int m1), none] [] h Q := by
  have hT := hX12_compared
  unfold FX12_compared_b74 at e
  refine Rn.n hT 1 (pc' := 75) (L' := [some (.ref q0), some (.int m1), none]) (st' := [.int (0 : Int32)]) rfl ?_
  exact Rn.weak (ll_s (ll_s (ll_n ll_e))) (RX12_compared_b75 hd hR t0 p1 L32_0 hq e)
def FX12_compared_b37 (N : Nat) (s : iv_M) (q0 : Nat) (x1 : Int)  : Option (iv_M) := ((FX12_isCounted N s q0 (s q0 29)).bind fun s_2581 => ((pt s_2581 q0 29 (w32 ((s_2581 q0 29) + 1))).bind fun s_2583 => (if x1 = 61 then (FX12_compared_b74 N s_2583 q0 x1) else ((FX12_sign N s_2583 q0).bind fun v_2586 => (if v_2586 = 61 then (FX12_compared_b75 N s_2583 q0 x1 1) else (FX12_compared_b74 N s_2583 q0 x1))))))
set_option maxRecDepth 10000 in
set_option maxHeartbeats 4000000 in
theorem RX12_compared_b37 {d N nc Ls : Nat} {Xs : Nat → Int32} (hd : 14 ≤ d) {h : iv_H} {s : iv_M} (hR : Rep nc Ls Xs h s) {q0 : Nat} (t0 : T12 nc q0) {m1 : Int32} {x1 : Int} (p1 : m1.toInt = x1)  {r : iv_M} {Q : Option Value → iv_H → Prop} (hq : ∀ h1, Rep nc Ls Xs h1 r → Q none h1) (e : FX12_compared_b37 N s q0 x1  = some r) : Rn d 222 none 37 [some (.ref q0), some (.int m1), none] [] h Q := by
  have hT := hX12_compared
  unfold FX12_compared_b37 at e
  refine Rn.n hT 2 (pc' := 39) (L' := [some (.ref q0), some (.int m1), none]) (st' := [.ref q0, .ref q0]) rfl ?_
  obtain ⟨z_2579, g_2579, p_2579⟩ : ∃ z : Int32, gI h 12 29 q0 = some z ∧ z.toInt = s q0 29 := rp_gI (k := 29) hR (T12_o t0) rfl
  refine Rn.hp hT rfl rfl (gI_hp g_2579) ?_
  obtain ⟨s_2581, e_2580, e⟩ := Option.bind_eq_some_iff.mp e
  refine Rn.call hT rfl rfl rfl (Nat.le_of_ble_eq_true rfl) (rcv_v gX12_isCounted (by omega) (rp_ck hR (T12_o t0))) (RX12_isCounted (by omega) hR t0 p_2579 e_2580 (fun h_2581 R_2581 => ?_))
  show Rn d _ _ 45 [some (.ref q0), some (.int m1), none] [] h_2581 Q
  refine Rn.n hT 2 (pc' := 47) (L' := [some (.ref q0), some (.int m1), none]) (st' := [.ref q0, .ref q0]) rfl ?_
  obtain ⟨z_2582, g_2582, p_2582⟩ : ∃ z : Int32, gI h_2581 12 29 q0 = some z ∧ z.toInt = s_2581 q0 29 := rp_gI (k := 29) R_2581 (T12_o t0) rfl
  refine Rn.hp hT rfl rfl (gI_hp g_2582) ?_
  refine Rn.n hT 2 (pc' := 52) (L' := [some (.ref q0), some (.int m1), none]) (st' := [.int (z_2582 + (1 : Int32)), .ref q0]) rfl ?_
  obtain ⟨s_2583, e_2584, e⟩ := Option.bind_eq_some_iff.mp e
  obtain ⟨h_2583, g_2584, R_2583⟩ := rp_pI (ci := 12) (k := 29) R_2581 (T12_o t0) rfl rfl (ti_add p_2582 L32_1) e_2584
  refine Rn.hp hT rfl rfl (pV_hp rfl g_2584) ?_
  refine Rn.n hT 2 (pc' := 58) (L' := [some (.ref q0), some (.int m1), none]) (st' := [.int (61 : Int32), .int m1]) rfl ?_
  by_cases c_2585 : x1 = 61
  · rw [if_pos c_2585] at e
    refine Rn.bt hT rfl rfl rfl (decide_eq_true ((ti_e p1 L32_61).mpr c_2585)) ?_
    exact Rn.weak (ll_s (ll_s (ll_n ll_e))) (RX12_compared_b74 hd R_2583 t0 p1 hq e)
  · rw [if_neg c_2585] at e
    refine Rn.bf hT rfl rfl rfl (decide_eq_false (fun z => c_2585 ((ti_e p1 L32_61).mp z))) ?_
    refine Rn.n hT 1 (pc' := 62) (L' := [some (.ref q0), some (.int m1), none]) (st' := [.ref q0]) rfl ?_
    obtain ⟨v_2586, e_2586, e⟩ := Option.bind_eq_some_iff.mp e
    refine Rn.call hT rfl rfl rfl (Nat.le_of_ble_eq_true rfl) (rcv_v gX12_sign (by omega) (rp_ck R_2583 (T12_o t0))) (RX12_sign (by omega) R_2583 t0 e_2586 (fun z_2586 p_2586 => ?_))
    show Rn d _ _ 65 [some (.ref q0), some (.int m1), none] [.int z_2586] h_2583 Q
    refine Rn.n hT 1 (pc' := 67) (L' := [some (.ref q0), some (.int m1), none]) (st' := [.int (61 : Int32), .int z_2586]) rfl ?_
    by_cases c_2587 : v_2586 = 61
    · rw [if_pos c_2587] at e
      refine Rn.bf hT rfl rfl rfl (decide_eq_false (fun z => z ((ti_e p_2586 L32_61).mpr c_2587))) ?_
      refine Rn.n hT 2 (pc' := 75) (L' := [some (.ref q0), some (.int m1), none]) (st' := [.int (1 : Int32)]) rfl ?_
      exact Rn.weak (ll_s (ll_s (ll_n ll_e))) (RX12_compared_b75 hd R_2583 t0 p1 L32_1 hq e)
    · rw [if_neg c_2587] at e
      refine Rn.bt hT rfl rfl rfl (decide_eq_true (fun z => c_2587 ((ti_e p_2586 L32_61).mp z))) ?_
      exact Rn.weak (ll_s (ll_s (ll_n ll_e))) (RX12_compared_b74 hd R_2583 t0 p1 hq e)
def FX12_compared (N : Nat) (s : iv_M) (q0 : Nat) : Option (iv_M) := ((FX12_sum N s q0).bind fun s_2571 => ((FX12_sign N s_2571 q0).bind fun v_2572 => (if v_2572 = 60 then (FX12_compared_b37 N s_2571 q0 v_2572) else (if v_2572 = 61 then (FX12_compared_b37 N s_2571 q0 v_2572) else (if v_2572 = 62 then (FX12_compared_b37 N s_2571 q0 v_2572) else ((FX12_fails N s_2571 q0 0 (s_2571 q0 29)).bind fun s_2578 => some s_2578))))))
set_option maxRecDepth 10000 in
set_option maxHeartbeats 4000000 in
theorem RX12_compared {d N nc Ls : Nat} {Xs : Nat → Int32} (hd : 15 ≤ d) {h : iv_H} {s : iv_M} (hR : Rep nc Ls Xs h s) {q0 : Nat} (t0 : T12 nc q0) {r : iv_M} {Q : Option Value → iv_H → Prop} (e : FX12_compared N s q0 = some r) (hq : ∀ h1, Rep nc Ls Xs h1 r → Q none h1) : Cl d 222 [.ref q0] h Q := by
  obtain ⟨d, rfl⟩ : ∃ k, d = k + 1 := ⟨d - 1, by omega⟩
  have hd : 14 ≤ d := by omega
  have hT := hX12_compared
  unfold FX12_compared at e
  refine Cl.into (by decide) gX12_compared rfl ?_
  show Rn d 222 none 0 [some (.ref q0), none, none] [] h Q
  refine Rn.n hT 1 (pc' := 1) (L' := [some (.ref q0), none, none]) (st' := [.ref q0]) rfl ?_
  obtain ⟨s_2571, e_2570, e⟩ := Option.bind_eq_some_iff.mp e
  refine Rn.call hT rfl rfl rfl (Nat.le_of_ble_eq_true rfl) (rcv_v gX12_sum (by omega) (rp_ck hR (T12_o t0))) (RX12_sum (by omega) hR t0 e_2570 (fun h_2571 R_2571 => ?_))
  show Rn d _ _ 4 [some (.ref q0), none, none] [] h_2571 Q
  refine Rn.n hT 1 (pc' := 5) (L' := [some (.ref q0), none, none]) (st' := [.ref q0]) rfl ?_
  obtain ⟨v_2572, e_2572, e⟩ := Option.bind_eq_some_iff.mp e
  refine Rn.call hT rfl rfl rfl (Nat.le_of_ble_eq_true rfl) (rcv_v gX12_sign (by omega) (rp_ck R_2571 (T12_o t0))) (RX12_sign (by omega) R_2571 t0 e_2572 (fun z_2572 p_2572 => ?_))
  show Rn d _ _ 8 [some (.ref q0), none, none] [.int z_2572] h_2571 Q
  refine Rn.n hT 3 (pc' := 12) (L' := [some (.ref q0), some (.int z_2572), none]) (st' := [.int (60 : Int32), .int z_2572]) rfl ?_
  by_cases c_2573 : v_2572 = 60
  · rw [if_pos c_2573] at e
    refine Rn.bt hT rfl rfl rfl (decide_eq_true ((ti_e p_2572 L32_60).mpr c_2573)) ?_
    exact Rn.weak (ll_s (ll_s (ll_n ll_e))) (RX12_compared_b37 hd R_2571 t0 p_2572 hq e)
  · rw [if_neg c_2573] at e
    refine Rn.bf hT rfl rfl rfl (decide_eq_false (fun z => c_2573 ((ti_e p_2572 L32_60).mp z))) ?_
    refine Rn.n hT 2 (pc' := 18) (L' := [some (.ref q0), some (.int z_2572), none]) (st' := [.int (61 : Int32), .int z_2572]) rfl ?_
    by_cases c_2574 : v_2572 = 61
    · rw [if_pos c_2574] at e
      refine Rn.bt hT rfl rfl rfl (decide_eq_true ((ti_e p_2572 L32_61).mpr c_2574)) ?_
      exact Rn.weak (ll_s (ll_s (ll_n ll_e))) (RX12_compared_b37 hd R_2571 t0 p_2572 hq e)
    · rw [if_neg c_2574] at e
      refine Rn.bf hT rfl rfl rfl (decide_eq_false (fun z => c_2574 ((ti_e p_2572 L32_61).mp z))) ?_
      refine Rn.n hT 2 (pc' := 24) (L' := [some (.ref q0), some (.int z_2572), none]) (st' := [.int (62 : Int32), .int z_2572]) rfl ?_
      by_cases c_2575 : v_2572 = 62
      · rw [if_pos c_2575] at e
        refine Rn.bt hT rfl rfl rfl (decide_eq_true ((ti_e p_2572 L32_62).mpr c_2575)) ?_
        exact Rn.weak (ll_s (ll_s (ll_n ll_e))) (RX12_compared_b37 hd R_2571 t0 p_2572 hq e)
      · rw [if_neg c_2575] at e
        refine Rn.bf hT rfl rfl rfl (decide_eq_false (fun z => c_2575 ((ti_e p_2572 L32_62).mp z))) ?_
        refine Rn.n hT 3 (pc' := 30) (L' := [some (.ref q0), some (.int z_2572), none]) (st' := [.ref q0, .int (0 : Int32), .ref q0]) rfl ?_
        obtain ⟨z_2576, g_2576, p_2576⟩ : ∃ z : Int32, gI h_2571 12 29 q0 = some z ∧ z.toInt = s_2571 q0 29 := rp_gI (k := 29) R_2571 (T12_o t0) rfl
        refine Rn.hp hT rfl rfl (gI_hp g_2576) ?_
        obtain ⟨s_2578, e_2577, e⟩ := Option.bind_eq_some_iff.mp e
        refine Rn.call hT rfl rfl rfl (Nat.le_of_ble_eq_true rfl) (rcv_v gX12_fails (by omega) (rp_ck R_2571 (T12_o t0))) (RX12_fails (by omega) R_2571 t0 L32_0 p_2576 e_2577 (fun h_2578 R_2578 => ?_))
        show Rn d _ _ 36 [some (.ref q0), some (.int z_2572), none] [] h_2578 Q
        obtain rfl := Option.some.inj e
        exact Rn.ret hT rfl rfl rfl (hq h_2578 R_2578)
set_option maxRecDepth 10000 in
theorem hX12_top : iv_Tb 223 tX12_top := iv_tb_of (m := mX12_top) rfl
set_option maxRecDepth 10000 in
theorem gX12_top : PG.2 223 = some mX12_top := iv_pi_of (t := tX12_top) rfl (by decide)
def FX12_top_b22 (N : Nat) (s : iv_M)  (xs0 : Int) : Option (Int) := (some xs0)
set_option maxRecDepth 10000 in
set_option maxHeartbeats 4000000 in
theorem RX12_top_b22 {d N nc Ls : Nat} {Xs : Nat → Int32} (hd : 0 ≤ d) {h : iv_H} {s : iv_M} (hR : Rep nc Ls Xs h s)  {ms0 : Int32} {xs0 : Int} (ps0 : ms0.toInt = xs0) {r : Int} {Q : Option Value → iv_H → Prop} (hq : ∀ (z : Int32), z.toInt = r → Q (some (.int z)) h) (e : FX12_top_b22 N s  xs0 = some r) : Rn d 223 (some .int) 22 [none] [.int ms0] h Q := by
  have hT := hX12_top
  unfold FX12_top_b22 at e
  obtain rfl := Option.some.inj e
  exact Rn.ret hT rfl rfl rfl (hq ms0 ps0)
def FX12_top (N : Nat) (s : iv_M) (q0 : Nat) : Option (Int) := (if (s q0 36) = 0 then (FX12_top_b22 N s (-1)) else ((rd s (q0 + 32) 402 (w32 ((s q0 36) - 1))).bind fun v_2603 => (FX12_top_b22 N s v_2603)))
set_option maxRecDepth 10000 in
set_option maxHeartbeats 4000000 in
theorem RX12_top {d N nc Ls : Nat} {Xs : Nat → Int32} (hd : 1 ≤ d) {h : iv_H} {s : iv_M} (hR : Rep nc Ls Xs h s) {q0 : Nat} (t0 : T12 nc q0) {r : Int} {Q : Option Value → iv_H → Prop} (e : FX12_top N s q0 = some r) (hq : ∀ (z : Int32), z.toInt = r → Q (some (.int z)) h) : Cl d 223 [.ref q0] h Q := by
  obtain ⟨d, rfl⟩ : ∃ k, d = k + 1 := ⟨d - 1, by omega⟩
  have hd : 0 ≤ d := by omega
  have hT := hX12_top
  unfold FX12_top at e
  refine Cl.into (by decide) gX12_top rfl ?_
  show Rn d 223 (some .int) 0 [some (.ref q0)] [] h Q
  refine Rn.n hT 1 (pc' := 1) (L' := [some (.ref q0)]) (st' := [.ref q0]) rfl ?_
  obtain ⟨z_2600, g_2600, p_2600⟩ : ∃ z : Int32, gI h 12 36 q0 = some z ∧ z.toInt = s q0 36 := rp_gI (k := 36) hR (T12_o t0) rfl
  refine Rn.hp hT rfl rfl (gI_hp g_2600) ?_
  by_cases c_2601 : (s q0 36) = 0
  · rw [if_pos c_2601] at e
    refine Rn.bf hT rfl rfl rfl (decide_eq_false (fun z => z ((ti_e p_2600 L32_0).mpr c_2601))) ?_
    refine Rn.n hT 2 (pc' := 22) (L' := [some (.ref q0)]) (st' := [.int (-1 : Int32)]) rfl ?_
    exact Rn.weak (ll_n ll_e) (RX12_top_b22 hd hR L32_m1 hq e)
  · rw [if_neg c_2601] at e
    refine Rn.bt hT rfl rfl rfl (decide_eq_true (fun z => c_2601 ((ti_e p_2600 L32_0).mp z))) ?_
    refine Rn.n hT 1 (pc' := 12) (L' := [some (.ref q0)]) (st' := [.ref q0]) rfl ?_
    refine Rn.hp hT rfl rfl (gR_hp (rp_gR hR (T12_o t0) rfl)) ?_
    refine Rn.n hT 1 (pc' := 16) (L' := [some (.ref q0)]) (st' := [.ref q0, .ref (q0 + 32)]) rfl ?_
    obtain ⟨z_2602, g_2602, p_2602⟩ : ∃ z : Int32, gI h 12 36 q0 = some z ∧ z.toInt = s q0 36 := rp_gI (k := 36) hR (T12_o t0) rfl
    refine Rn.hp hT rfl rfl (gI_hp g_2602) ?_
    refine Rn.n hT 2 (pc' := 21) (L' := [some (.ref q0)]) (st' := [.int (z_2602 - (1 : Int32)), .ref (q0 + 32)]) rfl ?_
    obtain ⟨v_2603, e_2603, e⟩ := Option.bind_eq_some_iff.mp e
    obtain ⟨z_2603, g_2603, p_2603⟩ := rp_aI hR (T12_45 t0) (T12_45l t0) (ti_sub p_2602 L32_1) e_2603
    refine Rn.hp hT rfl rfl (aI_hp g_2603) ?_
    exact Rn.weak (ll_n ll_e) (RX12_top_b22 hd hR p_2603 hq e)
set_option maxRecDepth 10000 in
theorem hX12_opens : iv_Tb 224 tX12_opens := iv_tb_of (m := mX12_opens) rfl
set_option maxRecDepth 10000 in
theorem gX12_opens : PG.2 224 = some mX12_opens := iv_pi_of (t := tX12_opens) rfl (by decide)
def FX12_opens_b40 (N : Nat) (s : iv_M) (q0 : Nat) (x1 : Int)  : Option (iv_M) := ((wr s (q0 + 32) 402 (s q0 36) x1).bind fun s_2615 => ((pt s_2615 q0 36 (w32 ((s_2615 q0 36) + 1))).bind fun s_2618 => some s_2618))
set_option maxRecDepth 10000 in
set_option maxHeartbeats 4000000 in
theorem RX12_opens_b40 {d N nc Ls : Nat} {Xs : Nat → Int32} (hd : 1 ≤ d) {h : iv_H} {s : iv_M} (hR : Rep nc Ls Xs h s) {q0 : Nat} (t0 : T12 nc q0) {m1 : Int32} {x1 : Int} (p1 : m1.toInt = x1)  {r : iv_M} {Q : Option Value → iv_H → Prop} (hq : ∀ h1, Rep nc Ls Xs h1 r → Q none h1) (e : FX12_opens_b40 N s q0 x1  = some r) : Rn d 224 none 40 [some (.ref q0), some (.int m1)] [] h Q := by
  have hT := hX12_opens
  unfold FX12_opens_b40 at e
  refine Rn.n hT 1 (pc' := 41) (L' := [some (.ref q0), some (.int m1)]) (st' := [.ref q0]) rfl ?_
  refine Rn.hp hT rfl rfl (gR_hp (rp_gR hR (T12_o t0) rfl)) ?_
  refine Rn.n hT 1 (pc' := 45) (L' := [some (.ref q0), some (.int m1)]) (st' := [.ref q0, .ref (q0 + 32)]) rfl ?_
  obtain ⟨z_2614, g_2614, p_2614⟩ : ∃ z : Int32, gI h 12 36 q0 = some z ∧ z.toInt = s q0 36 := rp_gI (k := 36) hR (T12_o t0) rfl
  refine Rn.hp hT rfl rfl (gI_hp g_2614) ?_
  refine Rn.n hT 1 (pc' := 49) (L' := [some (.ref q0), some (.int m1)]) (st' := [.int m1, .int z_2614, .ref (q0 + 32)]) rfl ?_
  obtain ⟨s_2615, e_2616, e⟩ := Option.bind_eq_some_iff.mp e
  obtain ⟨h_2615, g_2616, R_2615⟩ := rp_wI hR (T12_45 t0) (T12_45l t0) p_2614 p1 e_2616
  refine Rn.hp hT rfl rfl (wI_hp g_2616) ?_
  refine Rn.n hT 2 (pc' := 52) (L' := [some (.ref q0), some (.int m1)]) (st' := [.ref q0, .ref q0]) rfl ?_
  obtain ⟨z_2617, g_2617, p_2617⟩ : ∃ z : Int32, gI h_2615 12 36 q0 = some z ∧ z.toInt = s_2615 q0 36 := rp_gI (k := 36) R_2615 (T12_o t0) rfl
  refine Rn.hp hT rfl rfl (gI_hp g_2617) ?_
  refine Rn.n hT 2 (pc' := 57) (L' := [some (.ref q0), some (.int m1)]) (st' := [.int (z_2617 + (1 : Int32)), .ref q0]) rfl ?_
  obtain ⟨s_2618, e_2619, e⟩ := Option.bind_eq_some_iff.mp e
  obtain ⟨h_2618, g_2619, R_2618⟩ := rp_pI (ci := 12) (k := 36) R_2615 (T12_o t0) rfl rfl (ti_add p_2617 L32_1) e_2619
  refine Rn.hp hT rfl rfl (pV_hp rfl g_2619) ?_
  obtain rfl := Option.some.inj e
  exact Rn.ret hT rfl rfl rfl (hq h_2618 R_2618)
def FX12_opens_b30 (N : Nat) (s : iv_M) (q0 : Nat) (x1 : Int)  : Option (iv_M) := ((pt s q0 34 (w32 ((s q0 34) + 1))).bind fun s_2612 => (FX12_opens_b40 N s_2612 q0 x1))
set_option maxRecDepth 10000 in
set_option maxHeartbeats 4000000 in
theorem RX12_opens_b30 {d N nc Ls : Nat} {Xs : Nat → Int32} (hd : 1 ≤ d) {h : iv_H} {s : iv_M} (hR : Rep nc Ls Xs h s) {q0 : Nat} (t0 : T12 nc q0) {m1 : Int32} {x1 : Int} (p1 : m1.toInt = x1)  {r : iv_M} {Q : Option Value → iv_H → Prop} (hq : ∀ h1, Rep nc Ls Xs h1 r → Q none h1) (e : FX12_opens_b30 N s q0 x1  = some r) : Rn d 224 none 30 [some (.ref q0), some (.int m1)] [] h Q := by
  have hT := hX12_opens
  unfold FX12_opens_b30 at e
  refine Rn.n hT 2 (pc' := 32) (L' := [some (.ref q0), some (.int m1)]) (st' := [.ref q0, .ref q0]) rfl ?_
  obtain ⟨z_2611, g_2611, p_2611⟩ : ∃ z : Int32, gI h 12 34 q0 = some z ∧ z.toInt = s q0 34 := rp_gI (k := 34) hR (T12_o t0) rfl
  refine Rn.hp hT rfl rfl (gI_hp g_2611) ?_
  refine Rn.n hT 2 (pc' := 37) (L' := [some (.ref q0), some (.int m1)]) (st' := [.int (z_2611 + (1 : Int32)), .ref q0]) rfl ?_
  obtain ⟨s_2612, e_2613, e⟩ := Option.bind_eq_some_iff.mp e
  obtain ⟨h_2612, g_2613, R_2612⟩ := rp_pI (ci := 12) (k := 34) hR (T12_o t0) rfl rfl (ti_add p_2611 L32_1) e_2613
  refine Rn.hp hT rfl rfl (pV_hp rfl g_2613) ?_
  exact Rn.weak (ll_s (ll_s ll_e)) (RX12_opens_b40 hd R_2612 t0 p1 hq e)
def FX12_opens_b12 (N : Nat) (s : iv_M) (q0 : Nat) (x1 : Int)  : Option (iv_M) := (if (s q0 34) = 10 then ((FX12_fails N s q0 2 (s q0 29)).bind fun s_2610 => (FX12_opens_b30 N s_2610 q0 x1)) else (FX12_opens_b30 N s q0 x1))
set_option maxRecDepth 10000 in
set_option maxHeartbeats 4000000 in
theorem RX12_opens_b12 {d N nc Ls : Nat} {Xs : Nat → Int32} (hd : 1 ≤ d) {h : iv_H} {s : iv_M} (hR : Rep nc Ls Xs h s) {q0 : Nat} (t0 : T12 nc q0) {m1 : Int32} {x1 : Int} (p1 : m1.toInt = x1)  {r : iv_M} {Q : Option Value → iv_H → Prop} (hq : ∀ h1, Rep nc Ls Xs h1 r → Q none h1) (e : FX12_opens_b12 N s q0 x1  = some r) : Rn d 224 none 12 [some (.ref q0), some (.int m1)] [] h Q := by
  have hT := hX12_opens
  unfold FX12_opens_b12 at e
  refine Rn.n hT 1 (pc' := 13) (L' := [some (.ref q0), some (.int m1)]) (st' := [.ref q0]) rfl ?_
  obtain ⟨z_2606, g_2606, p_2606⟩ : ∃ z : Int32, gI h 12 34 q0 = some z ∧ z.toInt = s q0 34 := rp_gI (k := 34) hR (T12_o t0) rfl
  refine Rn.hp hT rfl rfl (gI_hp g_2606) ?_
  refine Rn.n hT 1 (pc' := 18) (L' := [some (.ref q0), some (.int m1)]) (st' := [.int (10 : Int32), .int z_2606]) rfl ?_
  by_cases c_2607 : (s q0 34) = 10
  · rw [if_pos c_2607] at e
    refine Rn.bf hT rfl rfl rfl (decide_eq_false (fun z => z ((ti_e p_2606 L32_10).mpr c_2607))) ?_
    refine Rn.n hT 3 (pc' := 24) (L' := [some (.ref q0), some (.int m1)]) (st' := [.ref q0, .int (2 : Int32), .ref q0]) rfl ?_
    obtain ⟨z_2608, g_2608, p_2608⟩ : ∃ z : Int32, gI h 12 29 q0 = some z ∧ z.toInt = s q0 29 := rp_gI (k := 29) hR (T12_o t0) rfl
    refine Rn.hp hT rfl rfl (gI_hp g_2608) ?_
    obtain ⟨s_2610, e_2609, e⟩ := Option.bind_eq_some_iff.mp e
    refine Rn.call hT rfl rfl rfl (Nat.le_of_ble_eq_true rfl) (rcv_v gX12_fails (by omega) (rp_ck hR (T12_o t0))) (RX12_fails (by omega) hR t0 L32_2 p_2608 e_2609 (fun h_2610 R_2610 => ?_))
    show Rn d _ _ 30 [some (.ref q0), some (.int m1)] [] h_2610 Q
    exact Rn.weak (ll_s (ll_s ll_e)) (RX12_opens_b30 hd R_2610 t0 p1 hq e)
  · rw [if_neg c_2607] at e
    refine Rn.bt hT rfl rfl rfl (decide_eq_true (fun z => c_2607 ((ti_e p_2606 L32_10).mp z))) ?_
    exact Rn.weak (ll_s (ll_s ll_e)) (RX12_opens_b30 hd hR t0 p1 hq e)
def FX12_opens (N : Nat) (s : iv_M) (q0 : Nat) (x1 : Int) : Option (iv_M) := (if x1 = 9 then (FX12_opens_b12 N s q0 x1) else (if x1 = 12 then (FX12_opens_b12 N s q0 x1) else (FX12_opens_b40 N s q0 x1)))
set_option maxRecDepth 10000 in
set_option maxHeartbeats 4000000 in
theorem RX12_opens {d N nc Ls : Nat} {Xs : Nat → Int32} (hd : 2 ≤ d) {h : iv_H} {s : iv_M} (hR : Rep nc Ls Xs h s) {q0 : Nat} (t0 : T12 nc q0) {m1 : Int32} {x1 : Int} (p1 : m1.toInt = x1) {r : iv_M} {Q : Option Value → iv_H → Prop} (e : FX12_opens N s q0 x1 = some r) (hq : ∀ h1, Rep nc Ls Xs h1 r → Q none h1) : Cl d 224 [.ref q0, .int m1] h Q := by
  obtain ⟨d, rfl⟩ : ∃ k, d = k + 1 := ⟨d - 1, by omega⟩
  have hd : 1 ≤ d := by omega
  have hT := hX12_opens
  unfold FX12_opens at e
  refine Cl.into (by decide) gX12_opens rfl ?_
  show Rn d 224 none 0 [some (.ref q0), some (.int m1)] [] h Q
  refine Rn.n hT 2 (pc' := 3) (L' := [some (.ref q0), some (.int m1)]) (st' := [.int (9 : Int32), .int m1]) rfl ?_
  by_cases c_2604 : x1 = 9
  · rw [if_pos c_2604] at e
    refine Rn.bt hT rfl rfl rfl (decide_eq_true ((ti_e p1 L32_9).mpr c_2604)) ?_
    exact Rn.weak (ll_s (ll_s ll_e)) (RX12_opens_b12 hd hR t0 p1 hq e)
  · rw [if_neg c_2604] at e
    refine Rn.bf hT rfl rfl rfl (decide_eq_false (fun z => c_2604 ((ti_e p1 L32_9).mp z))) ?_
    refine Rn.n hT 2 (pc' := 9) (L' := [some (.ref q0), some (.int m1)]) (st' := [.int (12 : Int32), .int m1]) rfl ?_
    by_cases c_2605 : x1 = 12
    · rw [if_pos c_2605] at e
      refine Rn.bf hT rfl rfl rfl (decide_eq_false (fun z => z ((ti_e p1 L32_12).mpr c_2605))) ?_
      exact Rn.weak (ll_s (ll_s ll_e)) (RX12_opens_b12 hd hR t0 p1 hq e)
    · rw [if_neg c_2605] at e
      refine Rn.bt hT rfl rfl rfl (decide_eq_true (fun z => c_2605 ((ti_e p1 L32_12).mp z))) ?_
      exact Rn.weak (ll_s (ll_s ll_e)) (RX12_opens_b40 hd hR t0 p1 hq e)
set_option maxRecDepth 10000 in
theorem hX12_answers : iv_Tb 225 tX12_answers := iv_tb_of (m := mX12_answers) rfl
set_option maxRecDepth 10000 in
theorem gX12_answers : PG.2 225 = some mX12_answers := iv_pi_of (t := tX12_answers) rfl (by decide)
def FX12_answers_b47 (N : Nat) (s : iv_M) (q0 : Nat) (x1 : Int) (xs0 : Int) (xs1 : Int) (qs2 : Nat) (kb : iv_M → Option (iv_M)) (kx : iv_M → Option (iv_M)) : Option (iv_M) := ((pt s qs2 34 (w32 (xs1 - xs0))).bind fun s_2633 => (kb s_2633))
set_option maxRecDepth 10000 in
set_option maxHeartbeats 4000000 in
theorem RX12_answers_b47 {d N nc Ls : Nat} {Xs : Nat → Int32} (hd : 1 ≤ d) {h : iv_H} {s : iv_M} (hR : Rep nc Ls Xs h s) {q0 : Nat} (t0 : T12 nc q0) {m1 : Int32} {x1 : Int} (p1 : m1.toInt = x1) {ms0 : Int32} {xs0 : Int} (ps0 : ms0.toInt = xs0) {ms1 : Int32} {xs1 : Int} (ps1 : ms1.toInt = xs1) {qs2 : Nat} (ts2 : T12 nc qs2) {kb : iv_M → Option (iv_M)} {kx : iv_M → Option (iv_M)} {r : iv_M} {Q : Option Value → iv_H → Prop} (hb : ∀ (h : iv_H) (s : iv_M) (hR : Rep nc Ls Xs h s), kb s = some r → Rn d 225 none 0 [some (.ref q0), some (.int m1)] [] h Q) (hk : ∀ (h : iv_H) (s : iv_M) (hR : Rep nc Ls Xs h s), kx s = some r → Rn d 225 none 54 [none, none] [] h Q) (hq : ∀ h1, Rep nc Ls Xs h1 r → Q none h1) (e : FX12_answers_b47 N s q0 x1 xs0 xs1 qs2 kb kx = some r) : Rn d 225 none 47 [some (.ref q0), some (.int m1)] [.int ms0, .int ms1, .ref qs2] h Q := by
  have hT := hX12_answers
  unfold FX12_answers_b47 at e
  refine Rn.n hT 1 (pc' := 48) (L' := [some (.ref q0), some (.int m1)]) (st' := [.int (ms1 - ms0), .ref qs2]) rfl ?_
  obtain ⟨s_2633, e_2634, e⟩ := Option.bind_eq_some_iff.mp e
  obtain ⟨h_2633, g_2634, R_2633⟩ := rp_pI (ci := 12) (k := 34) hR (T12_o ts2) rfl rfl (ti_sub ps1 ps0) e_2634
  refine Rn.hp hT rfl rfl (pV_hp rfl g_2634) ?_
  refine Rn.n hT 1 (pc' := 0) (L' := [some (.ref q0), some (.int m1)]) (st' := []) rfl ?_
  exact Rn.weak (ll_s (ll_s ll_e)) (hb h_2633 s_2633 R_2633 e)
def FX12_answers_l0 (N : Nat) (q0 : Nat) (x1 : Int) (kx : iv_M → Option (iv_M)) : Nat → iv_M → Option (iv_M)
  | 0, _ => none
  | n + 1, s => ((FX12_top N s q0).bind fun v_2622 => (if v_2622 = x1 then (if (s q0 30) = 0 then ((FX12_entry N s q0 x1 0).bind fun s_2627 => ((pt s_2627 q0 36 (w32 ((s_2627 q0 36) - 1))).bind fun s_2629 => (if x1 = 9 then (FX12_answers_b47 N s_2629 q0 x1 1 (s_2629 q0 34) q0 (FX12_answers_l0 N q0 x1 kx n) kx) else (FX12_answers_b47 N s_2629 q0 x1 0 (s_2629 q0 34) q0 (FX12_answers_l0 N q0 x1 kx n) kx)))) else (kx s)) else (kx s)))
set_option maxRecDepth 10000 in
set_option maxHeartbeats 4000000 in
theorem RX12_answers_l0 {d N nc Ls : Nat} {Xs : Nat → Int32} (hd : 1 ≤ d) {q0 : Nat} (t0 : T12 nc q0) {m1 : Int32} {x1 : Int} (p1 : m1.toInt = x1) {kx : iv_M → Option (iv_M)} {r : iv_M} {Q : Option Value → iv_H → Prop} (hk : ∀ (h : iv_H) (s : iv_M) (hR : Rep nc Ls Xs h s), kx s = some r → Rn d 225 none 54 [none, none] [] h Q) (hq : ∀ h1, Rep nc Ls Xs h1 r → Q none h1) : ∀ (n : Nat) (h : iv_H) (s : iv_M) (hR : Rep nc Ls Xs h s), FX12_answers_l0 N q0 x1 kx n s = some r → Rn d 225 none 0 [some (.ref q0), some (.int m1)] [] h Q := by
  have hT := hX12_answers
  intro n
  induction n with
  | zero =>
    intro h s hR e
    rw [FX12_answers_l0] at e
    cases e
  | succ n ih =>
    intro h s hR e
    rw [FX12_answers_l0] at e
    refine Rn.n hT 1 (pc' := 1) (L' := [some (.ref q0), some (.int m1)]) (st' := [.ref q0]) rfl ?_
    obtain ⟨v_2622, e_2622, e⟩ := Option.bind_eq_some_iff.mp e
    refine Rn.call hT rfl rfl rfl (Nat.le_of_ble_eq_true rfl) (rcv_v gX12_top (by omega) (rp_ck hR (T12_o t0))) (RX12_top (by omega) hR t0 e_2622 (fun z_2622 p_2622 => ?_))
    show Rn d _ _ 4 [some (.ref q0), some (.int m1)] [.int z_2622] h Q
    refine Rn.n hT 1 (pc' := 5) (L' := [some (.ref q0), some (.int m1)]) (st' := [.int m1, .int z_2622]) rfl ?_
    by_cases c_2623 : v_2622 = x1
    · rw [if_pos c_2623] at e
      refine Rn.bf hT rfl rfl rfl (decide_eq_false (fun z => z ((ti_e p_2622 p1).mpr c_2623))) ?_
      refine Rn.n hT 1 (pc' := 9) (L' := [some (.ref q0), some (.int m1)]) (st' := [.ref q0]) rfl ?_
      obtain ⟨z_2624, g_2624, p_2624⟩ : ∃ z : Int32, gI h 12 30 q0 = some z ∧ z.toInt = s q0 30 := rp_gI (k := 30) hR (T12_o t0) rfl
      refine Rn.hp hT rfl rfl (gI_hp g_2624) ?_
      by_cases c_2625 : (s q0 30) = 0
      · rw [if_pos c_2625] at e
        refine Rn.bf hT rfl rfl rfl (decide_eq_false (fun z => z ((ti_e p_2624 L32_0).mpr c_2625))) ?_
        refine Rn.n hT 3 (pc' := 18) (L' := [some (.ref q0), some (.int m1)]) (st' := [.int (0 : Int32), .int m1, .ref q0]) rfl ?_
        obtain ⟨s_2627, e_2626, e⟩ := Option.bind_eq_some_iff.mp e
        refine Rn.call hT rfl rfl rfl (Nat.le_of_ble_eq_true rfl) (rcv_v gX12_entry (by omega) (rp_ck hR (T12_o t0))) (RX12_entry (by omega) hR t0 p1 L32_0 e_2626 (fun h_2627 R_2627 => ?_))
        show Rn d _ _ 21 [some (.ref q0), some (.int m1)] [] h_2627 Q
        refine Rn.n hT 2 (pc' := 23) (L' := [some (.ref q0), some (.int m1)]) (st' := [.ref q0, .ref q0]) rfl ?_
        obtain ⟨z_2628, g_2628, p_2628⟩ : ∃ z : Int32, gI h_2627 12 36 q0 = some z ∧ z.toInt = s_2627 q0 36 := rp_gI (k := 36) R_2627 (T12_o t0) rfl
        refine Rn.hp hT rfl rfl (gI_hp g_2628) ?_
        refine Rn.n hT 2 (pc' := 28) (L' := [some (.ref q0), some (.int m1)]) (st' := [.int (z_2628 - (1 : Int32)), .ref q0]) rfl ?_
        obtain ⟨s_2629, e_2630, e⟩ := Option.bind_eq_some_iff.mp e
        obtain ⟨h_2629, g_2630, R_2629⟩ := rp_pI (ci := 12) (k := 36) R_2627 (T12_o t0) rfl rfl (ti_sub p_2628 L32_1) e_2630
        refine Rn.hp hT rfl rfl (pV_hp rfl g_2630) ?_
        refine Rn.n hT 2 (pc' := 33) (L' := [some (.ref q0), some (.int m1)]) (st' := [.ref q0, .ref q0]) rfl ?_
        obtain ⟨z_2631, g_2631, p_2631⟩ : ∃ z : Int32, gI h_2629 12 34 q0 = some z ∧ z.toInt = s_2629 q0 34 := rp_gI (k := 34) R_2629 (T12_o t0) rfl
        refine Rn.hp hT rfl rfl (gI_hp g_2631) ?_
        refine Rn.n hT 2 (pc' := 39) (L' := [some (.ref q0), some (.int m1)]) (st' := [.int (9 : Int32), .int m1, .int z_2631, .ref q0]) rfl ?_
        by_cases c_2632 : x1 = 9
        · rw [if_pos c_2632] at e
          refine Rn.bf hT rfl rfl rfl (decide_eq_false (fun z => z ((ti_e p1 L32_9).mpr c_2632))) ?_
          refine Rn.n hT 2 (pc' := 47) (L' := [some (.ref q0), some (.int m1)]) (st' := [.int (1 : Int32), .int z_2631, .ref q0]) rfl ?_
          exact Rn.weak (ll_s (ll_s ll_e)) (RX12_answers_b47 hd R_2629 t0 p1 L32_1 p_2631 t0 ih hk hq e)
        · rw [if_neg c_2632] at e
          refine Rn.bt hT rfl rfl rfl (decide_eq_true (fun z => c_2632 ((ti_e p1 L32_9).mp z))) ?_
          refine Rn.n hT 1 (pc' := 47) (L' := [some (.ref q0), some (.int m1)]) (st' := [.int (0 : Int32), .int z_2631, .ref q0]) rfl ?_
          exact Rn.weak (ll_s (ll_s ll_e)) (RX12_answers_b47 hd R_2629 t0 p1 L32_0 p_2631 t0 ih hk hq e)
      · rw [if_neg c_2625] at e
        refine Rn.bt hT rfl rfl rfl (decide_eq_true (fun z => c_2625 ((ti_e p_2624 L32_0).mp z))) ?_
        exact Rn.weak (ll_n (ll_n ll_e)) (hk h s hR e)
    · rw [if_neg c_2623] at e
      refine Rn.bt hT rfl rfl rfl (decide_eq_true (fun z => c_2623 ((ti_e p_2622 p1).mp z))) ?_
      exact Rn.weak (ll_n (ll_n ll_e)) (hk h s hR e)
def FX12_answers_b54 (N : Nat) (s : iv_M)   : Option (iv_M) := some s
set_option maxRecDepth 10000 in
set_option maxHeartbeats 4000000 in
theorem RX12_answers_b54 {d N nc Ls : Nat} {Xs : Nat → Int32} (hd : 1 ≤ d) {h : iv_H} {s : iv_M} (hR : Rep nc Ls Xs h s)   {r : iv_M} {Q : Option Value → iv_H → Prop} (hq : ∀ h1, Rep nc Ls Xs h1 r → Q none h1) (e : FX12_answers_b54 N s   = some r) : Rn d 225 none 54 [none, none] [] h Q := by
  have hT := hX12_answers
  unfold FX12_answers_b54 at e
  obtain rfl := Option.some.inj e
  exact Rn.ret hT rfl rfl rfl (hq h hR)
def FX12_answers (N : Nat) (s : iv_M) (q0 : Nat) (x1 : Int) : Option (iv_M) := (FX12_answers_l0 N q0 x1 (fun (s_2620 : iv_M) => (FX12_answers_b54 N s_2620)) N s)
set_option maxRecDepth 10000 in
set_option maxHeartbeats 4000000 in
theorem RX12_answers {d N nc Ls : Nat} {Xs : Nat → Int32} (hd : 2 ≤ d) {h : iv_H} {s : iv_M} (hR : Rep nc Ls Xs h s) {q0 : Nat} (t0 : T12 nc q0) {m1 : Int32} {x1 : Int} (p1 : m1.toInt = x1) {r : iv_M} {Q : Option Value → iv_H → Prop} (e : FX12_answers N s q0 x1 = some r) (hq : ∀ h1, Rep nc Ls Xs h1 r → Q none h1) : Cl d 225 [.ref q0, .int m1] h Q := by
  obtain ⟨d, rfl⟩ : ∃ k, d = k + 1 := ⟨d - 1, by omega⟩
  have hd : 1 ≤ d := by omega
  have hT := hX12_answers
  unfold FX12_answers at e
  refine Cl.into (by decide) gX12_answers rfl ?_
  show Rn d 225 none 0 [some (.ref q0), some (.int m1)] [] h Q
  refine Rn.weak (ll_s (ll_s ll_e)) (RX12_answers_l0 hd t0 p1 (fun h_2620 s_2620 R_2620 e => ?_) hq N h s hR e)
  try dsimp only at e
  exact Rn.weak (ll_n (ll_n ll_e)) (RX12_answers_b54 hd R_2620 hq e)
set_option maxRecDepth 10000 in
theorem hX12_fact : iv_Tb 226 tX12_fact := iv_tb_of (m := mX12_fact) rfl
set_option maxRecDepth 10000 in
theorem gX12_fact : PG.2 226 = some mX12_fact := iv_pi_of (t := tX12_fact) rfl (by decide)
def FX12_fact (N : Nat) (s : iv_M) (q0 : Nat) : Option (Int × iv_M) := ((FX12_blanks N s q0).bind fun s_2636 => ((FX12_stood N s_2636 q0 1000028).bind fun v_2637 => (if v_2637 = 0 then ((FX12_sign N s_2636 q0).bind fun v_2639 => (if v_2639 = 91 then ((FX12_opens N s_2636 q0 12).bind fun s_2644 => ((pt s_2644 q0 29 (w32 ((s_2644 q0 29) + 1))).bind fun s_2646 => (some (0, s_2646)))) else ((FX12_compared N s_2636 q0).bind fun s_2642 => (some (1, s_2642))))) else ((FX12_opens N s_2636 q0 9).bind fun s_2649 => ((pt s_2649 q0 29 (w32 ((s_2649 q0 29) + 3))).bind fun s_2651 => (some (0, s_2651)))))))
set_option maxRecDepth 10000 in
set_option maxHeartbeats 4000000 in
theorem RX12_fact {d N nc Ls : Nat} {Xs : Nat → Int32} (hd : 16 ≤ d) {h : iv_H} {s : iv_M} (hR : Rep nc Ls Xs h s) {q0 : Nat} (t0 : T12 nc q0) {r : Int × iv_M} {Q : Option Value → iv_H → Prop} (e : FX12_fact N s q0 = some r) (hq : ∀ (z : Int32) (h1 : iv_H), z.toInt = r.1 → Rep nc Ls Xs h1 r.2 → Q (some (.int z)) h1) : Cl d 226 [.ref q0] h Q := by
  obtain ⟨d, rfl⟩ : ∃ k, d = k + 1 := ⟨d - 1, by omega⟩
  have hd : 15 ≤ d := by omega
  have hT := hX12_fact
  unfold FX12_fact at e
  refine Cl.into (by decide) gX12_fact rfl ?_
  show Rn d 226 (some .boolean) 0 [some (.ref q0)] [] h Q
  refine Rn.n hT 1 (pc' := 1) (L' := [some (.ref q0)]) (st' := [.ref q0]) rfl ?_
  obtain ⟨s_2636, e_2635, e⟩ := Option.bind_eq_some_iff.mp e
  refine Rn.call hT rfl rfl rfl (Nat.le_of_ble_eq_true rfl) (rcv_v gX12_blanks (by omega) (rp_ck hR (T12_o t0))) (RX12_blanks (by omega) hR t0 e_2635 (fun h_2636 R_2636 => ?_))
  show Rn d _ _ 4 [some (.ref q0)] [] h_2636 Q
  refine Rn.n hT 2 (pc' := 8) (L' := [some (.ref q0)]) (st' := [.ref 1000028, .ref q0]) rfl ?_
  obtain ⟨v_2637, e_2637, e⟩ := Option.bind_eq_some_iff.mp e
  refine Rn.call hT rfl rfl rfl (Nat.le_of_ble_eq_true rfl) (rcv_v gX12_stood (by omega) (rp_ck R_2636 (T12_o t0))) (RX12_stood (by omega) R_2636 t0 TS_1000028 e_2637 (fun z_2637 p_2637 => ?_))
  show Rn d _ _ 11 [some (.ref q0)] [.int z_2637] h_2636 Q
  by_cases c_2638 : v_2637 = 0
  · rw [if_pos c_2638] at e
    refine Rn.bt hT rfl rfl rfl (decide_eq_true ((ti_e p_2637 L32_0).mpr c_2638)) ?_
    refine Rn.n hT 1 (pc' := 33) (L' := [some (.ref q0)]) (st' := [.ref q0]) rfl ?_
    obtain ⟨v_2639, e_2639, e⟩ := Option.bind_eq_some_iff.mp e
    refine Rn.call hT rfl rfl rfl (Nat.le_of_ble_eq_true rfl) (rcv_v gX12_sign (by omega) (rp_ck R_2636 (T12_o t0))) (RX12_sign (by omega) R_2636 t0 e_2639 (fun z_2639 p_2639 => ?_))
    show Rn d _ _ 36 [some (.ref q0)] [.int z_2639] h_2636 Q
    refine Rn.n hT 1 (pc' := 38) (L' := [some (.ref q0)]) (st' := [.int (91 : Int32), .int z_2639]) rfl ?_
    by_cases c_2640 : v_2639 = 91
    · rw [if_pos c_2640] at e
      refine Rn.bf hT rfl rfl rfl (decide_eq_false (fun z => z ((ti_e p_2639 L32_91).mpr c_2640))) ?_
      refine Rn.n hT 2 (pc' := 44) (L' := [some (.ref q0)]) (st' := [.int (12 : Int32), .ref q0]) rfl ?_
      obtain ⟨s_2644, e_2643, e⟩ := Option.bind_eq_some_iff.mp e
      refine Rn.call hT rfl rfl rfl (Nat.le_of_ble_eq_true rfl) (rcv_v gX12_opens (by omega) (rp_ck R_2636 (T12_o t0))) (RX12_opens (by omega) R_2636 t0 L32_12 e_2643 (fun h_2644 R_2644 => ?_))
      show Rn d _ _ 47 [some (.ref q0)] [] h_2644 Q
      refine Rn.n hT 2 (pc' := 49) (L' := [some (.ref q0)]) (st' := [.ref q0, .ref q0]) rfl ?_
      obtain ⟨z_2645, g_2645, p_2645⟩ : ∃ z : Int32, gI h_2644 12 29 q0 = some z ∧ z.toInt = s_2644 q0 29 := rp_gI (k := 29) R_2644 (T12_o t0) rfl
      refine Rn.hp hT rfl rfl (gI_hp g_2645) ?_
      refine Rn.n hT 2 (pc' := 54) (L' := [some (.ref q0)]) (st' := [.int (z_2645 + (1 : Int32)), .ref q0]) rfl ?_
      obtain ⟨s_2646, e_2647, e⟩ := Option.bind_eq_some_iff.mp e
      obtain ⟨h_2646, g_2647, R_2646⟩ := rp_pI (ci := 12) (k := 29) R_2644 (T12_o t0) rfl rfl (ti_add p_2645 L32_1) e_2647
      refine Rn.hp hT rfl rfl (pV_hp rfl g_2647) ?_
      refine Rn.n hT 1 (pc' := 58) (L' := [some (.ref q0)]) (st' := [.int (0 : Int32)]) rfl ?_
      obtain rfl := Option.some.inj e
      exact Rn.ret hT rfl rfl rfl (hq (0 : Int32) h_2646 L32_0 R_2646)
    · rw [if_neg c_2640] at e
      refine Rn.bt hT rfl rfl rfl (decide_eq_true (fun z => c_2640 ((ti_e p_2639 L32_91).mp z))) ?_
      refine Rn.n hT 1 (pc' := 60) (L' := [some (.ref q0)]) (st' := [.ref q0]) rfl ?_
      obtain ⟨s_2642, e_2641, e⟩ := Option.bind_eq_some_iff.mp e
      refine Rn.call hT rfl rfl rfl (Nat.le_of_ble_eq_true rfl) (rcv_v gX12_compared (by omega) (rp_ck R_2636 (T12_o t0))) (RX12_compared (by omega) R_2636 t0 e_2641 (fun h_2642 R_2642 => ?_))
      show Rn d _ _ 63 [some (.ref q0)] [] h_2642 Q
      refine Rn.n hT 1 (pc' := 64) (L' := [some (.ref q0)]) (st' := [.int (1 : Int32)]) rfl ?_
      obtain rfl := Option.some.inj e
      exact Rn.ret hT rfl rfl rfl (hq (1 : Int32) h_2642 L32_1 R_2642)
  · rw [if_neg c_2638] at e
    refine Rn.bf hT rfl rfl rfl (decide_eq_false (fun z => c_2638 ((ti_e p_2637 L32_0).mp z))) ?_
    refine Rn.n hT 2 (pc' := 17) (L' := [some (.ref q0)]) (st' := [.int (9 : Int32), .ref q0]) rfl ?_
    obtain ⟨s_2649, e_2648, e⟩ := Option.bind_eq_some_iff.mp e
    refine Rn.call hT rfl rfl rfl (Nat.le_of_ble_eq_true rfl) (rcv_v gX12_opens (by omega) (rp_ck R_2636 (T12_o t0))) (RX12_opens (by omega) R_2636 t0 L32_9 e_2648 (fun h_2649 R_2649 => ?_))
    show Rn d _ _ 20 [some (.ref q0)] [] h_2649 Q
    refine Rn.n hT 2 (pc' := 22) (L' := [some (.ref q0)]) (st' := [.ref q0, .ref q0]) rfl ?_
    obtain ⟨z_2650, g_2650, p_2650⟩ : ∃ z : Int32, gI h_2649 12 29 q0 = some z ∧ z.toInt = s_2649 q0 29 := rp_gI (k := 29) R_2649 (T12_o t0) rfl
    refine Rn.hp hT rfl rfl (gI_hp g_2650) ?_
    refine Rn.n hT 2 (pc' := 27) (L' := [some (.ref q0)]) (st' := [.int (z_2650 + (3 : Int32)), .ref q0]) rfl ?_
    obtain ⟨s_2651, e_2652, e⟩ := Option.bind_eq_some_iff.mp e
    obtain ⟨h_2651, g_2652, R_2651⟩ := rp_pI (ci := 12) (k := 29) R_2649 (T12_o t0) rfl rfl (ti_add p_2650 L32_3) e_2652
    refine Rn.hp hT rfl rfl (pV_hp rfl g_2652) ?_
    refine Rn.n hT 1 (pc' := 31) (L' := [some (.ref q0)]) (st' := [.int (0 : Int32)]) rfl ?_
    obtain rfl := Option.some.inj e
    exact Rn.ret hT rfl rfl rfl (hq (0 : Int32) h_2651 L32_0 R_2651)
set_option maxRecDepth 10000 in
theorem hX12_test : iv_Tb 227 tX12_test := iv_tb_of (m := mX12_test) rfl
set_option maxRecDepth 10000 in
theorem gX12_test : PG.2 227 = some mX12_test := iv_pi_of (t := tX12_test) rfl (by decide)
def FX12_test_b36 (N : Nat) (s : iv_M) (q0 : Nat) (x2 : Int) (xs0 : Int) (kb : iv_M → Int → Int → Option (iv_M)) (kx : iv_M → Option (iv_M)) : Option (iv_M) := (kb s xs0 x2)
set_option maxRecDepth 10000 in
set_option maxHeartbeats 4000000 in
theorem RX12_test_b36 {d N nc Ls : Nat} {Xs : Nat → Int32} (hd : 16 ≤ d) {h : iv_H} {s : iv_M} (hR : Rep nc Ls Xs h s) {q0 : Nat} (t0 : T12 nc q0) {m2 : Int32} {x2 : Int} (p2 : m2.toInt = x2) {ms0 : Int32} {xs0 : Int} (ps0 : ms0.toInt = xs0) {kb : iv_M → Int → Int → Option (iv_M)} {kx : iv_M → Option (iv_M)} {r : iv_M} {Q : Option Value → iv_H → Prop} (hb : ∀ (h : iv_H) (s : iv_M) (hR : Rep nc Ls Xs h s) (mw1 : Int32) (xw1 : Int) (pw1 : mw1.toInt = xw1) (mw2 : Int32) (xw2 : Int) (pw2 : mw2.toInt = xw2), kb s xw1 xw2 = some r → Rn d 227 none 9 [some (.ref q0), some (.int mw1), some (.int mw2), none, none] [] h Q) (hk : ∀ (h : iv_H) (s : iv_M) (hR : Rep nc Ls Xs h s), kx s = some r → Rn d 227 none 202 [none, none, none, none, none] [] h Q) (hq : ∀ h1, Rep nc Ls Xs h1 r → Q none h1) (e : FX12_test_b36 N s q0 x2 xs0 kb kx = some r) : Rn d 227 none 36 [some (.ref q0), none, some (.int m2), none, none] [.int ms0] h Q := by
  have hT := hX12_test
  unfold FX12_test_b36 at e
  refine Rn.n hT 2 (pc' := 9) (L' := [some (.ref q0), some (.int ms0), some (.int m2), none, none]) (st' := []) rfl ?_
  exact Rn.weak (ll_s (ll_s (ll_s (ll_n (ll_n ll_e))))) (hb h s hR ms0 xs0 ps0 m2 x2 p2 e)
def FX12_test_b199 (N : Nat) (s : iv_M) (q0 : Nat) (x1 : Int) (x2 : Int)  (kb : iv_M → Int → Int → Option (iv_M)) (kx : iv_M → Option (iv_M)) : Option (iv_M) := (kb s x1 x2)
set_option maxRecDepth 10000 in
set_option maxHeartbeats 4000000 in
theorem RX12_test_b199 {d N nc Ls : Nat} {Xs : Nat → Int32} (hd : 16 ≤ d) {h : iv_H} {s : iv_M} (hR : Rep nc Ls Xs h s) {q0 : Nat} (t0 : T12 nc q0) {m1 : Int32} {x1 : Int} (p1 : m1.toInt = x1) {m2 : Int32} {x2 : Int} (p2 : m2.toInt = x2)  {kb : iv_M → Int → Int → Option (iv_M)} {kx : iv_M → Option (iv_M)} {r : iv_M} {Q : Option Value → iv_H → Prop} (hb : ∀ (h : iv_H) (s : iv_M) (hR : Rep nc Ls Xs h s) (mw1 : Int32) (xw1 : Int) (pw1 : mw1.toInt = xw1) (mw2 : Int32) (xw2 : Int) (pw2 : mw2.toInt = xw2), kb s xw1 xw2 = some r → Rn d 227 none 9 [some (.ref q0), some (.int mw1), some (.int mw2), none, none] [] h Q) (hk : ∀ (h : iv_H) (s : iv_M) (hR : Rep nc Ls Xs h s), kx s = some r → Rn d 227 none 202 [none, none, none, none, none] [] h Q) (hq : ∀ h1, Rep nc Ls Xs h1 r → Q none h1) (e : FX12_test_b199 N s q0 x1 x2  kb kx = some r) : Rn d 227 none 199 [some (.ref q0), some (.int m1), some (.int m2), none, none] [] h Q := by
  have hT := hX12_test
  unfold FX12_test_b199 at e
  refine Rn.n hT 1 (pc' := 9) (L' := [some (.ref q0), some (.int m1), some (.int m2), none, none]) (st' := []) rfl ?_
  exact Rn.weak (ll_s (ll_s (ll_s (ll_n (ll_n ll_e))))) (hb h s hR m1 x1 p1 m2 x2 p2 e)
def FX12_test_b122 (N : Nat) (s : iv_M) (q0 : Nat) (x2 : Int) (xs0 : Int) (xs1 : Int) (qs2 : Nat) (kb : iv_M → Int → Int → Option (iv_M)) (kx : iv_M → Option (iv_M)) : Option (iv_M) := ((pt s qs2 29 (w32 (xs1 + xs0))).bind fun s_2691 => (FX12_test_b199 N s_2691 q0 1 x2 kb kx))
set_option maxRecDepth 10000 in
set_option maxHeartbeats 4000000 in
theorem RX12_test_b122 {d N nc Ls : Nat} {Xs : Nat → Int32} (hd : 16 ≤ d) {h : iv_H} {s : iv_M} (hR : Rep nc Ls Xs h s) {q0 : Nat} (t0 : T12 nc q0) {m2 : Int32} {x2 : Int} (p2 : m2.toInt = x2) {ms0 : Int32} {xs0 : Int} (ps0 : ms0.toInt = xs0) {ms1 : Int32} {xs1 : Int} (ps1 : ms1.toInt = xs1) {qs2 : Nat} (ts2 : T12 nc qs2) {kb : iv_M → Int → Int → Option (iv_M)} {kx : iv_M → Option (iv_M)} {r : iv_M} {Q : Option Value → iv_H → Prop} (hb : ∀ (h : iv_H) (s : iv_M) (hR : Rep nc Ls Xs h s) (mw1 : Int32) (xw1 : Int) (pw1 : mw1.toInt = xw1) (mw2 : Int32) (xw2 : Int) (pw2 : mw2.toInt = xw2), kb s xw1 xw2 = some r → Rn d 227 none 9 [some (.ref q0), some (.int mw1), some (.int mw2), none, none] [] h Q) (hk : ∀ (h : iv_H) (s : iv_M) (hR : Rep nc Ls Xs h s), kx s = some r → Rn d 227 none 202 [none, none, none, none, none] [] h Q) (hq : ∀ h1, Rep nc Ls Xs h1 r → Q none h1) (e : FX12_test_b122 N s q0 x2 xs0 xs1 qs2 kb kx = some r) : Rn d 227 none 122 [some (.ref q0), none, some (.int m2), none, none] [.int ms0, .int ms1, .ref qs2] h Q := by
  have hT := hX12_test
  unfold FX12_test_b122 at e
  refine Rn.n hT 1 (pc' := 123) (L' := [some (.ref q0), none, some (.int m2), none, none]) (st' := [.int (ms1 + ms0), .ref qs2]) rfl ?_
  obtain ⟨s_2691, e_2692, e⟩ := Option.bind_eq_some_iff.mp e
  obtain ⟨h_2691, g_2692, R_2691⟩ := rp_pI (ci := 12) (k := 29) hR (T12_o ts2) rfl rfl (ti_add ps1 ps0) e_2692
  refine Rn.hp hT rfl rfl (pV_hp rfl g_2692) ?_
  refine Rn.n hT 3 (pc' := 199) (L' := [some (.ref q0), some (.int (1 : Int32)), some (.int m2), none, none]) (st' := []) rfl ?_
  exact Rn.weak (ll_s (ll_s (ll_s (ll_n (ll_n ll_e))))) (RX12_test_b199 hd R_2691 t0 L32_1 p2 hb hk hq e)
def FX12_test_b105 (N : Nat) (s : iv_M) (q0 : Nat) (x2 : Int) (x3 : Int) (xs0 : Int) (qs1 : Nat) (kb : iv_M → Int → Int → Option (iv_M)) (kx : iv_M → Option (iv_M)) : Option (iv_M) := ((FX12_opens N s qs1 xs0).bind fun s_2688 => (if x3 = 0 then (FX12_test_b122 N s_2688 q0 x2 2 (s_2688 q0 29) q0 kb kx) else (FX12_test_b122 N s_2688 q0 x2 3 (s_2688 q0 29) q0 kb kx)))
set_option maxRecDepth 10000 in
set_option maxHeartbeats 4000000 in
theorem RX12_test_b105 {d N nc Ls : Nat} {Xs : Nat → Int32} (hd : 16 ≤ d) {h : iv_H} {s : iv_M} (hR : Rep nc Ls Xs h s) {q0 : Nat} (t0 : T12 nc q0) {m2 : Int32} {x2 : Int} (p2 : m2.toInt = x2) {m3 : Int32} {x3 : Int} (p3 : m3.toInt = x3) {ms0 : Int32} {xs0 : Int} (ps0 : ms0.toInt = xs0) {qs1 : Nat} (ts1 : T12 nc qs1) {kb : iv_M → Int → Int → Option (iv_M)} {kx : iv_M → Option (iv_M)} {r : iv_M} {Q : Option Value → iv_H → Prop} (hb : ∀ (h : iv_H) (s : iv_M) (hR : Rep nc Ls Xs h s) (mw1 : Int32) (xw1 : Int) (pw1 : mw1.toInt = xw1) (mw2 : Int32) (xw2 : Int) (pw2 : mw2.toInt = xw2), kb s xw1 xw2 = some r → Rn d 227 none 9 [some (.ref q0), some (.int mw1), some (.int mw2), none, none] [] h Q) (hk : ∀ (h : iv_H) (s : iv_M) (hR : Rep nc Ls Xs h s), kx s = some r → Rn d 227 none 202 [none, none, none, none, none] [] h Q) (hq : ∀ h1, Rep nc Ls Xs h1 r → Q none h1) (e : FX12_test_b105 N s q0 x2 x3 xs0 qs1 kb kx = some r) : Rn d 227 none 105 [some (.ref q0), none, some (.int m2), some (.int m3), none] [.int ms0, .ref qs1] h Q := by
  have hT := hX12_test
  unfold FX12_test_b105 at e
  obtain ⟨s_2688, e_2687, e⟩ := Option.bind_eq_some_iff.mp e
  refine Rn.call hT rfl rfl rfl (Nat.le_of_ble_eq_true rfl) (rcv_v gX12_opens (by omega) (rp_ck hR (T12_o ts1))) (RX12_opens (by omega) hR ts1 ps0 e_2687 (fun h_2688 R_2688 => ?_))
  show Rn d _ _ 108 [some (.ref q0), none, some (.int m2), some (.int m3), none] [] h_2688 Q
  refine Rn.n hT 2 (pc' := 110) (L' := [some (.ref q0), none, some (.int m2), some (.int m3), none]) (st' := [.ref q0, .ref q0]) rfl ?_
  obtain ⟨z_2689, g_2689, p_2689⟩ : ∃ z : Int32, gI h_2688 12 29 q0 = some z ∧ z.toInt = s_2688 q0 29 := rp_gI (k := 29) R_2688 (T12_o t0) rfl
  refine Rn.hp hT rfl rfl (gI_hp g_2689) ?_
  refine Rn.n hT 1 (pc' := 114) (L' := [some (.ref q0), none, some (.int m2), some (.int m3), none]) (st' := [.int m3, .int z_2689, .ref q0]) rfl ?_
  by_cases c_2690 : x3 = 0
  · rw [if_pos c_2690] at e
    refine Rn.bt hT rfl rfl rfl (decide_eq_true ((ti_e p3 L32_0).mpr c_2690)) ?_
    refine Rn.n hT 1 (pc' := 122) (L' := [some (.ref q0), none, some (.int m2), some (.int m3), none]) (st' := [.int (2 : Int32), .int z_2689, .ref q0]) rfl ?_
    exact Rn.weak (ll_s (ll_n (ll_s (ll_n (ll_n ll_e))))) (RX12_test_b122 hd R_2688 t0 p2 L32_2 p_2689 t0 hb hk hq e)
  · rw [if_neg c_2690] at e
    refine Rn.bf hT rfl rfl rfl (decide_eq_false (fun z => c_2690 ((ti_e p3 L32_0).mp z))) ?_
    refine Rn.n hT 2 (pc' := 122) (L' := [some (.ref q0), none, some (.int m2), some (.int m3), none]) (st' := [.int (3 : Int32), .int z_2689, .ref q0]) rfl ?_
    exact Rn.weak (ll_s (ll_n (ll_s (ll_n (ll_n ll_e))))) (RX12_test_b122 hd R_2688 t0 p2 L32_3 p_2689 t0 hb hk hq e)
def FX12_test_b93 (N : Nat) (s : iv_M) (q0 : Nat) (x2 : Int) (x3 : Int)  (kb : iv_M → Int → Int → Option (iv_M)) (kx : iv_M → Option (iv_M)) : Option (iv_M) := (if x3 = 0 then (FX12_test_b105 N s q0 x2 x3 11 q0 kb kx) else (FX12_test_b105 N s q0 x2 x3 10 q0 kb kx))
set_option maxRecDepth 10000 in
set_option maxHeartbeats 4000000 in
theorem RX12_test_b93 {d N nc Ls : Nat} {Xs : Nat → Int32} (hd : 16 ≤ d) {h : iv_H} {s : iv_M} (hR : Rep nc Ls Xs h s) {q0 : Nat} (t0 : T12 nc q0) {m2 : Int32} {x2 : Int} (p2 : m2.toInt = x2) {m3 : Int32} {x3 : Int} (p3 : m3.toInt = x3)  {kb : iv_M → Int → Int → Option (iv_M)} {kx : iv_M → Option (iv_M)} {r : iv_M} {Q : Option Value → iv_H → Prop} (hb : ∀ (h : iv_H) (s : iv_M) (hR : Rep nc Ls Xs h s) (mw1 : Int32) (xw1 : Int) (pw1 : mw1.toInt = xw1) (mw2 : Int32) (xw2 : Int) (pw2 : mw2.toInt = xw2), kb s xw1 xw2 = some r → Rn d 227 none 9 [some (.ref q0), some (.int mw1), some (.int mw2), none, none] [] h Q) (hk : ∀ (h : iv_H) (s : iv_M) (hR : Rep nc Ls Xs h s), kx s = some r → Rn d 227 none 202 [none, none, none, none, none] [] h Q) (hq : ∀ h1, Rep nc Ls Xs h1 r → Q none h1) (e : FX12_test_b93 N s q0 x2 x3  kb kx = some r) : Rn d 227 none 93 [some (.ref q0), none, some (.int m2), some (.int m3), none] [] h Q := by
  have hT := hX12_test
  unfold FX12_test_b93 at e
  refine Rn.n hT 2 (pc' := 95) (L' := [some (.ref q0), none, some (.int m2), some (.int m3), none]) (st' := [.int m3, .ref q0]) rfl ?_
  by_cases c_2686 : x3 = 0
  · rw [if_pos c_2686] at e
    refine Rn.bt hT rfl rfl rfl (decide_eq_true ((ti_e p3 L32_0).mpr c_2686)) ?_
    refine Rn.n hT 1 (pc' := 105) (L' := [some (.ref q0), none, some (.int m2), some (.int m3), none]) (st' := [.int (11 : Int32), .ref q0]) rfl ?_
    exact Rn.weak (ll_s (ll_n (ll_s (ll_s (ll_n ll_e))))) (RX12_test_b105 hd hR t0 p2 p3 L32_11 t0 hb hk hq e)
  · rw [if_neg c_2686] at e
    refine Rn.bf hT rfl rfl rfl (decide_eq_false (fun z => c_2686 ((ti_e p3 L32_0).mp z))) ?_
    refine Rn.n hT 2 (pc' := 105) (L' := [some (.ref q0), none, some (.int m2), some (.int m3), none]) (st' := [.int (10 : Int32), .ref q0]) rfl ?_
    exact Rn.weak (ll_s (ll_n (ll_s (ll_s (ll_n ll_e))))) (RX12_test_b105 hd hR t0 p2 p3 L32_10 t0 hb hk hq e)
def FX12_test_b82 (N : Nat) (s : iv_M) (q0 : Nat) (x2 : Int) (x3 : Int) (x4 : Int)  (kb : iv_M → Int → Int → Option (iv_M)) (kx : iv_M → Option (iv_M)) : Option (iv_M) := (if x4 = 0 then (FX12_test_b93 N s q0 x2 x3 kb kx) else ((FX12_answers N s q0 11).bind fun s_2685 => (FX12_test_b93 N s_2685 q0 x2 x3 kb kx)))
set_option maxRecDepth 10000 in
set_option maxHeartbeats 4000000 in
theorem RX12_test_b82 {d N nc Ls : Nat} {Xs : Nat → Int32} (hd : 16 ≤ d) {h : iv_H} {s : iv_M} (hR : Rep nc Ls Xs h s) {q0 : Nat} (t0 : T12 nc q0) {m2 : Int32} {x2 : Int} (p2 : m2.toInt = x2) {m3 : Int32} {x3 : Int} (p3 : m3.toInt = x3) {m4 : Int32} {x4 : Int} (p4 : m4.toInt = x4)  {kb : iv_M → Int → Int → Option (iv_M)} {kx : iv_M → Option (iv_M)} {r : iv_M} {Q : Option Value → iv_H → Prop} (hb : ∀ (h : iv_H) (s : iv_M) (hR : Rep nc Ls Xs h s) (mw1 : Int32) (xw1 : Int) (pw1 : mw1.toInt = xw1) (mw2 : Int32) (xw2 : Int) (pw2 : mw2.toInt = xw2), kb s xw1 xw2 = some r → Rn d 227 none 9 [some (.ref q0), some (.int mw1), some (.int mw2), none, none] [] h Q) (hk : ∀ (h : iv_H) (s : iv_M) (hR : Rep nc Ls Xs h s), kx s = some r → Rn d 227 none 202 [none, none, none, none, none] [] h Q) (hq : ∀ h1, Rep nc Ls Xs h1 r → Q none h1) (e : FX12_test_b82 N s q0 x2 x3 x4  kb kx = some r) : Rn d 227 none 82 [some (.ref q0), none, some (.int m2), some (.int m3), some (.int m4)] [] h Q := by
  have hT := hX12_test
  unfold FX12_test_b82 at e
  refine Rn.n hT 1 (pc' := 84) (L' := [some (.ref q0), none, some (.int m2), some (.int m3), some (.int m4)]) (st' := [.int m4]) rfl ?_
  by_cases c_2683 : x4 = 0
  · rw [if_pos c_2683] at e
    refine Rn.bt hT rfl rfl rfl (decide_eq_true ((ti_e p4 L32_0).mpr c_2683)) ?_
    exact Rn.weak (ll_s (ll_n (ll_s (ll_s (ll_n ll_e))))) (RX12_test_b93 hd hR t0 p2 p3 hb hk hq e)
  · rw [if_neg c_2683] at e
    refine Rn.bf hT rfl rfl rfl (decide_eq_false (fun z => c_2683 ((ti_e p4 L32_0).mp z))) ?_
    refine Rn.n hT 2 (pc' := 90) (L' := [some (.ref q0), none, some (.int m2), some (.int m3), some (.int m4)]) (st' := [.int (11 : Int32), .ref q0]) rfl ?_
    obtain ⟨s_2685, e_2684, e⟩ := Option.bind_eq_some_iff.mp e
    refine Rn.call hT rfl rfl rfl (Nat.le_of_ble_eq_true rfl) (rcv_v gX12_answers (by omega) (rp_ck hR (T12_o t0))) (RX12_answers (by omega) hR t0 L32_11 e_2684 (fun h_2685 R_2685 => ?_))
    show Rn d _ _ 93 [some (.ref q0), none, some (.int m2), some (.int m3), some (.int m4)] [] h_2685 Q
    exact Rn.weak (ll_s (ll_n (ll_s (ll_s (ll_n ll_e))))) (RX12_test_b93 hd R_2685 t0 p2 p3 hb hk hq e)
def FX12_test_b164 (N : Nat) (s : iv_M) (q0 : Nat) (x1 : Int) (x2 : Int)  (kb : iv_M → Int → Int → Option (iv_M)) (kx : iv_M → Option (iv_M)) : Option (iv_M) := ((pt s q0 29 (w32 ((s q0 29) + 1))).bind fun s_2694 => ((pt s_2694 q0 36 (w32 ((s_2694 q0 36) - 1))).bind fun s_2697 => ((pt s_2697 q0 34 (w32 ((s_2697 q0 34) - 1))).bind fun s_2700 => (FX12_test_b199 N s_2700 q0 x1 x2 kb kx))))
set_option maxRecDepth 10000 in
set_option maxHeartbeats 4000000 in
theorem RX12_test_b164 {d N nc Ls : Nat} {Xs : Nat → Int32} (hd : 16 ≤ d) {h : iv_H} {s : iv_M} (hR : Rep nc Ls Xs h s) {q0 : Nat} (t0 : T12 nc q0) {m1 : Int32} {x1 : Int} (p1 : m1.toInt = x1) {m2 : Int32} {x2 : Int} (p2 : m2.toInt = x2)  {kb : iv_M → Int → Int → Option (iv_M)} {kx : iv_M → Option (iv_M)} {r : iv_M} {Q : Option Value → iv_H → Prop} (hb : ∀ (h : iv_H) (s : iv_M) (hR : Rep nc Ls Xs h s) (mw1 : Int32) (xw1 : Int) (pw1 : mw1.toInt = xw1) (mw2 : Int32) (xw2 : Int) (pw2 : mw2.toInt = xw2), kb s xw1 xw2 = some r → Rn d 227 none 9 [some (.ref q0), some (.int mw1), some (.int mw2), none, none] [] h Q) (hk : ∀ (h : iv_H) (s : iv_M) (hR : Rep nc Ls Xs h s), kx s = some r → Rn d 227 none 202 [none, none, none, none, none] [] h Q) (hq : ∀ h1, Rep nc Ls Xs h1 r → Q none h1) (e : FX12_test_b164 N s q0 x1 x2  kb kx = some r) : Rn d 227 none 164 [some (.ref q0), some (.int m1), some (.int m2), none, none] [] h Q := by
  have hT := hX12_test
  unfold FX12_test_b164 at e
  refine Rn.n hT 2 (pc' := 166) (L' := [some (.ref q0), some (.int m1), some (.int m2), none, none]) (st' := [.ref q0, .ref q0]) rfl ?_
  obtain ⟨z_2693, g_2693, p_2693⟩ : ∃ z : Int32, gI h 12 29 q0 = some z ∧ z.toInt = s q0 29 := rp_gI (k := 29) hR (T12_o t0) rfl
  refine Rn.hp hT rfl rfl (gI_hp g_2693) ?_
  refine Rn.n hT 2 (pc' := 171) (L' := [some (.ref q0), some (.int m1), some (.int m2), none, none]) (st' := [.int (z_2693 + (1 : Int32)), .ref q0]) rfl ?_
  obtain ⟨s_2694, e_2695, e⟩ := Option.bind_eq_some_iff.mp e
  obtain ⟨h_2694, g_2695, R_2694⟩ := rp_pI (ci := 12) (k := 29) hR (T12_o t0) rfl rfl (ti_add p_2693 L32_1) e_2695
  refine Rn.hp hT rfl rfl (pV_hp rfl g_2695) ?_
  refine Rn.n hT 2 (pc' := 176) (L' := [some (.ref q0), some (.int m1), some (.int m2), none, none]) (st' := [.ref q0, .ref q0]) rfl ?_
  obtain ⟨z_2696, g_2696, p_2696⟩ : ∃ z : Int32, gI h_2694 12 36 q0 = some z ∧ z.toInt = s_2694 q0 36 := rp_gI (k := 36) R_2694 (T12_o t0) rfl
  refine Rn.hp hT rfl rfl (gI_hp g_2696) ?_
  refine Rn.n hT 2 (pc' := 181) (L' := [some (.ref q0), some (.int m1), some (.int m2), none, none]) (st' := [.int (z_2696 - (1 : Int32)), .ref q0]) rfl ?_
  obtain ⟨s_2697, e_2698, e⟩ := Option.bind_eq_some_iff.mp e
  obtain ⟨h_2697, g_2698, R_2697⟩ := rp_pI (ci := 12) (k := 36) R_2694 (T12_o t0) rfl rfl (ti_sub p_2696 L32_1) e_2698
  refine Rn.hp hT rfl rfl (pV_hp rfl g_2698) ?_
  refine Rn.n hT 2 (pc' := 186) (L' := [some (.ref q0), some (.int m1), some (.int m2), none, none]) (st' := [.ref q0, .ref q0]) rfl ?_
  obtain ⟨z_2699, g_2699, p_2699⟩ : ∃ z : Int32, gI h_2697 12 34 q0 = some z ∧ z.toInt = s_2697 q0 34 := rp_gI (k := 34) R_2697 (T12_o t0) rfl
  refine Rn.hp hT rfl rfl (gI_hp g_2699) ?_
  refine Rn.n hT 2 (pc' := 191) (L' := [some (.ref q0), some (.int m1), some (.int m2), none, none]) (st' := [.int (z_2699 - (1 : Int32)), .ref q0]) rfl ?_
  obtain ⟨s_2700, e_2701, e⟩ := Option.bind_eq_some_iff.mp e
  obtain ⟨h_2700, g_2701, R_2700⟩ := rp_pI (ci := 12) (k := 34) R_2697 (T12_o t0) rfl rfl (ti_sub p_2699 L32_1) e_2701
  refine Rn.hp hT rfl rfl (pV_hp rfl g_2701) ?_
  refine Rn.n hT 1 (pc' := 199) (L' := [some (.ref q0), some (.int m1), some (.int m2), none, none]) (st' := []) rfl ?_
  exact Rn.weak (ll_s (ll_s (ll_s (ll_n (ll_n ll_e))))) (RX12_test_b199 hd R_2700 t0 p1 p2 hb hk hq e)
def FX12_test_l9 (N : Nat) (q0 : Nat) (kx : iv_M → Option (iv_M)) : Nat → iv_M → Int → Int → Option (iv_M)
  | 0, _, _, _ => none
  | n + 1, s, x1, x2 => (if x2 = 0 then (kx s) else (if (s q0 30) = 0 then (if x1 = 0 then ((FX12_answers N s q0 9).bind fun s_2662 => ((FX12_blanks N s_2662 q0).bind fun s_2664 => ((FX12_stood N s_2664 q0 1000029).bind fun v_2665 => ((FX12_stood N s_2664 q0 1000030).bind fun v_2666 => ((FX12_answers N s_2664 q0 10).bind fun s_2668 => (if v_2665 = 0 then (if v_2666 = 0 then ((FX12_answers N s_2668 q0 11).bind fun s_2672 => ((FX12_top N s_2672 q0).bind fun v_2673 => (if v_2673 = 12 then ((FX12_sign N s_2672 q0).bind fun v_2675 => (if v_2675 = 93 then (FX12_test_b164 N s_2672 q0 x1 x2 (FX12_test_l9 N q0 kx n) kx) else ((FX12_fails N s_2672 q0 0 (s_2672 q0 29)).bind fun s_2679 => (FX12_test_b164 N s_2679 q0 x1 x2 (FX12_test_l9 N q0 kx n) kx)))) else (FX12_test_b199 N s_2672 q0 x1 0 (FX12_test_l9 N q0 kx n) kx)))) else (FX12_test_b82 N s_2668 q0 x2 v_2665 v_2666 (FX12_test_l9 N q0 kx n) kx)) else (FX12_test_b82 N s_2668 q0 x2 v_2665 v_2666 (FX12_test_l9 N q0 kx n) kx))))))) else ((FX12_fact N s q0).bind fun r_2680 => (fun (v_2680 : Int) (s_2681 : iv_M) => (if v_2680 = 0 then (FX12_test_b36 N s_2681 q0 x2 1 (FX12_test_l9 N q0 kx n) kx) else (FX12_test_b36 N s_2681 q0 x2 0 (FX12_test_l9 N q0 kx n) kx))) r_2680.1 r_2680.2)) else (kx s)))
set_option maxRecDepth 10000 in
set_option maxHeartbeats 4000000 in
theorem RX12_test_l9 {d N nc Ls : Nat} {Xs : Nat → Int32} (hd : 16 ≤ d) {q0 : Nat} (t0 : T12 nc q0) {kx : iv_M → Option (iv_M)} {r : iv_M} {Q : Option Value → iv_H → Prop} (hk : ∀ (h : iv_H) (s : iv_M) (hR : Rep nc Ls Xs h s), kx s = some r → Rn d 227 none 202 [none, none, none, none, none] [] h Q) (hq : ∀ h1, Rep nc Ls Xs h1 r → Q none h1) : ∀ (n : Nat) (h : iv_H) (s : iv_M) (hR : Rep nc Ls Xs h s) (m1 : Int32) (x1 : Int) (p1 : m1.toInt = x1) (m2 : Int32) (x2 : Int) (p2 : m2.toInt = x2), FX12_test_l9 N q0 kx n s x1 x2 = some r → Rn d 227 none 9 [some (.ref q0), some (.int m1), some (.int m2), none, none] [] h Q := by
  have hT := hX12_test
  intro n
  induction n with
  | zero =>
    intro h s hR m1 x1 p1 m2 x2 p2 e
    rw [FX12_test_l9] at e
    cases e
  | succ n ih =>
    intro h s hR m1 x1 p1 m2 x2 p2 e
    rw [FX12_test_l9] at e
    refine Rn.n hT 1 (pc' := 10) (L' := [some (.ref q0), some (.int m1), some (.int m2), none, none]) (st' := [.int m2]) rfl ?_
    by_cases c_2657 : x2 = 0
    · rw [if_pos c_2657] at e
      refine Rn.bt hT rfl rfl rfl (decide_eq_true ((ti_e p2 L32_0).mpr c_2657)) ?_
      exact Rn.weak (ll_n (ll_n (ll_n (ll_n (ll_n ll_e))))) (hk h s hR e)
    · rw [if_neg c_2657] at e
      refine Rn.bf hT rfl rfl rfl (decide_eq_false (fun z => c_2657 ((ti_e p2 L32_0).mp z))) ?_
      refine Rn.n hT 1 (pc' := 14) (L' := [some (.ref q0), some (.int m1), some (.int m2), none, none]) (st' := [.ref q0]) rfl ?_
      obtain ⟨z_2658, g_2658, p_2658⟩ : ∃ z : Int32, gI h 12 30 q0 = some z ∧ z.toInt = s q0 30 := rp_gI (k := 30) hR (T12_o t0) rfl
      refine Rn.hp hT rfl rfl (gI_hp g_2658) ?_
      by_cases c_2659 : (s q0 30) = 0
      · rw [if_pos c_2659] at e
        refine Rn.bf hT rfl rfl rfl (decide_eq_false (fun z => z ((ti_e p_2658 L32_0).mpr c_2659))) ?_
        refine Rn.n hT 1 (pc' := 21) (L' := [some (.ref q0), some (.int m1), some (.int m2), none, none]) (st' := [.int m1]) rfl ?_
        by_cases c_2660 : x1 = 0
        · rw [if_pos c_2660] at e
          refine Rn.bt hT rfl rfl rfl (decide_eq_true ((ti_e p1 L32_0).mpr c_2660)) ?_
          refine Rn.n hT 2 (pc' := 43) (L' := [some (.ref q0), some (.int m1), some (.int m2), none, none]) (st' := [.int (9 : Int32), .ref q0]) rfl ?_
          obtain ⟨s_2662, e_2661, e⟩ := Option.bind_eq_some_iff.mp e
          refine Rn.call hT rfl rfl rfl (Nat.le_of_ble_eq_true rfl) (rcv_v gX12_answers (by omega) (rp_ck hR (T12_o t0))) (RX12_answers (by omega) hR t0 L32_9 e_2661 (fun h_2662 R_2662 => ?_))
          show Rn d _ _ 46 [some (.ref q0), some (.int m1), some (.int m2), none, none] [] h_2662 Q
          refine Rn.n hT 1 (pc' := 47) (L' := [some (.ref q0), some (.int m1), some (.int m2), none, none]) (st' := [.ref q0]) rfl ?_
          obtain ⟨s_2664, e_2663, e⟩ := Option.bind_eq_some_iff.mp e
          refine Rn.call hT rfl rfl rfl (Nat.le_of_ble_eq_true rfl) (rcv_v gX12_blanks (by omega) (rp_ck R_2662 (T12_o t0))) (RX12_blanks (by omega) R_2662 t0 e_2663 (fun h_2664 R_2664 => ?_))
          show Rn d _ _ 50 [some (.ref q0), some (.int m1), some (.int m2), none, none] [] h_2664 Q
          refine Rn.n hT 2 (pc' := 54) (L' := [some (.ref q0), some (.int m1), some (.int m2), none, none]) (st' := [.ref 1000029, .ref q0]) rfl ?_
          obtain ⟨v_2665, e_2665, e⟩ := Option.bind_eq_some_iff.mp e
          refine Rn.call hT rfl rfl rfl (Nat.le_of_ble_eq_true rfl) (rcv_v gX12_stood (by omega) (rp_ck R_2664 (T12_o t0))) (RX12_stood (by omega) R_2664 t0 TS_1000029 e_2665 (fun z_2665 p_2665 => ?_))
          show Rn d _ _ 57 [some (.ref q0), some (.int m1), some (.int m2), none, none] [.int z_2665] h_2664 Q
          refine Rn.n hT 3 (pc' := 62) (L' := [some (.ref q0), some (.int m1), some (.int m2), some (.int z_2665), none]) (st' := [.ref 1000030, .ref q0]) rfl ?_
          obtain ⟨v_2666, e_2666, e⟩ := Option.bind_eq_some_iff.mp e
          refine Rn.call hT rfl rfl rfl (Nat.le_of_ble_eq_true rfl) (rcv_v gX12_stood (by omega) (rp_ck R_2664 (T12_o t0))) (RX12_stood (by omega) R_2664 t0 TS_1000030 e_2666 (fun z_2666 p_2666 => ?_))
          show Rn d _ _ 65 [some (.ref q0), some (.int m1), some (.int m2), some (.int z_2665), none] [.int z_2666] h_2664 Q
          refine Rn.n hT 3 (pc' := 70) (L' := [some (.ref q0), some (.int m1), some (.int m2), some (.int z_2665), some (.int z_2666)]) (st' := [.int (10 : Int32), .ref q0]) rfl ?_
          obtain ⟨s_2668, e_2667, e⟩ := Option.bind_eq_some_iff.mp e
          refine Rn.call hT rfl rfl rfl (Nat.le_of_ble_eq_true rfl) (rcv_v gX12_answers (by omega) (rp_ck R_2664 (T12_o t0))) (RX12_answers (by omega) R_2664 t0 L32_10 e_2667 (fun h_2668 R_2668 => ?_))
          show Rn d _ _ 73 [some (.ref q0), some (.int m1), some (.int m2), some (.int z_2665), some (.int z_2666)] [] h_2668 Q
          refine Rn.n hT 1 (pc' := 74) (L' := [some (.ref q0), some (.int m1), some (.int m2), some (.int z_2665), some (.int z_2666)]) (st' := [.int z_2665]) rfl ?_
          by_cases c_2669 : v_2665 = 0
          · rw [if_pos c_2669] at e
            refine Rn.bf hT rfl rfl rfl (decide_eq_false (fun z => z ((ti_e p_2665 L32_0).mpr c_2669))) ?_
            refine Rn.n hT 1 (pc' := 79) (L' := [some (.ref q0), some (.int m1), some (.int m2), some (.int z_2665), some (.int z_2666)]) (st' := [.int z_2666]) rfl ?_
            by_cases c_2670 : v_2666 = 0
            · rw [if_pos c_2670] at e
              refine Rn.bt hT rfl rfl rfl (decide_eq_true ((ti_e p_2666 L32_0).mpr c_2670)) ?_
              refine Rn.n hT 2 (pc' := 134) (L' := [some (.ref q0), some (.int m1), some (.int m2), some (.int z_2665), some (.int z_2666)]) (st' := [.int (11 : Int32), .ref q0]) rfl ?_
              obtain ⟨s_2672, e_2671, e⟩ := Option.bind_eq_some_iff.mp e
              refine Rn.call hT rfl rfl rfl (Nat.le_of_ble_eq_true rfl) (rcv_v gX12_answers (by omega) (rp_ck R_2668 (T12_o t0))) (RX12_answers (by omega) R_2668 t0 L32_11 e_2671 (fun h_2672 R_2672 => ?_))
              show Rn d _ _ 137 [some (.ref q0), some (.int m1), some (.int m2), some (.int z_2665), some (.int z_2666)] [] h_2672 Q
              refine Rn.n hT 1 (pc' := 138) (L' := [some (.ref q0), some (.int m1), some (.int m2), some (.int z_2665), some (.int z_2666)]) (st' := [.ref q0]) rfl ?_
              obtain ⟨v_2673, e_2673, e⟩ := Option.bind_eq_some_iff.mp e
              refine Rn.call hT rfl rfl rfl (Nat.le_of_ble_eq_true rfl) (rcv_v gX12_top (by omega) (rp_ck R_2672 (T12_o t0))) (RX12_top (by omega) R_2672 t0 e_2673 (fun z_2673 p_2673 => ?_))
              show Rn d _ _ 141 [some (.ref q0), some (.int m1), some (.int m2), some (.int z_2665), some (.int z_2666)] [.int z_2673] h_2672 Q
              refine Rn.n hT 1 (pc' := 143) (L' := [some (.ref q0), some (.int m1), some (.int m2), some (.int z_2665), some (.int z_2666)]) (st' := [.int (12 : Int32), .int z_2673]) rfl ?_
              by_cases c_2674 : v_2673 = 12
              · rw [if_pos c_2674] at e
                refine Rn.bf hT rfl rfl rfl (decide_eq_false (fun z => z ((ti_e p_2673 L32_12).mpr c_2674))) ?_
                refine Rn.n hT 1 (pc' := 147) (L' := [some (.ref q0), some (.int m1), some (.int m2), some (.int z_2665), some (.int z_2666)]) (st' := [.ref q0]) rfl ?_
                obtain ⟨v_2675, e_2675, e⟩ := Option.bind_eq_some_iff.mp e
                refine Rn.call hT rfl rfl rfl (Nat.le_of_ble_eq_true rfl) (rcv_v gX12_sign (by omega) (rp_ck R_2672 (T12_o t0))) (RX12_sign (by omega) R_2672 t0 e_2675 (fun z_2675 p_2675 => ?_))
                show Rn d _ _ 150 [some (.ref q0), some (.int m1), some (.int m2), some (.int z_2665), some (.int z_2666)] [.int z_2675] h_2672 Q
                refine Rn.n hT 1 (pc' := 152) (L' := [some (.ref q0), some (.int m1), some (.int m2), some (.int z_2665), some (.int z_2666)]) (st' := [.int (93 : Int32), .int z_2675]) rfl ?_
                by_cases c_2676 : v_2675 = 93
                · rw [if_pos c_2676] at e
                  refine Rn.bt hT rfl rfl rfl (decide_eq_true ((ti_e p_2675 L32_93).mpr c_2676)) ?_
                  exact Rn.weak (ll_s (ll_s (ll_s (ll_n (ll_n ll_e))))) (RX12_test_b164 hd R_2672 t0 p1 p2 ih hk hq e)
                · rw [if_neg c_2676] at e
                  refine Rn.bf hT rfl rfl rfl (decide_eq_false (fun z => c_2676 ((ti_e p_2675 L32_93).mp z))) ?_
                  refine Rn.n hT 3 (pc' := 158) (L' := [some (.ref q0), some (.int m1), some (.int m2), some (.int z_2665), some (.int z_2666)]) (st' := [.ref q0, .int (0 : Int32), .ref q0]) rfl ?_
                  obtain ⟨z_2677, g_2677, p_2677⟩ : ∃ z : Int32, gI h_2672 12 29 q0 = some z ∧ z.toInt = s_2672 q0 29 := rp_gI (k := 29) R_2672 (T12_o t0) rfl
                  refine Rn.hp hT rfl rfl (gI_hp g_2677) ?_
                  obtain ⟨s_2679, e_2678, e⟩ := Option.bind_eq_some_iff.mp e
                  refine Rn.call hT rfl rfl rfl (Nat.le_of_ble_eq_true rfl) (rcv_v gX12_fails (by omega) (rp_ck R_2672 (T12_o t0))) (RX12_fails (by omega) R_2672 t0 L32_0 p_2677 e_2678 (fun h_2679 R_2679 => ?_))
                  show Rn d _ _ 164 [some (.ref q0), some (.int m1), some (.int m2), some (.int z_2665), some (.int z_2666)] [] h_2679 Q
                  exact Rn.weak (ll_s (ll_s (ll_s (ll_n (ll_n ll_e))))) (RX12_test_b164 hd R_2679 t0 p1 p2 ih hk hq e)
              · rw [if_neg c_2674] at e
                refine Rn.bt hT rfl rfl rfl (decide_eq_true (fun z => c_2674 ((ti_e p_2673 L32_12).mp z))) ?_
                refine Rn.n hT 2 (pc' := 199) (L' := [some (.ref q0), some (.int m1), some (.int (0 : Int32)), some (.int z_2665), some (.int z_2666)]) (st' := []) rfl ?_
                exact Rn.weak (ll_s (ll_s (ll_s (ll_n (ll_n ll_e))))) (RX12_test_b199 hd R_2672 t0 p1 L32_0 ih hk hq e)
            · rw [if_neg c_2670] at e
              refine Rn.bf hT rfl rfl rfl (decide_eq_false (fun z => c_2670 ((ti_e p_2666 L32_0).mp z))) ?_
              exact Rn.weak (ll_s (ll_n (ll_s (ll_s (ll_s ll_e))))) (RX12_test_b82 hd R_2668 t0 p2 p_2665 p_2666 ih hk hq e)
          · rw [if_neg c_2669] at e
            refine Rn.bt hT rfl rfl rfl (decide_eq_true (fun z => c_2669 ((ti_e p_2665 L32_0).mp z))) ?_
            exact Rn.weak (ll_s (ll_n (ll_s (ll_s (ll_s ll_e))))) (RX12_test_b82 hd R_2668 t0 p2 p_2665 p_2666 ih hk hq e)
        · rw [if_neg c_2660] at e
          refine Rn.bf hT rfl rfl rfl (decide_eq_false (fun z => c_2660 ((ti_e p1 L32_0).mp z))) ?_
          refine Rn.n hT 1 (pc' := 25) (L' := [some (.ref q0), some (.int m1), some (.int m2), none, none]) (st' := [.ref q0]) rfl ?_
          obtain ⟨⟨v_2680, s_2681⟩, e_2680, e⟩ := Option.bind_eq_some_iff.mp e
          try dsimp only at e
          try dsimp only at e
          refine Rn.call hT rfl rfl rfl (Nat.le_of_ble_eq_true rfl) (rcv_v gX12_fact (by omega) (rp_ck hR (T12_o t0))) (RX12_fact (by omega) hR t0 e_2680 (fun z_2680 h_2681 p_2680 R_2681 => ?_))
          show Rn d _ _ 28 [some (.ref q0), some (.int m1), some (.int m2), none, none] [.int z_2680] h_2681 Q
          by_cases c_2682 : v_2680 = 0
          · rw [if_pos c_2682] at e
            refine Rn.bf hT rfl rfl rfl (decide_eq_false (fun z => z ((ti_e p_2680 L32_0).mpr c_2682))) ?_
            refine Rn.n hT 2 (pc' := 36) (L' := [some (.ref q0), some (.int m1), some (.int m2), none, none]) (st' := [.int (1 : Int32)]) rfl ?_
            exact Rn.weak (ll_s (ll_n (ll_s (ll_n (ll_n ll_e))))) (RX12_test_b36 hd R_2681 t0 p2 L32_1 ih hk hq e)
          · rw [if_neg c_2682] at e
            refine Rn.bt hT rfl rfl rfl (decide_eq_true (fun z => c_2682 ((ti_e p_2680 L32_0).mp z))) ?_
            refine Rn.n hT 1 (pc' := 36) (L' := [some (.ref q0), some (.int m1), some (.int m2), none, none]) (st' := [.int (0 : Int32)]) rfl ?_
            exact Rn.weak (ll_s (ll_n (ll_s (ll_n (ll_n ll_e))))) (RX12_test_b36 hd R_2681 t0 p2 L32_0 ih hk hq e)
      · rw [if_neg c_2659] at e
        refine Rn.bt hT rfl rfl rfl (decide_eq_true (fun z => c_2659 ((ti_e p_2658 L32_0).mp z))) ?_
        exact Rn.weak (ll_n (ll_n (ll_n (ll_n (ll_n ll_e))))) (hk h s hR e)
def FX12_test_b202 (N : Nat) (s : iv_M)   : Option (iv_M) := some s
set_option maxRecDepth 10000 in
set_option maxHeartbeats 4000000 in
theorem RX12_test_b202 {d N nc Ls : Nat} {Xs : Nat → Int32} (hd : 16 ≤ d) {h : iv_H} {s : iv_M} (hR : Rep nc Ls Xs h s)   {r : iv_M} {Q : Option Value → iv_H → Prop} (hq : ∀ h1, Rep nc Ls Xs h1 r → Q none h1) (e : FX12_test_b202 N s   = some r) : Rn d 227 none 202 [none, none, none, none, none] [] h Q := by
  have hT := hX12_test
  unfold FX12_test_b202 at e
  obtain rfl := Option.some.inj e
  exact Rn.ret hT rfl rfl rfl (hq h hR)
def FX12_test (N : Nat) (s : iv_M) (q0 : Nat) : Option (iv_M) := ((pt s q0 36 0).bind fun s_2653 => (FX12_test_l9 N q0 (fun (s_2655 : iv_M) => (FX12_test_b202 N s_2655)) N s_2653 1 1))
set_option maxRecDepth 10000 in
set_option maxHeartbeats 4000000 in
theorem RX12_test {d N nc Ls : Nat} {Xs : Nat → Int32} (hd : 17 ≤ d) {h : iv_H} {s : iv_M} (hR : Rep nc Ls Xs h s) {q0 : Nat} (t0 : T12 nc q0) {r : iv_M} {Q : Option Value → iv_H → Prop} (e : FX12_test N s q0 = some r) (hq : ∀ h1, Rep nc Ls Xs h1 r → Q none h1) : Cl d 227 [.ref q0] h Q := by
  obtain ⟨d, rfl⟩ : ∃ k, d = k + 1 := ⟨d - 1, by omega⟩
  have hd : 16 ≤ d := by omega
  have hT := hX12_test
  unfold FX12_test at e
  refine Cl.into (by decide) gX12_test rfl ?_
  show Rn d 227 none 0 [some (.ref q0), none, none, none, none] [] h Q
  refine Rn.n hT 2 (pc' := 2) (L' := [some (.ref q0), none, none, none, none]) (st' := [.int (0 : Int32), .ref q0]) rfl ?_
  obtain ⟨s_2653, e_2654, e⟩ := Option.bind_eq_some_iff.mp e
  obtain ⟨h_2653, g_2654, R_2653⟩ := rp_pI (ci := 12) (k := 36) hR (T12_o t0) rfl rfl L32_0 e_2654
  refine Rn.hp hT rfl rfl (pV_hp rfl g_2654) ?_
  refine Rn.n hT 4 (pc' := 9) (L' := [some (.ref q0), some (.int (1 : Int32)), some (.int (1 : Int32)), none, none]) (st' := []) rfl ?_
  refine Rn.weak (ll_s (ll_s (ll_s (ll_n (ll_n ll_e))))) (RX12_test_l9 hd t0 (fun h_2655 s_2655 R_2655 e => ?_) hq N h_2653 s_2653 R_2653 (1 : Int32) 1 L32_1 (1 : Int32) 1 L32_1 e)
  try dsimp only at e
  exact Rn.weak (ll_n (ll_n (ll_n (ll_n (ll_n ll_e))))) (RX12_test_b202 hd R_2655 hq e)
set_option maxRecDepth 10000 in
theorem hX12_amount : iv_Tb 228 tX12_amount := iv_tb_of (m := mX12_amount) rfl
set_option maxRecDepth 10000 in
theorem gX12_amount : PG.2 228 = some mX12_amount := iv_pi_of (t := tX12_amount) rfl (by decide)
def FX12_amount_b55 (N : Nat) (s : iv_M) (x4 : Int)  : Option (Int × iv_M) := (some (x4, s))
set_option maxRecDepth 10000 in
set_option maxHeartbeats 4000000 in
theorem RX12_amount_b55 {d N nc Ls : Nat} {Xs : Nat → Int32} (hd : 3 ≤ d) {h : iv_H} {s : iv_M} (hR : Rep nc Ls Xs h s) {m4 : Int32} {x4 : Int} (p4 : m4.toInt = x4)  {r : Int × iv_M} {Q : Option Value → iv_H → Prop} (hq : ∀ (z : Int32) (h1 : iv_H), z.toInt = r.1 → Rep nc Ls Xs h1 r.2 → Q (some (.int z)) h1) (e : FX12_amount_b55 N s x4  = some r) : Rn d 228 (some .int) 55 [none, none, none, none, some (.int m4)] [] h Q := by
  have hT := hX12_amount
  unfold FX12_amount_b55 at e
  refine Rn.n hT 1 (pc' := 57) (L' := [none, none, none, none, some (.int m4)]) (st' := [.int m4]) rfl ?_
  obtain rfl := Option.some.inj e
  exact Rn.ret hT rfl rfl rfl (hq m4 h p4 hR)
def FX12_amount_b27 (N : Nat) (s : iv_M) (q0 : Nat) (x1 : Int) (x2 : Int) (x3 : Int) (xs0 : Int) : Option (Int × iv_M) := (if (s q0 30) = 0 then ((FX12_in N s xs0 x1 x2).bind fun v_2711 => (if v_2711 = 0 then ((FX12_fails N s q0 1 x3).bind fun s_2714 => (FX12_amount_b55 N s_2714 xs0)) else (FX12_amount_b55 N s xs0))) else (FX12_amount_b55 N s xs0))
set_option maxRecDepth 10000 in
set_option maxHeartbeats 4000000 in
theorem RX12_amount_b27 {d N nc Ls : Nat} {Xs : Nat → Int32} (hd : 3 ≤ d) {h : iv_H} {s : iv_M} (hR : Rep nc Ls Xs h s) {q0 : Nat} (t0 : T12 nc q0) {m1 : Int32} {x1 : Int} (p1 : m1.toInt = x1) {m2 : Int32} {x2 : Int} (p2 : m2.toInt = x2) {m3 : Int32} {x3 : Int} (p3 : m3.toInt = x3) {ms0 : Int32} {xs0 : Int} (ps0 : ms0.toInt = xs0) {r : Int × iv_M} {Q : Option Value → iv_H → Prop} (hq : ∀ (z : Int32) (h1 : iv_H), z.toInt = r.1 → Rep nc Ls Xs h1 r.2 → Q (some (.int z)) h1) (e : FX12_amount_b27 N s q0 x1 x2 x3 xs0 = some r) : Rn d 228 (some .int) 27 [some (.ref q0), some (.int m1), some (.int m2), some (.int m3), none] [.int ms0] h Q := by
  have hT := hX12_amount
  unfold FX12_amount_b27 at e
  refine Rn.n hT 2 (pc' := 30) (L' := [some (.ref q0), some (.int m1), some (.int m2), some (.int m3), some (.int ms0)]) (st' := [.ref q0]) rfl ?_
  obtain ⟨z_2709, g_2709, p_2709⟩ : ∃ z : Int32, gI h 12 30 q0 = some z ∧ z.toInt = s q0 30 := rp_gI (k := 30) hR (T12_o t0) rfl
  refine Rn.hp hT rfl rfl (gI_hp g_2709) ?_
  by_cases c_2710 : (s q0 30) = 0
  · rw [if_pos c_2710] at e
    refine Rn.bf hT rfl rfl rfl (decide_eq_false (fun z => z ((ti_e p_2709 L32_0).mpr c_2710))) ?_
    refine Rn.n hT 6 (pc' := 43) (L' := [some (.ref q0), some (.int m1), some (.int m2), some (.int m3), some (.int ms0)]) (st' := [.long ((m2).toInt64), .long ((m1).toInt64), .long ((ms0).toInt64)]) rfl ?_
    obtain ⟨v_2711, e_2711, e⟩ := Option.bind_eq_some_iff.mp e
    refine Rn.call hT rfl rfl rfl (Nat.le_of_ble_eq_true rfl) rfl (RX12_in (by omega) hR (ti_j ps0) (ti_j p1) (ti_j p2) e_2711 (fun z_2711 p_2711 => ?_))
    show Rn d _ _ 46 [some (.ref q0), some (.int m1), some (.int m2), some (.int m3), some (.int ms0)] [.int z_2711] h Q
    by_cases c_2712 : v_2711 = 0
    · rw [if_pos c_2712] at e
      refine Rn.bf hT rfl rfl rfl (decide_eq_false (fun z => z ((ti_e p_2711 L32_0).mpr c_2712))) ?_
      refine Rn.n hT 3 (pc' := 52) (L' := [some (.ref q0), some (.int m1), some (.int m2), some (.int m3), some (.int ms0)]) (st' := [.int m3, .int (1 : Int32), .ref q0]) rfl ?_
      obtain ⟨s_2714, e_2713, e⟩ := Option.bind_eq_some_iff.mp e
      refine Rn.call hT rfl rfl rfl (Nat.le_of_ble_eq_true rfl) (rcv_v gX12_fails (by omega) (rp_ck hR (T12_o t0))) (RX12_fails (by omega) hR t0 L32_1 p3 e_2713 (fun h_2714 R_2714 => ?_))
      show Rn d _ _ 55 [some (.ref q0), some (.int m1), some (.int m2), some (.int m3), some (.int ms0)] [] h_2714 Q
      exact Rn.weak (ll_n (ll_n (ll_n (ll_n (ll_s ll_e))))) (RX12_amount_b55 hd R_2714 ps0 hq e)
    · rw [if_neg c_2712] at e
      refine Rn.bt hT rfl rfl rfl (decide_eq_true (fun z => c_2712 ((ti_e p_2711 L32_0).mp z))) ?_
      exact Rn.weak (ll_n (ll_n (ll_n (ll_n (ll_s ll_e))))) (RX12_amount_b55 hd hR ps0 hq e)
  · rw [if_neg c_2710] at e
    refine Rn.bt hT rfl rfl rfl (decide_eq_true (fun z => c_2710 ((ti_e p_2709 L32_0).mp z))) ?_
    exact Rn.weak (ll_n (ll_n (ll_n (ll_n (ll_s ll_e))))) (RX12_amount_b55 hd hR ps0 hq e)
def FX12_amount (N : Nat) (s : iv_M) (q0 : Nat) (x1 : Int) (x2 : Int) : Option (Int × iv_M) := ((FX12_blanks N s q0).bind fun s_2703 => (if (s_2703 q0 30) = 0 then ((FX12_digits N s_2703 q0 99999).bind fun r_2707 => (fun (v_2707 : Int) (s_2708 : iv_M) => (FX12_amount_b27 N s_2708 q0 x1 x2 (s_2703 q0 29) v_2707)) r_2707.1 r_2707.2) else (FX12_amount_b27 N s_2703 q0 x1 x2 (s_2703 q0 29) 0)))
set_option maxRecDepth 10000 in
set_option maxHeartbeats 4000000 in
theorem RX12_amount {d N nc Ls : Nat} {Xs : Nat → Int32} (hd : 4 ≤ d) {h : iv_H} {s : iv_M} (hR : Rep nc Ls Xs h s) {q0 : Nat} (t0 : T12 nc q0) {m1 : Int32} {x1 : Int} (p1 : m1.toInt = x1) {m2 : Int32} {x2 : Int} (p2 : m2.toInt = x2) {r : Int × iv_M} {Q : Option Value → iv_H → Prop} (e : FX12_amount N s q0 x1 x2 = some r) (hq : ∀ (z : Int32) (h1 : iv_H), z.toInt = r.1 → Rep nc Ls Xs h1 r.2 → Q (some (.int z)) h1) : Cl d 228 [.ref q0, .int m1, .int m2] h Q := by
  obtain ⟨d, rfl⟩ : ∃ k, d = k + 1 := ⟨d - 1, by omega⟩
  have hd : 3 ≤ d := by omega
  have hT := hX12_amount
  unfold FX12_amount at e
  refine Cl.into (by decide) gX12_amount rfl ?_
  show Rn d 228 (some .int) 0 [some (.ref q0), some (.int m1), some (.int m2), none, none] [] h Q
  refine Rn.n hT 1 (pc' := 1) (L' := [some (.ref q0), some (.int m1), some (.int m2), none, none]) (st' := [.ref q0]) rfl ?_
  obtain ⟨s_2703, e_2702, e⟩ := Option.bind_eq_some_iff.mp e
  refine Rn.call hT rfl rfl rfl (Nat.le_of_ble_eq_true rfl) (rcv_v gX12_blanks (by omega) (rp_ck hR (T12_o t0))) (RX12_blanks (by omega) hR t0 e_2702 (fun h_2703 R_2703 => ?_))
  show Rn d _ _ 4 [some (.ref q0), some (.int m1), some (.int m2), none, none] [] h_2703 Q
  refine Rn.n hT 1 (pc' := 5) (L' := [some (.ref q0), some (.int m1), some (.int m2), none, none]) (st' := [.ref q0]) rfl ?_
  obtain ⟨z_2704, g_2704, p_2704⟩ : ∃ z : Int32, gI h_2703 12 29 q0 = some z ∧ z.toInt = s_2703 q0 29 := rp_gI (k := 29) R_2703 (T12_o t0) rfl
  refine Rn.hp hT rfl rfl (gI_hp g_2704) ?_
  refine Rn.n hT 2 (pc' := 10) (L' := [some (.ref q0), some (.int m1), some (.int m2), some (.int z_2704), none]) (st' := [.ref q0]) rfl ?_
  obtain ⟨z_2705, g_2705, p_2705⟩ : ∃ z : Int32, gI h_2703 12 30 q0 = some z ∧ z.toInt = s_2703 q0 30 := rp_gI (k := 30) R_2703 (T12_o t0) rfl
  refine Rn.hp hT rfl rfl (gI_hp g_2705) ?_
  by_cases c_2706 : (s_2703 q0 30) = 0
  · rw [if_pos c_2706] at e
    refine Rn.bf hT rfl rfl rfl (decide_eq_false (fun z => z ((ti_e p_2705 L32_0).mpr c_2706))) ?_
    refine Rn.n hT 2 (pc' := 20) (L' := [some (.ref q0), some (.int m1), some (.int m2), some (.int z_2704), none]) (st' := [.int (99999 : Int32), .ref q0]) rfl ?_
    obtain ⟨⟨v_2707, s_2708⟩, e_2707, e⟩ := Option.bind_eq_some_iff.mp e
    try dsimp only at e
    try dsimp only at e
    refine Rn.call hT rfl rfl rfl (Nat.le_of_ble_eq_true rfl) (rcv_v gX12_digits (by omega) (rp_ck R_2703 (T12_o t0))) (RX12_digits (by omega) R_2703 t0 L32_99999 e_2707 (fun z_2707 h_2708 p_2707 R_2708 => ?_))
    show Rn d _ _ 23 [some (.ref q0), some (.int m1), some (.int m2), some (.int z_2704), none] [.int z_2707] h_2708 Q
    refine Rn.n hT 1 (pc' := 27) (L' := [some (.ref q0), some (.int m1), some (.int m2), some (.int z_2704), none]) (st' := [.int z_2707]) rfl ?_
    exact Rn.weak (ll_s (ll_s (ll_s (ll_s (ll_n ll_e))))) (RX12_amount_b27 hd R_2708 t0 p1 p2 p_2704 p_2707 hq e)
  · rw [if_neg c_2706] at e
    refine Rn.bt hT rfl rfl rfl (decide_eq_true (fun z => c_2706 ((ti_e p_2705 L32_0).mp z))) ?_
    refine Rn.n hT 1 (pc' := 27) (L' := [some (.ref q0), some (.int m1), some (.int m2), some (.int z_2704), none]) (st' := [.int (0 : Int32)]) rfl ?_
    exact Rn.weak (ll_s (ll_s (ll_s (ll_s (ll_n ll_e))))) (RX12_amount_b27 hd R_2703 t0 p1 p2 p_2704 L32_0 hq e)
set_option maxRecDepth 10000 in
theorem hX12_palaceWord : iv_Tb 229 tX12_palaceWord := iv_tb_of (m := mX12_palaceWord) rfl
set_option maxRecDepth 10000 in
theorem gX12_palaceWord : PG.2 229 = some mX12_palaceWord := iv_pi_of (t := tX12_palaceWord) rfl (by decide)
def FX12_palaceWord (N : Nat) (s : iv_M) (x0 : Int) : Option (Nat) := (if x0 = 0 then (some 1000031) else (if x0 = 1 then (some 1000016) else (if x0 = 2 then (some 1000032) else (if x0 = 3 then (some 1000033) else (if x0 = 4 then (some 1000034) else (some 1000035))))))
set_option maxRecDepth 10000 in
set_option maxHeartbeats 4000000 in
theorem RX12_palaceWord {d N nc Ls : Nat} {Xs : Nat → Int32} (hd : 1 ≤ d) {h : iv_H} {s : iv_M} (hR : Rep nc Ls Xs h s) {m0 : Int32} {x0 : Int} (p0 : m0.toInt = x0) {r : Nat} {Q : Option Value → iv_H → Prop} (e : FX12_palaceWord N s x0 = some r) (hq : TS r → Q (some (.ref r)) h) : Cl d 229 [.int m0] h Q := by
  obtain ⟨d, rfl⟩ : ∃ k, d = k + 1 := ⟨d - 1, by omega⟩
  have hd : 0 ≤ d := by omega
  have hT := hX12_palaceWord
  unfold FX12_palaceWord at e
  refine Cl.into (by decide) gX12_palaceWord rfl ?_
  show Rn d 229 (some (.object "java/lang/String")) 0 [some (.int m0)] [] h Q
  refine Rn.n hT 1 (pc' := 1) (L' := [some (.int m0)]) (st' := [.int m0]) rfl ?_
  by_cases c_2715 : x0 = 0
  · rw [if_pos c_2715] at e
    refine Rn.sw2 hT rfl rfl rfl (if_pos ((ti_e p0 L32_0).mpr c_2715)) ?_
    refine Rn.n hT 1 (pc' := 39) (L' := [some (.int m0)]) (st' := [.ref 1000031]) rfl ?_
    obtain rfl := Option.some.inj e
    exact Rn.ret hT rfl rfl rfl (hq TS_1000031)
  · rw [if_neg c_2715] at e
    by_cases c_2716 : x0 = 1
    · rw [if_pos c_2716] at e
      refine Rn.sw2 hT rfl rfl rfl ((if_neg (fun z => c_2715 ((ti_e p0 L32_0).mp z))).trans (if_pos ((ti_e p0 L32_1).mpr c_2716))) ?_
      refine Rn.n hT 1 (pc' := 42) (L' := [some (.int m0)]) (st' := [.ref 1000016]) rfl ?_
      obtain rfl := Option.some.inj e
      exact Rn.ret hT rfl rfl rfl (hq TS_1000016)
    · rw [if_neg c_2716] at e
      by_cases c_2717 : x0 = 2
      · rw [if_pos c_2717] at e
        refine Rn.sw2 hT rfl rfl rfl ((if_neg (fun z => c_2715 ((ti_e p0 L32_0).mp z))).trans ((if_neg (fun z => c_2716 ((ti_e p0 L32_1).mp z))).trans (if_pos ((ti_e p0 L32_2).mpr c_2717)))) ?_
        refine Rn.n hT 1 (pc' := 46) (L' := [some (.int m0)]) (st' := [.ref 1000032]) rfl ?_
        obtain rfl := Option.some.inj e
        exact Rn.ret hT rfl rfl rfl (hq TS_1000032)
      · rw [if_neg c_2717] at e
        by_cases c_2718 : x0 = 3
        · rw [if_pos c_2718] at e
          refine Rn.sw2 hT rfl rfl rfl ((if_neg (fun z => c_2715 ((ti_e p0 L32_0).mp z))).trans ((if_neg (fun z => c_2716 ((ti_e p0 L32_1).mp z))).trans ((if_neg (fun z => c_2717 ((ti_e p0 L32_2).mp z))).trans (if_pos ((ti_e p0 L32_3).mpr c_2718))))) ?_
          refine Rn.n hT 1 (pc' := 50) (L' := [some (.int m0)]) (st' := [.ref 1000033]) rfl ?_
          obtain rfl := Option.some.inj e
          exact Rn.ret hT rfl rfl rfl (hq TS_1000033)
        · rw [if_neg c_2718] at e
          by_cases c_2719 : x0 = 4
          · rw [if_pos c_2719] at e
            refine Rn.sw2 hT rfl rfl rfl ((if_neg (fun z => c_2715 ((ti_e p0 L32_0).mp z))).trans ((if_neg (fun z => c_2716 ((ti_e p0 L32_1).mp z))).trans ((if_neg (fun z => c_2717 ((ti_e p0 L32_2).mp z))).trans ((if_neg (fun z => c_2718 ((ti_e p0 L32_3).mp z))).trans (if_pos ((ti_e p0 L32_4).mpr c_2719)))))) ?_
            refine Rn.n hT 1 (pc' := 54) (L' := [some (.int m0)]) (st' := [.ref 1000034]) rfl ?_
            obtain rfl := Option.some.inj e
            exact Rn.ret hT rfl rfl rfl (hq TS_1000034)
          · rw [if_neg c_2719] at e
            refine Rn.sw2 hT rfl rfl rfl ((if_neg (fun z => c_2715 ((ti_e p0 L32_0).mp z))).trans ((if_neg (fun z => c_2716 ((ti_e p0 L32_1).mp z))).trans ((if_neg (fun z => c_2717 ((ti_e p0 L32_2).mp z))).trans ((if_neg (fun z => c_2718 ((ti_e p0 L32_3).mp z))).trans ((if_neg (fun z => c_2719 ((ti_e p0 L32_4).mp z))).trans rfl))))) ?_
            refine Rn.n hT 1 (pc' := 58) (L' := [some (.int m0)]) (st' := [.ref 1000035]) rfl ?_
            obtain rfl := Option.some.inj e
            exact Rn.ret hT rfl rfl rfl (hq TS_1000035)
set_option maxRecDepth 10000 in
theorem hX12_signAt : iv_Tb 230 tX12_signAt := iv_tb_of (m := mX12_signAt) rfl
set_option maxRecDepth 10000 in
theorem gX12_signAt : PG.2 230 = some mX12_signAt := iv_pi_of (t := tX12_signAt) rfl (by decide)
def FX12_signAt (N : Nat) (s : iv_M) (q0 : Nat) : Option (Int) := (if (s q0 29) < (s q0 28) then ((rd s (q0 + 26) 400 (s q0 29)).bind fun v_2724 => (if v_2724 = 46 then (some 0) else (if v_2724 = 49 then (some 3) else (if v_2724 = 50 then (some 4) else (if v_2724 = 51 then (some 5) else (if v_2724 = 52 then (some 6) else (if v_2724 = 100 then (some 1) else (if v_2724 = 119 then (some 2) else (some (-1)))))))))) else (some (-1)))
set_option maxRecDepth 10000 in
set_option maxHeartbeats 4000000 in
theorem RX12_signAt {d N nc Ls : Nat} {Xs : Nat → Int32} (hd : 1 ≤ d) {h : iv_H} {s : iv_M} (hR : Rep nc Ls Xs h s) {q0 : Nat} (t0 : T12 nc q0) {r : Int} {Q : Option Value → iv_H → Prop} (e : FX12_signAt N s q0 = some r) (hq : ∀ (z : Int32), z.toInt = r → Q (some (.int z)) h) : Cl d 230 [.ref q0] h Q := by
  obtain ⟨d, rfl⟩ : ∃ k, d = k + 1 := ⟨d - 1, by omega⟩
  have hd : 0 ≤ d := by omega
  have hT := hX12_signAt
  unfold FX12_signAt at e
  refine Cl.into (by decide) gX12_signAt rfl ?_
  show Rn d 230 (some .int) 0 [some (.ref q0)] [] h Q
  refine Rn.n hT 1 (pc' := 1) (L' := [some (.ref q0)]) (st' := [.ref q0]) rfl ?_
  obtain ⟨z_2720, g_2720, p_2720⟩ : ∃ z : Int32, gI h 12 29 q0 = some z ∧ z.toInt = s q0 29 := rp_gI (k := 29) hR (T12_o t0) rfl
  refine Rn.hp hT rfl rfl (gI_hp g_2720) ?_
  refine Rn.n hT 1 (pc' := 5) (L' := [some (.ref q0)]) (st' := [.ref q0, .int z_2720]) rfl ?_
  obtain ⟨z_2721, g_2721, p_2721⟩ : ∃ z : Int32, gI h 12 28 q0 = some z ∧ z.toInt = s q0 28 := rp_gI (k := 28) hR (T12_o t0) rfl
  refine Rn.hp hT rfl rfl (gI_hp g_2721) ?_
  by_cases c_2722 : (s q0 29) < (s q0 28)
  · rw [if_pos c_2722] at e
    refine Rn.bt hT rfl rfl rfl (decide_eq_true ((ti_l p_2720 p_2721).mpr c_2722)) ?_
    refine Rn.n hT 1 (pc' := 14) (L' := [some (.ref q0)]) (st' := [.ref q0]) rfl ?_
    refine Rn.hp hT rfl rfl (gR_hp (rp_gR hR (T12_o t0) rfl)) ?_
    refine Rn.n hT 1 (pc' := 18) (L' := [some (.ref q0)]) (st' := [.ref q0, .ref (q0 + 26)]) rfl ?_
    obtain ⟨z_2723, g_2723, p_2723⟩ : ∃ z : Int32, gI h 12 29 q0 = some z ∧ z.toInt = s q0 29 := rp_gI (k := 29) hR (T12_o t0) rfl
    refine Rn.hp hT rfl rfl (gI_hp g_2723) ?_
    obtain ⟨v_2724, e_2724, e⟩ := Option.bind_eq_some_iff.mp e
    obtain ⟨z_2724, g_2724, p_2724⟩ := rp_aB hR (T12_39 t0) (Or.inl rfl) (T12_39l t0) p_2723 e_2724
    refine Rn.hp hT rfl rfl (aB_hp g_2724) ?_
    by_cases c_2725 : v_2724 = 46
    · rw [if_pos c_2725] at e
      refine Rn.sw2 hT rfl rfl rfl (if_pos ((ti_e p_2724 L32_46).mpr c_2725)) ?_
      refine Rn.n hT 1 (pc' := 89) (L' := [some (.ref q0)]) (st' := [.int (0 : Int32)]) rfl ?_
      obtain rfl := Option.some.inj e
      exact Rn.ret hT rfl rfl rfl (hq (0 : Int32) L32_0)
    · rw [if_neg c_2725] at e
      by_cases c_2726 : v_2724 = 49
      · rw [if_pos c_2726] at e
        refine Rn.sw2 hT rfl rfl rfl ((if_neg (fun z => c_2725 ((ti_e p_2724 L32_46).mp z))).trans (if_pos ((ti_e p_2724 L32_49).mpr c_2726))) ?_
        refine Rn.n hT 1 (pc' := 95) (L' := [some (.ref q0)]) (st' := [.int (3 : Int32)]) rfl ?_
        obtain rfl := Option.some.inj e
        exact Rn.ret hT rfl rfl rfl (hq (3 : Int32) L32_3)
      · rw [if_neg c_2726] at e
        by_cases c_2727 : v_2724 = 50
        · rw [if_pos c_2727] at e
          refine Rn.sw2 hT rfl rfl rfl ((if_neg (fun z => c_2725 ((ti_e p_2724 L32_46).mp z))).trans ((if_neg (fun z => c_2726 ((ti_e p_2724 L32_49).mp z))).trans (if_pos ((ti_e p_2724 L32_50).mpr c_2727)))) ?_
          refine Rn.n hT 1 (pc' := 97) (L' := [some (.ref q0)]) (st' := [.int (4 : Int32)]) rfl ?_
          obtain rfl := Option.some.inj e
          exact Rn.ret hT rfl rfl rfl (hq (4 : Int32) L32_4)
        · rw [if_neg c_2727] at e
          by_cases c_2728 : v_2724 = 51
          · rw [if_pos c_2728] at e
            refine Rn.sw2 hT rfl rfl rfl ((if_neg (fun z => c_2725 ((ti_e p_2724 L32_46).mp z))).trans ((if_neg (fun z => c_2726 ((ti_e p_2724 L32_49).mp z))).trans ((if_neg (fun z => c_2727 ((ti_e p_2724 L32_50).mp z))).trans (if_pos ((ti_e p_2724 L32_51).mpr c_2728))))) ?_
            refine Rn.n hT 1 (pc' := 99) (L' := [some (.ref q0)]) (st' := [.int (5 : Int32)]) rfl ?_
            obtain rfl := Option.some.inj e
            exact Rn.ret hT rfl rfl rfl (hq (5 : Int32) L32_5)
          · rw [if_neg c_2728] at e
            by_cases c_2729 : v_2724 = 52
            · rw [if_pos c_2729] at e
              refine Rn.sw2 hT rfl rfl rfl ((if_neg (fun z => c_2725 ((ti_e p_2724 L32_46).mp z))).trans ((if_neg (fun z => c_2726 ((ti_e p_2724 L32_49).mp z))).trans ((if_neg (fun z => c_2727 ((ti_e p_2724 L32_50).mp z))).trans ((if_neg (fun z => c_2728 ((ti_e p_2724 L32_51).mp z))).trans (if_pos ((ti_e p_2724 L32_52).mpr c_2729)))))) ?_
              refine Rn.n hT 1 (pc' := 102) (L' := [some (.ref q0)]) (st' := [.int (6 : Int32)]) rfl ?_
              obtain rfl := Option.some.inj e
              exact Rn.ret hT rfl rfl rfl (hq (6 : Int32) L32_6)
            · rw [if_neg c_2729] at e
              by_cases c_2730 : v_2724 = 100
              · rw [if_pos c_2730] at e
                refine Rn.sw2 hT rfl rfl rfl ((if_neg (fun z => c_2725 ((ti_e p_2724 L32_46).mp z))).trans ((if_neg (fun z => c_2726 ((ti_e p_2724 L32_49).mp z))).trans ((if_neg (fun z => c_2727 ((ti_e p_2724 L32_50).mp z))).trans ((if_neg (fun z => c_2728 ((ti_e p_2724 L32_51).mp z))).trans ((if_neg (fun z => c_2729 ((ti_e p_2724 L32_52).mp z))).trans (if_pos ((ti_e p_2724 L32_100).mpr c_2730))))))) ?_
                refine Rn.n hT 1 (pc' := 91) (L' := [some (.ref q0)]) (st' := [.int (1 : Int32)]) rfl ?_
                obtain rfl := Option.some.inj e
                exact Rn.ret hT rfl rfl rfl (hq (1 : Int32) L32_1)
              · rw [if_neg c_2730] at e
                by_cases c_2731 : v_2724 = 119
                · rw [if_pos c_2731] at e
                  refine Rn.sw2 hT rfl rfl rfl ((if_neg (fun z => c_2725 ((ti_e p_2724 L32_46).mp z))).trans ((if_neg (fun z => c_2726 ((ti_e p_2724 L32_49).mp z))).trans ((if_neg (fun z => c_2727 ((ti_e p_2724 L32_50).mp z))).trans ((if_neg (fun z => c_2728 ((ti_e p_2724 L32_51).mp z))).trans ((if_neg (fun z => c_2729 ((ti_e p_2724 L32_52).mp z))).trans ((if_neg (fun z => c_2730 ((ti_e p_2724 L32_100).mp z))).trans (if_pos ((ti_e p_2724 L32_119).mpr c_2731)))))))) ?_
                  refine Rn.n hT 1 (pc' := 93) (L' := [some (.ref q0)]) (st' := [.int (2 : Int32)]) rfl ?_
                  obtain rfl := Option.some.inj e
                  exact Rn.ret hT rfl rfl rfl (hq (2 : Int32) L32_2)
                · rw [if_neg c_2731] at e
                  refine Rn.sw2 hT rfl rfl rfl ((if_neg (fun z => c_2725 ((ti_e p_2724 L32_46).mp z))).trans ((if_neg (fun z => c_2726 ((ti_e p_2724 L32_49).mp z))).trans ((if_neg (fun z => c_2727 ((ti_e p_2724 L32_50).mp z))).trans ((if_neg (fun z => c_2728 ((ti_e p_2724 L32_51).mp z))).trans ((if_neg (fun z => c_2729 ((ti_e p_2724 L32_52).mp z))).trans ((if_neg (fun z => c_2730 ((ti_e p_2724 L32_100).mp z))).trans ((if_neg (fun z => c_2731 ((ti_e p_2724 L32_119).mp z))).trans rfl))))))) ?_
                  refine Rn.n hT 1 (pc' := 104) (L' := [some (.ref q0)]) (st' := [.int (-1 : Int32)]) rfl ?_
                  obtain rfl := Option.some.inj e
                  exact Rn.ret hT rfl rfl rfl (hq (-1 : Int32) L32_m1)
  · rw [if_neg c_2722] at e
    refine Rn.bf hT rfl rfl rfl (decide_eq_false (fun z => c_2722 ((ti_l p_2720 p_2721).mp z))) ?_
    refine Rn.n hT 1 (pc' := 12) (L' := [some (.ref q0)]) (st' := [.int (-1 : Int32)]) rfl ?_
    obtain rfl := Option.some.inj e
    exact Rn.ret hT rfl rfl rfl (hq (-1 : Int32) L32_m1)
set_option maxRecDepth 10000 in
theorem hX12_readsRoom : iv_Tb 231 tX12_readsRoom := iv_tb_of (m := mX12_readsRoom) rfl
set_option maxRecDepth 10000 in
theorem gX12_readsRoom : PG.2 231 = some mX12_readsRoom := iv_pi_of (t := tX12_readsRoom) rfl (by decide)
def FX12_readsRoom_b68 (N : Nat) (s : iv_M) (q0 : Nat) (x1 : Int) (x2 : Int)  (kb : iv_M → Int → Option (iv_M)) (kx : iv_M → Option (iv_M)) : Option (iv_M) := (kb s (w32 (x2 + 1)))
set_option maxRecDepth 10000 in
set_option maxHeartbeats 4000000 in
theorem RX12_readsRoom_b68 {d N nc Ls : Nat} {Xs : Nat → Int32} (hd : 4 ≤ d) {h : iv_H} {s : iv_M} (hR : Rep nc Ls Xs h s) {q0 : Nat} (t0 : T12 nc q0) {m1 : Int32} {x1 : Int} (p1 : m1.toInt = x1) {m2 : Int32} {x2 : Int} (p2 : m2.toInt = x2)  {kb : iv_M → Int → Option (iv_M)} {kx : iv_M → Option (iv_M)} {r : iv_M} {Q : Option Value → iv_H → Prop} (hb : ∀ (h : iv_H) (s : iv_M) (hR : Rep nc Ls Xs h s) (mw2 : Int32) (xw2 : Int) (pw2 : mw2.toInt = xw2), kb s xw2 = some r → Rn d 231 none 13 [some (.ref q0), some (.int m1), some (.int mw2), none, none] [] h Q) (hk : ∀ (h : iv_H) (s : iv_M) (hR : Rep nc Ls Xs h s), kx s = some r → Rn d 231 none 74 [some (.ref q0), some (.int m1), none, none, none] [] h Q) (hq : ∀ h1, Rep nc Ls Xs h1 r → Q none h1) (e : FX12_readsRoom_b68 N s q0 x1 x2  kb kx = some r) : Rn d 231 none 68 [some (.ref q0), some (.int m1), some (.int m2), none, none] [] h Q := by
  have hT := hX12_readsRoom
  unfold FX12_readsRoom_b68 at e
  refine Rn.n hT 2 (pc' := 13) (L' := [some (.ref q0), some (.int m1), some (.int (m2 + (1 : Int32))), none, none]) (st' := []) rfl ?_
  exact Rn.weak (ll_s (ll_s (ll_s (ll_n (ll_n ll_e))))) (hb h s hR (m2 + (1 : Int32)) (w32 (x2 + 1)) (ti_add p2 L32_1) e)
def FX12_readsRoom_l13 (N : Nat) (q0 : Nat) (x1 : Int) (kx : iv_M → Option (iv_M)) : Nat → iv_M → Int → Option (iv_M)
  | 0, _, _ => none
  | n + 1, s, x2 => (if 4 ≤ x2 then (kx s) else (if (s q0 30) = 0 then ((FX12_signAt N s q0).bind fun v_2740 => (if v_2740 = (-1) then ((FX12_fails N s q0 0 (s q0 29)).bind fun s_2749 => (FX12_readsRoom_b68 N s_2749 q0 x1 x2 (FX12_readsRoom_l13 N q0 x1 kx n) kx)) else ((wr s (q0 + 20) 48 (w32 ((w32 (4 * x1)) + x2)) v_2740).bind fun s_2742 => ((pt s_2742 q0 29 (w32 ((s_2742 q0 29) + 1))).bind fun s_2745 => (FX12_readsRoom_b68 N s_2745 q0 x1 x2 (FX12_readsRoom_l13 N q0 x1 kx n) kx))))) else (kx s)))
set_option maxRecDepth 10000 in
set_option maxHeartbeats 4000000 in
theorem RX12_readsRoom_l13 {d N nc Ls : Nat} {Xs : Nat → Int32} (hd : 4 ≤ d) {q0 : Nat} (t0 : T12 nc q0) {m1 : Int32} {x1 : Int} (p1 : m1.toInt = x1) {kx : iv_M → Option (iv_M)} {r : iv_M} {Q : Option Value → iv_H → Prop} (hk : ∀ (h : iv_H) (s : iv_M) (hR : Rep nc Ls Xs h s), kx s = some r → Rn d 231 none 74 [some (.ref q0), some (.int m1), none, none, none] [] h Q) (hq : ∀ h1, Rep nc Ls Xs h1 r → Q none h1) : ∀ (n : Nat) (h : iv_H) (s : iv_M) (hR : Rep nc Ls Xs h s) (m2 : Int32) (x2 : Int) (p2 : m2.toInt = x2), FX12_readsRoom_l13 N q0 x1 kx n s x2 = some r → Rn d 231 none 13 [some (.ref q0), some (.int m1), some (.int m2), none, none] [] h Q := by
  have hT := hX12_readsRoom
  intro n
  induction n with
  | zero =>
    intro h s hR m2 x2 p2 e
    rw [FX12_readsRoom_l13] at e
    cases e
  | succ n ih =>
    intro h s hR m2 x2 p2 e
    rw [FX12_readsRoom_l13] at e
    refine Rn.n hT 2 (pc' := 15) (L' := [some (.ref q0), some (.int m1), some (.int m2), none, none]) (st' := [.int (4 : Int32), .int m2]) rfl ?_
    by_cases c_2737 : 4 ≤ x2
    · rw [if_pos c_2737] at e
      refine Rn.bt hT rfl rfl rfl (decide_eq_true ((ti_le L32_4 p2).mpr c_2737)) ?_
      exact Rn.weak (ll_s (ll_s (ll_n (ll_n (ll_n ll_e))))) (hk h s hR e)
    · rw [if_neg c_2737] at e
      refine Rn.bf hT rfl rfl rfl (decide_eq_false (fun z => c_2737 ((ti_le L32_4 p2).mp z))) ?_
      refine Rn.n hT 1 (pc' := 19) (L' := [some (.ref q0), some (.int m1), some (.int m2), none, none]) (st' := [.ref q0]) rfl ?_
      obtain ⟨z_2738, g_2738, p_2738⟩ : ∃ z : Int32, gI h 12 30 q0 = some z ∧ z.toInt = s q0 30 := rp_gI (k := 30) hR (T12_o t0) rfl
      refine Rn.hp hT rfl rfl (gI_hp g_2738) ?_
      by_cases c_2739 : (s q0 30) = 0
      · rw [if_pos c_2739] at e
        refine Rn.bf hT rfl rfl rfl (decide_eq_false (fun z => z ((ti_e p_2738 L32_0).mpr c_2739))) ?_
        refine Rn.n hT 1 (pc' := 26) (L' := [some (.ref q0), some (.int m1), some (.int m2), none, none]) (st' := [.ref q0]) rfl ?_
        obtain ⟨v_2740, e_2740, e⟩ := Option.bind_eq_some_iff.mp e
        refine Rn.call hT rfl rfl rfl (Nat.le_of_ble_eq_true rfl) (rcv_v gX12_signAt (by omega) (rp_ck hR (T12_o t0))) (RX12_signAt (by omega) hR t0 e_2740 (fun z_2740 p_2740 => ?_))
        show Rn d _ _ 29 [some (.ref q0), some (.int m1), some (.int m2), none, none] [.int z_2740] h Q
        refine Rn.n hT 3 (pc' := 32) (L' := [some (.ref q0), some (.int m1), some (.int m2), some (.int z_2740), none]) (st' := [.int (-1 : Int32), .int z_2740]) rfl ?_
        by_cases c_2741 : v_2740 = (-1)
        · rw [if_pos c_2741] at e
          refine Rn.bf hT rfl rfl rfl (decide_eq_false (fun z => z ((ti_e p_2740 L32_m1).mpr c_2741))) ?_
          refine Rn.n hT 3 (pc' := 38) (L' := [some (.ref q0), some (.int m1), some (.int m2), some (.int z_2740), none]) (st' := [.ref q0, .int (0 : Int32), .ref q0]) rfl ?_
          obtain ⟨z_2747, g_2747, p_2747⟩ : ∃ z : Int32, gI h 12 29 q0 = some z ∧ z.toInt = s q0 29 := rp_gI (k := 29) hR (T12_o t0) rfl
          refine Rn.hp hT rfl rfl (gI_hp g_2747) ?_
          obtain ⟨s_2749, e_2748, e⟩ := Option.bind_eq_some_iff.mp e
          refine Rn.call hT rfl rfl rfl (Nat.le_of_ble_eq_true rfl) (rcv_v gX12_fails (by omega) (rp_ck hR (T12_o t0))) (RX12_fails (by omega) hR t0 L32_0 p_2747 e_2748 (fun h_2749 R_2749 => ?_))
          show Rn d _ _ 44 [some (.ref q0), some (.int m1), some (.int m2), some (.int z_2740), none] [] h_2749 Q
          refine Rn.n hT 1 (pc' := 68) (L' := [some (.ref q0), some (.int m1), some (.int m2), some (.int z_2740), none]) (st' := []) rfl ?_
          exact Rn.weak (ll_s (ll_s (ll_s (ll_n (ll_n ll_e))))) (RX12_readsRoom_b68 hd R_2749 t0 p1 p2 ih hk hq e)
        · rw [if_neg c_2741] at e
          refine Rn.bt hT rfl rfl rfl (decide_eq_true (fun z => c_2741 ((ti_e p_2740 L32_m1).mp z))) ?_
          refine Rn.n hT 1 (pc' := 48) (L' := [some (.ref q0), some (.int m1), some (.int m2), some (.int z_2740), none]) (st' := [.ref q0]) rfl ?_
          refine Rn.hp hT rfl rfl (gR_hp (rp_gR hR (T12_o t0) rfl)) ?_
          refine Rn.n hT 6 (pc' := 57) (L' := [some (.ref q0), some (.int m1), some (.int m2), some (.int z_2740), none]) (st' := [.int z_2740, .int (((4 : Int32) * m1) + m2), .ref (q0 + 20)]) rfl ?_
          obtain ⟨s_2742, e_2743, e⟩ := Option.bind_eq_some_iff.mp e
          obtain ⟨h_2742, g_2743, R_2742⟩ := rp_wI hR (T12_20 t0) (T12_20l t0) (ti_add (ti_mul L32_4 p1) p2) p_2740 e_2743
          refine Rn.hp hT rfl rfl (wI_hp g_2743) ?_
          refine Rn.n hT 2 (pc' := 60) (L' := [some (.ref q0), some (.int m1), some (.int m2), some (.int z_2740), none]) (st' := [.ref q0, .ref q0]) rfl ?_
          obtain ⟨z_2744, g_2744, p_2744⟩ : ∃ z : Int32, gI h_2742 12 29 q0 = some z ∧ z.toInt = s_2742 q0 29 := rp_gI (k := 29) R_2742 (T12_o t0) rfl
          refine Rn.hp hT rfl rfl (gI_hp g_2744) ?_
          refine Rn.n hT 2 (pc' := 65) (L' := [some (.ref q0), some (.int m1), some (.int m2), some (.int z_2740), none]) (st' := [.int (z_2744 + (1 : Int32)), .ref q0]) rfl ?_
          obtain ⟨s_2745, e_2746, e⟩ := Option.bind_eq_some_iff.mp e
          obtain ⟨h_2745, g_2746, R_2745⟩ := rp_pI (ci := 12) (k := 29) R_2742 (T12_o t0) rfl rfl (ti_add p_2744 L32_1) e_2746
          refine Rn.hp hT rfl rfl (pV_hp rfl g_2746) ?_
          exact Rn.weak (ll_s (ll_s (ll_s (ll_n (ll_n ll_e))))) (RX12_readsRoom_b68 hd R_2745 t0 p1 p2 ih hk hq e)
      · rw [if_neg c_2739] at e
        refine Rn.bt hT rfl rfl rfl (decide_eq_true (fun z => c_2739 ((ti_e p_2738 L32_0).mp z))) ?_
        exact Rn.weak (ll_s (ll_s (ll_n (ll_n (ll_n ll_e))))) (hk h s hR e)
def FX12_readsRoom_b195 (N : Nat) (s : iv_M)   : Option (iv_M) := some s
set_option maxRecDepth 10000 in
set_option maxHeartbeats 4000000 in
theorem RX12_readsRoom_b195 {d N nc Ls : Nat} {Xs : Nat → Int32} (hd : 4 ≤ d) {h : iv_H} {s : iv_M} (hR : Rep nc Ls Xs h s)   {r : iv_M} {Q : Option Value → iv_H → Prop} (hq : ∀ h1, Rep nc Ls Xs h1 r → Q none h1) (e : FX12_readsRoom_b195 N s   = some r) : Rn d 231 none 195 [none, none, none, none, none] [] h Q := by
  have hT := hX12_readsRoom
  unfold FX12_readsRoom_b195 at e
  obtain rfl := Option.some.inj e
  exact Rn.ret hT rfl rfl rfl (hq h hR)
def FX12_readsRoom_b147 (N : Nat) (s : iv_M) (q0 : Nat) (x1 : Int) (x3 : Int) (x4 : Int)  : Option (iv_M) := (if (s q0 30) = 0 then ((wr s (q0 + 25) 16 (w32 ((w32 (4 * x4)) + x3)) x1).bind fun s_2769 => ((wr s_2769 (q0 + 21) 12 x1 (w32 ((w32 (4 * x4)) + x3))).bind fun s_2771 => ((wr s_2771 (q0 + 22) 12 x1 0).bind fun s_2773 => ((rd s_2773 (q0 + 19) 5 2).bind fun v_2775 => ((wr s_2773 (q0 + 19) 5 2 (w32 (v_2775 + 1))).bind fun s_2776 => (FX12_readsRoom_b195 N s_2776)))))) else (FX12_readsRoom_b195 N s))
set_option maxRecDepth 10000 in
set_option maxHeartbeats 4000000 in
theorem RX12_readsRoom_b147 {d N nc Ls : Nat} {Xs : Nat → Int32} (hd : 4 ≤ d) {h : iv_H} {s : iv_M} (hR : Rep nc Ls Xs h s) {q0 : Nat} (t0 : T12 nc q0) {m1 : Int32} {x1 : Int} (p1 : m1.toInt = x1) {m3 : Int32} {x3 : Int} (p3 : m3.toInt = x3) {m4 : Int32} {x4 : Int} (p4 : m4.toInt = x4)  {r : iv_M} {Q : Option Value → iv_H → Prop} (hq : ∀ h1, Rep nc Ls Xs h1 r → Q none h1) (e : FX12_readsRoom_b147 N s q0 x1 x3 x4  = some r) : Rn d 231 none 147 [some (.ref q0), some (.int m1), none, some (.int m3), some (.int m4)] [] h Q := by
  have hT := hX12_readsRoom
  unfold FX12_readsRoom_b147 at e
  refine Rn.n hT 1 (pc' := 148) (L' := [some (.ref q0), some (.int m1), none, some (.int m3), some (.int m4)]) (st' := [.ref q0]) rfl ?_
  obtain ⟨z_2767, g_2767, p_2767⟩ : ∃ z : Int32, gI h 12 30 q0 = some z ∧ z.toInt = s q0 30 := rp_gI (k := 30) hR (T12_o t0) rfl
  refine Rn.hp hT rfl rfl (gI_hp g_2767) ?_
  by_cases c_2768 : (s q0 30) = 0
  · rw [if_pos c_2768] at e
    refine Rn.bf hT rfl rfl rfl (decide_eq_false (fun z => z ((ti_e p_2767 L32_0).mpr c_2768))) ?_
    refine Rn.n hT 1 (pc' := 155) (L' := [some (.ref q0), some (.int m1), none, some (.int m3), some (.int m4)]) (st' := [.ref q0]) rfl ?_
    refine Rn.hp hT rfl rfl (gR_hp (rp_gR hR (T12_o t0) rfl)) ?_
    refine Rn.n hT 6 (pc' := 165) (L' := [some (.ref q0), some (.int m1), none, some (.int m3), some (.int m4)]) (st' := [.int m1, .int (((4 : Int32) * m4) + m3), .ref (q0 + 25)]) rfl ?_
    obtain ⟨s_2769, e_2770, e⟩ := Option.bind_eq_some_iff.mp e
    obtain ⟨h_2769, g_2770, R_2769⟩ := rp_wI hR (T12_25 t0) (T12_25l t0) (ti_add (ti_mul L32_4 p4) p3) p1 e_2770
    refine Rn.hp hT rfl rfl (wI_hp g_2770) ?_
    refine Rn.n hT 1 (pc' := 167) (L' := [some (.ref q0), some (.int m1), none, some (.int m3), some (.int m4)]) (st' := [.ref q0]) rfl ?_
    refine Rn.hp hT rfl rfl (gR_hp (rp_gR R_2769 (T12_o t0) rfl)) ?_
    refine Rn.n hT 6 (pc' := 177) (L' := [some (.ref q0), some (.int m1), none, some (.int m3), some (.int m4)]) (st' := [.int (((4 : Int32) * m4) + m3), .int m1, .ref (q0 + 21)]) rfl ?_
    obtain ⟨s_2771, e_2772, e⟩ := Option.bind_eq_some_iff.mp e
    obtain ⟨h_2771, g_2772, R_2771⟩ := rp_wI R_2769 (T12_21 t0) (T12_21l t0) p1 (ti_add (ti_mul L32_4 p4) p3) e_2772
    refine Rn.hp hT rfl rfl (wI_hp g_2772) ?_
    refine Rn.n hT 1 (pc' := 179) (L' := [some (.ref q0), some (.int m1), none, some (.int m3), some (.int m4)]) (st' := [.ref q0]) rfl ?_
    refine Rn.hp hT rfl rfl (gR_hp (rp_gR R_2771 (T12_o t0) rfl)) ?_
    refine Rn.n hT 2 (pc' := 184) (L' := [some (.ref q0), some (.int m1), none, some (.int m3), some (.int m4)]) (st' := [.int (0 : Int32), .int m1, .ref (q0 + 22)]) rfl ?_
    obtain ⟨s_2773, e_2774, e⟩ := Option.bind_eq_some_iff.mp e
    obtain ⟨h_2773, g_2774, R_2773⟩ := rp_wI R_2771 (T12_22 t0) (T12_22l t0) p1 L32_0 e_2774
    refine Rn.hp hT rfl rfl (wI_hp g_2774) ?_
    refine Rn.n hT 1 (pc' := 186) (L' := [some (.ref q0), some (.int m1), none, some (.int m3), some (.int m4)]) (st' := [.ref q0]) rfl ?_
    refine Rn.hp hT rfl rfl (gR_hp (rp_gR R_2773 (T12_o t0) rfl)) ?_
    refine Rn.n hT 2 (pc' := 191) (L' := [some (.ref q0), some (.int m1), none, some (.int m3), some (.int m4)]) (st' := [.int (2 : Int32), .ref (q0 + 19), .int (2 : Int32), .ref (q0 + 19)]) rfl ?_
    obtain ⟨v_2775, e_2775, e⟩ := Option.bind_eq_some_iff.mp e
    obtain ⟨z_2775, g_2775, p_2775⟩ := rp_aI R_2773 (T12_19 t0) (T12_19l t0) L32_2 e_2775
    refine Rn.hp hT rfl rfl (aI_hp g_2775) ?_
    refine Rn.n hT 2 (pc' := 194) (L' := [some (.ref q0), some (.int m1), none, some (.int m3), some (.int m4)]) (st' := [.int (z_2775 + (1 : Int32)), .int (2 : Int32), .ref (q0 + 19)]) rfl ?_
    obtain ⟨s_2776, e_2777, e⟩ := Option.bind_eq_some_iff.mp e
    obtain ⟨h_2776, g_2777, R_2776⟩ := rp_wI R_2773 (T12_19 t0) (T12_19l t0) L32_2 (ti_add p_2775 L32_1) e_2777
    refine Rn.hp hT rfl rfl (wI_hp g_2777) ?_
    exact Rn.weak (ll_n (ll_n (ll_n (ll_n (ll_n ll_e))))) (RX12_readsRoom_b195 hd R_2776 hq e)
  · rw [if_neg c_2768] at e
    refine Rn.bt hT rfl rfl rfl (decide_eq_true (fun z => c_2768 ((ti_e p_2767 L32_0).mp z))) ?_
    exact Rn.weak (ll_n (ll_n (ll_n (ll_n (ll_n ll_e))))) (RX12_readsRoom_b195 hd hR hq e)
def FX12_readsRoom_b141 (N : Nat) (s : iv_M) (q0 : Nat) (x1 : Int) (x2 : Int) (x3 : Int) (x4 : Int)  : Option (iv_M) := ((FX12_fails N s q0 5 x2).bind fun s_2766 => (FX12_readsRoom_b147 N s_2766 q0 x1 x3 x4))
set_option maxRecDepth 10000 in
set_option maxHeartbeats 4000000 in
theorem RX12_readsRoom_b141 {d N nc Ls : Nat} {Xs : Nat → Int32} (hd : 4 ≤ d) {h : iv_H} {s : iv_M} (hR : Rep nc Ls Xs h s) {q0 : Nat} (t0 : T12 nc q0) {m1 : Int32} {x1 : Int} (p1 : m1.toInt = x1) {m2 : Int32} {x2 : Int} (p2 : m2.toInt = x2) {m3 : Int32} {x3 : Int} (p3 : m3.toInt = x3) {m4 : Int32} {x4 : Int} (p4 : m4.toInt = x4)  {r : iv_M} {Q : Option Value → iv_H → Prop} (hq : ∀ h1, Rep nc Ls Xs h1 r → Q none h1) (e : FX12_readsRoom_b141 N s q0 x1 x2 x3 x4  = some r) : Rn d 231 none 141 [some (.ref q0), some (.int m1), some (.int m2), some (.int m3), some (.int m4)] [] h Q := by
  have hT := hX12_readsRoom
  unfold FX12_readsRoom_b141 at e
  refine Rn.n hT 3 (pc' := 144) (L' := [some (.ref q0), some (.int m1), some (.int m2), some (.int m3), some (.int m4)]) (st' := [.int m2, .int (5 : Int32), .ref q0]) rfl ?_
  obtain ⟨s_2766, e_2765, e⟩ := Option.bind_eq_some_iff.mp e
  refine Rn.call hT rfl rfl rfl (Nat.le_of_ble_eq_true rfl) (rcv_v gX12_fails (by omega) (rp_ck hR (T12_o t0))) (RX12_fails (by omega) hR t0 L32_5 p2 e_2765 (fun h_2766 R_2766 => ?_))
  show Rn d _ _ 147 [some (.ref q0), some (.int m1), some (.int m2), some (.int m3), some (.int m4)] [] h_2766 Q
  exact Rn.weak (ll_s (ll_s (ll_n (ll_s (ll_s ll_e))))) (RX12_readsRoom_b147 hd R_2766 t0 p1 p3 p4 hq e)
def FX12_readsRoom_b74 (N : Nat) (s : iv_M) (q0 : Nat) (x1 : Int)  : Option (iv_M) := ((FX12_blanks N s q0).bind fun s_2751 => ((FX12_amount N s_2751 q0 0 3).bind fun r_2753 => (fun (v_2753 : Int) (s_2754 : iv_M) => ((FX12_amount N s_2754 q0 0 3).bind fun r_2755 => (fun (v_2755 : Int) (s_2756 : iv_M) => (if (s_2756 q0 30) = 0 then ((rd s_2756 (q0 + 19) 5 0).bind fun v_2759 => (if v_2759 ≤ v_2753 then (FX12_readsRoom_b141 N s_2756 q0 x1 (s_2751 q0 29) v_2753 v_2755) else ((rd s_2756 (q0 + 19) 5 1).bind fun v_2761 => (if v_2761 ≤ v_2755 then (FX12_readsRoom_b141 N s_2756 q0 x1 (s_2751 q0 29) v_2753 v_2755) else ((rd s_2756 (q0 + 25) 16 (w32 ((w32 (4 * v_2755)) + v_2753))).bind fun v_2763 => (if v_2763 = (-1) then (FX12_readsRoom_b147 N s_2756 q0 x1 v_2753 v_2755) else (FX12_readsRoom_b141 N s_2756 q0 x1 (s_2751 q0 29) v_2753 v_2755))))))) else (FX12_readsRoom_b147 N s_2756 q0 x1 v_2753 v_2755))) r_2755.1 r_2755.2)) r_2753.1 r_2753.2))
set_option maxRecDepth 10000 in
set_option maxHeartbeats 4000000 in
theorem RX12_readsRoom_b74 {d N nc Ls : Nat} {Xs : Nat → Int32} (hd : 4 ≤ d) {h : iv_H} {s : iv_M} (hR : Rep nc Ls Xs h s) {q0 : Nat} (t0 : T12 nc q0) {m1 : Int32} {x1 : Int} (p1 : m1.toInt = x1)  {r : iv_M} {Q : Option Value → iv_H → Prop} (hq : ∀ h1, Rep nc Ls Xs h1 r → Q none h1) (e : FX12_readsRoom_b74 N s q0 x1  = some r) : Rn d 231 none 74 [some (.ref q0), some (.int m1), none, none, none] [] h Q := by
  have hT := hX12_readsRoom
  unfold FX12_readsRoom_b74 at e
  refine Rn.n hT 1 (pc' := 75) (L' := [some (.ref q0), some (.int m1), none, none, none]) (st' := [.ref q0]) rfl ?_
  obtain ⟨s_2751, e_2750, e⟩ := Option.bind_eq_some_iff.mp e
  refine Rn.call hT rfl rfl rfl (Nat.le_of_ble_eq_true rfl) (rcv_v gX12_blanks (by omega) (rp_ck hR (T12_o t0))) (RX12_blanks (by omega) hR t0 e_2750 (fun h_2751 R_2751 => ?_))
  show Rn d _ _ 78 [some (.ref q0), some (.int m1), none, none, none] [] h_2751 Q
  refine Rn.n hT 1 (pc' := 79) (L' := [some (.ref q0), some (.int m1), none, none, none]) (st' := [.ref q0]) rfl ?_
  obtain ⟨z_2752, g_2752, p_2752⟩ : ∃ z : Int32, gI h_2751 12 29 q0 = some z ∧ z.toInt = s_2751 q0 29 := rp_gI (k := 29) R_2751 (T12_o t0) rfl
  refine Rn.hp hT rfl rfl (gI_hp g_2752) ?_
  refine Rn.n hT 4 (pc' := 86) (L' := [some (.ref q0), some (.int m1), some (.int z_2752), none, none]) (st' := [.int (3 : Int32), .int (0 : Int32), .ref q0]) rfl ?_
  obtain ⟨⟨v_2753, s_2754⟩, e_2753, e⟩ := Option.bind_eq_some_iff.mp e
  try dsimp only at e
  try dsimp only at e
  refine Rn.call hT rfl rfl rfl (Nat.le_of_ble_eq_true rfl) (rcv_v gX12_amount (by omega) (rp_ck R_2751 (T12_o t0))) (RX12_amount (by omega) R_2751 t0 L32_0 L32_3 e_2753 (fun z_2753 h_2754 p_2753 R_2754 => ?_))
  show Rn d _ _ 89 [some (.ref q0), some (.int m1), some (.int z_2752), none, none] [.int z_2753] h_2754 Q
  refine Rn.n hT 4 (pc' := 93) (L' := [some (.ref q0), some (.int m1), some (.int z_2752), some (.int z_2753), none]) (st' := [.int (3 : Int32), .int (0 : Int32), .ref q0]) rfl ?_
  obtain ⟨⟨v_2755, s_2756⟩, e_2755, e⟩ := Option.bind_eq_some_iff.mp e
  try dsimp only at e
  try dsimp only at e
  refine Rn.call hT rfl rfl rfl (Nat.le_of_ble_eq_true rfl) (rcv_v gX12_amount (by omega) (rp_ck R_2754 (T12_o t0))) (RX12_amount (by omega) R_2754 t0 L32_0 L32_3 e_2755 (fun z_2755 h_2756 p_2755 R_2756 => ?_))
  show Rn d _ _ 96 [some (.ref q0), some (.int m1), some (.int z_2752), some (.int z_2753), none] [.int z_2755] h_2756 Q
  refine Rn.n hT 2 (pc' := 99) (L' := [some (.ref q0), some (.int m1), some (.int z_2752), some (.int z_2753), some (.int z_2755)]) (st' := [.ref q0]) rfl ?_
  obtain ⟨z_2757, g_2757, p_2757⟩ : ∃ z : Int32, gI h_2756 12 30 q0 = some z ∧ z.toInt = s_2756 q0 30 := rp_gI (k := 30) R_2756 (T12_o t0) rfl
  refine Rn.hp hT rfl rfl (gI_hp g_2757) ?_
  by_cases c_2758 : (s_2756 q0 30) = 0
  · rw [if_pos c_2758] at e
    refine Rn.bf hT rfl rfl rfl (decide_eq_false (fun z => z ((ti_e p_2757 L32_0).mpr c_2758))) ?_
    refine Rn.n hT 2 (pc' := 107) (L' := [some (.ref q0), some (.int m1), some (.int z_2752), some (.int z_2753), some (.int z_2755)]) (st' := [.ref q0, .int z_2753]) rfl ?_
    refine Rn.hp hT rfl rfl (gR_hp (rp_gR R_2756 (T12_o t0) rfl)) ?_
    refine Rn.n hT 1 (pc' := 111) (L' := [some (.ref q0), some (.int m1), some (.int z_2752), some (.int z_2753), some (.int z_2755)]) (st' := [.int (0 : Int32), .ref (q0 + 19), .int z_2753]) rfl ?_
    obtain ⟨v_2759, e_2759, e⟩ := Option.bind_eq_some_iff.mp e
    obtain ⟨z_2759, g_2759, p_2759⟩ := rp_aI R_2756 (T12_19 t0) (T12_19l t0) L32_0 e_2759
    refine Rn.hp hT rfl rfl (aI_hp g_2759) ?_
    by_cases c_2760 : v_2759 ≤ v_2753
    · rw [if_pos c_2760] at e
      refine Rn.bt hT rfl rfl rfl (decide_eq_true ((ti_le p_2759 p_2753).mpr c_2760)) ?_
      exact Rn.weak (ll_s (ll_s (ll_s (ll_s (ll_s ll_e))))) (RX12_readsRoom_b141 hd R_2756 t0 p1 p_2752 p_2753 p_2755 hq e)
    · rw [if_neg c_2760] at e
      refine Rn.bf hT rfl rfl rfl (decide_eq_false (fun z => c_2760 ((ti_le p_2759 p_2753).mp z))) ?_
      refine Rn.n hT 2 (pc' := 118) (L' := [some (.ref q0), some (.int m1), some (.int z_2752), some (.int z_2753), some (.int z_2755)]) (st' := [.ref q0, .int z_2755]) rfl ?_
      refine Rn.hp hT rfl rfl (gR_hp (rp_gR R_2756 (T12_o t0) rfl)) ?_
      refine Rn.n hT 1 (pc' := 122) (L' := [some (.ref q0), some (.int m1), some (.int z_2752), some (.int z_2753), some (.int z_2755)]) (st' := [.int (1 : Int32), .ref (q0 + 19), .int z_2755]) rfl ?_
      obtain ⟨v_2761, e_2761, e⟩ := Option.bind_eq_some_iff.mp e
      obtain ⟨z_2761, g_2761, p_2761⟩ := rp_aI R_2756 (T12_19 t0) (T12_19l t0) L32_1 e_2761
      refine Rn.hp hT rfl rfl (aI_hp g_2761) ?_
      by_cases c_2762 : v_2761 ≤ v_2755
      · rw [if_pos c_2762] at e
        refine Rn.bt hT rfl rfl rfl (decide_eq_true ((ti_le p_2761 p_2755).mpr c_2762)) ?_
        exact Rn.weak (ll_s (ll_s (ll_s (ll_s (ll_s ll_e))))) (RX12_readsRoom_b141 hd R_2756 t0 p1 p_2752 p_2753 p_2755 hq e)
      · rw [if_neg c_2762] at e
        refine Rn.bf hT rfl rfl rfl (decide_eq_false (fun z => c_2762 ((ti_le p_2761 p_2755).mp z))) ?_
        refine Rn.n hT 1 (pc' := 127) (L' := [some (.ref q0), some (.int m1), some (.int z_2752), some (.int z_2753), some (.int z_2755)]) (st' := [.ref q0]) rfl ?_
        refine Rn.hp hT rfl rfl (gR_hp (rp_gR R_2756 (T12_o t0) rfl)) ?_
        refine Rn.n hT 5 (pc' := 136) (L' := [some (.ref q0), some (.int m1), some (.int z_2752), some (.int z_2753), some (.int z_2755)]) (st' := [.int (((4 : Int32) * z_2755) + z_2753), .ref (q0 + 25)]) rfl ?_
        obtain ⟨v_2763, e_2763, e⟩ := Option.bind_eq_some_iff.mp e
        obtain ⟨z_2763, g_2763, p_2763⟩ := rp_aI R_2756 (T12_25 t0) (T12_25l t0) (ti_add (ti_mul L32_4 p_2755) p_2753) e_2763
        refine Rn.hp hT rfl rfl (aI_hp g_2763) ?_
        refine Rn.n hT 1 (pc' := 138) (L' := [some (.ref q0), some (.int m1), some (.int z_2752), some (.int z_2753), some (.int z_2755)]) (st' := [.int (-1 : Int32), .int z_2763]) rfl ?_
        by_cases c_2764 : v_2763 = (-1)
        · rw [if_pos c_2764] at e
          refine Rn.bt hT rfl rfl rfl (decide_eq_true ((ti_e p_2763 L32_m1).mpr c_2764)) ?_
          exact Rn.weak (ll_s (ll_s (ll_n (ll_s (ll_s ll_e))))) (RX12_readsRoom_b147 hd R_2756 t0 p1 p_2753 p_2755 hq e)
        · rw [if_neg c_2764] at e
          refine Rn.bf hT rfl rfl rfl (decide_eq_false (fun z => c_2764 ((ti_e p_2763 L32_m1).mp z))) ?_
          exact Rn.weak (ll_s (ll_s (ll_s (ll_s (ll_s ll_e))))) (RX12_readsRoom_b141 hd R_2756 t0 p1 p_2752 p_2753 p_2755 hq e)
  · rw [if_neg c_2758] at e
    refine Rn.bt hT rfl rfl rfl (decide_eq_true (fun z => c_2758 ((ti_e p_2757 L32_0).mp z))) ?_
    exact Rn.weak (ll_s (ll_s (ll_n (ll_s (ll_s ll_e))))) (RX12_readsRoom_b147 hd R_2756 t0 p1 p_2753 p_2755 hq e)
def FX12_readsRoom (N : Nat) (s : iv_M) (q0 : Nat) : Option (iv_M) := ((rd s (q0 + 19) 5 2).bind fun v_2732 => ((FX12_blanks N s q0).bind fun s_2734 => (FX12_readsRoom_l13 N q0 v_2732 (fun (s_2735 : iv_M) => (FX12_readsRoom_b74 N s_2735 q0 v_2732)) N s_2734 0)))
set_option maxRecDepth 10000 in
set_option maxHeartbeats 4000000 in
theorem RX12_readsRoom {d N nc Ls : Nat} {Xs : Nat → Int32} (hd : 5 ≤ d) {h : iv_H} {s : iv_M} (hR : Rep nc Ls Xs h s) {q0 : Nat} (t0 : T12 nc q0) {r : iv_M} {Q : Option Value → iv_H → Prop} (e : FX12_readsRoom N s q0 = some r) (hq : ∀ h1, Rep nc Ls Xs h1 r → Q none h1) : Cl d 231 [.ref q0] h Q := by
  obtain ⟨d, rfl⟩ : ∃ k, d = k + 1 := ⟨d - 1, by omega⟩
  have hd : 4 ≤ d := by omega
  have hT := hX12_readsRoom
  unfold FX12_readsRoom at e
  refine Cl.into (by decide) gX12_readsRoom rfl ?_
  show Rn d 231 none 0 [some (.ref q0), none, none, none, none] [] h Q
  refine Rn.n hT 1 (pc' := 1) (L' := [some (.ref q0), none, none, none, none]) (st' := [.ref q0]) rfl ?_
  refine Rn.hp hT rfl rfl (gR_hp (rp_gR hR (T12_o t0) rfl)) ?_
  refine Rn.n hT 1 (pc' := 5) (L' := [some (.ref q0), none, none, none, none]) (st' := [.int (2 : Int32), .ref (q0 + 19)]) rfl ?_
  obtain ⟨v_2732, e_2732, e⟩ := Option.bind_eq_some_iff.mp e
  obtain ⟨z_2732, g_2732, p_2732⟩ := rp_aI hR (T12_19 t0) (T12_19l t0) L32_2 e_2732
  refine Rn.hp hT rfl rfl (aI_hp g_2732) ?_
  refine Rn.n hT 2 (pc' := 8) (L' := [some (.ref q0), some (.int z_2732), none, none, none]) (st' := [.ref q0]) rfl ?_
  obtain ⟨s_2734, e_2733, e⟩ := Option.bind_eq_some_iff.mp e
  refine Rn.call hT rfl rfl rfl (Nat.le_of_ble_eq_true rfl) (rcv_v gX12_blanks (by omega) (rp_ck hR (T12_o t0))) (RX12_blanks (by omega) hR t0 e_2733 (fun h_2734 R_2734 => ?_))
  show Rn d _ _ 11 [some (.ref q0), some (.int z_2732), none, none, none] [] h_2734 Q
  refine Rn.n hT 2 (pc' := 13) (L' := [some (.ref q0), some (.int z_2732), some (.int (0 : Int32)), none, none]) (st' := []) rfl ?_
  refine Rn.weak (ll_s (ll_s (ll_s (ll_n (ll_n ll_e))))) (RX12_readsRoom_l13 hd t0 p_2732 (fun h_2735 s_2735 R_2735 e => ?_) hq N h_2734 s_2734 R_2734 (0 : Int32) 0 L32_0 e)
  try dsimp only at e
  exact Rn.weak (ll_s (ll_s (ll_n (ll_n (ll_n ll_e))))) (RX12_readsRoom_b74 hd R_2735 t0 p_2732 hq e)
set_option maxRecDepth 10000 in
theorem hX12_palacePart : iv_Tb 232 tX12_palacePart := iv_tb_of (m := mX12_palacePart) rfl
set_option maxRecDepth 10000 in
theorem gX12_palacePart : PG.2 232 = some mX12_palacePart := iv_pi_of (t := tX12_palacePart) rfl (by decide)
def FX12_palacePart_b185 (N : Nat) (s : iv_M)   : Option (iv_M) := some s
set_option maxRecDepth 10000 in
set_option maxHeartbeats 4000000 in
theorem RX12_palacePart_b185 {d N nc Ls : Nat} {Xs : Nat → Int32} (hd : 5 ≤ d) {h : iv_H} {s : iv_M} (hR : Rep nc Ls Xs h s)   {r : iv_M} {Q : Option Value → iv_H → Prop} (hq : ∀ h1, Rep nc Ls Xs h1 r → Q none h1) (e : FX12_palacePart_b185 N s   = some r) : Rn d 232 none 185 [none, none, none, none, none] [] h Q := by
  have hT := hX12_palacePart
  unfold FX12_palacePart_b185 at e
  obtain rfl := Option.some.inj e
  exact Rn.ret hT rfl rfl rfl (hq h hR)
def FX12_palacePart (N : Nat) (s : iv_M) (q0 : Nat) (x1 : Int) : Option (iv_M) := ((rd s (q0 + 19) 5 2).bind fun v_2778 => (if x1 = 0 then ((FX12_amount N s q0 1 4).bind fun r_2780 => (fun (v_2780 : Int) (s_2781 : iv_M) => ((wr s_2781 (q0 + 19) 5 0 v_2780).bind fun s_2782 => ((FX12_amount N s_2782 q0 1 4).bind fun r_2784 => (fun (v_2784 : Int) (s_2785 : iv_M) => ((wr s_2785 (q0 + 19) 5 1 v_2784).bind fun s_2786 => (FX12_palacePart_b185 N s_2786))) r_2784.1 r_2784.2))) r_2780.1 r_2780.2) else (if x1 = 1 then ((FX12_readsRoom N s q0).bind fun s_2790 => (FX12_palacePart_b185 N s_2790)) else (if x1 = 2 then ((FX12_amount N s q0 0 (w32 (v_2778 - 1))).bind fun r_2792 => (fun (v_2792 : Int) (s_2793 : iv_M) => (if (s_2793 q0 30) = 0 then ((wr s_2793 (q0 + 22) 12 v_2792 1).bind fun s_2796 => (FX12_palacePart_b185 N s_2796)) else (FX12_palacePart_b185 N s_2793))) r_2792.1 r_2792.2) else (if x1 = 3 then ((FX12_amount N s q0 1 4).bind fun r_2799 => (fun (v_2799 : Int) (s_2800 : iv_M) => ((FX12_amount N s_2800 q0 0 (w32 (v_2778 - 1))).bind fun r_2801 => (fun (v_2801 : Int) (s_2802 : iv_M) => (if (s_2802 q0 30) = 0 then ((wr s_2802 (q0 + 23) 4 (w32 (v_2799 - 1)) v_2801).bind fun s_2805 => (FX12_palacePart_b185 N s_2805)) else (FX12_palacePart_b185 N s_2802))) r_2801.1 r_2801.2)) r_2799.1 r_2799.2) else (if x1 = 4 then ((rd s (q0 + 19) 5 3).bind fun v_2808 => ((FX12_amount N s q0 0 (w32 (v_2778 - 1))).bind fun r_2809 => (fun (v_2809 : Int) (s_2810 : iv_M) => ((wr s_2810 (q0 + 24) 6 v_2808 v_2809).bind fun s_2811 => ((rd s_2811 (q0 + 19) 5 3).bind fun v_2813 => ((wr s_2811 (q0 + 19) 5 3 (w32 (v_2813 + 1))).bind fun s_2814 => (FX12_palacePart_b185 N s_2814))))) r_2809.1 r_2809.2)) else ((FX12_amount N s q0 1 7).bind fun r_2816 => (fun (v_2816 : Int) (s_2817 : iv_M) => ((wr s_2817 (q0 + 19) 5 4 v_2816).bind fun s_2818 => ((pt s_2818 q0 38 1).bind fun s_2820 => (FX12_palacePart_b185 N s_2820)))) r_2816.1 r_2816.2)))))))
set_option maxRecDepth 10000 in
set_option maxHeartbeats 4000000 in
theorem RX12_palacePart {d N nc Ls : Nat} {Xs : Nat → Int32} (hd : 6 ≤ d) {h : iv_H} {s : iv_M} (hR : Rep nc Ls Xs h s) {q0 : Nat} (t0 : T12 nc q0) {m1 : Int32} {x1 : Int} (p1 : m1.toInt = x1) {r : iv_M} {Q : Option Value → iv_H → Prop} (e : FX12_palacePart N s q0 x1 = some r) (hq : ∀ h1, Rep nc Ls Xs h1 r → Q none h1) : Cl d 232 [.ref q0, .int m1] h Q := by
  obtain ⟨d, rfl⟩ : ∃ k, d = k + 1 := ⟨d - 1, by omega⟩
  have hd : 5 ≤ d := by omega
  have hT := hX12_palacePart
  unfold FX12_palacePart at e
  refine Cl.into (by decide) gX12_palacePart rfl ?_
  show Rn d 232 none 0 [some (.ref q0), some (.int m1), none, none, none] [] h Q
  refine Rn.n hT 1 (pc' := 1) (L' := [some (.ref q0), some (.int m1), none, none, none]) (st' := [.ref q0]) rfl ?_
  refine Rn.hp hT rfl rfl (gR_hp (rp_gR hR (T12_o t0) rfl)) ?_
  refine Rn.n hT 1 (pc' := 5) (L' := [some (.ref q0), some (.int m1), none, none, none]) (st' := [.int (2 : Int32), .ref (q0 + 19)]) rfl ?_
  obtain ⟨v_2778, e_2778, e⟩ := Option.bind_eq_some_iff.mp e
  obtain ⟨z_2778, g_2778, p_2778⟩ := rp_aI hR (T12_19 t0) (T12_19l t0) L32_2 e_2778
  refine Rn.hp hT rfl rfl (aI_hp g_2778) ?_
  refine Rn.n hT 4 (pc' := 10) (L' := [some (.ref q0), some (.int m1), some (.int (z_2778 - (1 : Int32))), none, none]) (st' := [.int m1]) rfl ?_
  by_cases c_2779 : x1 = 0
  · rw [if_pos c_2779] at e
    refine Rn.sw2 hT rfl rfl rfl (if_pos ((ti_e p1 L32_0).mpr c_2779)) ?_
    refine Rn.n hT 1 (pc' := 45) (L' := [some (.ref q0), some (.int m1), some (.int (z_2778 - (1 : Int32))), none, none]) (st' := [.ref q0]) rfl ?_
    refine Rn.hp hT rfl rfl (gR_hp (rp_gR hR (T12_o t0) rfl)) ?_
    refine Rn.n hT 4 (pc' := 52) (L' := [some (.ref q0), some (.int m1), some (.int (z_2778 - (1 : Int32))), none, none]) (st' := [.int (4 : Int32), .int (1 : Int32), .ref q0, .int (0 : Int32), .ref (q0 + 19)]) rfl ?_
    obtain ⟨⟨v_2780, s_2781⟩, e_2780, e⟩ := Option.bind_eq_some_iff.mp e
    try dsimp only at e
    try dsimp only at e
    refine Rn.call hT rfl rfl rfl (Nat.le_of_ble_eq_true rfl) (rcv_v gX12_amount (by omega) (rp_ck hR (T12_o t0))) (RX12_amount (by omega) hR t0 L32_1 L32_4 e_2780 (fun z_2780 h_2781 p_2780 R_2781 => ?_))
    show Rn d _ _ 55 [some (.ref q0), some (.int m1), some (.int (z_2778 - (1 : Int32))), none, none] [.int z_2780, .int (0 : Int32), .ref (q0 + 19)] h_2781 Q
    obtain ⟨s_2782, e_2783, e⟩ := Option.bind_eq_some_iff.mp e
    obtain ⟨h_2782, g_2783, R_2782⟩ := rp_wI R_2781 (T12_19 t0) (T12_19l t0) L32_0 p_2780 e_2783
    refine Rn.hp hT rfl rfl (wI_hp g_2783) ?_
    refine Rn.n hT 1 (pc' := 57) (L' := [some (.ref q0), some (.int m1), some (.int (z_2778 - (1 : Int32))), none, none]) (st' := [.ref q0]) rfl ?_
    refine Rn.hp hT rfl rfl (gR_hp (rp_gR R_2782 (T12_o t0) rfl)) ?_
    refine Rn.n hT 4 (pc' := 64) (L' := [some (.ref q0), some (.int m1), some (.int (z_2778 - (1 : Int32))), none, none]) (st' := [.int (4 : Int32), .int (1 : Int32), .ref q0, .int (1 : Int32), .ref (q0 + 19)]) rfl ?_
    obtain ⟨⟨v_2784, s_2785⟩, e_2784, e⟩ := Option.bind_eq_some_iff.mp e
    try dsimp only at e
    try dsimp only at e
    refine Rn.call hT rfl rfl rfl (Nat.le_of_ble_eq_true rfl) (rcv_v gX12_amount (by omega) (rp_ck R_2782 (T12_o t0))) (RX12_amount (by omega) R_2782 t0 L32_1 L32_4 e_2784 (fun z_2784 h_2785 p_2784 R_2785 => ?_))
    show Rn d _ _ 67 [some (.ref q0), some (.int m1), some (.int (z_2778 - (1 : Int32))), none, none] [.int z_2784, .int (1 : Int32), .ref (q0 + 19)] h_2785 Q
    obtain ⟨s_2786, e_2787, e⟩ := Option.bind_eq_some_iff.mp e
    obtain ⟨h_2786, g_2787, R_2786⟩ := rp_wI R_2785 (T12_19 t0) (T12_19l t0) L32_1 p_2784 e_2787
    refine Rn.hp hT rfl rfl (wI_hp g_2787) ?_
    refine Rn.n hT 1 (pc' := 185) (L' := [some (.ref q0), some (.int m1), some (.int (z_2778 - (1 : Int32))), none, none]) (st' := []) rfl ?_
    exact Rn.weak (ll_n (ll_n (ll_n (ll_n (ll_n ll_e))))) (RX12_palacePart_b185 hd R_2786 hq e)
  · rw [if_neg c_2779] at e
    by_cases c_2788 : x1 = 1
    · rw [if_pos c_2788] at e
      refine Rn.sw2 hT rfl rfl rfl ((if_neg (fun z => c_2779 ((ti_e p1 L32_0).mp z))).trans (if_pos ((ti_e p1 L32_1).mpr c_2788))) ?_
      refine Rn.n hT 1 (pc' := 72) (L' := [some (.ref q0), some (.int m1), some (.int (z_2778 - (1 : Int32))), none, none]) (st' := [.ref q0]) rfl ?_
      obtain ⟨s_2790, e_2789, e⟩ := Option.bind_eq_some_iff.mp e
      refine Rn.call hT rfl rfl rfl (Nat.le_of_ble_eq_true rfl) (rcv_v gX12_readsRoom (by omega) (rp_ck hR (T12_o t0))) (RX12_readsRoom (by omega) hR t0 e_2789 (fun h_2790 R_2790 => ?_))
      show Rn d _ _ 75 [some (.ref q0), some (.int m1), some (.int (z_2778 - (1 : Int32))), none, none] [] h_2790 Q
      refine Rn.n hT 1 (pc' := 185) (L' := [some (.ref q0), some (.int m1), some (.int (z_2778 - (1 : Int32))), none, none]) (st' := []) rfl ?_
      exact Rn.weak (ll_n (ll_n (ll_n (ll_n (ll_n ll_e))))) (RX12_palacePart_b185 hd R_2790 hq e)
    · rw [if_neg c_2788] at e
      by_cases c_2791 : x1 = 2
      · rw [if_pos c_2791] at e
        refine Rn.sw2 hT rfl rfl rfl ((if_neg (fun z => c_2779 ((ti_e p1 L32_0).mp z))).trans ((if_neg (fun z => c_2788 ((ti_e p1 L32_1).mp z))).trans (if_pos ((ti_e p1 L32_2).mpr c_2791)))) ?_
        refine Rn.n hT 3 (pc' := 81) (L' := [some (.ref q0), some (.int m1), some (.int (z_2778 - (1 : Int32))), none, none]) (st' := [.int (z_2778 - (1 : Int32)), .int (0 : Int32), .ref q0]) rfl ?_
        obtain ⟨⟨v_2792, s_2793⟩, e_2792, e⟩ := Option.bind_eq_some_iff.mp e
        try dsimp only at e
        try dsimp only at e
        refine Rn.call hT rfl rfl rfl (Nat.le_of_ble_eq_true rfl) (rcv_v gX12_amount (by omega) (rp_ck hR (T12_o t0))) (RX12_amount (by omega) hR t0 L32_0 (ti_sub p_2778 L32_1) e_2792 (fun z_2792 h_2793 p_2792 R_2793 => ?_))
        show Rn d _ _ 84 [some (.ref q0), some (.int m1), some (.int (z_2778 - (1 : Int32))), none, none] [.int z_2792] h_2793 Q
        refine Rn.n hT 2 (pc' := 86) (L' := [some (.ref q0), some (.int m1), some (.int (z_2778 - (1 : Int32))), some (.int z_2792), none]) (st' := [.ref q0]) rfl ?_
        obtain ⟨z_2794, g_2794, p_2794⟩ : ∃ z : Int32, gI h_2793 12 30 q0 = some z ∧ z.toInt = s_2793 q0 30 := rp_gI (k := 30) R_2793 (T12_o t0) rfl
        refine Rn.hp hT rfl rfl (gI_hp g_2794) ?_
        by_cases c_2795 : (s_2793 q0 30) = 0
        · rw [if_pos c_2795] at e
          refine Rn.bf hT rfl rfl rfl (decide_eq_false (fun z => z ((ti_e p_2794 L32_0).mpr c_2795))) ?_
          refine Rn.n hT 1 (pc' := 93) (L' := [some (.ref q0), some (.int m1), some (.int (z_2778 - (1 : Int32))), some (.int z_2792), none]) (st' := [.ref q0]) rfl ?_
          refine Rn.hp hT rfl rfl (gR_hp (rp_gR R_2793 (T12_o t0) rfl)) ?_
          refine Rn.n hT 2 (pc' := 98) (L' := [some (.ref q0), some (.int m1), some (.int (z_2778 - (1 : Int32))), some (.int z_2792), none]) (st' := [.int (1 : Int32), .int z_2792, .ref (q0 + 22)]) rfl ?_
          obtain ⟨s_2796, e_2797, e⟩ := Option.bind_eq_some_iff.mp e
          obtain ⟨h_2796, g_2797, R_2796⟩ := rp_wI R_2793 (T12_22 t0) (T12_22l t0) p_2792 L32_1 e_2797
          refine Rn.hp hT rfl rfl (wI_hp g_2797) ?_
          refine Rn.n hT 1 (pc' := 185) (L' := [some (.ref q0), some (.int m1), some (.int (z_2778 - (1 : Int32))), some (.int z_2792), none]) (st' := []) rfl ?_
          exact Rn.weak (ll_n (ll_n (ll_n (ll_n (ll_n ll_e))))) (RX12_palacePart_b185 hd R_2796 hq e)
        · rw [if_neg c_2795] at e
          refine Rn.bt hT rfl rfl rfl (decide_eq_true (fun z => c_2795 ((ti_e p_2794 L32_0).mp z))) ?_
          exact Rn.weak (ll_n (ll_n (ll_n (ll_n (ll_n ll_e))))) (RX12_palacePart_b185 hd R_2793 hq e)
      · rw [if_neg c_2791] at e
        by_cases c_2798 : x1 = 3
        · rw [if_pos c_2798] at e
          refine Rn.sw2 hT rfl rfl rfl ((if_neg (fun z => c_2779 ((ti_e p1 L32_0).mp z))).trans ((if_neg (fun z => c_2788 ((ti_e p1 L32_1).mp z))).trans ((if_neg (fun z => c_2791 ((ti_e p1 L32_2).mp z))).trans (if_pos ((ti_e p1 L32_3).mpr c_2798))))) ?_
          refine Rn.n hT 3 (pc' := 105) (L' := [some (.ref q0), some (.int m1), some (.int (z_2778 - (1 : Int32))), none, none]) (st' := [.int (4 : Int32), .int (1 : Int32), .ref q0]) rfl ?_
          obtain ⟨⟨v_2799, s_2800⟩, e_2799, e⟩ := Option.bind_eq_some_iff.mp e
          try dsimp only at e
          try dsimp only at e
          refine Rn.call hT rfl rfl rfl (Nat.le_of_ble_eq_true rfl) (rcv_v gX12_amount (by omega) (rp_ck hR (T12_o t0))) (RX12_amount (by omega) hR t0 L32_1 L32_4 e_2799 (fun z_2799 h_2800 p_2799 R_2800 => ?_))
          show Rn d _ _ 108 [some (.ref q0), some (.int m1), some (.int (z_2778 - (1 : Int32))), none, none] [.int z_2799] h_2800 Q
          refine Rn.n hT 4 (pc' := 112) (L' := [some (.ref q0), some (.int m1), some (.int (z_2778 - (1 : Int32))), some (.int z_2799), none]) (st' := [.int (z_2778 - (1 : Int32)), .int (0 : Int32), .ref q0]) rfl ?_
          obtain ⟨⟨v_2801, s_2802⟩, e_2801, e⟩ := Option.bind_eq_some_iff.mp e
          try dsimp only at e
          try dsimp only at e
          refine Rn.call hT rfl rfl rfl (Nat.le_of_ble_eq_true rfl) (rcv_v gX12_amount (by omega) (rp_ck R_2800 (T12_o t0))) (RX12_amount (by omega) R_2800 t0 L32_0 (ti_sub p_2778 L32_1) e_2801 (fun z_2801 h_2802 p_2801 R_2802 => ?_))
          show Rn d _ _ 115 [some (.ref q0), some (.int m1), some (.int (z_2778 - (1 : Int32))), some (.int z_2799), none] [.int z_2801] h_2802 Q
          refine Rn.n hT 2 (pc' := 118) (L' := [some (.ref q0), some (.int m1), some (.int (z_2778 - (1 : Int32))), some (.int z_2799), some (.int z_2801)]) (st' := [.ref q0]) rfl ?_
          obtain ⟨z_2803, g_2803, p_2803⟩ : ∃ z : Int32, gI h_2802 12 30 q0 = some z ∧ z.toInt = s_2802 q0 30 := rp_gI (k := 30) R_2802 (T12_o t0) rfl
          refine Rn.hp hT rfl rfl (gI_hp g_2803) ?_
          by_cases c_2804 : (s_2802 q0 30) = 0
          · rw [if_pos c_2804] at e
            refine Rn.bf hT rfl rfl rfl (decide_eq_false (fun z => z ((ti_e p_2803 L32_0).mpr c_2804))) ?_
            refine Rn.n hT 1 (pc' := 125) (L' := [some (.ref q0), some (.int m1), some (.int (z_2778 - (1 : Int32))), some (.int z_2799), some (.int z_2801)]) (st' := [.ref q0]) rfl ?_
            refine Rn.hp hT rfl rfl (gR_hp (rp_gR R_2802 (T12_o t0) rfl)) ?_
            refine Rn.n hT 4 (pc' := 133) (L' := [some (.ref q0), some (.int m1), some (.int (z_2778 - (1 : Int32))), some (.int z_2799), some (.int z_2801)]) (st' := [.int z_2801, .int (z_2799 - (1 : Int32)), .ref (q0 + 23)]) rfl ?_
            obtain ⟨s_2805, e_2806, e⟩ := Option.bind_eq_some_iff.mp e
            obtain ⟨h_2805, g_2806, R_2805⟩ := rp_wI R_2802 (T12_23 t0) (T12_23l t0) (ti_sub p_2799 L32_1) p_2801 e_2806
            refine Rn.hp hT rfl rfl (wI_hp g_2806) ?_
            refine Rn.n hT 1 (pc' := 185) (L' := [some (.ref q0), some (.int m1), some (.int (z_2778 - (1 : Int32))), some (.int z_2799), some (.int z_2801)]) (st' := []) rfl ?_
            exact Rn.weak (ll_n (ll_n (ll_n (ll_n (ll_n ll_e))))) (RX12_palacePart_b185 hd R_2805 hq e)
          · rw [if_neg c_2804] at e
            refine Rn.bt hT rfl rfl rfl (decide_eq_true (fun z => c_2804 ((ti_e p_2803 L32_0).mp z))) ?_
            exact Rn.weak (ll_n (ll_n (ll_n (ll_n (ll_n ll_e))))) (RX12_palacePart_b185 hd R_2802 hq e)
        · rw [if_neg c_2798] at e
          by_cases c_2807 : x1 = 4
          · rw [if_pos c_2807] at e
            refine Rn.sw2 hT rfl rfl rfl ((if_neg (fun z => c_2779 ((ti_e p1 L32_0).mp z))).trans ((if_neg (fun z => c_2788 ((ti_e p1 L32_1).mp z))).trans ((if_neg (fun z => c_2791 ((ti_e p1 L32_2).mp z))).trans ((if_neg (fun z => c_2798 ((ti_e p1 L32_3).mp z))).trans (if_pos ((ti_e p1 L32_4).mpr c_2807)))))) ?_
            refine Rn.n hT 1 (pc' := 138) (L' := [some (.ref q0), some (.int m1), some (.int (z_2778 - (1 : Int32))), none, none]) (st' := [.ref q0]) rfl ?_
            refine Rn.hp hT rfl rfl (gR_hp (rp_gR hR (T12_o t0) rfl)) ?_
            refine Rn.n hT 1 (pc' := 142) (L' := [some (.ref q0), some (.int m1), some (.int (z_2778 - (1 : Int32))), none, none]) (st' := [.ref q0, .ref (q0 + 24)]) rfl ?_
            refine Rn.hp hT rfl rfl (gR_hp (rp_gR hR (T12_o t0) rfl)) ?_
            refine Rn.n hT 1 (pc' := 146) (L' := [some (.ref q0), some (.int m1), some (.int (z_2778 - (1 : Int32))), none, none]) (st' := [.int (3 : Int32), .ref (q0 + 19), .ref (q0 + 24)]) rfl ?_
            obtain ⟨v_2808, e_2808, e⟩ := Option.bind_eq_some_iff.mp e
            obtain ⟨z_2808, g_2808, p_2808⟩ := rp_aI hR (T12_19 t0) (T12_19l t0) L32_3 e_2808
            refine Rn.hp hT rfl rfl (aI_hp g_2808) ?_
            refine Rn.n hT 3 (pc' := 150) (L' := [some (.ref q0), some (.int m1), some (.int (z_2778 - (1 : Int32))), none, none]) (st' := [.int (z_2778 - (1 : Int32)), .int (0 : Int32), .ref q0, .int z_2808, .ref (q0 + 24)]) rfl ?_
            obtain ⟨⟨v_2809, s_2810⟩, e_2809, e⟩ := Option.bind_eq_some_iff.mp e
            try dsimp only at e
            try dsimp only at e
            refine Rn.call hT rfl rfl rfl (Nat.le_of_ble_eq_true rfl) (rcv_v gX12_amount (by omega) (rp_ck hR (T12_o t0))) (RX12_amount (by omega) hR t0 L32_0 (ti_sub p_2778 L32_1) e_2809 (fun z_2809 h_2810 p_2809 R_2810 => ?_))
            show Rn d _ _ 153 [some (.ref q0), some (.int m1), some (.int (z_2778 - (1 : Int32))), none, none] [.int z_2809, .int z_2808, .ref (q0 + 24)] h_2810 Q
            obtain ⟨s_2811, e_2812, e⟩ := Option.bind_eq_some_iff.mp e
            obtain ⟨h_2811, g_2812, R_2811⟩ := rp_wI R_2810 (T12_24 t0) (T12_24l t0) p_2808 p_2809 e_2812
            refine Rn.hp hT rfl rfl (wI_hp g_2812) ?_
            refine Rn.n hT 1 (pc' := 155) (L' := [some (.ref q0), some (.int m1), some (.int (z_2778 - (1 : Int32))), none, none]) (st' := [.ref q0]) rfl ?_
            refine Rn.hp hT rfl rfl (gR_hp (rp_gR R_2811 (T12_o t0) rfl)) ?_
            refine Rn.n hT 2 (pc' := 160) (L' := [some (.ref q0), some (.int m1), some (.int (z_2778 - (1 : Int32))), none, none]) (st' := [.int (3 : Int32), .ref (q0 + 19), .int (3 : Int32), .ref (q0 + 19)]) rfl ?_
            obtain ⟨v_2813, e_2813, e⟩ := Option.bind_eq_some_iff.mp e
            obtain ⟨z_2813, g_2813, p_2813⟩ := rp_aI R_2811 (T12_19 t0) (T12_19l t0) L32_3 e_2813
            refine Rn.hp hT rfl rfl (aI_hp g_2813) ?_
            refine Rn.n hT 2 (pc' := 163) (L' := [some (.ref q0), some (.int m1), some (.int (z_2778 - (1 : Int32))), none, none]) (st' := [.int (z_2813 + (1 : Int32)), .int (3 : Int32), .ref (q0 + 19)]) rfl ?_
            obtain ⟨s_2814, e_2815, e⟩ := Option.bind_eq_some_iff.mp e
            obtain ⟨h_2814, g_2815, R_2814⟩ := rp_wI R_2811 (T12_19 t0) (T12_19l t0) L32_3 (ti_add p_2813 L32_1) e_2815
            refine Rn.hp hT rfl rfl (wI_hp g_2815) ?_
            refine Rn.n hT 1 (pc' := 185) (L' := [some (.ref q0), some (.int m1), some (.int (z_2778 - (1 : Int32))), none, none]) (st' := []) rfl ?_
            exact Rn.weak (ll_n (ll_n (ll_n (ll_n (ll_n ll_e))))) (RX12_palacePart_b185 hd R_2814 hq e)
          · rw [if_neg c_2807] at e
            refine Rn.sw2 hT rfl rfl rfl ((if_neg (fun z => c_2779 ((ti_e p1 L32_0).mp z))).trans ((if_neg (fun z => c_2788 ((ti_e p1 L32_1).mp z))).trans ((if_neg (fun z => c_2791 ((ti_e p1 L32_2).mp z))).trans ((if_neg (fun z => c_2798 ((ti_e p1 L32_3).mp z))).trans ((if_neg (fun z => c_2807 ((ti_e p1 L32_4).mp z))).trans rfl))))) ?_
            refine Rn.n hT 1 (pc' := 168) (L' := [some (.ref q0), some (.int m1), some (.int (z_2778 - (1 : Int32))), none, none]) (st' := [.ref q0]) rfl ?_
            refine Rn.hp hT rfl rfl (gR_hp (rp_gR hR (T12_o t0) rfl)) ?_
            refine Rn.n hT 4 (pc' := 176) (L' := [some (.ref q0), some (.int m1), some (.int (z_2778 - (1 : Int32))), none, none]) (st' := [.int (7 : Int32), .int (1 : Int32), .ref q0, .int (4 : Int32), .ref (q0 + 19)]) rfl ?_
            obtain ⟨⟨v_2816, s_2817⟩, e_2816, e⟩ := Option.bind_eq_some_iff.mp e
            try dsimp only at e
            try dsimp only at e
            refine Rn.call hT rfl rfl rfl (Nat.le_of_ble_eq_true rfl) (rcv_v gX12_amount (by omega) (rp_ck hR (T12_o t0))) (RX12_amount (by omega) hR t0 L32_1 L32_7 e_2816 (fun z_2816 h_2817 p_2816 R_2817 => ?_))
            show Rn d _ _ 179 [some (.ref q0), some (.int m1), some (.int (z_2778 - (1 : Int32))), none, none] [.int z_2816, .int (4 : Int32), .ref (q0 + 19)] h_2817 Q
            obtain ⟨s_2818, e_2819, e⟩ := Option.bind_eq_some_iff.mp e
            obtain ⟨h_2818, g_2819, R_2818⟩ := rp_wI R_2817 (T12_19 t0) (T12_19l t0) L32_4 p_2816 e_2819
            refine Rn.hp hT rfl rfl (wI_hp g_2819) ?_
            refine Rn.n hT 2 (pc' := 182) (L' := [some (.ref q0), some (.int m1), some (.int (z_2778 - (1 : Int32))), none, none]) (st' := [.int (1 : Int32), .ref q0]) rfl ?_
            obtain ⟨s_2820, e_2821, e⟩ := Option.bind_eq_some_iff.mp e
            obtain ⟨h_2820, g_2821, R_2820⟩ := rp_pI (ci := 12) (k := 38) R_2818 (T12_o t0) rfl rfl L32_1 e_2821
            refine Rn.hp hT rfl rfl (pV_hp (by decide) g_2821) ?_
            exact Rn.weak (ll_n (ll_n (ll_n (ll_n (ll_n ll_e))))) (RX12_palacePart_b185 hd R_2820 hq e)
set_option maxRecDepth 10000 in
theorem hX12_isFull : iv_Tb 233 tX12_isFull := iv_tb_of (m := mX12_isFull) rfl
set_option maxRecDepth 10000 in
theorem gX12_isFull : PG.2 233 = some mX12_isFull := iv_pi_of (t := tX12_isFull) rfl (by decide)
def FX12_isFull_b27 (N : Nat) (s : iv_M)   : Option (Int) := (some 1)
set_option maxRecDepth 10000 in
set_option maxHeartbeats 4000000 in
theorem RX12_isFull_b27 {d N nc Ls : Nat} {Xs : Nat → Int32} (hd : 0 ≤ d) {h : iv_H} {s : iv_M} (hR : Rep nc Ls Xs h s)   {r : Int} {Q : Option Value → iv_H → Prop} (hq : ∀ (z : Int32), z.toInt = r → Q (some (.int z)) h) (e : FX12_isFull_b27 N s   = some r) : Rn d 233 (some .boolean) 27 [none, none, none] [] h Q := by
  have hT := hX12_isFull
  unfold FX12_isFull_b27 at e
  refine Rn.n hT 1 (pc' := 28) (L' := [none, none, none]) (st' := [.int (1 : Int32)]) rfl ?_
  obtain rfl := Option.some.inj e
  exact Rn.ret hT rfl rfl rfl (hq (1 : Int32) L32_1)
def FX12_isFull_b80 (N : Nat) (s : iv_M)  (xs0 : Int) : Option (Int) := (if xs0 = 0 ∨ xs0 = 1 then some xs0 else none)
set_option maxRecDepth 10000 in
set_option maxHeartbeats 4000000 in
theorem RX12_isFull_b80 {d N nc Ls : Nat} {Xs : Nat → Int32} (hd : 0 ≤ d) {h : iv_H} {s : iv_M} (hR : Rep nc Ls Xs h s)  {ms0 : Int32} {xs0 : Int} (ps0 : ms0.toInt = xs0) {r : Int} {Q : Option Value → iv_H → Prop} (hq : ∀ (z : Int32), z.toInt = r → Q (some (.int z)) h) (e : FX12_isFull_b80 N s  xs0 = some r) : Rn d 233 (some .boolean) 80 [none, none, none] [.int ms0] h Q := by
  have hT := hX12_isFull
  unfold FX12_isFull_b80 at e
  by_cases c_2837 : xs0 = 0 ∨ xs0 = 1
  · rw [if_pos c_2837] at e
    obtain rfl := Option.some.inj e
    exact Rn.ret hT rfl rfl (if_pos (ti_b ps0 c_2837)) (hq ms0 ps0)
  · rw [if_neg c_2837] at e
    cases e
def FX12_isFull_b97 (N : Nat) (s : iv_M)  (xs0 : Int) : Option (Int) := (if xs0 = 0 ∨ xs0 = 1 then some xs0 else none)
set_option maxRecDepth 10000 in
set_option maxHeartbeats 4000000 in
theorem RX12_isFull_b97 {d N nc Ls : Nat} {Xs : Nat → Int32} (hd : 0 ≤ d) {h : iv_H} {s : iv_M} (hR : Rep nc Ls Xs h s)  {ms0 : Int32} {xs0 : Int} (ps0 : ms0.toInt = xs0) {r : Int} {Q : Option Value → iv_H → Prop} (hq : ∀ (z : Int32), z.toInt = r → Q (some (.int z)) h) (e : FX12_isFull_b97 N s  xs0 = some r) : Rn d 233 (some .boolean) 97 [none, none, none] [.int ms0] h Q := by
  have hT := hX12_isFull
  unfold FX12_isFull_b97 at e
  by_cases c_2838 : xs0 = 0 ∨ xs0 = 1
  · rw [if_pos c_2838] at e
    obtain rfl := Option.some.inj e
    exact Rn.ret hT rfl rfl (if_pos (ti_b ps0 c_2838)) (hq ms0 ps0)
  · rw [if_neg c_2838] at e
    cases e
def FX12_isFull_b24 (N : Nat) (s : iv_M) (q0 : Nat) (x1 : Int) (xs0 : Int) (xs1 : Int) : Option (Int) := (if xs1 = xs0 then (if x1 = 1 then ((rd s (q0 + 19) 5 2).bind fun v_2827 => (if v_2827 = 12 then (FX12_isFull_b80 N s 1) else (FX12_isFull_b80 N s 0))) else (if x1 = 2 then (some 0) else (if x1 = 3 then (some 0) else (if x1 = 4 then ((rd s (q0 + 19) 5 3).bind fun v_2832 => (if v_2832 = 6 then (FX12_isFull_b97 N s 1) else (FX12_isFull_b97 N s 0))) else (if x1 = 5 then (if (s q0 38) = 0 ∨ (s q0 38) = 1 then some (s q0 38) else none) else (some 0)))))) else (FX12_isFull_b27 N s))
set_option maxRecDepth 10000 in
set_option maxHeartbeats 4000000 in
theorem RX12_isFull_b24 {d N nc Ls : Nat} {Xs : Nat → Int32} (hd : 0 ≤ d) {h : iv_H} {s : iv_M} (hR : Rep nc Ls Xs h s) {q0 : Nat} (t0 : T12 nc q0) {m1 : Int32} {x1 : Int} (p1 : m1.toInt = x1) {ms0 : Int32} {xs0 : Int} (ps0 : ms0.toInt = xs0) {ms1 : Int32} {xs1 : Int} (ps1 : ms1.toInt = xs1) {r : Int} {Q : Option Value → iv_H → Prop} (hq : ∀ (z : Int32), z.toInt = r → Q (some (.int z)) h) (e : FX12_isFull_b24 N s q0 x1 xs0 xs1 = some r) : Rn d 233 (some .boolean) 24 [some (.ref q0), some (.int m1), none] [.int ms0, .int ms1] h Q := by
  have hT := hX12_isFull
  unfold FX12_isFull_b24 at e
  by_cases c_2825 : xs1 = xs0
  · rw [if_pos c_2825] at e
    refine Rn.bt hT rfl rfl rfl (decide_eq_true ((ti_e ps1 ps0).mpr c_2825)) ?_
    refine Rn.n hT 1 (pc' := 30) (L' := [some (.ref q0), some (.int m1), none]) (st' := [.int m1]) rfl ?_
    by_cases c_2826 : x1 = 1
    · rw [if_pos c_2826] at e
      refine Rn.sw2 hT rfl rfl rfl (if_pos ((ti_e p1 L32_1).mpr c_2826)) ?_
      refine Rn.n hT 1 (pc' := 65) (L' := [some (.ref q0), some (.int m1), none]) (st' := [.ref q0]) rfl ?_
      refine Rn.hp hT rfl rfl (gR_hp (rp_gR hR (T12_o t0) rfl)) ?_
      refine Rn.n hT 1 (pc' := 69) (L' := [some (.ref q0), some (.int m1), none]) (st' := [.int (2 : Int32), .ref (q0 + 19)]) rfl ?_
      obtain ⟨v_2827, e_2827, e⟩ := Option.bind_eq_some_iff.mp e
      obtain ⟨z_2827, g_2827, p_2827⟩ := rp_aI hR (T12_19 t0) (T12_19l t0) L32_2 e_2827
      refine Rn.hp hT rfl rfl (aI_hp g_2827) ?_
      refine Rn.n hT 1 (pc' := 72) (L' := [some (.ref q0), some (.int m1), none]) (st' := [.int (12 : Int32), .int z_2827]) rfl ?_
      by_cases c_2828 : v_2827 = 12
      · rw [if_pos c_2828] at e
        refine Rn.bf hT rfl rfl rfl (decide_eq_false (fun z => z ((ti_e p_2827 L32_12).mpr c_2828))) ?_
        refine Rn.n hT 2 (pc' := 80) (L' := [some (.ref q0), some (.int m1), none]) (st' := [.int (1 : Int32)]) rfl ?_
        exact Rn.weak (ll_n (ll_n (ll_n ll_e))) (RX12_isFull_b80 hd hR L32_1 hq e)
      · rw [if_neg c_2828] at e
        refine Rn.bt hT rfl rfl rfl (decide_eq_true (fun z => c_2828 ((ti_e p_2827 L32_12).mp z))) ?_
        refine Rn.n hT 1 (pc' := 80) (L' := [some (.ref q0), some (.int m1), none]) (st' := [.int (0 : Int32)]) rfl ?_
        exact Rn.weak (ll_n (ll_n (ll_n ll_e))) (RX12_isFull_b80 hd hR L32_0 hq e)
    · rw [if_neg c_2826] at e
      by_cases c_2829 : x1 = 2
      · rw [if_pos c_2829] at e
        refine Rn.sw2 hT rfl rfl rfl ((if_neg (fun z => c_2826 ((ti_e p1 L32_1).mp z))).trans (if_pos ((ti_e p1 L32_2).mpr c_2829))) ?_
        refine Rn.n hT 1 (pc' := 104) (L' := [some (.ref q0), some (.int m1), none]) (st' := [.int (0 : Int32)]) rfl ?_
        obtain rfl := Option.some.inj e
        exact Rn.ret hT rfl rfl rfl (hq (0 : Int32) L32_0)
      · rw [if_neg c_2829] at e
        by_cases c_2830 : x1 = 3
        · rw [if_pos c_2830] at e
          refine Rn.sw2 hT rfl rfl rfl ((if_neg (fun z => c_2826 ((ti_e p1 L32_1).mp z))).trans ((if_neg (fun z => c_2829 ((ti_e p1 L32_2).mp z))).trans (if_pos ((ti_e p1 L32_3).mpr c_2830)))) ?_
          refine Rn.n hT 1 (pc' := 104) (L' := [some (.ref q0), some (.int m1), none]) (st' := [.int (0 : Int32)]) rfl ?_
          obtain rfl := Option.some.inj e
          exact Rn.ret hT rfl rfl rfl (hq (0 : Int32) L32_0)
        · rw [if_neg c_2830] at e
          by_cases c_2831 : x1 = 4
          · rw [if_pos c_2831] at e
            refine Rn.sw2 hT rfl rfl rfl ((if_neg (fun z => c_2826 ((ti_e p1 L32_1).mp z))).trans ((if_neg (fun z => c_2829 ((ti_e p1 L32_2).mp z))).trans ((if_neg (fun z => c_2830 ((ti_e p1 L32_3).mp z))).trans (if_pos ((ti_e p1 L32_4).mpr c_2831))))) ?_
            refine Rn.n hT 1 (pc' := 82) (L' := [some (.ref q0), some (.int m1), none]) (st' := [.ref q0]) rfl ?_
            refine Rn.hp hT rfl rfl (gR_hp (rp_gR hR (T12_o t0) rfl)) ?_
            refine Rn.n hT 1 (pc' := 86) (L' := [some (.ref q0), some (.int m1), none]) (st' := [.int (3 : Int32), .ref (q0 + 19)]) rfl ?_
            obtain ⟨v_2832, e_2832, e⟩ := Option.bind_eq_some_iff.mp e
            obtain ⟨z_2832, g_2832, p_2832⟩ := rp_aI hR (T12_19 t0) (T12_19l t0) L32_3 e_2832
            refine Rn.hp hT rfl rfl (aI_hp g_2832) ?_
            refine Rn.n hT 1 (pc' := 89) (L' := [some (.ref q0), some (.int m1), none]) (st' := [.int (6 : Int32), .int z_2832]) rfl ?_
            by_cases c_2833 : v_2832 = 6
            · rw [if_pos c_2833] at e
              refine Rn.bf hT rfl rfl rfl (decide_eq_false (fun z => z ((ti_e p_2832 L32_6).mpr c_2833))) ?_
              refine Rn.n hT 2 (pc' := 97) (L' := [some (.ref q0), some (.int m1), none]) (st' := [.int (1 : Int32)]) rfl ?_
              exact Rn.weak (ll_n (ll_n (ll_n ll_e))) (RX12_isFull_b97 hd hR L32_1 hq e)
            · rw [if_neg c_2833] at e
              refine Rn.bt hT rfl rfl rfl (decide_eq_true (fun z => c_2833 ((ti_e p_2832 L32_6).mp z))) ?_
              refine Rn.n hT 1 (pc' := 97) (L' := [some (.ref q0), some (.int m1), none]) (st' := [.int (0 : Int32)]) rfl ?_
              exact Rn.weak (ll_n (ll_n (ll_n ll_e))) (RX12_isFull_b97 hd hR L32_0 hq e)
          · rw [if_neg c_2831] at e
            by_cases c_2834 : x1 = 5
            · rw [if_pos c_2834] at e
              refine Rn.sw2 hT rfl rfl rfl ((if_neg (fun z => c_2826 ((ti_e p1 L32_1).mp z))).trans ((if_neg (fun z => c_2829 ((ti_e p1 L32_2).mp z))).trans ((if_neg (fun z => c_2830 ((ti_e p1 L32_3).mp z))).trans ((if_neg (fun z => c_2831 ((ti_e p1 L32_4).mp z))).trans (if_pos ((ti_e p1 L32_5).mpr c_2834)))))) ?_
              refine Rn.n hT 1 (pc' := 99) (L' := [some (.ref q0), some (.int m1), none]) (st' := [.ref q0]) rfl ?_
              obtain ⟨z_2835, g_2835, p_2835⟩ : ∃ z : Int32, gI h 12 38 q0 = some z ∧ z.toInt = s q0 38 := rp_gI (k := 38) hR (T12_o t0) rfl
              refine Rn.hp hT rfl rfl (gI_hp g_2835) ?_
              by_cases c_2836 : (s q0 38) = 0 ∨ (s q0 38) = 1
              · rw [if_pos c_2836] at e
                obtain rfl := Option.some.inj e
                exact Rn.ret hT rfl rfl (if_pos (ti_b p_2835 c_2836)) (hq z_2835 p_2835)
              · rw [if_neg c_2836] at e
                cases e
            · rw [if_neg c_2834] at e
              refine Rn.sw2 hT rfl rfl rfl ((if_neg (fun z => c_2826 ((ti_e p1 L32_1).mp z))).trans ((if_neg (fun z => c_2829 ((ti_e p1 L32_2).mp z))).trans ((if_neg (fun z => c_2830 ((ti_e p1 L32_3).mp z))).trans ((if_neg (fun z => c_2831 ((ti_e p1 L32_4).mp z))).trans ((if_neg (fun z => c_2834 ((ti_e p1 L32_5).mp z))).trans rfl))))) ?_
              refine Rn.n hT 1 (pc' := 104) (L' := [some (.ref q0), some (.int m1), none]) (st' := [.int (0 : Int32)]) rfl ?_
              obtain rfl := Option.some.inj e
              exact Rn.ret hT rfl rfl rfl (hq (0 : Int32) L32_0)
  · rw [if_neg c_2825] at e
    refine Rn.bf hT rfl rfl rfl (decide_eq_false (fun z => c_2825 ((ti_e ps1 ps0).mp z))) ?_
    exact Rn.weak (ll_n (ll_n (ll_n ll_e))) (RX12_isFull_b27 hd hR hq e)
def FX12_isFull_b15 (N : Nat) (s : iv_M) (q0 : Nat) (x1 : Int) (x2 : Int) (xs0 : Int) : Option (Int) := (if x2 = 0 then (FX12_isFull_b24 N s q0 x1 1 xs0) else (FX12_isFull_b24 N s q0 x1 0 xs0))
set_option maxRecDepth 10000 in
set_option maxHeartbeats 4000000 in
theorem RX12_isFull_b15 {d N nc Ls : Nat} {Xs : Nat → Int32} (hd : 0 ≤ d) {h : iv_H} {s : iv_M} (hR : Rep nc Ls Xs h s) {q0 : Nat} (t0 : T12 nc q0) {m1 : Int32} {x1 : Int} (p1 : m1.toInt = x1) {m2 : Int32} {x2 : Int} (p2 : m2.toInt = x2) {ms0 : Int32} {xs0 : Int} (ps0 : ms0.toInt = xs0) {r : Int} {Q : Option Value → iv_H → Prop} (hq : ∀ (z : Int32), z.toInt = r → Q (some (.int z)) h) (e : FX12_isFull_b15 N s q0 x1 x2 xs0 = some r) : Rn d 233 (some .boolean) 15 [some (.ref q0), some (.int m1), some (.int m2)] [.int ms0] h Q := by
  have hT := hX12_isFull
  unfold FX12_isFull_b15 at e
  refine Rn.n hT 1 (pc' := 16) (L' := [some (.ref q0), some (.int m1), some (.int m2)]) (st' := [.int m2, .int ms0]) rfl ?_
  by_cases c_2824 : x2 = 0
  · rw [if_pos c_2824] at e
    refine Rn.bf hT rfl rfl rfl (decide_eq_false (fun z => z ((ti_e p2 L32_0).mpr c_2824))) ?_
    refine Rn.n hT 2 (pc' := 24) (L' := [some (.ref q0), some (.int m1), some (.int m2)]) (st' := [.int (1 : Int32), .int ms0]) rfl ?_
    exact Rn.weak (ll_s (ll_s (ll_n ll_e))) (RX12_isFull_b24 hd hR t0 p1 L32_1 ps0 hq e)
  · rw [if_neg c_2824] at e
    refine Rn.bt hT rfl rfl rfl (decide_eq_true (fun z => c_2824 ((ti_e p2 L32_0).mp z))) ?_
    refine Rn.n hT 1 (pc' := 24) (L' := [some (.ref q0), some (.int m1), some (.int m2)]) (st' := [.int (0 : Int32), .int ms0]) rfl ?_
    exact Rn.weak (ll_s (ll_s (ll_n ll_e))) (RX12_isFull_b24 hd hR t0 p1 L32_0 ps0 hq e)
def FX12_isFull (N : Nat) (s : iv_M) (q0 : Nat) (x1 : Int) (x2 : Int) : Option (Int) := (if x2 = 40 then (FX12_isFull_b27 N s) else (if x1 = 0 then (FX12_isFull_b15 N s q0 x1 x2 1) else (FX12_isFull_b15 N s q0 x1 x2 0)))
set_option maxRecDepth 10000 in
set_option maxHeartbeats 4000000 in
theorem RX12_isFull {d N nc Ls : Nat} {Xs : Nat → Int32} (hd : 1 ≤ d) {h : iv_H} {s : iv_M} (hR : Rep nc Ls Xs h s) {q0 : Nat} (t0 : T12 nc q0) {m1 : Int32} {x1 : Int} (p1 : m1.toInt = x1) {m2 : Int32} {x2 : Int} (p2 : m2.toInt = x2) {r : Int} {Q : Option Value → iv_H → Prop} (e : FX12_isFull N s q0 x1 x2 = some r) (hq : ∀ (z : Int32), z.toInt = r → Q (some (.int z)) h) : Cl d 233 [.ref q0, .int m1, .int m2] h Q := by
  obtain ⟨d, rfl⟩ : ∃ k, d = k + 1 := ⟨d - 1, by omega⟩
  have hd : 0 ≤ d := by omega
  have hT := hX12_isFull
  unfold FX12_isFull at e
  refine Cl.into (by decide) gX12_isFull rfl ?_
  show Rn d 233 (some .boolean) 0 [some (.ref q0), some (.int m1), some (.int m2)] [] h Q
  refine Rn.n hT 2 (pc' := 3) (L' := [some (.ref q0), some (.int m1), some (.int m2)]) (st' := [.int (40 : Int32), .int m2]) rfl ?_
  by_cases c_2822 : x2 = 40
  · rw [if_pos c_2822] at e
    refine Rn.bt hT rfl rfl rfl (decide_eq_true ((ti_e p2 L32_40).mpr c_2822)) ?_
    exact Rn.weak (ll_n (ll_n (ll_n ll_e))) (RX12_isFull_b27 hd hR hq e)
  · rw [if_neg c_2822] at e
    refine Rn.bf hT rfl rfl rfl (decide_eq_false (fun z => c_2822 ((ti_e p2 L32_40).mp z))) ?_
    refine Rn.n hT 1 (pc' := 7) (L' := [some (.ref q0), some (.int m1), some (.int m2)]) (st' := [.int m1]) rfl ?_
    by_cases c_2823 : x1 = 0
    · rw [if_pos c_2823] at e
      refine Rn.bf hT rfl rfl rfl (decide_eq_false (fun z => z ((ti_e p1 L32_0).mpr c_2823))) ?_
      refine Rn.n hT 2 (pc' := 15) (L' := [some (.ref q0), some (.int m1), some (.int m2)]) (st' := [.int (1 : Int32)]) rfl ?_
      exact Rn.weak (ll_s (ll_s (ll_s ll_e))) (RX12_isFull_b15 hd hR t0 p1 p2 L32_1 hq e)
    · rw [if_neg c_2823] at e
      refine Rn.bt hT rfl rfl rfl (decide_eq_true (fun z => c_2823 ((ti_e p1 L32_0).mp z))) ?_
      refine Rn.n hT 1 (pc' := 15) (L' := [some (.ref q0), some (.int m1), some (.int m2)]) (st' := [.int (0 : Int32)]) rfl ?_
      exact Rn.weak (ll_s (ll_s (ll_s ll_e))) (RX12_isFull_b15 hd hR t0 p1 p2 L32_0 hq e)
set_option maxRecDepth 10000 in
theorem hX12_palaceClause : iv_Tb 234 tX12_palaceClause := iv_tb_of (m := mX12_palaceClause) rfl
set_option maxRecDepth 10000 in
theorem gX12_palaceClause : PG.2 234 = some mX12_palaceClause := iv_pi_of (t := tX12_palaceClause) rfl (by decide)
def FX12_palaceClause_l11 (N : Nat) (q0 : Nat) (x1 : Int) (x2 : Int) (kx : iv_M → Int → Option (iv_M)) : Nat → iv_M → Int → Option (iv_M)
  | 0, _, _ => none
  | n + 1, s, x3 => (if 6 ≤ x3 then (kx s x3) else ((FX12_palaceWord N s x3).bind fun v_2845 => ((FX12_stood N s q0 v_2845).bind fun v_2846 => (if v_2846 = 0 then (FX12_palaceClause_l11 N q0 x1 x2 kx n s (w32 (x3 + 1))) else (kx s x3)))))
set_option maxRecDepth 10000 in
set_option maxHeartbeats 4000000 in
theorem RX12_palaceClause_l11 {d N nc Ls : Nat} {Xs : Nat → Int32} (hd : 11 ≤ d) {q0 : Nat} (t0 : T12 nc q0) {m1 : Int32} {x1 : Int} (p1 : m1.toInt = x1) {m2 : Int32} {x2 : Int} (p2 : m2.toInt = x2) {kx : iv_M → Int → Option (iv_M)} {r : iv_M} {Q : Option Value → iv_H → Prop} (hk : ∀ (h : iv_H) (s : iv_M) (hR : Rep nc Ls Xs h s) (m3 : Int32) (x3 : Int) (p3 : m3.toInt = x3), kx s x3 = some r → Rn d 234 none 34 [some (.ref q0), some (.int m1), some (.int m2), some (.int m3)] [] h Q) (hq : ∀ h1, Rep nc Ls Xs h1 r → Q none h1) : ∀ (n : Nat) (h : iv_H) (s : iv_M) (hR : Rep nc Ls Xs h s) (m3 : Int32) (x3 : Int) (p3 : m3.toInt = x3), FX12_palaceClause_l11 N q0 x1 x2 kx n s x3 = some r → Rn d 234 none 11 [some (.ref q0), some (.int m1), some (.int m2), some (.int m3)] [] h Q := by
  have hT := hX12_palaceClause
  intro n
  induction n with
  | zero =>
    intro h s hR m3 x3 p3 e
    rw [FX12_palaceClause_l11] at e
    cases e
  | succ n ih =>
    intro h s hR m3 x3 p3 e
    rw [FX12_palaceClause_l11] at e
    refine Rn.n hT 2 (pc' := 14) (L' := [some (.ref q0), some (.int m1), some (.int m2), some (.int m3)]) (st' := [.int (6 : Int32), .int m3]) rfl ?_
    by_cases c_2844 : 6 ≤ x3
    · rw [if_pos c_2844] at e
      refine Rn.bt hT rfl rfl rfl (decide_eq_true ((ti_le L32_6 p3).mpr c_2844)) ?_
      exact Rn.weak (ll_s (ll_s (ll_s (ll_s ll_e)))) (hk h s hR m3 x3 p3 e)
    · rw [if_neg c_2844] at e
      refine Rn.bf hT rfl rfl rfl (decide_eq_false (fun z => c_2844 ((ti_le L32_6 p3).mp z))) ?_
      refine Rn.n hT 2 (pc' := 19) (L' := [some (.ref q0), some (.int m1), some (.int m2), some (.int m3)]) (st' := [.int m3, .ref q0]) rfl ?_
      obtain ⟨v_2845, e_2845, e⟩ := Option.bind_eq_some_iff.mp e
      refine Rn.call hT rfl rfl rfl (Nat.le_of_ble_eq_true rfl) rfl (RX12_palaceWord (by omega) hR p3 e_2845 (fun t_2845 => ?_))
      show Rn d _ _ 22 [some (.ref q0), some (.int m1), some (.int m2), some (.int m3)] [.ref v_2845, .ref q0] h Q
      obtain ⟨v_2846, e_2846, e⟩ := Option.bind_eq_some_iff.mp e
      refine Rn.call hT rfl rfl rfl (Nat.le_of_ble_eq_true rfl) (rcv_v gX12_stood (by omega) (rp_ck hR (T12_o t0))) (RX12_stood (by omega) hR t0 t_2845 e_2846 (fun z_2846 p_2846 => ?_))
      show Rn d _ _ 25 [some (.ref q0), some (.int m1), some (.int m2), some (.int m3)] [.int z_2846] h Q
      by_cases c_2847 : v_2846 = 0
      · rw [if_pos c_2847] at e
        refine Rn.bf hT rfl rfl rfl (decide_eq_false (fun z => z ((ti_e p_2846 L32_0).mpr c_2847))) ?_
        refine Rn.n hT 2 (pc' := 11) (L' := [some (.ref q0), some (.int m1), some (.int m2), some (.int (m3 + (1 : Int32)))]) (st' := []) rfl ?_
        exact Rn.weak (ll_s (ll_s (ll_s (ll_s ll_e)))) (ih h s hR (m3 + (1 : Int32)) (w32 (x3 + 1)) (ti_add p3 L32_1) e)
      · rw [if_neg c_2847] at e
        refine Rn.bt hT rfl rfl rfl (decide_eq_true (fun z => c_2847 ((ti_e p_2846 L32_0).mp z))) ?_
        exact Rn.weak (ll_s (ll_s (ll_s (ll_s ll_e)))) (hk h s hR m3 x3 p3 e)
def FX12_palaceClause_b34 (N : Nat) (s : iv_M) (q0 : Nat) (x1 : Int) (x2 : Int) (x3 : Int)  : Option (iv_M) := (if x3 = 6 then ((FX12_fails N s q0 0 x2).bind fun s_2861 => some s_2861) else ((FX12_isFull N s q0 x3 x1).bind fun v_2849 => (if v_2849 = 0 then ((FX12_palaceWord N s x3).bind fun v_2852 => ((pt s q0 29 (w32 ((s q0 29) + (tL v_2852)))).bind fun s_2854 => ((FX12_palacePart N s_2854 q0 x3).bind fun s_2857 => some s_2857))) else ((FX12_fails N s q0 4 x2).bind fun s_2859 => some s_2859))))
set_option maxRecDepth 10000 in
set_option maxHeartbeats 4000000 in
theorem RX12_palaceClause_b34 {d N nc Ls : Nat} {Xs : Nat → Int32} (hd : 11 ≤ d) {h : iv_H} {s : iv_M} (hR : Rep nc Ls Xs h s) {q0 : Nat} (t0 : T12 nc q0) {m1 : Int32} {x1 : Int} (p1 : m1.toInt = x1) {m2 : Int32} {x2 : Int} (p2 : m2.toInt = x2) {m3 : Int32} {x3 : Int} (p3 : m3.toInt = x3)  {r : iv_M} {Q : Option Value → iv_H → Prop} (hq : ∀ h1, Rep nc Ls Xs h1 r → Q none h1) (e : FX12_palaceClause_b34 N s q0 x1 x2 x3  = some r) : Rn d 234 none 34 [some (.ref q0), some (.int m1), some (.int m2), some (.int m3)] [] h Q := by
  have hT := hX12_palaceClause
  unfold FX12_palaceClause_b34 at e
  refine Rn.n hT 2 (pc' := 37) (L' := [some (.ref q0), some (.int m1), some (.int m2), some (.int m3)]) (st' := [.int (6 : Int32), .int m3]) rfl ?_
  by_cases c_2848 : x3 = 6
  · rw [if_pos c_2848] at e
    refine Rn.bf hT rfl rfl rfl (decide_eq_false (fun z => z ((ti_e p3 L32_6).mpr c_2848))) ?_
    refine Rn.n hT 3 (pc' := 43) (L' := [some (.ref q0), some (.int m1), some (.int m2), some (.int m3)]) (st' := [.int m2, .int (0 : Int32), .ref q0]) rfl ?_
    obtain ⟨s_2861, e_2860, e⟩ := Option.bind_eq_some_iff.mp e
    refine Rn.call hT rfl rfl rfl (Nat.le_of_ble_eq_true rfl) (rcv_v gX12_fails (by omega) (rp_ck hR (T12_o t0))) (RX12_fails (by omega) hR t0 L32_0 p2 e_2860 (fun h_2861 R_2861 => ?_))
    show Rn d _ _ 46 [some (.ref q0), some (.int m1), some (.int m2), some (.int m3)] [] h_2861 Q
    obtain rfl := Option.some.inj e
    exact Rn.ret hT rfl rfl rfl (hq h_2861 R_2861)
  · rw [if_neg c_2848] at e
    refine Rn.bt hT rfl rfl rfl (decide_eq_true (fun z => c_2848 ((ti_e p3 L32_6).mp z))) ?_
    refine Rn.n hT 3 (pc' := 50) (L' := [some (.ref q0), some (.int m1), some (.int m2), some (.int m3)]) (st' := [.int m1, .int m3, .ref q0]) rfl ?_
    obtain ⟨v_2849, e_2849, e⟩ := Option.bind_eq_some_iff.mp e
    refine Rn.call hT rfl rfl rfl (Nat.le_of_ble_eq_true rfl) (rcv_v gX12_isFull (by omega) (rp_ck hR (T12_o t0))) (RX12_isFull (by omega) hR t0 p3 p1 e_2849 (fun z_2849 p_2849 => ?_))
    show Rn d _ _ 53 [some (.ref q0), some (.int m1), some (.int m2), some (.int m3)] [.int z_2849] h Q
    by_cases c_2850 : v_2849 = 0
    · rw [if_pos c_2850] at e
      refine Rn.bt hT rfl rfl rfl (decide_eq_true ((ti_e p_2849 L32_0).mpr c_2850)) ?_
      refine Rn.n hT 2 (pc' := 65) (L' := [some (.ref q0), some (.int m1), some (.int m2), some (.int m3)]) (st' := [.ref q0, .ref q0]) rfl ?_
      obtain ⟨z_2851, g_2851, p_2851⟩ : ∃ z : Int32, gI h 12 29 q0 = some z ∧ z.toInt = s q0 29 := rp_gI (k := 29) hR (T12_o t0) rfl
      refine Rn.hp hT rfl rfl (gI_hp g_2851) ?_
      refine Rn.n hT 1 (pc' := 69) (L' := [some (.ref q0), some (.int m1), some (.int m2), some (.int m3)]) (st' := [.int m3, .int z_2851, .ref q0]) rfl ?_
      obtain ⟨v_2852, e_2852, e⟩ := Option.bind_eq_some_iff.mp e
      refine Rn.call hT rfl rfl rfl (Nat.le_of_ble_eq_true rfl) rfl (RX12_palaceWord (by omega) hR p3 e_2852 (fun t_2852 => ?_))
      show Rn d _ _ 72 [some (.ref q0), some (.int m1), some (.int m2), some (.int m3)] [.ref v_2852, .int z_2851, .ref q0] h Q
      obtain ⟨z_2853, g_2853, p_2853⟩ := rp_sL hR t_2852
      refine Rn.call hT rfl rfl rfl (Nat.le_of_ble_eq_true rfl) rfl (sL_cl (by omega) g_2853 ?_)
      show Rn d _ _ 75 [some (.ref q0), some (.int m1), some (.int m2), some (.int m3)] [.int z_2853, .int z_2851, .ref q0] h Q
      refine Rn.n hT 1 (pc' := 76) (L' := [some (.ref q0), some (.int m1), some (.int m2), some (.int m3)]) (st' := [.int (z_2851 + z_2853), .ref q0]) rfl ?_
      obtain ⟨s_2854, e_2855, e⟩ := Option.bind_eq_some_iff.mp e
      obtain ⟨h_2854, g_2855, R_2854⟩ := rp_pI (ci := 12) (k := 29) hR (T12_o t0) rfl rfl (ti_add p_2851 p_2853) e_2855
      refine Rn.hp hT rfl rfl (pV_hp rfl g_2855) ?_
      refine Rn.n hT 2 (pc' := 81) (L' := [some (.ref q0), some (.int m1), some (.int m2), some (.int m3)]) (st' := [.int m3, .ref q0]) rfl ?_
      obtain ⟨s_2857, e_2856, e⟩ := Option.bind_eq_some_iff.mp e
      refine Rn.call hT rfl rfl rfl (Nat.le_of_ble_eq_true rfl) (rcv_v gX12_palacePart (by omega) (rp_ck R_2854 (T12_o t0))) (RX12_palacePart (by omega) R_2854 t0 p3 e_2856 (fun h_2857 R_2857 => ?_))
      show Rn d _ _ 84 [some (.ref q0), some (.int m1), some (.int m2), some (.int m3)] [] h_2857 Q
      obtain rfl := Option.some.inj e
      exact Rn.ret hT rfl rfl rfl (hq h_2857 R_2857)
    · rw [if_neg c_2850] at e
      refine Rn.bf hT rfl rfl rfl (decide_eq_false (fun z => c_2850 ((ti_e p_2849 L32_0).mp z))) ?_
      refine Rn.n hT 3 (pc' := 59) (L' := [some (.ref q0), some (.int m1), some (.int m2), some (.int m3)]) (st' := [.int m2, .int (4 : Int32), .ref q0]) rfl ?_
      obtain ⟨s_2859, e_2858, e⟩ := Option.bind_eq_some_iff.mp e
      refine Rn.call hT rfl rfl rfl (Nat.le_of_ble_eq_true rfl) (rcv_v gX12_fails (by omega) (rp_ck hR (T12_o t0))) (RX12_fails (by omega) hR t0 L32_4 p2 e_2858 (fun h_2859 R_2859 => ?_))
      show Rn d _ _ 62 [some (.ref q0), some (.int m1), some (.int m2), some (.int m3)] [] h_2859 Q
      obtain rfl := Option.some.inj e
      exact Rn.ret hT rfl rfl rfl (hq h_2859 R_2859)
def FX12_palaceClause (N : Nat) (s : iv_M) (q0 : Nat) (x1 : Int) : Option (iv_M) := ((FX12_blanks N s q0).bind fun s_2840 => (FX12_palaceClause_l11 N q0 x1 (s_2840 q0 29) (fun (s_2842 : iv_M) (x2843_3 : Int) => (FX12_palaceClause_b34 N s_2842 q0 x1 (s_2840 q0 29) x2843_3)) N s_2840 0))
set_option maxRecDepth 10000 in
set_option maxHeartbeats 4000000 in
theorem RX12_palaceClause {d N nc Ls : Nat} {Xs : Nat → Int32} (hd : 12 ≤ d) {h : iv_H} {s : iv_M} (hR : Rep nc Ls Xs h s) {q0 : Nat} (t0 : T12 nc q0) {m1 : Int32} {x1 : Int} (p1 : m1.toInt = x1) {r : iv_M} {Q : Option Value → iv_H → Prop} (e : FX12_palaceClause N s q0 x1 = some r) (hq : ∀ h1, Rep nc Ls Xs h1 r → Q none h1) : Cl d 234 [.ref q0, .int m1] h Q := by
  obtain ⟨d, rfl⟩ : ∃ k, d = k + 1 := ⟨d - 1, by omega⟩
  have hd : 11 ≤ d := by omega
  have hT := hX12_palaceClause
  unfold FX12_palaceClause at e
  refine Cl.into (by decide) gX12_palaceClause rfl ?_
  show Rn d 234 none 0 [some (.ref q0), some (.int m1), none, none] [] h Q
  refine Rn.n hT 1 (pc' := 1) (L' := [some (.ref q0), some (.int m1), none, none]) (st' := [.ref q0]) rfl ?_
  obtain ⟨s_2840, e_2839, e⟩ := Option.bind_eq_some_iff.mp e
  refine Rn.call hT rfl rfl rfl (Nat.le_of_ble_eq_true rfl) (rcv_v gX12_blanks (by omega) (rp_ck hR (T12_o t0))) (RX12_blanks (by omega) hR t0 e_2839 (fun h_2840 R_2840 => ?_))
  show Rn d _ _ 4 [some (.ref q0), some (.int m1), none, none] [] h_2840 Q
  refine Rn.n hT 1 (pc' := 5) (L' := [some (.ref q0), some (.int m1), none, none]) (st' := [.ref q0]) rfl ?_
  obtain ⟨z_2841, g_2841, p_2841⟩ : ∃ z : Int32, gI h_2840 12 29 q0 = some z ∧ z.toInt = s_2840 q0 29 := rp_gI (k := 29) R_2840 (T12_o t0) rfl
  refine Rn.hp hT rfl rfl (gI_hp g_2841) ?_
  refine Rn.n hT 3 (pc' := 11) (L' := [some (.ref q0), some (.int m1), some (.int z_2841), some (.int (0 : Int32))]) (st' := []) rfl ?_
  refine Rn.weak (ll_s (ll_s (ll_s (ll_s ll_e)))) (RX12_palaceClause_l11 hd t0 p1 p_2841 (fun h_2842 s_2842 R_2842 m2843_3 x2843_3 p2843_3 e => ?_) hq N h_2840 s_2840 R_2840 (0 : Int32) 0 L32_0 e)
  try dsimp only at e
  exact Rn.weak (ll_s (ll_s (ll_s (ll_s ll_e)))) (RX12_palaceClause_b34 hd R_2842 t0 p1 p_2841 p2843_3 hq e)
set_option maxRecDepth 10000 in
theorem hX12_copies : iv_Tb 235 tX12_copies := iv_tb_of (m := mX12_copies) rfl
set_option maxRecDepth 10000 in
theorem gX12_copies : PG.2 235 = some mX12_copies := iv_pi_of (t := tX12_copies) rfl (by decide)
def FX12_copies_l2 (N : Nat) (q0 : Nat) (q1 : Nat) (kx : iv_M → Option (iv_M)) : Nat → iv_M → Int → Option (iv_M)
  | 0, _, _ => none
  | n + 1, s, x2 => (if ((sh q0).2 : Int) ≤ x2 then (kx s) else ((rd s q0 ((sh q0).2 : Int) x2).bind fun v_2866 => ((wr s q1 ((sh q1).2 : Int) x2 v_2866).bind fun s_2867 => (FX12_copies_l2 N q0 q1 kx n s_2867 (w32 (x2 + 1))))))
set_option maxRecDepth 10000 in
set_option maxHeartbeats 4000000 in
theorem RX12_copies_l2 {d N nc Ls : Nat} {Xs : Nat → Int32} (hd : 0 ≤ d) {q0 : Nat} (t0 : TA 0 nc q0) {q1 : Nat} (t1 : TA 0 nc q1) {kx : iv_M → Option (iv_M)} {r : iv_M} {Q : Option Value → iv_H → Prop} (hk : ∀ (h : iv_H) (s : iv_M) (hR : Rep nc Ls Xs h s), kx s = some r → Rn d 235 none 20 [none, none, none] [] h Q) (hq : ∀ h1, Rep nc Ls Xs h1 r → Q none h1) : ∀ (n : Nat) (h : iv_H) (s : iv_M) (hR : Rep nc Ls Xs h s) (m2 : Int32) (x2 : Int) (p2 : m2.toInt = x2), FX12_copies_l2 N q0 q1 kx n s x2 = some r → Rn d 235 none 2 [some (.ref q0), some (.ref q1), some (.int m2)] [] h Q := by
  have hT := hX12_copies
  intro n
  induction n with
  | zero =>
    intro h s hR m2 x2 p2 e
    rw [FX12_copies_l2] at e
    cases e
  | succ n ih =>
    intro h s hR m2 x2 p2 e
    rw [FX12_copies_l2] at e
    refine Rn.n hT 2 (pc' := 4) (L' := [some (.ref q0), some (.ref q1), some (.int m2)]) (st' := [.ref q0, .int m2]) rfl ?_
    obtain ⟨z_2864, g_2864, p_2864⟩ : ∃ z : Int32, aL h q0 = some z ∧ z.toInt = ((sh q0).2 : Int) := rp_aL hR t0 (Or.inl rfl) rfl
    refine Rn.hp hT rfl rfl (aL_hp g_2864) ?_
    by_cases c_2865 : ((sh q0).2 : Int) ≤ x2
    · rw [if_pos c_2865] at e
      refine Rn.bt hT rfl rfl rfl (decide_eq_true ((ti_le p_2864 p2).mpr c_2865)) ?_
      exact Rn.weak (ll_n (ll_n (ll_n ll_e))) (hk h s hR e)
    · rw [if_neg c_2865] at e
      refine Rn.bf hT rfl rfl rfl (decide_eq_false (fun z => c_2865 ((ti_le p_2864 p2).mp z))) ?_
      refine Rn.n hT 4 (pc' := 12) (L' := [some (.ref q0), some (.ref q1), some (.int m2)]) (st' := [.int m2, .ref q0, .int m2, .ref q1]) rfl ?_
      obtain ⟨v_2866, e_2866, e⟩ := Option.bind_eq_some_iff.mp e
      obtain ⟨z_2866, g_2866, p_2866⟩ := rp_aI hR t0 rfl p2 e_2866
      refine Rn.hp hT rfl rfl (aI_hp g_2866) ?_
      obtain ⟨s_2867, e_2868, e⟩ := Option.bind_eq_some_iff.mp e
      obtain ⟨h_2867, g_2868, R_2867⟩ := rp_wI hR t1 rfl p2 p_2866 e_2868
      refine Rn.hp hT rfl rfl (wI_hp g_2868) ?_
      refine Rn.n hT 2 (pc' := 2) (L' := [some (.ref q0), some (.ref q1), some (.int (m2 + (1 : Int32)))]) (st' := []) rfl ?_
      exact Rn.weak (ll_s (ll_s (ll_s ll_e))) (ih h_2867 s_2867 R_2867 (m2 + (1 : Int32)) (w32 (x2 + 1)) (ti_add p2 L32_1) e)
def FX12_copies (N : Nat) (s : iv_M) (q0 : Nat) (q1 : Nat) : Option (iv_M) := (FX12_copies_l2 N q0 q1 (fun (s_2862 : iv_M) => some s_2862) N s 0)
set_option maxRecDepth 10000 in
set_option maxHeartbeats 4000000 in
theorem RX12_copies {d N nc Ls : Nat} {Xs : Nat → Int32} (hd : 1 ≤ d) {h : iv_H} {s : iv_M} (hR : Rep nc Ls Xs h s) {q0 : Nat} (t0 : TA 0 nc q0) {q1 : Nat} (t1 : TA 0 nc q1) {r : iv_M} {Q : Option Value → iv_H → Prop} (e : FX12_copies N s q0 q1 = some r) (hq : ∀ h1, Rep nc Ls Xs h1 r → Q none h1) : Cl d 235 [.ref q0, .ref q1] h Q := by
  obtain ⟨d, rfl⟩ : ∃ k, d = k + 1 := ⟨d - 1, by omega⟩
  have hd : 0 ≤ d := by omega
  have hT := hX12_copies
  unfold FX12_copies at e
  refine Cl.into (by decide) gX12_copies rfl ?_
  show Rn d 235 none 0 [some (.ref q0), some (.ref q1), none] [] h Q
  refine Rn.n hT 2 (pc' := 2) (L' := [some (.ref q0), some (.ref q1), some (.int (0 : Int32))]) (st' := []) rfl ?_
  refine Rn.weak (ll_s (ll_s (ll_s ll_e))) (RX12_copies_l2 hd t0 t1 (fun h_2862 s_2862 R_2862 e => ?_) hq N h s hR (0 : Int32) 0 L32_0 e)
  try dsimp only at e
  obtain rfl := Option.some.inj e
  exact Rn.ret hT rfl rfl rfl (hq h_2862 R_2862)
set_option maxRecDepth 10000 in
theorem hX12_goesOn : iv_Tb 236 tX12_goesOn := iv_tb_of (m := mX12_goesOn) rfl
set_option maxRecDepth 10000 in
theorem gX12_goesOn : PG.2 236 = some mX12_goesOn := iv_pi_of (t := tX12_goesOn) rfl (by decide)
def FX12_goesOn_b63 (N : Nat) (s : iv_M) (q0 : Nat) (xs0 : Int) : Option (Int × iv_M) := ((pt s q0 29 (w32 ((s q0 29) + 1))).bind fun s_2887 => (if xs0 = 0 ∨ xs0 = 1 then some (xs0, s_2887) else none))
set_option maxRecDepth 10000 in
set_option maxHeartbeats 4000000 in
theorem RX12_goesOn_b63 {d N nc Ls : Nat} {Xs : Nat → Int32} (hd : 2 ≤ d) {h : iv_H} {s : iv_M} (hR : Rep nc Ls Xs h s) {q0 : Nat} (t0 : T12 nc q0) {ms0 : Int32} {xs0 : Int} (ps0 : ms0.toInt = xs0) {r : Int × iv_M} {Q : Option Value → iv_H → Prop} (hq : ∀ (z : Int32) (h1 : iv_H), z.toInt = r.1 → Rep nc Ls Xs h1 r.2 → Q (some (.int z)) h1) (e : FX12_goesOn_b63 N s q0 xs0 = some r) : Rn d 236 (some .boolean) 63 [some (.ref q0), none] [.int ms0] h Q := by
  have hT := hX12_goesOn
  unfold FX12_goesOn_b63 at e
  refine Rn.n hT 3 (pc' := 66) (L' := [some (.ref q0), some (.int ms0)]) (st' := [.ref q0, .ref q0]) rfl ?_
  obtain ⟨z_2886, g_2886, p_2886⟩ : ∃ z : Int32, gI h 12 29 q0 = some z ∧ z.toInt = s q0 29 := rp_gI (k := 29) hR (T12_o t0) rfl
  refine Rn.hp hT rfl rfl (gI_hp g_2886) ?_
  refine Rn.n hT 2 (pc' := 71) (L' := [some (.ref q0), some (.int ms0)]) (st' := [.int (z_2886 + (1 : Int32)), .ref q0]) rfl ?_
  obtain ⟨s_2887, e_2888, e⟩ := Option.bind_eq_some_iff.mp e
  obtain ⟨h_2887, g_2888, R_2887⟩ := rp_pI (ci := 12) (k := 29) hR (T12_o t0) rfl rfl (ti_add p_2886 L32_1) e_2888
  refine Rn.hp hT rfl rfl (pV_hp rfl g_2888) ?_
  refine Rn.n hT 1 (pc' := 75) (L' := [some (.ref q0), some (.int ms0)]) (st' := [.int ms0]) rfl ?_
  by_cases c_2889 : xs0 = 0 ∨ xs0 = 1
  · rw [if_pos c_2889] at e
    obtain rfl := Option.some.inj e
    exact Rn.ret hT rfl rfl (if_pos (ti_b ps0 c_2889)) (hq ms0 h_2887 ps0 R_2887)
  · rw [if_neg c_2889] at e
    cases e
def FX12_goesOn_b62 (N : Nat) (s : iv_M) (q0 : Nat)  : Option (Int × iv_M) := (FX12_goesOn_b63 N s q0 0)
set_option maxRecDepth 10000 in
set_option maxHeartbeats 4000000 in
theorem RX12_goesOn_b62 {d N nc Ls : Nat} {Xs : Nat → Int32} (hd : 2 ≤ d) {h : iv_H} {s : iv_M} (hR : Rep nc Ls Xs h s) {q0 : Nat} (t0 : T12 nc q0)  {r : Int × iv_M} {Q : Option Value → iv_H → Prop} (hq : ∀ (z : Int32) (h1 : iv_H), z.toInt = r.1 → Rep nc Ls Xs h1 r.2 → Q (some (.int z)) h1) (e : FX12_goesOn_b62 N s q0  = some r) : Rn d 236 (some .boolean) 62 [some (.ref q0), none] [] h Q := by
  have hT := hX12_goesOn
  unfold FX12_goesOn_b62 at e
  refine Rn.n hT 1 (pc' := 63) (L' := [some (.ref q0), none]) (st' := [.int (0 : Int32)]) rfl ?_
  exact Rn.weak (ll_s (ll_n ll_e)) (RX12_goesOn_b63 hd hR t0 L32_0 hq e)
def FX12_goesOn_b40 (N : Nat) (s : iv_M) (q0 : Nat)  : Option (Int × iv_M) := (if (s q0 30) = 0 then (if (s q0 28) ≤ (s q0 29) then (FX12_goesOn_b62 N s q0) else (FX12_goesOn_b63 N s q0 1)) else (FX12_goesOn_b62 N s q0))
set_option maxRecDepth 10000 in
set_option maxHeartbeats 4000000 in
theorem RX12_goesOn_b40 {d N nc Ls : Nat} {Xs : Nat → Int32} (hd : 2 ≤ d) {h : iv_H} {s : iv_M} (hR : Rep nc Ls Xs h s) {q0 : Nat} (t0 : T12 nc q0)  {r : Int × iv_M} {Q : Option Value → iv_H → Prop} (hq : ∀ (z : Int32) (h1 : iv_H), z.toInt = r.1 → Rep nc Ls Xs h1 r.2 → Q (some (.int z)) h1) (e : FX12_goesOn_b40 N s q0  = some r) : Rn d 236 (some .boolean) 40 [some (.ref q0), none] [] h Q := by
  have hT := hX12_goesOn
  unfold FX12_goesOn_b40 at e
  refine Rn.n hT 1 (pc' := 41) (L' := [some (.ref q0), none]) (st' := [.ref q0]) rfl ?_
  obtain ⟨z_2881, g_2881, p_2881⟩ : ∃ z : Int32, gI h 12 30 q0 = some z ∧ z.toInt = s q0 30 := rp_gI (k := 30) hR (T12_o t0) rfl
  refine Rn.hp hT rfl rfl (gI_hp g_2881) ?_
  by_cases c_2882 : (s q0 30) = 0
  · rw [if_pos c_2882] at e
    refine Rn.bf hT rfl rfl rfl (decide_eq_false (fun z => z ((ti_e p_2881 L32_0).mpr c_2882))) ?_
    refine Rn.n hT 1 (pc' := 48) (L' := [some (.ref q0), none]) (st' := [.ref q0]) rfl ?_
    obtain ⟨z_2883, g_2883, p_2883⟩ : ∃ z : Int32, gI h 12 29 q0 = some z ∧ z.toInt = s q0 29 := rp_gI (k := 29) hR (T12_o t0) rfl
    refine Rn.hp hT rfl rfl (gI_hp g_2883) ?_
    refine Rn.n hT 1 (pc' := 52) (L' := [some (.ref q0), none]) (st' := [.ref q0, .int z_2883]) rfl ?_
    obtain ⟨z_2884, g_2884, p_2884⟩ : ∃ z : Int32, gI h 12 28 q0 = some z ∧ z.toInt = s q0 28 := rp_gI (k := 28) hR (T12_o t0) rfl
    refine Rn.hp hT rfl rfl (gI_hp g_2884) ?_
    by_cases c_2885 : (s q0 28) ≤ (s q0 29)
    · rw [if_pos c_2885] at e
      refine Rn.bt hT rfl rfl rfl (decide_eq_true ((ti_le p_2884 p_2883).mpr c_2885)) ?_
      exact Rn.weak (ll_s (ll_n ll_e)) (RX12_goesOn_b62 hd hR t0 hq e)
    · rw [if_neg c_2885] at e
      refine Rn.bf hT rfl rfl rfl (decide_eq_false (fun z => c_2885 ((ti_le p_2884 p_2883).mp z))) ?_
      refine Rn.n hT 2 (pc' := 63) (L' := [some (.ref q0), none]) (st' := [.int (1 : Int32)]) rfl ?_
      exact Rn.weak (ll_s (ll_n ll_e)) (RX12_goesOn_b63 hd hR t0 L32_1 hq e)
  · rw [if_neg c_2882] at e
    refine Rn.bt hT rfl rfl rfl (decide_eq_true (fun z => c_2882 ((ti_e p_2881 L32_0).mp z))) ?_
    exact Rn.weak (ll_s (ll_n ll_e)) (RX12_goesOn_b62 hd hR t0 hq e)
def FX12_goesOn (N : Nat) (s : iv_M) (q0 : Nat) : Option (Int × iv_M) := ((FX12_blanks N s q0).bind fun s_2870 => (if (s_2870 q0 30) = 0 then (if (s_2870 q0 28) ≤ (s_2870 q0 29) then (FX12_goesOn_b40 N s_2870 q0) else ((FX12_sign N s_2870 q0).bind fun v_2876 => (if v_2876 = 59 then (FX12_goesOn_b40 N s_2870 q0) else ((FX12_fails N s_2870 q0 0 (s_2870 q0 29)).bind fun s_2880 => (FX12_goesOn_b40 N s_2880 q0))))) else (FX12_goesOn_b40 N s_2870 q0)))
set_option maxRecDepth 10000 in
set_option maxHeartbeats 4000000 in
theorem RX12_goesOn {d N nc Ls : Nat} {Xs : Nat → Int32} (hd : 3 ≤ d) {h : iv_H} {s : iv_M} (hR : Rep nc Ls Xs h s) {q0 : Nat} (t0 : T12 nc q0) {r : Int × iv_M} {Q : Option Value → iv_H → Prop} (e : FX12_goesOn N s q0 = some r) (hq : ∀ (z : Int32) (h1 : iv_H), z.toInt = r.1 → Rep nc Ls Xs h1 r.2 → Q (some (.int z)) h1) : Cl d 236 [.ref q0] h Q := by
  obtain ⟨d, rfl⟩ : ∃ k, d = k + 1 := ⟨d - 1, by omega⟩
  have hd : 2 ≤ d := by omega
  have hT := hX12_goesOn
  unfold FX12_goesOn at e
  refine Cl.into (by decide) gX12_goesOn rfl ?_
  show Rn d 236 (some .boolean) 0 [some (.ref q0), none] [] h Q
  refine Rn.n hT 1 (pc' := 1) (L' := [some (.ref q0), none]) (st' := [.ref q0]) rfl ?_
  obtain ⟨s_2870, e_2869, e⟩ := Option.bind_eq_some_iff.mp e
  refine Rn.call hT rfl rfl rfl (Nat.le_of_ble_eq_true rfl) (rcv_v gX12_blanks (by omega) (rp_ck hR (T12_o t0))) (RX12_blanks (by omega) hR t0 e_2869 (fun h_2870 R_2870 => ?_))
  show Rn d _ _ 4 [some (.ref q0), none] [] h_2870 Q
  refine Rn.n hT 1 (pc' := 5) (L' := [some (.ref q0), none]) (st' := [.ref q0]) rfl ?_
  obtain ⟨z_2871, g_2871, p_2871⟩ : ∃ z : Int32, gI h_2870 12 30 q0 = some z ∧ z.toInt = s_2870 q0 30 := rp_gI (k := 30) R_2870 (T12_o t0) rfl
  refine Rn.hp hT rfl rfl (gI_hp g_2871) ?_
  by_cases c_2872 : (s_2870 q0 30) = 0
  · rw [if_pos c_2872] at e
    refine Rn.bf hT rfl rfl rfl (decide_eq_false (fun z => z ((ti_e p_2871 L32_0).mpr c_2872))) ?_
    refine Rn.n hT 1 (pc' := 12) (L' := [some (.ref q0), none]) (st' := [.ref q0]) rfl ?_
    obtain ⟨z_2873, g_2873, p_2873⟩ : ∃ z : Int32, gI h_2870 12 29 q0 = some z ∧ z.toInt = s_2870 q0 29 := rp_gI (k := 29) R_2870 (T12_o t0) rfl
    refine Rn.hp hT rfl rfl (gI_hp g_2873) ?_
    refine Rn.n hT 1 (pc' := 16) (L' := [some (.ref q0), none]) (st' := [.ref q0, .int z_2873]) rfl ?_
    obtain ⟨z_2874, g_2874, p_2874⟩ : ∃ z : Int32, gI h_2870 12 28 q0 = some z ∧ z.toInt = s_2870 q0 28 := rp_gI (k := 28) R_2870 (T12_o t0) rfl
    refine Rn.hp hT rfl rfl (gI_hp g_2874) ?_
    by_cases c_2875 : (s_2870 q0 28) ≤ (s_2870 q0 29)
    · rw [if_pos c_2875] at e
      refine Rn.bt hT rfl rfl rfl (decide_eq_true ((ti_le p_2874 p_2873).mpr c_2875)) ?_
      exact Rn.weak (ll_s (ll_n ll_e)) (RX12_goesOn_b40 hd R_2870 t0 hq e)
    · rw [if_neg c_2875] at e
      refine Rn.bf hT rfl rfl rfl (decide_eq_false (fun z => c_2875 ((ti_le p_2874 p_2873).mp z))) ?_
      refine Rn.n hT 1 (pc' := 23) (L' := [some (.ref q0), none]) (st' := [.ref q0]) rfl ?_
      obtain ⟨v_2876, e_2876, e⟩ := Option.bind_eq_some_iff.mp e
      refine Rn.call hT rfl rfl rfl (Nat.le_of_ble_eq_true rfl) (rcv_v gX12_sign (by omega) (rp_ck R_2870 (T12_o t0))) (RX12_sign (by omega) R_2870 t0 e_2876 (fun z_2876 p_2876 => ?_))
      show Rn d _ _ 26 [some (.ref q0), none] [.int z_2876] h_2870 Q
      refine Rn.n hT 1 (pc' := 28) (L' := [some (.ref q0), none]) (st' := [.int (59 : Int32), .int z_2876]) rfl ?_
      by_cases c_2877 : v_2876 = 59
      · rw [if_pos c_2877] at e
        refine Rn.bt hT rfl rfl rfl (decide_eq_true ((ti_e p_2876 L32_59).mpr c_2877)) ?_
        exact Rn.weak (ll_s (ll_n ll_e)) (RX12_goesOn_b40 hd R_2870 t0 hq e)
      · rw [if_neg c_2877] at e
        refine Rn.bf hT rfl rfl rfl (decide_eq_false (fun z => c_2877 ((ti_e p_2876 L32_59).mp z))) ?_
        refine Rn.n hT 3 (pc' := 34) (L' := [some (.ref q0), none]) (st' := [.ref q0, .int (0 : Int32), .ref q0]) rfl ?_
        obtain ⟨z_2878, g_2878, p_2878⟩ : ∃ z : Int32, gI h_2870 12 29 q0 = some z ∧ z.toInt = s_2870 q0 29 := rp_gI (k := 29) R_2870 (T12_o t0) rfl
        refine Rn.hp hT rfl rfl (gI_hp g_2878) ?_
        obtain ⟨s_2880, e_2879, e⟩ := Option.bind_eq_some_iff.mp e
        refine Rn.call hT rfl rfl rfl (Nat.le_of_ble_eq_true rfl) (rcv_v gX12_fails (by omega) (rp_ck R_2870 (T12_o t0))) (RX12_fails (by omega) R_2870 t0 L32_0 p_2878 e_2879 (fun h_2880 R_2880 => ?_))
        show Rn d _ _ 40 [some (.ref q0), none] [] h_2880 Q
        exact Rn.weak (ll_s (ll_n ll_e)) (RX12_goesOn_b40 hd R_2880 t0 hq e)
  · rw [if_neg c_2872] at e
    refine Rn.bt hT rfl rfl rfl (decide_eq_true (fun z => c_2872 ((ti_e p_2871 L32_0).mp z))) ?_
    exact Rn.weak (ll_s (ll_n ll_e)) (RX12_goesOn_b40 hd R_2870 t0 hq e)
set_option maxRecDepth 10000 in
theorem hX12_starts : iv_Tb 237 tX12_starts := iv_tb_of (m := mX12_starts) rfl
set_option maxRecDepth 10000 in
theorem gX12_starts : PG.2 237 = some mX12_starts := iv_pi_of (t := tX12_starts) rfl (by decide)
def FX12_starts (N : Nat) (s : iv_M) (q0 : Nat) : Option (iv_M) := ((pt s q0 29 0).bind fun s_2890 => ((pt s_2890 q0 30 0).bind fun s_2892 => ((pt s_2892 q0 33 0).bind fun s_2894 => ((pt s_2894 q0 34 0).bind fun s_2896 => ((pt s_2896 q0 35 0).bind fun s_2898 => some s_2898)))))
set_option maxRecDepth 10000 in
set_option maxHeartbeats 4000000 in
theorem RX12_starts {d N nc Ls : Nat} {Xs : Nat → Int32} (hd : 1 ≤ d) {h : iv_H} {s : iv_M} (hR : Rep nc Ls Xs h s) {q0 : Nat} (t0 : T12 nc q0) {r : iv_M} {Q : Option Value → iv_H → Prop} (e : FX12_starts N s q0 = some r) (hq : ∀ h1, Rep nc Ls Xs h1 r → Q none h1) : Cl d 237 [.ref q0] h Q := by
  obtain ⟨d, rfl⟩ : ∃ k, d = k + 1 := ⟨d - 1, by omega⟩
  have hd : 0 ≤ d := by omega
  have hT := hX12_starts
  unfold FX12_starts at e
  refine Cl.into (by decide) gX12_starts rfl ?_
  show Rn d 237 none 0 [some (.ref q0)] [] h Q
  refine Rn.n hT 2 (pc' := 2) (L' := [some (.ref q0)]) (st' := [.int (0 : Int32), .ref q0]) rfl ?_
  obtain ⟨s_2890, e_2891, e⟩ := Option.bind_eq_some_iff.mp e
  obtain ⟨h_2890, g_2891, R_2890⟩ := rp_pI (ci := 12) (k := 29) hR (T12_o t0) rfl rfl L32_0 e_2891
  refine Rn.hp hT rfl rfl (pV_hp rfl g_2891) ?_
  refine Rn.n hT 2 (pc' := 7) (L' := [some (.ref q0)]) (st' := [.int (0 : Int32), .ref q0]) rfl ?_
  obtain ⟨s_2892, e_2893, e⟩ := Option.bind_eq_some_iff.mp e
  obtain ⟨h_2892, g_2893, R_2892⟩ := rp_pI (ci := 12) (k := 30) R_2890 (T12_o t0) rfl rfl L32_0 e_2893
  refine Rn.hp hT rfl rfl (pV_hp rfl g_2893) ?_
  refine Rn.n hT 2 (pc' := 12) (L' := [some (.ref q0)]) (st' := [.int (0 : Int32), .ref q0]) rfl ?_
  obtain ⟨s_2894, e_2895, e⟩ := Option.bind_eq_some_iff.mp e
  obtain ⟨h_2894, g_2895, R_2894⟩ := rp_pI (ci := 12) (k := 33) R_2892 (T12_o t0) rfl rfl L32_0 e_2895
  refine Rn.hp hT rfl rfl (pV_hp rfl g_2895) ?_
  refine Rn.n hT 2 (pc' := 17) (L' := [some (.ref q0)]) (st' := [.int (0 : Int32), .ref q0]) rfl ?_
  obtain ⟨s_2896, e_2897, e⟩ := Option.bind_eq_some_iff.mp e
  obtain ⟨h_2896, g_2897, R_2896⟩ := rp_pI (ci := 12) (k := 34) R_2894 (T12_o t0) rfl rfl L32_0 e_2897
  refine Rn.hp hT rfl rfl (pV_hp rfl g_2897) ?_
  refine Rn.n hT 2 (pc' := 22) (L' := [some (.ref q0)]) (st' := [.int (0 : Int32), .ref q0]) rfl ?_
  obtain ⟨s_2898, e_2899, e⟩ := Option.bind_eq_some_iff.mp e
  obtain ⟨h_2898, g_2899, R_2898⟩ := rp_pI (ci := 12) (k := 35) R_2896 (T12_o t0) rfl rfl L32_0 e_2899
  refine Rn.hp hT rfl rfl (pV_hp rfl g_2899) ?_
  obtain rfl := Option.some.inj e
  exact Rn.ret hT rfl rfl rfl (hq h_2898 R_2898)
