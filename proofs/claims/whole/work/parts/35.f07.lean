-- FLAT MIRRORS, 7 (written by wip/whole/mir2.py)
set_option maxRecDepth 10000 in
theorem hX12_stood : iv_Tb 215 tX12_stood := iv_tb_of (m := mX12_stood) rfl
set_option maxRecDepth 10000 in
theorem gX12_stood : PG.2 215 = some mX12_stood := iv_pi_of (t := tX12_stood) rfl (by decide)
def FX12_stood_l5 (N : Nat) (s : iv_M) (q0 : Nat) (q1 : Nat) (kx : Int → Option (Int)) : Nat → Int → Option (Int)
  | 0, _ => none
  | n + 1, x2 => (if (s q0 28) ≤ x2 then (kx x2) else ((rd s (q0 + 26) 400 x2).bind fun v_2433 => (if v_2433 < 97 then (kx x2) else ((rd s (q0 + 26) 400 x2).bind fun v_2435 => (if 122 < v_2435 then (kx x2) else (FX12_stood_l5 N s q0 q1 kx n (w32 (x2 + 1))))))))
set_option maxRecDepth 10000 in
set_option maxHeartbeats 4000000 in
theorem RX12_stood_l5 {d N nc Ls : Nat} {Xs : Nat → Int32} (hd : 10 ≤ d) {h : iv_H} {s : iv_M} (hR : Rep nc Ls Xs h s) {q0 : Nat} (t0 : T12 nc q0) {q1 : Nat} (t1 : TS q1) {kx : Int → Option (Int)} {r : Int} {Q : Option Value → iv_H → Prop} (hk : ∀ (m2 : Int32) (x2 : Int) (p2 : m2.toInt = x2), kx x2 = some r → Rn d 215 (some .boolean) 41 [some (.ref q0), some (.ref q1), some (.int m2), none, none] [] h Q) (hq : ∀ (z : Int32), z.toInt = r → Q (some (.int z)) h) : ∀ (n : Nat) (m2 : Int32) (x2 : Int) (p2 : m2.toInt = x2), FX12_stood_l5 N s q0 q1 kx n x2 = some r → Rn d 215 (some .boolean) 5 [some (.ref q0), some (.ref q1), some (.int m2), none, none] [] h Q := by
  have hT := hX12_stood
  intro n
  induction n with
  | zero =>
    intro m2 x2 p2 e
    rw [FX12_stood_l5] at e
    cases e
  | succ n ih =>
    intro m2 x2 p2 e
    rw [FX12_stood_l5] at e
    refine Rn.n hT 2 (pc' := 7) (L' := [some (.ref q0), some (.ref q1), some (.int m2), none, none]) (st' := [.ref q0, .int m2]) rfl ?_
    obtain ⟨z_2431, g_2431, p_2431⟩ : ∃ z : Int32, gI h 12 28 q0 = some z ∧ z.toInt = s q0 28 := rp_gI (k := 28) hR (T12_o t0) rfl
    refine Rn.hp hT rfl rfl (gI_hp g_2431) ?_
    by_cases c_2432 : (s q0 28) ≤ x2
    · rw [if_pos c_2432] at e
      refine Rn.bt hT rfl rfl rfl (decide_eq_true ((ti_le p_2431 p2).mpr c_2432)) ?_
      exact Rn.weak (ll_s (ll_s (ll_s (ll_n (ll_n ll_e))))) (hk m2 x2 p2 e)
    · rw [if_neg c_2432] at e
      refine Rn.bf hT rfl rfl rfl (decide_eq_false (fun z => c_2432 ((ti_le p_2431 p2).mp z))) ?_
      refine Rn.n hT 1 (pc' := 14) (L' := [some (.ref q0), some (.ref q1), some (.int m2), none, none]) (st' := [.ref q0]) rfl ?_
      refine Rn.hp hT rfl rfl (gR_hp (rp_gR hR (T12_o t0) rfl)) ?_
      refine Rn.n hT 1 (pc' := 18) (L' := [some (.ref q0), some (.ref q1), some (.int m2), none, none]) (st' := [.int m2, .ref (q0 + 26)]) rfl ?_
      obtain ⟨v_2433, e_2433, e⟩ := Option.bind_eq_some_iff.mp e
      obtain ⟨z_2433, g_2433, p_2433⟩ := rp_aB hR (T12_39 t0) (Or.inl rfl) (T12_39l t0) p2 e_2433
      refine Rn.hp hT rfl rfl (aB_hp g_2433) ?_
      refine Rn.n hT 1 (pc' := 21) (L' := [some (.ref q0), some (.ref q1), some (.int m2), none, none]) (st' := [.int (97 : Int32), .int z_2433]) rfl ?_
      by_cases c_2434 : v_2433 < 97
      · rw [if_pos c_2434] at e
        refine Rn.bt hT rfl rfl rfl (decide_eq_true ((ti_l p_2433 L32_97).mpr c_2434)) ?_
        exact Rn.weak (ll_s (ll_s (ll_s (ll_n (ll_n ll_e))))) (hk m2 x2 p2 e)
      · rw [if_neg c_2434] at e
        refine Rn.bf hT rfl rfl rfl (decide_eq_false (fun z => c_2434 ((ti_l p_2433 L32_97).mp z))) ?_
        refine Rn.n hT 1 (pc' := 25) (L' := [some (.ref q0), some (.ref q1), some (.int m2), none, none]) (st' := [.ref q0]) rfl ?_
        refine Rn.hp hT rfl rfl (gR_hp (rp_gR hR (T12_o t0) rfl)) ?_
        refine Rn.n hT 1 (pc' := 29) (L' := [some (.ref q0), some (.ref q1), some (.int m2), none, none]) (st' := [.int m2, .ref (q0 + 26)]) rfl ?_
        obtain ⟨v_2435, e_2435, e⟩ := Option.bind_eq_some_iff.mp e
        obtain ⟨z_2435, g_2435, p_2435⟩ := rp_aB hR (T12_39 t0) (Or.inl rfl) (T12_39l t0) p2 e_2435
        refine Rn.hp hT rfl rfl (aB_hp g_2435) ?_
        refine Rn.n hT 1 (pc' := 32) (L' := [some (.ref q0), some (.ref q1), some (.int m2), none, none]) (st' := [.int (122 : Int32), .int z_2435]) rfl ?_
        by_cases c_2436 : 122 < v_2435
        · rw [if_pos c_2436] at e
          refine Rn.bt hT rfl rfl rfl (decide_eq_true ((ti_l L32_122 p_2435).mpr c_2436)) ?_
          exact Rn.weak (ll_s (ll_s (ll_s (ll_n (ll_n ll_e))))) (hk m2 x2 p2 e)
        · rw [if_neg c_2436] at e
          refine Rn.bf hT rfl rfl rfl (decide_eq_false (fun z => c_2436 ((ti_l L32_122 p_2435).mp z))) ?_
          refine Rn.n hT 2 (pc' := 5) (L' := [some (.ref q0), some (.ref q1), some (.int (m2 + (1 : Int32))), none, none]) (st' := []) rfl ?_
          exact Rn.weak (ll_s (ll_s (ll_s (ll_n (ll_n ll_e))))) (ih (m2 + (1 : Int32)) (w32 (x2 + 1)) (ti_add p2 L32_1) e)
def FX12_stood_b102 (N : Nat) (s : iv_M) (q0 : Nat) (q1 : Nat) (x4 : Int) (xs0 : Int) (kb : Int → Int → Option (Int)) (kx : Int → Option (Int)) : Option (Int) := (kb xs0 (w32 (x4 + 1)))
set_option maxRecDepth 10000 in
set_option maxHeartbeats 4000000 in
theorem RX12_stood_b102 {d N nc Ls : Nat} {Xs : Nat → Int32} (hd : 10 ≤ d) {h : iv_H} {s : iv_M} (hR : Rep nc Ls Xs h s) {q0 : Nat} (t0 : T12 nc q0) {q1 : Nat} (t1 : TS q1) {m4 : Int32} {x4 : Int} (p4 : m4.toInt = x4) {ms0 : Int32} {xs0 : Int} (ps0 : ms0.toInt = xs0) {kb : Int → Int → Option (Int)} {kx : Int → Option (Int)} {r : Int} {Q : Option Value → iv_H → Prop} (hb : ∀ (mw3 : Int32) (xw3 : Int) (pw3 : mw3.toInt = xw3) (mw4 : Int32) (xw4 : Int) (pw4 : mw4.toInt = xw4), kb xw3 xw4 = some r → Rn d 215 (some .boolean) 63 [some (.ref q0), some (.ref q1), none, some (.int mw3), some (.int mw4)] [] h Q) (hk : ∀ (mw3 : Int32) (xw3 : Int) (pw3 : mw3.toInt = xw3), kx xw3 = some r → Rn d 215 (some .boolean) 109 [none, none, none, some (.int mw3), none] [] h Q) (hq : ∀ (z : Int32), z.toInt = r → Q (some (.int z)) h) (e : FX12_stood_b102 N s q0 q1 x4 xs0 kb kx = some r) : Rn d 215 (some .boolean) 102 [some (.ref q0), some (.ref q1), none, none, some (.int m4)] [.int ms0] h Q := by
  have hT := hX12_stood
  unfold FX12_stood_b102 at e
  refine Rn.n hT 3 (pc' := 63) (L' := [some (.ref q0), some (.ref q1), none, some (.int ms0), some (.int (m4 + (1 : Int32)))]) (st' := []) rfl ?_
  exact Rn.weak (ll_s (ll_s (ll_n (ll_s (ll_s ll_e))))) (hb ms0 xs0 ps0 (m4 + (1 : Int32)) (w32 (x4 + 1)) (ti_add p4 L32_1) e)
def FX12_stood_l63 (N : Nat) (s : iv_M) (q0 : Nat) (q1 : Nat) (kx : Int → Option (Int)) : Nat → Int → Int → Option (Int)
  | 0, _, _ => none
  | n + 1, x3, x4 => (if (tL q1) ≤ x4 then (kx x3) else (if x3 = 0 then (kx x3) else ((rd s (q0 + 26) 400 (w32 ((s q0 29) + x4))).bind fun v_2445 => ((tA q1 x4).bind fun v_2446 => (if v_2445 = v_2446 then (FX12_stood_b102 N s q0 q1 x4 1 (FX12_stood_l63 N s q0 q1 kx n) kx) else (FX12_stood_b102 N s q0 q1 x4 0 (FX12_stood_l63 N s q0 q1 kx n) kx))))))
set_option maxRecDepth 10000 in
set_option maxHeartbeats 4000000 in
theorem RX12_stood_l63 {d N nc Ls : Nat} {Xs : Nat → Int32} (hd : 10 ≤ d) {h : iv_H} {s : iv_M} (hR : Rep nc Ls Xs h s) {q0 : Nat} (t0 : T12 nc q0) {q1 : Nat} (t1 : TS q1) {kx : Int → Option (Int)} {r : Int} {Q : Option Value → iv_H → Prop} (hk : ∀ (m3 : Int32) (x3 : Int) (p3 : m3.toInt = x3), kx x3 = some r → Rn d 215 (some .boolean) 109 [none, none, none, some (.int m3), none] [] h Q) (hq : ∀ (z : Int32), z.toInt = r → Q (some (.int z)) h) : ∀ (n : Nat) (m3 : Int32) (x3 : Int) (p3 : m3.toInt = x3) (m4 : Int32) (x4 : Int) (p4 : m4.toInt = x4), FX12_stood_l63 N s q0 q1 kx n x3 x4 = some r → Rn d 215 (some .boolean) 63 [some (.ref q0), some (.ref q1), none, some (.int m3), some (.int m4)] [] h Q := by
  have hT := hX12_stood
  intro n
  induction n with
  | zero =>
    intro m3 x3 p3 m4 x4 p4 e
    rw [FX12_stood_l63] at e
    cases e
  | succ n ih =>
    intro m3 x3 p3 m4 x4 p4 e
    rw [FX12_stood_l63] at e
    refine Rn.n hT 2 (pc' := 66) (L' := [some (.ref q0), some (.ref q1), none, some (.int m3), some (.int m4)]) (st' := [.ref q1, .int m4]) rfl ?_
    obtain ⟨z_2441, g_2441, p_2441⟩ := rp_sL hR t1
    refine Rn.call hT rfl rfl rfl (Nat.le_of_ble_eq_true rfl) rfl (sL_cl (by omega) g_2441 ?_)
    show Rn d _ _ 69 [some (.ref q0), some (.ref q1), none, some (.int m3), some (.int m4)] [.int z_2441, .int m4] h Q
    by_cases c_2442 : (tL q1) ≤ x4
    · rw [if_pos c_2442] at e
      refine Rn.bt hT rfl rfl rfl (decide_eq_true ((ti_le p_2441 p4).mpr c_2442)) ?_
      exact Rn.weak (ll_n (ll_n (ll_n (ll_s (ll_n ll_e))))) (hk m3 x3 p3 e)
    · rw [if_neg c_2442] at e
      refine Rn.bf hT rfl rfl rfl (decide_eq_false (fun z => c_2442 ((ti_le p_2441 p4).mp z))) ?_
      refine Rn.n hT 1 (pc' := 73) (L' := [some (.ref q0), some (.ref q1), none, some (.int m3), some (.int m4)]) (st' := [.int m3]) rfl ?_
      by_cases c_2443 : x3 = 0
      · rw [if_pos c_2443] at e
        refine Rn.bt hT rfl rfl rfl (decide_eq_true ((ti_e p3 L32_0).mpr c_2443)) ?_
        exact Rn.weak (ll_n (ll_n (ll_n (ll_s (ll_n ll_e))))) (hk m3 x3 p3 e)
      · rw [if_neg c_2443] at e
        refine Rn.bf hT rfl rfl rfl (decide_eq_false (fun z => c_2443 ((ti_e p3 L32_0).mp z))) ?_
        refine Rn.n hT 1 (pc' := 77) (L' := [some (.ref q0), some (.ref q1), none, some (.int m3), some (.int m4)]) (st' := [.ref q0]) rfl ?_
        refine Rn.hp hT rfl rfl (gR_hp (rp_gR hR (T12_o t0) rfl)) ?_
        refine Rn.n hT 1 (pc' := 81) (L' := [some (.ref q0), some (.ref q1), none, some (.int m3), some (.int m4)]) (st' := [.ref q0, .ref (q0 + 26)]) rfl ?_
        obtain ⟨z_2444, g_2444, p_2444⟩ : ∃ z : Int32, gI h 12 29 q0 = some z ∧ z.toInt = s q0 29 := rp_gI (k := 29) hR (T12_o t0) rfl
        refine Rn.hp hT rfl rfl (gI_hp g_2444) ?_
        refine Rn.n hT 2 (pc' := 87) (L' := [some (.ref q0), some (.ref q1), none, some (.int m3), some (.int m4)]) (st' := [.int (z_2444 + m4), .ref (q0 + 26)]) rfl ?_
        obtain ⟨v_2445, e_2445, e⟩ := Option.bind_eq_some_iff.mp e
        obtain ⟨z_2445, g_2445, p_2445⟩ := rp_aB hR (T12_39 t0) (Or.inl rfl) (T12_39l t0) (ti_add p_2444 p4) e_2445
        refine Rn.hp hT rfl rfl (aB_hp g_2445) ?_
        refine Rn.n hT 2 (pc' := 91) (L' := [some (.ref q0), some (.ref q1), none, some (.int m3), some (.int m4)]) (st' := [.int m4, .ref q1, .int z_2445]) rfl ?_
        obtain ⟨v_2446, e_2446, e⟩ := Option.bind_eq_some_iff.mp e
        obtain ⟨z_2446, g_2446, p_2446⟩ := rp_sA hR t1 p4 e_2446
        refine Rn.call hT rfl rfl rfl (Nat.le_of_ble_eq_true rfl) rfl (sA_cl (by omega) g_2446 ?_)
        show Rn d _ _ 94 [some (.ref q0), some (.ref q1), none, some (.int m3), some (.int m4)] [.int z_2446, .int z_2445] h Q
        by_cases c_2447 : v_2445 = v_2446
        · rw [if_pos c_2447] at e
          refine Rn.bf hT rfl rfl rfl (decide_eq_false (fun z => z ((ti_e p_2445 p_2446).mpr c_2447))) ?_
          refine Rn.n hT 2 (pc' := 102) (L' := [some (.ref q0), some (.ref q1), none, some (.int m3), some (.int m4)]) (st' := [.int (1 : Int32)]) rfl ?_
          exact Rn.weak (ll_s (ll_s (ll_n (ll_n (ll_s ll_e))))) (RX12_stood_b102 hd hR t0 t1 p4 L32_1 ih hk hq e)
        · rw [if_neg c_2447] at e
          refine Rn.bt hT rfl rfl rfl (decide_eq_true (fun z => c_2447 ((ti_e p_2445 p_2446).mp z))) ?_
          refine Rn.n hT 1 (pc' := 102) (L' := [some (.ref q0), some (.ref q1), none, some (.int m3), some (.int m4)]) (st' := [.int (0 : Int32)]) rfl ?_
          exact Rn.weak (ll_s (ll_s (ll_n (ll_n (ll_s ll_e))))) (RX12_stood_b102 hd hR t0 t1 p4 L32_0 ih hk hq e)
def FX12_stood_b109 (N : Nat) (s : iv_M) (x3 : Int)  : Option (Int) := (if x3 = 0 ∨ x3 = 1 then some x3 else none)
set_option maxRecDepth 10000 in
set_option maxHeartbeats 4000000 in
theorem RX12_stood_b109 {d N nc Ls : Nat} {Xs : Nat → Int32} (hd : 10 ≤ d) {h : iv_H} {s : iv_M} (hR : Rep nc Ls Xs h s) {m3 : Int32} {x3 : Int} (p3 : m3.toInt = x3)  {r : Int} {Q : Option Value → iv_H → Prop} (hq : ∀ (z : Int32), z.toInt = r → Q (some (.int z)) h) (e : FX12_stood_b109 N s x3  = some r) : Rn d 215 (some .boolean) 109 [none, none, none, some (.int m3), none] [] h Q := by
  have hT := hX12_stood
  unfold FX12_stood_b109 at e
  refine Rn.n hT 1 (pc' := 110) (L' := [none, none, none, some (.int m3), none]) (st' := [.int m3]) rfl ?_
  by_cases c_2448 : x3 = 0 ∨ x3 = 1
  · rw [if_pos c_2448] at e
    obtain rfl := Option.some.inj e
    exact Rn.ret hT rfl rfl (if_pos (ti_b p3 c_2448)) (hq m3 p3)
  · rw [if_neg c_2448] at e
    cases e
def FX12_stood_b59 (N : Nat) (s : iv_M) (q0 : Nat) (q1 : Nat) (xs0 : Int) : Option (Int) := (FX12_stood_l63 N s q0 q1 (fun (x2440_3 : Int) => (FX12_stood_b109 N s x2440_3)) N xs0 0)
set_option maxRecDepth 10000 in
set_option maxHeartbeats 4000000 in
theorem RX12_stood_b59 {d N nc Ls : Nat} {Xs : Nat → Int32} (hd : 10 ≤ d) {h : iv_H} {s : iv_M} (hR : Rep nc Ls Xs h s) {q0 : Nat} (t0 : T12 nc q0) {q1 : Nat} (t1 : TS q1) {ms0 : Int32} {xs0 : Int} (ps0 : ms0.toInt = xs0) {r : Int} {Q : Option Value → iv_H → Prop} (hq : ∀ (z : Int32), z.toInt = r → Q (some (.int z)) h) (e : FX12_stood_b59 N s q0 q1 xs0 = some r) : Rn d 215 (some .boolean) 59 [some (.ref q0), some (.ref q1), none, none, none] [.int ms0] h Q := by
  have hT := hX12_stood
  unfold FX12_stood_b59 at e
  refine Rn.n hT 3 (pc' := 63) (L' := [some (.ref q0), some (.ref q1), none, some (.int ms0), some (.int (0 : Int32))]) (st' := []) rfl ?_
  refine Rn.weak (ll_s (ll_s (ll_n (ll_s (ll_s ll_e))))) (RX12_stood_l63 hd hR t0 t1 (fun m2440_3 x2440_3 p2440_3 e => ?_) hq N ms0 xs0 ps0 (0 : Int32) 0 L32_0 e)
  try dsimp only at e
  exact Rn.weak (ll_n (ll_n (ll_n (ll_s (ll_n ll_e))))) (RX12_stood_b109 hd hR p2440_3 hq e)
def FX12_stood_b41 (N : Nat) (s : iv_M) (q0 : Nat) (q1 : Nat) (x2 : Int)  : Option (Int) := (if (w32 (x2 - (s q0 29))) = (tL q1) then (FX12_stood_b59 N s q0 q1 1) else (FX12_stood_b59 N s q0 q1 0))
set_option maxRecDepth 10000 in
set_option maxHeartbeats 4000000 in
theorem RX12_stood_b41 {d N nc Ls : Nat} {Xs : Nat → Int32} (hd : 10 ≤ d) {h : iv_H} {s : iv_M} (hR : Rep nc Ls Xs h s) {q0 : Nat} (t0 : T12 nc q0) {q1 : Nat} (t1 : TS q1) {m2 : Int32} {x2 : Int} (p2 : m2.toInt = x2)  {r : Int} {Q : Option Value → iv_H → Prop} (hq : ∀ (z : Int32), z.toInt = r → Q (some (.int z)) h) (e : FX12_stood_b41 N s q0 q1 x2  = some r) : Rn d 215 (some .boolean) 41 [some (.ref q0), some (.ref q1), some (.int m2), none, none] [] h Q := by
  have hT := hX12_stood
  unfold FX12_stood_b41 at e
  refine Rn.n hT 2 (pc' := 43) (L' := [some (.ref q0), some (.ref q1), some (.int m2), none, none]) (st' := [.ref q0, .int m2]) rfl ?_
  obtain ⟨z_2437, g_2437, p_2437⟩ : ∃ z : Int32, gI h 12 29 q0 = some z ∧ z.toInt = s q0 29 := rp_gI (k := 29) hR (T12_o t0) rfl
  refine Rn.hp hT rfl rfl (gI_hp g_2437) ?_
  refine Rn.n hT 2 (pc' := 48) (L' := [some (.ref q0), some (.ref q1), some (.int m2), none, none]) (st' := [.ref q1, .int (m2 - z_2437)]) rfl ?_
  obtain ⟨z_2438, g_2438, p_2438⟩ := rp_sL hR t1
  refine Rn.call hT rfl rfl rfl (Nat.le_of_ble_eq_true rfl) rfl (sL_cl (by omega) g_2438 ?_)
  show Rn d _ _ 51 [some (.ref q0), some (.ref q1), some (.int m2), none, none] [.int z_2438, .int (m2 - z_2437)] h Q
  by_cases c_2439 : (w32 (x2 - (s q0 29))) = (tL q1)
  · rw [if_pos c_2439] at e
    refine Rn.bf hT rfl rfl rfl (decide_eq_false (fun z => z ((ti_e (ti_sub p2 p_2437) p_2438).mpr c_2439))) ?_
    refine Rn.n hT 2 (pc' := 59) (L' := [some (.ref q0), some (.ref q1), some (.int m2), none, none]) (st' := [.int (1 : Int32)]) rfl ?_
    exact Rn.weak (ll_s (ll_s (ll_n (ll_n (ll_n ll_e))))) (RX12_stood_b59 hd hR t0 t1 L32_1 hq e)
  · rw [if_neg c_2439] at e
    refine Rn.bt hT rfl rfl rfl (decide_eq_true (fun z => c_2439 ((ti_e (ti_sub p2 p_2437) p_2438).mp z))) ?_
    refine Rn.n hT 1 (pc' := 59) (L' := [some (.ref q0), some (.ref q1), some (.int m2), none, none]) (st' := [.int (0 : Int32)]) rfl ?_
    exact Rn.weak (ll_s (ll_s (ll_n (ll_n (ll_n ll_e))))) (RX12_stood_b59 hd hR t0 t1 L32_0 hq e)
def FX12_stood (N : Nat) (s : iv_M) (q0 : Nat) (q1 : Nat) : Option (Int) := (FX12_stood_l5 N s q0 q1 (fun (x2430_2 : Int) => (FX12_stood_b41 N s q0 q1 x2430_2)) N (s q0 29))
set_option maxRecDepth 10000 in
set_option maxHeartbeats 4000000 in
theorem RX12_stood {d N nc Ls : Nat} {Xs : Nat → Int32} (hd : 11 ≤ d) {h : iv_H} {s : iv_M} (hR : Rep nc Ls Xs h s) {q0 : Nat} (t0 : T12 nc q0) {q1 : Nat} (t1 : TS q1) {r : Int} {Q : Option Value → iv_H → Prop} (e : FX12_stood N s q0 q1 = some r) (hq : ∀ (z : Int32), z.toInt = r → Q (some (.int z)) h) : Cl d 215 [.ref q0, .ref q1] h Q := by
  obtain ⟨d, rfl⟩ : ∃ k, d = k + 1 := ⟨d - 1, by omega⟩
  have hd : 10 ≤ d := by omega
  have hT := hX12_stood
  unfold FX12_stood at e
  refine Cl.into (by decide) gX12_stood rfl ?_
  show Rn d 215 (some .boolean) 0 [some (.ref q0), some (.ref q1), none, none, none] [] h Q
  refine Rn.n hT 1 (pc' := 1) (L' := [some (.ref q0), some (.ref q1), none, none, none]) (st' := [.ref q0]) rfl ?_
  obtain ⟨z_2429, g_2429, p_2429⟩ : ∃ z : Int32, gI h 12 29 q0 = some z ∧ z.toInt = s q0 29 := rp_gI (k := 29) hR (T12_o t0) rfl
  refine Rn.hp hT rfl rfl (gI_hp g_2429) ?_
  refine Rn.n hT 1 (pc' := 5) (L' := [some (.ref q0), some (.ref q1), some (.int z_2429), none, none]) (st' := []) rfl ?_
  refine Rn.weak (ll_s (ll_s (ll_s (ll_n (ll_n ll_e))))) (RX12_stood_l5 hd hR t0 t1 (fun m2430_2 x2430_2 p2430_2 e => ?_) hq N z_2429 (s q0 29) p_2429 e)
  try dsimp only at e
  exact Rn.weak (ll_s (ll_s (ll_s (ll_n (ll_n ll_e))))) (RX12_stood_b41 hd hR t0 t1 p2430_2 hq e)
set_option maxRecDepth 10000 in
theorem hX12_entry : iv_Tb 216 tX12_entry := iv_tb_of (m := mX12_entry) rfl
set_option maxRecDepth 10000 in
theorem gX12_entry : PG.2 216 = some mX12_entry := iv_pi_of (t := tX12_entry) rfl (by decide)
def FX12_entry_b55 (N : Nat) (s : iv_M)   : Option (iv_M) := some s
set_option maxRecDepth 10000 in
set_option maxHeartbeats 4000000 in
theorem RX12_entry_b55 {d N nc Ls : Nat} {Xs : Nat → Int32} (hd : 0 ≤ d) {h : iv_H} {s : iv_M} (hR : Rep nc Ls Xs h s)   {r : iv_M} {Q : Option Value → iv_H → Prop} (hq : ∀ h1, Rep nc Ls Xs h1 r → Q none h1) (e : FX12_entry_b55 N s   = some r) : Rn d 216 none 55 [none, none, none] [] h Q := by
  have hT := hX12_entry
  unfold FX12_entry_b55 at e
  obtain rfl := Option.some.inj e
  exact Rn.ret hT rfl rfl rfl (hq h hR)
def FX12_entry (N : Nat) (s : iv_M) (q0 : Nat) (x1 : Int) (x2 : Int) : Option (iv_M) := (if (s q0 30) = 0 then ((wr s (q0 + 27) 1800 (w32 ((w32 (300 * (s q0 31))) + (s q0 33))) x1).bind fun s_2453 => ((wr s_2453 (q0 + 28) 1800 (w32 ((w32 (300 * (s_2453 q0 31))) + (s_2453 q0 33))) x2).bind fun s_2457 => ((pt s_2457 q0 33 (w32 ((s_2457 q0 33) + 1))).bind fun s_2460 => (FX12_entry_b55 N s_2460)))) else (FX12_entry_b55 N s))
set_option maxRecDepth 10000 in
set_option maxHeartbeats 4000000 in
theorem RX12_entry {d N nc Ls : Nat} {Xs : Nat → Int32} (hd : 1 ≤ d) {h : iv_H} {s : iv_M} (hR : Rep nc Ls Xs h s) {q0 : Nat} (t0 : T12 nc q0) {m1 : Int32} {x1 : Int} (p1 : m1.toInt = x1) {m2 : Int32} {x2 : Int} (p2 : m2.toInt = x2) {r : iv_M} {Q : Option Value → iv_H → Prop} (e : FX12_entry N s q0 x1 x2 = some r) (hq : ∀ h1, Rep nc Ls Xs h1 r → Q none h1) : Cl d 216 [.ref q0, .int m1, .int m2] h Q := by
  obtain ⟨d, rfl⟩ : ∃ k, d = k + 1 := ⟨d - 1, by omega⟩
  have hd : 0 ≤ d := by omega
  have hT := hX12_entry
  unfold FX12_entry at e
  refine Cl.into (by decide) gX12_entry rfl ?_
  show Rn d 216 none 0 [some (.ref q0), some (.int m1), some (.int m2)] [] h Q
  refine Rn.n hT 1 (pc' := 1) (L' := [some (.ref q0), some (.int m1), some (.int m2)]) (st' := [.ref q0]) rfl ?_
  obtain ⟨z_2449, g_2449, p_2449⟩ : ∃ z : Int32, gI h 12 30 q0 = some z ∧ z.toInt = s q0 30 := rp_gI (k := 30) hR (T12_o t0) rfl
  refine Rn.hp hT rfl rfl (gI_hp g_2449) ?_
  by_cases c_2450 : (s q0 30) = 0
  · rw [if_pos c_2450] at e
    refine Rn.bf hT rfl rfl rfl (decide_eq_false (fun z => z ((ti_e p_2449 L32_0).mpr c_2450))) ?_
    refine Rn.n hT 1 (pc' := 8) (L' := [some (.ref q0), some (.int m1), some (.int m2)]) (st' := [.ref q0]) rfl ?_
    refine Rn.hp hT rfl rfl (gR_hp (rp_gR hR (T12_o t0) rfl)) ?_
    refine Rn.n hT 2 (pc' := 15) (L' := [some (.ref q0), some (.int m1), some (.int m2)]) (st' := [.ref q0, .int (300 : Int32), .ref (q0 + 27)]) rfl ?_
    obtain ⟨z_2451, g_2451, p_2451⟩ : ∃ z : Int32, gI h 12 31 q0 = some z ∧ z.toInt = s q0 31 := rp_gI (k := 31) hR (T12_o t0) rfl
    refine Rn.hp hT rfl rfl (gI_hp g_2451) ?_
    refine Rn.n hT 2 (pc' := 20) (L' := [some (.ref q0), some (.int m1), some (.int m2)]) (st' := [.ref q0, .int ((300 : Int32) * z_2451), .ref (q0 + 27)]) rfl ?_
    obtain ⟨z_2452, g_2452, p_2452⟩ : ∃ z : Int32, gI h 12 33 q0 = some z ∧ z.toInt = s q0 33 := rp_gI (k := 33) hR (T12_o t0) rfl
    refine Rn.hp hT rfl rfl (gI_hp g_2452) ?_
    refine Rn.n hT 2 (pc' := 25) (L' := [some (.ref q0), some (.int m1), some (.int m2)]) (st' := [.int m1, .int (((300 : Int32) * z_2451) + z_2452), .ref (q0 + 27)]) rfl ?_
    obtain ⟨s_2453, e_2454, e⟩ := Option.bind_eq_some_iff.mp e
    obtain ⟨h_2453, g_2454, R_2453⟩ := rp_wI hR (T12_40 t0) (T12_40l t0) (ti_add (ti_mul L32_300 p_2451) p_2452) p1 e_2454
    refine Rn.hp hT rfl rfl (wI_hp g_2454) ?_
    refine Rn.n hT 1 (pc' := 27) (L' := [some (.ref q0), some (.int m1), some (.int m2)]) (st' := [.ref q0]) rfl ?_
    refine Rn.hp hT rfl rfl (gR_hp (rp_gR R_2453 (T12_o t0) rfl)) ?_
    refine Rn.n hT 2 (pc' := 34) (L' := [some (.ref q0), some (.int m1), some (.int m2)]) (st' := [.ref q0, .int (300 : Int32), .ref (q0 + 28)]) rfl ?_
    obtain ⟨z_2455, g_2455, p_2455⟩ : ∃ z : Int32, gI h_2453 12 31 q0 = some z ∧ z.toInt = s_2453 q0 31 := rp_gI (k := 31) R_2453 (T12_o t0) rfl
    refine Rn.hp hT rfl rfl (gI_hp g_2455) ?_
    refine Rn.n hT 2 (pc' := 39) (L' := [some (.ref q0), some (.int m1), some (.int m2)]) (st' := [.ref q0, .int ((300 : Int32) * z_2455), .ref (q0 + 28)]) rfl ?_
    obtain ⟨z_2456, g_2456, p_2456⟩ : ∃ z : Int32, gI h_2453 12 33 q0 = some z ∧ z.toInt = s_2453 q0 33 := rp_gI (k := 33) R_2453 (T12_o t0) rfl
    refine Rn.hp hT rfl rfl (gI_hp g_2456) ?_
    refine Rn.n hT 2 (pc' := 44) (L' := [some (.ref q0), some (.int m1), some (.int m2)]) (st' := [.int m2, .int (((300 : Int32) * z_2455) + z_2456), .ref (q0 + 28)]) rfl ?_
    obtain ⟨s_2457, e_2458, e⟩ := Option.bind_eq_some_iff.mp e
    obtain ⟨h_2457, g_2458, R_2457⟩ := rp_wI R_2453 (T12_41 t0) (T12_41l t0) (ti_add (ti_mul L32_300 p_2455) p_2456) p2 e_2458
    refine Rn.hp hT rfl rfl (wI_hp g_2458) ?_
    refine Rn.n hT 2 (pc' := 47) (L' := [some (.ref q0), some (.int m1), some (.int m2)]) (st' := [.ref q0, .ref q0]) rfl ?_
    obtain ⟨z_2459, g_2459, p_2459⟩ : ∃ z : Int32, gI h_2457 12 33 q0 = some z ∧ z.toInt = s_2457 q0 33 := rp_gI (k := 33) R_2457 (T12_o t0) rfl
    refine Rn.hp hT rfl rfl (gI_hp g_2459) ?_
    refine Rn.n hT 2 (pc' := 52) (L' := [some (.ref q0), some (.int m1), some (.int m2)]) (st' := [.int (z_2459 + (1 : Int32)), .ref q0]) rfl ?_
    obtain ⟨s_2460, e_2461, e⟩ := Option.bind_eq_some_iff.mp e
    obtain ⟨h_2460, g_2461, R_2460⟩ := rp_pI (ci := 12) (k := 33) R_2457 (T12_o t0) rfl rfl (ti_add p_2459 L32_1) e_2461
    refine Rn.hp hT rfl rfl (pV_hp rfl g_2461) ?_
    exact Rn.weak (ll_n (ll_n (ll_n ll_e))) (RX12_entry_b55 hd R_2460 hq e)
  · rw [if_neg c_2450] at e
    refine Rn.bt hT rfl rfl rfl (decide_eq_true (fun z => c_2450 ((ti_e p_2449 L32_0).mp z))) ?_
    exact Rn.weak (ll_n (ll_n (ll_n ll_e))) (RX12_entry_b55 hd hR hq e)
set_option maxRecDepth 10000 in
theorem hX12_isCounted : iv_Tb 217 tX12_isCounted := iv_tb_of (m := mX12_isCounted) rfl
set_option maxRecDepth 10000 in
theorem gX12_isCounted : PG.2 217 = some mX12_isCounted := iv_pi_of (t := tX12_isCounted) rfl (by decide)
def FX12_isCounted_b15 (N : Nat) (s : iv_M) (q0 : Nat)  : Option (iv_M) := ((pt s q0 35 (w32 ((s q0 35) + 1))).bind fun s_2467 => some s_2467)
set_option maxRecDepth 10000 in
set_option maxHeartbeats 4000000 in
theorem RX12_isCounted_b15 {d N nc Ls : Nat} {Xs : Nat → Int32} (hd : 1 ≤ d) {h : iv_H} {s : iv_M} (hR : Rep nc Ls Xs h s) {q0 : Nat} (t0 : T12 nc q0)  {r : iv_M} {Q : Option Value → iv_H → Prop} (hq : ∀ h1, Rep nc Ls Xs h1 r → Q none h1) (e : FX12_isCounted_b15 N s q0  = some r) : Rn d 217 none 15 [some (.ref q0), none] [] h Q := by
  have hT := hX12_isCounted
  unfold FX12_isCounted_b15 at e
  refine Rn.n hT 2 (pc' := 17) (L' := [some (.ref q0), none]) (st' := [.ref q0, .ref q0]) rfl ?_
  obtain ⟨z_2466, g_2466, p_2466⟩ : ∃ z : Int32, gI h 12 35 q0 = some z ∧ z.toInt = s q0 35 := rp_gI (k := 35) hR (T12_o t0) rfl
  refine Rn.hp hT rfl rfl (gI_hp g_2466) ?_
  refine Rn.n hT 2 (pc' := 22) (L' := [some (.ref q0), none]) (st' := [.int (z_2466 + (1 : Int32)), .ref q0]) rfl ?_
  obtain ⟨s_2467, e_2468, e⟩ := Option.bind_eq_some_iff.mp e
  obtain ⟨h_2467, g_2468, R_2467⟩ := rp_pI (ci := 12) (k := 35) hR (T12_o t0) rfl rfl (ti_add p_2466 L32_1) e_2468
  refine Rn.hp hT rfl rfl (pV_hp rfl g_2468) ?_
  obtain rfl := Option.some.inj e
  exact Rn.ret hT rfl rfl rfl (hq h_2467 R_2467)
def FX12_isCounted (N : Nat) (s : iv_M) (q0 : Nat) (x1 : Int) : Option (iv_M) := (if (s q0 35) = 60 then ((FX12_fails N s q0 3 x1).bind fun s_2465 => (FX12_isCounted_b15 N s_2465 q0)) else (FX12_isCounted_b15 N s q0))
set_option maxRecDepth 10000 in
set_option maxHeartbeats 4000000 in
theorem RX12_isCounted {d N nc Ls : Nat} {Xs : Nat → Int32} (hd : 2 ≤ d) {h : iv_H} {s : iv_M} (hR : Rep nc Ls Xs h s) {q0 : Nat} (t0 : T12 nc q0) {m1 : Int32} {x1 : Int} (p1 : m1.toInt = x1) {r : iv_M} {Q : Option Value → iv_H → Prop} (e : FX12_isCounted N s q0 x1 = some r) (hq : ∀ h1, Rep nc Ls Xs h1 r → Q none h1) : Cl d 217 [.ref q0, .int m1] h Q := by
  obtain ⟨d, rfl⟩ : ∃ k, d = k + 1 := ⟨d - 1, by omega⟩
  have hd : 1 ≤ d := by omega
  have hT := hX12_isCounted
  unfold FX12_isCounted at e
  refine Cl.into (by decide) gX12_isCounted rfl ?_
  show Rn d 217 none 0 [some (.ref q0), some (.int m1)] [] h Q
  refine Rn.n hT 1 (pc' := 1) (L' := [some (.ref q0), some (.int m1)]) (st' := [.ref q0]) rfl ?_
  obtain ⟨z_2462, g_2462, p_2462⟩ : ∃ z : Int32, gI h 12 35 q0 = some z ∧ z.toInt = s q0 35 := rp_gI (k := 35) hR (T12_o t0) rfl
  refine Rn.hp hT rfl rfl (gI_hp g_2462) ?_
  refine Rn.n hT 1 (pc' := 6) (L' := [some (.ref q0), some (.int m1)]) (st' := [.int (60 : Int32), .int z_2462]) rfl ?_
  by_cases c_2463 : (s q0 35) = 60
  · rw [if_pos c_2463] at e
    refine Rn.bf hT rfl rfl rfl (decide_eq_false (fun z => z ((ti_e p_2462 L32_60).mpr c_2463))) ?_
    refine Rn.n hT 3 (pc' := 12) (L' := [some (.ref q0), some (.int m1)]) (st' := [.int m1, .int (3 : Int32), .ref q0]) rfl ?_
    obtain ⟨s_2465, e_2464, e⟩ := Option.bind_eq_some_iff.mp e
    refine Rn.call hT rfl rfl rfl (Nat.le_of_ble_eq_true rfl) (rcv_v gX12_fails (by omega) (rp_ck hR (T12_o t0))) (RX12_fails (by omega) hR t0 L32_3 p1 e_2464 (fun h_2465 R_2465 => ?_))
    show Rn d _ _ 15 [some (.ref q0), some (.int m1)] [] h_2465 Q
    exact Rn.weak (ll_s (ll_n ll_e)) (RX12_isCounted_b15 hd R_2465 t0 hq e)
  · rw [if_neg c_2463] at e
    refine Rn.bt hT rfl rfl rfl (decide_eq_true (fun z => c_2463 ((ti_e p_2462 L32_60).mp z))) ?_
    exact Rn.weak (ll_s (ll_n ll_e)) (RX12_isCounted_b15 hd hR t0 hq e)
set_option maxRecDepth 10000 in
theorem hX12_digits : iv_Tb 218 tX12_digits := iv_tb_of (m := mX12_digits) rfl
set_option maxRecDepth 10000 in
theorem gX12_digits : PG.2 218 = some mX12_digits := iv_pi_of (t := tX12_digits) rfl (by decide)
def FX12_digits_b58 (N : Nat) (s : iv_M) (q0 : Nat) (x1 : Int) (x2 : Int) (xs0 : Int) (kb : iv_M → Int → Option (Int × iv_M)) (kx : iv_M → Int → Option (Int × iv_M)) : Option (Int × iv_M) := ((pt s q0 29 (w32 ((s q0 29) + 1))).bind fun s_2486 => (kb s_2486 xs0))
set_option maxRecDepth 10000 in
set_option maxHeartbeats 4000000 in
theorem RX12_digits_b58 {d N nc Ls : Nat} {Xs : Nat → Int32} (hd : 2 ≤ d) {h : iv_H} {s : iv_M} (hR : Rep nc Ls Xs h s) {q0 : Nat} (t0 : T12 nc q0) {m1 : Int32} {x1 : Int} (p1 : m1.toInt = x1) {m2 : Int32} {x2 : Int} (p2 : m2.toInt = x2) {ms0 : Int32} {xs0 : Int} (ps0 : ms0.toInt = xs0) {kb : iv_M → Int → Option (Int × iv_M)} {kx : iv_M → Int → Option (Int × iv_M)} {r : Int × iv_M} {Q : Option Value → iv_H → Prop} (hb : ∀ (h : iv_H) (s : iv_M) (hR : Rep nc Ls Xs h s) (mw3 : Int32) (xw3 : Int) (pw3 : mw3.toInt = xw3), kb s xw3 = some r → Rn d 218 (some .int) 25 [some (.ref q0), some (.int m1), some (.int m2), some (.int mw3)] [] h Q) (hk : ∀ (h : iv_H) (s : iv_M) (hR : Rep nc Ls Xs h s) (mw3 : Int32) (xw3 : Int) (pw3 : mw3.toInt = xw3), kx s xw3 = some r → Rn d 218 (some .int) 72 [some (.ref q0), some (.int m1), some (.int m2), some (.int mw3)] [] h Q) (hq : ∀ (z : Int32) (h1 : iv_H), z.toInt = r.1 → Rep nc Ls Xs h1 r.2 → Q (some (.int z)) h1) (e : FX12_digits_b58 N s q0 x1 x2 xs0 kb kx = some r) : Rn d 218 (some .int) 58 [some (.ref q0), some (.int m1), some (.int m2), none] [.int ms0] h Q := by
  have hT := hX12_digits
  unfold FX12_digits_b58 at e
  refine Rn.n hT 3 (pc' := 61) (L' := [some (.ref q0), some (.int m1), some (.int m2), some (.int ms0)]) (st' := [.ref q0, .ref q0]) rfl ?_
  obtain ⟨z_2485, g_2485, p_2485⟩ : ∃ z : Int32, gI h 12 29 q0 = some z ∧ z.toInt = s q0 29 := rp_gI (k := 29) hR (T12_o t0) rfl
  refine Rn.hp hT rfl rfl (gI_hp g_2485) ?_
  refine Rn.n hT 2 (pc' := 66) (L' := [some (.ref q0), some (.int m1), some (.int m2), some (.int ms0)]) (st' := [.int (z_2485 + (1 : Int32)), .ref q0]) rfl ?_
  obtain ⟨s_2486, e_2487, e⟩ := Option.bind_eq_some_iff.mp e
  obtain ⟨h_2486, g_2487, R_2486⟩ := rp_pI (ci := 12) (k := 29) hR (T12_o t0) rfl rfl (ti_add p_2485 L32_1) e_2487
  refine Rn.hp hT rfl rfl (pV_hp rfl g_2487) ?_
  refine Rn.n hT 1 (pc' := 25) (L' := [some (.ref q0), some (.int m1), some (.int m2), some (.int ms0)]) (st' := []) rfl ?_
  exact Rn.weak (ll_s (ll_s (ll_s (ll_s ll_e)))) (hb h_2486 s_2486 R_2486 ms0 xs0 ps0 e)
def FX12_digits_l25 (N : Nat) (q0 : Nat) (x1 : Int) (x2 : Int) (kx : iv_M → Int → Option (Int × iv_M)) : Nat → iv_M → Int → Option (Int × iv_M)
  | 0, _, _ => none
  | n + 1, s, x3 => ((FX12_isDigit N s q0).bind fun v_2480 => (if v_2480 = 0 then (kx s x3) else (if 5 ≤ (w32 ((s q0 29) - x2)) then (FX12_digits_b58 N s q0 x1 x2 x3 (FX12_digits_l25 N q0 x1 x2 kx n) kx) else ((FX12_sign N s q0).bind fun v_2484 => (FX12_digits_b58 N s q0 x1 x2 (w32 ((w32 ((w32 (10 * x3)) + v_2484)) - 48)) (FX12_digits_l25 N q0 x1 x2 kx n) kx)))))
set_option maxRecDepth 10000 in
set_option maxHeartbeats 4000000 in
theorem RX12_digits_l25 {d N nc Ls : Nat} {Xs : Nat → Int32} (hd : 2 ≤ d) {q0 : Nat} (t0 : T12 nc q0) {m1 : Int32} {x1 : Int} (p1 : m1.toInt = x1) {m2 : Int32} {x2 : Int} (p2 : m2.toInt = x2) {kx : iv_M → Int → Option (Int × iv_M)} {r : Int × iv_M} {Q : Option Value → iv_H → Prop} (hk : ∀ (h : iv_H) (s : iv_M) (hR : Rep nc Ls Xs h s) (m3 : Int32) (x3 : Int) (p3 : m3.toInt = x3), kx s x3 = some r → Rn d 218 (some .int) 72 [some (.ref q0), some (.int m1), some (.int m2), some (.int m3)] [] h Q) (hq : ∀ (z : Int32) (h1 : iv_H), z.toInt = r.1 → Rep nc Ls Xs h1 r.2 → Q (some (.int z)) h1) : ∀ (n : Nat) (h : iv_H) (s : iv_M) (hR : Rep nc Ls Xs h s) (m3 : Int32) (x3 : Int) (p3 : m3.toInt = x3), FX12_digits_l25 N q0 x1 x2 kx n s x3 = some r → Rn d 218 (some .int) 25 [some (.ref q0), some (.int m1), some (.int m2), some (.int m3)] [] h Q := by
  have hT := hX12_digits
  intro n
  induction n with
  | zero =>
    intro h s hR m3 x3 p3 e
    rw [FX12_digits_l25] at e
    cases e
  | succ n ih =>
    intro h s hR m3 x3 p3 e
    rw [FX12_digits_l25] at e
    refine Rn.n hT 1 (pc' := 26) (L' := [some (.ref q0), some (.int m1), some (.int m2), some (.int m3)]) (st' := [.ref q0]) rfl ?_
    obtain ⟨v_2480, e_2480, e⟩ := Option.bind_eq_some_iff.mp e
    refine Rn.call hT rfl rfl rfl (Nat.le_of_ble_eq_true rfl) (rcv_v gX12_isDigit (by omega) (rp_ck hR (T12_o t0))) (RX12_isDigit (by omega) hR t0 e_2480 (fun z_2480 p_2480 => ?_))
    show Rn d _ _ 29 [some (.ref q0), some (.int m1), some (.int m2), some (.int m3)] [.int z_2480] h Q
    by_cases c_2481 : v_2480 = 0
    · rw [if_pos c_2481] at e
      refine Rn.bt hT rfl rfl rfl (decide_eq_true ((ti_e p_2480 L32_0).mpr c_2481)) ?_
      exact Rn.weak (ll_s (ll_s (ll_s (ll_s ll_e)))) (hk h s hR m3 x3 p3 e)
    · rw [if_neg c_2481] at e
      refine Rn.bf hT rfl rfl rfl (decide_eq_false (fun z => c_2481 ((ti_e p_2480 L32_0).mp z))) ?_
      refine Rn.n hT 1 (pc' := 33) (L' := [some (.ref q0), some (.int m1), some (.int m2), some (.int m3)]) (st' := [.ref q0]) rfl ?_
      obtain ⟨z_2482, g_2482, p_2482⟩ : ∃ z : Int32, gI h 12 29 q0 = some z ∧ z.toInt = s q0 29 := rp_gI (k := 29) hR (T12_o t0) rfl
      refine Rn.hp hT rfl rfl (gI_hp g_2482) ?_
      refine Rn.n hT 3 (pc' := 39) (L' := [some (.ref q0), some (.int m1), some (.int m2), some (.int m3)]) (st' := [.int (5 : Int32), .int (z_2482 - m2)]) rfl ?_
      by_cases c_2483 : 5 ≤ (w32 ((s q0 29) - x2))
      · rw [if_pos c_2483] at e
        refine Rn.bt hT rfl rfl rfl (decide_eq_true ((ti_le L32_5 (ti_sub p_2482 p2)).mpr c_2483)) ?_
        refine Rn.n hT 1 (pc' := 58) (L' := [some (.ref q0), some (.int m1), some (.int m2), some (.int m3)]) (st' := [.int m3]) rfl ?_
        exact Rn.weak (ll_s (ll_s (ll_s (ll_n ll_e)))) (RX12_digits_b58 hd hR t0 p1 p2 p3 ih hk hq e)
      · rw [if_neg c_2483] at e
        refine Rn.bf hT rfl rfl rfl (decide_eq_false (fun z => c_2483 ((ti_le L32_5 (ti_sub p_2482 p2)).mp z))) ?_
        refine Rn.n hT 4 (pc' := 47) (L' := [some (.ref q0), some (.int m1), some (.int m2), some (.int m3)]) (st' := [.ref q0, .int ((10 : Int32) * m3)]) rfl ?_
        obtain ⟨v_2484, e_2484, e⟩ := Option.bind_eq_some_iff.mp e
        refine Rn.call hT rfl rfl rfl (Nat.le_of_ble_eq_true rfl) (rcv_v gX12_sign (by omega) (rp_ck hR (T12_o t0))) (RX12_sign (by omega) hR t0 e_2484 (fun z_2484 p_2484 => ?_))
        show Rn d _ _ 50 [some (.ref q0), some (.int m1), some (.int m2), some (.int m3)] [.int z_2484, .int ((10 : Int32) * m3)] h Q
        refine Rn.n hT 4 (pc' := 58) (L' := [some (.ref q0), some (.int m1), some (.int m2), some (.int m3)]) (st' := [.int ((((10 : Int32) * m3) + z_2484) - (48 : Int32))]) rfl ?_
        exact Rn.weak (ll_s (ll_s (ll_s (ll_n ll_e)))) (RX12_digits_b58 hd hR t0 p1 p2 (ti_sub (ti_add (ti_mul L32_10 p3) p_2484) L32_48) ih hk hq e)
def FX12_digits_b93 (N : Nat) (s : iv_M) (x3 : Int)  : Option (Int × iv_M) := (some (x3, s))
set_option maxRecDepth 10000 in
set_option maxHeartbeats 4000000 in
theorem RX12_digits_b93 {d N nc Ls : Nat} {Xs : Nat → Int32} (hd : 2 ≤ d) {h : iv_H} {s : iv_M} (hR : Rep nc Ls Xs h s) {m3 : Int32} {x3 : Int} (p3 : m3.toInt = x3)  {r : Int × iv_M} {Q : Option Value → iv_H → Prop} (hq : ∀ (z : Int32) (h1 : iv_H), z.toInt = r.1 → Rep nc Ls Xs h1 r.2 → Q (some (.int z)) h1) (e : FX12_digits_b93 N s x3  = some r) : Rn d 218 (some .int) 93 [none, none, none, some (.int m3)] [] h Q := by
  have hT := hX12_digits
  unfold FX12_digits_b93 at e
  refine Rn.n hT 1 (pc' := 94) (L' := [none, none, none, some (.int m3)]) (st' := [.int m3]) rfl ?_
  obtain rfl := Option.some.inj e
  exact Rn.ret hT rfl rfl rfl (hq m3 h p3 hR)
def FX12_digits_b87 (N : Nat) (s : iv_M) (q0 : Nat) (x2 : Int) (x3 : Int)  : Option (Int × iv_M) := ((FX12_fails N s q0 1 x2).bind fun s_2489 => (FX12_digits_b93 N s_2489 x3))
set_option maxRecDepth 10000 in
set_option maxHeartbeats 4000000 in
theorem RX12_digits_b87 {d N nc Ls : Nat} {Xs : Nat → Int32} (hd : 2 ≤ d) {h : iv_H} {s : iv_M} (hR : Rep nc Ls Xs h s) {q0 : Nat} (t0 : T12 nc q0) {m2 : Int32} {x2 : Int} (p2 : m2.toInt = x2) {m3 : Int32} {x3 : Int} (p3 : m3.toInt = x3)  {r : Int × iv_M} {Q : Option Value → iv_H → Prop} (hq : ∀ (z : Int32) (h1 : iv_H), z.toInt = r.1 → Rep nc Ls Xs h1 r.2 → Q (some (.int z)) h1) (e : FX12_digits_b87 N s q0 x2 x3  = some r) : Rn d 218 (some .int) 87 [some (.ref q0), none, some (.int m2), some (.int m3)] [] h Q := by
  have hT := hX12_digits
  unfold FX12_digits_b87 at e
  refine Rn.n hT 3 (pc' := 90) (L' := [some (.ref q0), none, some (.int m2), some (.int m3)]) (st' := [.int m2, .int (1 : Int32), .ref q0]) rfl ?_
  obtain ⟨s_2489, e_2488, e⟩ := Option.bind_eq_some_iff.mp e
  refine Rn.call hT rfl rfl rfl (Nat.le_of_ble_eq_true rfl) (rcv_v gX12_fails (by omega) (rp_ck hR (T12_o t0))) (RX12_fails (by omega) hR t0 L32_1 p2 e_2488 (fun h_2489 R_2489 => ?_))
  show Rn d _ _ 93 [some (.ref q0), none, some (.int m2), some (.int m3)] [] h_2489 Q
  exact Rn.weak (ll_n (ll_n (ll_n (ll_s ll_e)))) (RX12_digits_b93 hd R_2489 p3 hq e)
def FX12_digits (N : Nat) (s : iv_M) (q0 : Nat) (x1 : Int) : Option (Int × iv_M) := ((FX12_isDigit N s q0).bind fun v_2469 => (if v_2469 = 0 then ((FX12_fails N s q0 0 (s q0 29)).bind fun s_2479 => (some (0, s_2479))) else (FX12_digits_l25 N q0 x1 (s q0 29) (fun (s_2472 : iv_M) (x2473_3 : Int) => (if 5 < (w32 ((s_2472 q0 29) - (s q0 29))) then (FX12_digits_b87 N s_2472 q0 (s q0 29) x2473_3) else (if x2473_3 ≤ x1 then (FX12_digits_b93 N s_2472 x2473_3) else (FX12_digits_b87 N s_2472 q0 (s q0 29) x2473_3)))) N s 0)))
set_option maxRecDepth 10000 in
set_option maxHeartbeats 4000000 in
theorem RX12_digits {d N nc Ls : Nat} {Xs : Nat → Int32} (hd : 3 ≤ d) {h : iv_H} {s : iv_M} (hR : Rep nc Ls Xs h s) {q0 : Nat} (t0 : T12 nc q0) {m1 : Int32} {x1 : Int} (p1 : m1.toInt = x1) {r : Int × iv_M} {Q : Option Value → iv_H → Prop} (e : FX12_digits N s q0 x1 = some r) (hq : ∀ (z : Int32) (h1 : iv_H), z.toInt = r.1 → Rep nc Ls Xs h1 r.2 → Q (some (.int z)) h1) : Cl d 218 [.ref q0, .int m1] h Q := by
  obtain ⟨d, rfl⟩ : ∃ k, d = k + 1 := ⟨d - 1, by omega⟩
  have hd : 2 ≤ d := by omega
  have hT := hX12_digits
  unfold FX12_digits at e
  refine Cl.into (by decide) gX12_digits rfl ?_
  show Rn d 218 (some .int) 0 [some (.ref q0), some (.int m1), none, none] [] h Q
  refine Rn.n hT 1 (pc' := 1) (L' := [some (.ref q0), some (.int m1), none, none]) (st' := [.ref q0]) rfl ?_
  obtain ⟨v_2469, e_2469, e⟩ := Option.bind_eq_some_iff.mp e
  refine Rn.call hT rfl rfl rfl (Nat.le_of_ble_eq_true rfl) (rcv_v gX12_isDigit (by omega) (rp_ck hR (T12_o t0))) (RX12_isDigit (by omega) hR t0 e_2469 (fun z_2469 p_2469 => ?_))
  show Rn d _ _ 4 [some (.ref q0), some (.int m1), none, none] [.int z_2469] h Q
  by_cases c_2470 : v_2469 = 0
  · rw [if_pos c_2470] at e
    refine Rn.bf hT rfl rfl rfl (decide_eq_false (fun z => z ((ti_e p_2469 L32_0).mpr c_2470))) ?_
    refine Rn.n hT 3 (pc' := 10) (L' := [some (.ref q0), some (.int m1), none, none]) (st' := [.ref q0, .int (0 : Int32), .ref q0]) rfl ?_
    obtain ⟨z_2477, g_2477, p_2477⟩ : ∃ z : Int32, gI h 12 29 q0 = some z ∧ z.toInt = s q0 29 := rp_gI (k := 29) hR (T12_o t0) rfl
    refine Rn.hp hT rfl rfl (gI_hp g_2477) ?_
    obtain ⟨s_2479, e_2478, e⟩ := Option.bind_eq_some_iff.mp e
    refine Rn.call hT rfl rfl rfl (Nat.le_of_ble_eq_true rfl) (rcv_v gX12_fails (by omega) (rp_ck hR (T12_o t0))) (RX12_fails (by omega) hR t0 L32_0 p_2477 e_2478 (fun h_2479 R_2479 => ?_))
    show Rn d _ _ 16 [some (.ref q0), some (.int m1), none, none] [] h_2479 Q
    refine Rn.n hT 1 (pc' := 17) (L' := [some (.ref q0), some (.int m1), none, none]) (st' := [.int (0 : Int32)]) rfl ?_
    obtain rfl := Option.some.inj e
    exact Rn.ret hT rfl rfl rfl (hq (0 : Int32) h_2479 L32_0 R_2479)
  · rw [if_neg c_2470] at e
    refine Rn.bt hT rfl rfl rfl (decide_eq_true (fun z => c_2470 ((ti_e p_2469 L32_0).mp z))) ?_
    refine Rn.n hT 1 (pc' := 19) (L' := [some (.ref q0), some (.int m1), none, none]) (st' := [.ref q0]) rfl ?_
    obtain ⟨z_2471, g_2471, p_2471⟩ : ∃ z : Int32, gI h 12 29 q0 = some z ∧ z.toInt = s q0 29 := rp_gI (k := 29) hR (T12_o t0) rfl
    refine Rn.hp hT rfl rfl (gI_hp g_2471) ?_
    refine Rn.n hT 3 (pc' := 25) (L' := [some (.ref q0), some (.int m1), some (.int z_2471), some (.int (0 : Int32))]) (st' := []) rfl ?_
    refine Rn.weak (ll_s (ll_s (ll_s (ll_s ll_e)))) (RX12_digits_l25 hd t0 p1 p_2471 (fun h_2472 s_2472 R_2472 m2473_3 x2473_3 p2473_3 e => ?_) hq N h s hR (0 : Int32) 0 L32_0 e)
    try dsimp only at e
    refine Rn.n hT 1 (pc' := 73) (L' := [some (.ref q0), some (.int m1), some (.int z_2471), some (.int m2473_3)]) (st' := [.ref q0]) rfl ?_
    obtain ⟨z_2474, g_2474, p_2474⟩ : ∃ z : Int32, gI h_2472 12 29 q0 = some z ∧ z.toInt = s_2472 q0 29 := rp_gI (k := 29) R_2472 (T12_o t0) rfl
    refine Rn.hp hT rfl rfl (gI_hp g_2474) ?_
    refine Rn.n hT 3 (pc' := 79) (L' := [some (.ref q0), some (.int m1), some (.int z_2471), some (.int m2473_3)]) (st' := [.int (5 : Int32), .int (z_2474 - z_2471)]) rfl ?_
    by_cases c_2475 : 5 < (w32 ((s_2472 q0 29) - (s q0 29)))
    · rw [if_pos c_2475] at e
      refine Rn.bt hT rfl rfl rfl (decide_eq_true ((ti_l L32_5 (ti_sub p_2474 p_2471)).mpr c_2475)) ?_
      exact Rn.weak (ll_s (ll_n (ll_s (ll_s ll_e)))) (RX12_digits_b87 hd R_2472 t0 p_2471 p2473_3 hq e)
    · rw [if_neg c_2475] at e
      refine Rn.bf hT rfl rfl rfl (decide_eq_false (fun z => c_2475 ((ti_l L32_5 (ti_sub p_2474 p_2471)).mp z))) ?_
      refine Rn.n hT 2 (pc' := 84) (L' := [some (.ref q0), some (.int m1), some (.int z_2471), some (.int m2473_3)]) (st' := [.int m1, .int m2473_3]) rfl ?_
      by_cases c_2476 : x2473_3 ≤ x1
      · rw [if_pos c_2476] at e
        refine Rn.bt hT rfl rfl rfl (decide_eq_true ((ti_le p2473_3 p1).mpr c_2476)) ?_
        exact Rn.weak (ll_n (ll_n (ll_n (ll_s ll_e)))) (RX12_digits_b93 hd R_2472 p2473_3 hq e)
      · rw [if_neg c_2476] at e
        refine Rn.bf hT rfl rfl rfl (decide_eq_false (fun z => c_2476 ((ti_le p2473_3 p1).mp z))) ?_
        exact Rn.weak (ll_s (ll_n (ll_s (ll_s ll_e)))) (RX12_digits_b87 hd R_2472 t0 p_2471 p2473_3 hq e)
set_option maxRecDepth 10000 in
theorem hX12_value : iv_Tb 219 tX12_value := iv_tb_of (m := mX12_value) rfl
set_option maxRecDepth 10000 in
theorem gX12_value : PG.2 219 = some mX12_value := iv_pi_of (t := tX12_value) rfl (by decide)
def FX12_value_l38 (N : Nat) (q0 : Nat) (x1 : Int) (kx : iv_M → Int → Option (iv_M)) : Nat → iv_M → Int → Option (iv_M)
  | 0, _, _ => none
  | n + 1, s, x2 => (if (s q0 37) ≤ x2 then (kx s x2) else ((FX12_wordOf N s x2).bind fun v_2505 => ((FX12_stood N s q0 v_2505).bind fun v_2506 => (if v_2506 = 0 then (FX12_value_l38 N q0 x1 kx n s (w32 (x2 + 1))) else (kx s x2)))))
set_option maxRecDepth 10000 in
set_option maxHeartbeats 4000000 in
theorem RX12_value_l38 {d N nc Ls : Nat} {Xs : Nat → Int32} (hd : 11 ≤ d) {q0 : Nat} (t0 : T12 nc q0) {m1 : Int32} {x1 : Int} (p1 : m1.toInt = x1) {kx : iv_M → Int → Option (iv_M)} {r : iv_M} {Q : Option Value → iv_H → Prop} (hk : ∀ (h : iv_H) (s : iv_M) (hR : Rep nc Ls Xs h s) (m2 : Int32) (x2 : Int) (p2 : m2.toInt = x2), kx s x2 = some r → Rn d 219 none 63 [some (.ref q0), some (.int m1), some (.int m2)] [] h Q) (hq : ∀ h1, Rep nc Ls Xs h1 r → Q none h1) : ∀ (n : Nat) (h : iv_H) (s : iv_M) (hR : Rep nc Ls Xs h s) (m2 : Int32) (x2 : Int) (p2 : m2.toInt = x2), FX12_value_l38 N q0 x1 kx n s x2 = some r → Rn d 219 none 38 [some (.ref q0), some (.int m1), some (.int m2)] [] h Q := by
  have hT := hX12_value
  intro n
  induction n with
  | zero =>
    intro h s hR m2 x2 p2 e
    rw [FX12_value_l38] at e
    cases e
  | succ n ih =>
    intro h s hR m2 x2 p2 e
    rw [FX12_value_l38] at e
    refine Rn.n hT 2 (pc' := 40) (L' := [some (.ref q0), some (.int m1), some (.int m2)]) (st' := [.ref q0, .int m2]) rfl ?_
    obtain ⟨z_2503, g_2503, p_2503⟩ : ∃ z : Int32, gI h 12 37 q0 = some z ∧ z.toInt = s q0 37 := rp_gI (k := 37) hR (T12_o t0) rfl
    refine Rn.hp hT rfl rfl (gI_hp g_2503) ?_
    by_cases c_2504 : (s q0 37) ≤ x2
    · rw [if_pos c_2504] at e
      refine Rn.bt hT rfl rfl rfl (decide_eq_true ((ti_le p_2503 p2).mpr c_2504)) ?_
      exact Rn.weak (ll_s (ll_s (ll_s ll_e))) (hk h s hR m2 x2 p2 e)
    · rw [if_neg c_2504] at e
      refine Rn.bf hT rfl rfl rfl (decide_eq_false (fun z => c_2504 ((ti_le p_2503 p2).mp z))) ?_
      refine Rn.n hT 2 (pc' := 48) (L' := [some (.ref q0), some (.int m1), some (.int m2)]) (st' := [.int m2, .ref q0]) rfl ?_
      obtain ⟨v_2505, e_2505, e⟩ := Option.bind_eq_some_iff.mp e
      refine Rn.call hT rfl rfl rfl (Nat.le_of_ble_eq_true rfl) rfl (RX12_wordOf (by omega) hR p2 e_2505 (fun t_2505 => ?_))
      show Rn d _ _ 51 [some (.ref q0), some (.int m1), some (.int m2)] [.ref v_2505, .ref q0] h Q
      obtain ⟨v_2506, e_2506, e⟩ := Option.bind_eq_some_iff.mp e
      refine Rn.call hT rfl rfl rfl (Nat.le_of_ble_eq_true rfl) (rcv_v gX12_stood (by omega) (rp_ck hR (T12_o t0))) (RX12_stood (by omega) hR t0 t_2505 e_2506 (fun z_2506 p_2506 => ?_))
      show Rn d _ _ 54 [some (.ref q0), some (.int m1), some (.int m2)] [.int z_2506] h Q
      by_cases c_2507 : v_2506 = 0
      · rw [if_pos c_2507] at e
        refine Rn.bf hT rfl rfl rfl (decide_eq_false (fun z => z ((ti_e p_2506 L32_0).mpr c_2507))) ?_
        refine Rn.n hT 2 (pc' := 38) (L' := [some (.ref q0), some (.int m1), some (.int (m2 + (1 : Int32)))]) (st' := []) rfl ?_
        exact Rn.weak (ll_s (ll_s (ll_s ll_e))) (ih h s hR (m2 + (1 : Int32)) (w32 (x2 + 1)) (ti_add p2 L32_1) e)
      · rw [if_neg c_2507] at e
        refine Rn.bt hT rfl rfl rfl (decide_eq_true (fun z => c_2507 ((ti_e p_2506 L32_0).mp z))) ?_
        exact Rn.weak (ll_s (ll_s (ll_s ll_e))) (hk h s hR m2 x2 p2 e)
def FX12_value_b63 (N : Nat) (s : iv_M) (q0 : Nat) (x1 : Int) (x2 : Int)  : Option (iv_M) := (if x2 = (s q0 37) then ((FX12_fails N s q0 0 x1).bind fun s_2520 => some s_2520) else ((FX12_isCounted N s q0 x1).bind fun s_2511 => ((FX12_wordOf N s_2511 x2).bind fun v_2513 => ((pt s_2511 q0 29 (w32 ((s_2511 q0 29) + (tL v_2513)))).bind fun s_2515 => ((FX12_entry N s_2515 q0 1 x2).bind fun s_2518 => some s_2518)))))
set_option maxRecDepth 10000 in
set_option maxHeartbeats 4000000 in
theorem RX12_value_b63 {d N nc Ls : Nat} {Xs : Nat → Int32} (hd : 11 ≤ d) {h : iv_H} {s : iv_M} (hR : Rep nc Ls Xs h s) {q0 : Nat} (t0 : T12 nc q0) {m1 : Int32} {x1 : Int} (p1 : m1.toInt = x1) {m2 : Int32} {x2 : Int} (p2 : m2.toInt = x2)  {r : iv_M} {Q : Option Value → iv_H → Prop} (hq : ∀ h1, Rep nc Ls Xs h1 r → Q none h1) (e : FX12_value_b63 N s q0 x1 x2  = some r) : Rn d 219 none 63 [some (.ref q0), some (.int m1), some (.int m2)] [] h Q := by
  have hT := hX12_value
  unfold FX12_value_b63 at e
  refine Rn.n hT 2 (pc' := 65) (L' := [some (.ref q0), some (.int m1), some (.int m2)]) (st' := [.ref q0, .int m2]) rfl ?_
  obtain ⟨z_2508, g_2508, p_2508⟩ : ∃ z : Int32, gI h 12 37 q0 = some z ∧ z.toInt = s q0 37 := rp_gI (k := 37) hR (T12_o t0) rfl
  refine Rn.hp hT rfl rfl (gI_hp g_2508) ?_
  by_cases c_2509 : x2 = (s q0 37)
  · rw [if_pos c_2509] at e
    refine Rn.bf hT rfl rfl rfl (decide_eq_false (fun z => z ((ti_e p2 p_2508).mpr c_2509))) ?_
    refine Rn.n hT 3 (pc' := 74) (L' := [some (.ref q0), some (.int m1), some (.int m2)]) (st' := [.int m1, .int (0 : Int32), .ref q0]) rfl ?_
    obtain ⟨s_2520, e_2519, e⟩ := Option.bind_eq_some_iff.mp e
    refine Rn.call hT rfl rfl rfl (Nat.le_of_ble_eq_true rfl) (rcv_v gX12_fails (by omega) (rp_ck hR (T12_o t0))) (RX12_fails (by omega) hR t0 L32_0 p1 e_2519 (fun h_2520 R_2520 => ?_))
    show Rn d _ _ 77 [some (.ref q0), some (.int m1), some (.int m2)] [] h_2520 Q
    obtain rfl := Option.some.inj e
    exact Rn.ret hT rfl rfl rfl (hq h_2520 R_2520)
  · rw [if_neg c_2509] at e
    refine Rn.bt hT rfl rfl rfl (decide_eq_true (fun z => c_2509 ((ti_e p2 p_2508).mp z))) ?_
    refine Rn.n hT 2 (pc' := 80) (L' := [some (.ref q0), some (.int m1), some (.int m2)]) (st' := [.int m1, .ref q0]) rfl ?_
    obtain ⟨s_2511, e_2510, e⟩ := Option.bind_eq_some_iff.mp e
    refine Rn.call hT rfl rfl rfl (Nat.le_of_ble_eq_true rfl) (rcv_v gX12_isCounted (by omega) (rp_ck hR (T12_o t0))) (RX12_isCounted (by omega) hR t0 p1 e_2510 (fun h_2511 R_2511 => ?_))
    show Rn d _ _ 83 [some (.ref q0), some (.int m1), some (.int m2)] [] h_2511 Q
    refine Rn.n hT 2 (pc' := 85) (L' := [some (.ref q0), some (.int m1), some (.int m2)]) (st' := [.ref q0, .ref q0]) rfl ?_
    obtain ⟨z_2512, g_2512, p_2512⟩ : ∃ z : Int32, gI h_2511 12 29 q0 = some z ∧ z.toInt = s_2511 q0 29 := rp_gI (k := 29) R_2511 (T12_o t0) rfl
    refine Rn.hp hT rfl rfl (gI_hp g_2512) ?_
    refine Rn.n hT 1 (pc' := 89) (L' := [some (.ref q0), some (.int m1), some (.int m2)]) (st' := [.int m2, .int z_2512, .ref q0]) rfl ?_
    obtain ⟨v_2513, e_2513, e⟩ := Option.bind_eq_some_iff.mp e
    refine Rn.call hT rfl rfl rfl (Nat.le_of_ble_eq_true rfl) rfl (RX12_wordOf (by omega) R_2511 p2 e_2513 (fun t_2513 => ?_))
    show Rn d _ _ 92 [some (.ref q0), some (.int m1), some (.int m2)] [.ref v_2513, .int z_2512, .ref q0] h_2511 Q
    obtain ⟨z_2514, g_2514, p_2514⟩ := rp_sL R_2511 t_2513
    refine Rn.call hT rfl rfl rfl (Nat.le_of_ble_eq_true rfl) rfl (sL_cl (by omega) g_2514 ?_)
    show Rn d _ _ 95 [some (.ref q0), some (.int m1), some (.int m2)] [.int z_2514, .int z_2512, .ref q0] h_2511 Q
    refine Rn.n hT 1 (pc' := 96) (L' := [some (.ref q0), some (.int m1), some (.int m2)]) (st' := [.int (z_2512 + z_2514), .ref q0]) rfl ?_
    obtain ⟨s_2515, e_2516, e⟩ := Option.bind_eq_some_iff.mp e
    obtain ⟨h_2515, g_2516, R_2515⟩ := rp_pI (ci := 12) (k := 29) R_2511 (T12_o t0) rfl rfl (ti_add p_2512 p_2514) e_2516
    refine Rn.hp hT rfl rfl (pV_hp rfl g_2516) ?_
    refine Rn.n hT 3 (pc' := 102) (L' := [some (.ref q0), some (.int m1), some (.int m2)]) (st' := [.int m2, .int (1 : Int32), .ref q0]) rfl ?_
    obtain ⟨s_2518, e_2517, e⟩ := Option.bind_eq_some_iff.mp e
    refine Rn.call hT rfl rfl rfl (Nat.le_of_ble_eq_true rfl) (rcv_v gX12_entry (by omega) (rp_ck R_2515 (T12_o t0))) (RX12_entry (by omega) R_2515 t0 L32_1 p2 e_2517 (fun h_2518 R_2518 => ?_))
    show Rn d _ _ 105 [some (.ref q0), some (.int m1), some (.int m2)] [] h_2518 Q
    obtain rfl := Option.some.inj e
    exact Rn.ret hT rfl rfl rfl (hq h_2518 R_2518)
def FX12_value (N : Nat) (s : iv_M) (q0 : Nat) : Option (iv_M) := ((FX12_blanks N s q0).bind fun s_2491 => ((FX12_isDigit N s_2491 q0).bind fun v_2493 => (if v_2493 = 0 then (FX12_value_l38 N q0 (s_2491 q0 29) (fun (s_2495 : iv_M) (x2496_2 : Int) => (FX12_value_b63 N s_2495 q0 (s_2491 q0 29) x2496_2)) N s_2491 0) else ((FX12_digits N s_2491 q0 99999).bind fun r_2497 => (fun (v_2497 : Int) (s_2498 : iv_M) => ((FX12_isCounted N s_2498 q0 (s_2491 q0 29)).bind fun s_2500 => ((FX12_entry N s_2500 q0 0 v_2497).bind fun s_2502 => some s_2502))) r_2497.1 r_2497.2))))
set_option maxRecDepth 10000 in
set_option maxHeartbeats 4000000 in
theorem RX12_value {d N nc Ls : Nat} {Xs : Nat → Int32} (hd : 12 ≤ d) {h : iv_H} {s : iv_M} (hR : Rep nc Ls Xs h s) {q0 : Nat} (t0 : T12 nc q0) {r : iv_M} {Q : Option Value → iv_H → Prop} (e : FX12_value N s q0 = some r) (hq : ∀ h1, Rep nc Ls Xs h1 r → Q none h1) : Cl d 219 [.ref q0] h Q := by
  obtain ⟨d, rfl⟩ : ∃ k, d = k + 1 := ⟨d - 1, by omega⟩
  have hd : 11 ≤ d := by omega
  have hT := hX12_value
  unfold FX12_value at e
  refine Cl.into (by decide) gX12_value rfl ?_
  show Rn d 219 none 0 [some (.ref q0), none, none] [] h Q
  refine Rn.n hT 1 (pc' := 1) (L' := [some (.ref q0), none, none]) (st' := [.ref q0]) rfl ?_
  obtain ⟨s_2491, e_2490, e⟩ := Option.bind_eq_some_iff.mp e
  refine Rn.call hT rfl rfl rfl (Nat.le_of_ble_eq_true rfl) (rcv_v gX12_blanks (by omega) (rp_ck hR (T12_o t0))) (RX12_blanks (by omega) hR t0 e_2490 (fun h_2491 R_2491 => ?_))
  show Rn d _ _ 4 [some (.ref q0), none, none] [] h_2491 Q
  refine Rn.n hT 1 (pc' := 5) (L' := [some (.ref q0), none, none]) (st' := [.ref q0]) rfl ?_
  obtain ⟨z_2492, g_2492, p_2492⟩ : ∃ z : Int32, gI h_2491 12 29 q0 = some z ∧ z.toInt = s_2491 q0 29 := rp_gI (k := 29) R_2491 (T12_o t0) rfl
  refine Rn.hp hT rfl rfl (gI_hp g_2492) ?_
  refine Rn.n hT 2 (pc' := 10) (L' := [some (.ref q0), some (.int z_2492), none]) (st' := [.ref q0]) rfl ?_
  obtain ⟨v_2493, e_2493, e⟩ := Option.bind_eq_some_iff.mp e
  refine Rn.call hT rfl rfl rfl (Nat.le_of_ble_eq_true rfl) (rcv_v gX12_isDigit (by omega) (rp_ck R_2491 (T12_o t0))) (RX12_isDigit (by omega) R_2491 t0 e_2493 (fun z_2493 p_2493 => ?_))
  show Rn d _ _ 13 [some (.ref q0), some (.int z_2492), none] [.int z_2493] h_2491 Q
  by_cases c_2494 : v_2493 = 0
  · rw [if_pos c_2494] at e
    refine Rn.bt hT rfl rfl rfl (decide_eq_true ((ti_e p_2493 L32_0).mpr c_2494)) ?_
    refine Rn.n hT 2 (pc' := 38) (L' := [some (.ref q0), some (.int z_2492), some (.int (0 : Int32))]) (st' := []) rfl ?_
    refine Rn.weak (ll_s (ll_s (ll_s ll_e))) (RX12_value_l38 hd t0 p_2492 (fun h_2495 s_2495 R_2495 m2496_2 x2496_2 p2496_2 e => ?_) hq N h_2491 s_2491 R_2491 (0 : Int32) 0 L32_0 e)
    try dsimp only at e
    exact Rn.weak (ll_s (ll_s (ll_s ll_e))) (RX12_value_b63 hd R_2495 t0 p_2492 p2496_2 hq e)
  · rw [if_neg c_2494] at e
    refine Rn.bf hT rfl rfl rfl (decide_eq_false (fun z => c_2494 ((ti_e p_2493 L32_0).mp z))) ?_
    refine Rn.n hT 2 (pc' := 20) (L' := [some (.ref q0), some (.int z_2492), none]) (st' := [.int (99999 : Int32), .ref q0]) rfl ?_
    obtain ⟨⟨v_2497, s_2498⟩, e_2497, e⟩ := Option.bind_eq_some_iff.mp e
    try dsimp only at e
    try dsimp only at e
    refine Rn.call hT rfl rfl rfl (Nat.le_of_ble_eq_true rfl) (rcv_v gX12_digits (by omega) (rp_ck R_2491 (T12_o t0))) (RX12_digits (by omega) R_2491 t0 L32_99999 e_2497 (fun z_2497 h_2498 p_2497 R_2498 => ?_))
    show Rn d _ _ 23 [some (.ref q0), some (.int z_2492), none] [.int z_2497] h_2498 Q
    refine Rn.n hT 3 (pc' := 26) (L' := [some (.ref q0), some (.int z_2492), some (.int z_2497)]) (st' := [.int z_2492, .ref q0]) rfl ?_
    obtain ⟨s_2500, e_2499, e⟩ := Option.bind_eq_some_iff.mp e
    refine Rn.call hT rfl rfl rfl (Nat.le_of_ble_eq_true rfl) (rcv_v gX12_isCounted (by omega) (rp_ck R_2498 (T12_o t0))) (RX12_isCounted (by omega) R_2498 t0 p_2492 e_2499 (fun h_2500 R_2500 => ?_))
    show Rn d _ _ 29 [some (.ref q0), some (.int z_2492), some (.int z_2497)] [] h_2500 Q
    refine Rn.n hT 3 (pc' := 32) (L' := [some (.ref q0), some (.int z_2492), some (.int z_2497)]) (st' := [.int z_2497, .int (0 : Int32), .ref q0]) rfl ?_
    obtain ⟨s_2502, e_2501, e⟩ := Option.bind_eq_some_iff.mp e
    refine Rn.call hT rfl rfl rfl (Nat.le_of_ble_eq_true rfl) (rcv_v gX12_entry (by omega) (rp_ck R_2500 (T12_o t0))) (RX12_entry (by omega) R_2500 t0 L32_0 p_2497 e_2501 (fun h_2502 R_2502 => ?_))
    show Rn d _ _ 35 [some (.ref q0), some (.int z_2492), some (.int z_2497)] [] h_2502 Q
    obtain rfl := Option.some.inj e
    exact Rn.ret hT rfl rfl rfl (hq h_2502 R_2502)
set_option maxRecDepth 10000 in
theorem hX12_term : iv_Tb 220 tX12_term := iv_tb_of (m := mX12_term) rfl
set_option maxRecDepth 10000 in
theorem gX12_term : PG.2 220 = some mX12_term := iv_pi_of (t := tX12_term) rfl (by decide)
def FX12_term_b72 (N : Nat) (s : iv_M) (q0 : Nat) (xs0 : Int) (kb : iv_M → Option (iv_M)) (kx : iv_M → Option (iv_M)) : Option (iv_M) := ((pt s q0 29 (w32 ((s q0 29) + 1))).bind fun s_2540 => ((FX12_value N s_2540 q0).bind fun s_2543 => ((FX12_entry N s_2543 q0 xs0 0).bind fun s_2545 => ((FX12_blanks N s_2545 q0).bind fun s_2547 => (kb s_2547)))))
set_option maxRecDepth 10000 in
set_option maxHeartbeats 4000000 in
theorem RX12_term_b72 {d N nc Ls : Nat} {Xs : Nat → Int32} (hd : 12 ≤ d) {h : iv_H} {s : iv_M} (hR : Rep nc Ls Xs h s) {q0 : Nat} (t0 : T12 nc q0) {ms0 : Int32} {xs0 : Int} (ps0 : ms0.toInt = xs0) {kb : iv_M → Option (iv_M)} {kx : iv_M → Option (iv_M)} {r : iv_M} {Q : Option Value → iv_H → Prop} (hb : ∀ (h : iv_H) (s : iv_M) (hR : Rep nc Ls Xs h s), kb s = some r → Rn d 220 none 8 [some (.ref q0), none] [] h Q) (hk : ∀ (h : iv_H) (s : iv_M) (hR : Rep nc Ls Xs h s), kx s = some r → Rn d 220 none 100 [none, none] [] h Q) (hq : ∀ h1, Rep nc Ls Xs h1 r → Q none h1) (e : FX12_term_b72 N s q0 xs0 kb kx = some r) : Rn d 220 none 72 [some (.ref q0), none] [.int ms0] h Q := by
  have hT := hX12_term
  unfold FX12_term_b72 at e
  refine Rn.n hT 3 (pc' := 75) (L' := [some (.ref q0), some (.int ms0)]) (st' := [.ref q0, .ref q0]) rfl ?_
  obtain ⟨z_2539, g_2539, p_2539⟩ : ∃ z : Int32, gI h 12 29 q0 = some z ∧ z.toInt = s q0 29 := rp_gI (k := 29) hR (T12_o t0) rfl
  refine Rn.hp hT rfl rfl (gI_hp g_2539) ?_
  refine Rn.n hT 2 (pc' := 80) (L' := [some (.ref q0), some (.int ms0)]) (st' := [.int (z_2539 + (1 : Int32)), .ref q0]) rfl ?_
  obtain ⟨s_2540, e_2541, e⟩ := Option.bind_eq_some_iff.mp e
  obtain ⟨h_2540, g_2541, R_2540⟩ := rp_pI (ci := 12) (k := 29) hR (T12_o t0) rfl rfl (ti_add p_2539 L32_1) e_2541
  refine Rn.hp hT rfl rfl (pV_hp rfl g_2541) ?_
  refine Rn.n hT 1 (pc' := 84) (L' := [some (.ref q0), some (.int ms0)]) (st' := [.ref q0]) rfl ?_
  obtain ⟨s_2543, e_2542, e⟩ := Option.bind_eq_some_iff.mp e
  refine Rn.call hT rfl rfl rfl (Nat.le_of_ble_eq_true rfl) (rcv_v gX12_value (by omega) (rp_ck R_2540 (T12_o t0))) (RX12_value (by omega) R_2540 t0 e_2542 (fun h_2543 R_2543 => ?_))
  show Rn d _ _ 87 [some (.ref q0), some (.int ms0)] [] h_2543 Q
  refine Rn.n hT 3 (pc' := 90) (L' := [some (.ref q0), some (.int ms0)]) (st' := [.int (0 : Int32), .int ms0, .ref q0]) rfl ?_
  obtain ⟨s_2545, e_2544, e⟩ := Option.bind_eq_some_iff.mp e
  refine Rn.call hT rfl rfl rfl (Nat.le_of_ble_eq_true rfl) (rcv_v gX12_entry (by omega) (rp_ck R_2543 (T12_o t0))) (RX12_entry (by omega) R_2543 t0 ps0 L32_0 e_2544 (fun h_2545 R_2545 => ?_))
  show Rn d _ _ 93 [some (.ref q0), some (.int ms0)] [] h_2545 Q
  refine Rn.n hT 1 (pc' := 94) (L' := [some (.ref q0), some (.int ms0)]) (st' := [.ref q0]) rfl ?_
  obtain ⟨s_2547, e_2546, e⟩ := Option.bind_eq_some_iff.mp e
  refine Rn.call hT rfl rfl rfl (Nat.le_of_ble_eq_true rfl) (rcv_v gX12_blanks (by omega) (rp_ck R_2545 (T12_o t0))) (RX12_blanks (by omega) R_2545 t0 e_2546 (fun h_2547 R_2547 => ?_))
  show Rn d _ _ 97 [some (.ref q0), some (.int ms0)] [] h_2547 Q
  refine Rn.n hT 1 (pc' := 8) (L' := [some (.ref q0), some (.int ms0)]) (st' := []) rfl ?_
  exact Rn.weak (ll_s (ll_n ll_e)) (hb h_2547 s_2547 R_2547 e)
def FX12_term_b42 (N : Nat) (s : iv_M) (q0 : Nat)  (kb : iv_M → Option (iv_M)) (kx : iv_M → Option (iv_M)) : Option (iv_M) := ((FX12_sign N s q0).bind fun v_2535 => (if v_2535 = 42 then (FX12_term_b72 N s q0 13 kb kx) else ((FX12_sign N s q0).bind fun v_2537 => (if v_2537 = 47 then (FX12_term_b72 N s q0 14 kb kx) else (FX12_term_b72 N s q0 15 kb kx)))))
set_option maxRecDepth 10000 in
set_option maxHeartbeats 4000000 in
theorem RX12_term_b42 {d N nc Ls : Nat} {Xs : Nat → Int32} (hd : 12 ≤ d) {h : iv_H} {s : iv_M} (hR : Rep nc Ls Xs h s) {q0 : Nat} (t0 : T12 nc q0)  {kb : iv_M → Option (iv_M)} {kx : iv_M → Option (iv_M)} {r : iv_M} {Q : Option Value → iv_H → Prop} (hb : ∀ (h : iv_H) (s : iv_M) (hR : Rep nc Ls Xs h s), kb s = some r → Rn d 220 none 8 [some (.ref q0), none] [] h Q) (hk : ∀ (h : iv_H) (s : iv_M) (hR : Rep nc Ls Xs h s), kx s = some r → Rn d 220 none 100 [none, none] [] h Q) (hq : ∀ h1, Rep nc Ls Xs h1 r → Q none h1) (e : FX12_term_b42 N s q0  kb kx = some r) : Rn d 220 none 42 [some (.ref q0), none] [] h Q := by
  have hT := hX12_term
  unfold FX12_term_b42 at e
  refine Rn.n hT 1 (pc' := 43) (L' := [some (.ref q0), none]) (st' := [.ref q0]) rfl ?_
  obtain ⟨v_2535, e_2535, e⟩ := Option.bind_eq_some_iff.mp e
  refine Rn.call hT rfl rfl rfl (Nat.le_of_ble_eq_true rfl) (rcv_v gX12_sign (by omega) (rp_ck hR (T12_o t0))) (RX12_sign (by omega) hR t0 e_2535 (fun z_2535 p_2535 => ?_))
  show Rn d _ _ 46 [some (.ref q0), none] [.int z_2535] h Q
  refine Rn.n hT 1 (pc' := 48) (L' := [some (.ref q0), none]) (st' := [.int (42 : Int32), .int z_2535]) rfl ?_
  by_cases c_2536 : v_2535 = 42
  · rw [if_pos c_2536] at e
    refine Rn.bf hT rfl rfl rfl (decide_eq_false (fun z => z ((ti_e p_2535 L32_42).mpr c_2536))) ?_
    refine Rn.n hT 2 (pc' := 72) (L' := [some (.ref q0), none]) (st' := [.int (13 : Int32)]) rfl ?_
    exact Rn.weak (ll_s (ll_n ll_e)) (RX12_term_b72 hd hR t0 L32_13 hb hk hq e)
  · rw [if_neg c_2536] at e
    refine Rn.bt hT rfl rfl rfl (decide_eq_true (fun z => c_2536 ((ti_e p_2535 L32_42).mp z))) ?_
    refine Rn.n hT 1 (pc' := 57) (L' := [some (.ref q0), none]) (st' := [.ref q0]) rfl ?_
    obtain ⟨v_2537, e_2537, e⟩ := Option.bind_eq_some_iff.mp e
    refine Rn.call hT rfl rfl rfl (Nat.le_of_ble_eq_true rfl) (rcv_v gX12_sign (by omega) (rp_ck hR (T12_o t0))) (RX12_sign (by omega) hR t0 e_2537 (fun z_2537 p_2537 => ?_))
    show Rn d _ _ 60 [some (.ref q0), none] [.int z_2537] h Q
    refine Rn.n hT 1 (pc' := 62) (L' := [some (.ref q0), none]) (st' := [.int (47 : Int32), .int z_2537]) rfl ?_
    by_cases c_2538 : v_2537 = 47
    · rw [if_pos c_2538] at e
      refine Rn.bf hT rfl rfl rfl (decide_eq_false (fun z => z ((ti_e p_2537 L32_47).mpr c_2538))) ?_
      refine Rn.n hT 2 (pc' := 72) (L' := [some (.ref q0), none]) (st' := [.int (14 : Int32)]) rfl ?_
      exact Rn.weak (ll_s (ll_n ll_e)) (RX12_term_b72 hd hR t0 L32_14 hb hk hq e)
    · rw [if_neg c_2538] at e
      refine Rn.bt hT rfl rfl rfl (decide_eq_true (fun z => c_2538 ((ti_e p_2537 L32_47).mp z))) ?_
      refine Rn.n hT 1 (pc' := 72) (L' := [some (.ref q0), none]) (st' := [.int (15 : Int32)]) rfl ?_
      exact Rn.weak (ll_s (ll_n ll_e)) (RX12_term_b72 hd hR t0 L32_15 hb hk hq e)
def FX12_term_l8 (N : Nat) (q0 : Nat) (kx : iv_M → Option (iv_M)) : Nat → iv_M → Option (iv_M)
  | 0, _ => none
  | n + 1, s => (if (s q0 30) = 0 then ((FX12_sign N s q0).bind fun v_2529 => (if v_2529 = 42 then (FX12_term_b42 N s q0 (FX12_term_l8 N q0 kx n) kx) else ((FX12_sign N s q0).bind fun v_2531 => (if v_2531 = 47 then (FX12_term_b42 N s q0 (FX12_term_l8 N q0 kx n) kx) else ((FX12_sign N s q0).bind fun v_2533 => (if v_2533 = 37 then (FX12_term_b42 N s q0 (FX12_term_l8 N q0 kx n) kx) else (kx s))))))) else (kx s))
set_option maxRecDepth 10000 in
set_option maxHeartbeats 4000000 in
theorem RX12_term_l8 {d N nc Ls : Nat} {Xs : Nat → Int32} (hd : 12 ≤ d) {q0 : Nat} (t0 : T12 nc q0) {kx : iv_M → Option (iv_M)} {r : iv_M} {Q : Option Value → iv_H → Prop} (hk : ∀ (h : iv_H) (s : iv_M) (hR : Rep nc Ls Xs h s), kx s = some r → Rn d 220 none 100 [none, none] [] h Q) (hq : ∀ h1, Rep nc Ls Xs h1 r → Q none h1) : ∀ (n : Nat) (h : iv_H) (s : iv_M) (hR : Rep nc Ls Xs h s), FX12_term_l8 N q0 kx n s = some r → Rn d 220 none 8 [some (.ref q0), none] [] h Q := by
  have hT := hX12_term
  intro n
  induction n with
  | zero =>
    intro h s hR e
    rw [FX12_term_l8] at e
    cases e
  | succ n ih =>
    intro h s hR e
    rw [FX12_term_l8] at e
    refine Rn.n hT 1 (pc' := 9) (L' := [some (.ref q0), none]) (st' := [.ref q0]) rfl ?_
    obtain ⟨z_2527, g_2527, p_2527⟩ : ∃ z : Int32, gI h 12 30 q0 = some z ∧ z.toInt = s q0 30 := rp_gI (k := 30) hR (T12_o t0) rfl
    refine Rn.hp hT rfl rfl (gI_hp g_2527) ?_
    by_cases c_2528 : (s q0 30) = 0
    · rw [if_pos c_2528] at e
      refine Rn.bf hT rfl rfl rfl (decide_eq_false (fun z => z ((ti_e p_2527 L32_0).mpr c_2528))) ?_
      refine Rn.n hT 1 (pc' := 16) (L' := [some (.ref q0), none]) (st' := [.ref q0]) rfl ?_
      obtain ⟨v_2529, e_2529, e⟩ := Option.bind_eq_some_iff.mp e
      refine Rn.call hT rfl rfl rfl (Nat.le_of_ble_eq_true rfl) (rcv_v gX12_sign (by omega) (rp_ck hR (T12_o t0))) (RX12_sign (by omega) hR t0 e_2529 (fun z_2529 p_2529 => ?_))
      show Rn d _ _ 19 [some (.ref q0), none] [.int z_2529] h Q
      refine Rn.n hT 1 (pc' := 21) (L' := [some (.ref q0), none]) (st' := [.int (42 : Int32), .int z_2529]) rfl ?_
      by_cases c_2530 : v_2529 = 42
      · rw [if_pos c_2530] at e
        refine Rn.bt hT rfl rfl rfl (decide_eq_true ((ti_e p_2529 L32_42).mpr c_2530)) ?_
        exact Rn.weak (ll_s (ll_n ll_e)) (RX12_term_b42 hd hR t0 ih hk hq e)
      · rw [if_neg c_2530] at e
        refine Rn.bf hT rfl rfl rfl (decide_eq_false (fun z => c_2530 ((ti_e p_2529 L32_42).mp z))) ?_
        refine Rn.n hT 1 (pc' := 25) (L' := [some (.ref q0), none]) (st' := [.ref q0]) rfl ?_
        obtain ⟨v_2531, e_2531, e⟩ := Option.bind_eq_some_iff.mp e
        refine Rn.call hT rfl rfl rfl (Nat.le_of_ble_eq_true rfl) (rcv_v gX12_sign (by omega) (rp_ck hR (T12_o t0))) (RX12_sign (by omega) hR t0 e_2531 (fun z_2531 p_2531 => ?_))
        show Rn d _ _ 28 [some (.ref q0), none] [.int z_2531] h Q
        refine Rn.n hT 1 (pc' := 30) (L' := [some (.ref q0), none]) (st' := [.int (47 : Int32), .int z_2531]) rfl ?_
        by_cases c_2532 : v_2531 = 47
        · rw [if_pos c_2532] at e
          refine Rn.bt hT rfl rfl rfl (decide_eq_true ((ti_e p_2531 L32_47).mpr c_2532)) ?_
          exact Rn.weak (ll_s (ll_n ll_e)) (RX12_term_b42 hd hR t0 ih hk hq e)
        · rw [if_neg c_2532] at e
          refine Rn.bf hT rfl rfl rfl (decide_eq_false (fun z => c_2532 ((ti_e p_2531 L32_47).mp z))) ?_
          refine Rn.n hT 1 (pc' := 34) (L' := [some (.ref q0), none]) (st' := [.ref q0]) rfl ?_
          obtain ⟨v_2533, e_2533, e⟩ := Option.bind_eq_some_iff.mp e
          refine Rn.call hT rfl rfl rfl (Nat.le_of_ble_eq_true rfl) (rcv_v gX12_sign (by omega) (rp_ck hR (T12_o t0))) (RX12_sign (by omega) hR t0 e_2533 (fun z_2533 p_2533 => ?_))
          show Rn d _ _ 37 [some (.ref q0), none] [.int z_2533] h Q
          refine Rn.n hT 1 (pc' := 39) (L' := [some (.ref q0), none]) (st' := [.int (37 : Int32), .int z_2533]) rfl ?_
          by_cases c_2534 : v_2533 = 37
          · rw [if_pos c_2534] at e
            refine Rn.bf hT rfl rfl rfl (decide_eq_false (fun z => z ((ti_e p_2533 L32_37).mpr c_2534))) ?_
            exact Rn.weak (ll_s (ll_n ll_e)) (RX12_term_b42 hd hR t0 ih hk hq e)
          · rw [if_neg c_2534] at e
            refine Rn.bt hT rfl rfl rfl (decide_eq_true (fun z => c_2534 ((ti_e p_2533 L32_37).mp z))) ?_
            exact Rn.weak (ll_n (ll_n ll_e)) (hk h s hR e)
    · rw [if_neg c_2528] at e
      refine Rn.bt hT rfl rfl rfl (decide_eq_true (fun z => c_2528 ((ti_e p_2527 L32_0).mp z))) ?_
      exact Rn.weak (ll_n (ll_n ll_e)) (hk h s hR e)
def FX12_term_b100 (N : Nat) (s : iv_M)   : Option (iv_M) := some s
set_option maxRecDepth 10000 in
set_option maxHeartbeats 4000000 in
theorem RX12_term_b100 {d N nc Ls : Nat} {Xs : Nat → Int32} (hd : 12 ≤ d) {h : iv_H} {s : iv_M} (hR : Rep nc Ls Xs h s)   {r : iv_M} {Q : Option Value → iv_H → Prop} (hq : ∀ h1, Rep nc Ls Xs h1 r → Q none h1) (e : FX12_term_b100 N s   = some r) : Rn d 220 none 100 [none, none] [] h Q := by
  have hT := hX12_term
  unfold FX12_term_b100 at e
  obtain rfl := Option.some.inj e
  exact Rn.ret hT rfl rfl rfl (hq h hR)
def FX12_term (N : Nat) (s : iv_M) (q0 : Nat) : Option (iv_M) := ((FX12_value N s q0).bind fun s_2522 => ((FX12_blanks N s_2522 q0).bind fun s_2524 => (FX12_term_l8 N q0 (fun (s_2525 : iv_M) => (FX12_term_b100 N s_2525)) N s_2524)))
set_option maxRecDepth 10000 in
set_option maxHeartbeats 4000000 in
theorem RX12_term {d N nc Ls : Nat} {Xs : Nat → Int32} (hd : 13 ≤ d) {h : iv_H} {s : iv_M} (hR : Rep nc Ls Xs h s) {q0 : Nat} (t0 : T12 nc q0) {r : iv_M} {Q : Option Value → iv_H → Prop} (e : FX12_term N s q0 = some r) (hq : ∀ h1, Rep nc Ls Xs h1 r → Q none h1) : Cl d 220 [.ref q0] h Q := by
  obtain ⟨d, rfl⟩ : ∃ k, d = k + 1 := ⟨d - 1, by omega⟩
  have hd : 12 ≤ d := by omega
  have hT := hX12_term
  unfold FX12_term at e
  refine Cl.into (by decide) gX12_term rfl ?_
  show Rn d 220 none 0 [some (.ref q0), none] [] h Q
  refine Rn.n hT 1 (pc' := 1) (L' := [some (.ref q0), none]) (st' := [.ref q0]) rfl ?_
  obtain ⟨s_2522, e_2521, e⟩ := Option.bind_eq_some_iff.mp e
  refine Rn.call hT rfl rfl rfl (Nat.le_of_ble_eq_true rfl) (rcv_v gX12_value (by omega) (rp_ck hR (T12_o t0))) (RX12_value (by omega) hR t0 e_2521 (fun h_2522 R_2522 => ?_))
  show Rn d _ _ 4 [some (.ref q0), none] [] h_2522 Q
  refine Rn.n hT 1 (pc' := 5) (L' := [some (.ref q0), none]) (st' := [.ref q0]) rfl ?_
  obtain ⟨s_2524, e_2523, e⟩ := Option.bind_eq_some_iff.mp e
  refine Rn.call hT rfl rfl rfl (Nat.le_of_ble_eq_true rfl) (rcv_v gX12_blanks (by omega) (rp_ck R_2522 (T12_o t0))) (RX12_blanks (by omega) R_2522 t0 e_2523 (fun h_2524 R_2524 => ?_))
  show Rn d _ _ 8 [some (.ref q0), none] [] h_2524 Q
  refine Rn.weak (ll_s (ll_n ll_e)) (RX12_term_l8 hd t0 (fun h_2525 s_2525 R_2525 e => ?_) hq N h_2524 s_2524 R_2524 e)
  try dsimp only at e
  exact Rn.weak (ll_n (ll_n ll_e)) (RX12_term_b100 hd R_2525 hq e)
set_option maxRecDepth 10000 in
theorem hX12_sum : iv_Tb 221 tX12_sum := iv_tb_of (m := mX12_sum) rfl
set_option maxRecDepth 10000 in
theorem gX12_sum : PG.2 221 = some mX12_sum := iv_pi_of (t := tX12_sum) rfl (by decide)
def FX12_sum_b43 (N : Nat) (s : iv_M) (q0 : Nat) (xs0 : Int) (kb : iv_M → Option (iv_M)) (kx : iv_M → Option (iv_M)) : Option (iv_M) := ((pt s q0 29 (w32 ((s q0 29) + 1))).bind fun s_2561 => ((FX12_term N s_2561 q0).bind fun s_2564 => ((FX12_entry N s_2564 q0 xs0 0).bind fun s_2566 => (kb s_2566))))
set_option maxRecDepth 10000 in
set_option maxHeartbeats 4000000 in
theorem RX12_sum_b43 {d N nc Ls : Nat} {Xs : Nat → Int32} (hd : 13 ≤ d) {h : iv_H} {s : iv_M} (hR : Rep nc Ls Xs h s) {q0 : Nat} (t0 : T12 nc q0) {ms0 : Int32} {xs0 : Int} (ps0 : ms0.toInt = xs0) {kb : iv_M → Option (iv_M)} {kx : iv_M → Option (iv_M)} {r : iv_M} {Q : Option Value → iv_H → Prop} (hb : ∀ (h : iv_H) (s : iv_M) (hR : Rep nc Ls Xs h s), kb s = some r → Rn d 221 none 4 [some (.ref q0), none] [] h Q) (hk : ∀ (h : iv_H) (s : iv_M) (hR : Rep nc Ls Xs h s), kx s = some r → Rn d 221 none 67 [none, none] [] h Q) (hq : ∀ h1, Rep nc Ls Xs h1 r → Q none h1) (e : FX12_sum_b43 N s q0 xs0 kb kx = some r) : Rn d 221 none 43 [some (.ref q0), none] [.int ms0] h Q := by
  have hT := hX12_sum
  unfold FX12_sum_b43 at e
  refine Rn.n hT 3 (pc' := 46) (L' := [some (.ref q0), some (.int ms0)]) (st' := [.ref q0, .ref q0]) rfl ?_
  obtain ⟨z_2560, g_2560, p_2560⟩ : ∃ z : Int32, gI h 12 29 q0 = some z ∧ z.toInt = s q0 29 := rp_gI (k := 29) hR (T12_o t0) rfl
  refine Rn.hp hT rfl rfl (gI_hp g_2560) ?_
  refine Rn.n hT 2 (pc' := 51) (L' := [some (.ref q0), some (.int ms0)]) (st' := [.int (z_2560 + (1 : Int32)), .ref q0]) rfl ?_
  obtain ⟨s_2561, e_2562, e⟩ := Option.bind_eq_some_iff.mp e
  obtain ⟨h_2561, g_2562, R_2561⟩ := rp_pI (ci := 12) (k := 29) hR (T12_o t0) rfl rfl (ti_add p_2560 L32_1) e_2562
  refine Rn.hp hT rfl rfl (pV_hp rfl g_2562) ?_
  refine Rn.n hT 1 (pc' := 55) (L' := [some (.ref q0), some (.int ms0)]) (st' := [.ref q0]) rfl ?_
  obtain ⟨s_2564, e_2563, e⟩ := Option.bind_eq_some_iff.mp e
  refine Rn.call hT rfl rfl rfl (Nat.le_of_ble_eq_true rfl) (rcv_v gX12_term (by omega) (rp_ck R_2561 (T12_o t0))) (RX12_term (by omega) R_2561 t0 e_2563 (fun h_2564 R_2564 => ?_))
  show Rn d _ _ 58 [some (.ref q0), some (.int ms0)] [] h_2564 Q
  refine Rn.n hT 3 (pc' := 61) (L' := [some (.ref q0), some (.int ms0)]) (st' := [.int (0 : Int32), .int ms0, .ref q0]) rfl ?_
  obtain ⟨s_2566, e_2565, e⟩ := Option.bind_eq_some_iff.mp e
  refine Rn.call hT rfl rfl rfl (Nat.le_of_ble_eq_true rfl) (rcv_v gX12_entry (by omega) (rp_ck R_2564 (T12_o t0))) (RX12_entry (by omega) R_2564 t0 ps0 L32_0 e_2565 (fun h_2566 R_2566 => ?_))
  show Rn d _ _ 64 [some (.ref q0), some (.int ms0)] [] h_2566 Q
  refine Rn.n hT 1 (pc' := 4) (L' := [some (.ref q0), some (.int ms0)]) (st' := []) rfl ?_
  exact Rn.weak (ll_s (ll_n ll_e)) (hb h_2566 s_2566 R_2566 e)
def FX12_sum_b29 (N : Nat) (s : iv_M) (q0 : Nat)  (kb : iv_M → Option (iv_M)) (kx : iv_M → Option (iv_M)) : Option (iv_M) := ((FX12_sign N s q0).bind fun v_2558 => (if v_2558 = 43 then (FX12_sum_b43 N s q0 2 kb kx) else (FX12_sum_b43 N s q0 3 kb kx)))
set_option maxRecDepth 10000 in
set_option maxHeartbeats 4000000 in
theorem RX12_sum_b29 {d N nc Ls : Nat} {Xs : Nat → Int32} (hd : 13 ≤ d) {h : iv_H} {s : iv_M} (hR : Rep nc Ls Xs h s) {q0 : Nat} (t0 : T12 nc q0)  {kb : iv_M → Option (iv_M)} {kx : iv_M → Option (iv_M)} {r : iv_M} {Q : Option Value → iv_H → Prop} (hb : ∀ (h : iv_H) (s : iv_M) (hR : Rep nc Ls Xs h s), kb s = some r → Rn d 221 none 4 [some (.ref q0), none] [] h Q) (hk : ∀ (h : iv_H) (s : iv_M) (hR : Rep nc Ls Xs h s), kx s = some r → Rn d 221 none 67 [none, none] [] h Q) (hq : ∀ h1, Rep nc Ls Xs h1 r → Q none h1) (e : FX12_sum_b29 N s q0  kb kx = some r) : Rn d 221 none 29 [some (.ref q0), none] [] h Q := by
  have hT := hX12_sum
  unfold FX12_sum_b29 at e
  refine Rn.n hT 1 (pc' := 30) (L' := [some (.ref q0), none]) (st' := [.ref q0]) rfl ?_
  obtain ⟨v_2558, e_2558, e⟩ := Option.bind_eq_some_iff.mp e
  refine Rn.call hT rfl rfl rfl (Nat.le_of_ble_eq_true rfl) (rcv_v gX12_sign (by omega) (rp_ck hR (T12_o t0))) (RX12_sign (by omega) hR t0 e_2558 (fun z_2558 p_2558 => ?_))
  show Rn d _ _ 33 [some (.ref q0), none] [.int z_2558] h Q
  refine Rn.n hT 1 (pc' := 35) (L' := [some (.ref q0), none]) (st' := [.int (43 : Int32), .int z_2558]) rfl ?_
  by_cases c_2559 : v_2558 = 43
  · rw [if_pos c_2559] at e
    refine Rn.bf hT rfl rfl rfl (decide_eq_false (fun z => z ((ti_e p_2558 L32_43).mpr c_2559))) ?_
    refine Rn.n hT 2 (pc' := 43) (L' := [some (.ref q0), none]) (st' := [.int (2 : Int32)]) rfl ?_
    exact Rn.weak (ll_s (ll_n ll_e)) (RX12_sum_b43 hd hR t0 L32_2 hb hk hq e)
  · rw [if_neg c_2559] at e
    refine Rn.bt hT rfl rfl rfl (decide_eq_true (fun z => c_2559 ((ti_e p_2558 L32_43).mp z))) ?_
    refine Rn.n hT 1 (pc' := 43) (L' := [some (.ref q0), none]) (st' := [.int (3 : Int32)]) rfl ?_
    exact Rn.weak (ll_s (ll_n ll_e)) (RX12_sum_b43 hd hR t0 L32_3 hb hk hq e)
def FX12_sum_l4 (N : Nat) (q0 : Nat) (kx : iv_M → Option (iv_M)) : Nat → iv_M → Option (iv_M)
  | 0, _ => none
  | n + 1, s => (if (s q0 30) = 0 then ((FX12_sign N s q0).bind fun v_2554 => (if v_2554 = 43 then (FX12_sum_b29 N s q0 (FX12_sum_l4 N q0 kx n) kx) else ((FX12_sign N s q0).bind fun v_2556 => (if v_2556 = 45 then (FX12_sum_b29 N s q0 (FX12_sum_l4 N q0 kx n) kx) else (kx s))))) else (kx s))
set_option maxRecDepth 10000 in
set_option maxHeartbeats 4000000 in
theorem RX12_sum_l4 {d N nc Ls : Nat} {Xs : Nat → Int32} (hd : 13 ≤ d) {q0 : Nat} (t0 : T12 nc q0) {kx : iv_M → Option (iv_M)} {r : iv_M} {Q : Option Value → iv_H → Prop} (hk : ∀ (h : iv_H) (s : iv_M) (hR : Rep nc Ls Xs h s), kx s = some r → Rn d 221 none 67 [none, none] [] h Q) (hq : ∀ h1, Rep nc Ls Xs h1 r → Q none h1) : ∀ (n : Nat) (h : iv_H) (s : iv_M) (hR : Rep nc Ls Xs h s), FX12_sum_l4 N q0 kx n s = some r → Rn d 221 none 4 [some (.ref q0), none] [] h Q := by
  have hT := hX12_sum
  intro n
  induction n with
  | zero =>
    intro h s hR e
    rw [FX12_sum_l4] at e
    cases e
  | succ n ih =>
    intro h s hR e
    rw [FX12_sum_l4] at e
    refine Rn.n hT 1 (pc' := 5) (L' := [some (.ref q0), none]) (st' := [.ref q0]) rfl ?_
    obtain ⟨z_2552, g_2552, p_2552⟩ : ∃ z : Int32, gI h 12 30 q0 = some z ∧ z.toInt = s q0 30 := rp_gI (k := 30) hR (T12_o t0) rfl
    refine Rn.hp hT rfl rfl (gI_hp g_2552) ?_
    by_cases c_2553 : (s q0 30) = 0
    · rw [if_pos c_2553] at e
      refine Rn.bf hT rfl rfl rfl (decide_eq_false (fun z => z ((ti_e p_2552 L32_0).mpr c_2553))) ?_
      refine Rn.n hT 1 (pc' := 12) (L' := [some (.ref q0), none]) (st' := [.ref q0]) rfl ?_
      obtain ⟨v_2554, e_2554, e⟩ := Option.bind_eq_some_iff.mp e
      refine Rn.call hT rfl rfl rfl (Nat.le_of_ble_eq_true rfl) (rcv_v gX12_sign (by omega) (rp_ck hR (T12_o t0))) (RX12_sign (by omega) hR t0 e_2554 (fun z_2554 p_2554 => ?_))
      show Rn d _ _ 15 [some (.ref q0), none] [.int z_2554] h Q
      refine Rn.n hT 1 (pc' := 17) (L' := [some (.ref q0), none]) (st' := [.int (43 : Int32), .int z_2554]) rfl ?_
      by_cases c_2555 : v_2554 = 43
      · rw [if_pos c_2555] at e
        refine Rn.bt hT rfl rfl rfl (decide_eq_true ((ti_e p_2554 L32_43).mpr c_2555)) ?_
        exact Rn.weak (ll_s (ll_n ll_e)) (RX12_sum_b29 hd hR t0 ih hk hq e)
      · rw [if_neg c_2555] at e
        refine Rn.bf hT rfl rfl rfl (decide_eq_false (fun z => c_2555 ((ti_e p_2554 L32_43).mp z))) ?_
        refine Rn.n hT 1 (pc' := 21) (L' := [some (.ref q0), none]) (st' := [.ref q0]) rfl ?_
        obtain ⟨v_2556, e_2556, e⟩ := Option.bind_eq_some_iff.mp e
        refine Rn.call hT rfl rfl rfl (Nat.le_of_ble_eq_true rfl) (rcv_v gX12_sign (by omega) (rp_ck hR (T12_o t0))) (RX12_sign (by omega) hR t0 e_2556 (fun z_2556 p_2556 => ?_))
        show Rn d _ _ 24 [some (.ref q0), none] [.int z_2556] h Q
        refine Rn.n hT 1 (pc' := 26) (L' := [some (.ref q0), none]) (st' := [.int (45 : Int32), .int z_2556]) rfl ?_
        by_cases c_2557 : v_2556 = 45
        · rw [if_pos c_2557] at e
          refine Rn.bf hT rfl rfl rfl (decide_eq_false (fun z => z ((ti_e p_2556 L32_45).mpr c_2557))) ?_
          exact Rn.weak (ll_s (ll_n ll_e)) (RX12_sum_b29 hd hR t0 ih hk hq e)
        · rw [if_neg c_2557] at e
          refine Rn.bt hT rfl rfl rfl (decide_eq_true (fun z => c_2557 ((ti_e p_2556 L32_45).mp z))) ?_
          exact Rn.weak (ll_n (ll_n ll_e)) (hk h s hR e)
    · rw [if_neg c_2553] at e
      refine Rn.bt hT rfl rfl rfl (decide_eq_true (fun z => c_2553 ((ti_e p_2552 L32_0).mp z))) ?_
      exact Rn.weak (ll_n (ll_n ll_e)) (hk h s hR e)
def FX12_sum_b67 (N : Nat) (s : iv_M)   : Option (iv_M) := some s
set_option maxRecDepth 10000 in
set_option maxHeartbeats 4000000 in
theorem RX12_sum_b67 {d N nc Ls : Nat} {Xs : Nat → Int32} (hd : 13 ≤ d) {h : iv_H} {s : iv_M} (hR : Rep nc Ls Xs h s)   {r : iv_M} {Q : Option Value → iv_H → Prop} (hq : ∀ h1, Rep nc Ls Xs h1 r → Q none h1) (e : FX12_sum_b67 N s   = some r) : Rn d 221 none 67 [none, none] [] h Q := by
  have hT := hX12_sum
  unfold FX12_sum_b67 at e
  obtain rfl := Option.some.inj e
  exact Rn.ret hT rfl rfl rfl (hq h hR)
def FX12_sum (N : Nat) (s : iv_M) (q0 : Nat) : Option (iv_M) := ((FX12_term N s q0).bind fun s_2549 => (FX12_sum_l4 N q0 (fun (s_2550 : iv_M) => (FX12_sum_b67 N s_2550)) N s_2549))
set_option maxRecDepth 10000 in
set_option maxHeartbeats 4000000 in
theorem RX12_sum {d N nc Ls : Nat} {Xs : Nat → Int32} (hd : 14 ≤ d) {h : iv_H} {s : iv_M} (hR : Rep nc Ls Xs h s) {q0 : Nat} (t0 : T12 nc q0) {r : iv_M} {Q : Option Value → iv_H → Prop} (e : FX12_sum N s q0 = some r) (hq : ∀ h1, Rep nc Ls Xs h1 r → Q none h1) : Cl d 221 [.ref q0] h Q := by
  obtain ⟨d, rfl⟩ : ∃ k, d = k + 1 := ⟨d - 1, by omega⟩
  have hd : 13 ≤ d := by omega
  have hT := hX12_sum
  unfold FX12_sum at e
  refine Cl.into (by decide) gX12_sum rfl ?_
  show Rn d 221 none 0 [some (.ref q0), none] [] h Q
  refine Rn.n hT 1 (pc' := 1) (L' := [some (.ref q0), none]) (st' := [.ref q0]) rfl ?_
  obtain ⟨s_2549, e_2548, e⟩ := Option.bind_eq_some_iff.mp e
  refine Rn.call hT rfl rfl rfl (Nat.le_of_ble_eq_true rfl) (rcv_v gX12_term (by omega) (rp_ck hR (T12_o t0))) (RX12_term (by omega) hR t0 e_2548 (fun h_2549 R_2549 => ?_))
  show Rn d _ _ 4 [some (.ref q0), none] [] h_2549 Q
  refine Rn.weak (ll_s (ll_n ll_e)) (RX12_sum_l4 hd t0 (fun h_2550 s_2550 R_2550 e => ?_) hq N h_2549 s_2549 R_2549 e)
  try dsimp only at e
  exact Rn.weak (ll_n (ll_n ll_e)) (RX12_sum_b67 hd R_2550 hq e)
set_option maxRecDepth 10000 in
theorem hX12_compared : iv_Tb 222 tX12_compared := iv_tb_of (m := mX12_compared) rfl
set_option maxRecDepth 10000 in
theorem gX12_compared : PG.2 222 = some mX12_compared := iv_pi_of (t := tX12_compared) rfl (by decide)
def FX12_compared_b139 (N : Nat) (s : iv_M)  (xs0 : Int) (qs1 : Nat) : Option (iv_M) := ((FX12_entry N s qs1 xs0 0).bind fun s_2596 => some s_2596)
set_option maxRecDepth 10000 in
set_option maxHeartbeats 4000000 in
theorem RX12_compared_b139 {d N nc Ls : Nat} {Xs : Nat → Int32} (hd : 14 ≤ d) {h : iv_H} {s : iv_M} (hR : Rep nc Ls Xs h s)  {ms0 : Int32} {xs0 : Int} (ps0 : ms0.toInt = xs0) {qs1 : Nat} (ts1 : T12 nc qs1) {r : iv_M} {Q : Option Value → iv_H → Prop} (hq : ∀ h1, Rep nc Ls Xs h1 r → Q none h1) (e : FX12_compared_b139 N s  xs0 qs1 = some r) : Rn d 222 none 139 [none, none, none] [.int ms0, .ref qs1] h Q := by
  have hT := hX12_compared
  unfold FX12_compared_b139 at e
  refine Rn.n hT 1 (pc' := 140) (L' := [none, none, none]) (st' := [.int (0 : Int32), .int ms0, .ref qs1]) rfl ?_
  obtain ⟨s_2596, e_2595, e⟩ := Option.bind_eq_some_iff.mp e
  refine Rn.call hT rfl rfl rfl (Nat.le_of_ble_eq_true rfl) (rcv_v gX12_entry (by omega) (rp_ck hR (T12_o ts1))) (RX12_entry (by omega) hR ts1 ps0 L32_0 e_2595 (fun h_2596 R_2596 => ?_))
  show Rn d _ _ 143 [none, none, none] [] h_2596 Q
  obtain rfl := Option.some.inj e
  exact Rn.ret hT rfl rfl rfl (hq h_2596 R_2596)
def FX12_compared_b90 (N : Nat) (s : iv_M) (q0 : Nat) (x1 : Int) (x2 : Int) (xs0 : Int) (xs1 : Int) (qs2 : Nat) : Option (iv_M) := ((pt s qs2 29 (w32 (xs1 + xs0))).bind fun s_2587 => ((FX12_sum N s_2587 q0).bind fun s_2590 => (if x1 = 61 then (FX12_compared_b139 N s_2590 6 q0) else (if x1 = 60 then (if x2 = 0 then (FX12_compared_b139 N s_2590 4 q0) else (FX12_compared_b139 N s_2590 5 q0)) else (if x2 = 0 then (FX12_compared_b139 N s_2590 8 q0) else (FX12_compared_b139 N s_2590 7 q0))))))
set_option maxRecDepth 10000 in
set_option maxHeartbeats 4000000 in
theorem RX12_compared_b90 {d N nc Ls : Nat} {Xs : Nat → Int32} (hd : 14 ≤ d) {h : iv_H} {s : iv_M} (hR : Rep nc Ls Xs h s) {q0 : Nat} (t0 : T12 nc q0) {m1 : Int32} {x1 : Int} (p1 : m1.toInt = x1) {m2 : Int32} {x2 : Int} (p2 : m2.toInt = x2) {ms0 : Int32} {xs0 : Int} (ps0 : ms0.toInt = xs0) {ms1 : Int32} {xs1 : Int} (ps1 : ms1.toInt = xs1) {qs2 : Nat} (ts2 : T12 nc qs2) {r : iv_M} {Q : Option Value → iv_H → Prop} (hq : ∀ h1, Rep nc Ls Xs h1 r → Q none h1) (e : FX12_compared_b90 N s q0 x1 x2 xs0 xs1 qs2 = some r) : Rn d 222 none 90 [some (.ref q0), some (.int m1), some (.int m2)] [.int ms0, .int ms1, .ref qs2] h Q := by
  have hT := hX12_compared
  unfold FX12_compared_b90 at e
  refine Rn.n hT 1 (pc' := 91) (L' := [some (.ref q0), some (.int m1), some (.int m2)]) (st' := [.int (ms1 + ms0), .ref qs2]) rfl ?_
  obtain ⟨s_2587, e_2588, e⟩ := Option.bind_eq_some_iff.mp e
  obtain ⟨h_2587, g_2588, R_2587⟩ := rp_pI (ci := 12) (k := 29) hR (T12_o ts2) rfl rfl (ti_add ps1 ps0) e_2588
  refine Rn.hp hT rfl rfl (pV_hp rfl g_2588) ?_
  refine Rn.n hT 1 (pc' := 95) (L' := [some (.ref q0), some (.int m1), some (.int m2)]) (st' := [.ref q0]) rfl ?_
  obtain ⟨s_2590, e_2589, e⟩ := Option.bind_eq_some_iff.mp e
  refine Rn.call hT rfl rfl rfl (Nat.le_of_ble_eq_true rfl) (rcv_v gX12_sum (by omega) (rp_ck R_2587 (T12_o t0))) (RX12_sum (by omega) R_2587 t0 e_2589 (fun h_2590 R_2590 => ?_))
  show Rn d _ _ 98 [some (.ref q0), some (.int m1), some (.int m2)] [] h_2590 Q
  refine Rn.n hT 3 (pc' := 102) (L' := [some (.ref q0), some (.int m1), some (.int m2)]) (st' := [.int (61 : Int32), .int m1, .ref q0]) rfl ?_
  by_cases c_2591 : x1 = 61
  · rw [if_pos c_2591] at e
    refine Rn.bf hT rfl rfl rfl (decide_eq_false (fun z => z ((ti_e p1 L32_61).mpr c_2591))) ?_
    refine Rn.n hT 2 (pc' := 139) (L' := [some (.ref q0), some (.int m1), some (.int m2)]) (st' := [.int (6 : Int32), .ref q0]) rfl ?_
    exact Rn.weak (ll_n (ll_n (ll_n ll_e))) (RX12_compared_b139 hd R_2590 L32_6 t0 hq e)
  · rw [if_neg c_2591] at e
    refine Rn.bt hT rfl rfl rfl (decide_eq_true (fun z => c_2591 ((ti_e p1 L32_61).mp z))) ?_
    refine Rn.n hT 2 (pc' := 113) (L' := [some (.ref q0), some (.int m1), some (.int m2)]) (st' := [.int (60 : Int32), .int m1, .ref q0]) rfl ?_
    by_cases c_2592 : x1 = 60
    · rw [if_pos c_2592] at e
      refine Rn.bf hT rfl rfl rfl (decide_eq_false (fun z => z ((ti_e p1 L32_60).mpr c_2592))) ?_
      refine Rn.n hT 1 (pc' := 117) (L' := [some (.ref q0), some (.int m1), some (.int m2)]) (st' := [.int m2, .ref q0]) rfl ?_
      by_cases c_2594 : x2 = 0
      · rw [if_pos c_2594] at e
        refine Rn.bt hT rfl rfl rfl (decide_eq_true ((ti_e p2 L32_0).mpr c_2594)) ?_
        refine Rn.n hT 2 (pc' := 139) (L' := [some (.ref q0), some (.int m1), some (.int m2)]) (st' := [.int (4 : Int32), .ref q0]) rfl ?_
        exact Rn.weak (ll_n (ll_n (ll_n ll_e))) (RX12_compared_b139 hd R_2590 L32_4 t0 hq e)
      · rw [if_neg c_2594] at e
        refine Rn.bf hT rfl rfl rfl (decide_eq_false (fun z => c_2594 ((ti_e p2 L32_0).mp z))) ?_
        refine Rn.n hT 2 (pc' := 139) (L' := [some (.ref q0), some (.int m1), some (.int m2)]) (st' := [.int (5 : Int32), .ref q0]) rfl ?_
        exact Rn.weak (ll_n (ll_n (ll_n ll_e))) (RX12_compared_b139 hd R_2590 L32_5 t0 hq e)
    · rw [if_neg c_2592] at e
      refine Rn.bt hT rfl rfl rfl (decide_eq_true (fun z => c_2592 ((ti_e p1 L32_60).mp z))) ?_
      refine Rn.n hT 1 (pc' := 129) (L' := [some (.ref q0), some (.int m1), some (.int m2)]) (st' := [.int m2, .ref q0]) rfl ?_
      by_cases c_2593 : x2 = 0
      · rw [if_pos c_2593] at e
        refine Rn.bt hT rfl rfl rfl (decide_eq_true ((ti_e p2 L32_0).mpr c_2593)) ?_
        refine Rn.n hT 1 (pc' := 139) (L' := [some (.ref q0), some (.int m1), some (.int m2)]) (st' := [.int (8 : Int32), .ref q0]) rfl ?_
        exact Rn.weak (ll_n (ll_n (ll_n ll_e))) (RX12_compared_b139 hd R_2590 L32_8 t0 hq e)
      · rw [if_neg c_2593] at e
        refine Rn.bf hT rfl rfl rfl (decide_eq_false (fun z => c_2593 ((ti_e p2 L32_0).mp z))) ?_
        refine Rn.n hT 2 (pc' := 139) (L' := [some (.ref q0), some (.int m1), some (.int m2)]) (st' := [.int (7 : Int32), .ref q0]) rfl ?_
        exact Rn.weak (ll_n (ll_n (ll_n ll_e))) (RX12_compared_b139 hd R_2590 L32_7 t0 hq e)
def FX12_compared_b75 (N : Nat) (s : iv_M) (q0 : Nat) (x1 : Int) (xs0 : Int) : Option (iv_M) := (if xs0 = 0 then (FX12_compared_b90 N s q0 x1 xs0 0 (s q0 29) q0) else (FX12_compared_b90 N s q0 x1 xs0 1 (s q0 29) q0))
set_option maxRecDepth 10000 in
set_option maxHeartbeats 4000000 in
theorem RX12_compared_b75 {d N nc Ls : Nat} {Xs : Nat → Int32} (hd : 14 ≤ d) {h : iv_H} {s : iv_M} (hR : Rep nc Ls Xs h s) {q0 : Nat} (t0 : T12 nc q0) {m1 : Int32} {x1 : Int} (p1 : m1.toInt = x1) {ms0 : Int32} {xs0 : Int} (ps0 : ms0.toInt = xs0) {r : iv_M} {Q : Option Value → iv_H → Prop} (hq : ∀ h1, Rep nc Ls Xs h1 r → Q none h1) (e : FX12_compared_b75 N s q0 x1 xs0 = some r) : Rn d 222 none 75 [some (.ref q0), some (.int m1), none] [.int ms0] h Q := by
  have hT := hX12_compared
  unfold FX12_compared_b75 at e
  refine Rn.n hT 3 (pc' := 78) (L' := [some (.ref q0), some (.int m1), some (.int ms0)]) (st' := [.ref q0, .ref q0]) rfl ?_
  obtain ⟨z_2585, g_2585, p_2585⟩ : ∃ z : Int32, gI h 12 29 q0 = some z ∧ z.toInt = s q0 29 := rp_gI (k := 29) hR (T12_o t0) rfl
  refine Rn.hp hT rfl rfl (gI_hp g_2585) ?_
  refine Rn.n hT 1 (pc' := 82) (L' := [some (.ref q0), some (.int m1), some (.int ms0)]) (st' := [.int ms0, .int z_2585, .ref q0]) rfl ?_
  by_cases c_2586 : xs0 = 0
  · rw [if_pos c_2586] at e
    refine Rn.bt hT rfl rfl rfl (decide_eq_true ((ti_e ps0 L32_0).mpr c_2586)) ?_
    refine Rn.n hT 1 (pc' := 90) (L' := [some (.ref q0), some (.int m1), some (.int ms0)]) (st' := [.int (0 : Int32), .int z_2585, .ref q0]) rfl ?_
    exact Rn.weak (ll_s (ll_s (ll_s ll_e))) (RX12_compared_b90 hd hR t0 p1 ps0 L32_0 p_2585 t0 hq e)
  · rw [if_neg c_2586] at e
    refine Rn.bf hT rfl rfl rfl (decide_eq_false (fun z => c_2586 ((ti_e ps0 L32_0).mp z))) ?_
    refine Rn.n hT 2 (pc' := 90) (L' := [some (.ref q0), some (.int m1), some (.int ms0)]) (st' := [.int (1 : Int32), .int z_2585, .ref q0]) rfl ?_
    exact Rn.weak (ll_s (ll_s (ll_s ll_e))) (RX12_compared_b90 hd hR t0 p1 ps0 L32_1 p_2585 t0 hq e)
def FX12_compared_b74 (N : Nat) (s : iv_M) (q0 : Nat) (x1 : Int)  : Option (iv_M) := (FX12_compared_b75 N s q0 x1 0)
set_option maxRecDepth 10000 in
set_option maxHeartbeats 4000000 in
theorem RX12_compared_b74 {d N nc Ls : Nat} {Xs : Nat → Int32} (hd : 14 ≤ d) {h : iv_H} {s : iv_M} (hR : Rep nc Ls Xs h s) {q0 : Nat} (t0 : T12 nc q0) {m1 : Int32} {x1 : Int} (p1 : m1.toInt = x1)  {r : iv_M} {Q : Option Value → iv_H → Prop} (hq : ∀ h1, Rep nc Ls Xs h1 r → Q none h1) (e : FX12_compared_b74 N s q0 x1  = some r) : Rn d 222 none 74 [some (.ref q0), some (.int m1), none] [] h Q := by
  have hT := hX12_compared
  unfold FX12_compared_b74 at e
  refine Rn.n hT 1 (pc' := 75) (L' := [some (.ref q0), some (.int m1), none]) (st' := [.int (0 : Int32)]) rfl ?_
  exact Rn.weak (ll_s (ll_s (ll_n ll_e))) (RX12_compared_b75 hd hR t0 p1 L32_0 hq e)
def FX12_compared_b37 (N : Nat) (s : iv_M) (q0 : Nat) (x1 : Int)  : Option (iv_M) := ((FX12_isCounted N s q0 (s q0 29)).bind fun s_2578 => ((pt s_2578 q0 29 (w32 ((s_2578 q0 29) + 1))).bind fun s_2580 => (if x1 = 61 then (FX12_compared_b74 N s_2580 q0 x1) else ((FX12_sign N s_2580 q0).bind fun v_2583 => (if v_2583 = 61 then (FX12_compared_b75 N s_2580 q0 x1 1) else (FX12_compared_b74 N s_2580 q0 x1))))))
set_option maxRecDepth 10000 in
set_option maxHeartbeats 4000000 in
theorem RX12_compared_b37 {d N nc Ls : Nat} {Xs : Nat → Int32} (hd : 14 ≤ d) {h : iv_H} {s : iv_M} (hR : Rep nc Ls Xs h s) {q0 : Nat} (t0 : T12 nc q0) {m1 : Int32} {x1 : Int} (p1 : m1.toInt = x1)  {r : iv_M} {Q : Option Value → iv_H → Prop} (hq : ∀ h1, Rep nc Ls Xs h1 r → Q none h1) (e : FX12_compared_b37 N s q0 x1  = some r) : Rn d 222 none 37 [some (.ref q0), some (.int m1), none] [] h Q := by
  have hT := hX12_compared
  unfold FX12_compared_b37 at e
  refine Rn.n hT 2 (pc' := 39) (L' := [some (.ref q0), some (.int m1), none]) (st' := [.ref q0, .ref q0]) rfl ?_
  obtain ⟨z_2576, g_2576, p_2576⟩ : ∃ z : Int32, gI h 12 29 q0 = some z ∧ z.toInt = s q0 29 := rp_gI (k := 29) hR (T12_o t0) rfl
  refine Rn.hp hT rfl rfl (gI_hp g_2576) ?_
  obtain ⟨s_2578, e_2577, e⟩ := Option.bind_eq_some_iff.mp e
  refine Rn.call hT rfl rfl rfl (Nat.le_of_ble_eq_true rfl) (rcv_v gX12_isCounted (by omega) (rp_ck hR (T12_o t0))) (RX12_isCounted (by omega) hR t0 p_2576 e_2577 (fun h_2578 R_2578 => ?_))
  show Rn d _ _ 45 [some (.ref q0), some (.int m1), none] [] h_2578 Q
  refine Rn.n hT 2 (pc' := 47) (L' := [some (.ref q0), some (.int m1), none]) (st' := [.ref q0, .ref q0]) rfl ?_
  obtain ⟨z_2579, g_2579, p_2579⟩ : ∃ z : Int32, gI h_2578 12 29 q0 = some z ∧ z.toInt = s_2578 q0 29 := rp_gI (k := 29) R_2578 (T12_o t0) rfl
  refine Rn.hp hT rfl rfl (gI_hp g_2579) ?_
  refine Rn.n hT 2 (pc' := 52) (L' := [some (.ref q0), some (.int m1), none]) (st' := [.int (z_2579 + (1 : Int32)), .ref q0]) rfl ?_
  obtain ⟨s_2580, e_2581, e⟩ := Option.bind_eq_some_iff.mp e
  obtain ⟨h_2580, g_2581, R_2580⟩ := rp_pI (ci := 12) (k := 29) R_2578 (T12_o t0) rfl rfl (ti_add p_2579 L32_1) e_2581
  refine Rn.hp hT rfl rfl (pV_hp rfl g_2581) ?_
  refine Rn.n hT 2 (pc' := 58) (L' := [some (.ref q0), some (.int m1), none]) (st' := [.int (61 : Int32), .int m1]) rfl ?_
  by_cases c_2582 : x1 = 61
  · rw [if_pos c_2582] at e
    refine Rn.bt hT rfl rfl rfl (decide_eq_true ((ti_e p1 L32_61).mpr c_2582)) ?_
    exact Rn.weak (ll_s (ll_s (ll_n ll_e))) (RX12_compared_b74 hd R_2580 t0 p1 hq e)
  · rw [if_neg c_2582] at e
    refine Rn.bf hT rfl rfl rfl (decide_eq_false (fun z => c_2582 ((ti_e p1 L32_61).mp z))) ?_
    refine Rn.n hT 1 (pc' := 62) (L' := [some (.ref q0), some (.int m1), none]) (st' := [.ref q0]) rfl ?_
    obtain ⟨v_2583, e_2583, e⟩ := Option.bind_eq_some_iff.mp e
    refine Rn.call hT rfl rfl rfl (Nat.le_of_ble_eq_true rfl) (rcv_v gX12_sign (by omega) (rp_ck R_2580 (T12_o t0))) (RX12_sign (by omega) R_2580 t0 e_2583 (fun z_2583 p_2583 => ?_))
    show Rn d _ _ 65 [some (.ref q0), some (.int m1), none] [.int z_2583] h_2580 Q
    refine Rn.n hT 1 (pc' := 67) (L' := [some (.ref q0), some (.int m1), none]) (st' := [.int (61 : Int32), .int z_2583]) rfl ?_
    by_cases c_2584 : v_2583 = 61
    · rw [if_pos c_2584] at e
      refine Rn.bf hT rfl rfl rfl (decide_eq_false (fun z => z ((ti_e p_2583 L32_61).mpr c_2584))) ?_
      refine Rn.n hT 2 (pc' := 75) (L' := [some (.ref q0), some (.int m1), none]) (st' := [.int (1 : Int32)]) rfl ?_
      exact Rn.weak (ll_s (ll_s (ll_n ll_e))) (RX12_compared_b75 hd R_2580 t0 p1 L32_1 hq e)
    · rw [if_neg c_2584] at e
      refine Rn.bt hT rfl rfl rfl (decide_eq_true (fun z => c_2584 ((ti_e p_2583 L32_61).mp z))) ?_
      exact Rn.weak (ll_s (ll_s (ll_n ll_e))) (RX12_compared_b74 hd R_2580 t0 p1 hq e)
def FX12_compared (N : Nat) (s : iv_M) (q0 : Nat) : Option (iv_M) := ((FX12_sum N s q0).bind fun s_2568 => ((FX12_sign N s_2568 q0).bind fun v_2569 => (if v_2569 = 60 then (FX12_compared_b37 N s_2568 q0 v_2569) else (if v_2569 = 61 then (FX12_compared_b37 N s_2568 q0 v_2569) else (if v_2569 = 62 then (FX12_compared_b37 N s_2568 q0 v_2569) else ((FX12_fails N s_2568 q0 0 (s_2568 q0 29)).bind fun s_2575 => some s_2575))))))
set_option maxRecDepth 10000 in
set_option maxHeartbeats 4000000 in
theorem RX12_compared {d N nc Ls : Nat} {Xs : Nat → Int32} (hd : 15 ≤ d) {h : iv_H} {s : iv_M} (hR : Rep nc Ls Xs h s) {q0 : Nat} (t0 : T12 nc q0) {r : iv_M} {Q : Option Value → iv_H → Prop} (e : FX12_compared N s q0 = some r) (hq : ∀ h1, Rep nc Ls Xs h1 r → Q none h1) : Cl d 222 [.ref q0] h Q := by
  obtain ⟨d, rfl⟩ : ∃ k, d = k + 1 := ⟨d - 1, by omega⟩
  have hd : 14 ≤ d := by omega
  have hT := hX12_compared
  unfold FX12_compared at e
  refine Cl.into (by decide) gX12_compared rfl ?_
  show Rn d 222 none 0 [some (.ref q0), none, none] [] h Q
  refine Rn.n hT 1 (pc' := 1) (L' := [some (.ref q0), none, none]) (st' := [.ref q0]) rfl ?_
  obtain ⟨s_2568, e_2567, e⟩ := Option.bind_eq_some_iff.mp e
  refine Rn.call hT rfl rfl rfl (Nat.le_of_ble_eq_true rfl) (rcv_v gX12_sum (by omega) (rp_ck hR (T12_o t0))) (RX12_sum (by omega) hR t0 e_2567 (fun h_2568 R_2568 => ?_))
  show Rn d _ _ 4 [some (.ref q0), none, none] [] h_2568 Q
  refine Rn.n hT 1 (pc' := 5) (L' := [some (.ref q0), none, none]) (st' := [.ref q0]) rfl ?_
  obtain ⟨v_2569, e_2569, e⟩ := Option.bind_eq_some_iff.mp e
  refine Rn.call hT rfl rfl rfl (Nat.le_of_ble_eq_true rfl) (rcv_v gX12_sign (by omega) (rp_ck R_2568 (T12_o t0))) (RX12_sign (by omega) R_2568 t0 e_2569 (fun z_2569 p_2569 => ?_))
  show Rn d _ _ 8 [some (.ref q0), none, none] [.int z_2569] h_2568 Q
  refine Rn.n hT 3 (pc' := 12) (L' := [some (.ref q0), some (.int z_2569), none]) (st' := [.int (60 : Int32), .int z_2569]) rfl ?_
  by_cases c_2570 : v_2569 = 60
  · rw [if_pos c_2570] at e
    refine Rn.bt hT rfl rfl rfl (decide_eq_true ((ti_e p_2569 L32_60).mpr c_2570)) ?_
    exact Rn.weak (ll_s (ll_s (ll_n ll_e))) (RX12_compared_b37 hd R_2568 t0 p_2569 hq e)
  · rw [if_neg c_2570] at e
    refine Rn.bf hT rfl rfl rfl (decide_eq_false (fun z => c_2570 ((ti_e p_2569 L32_60).mp z))) ?_
    refine Rn.n hT 2 (pc' := 18) (L' := [some (.ref q0), some (.int z_2569), none]) (st' := [.int (61 : Int32), .int z_2569]) rfl ?_
    by_cases c_2571 : v_2569 = 61
    · rw [if_pos c_2571] at e
      refine Rn.bt hT rfl rfl rfl (decide_eq_true ((ti_e p_2569 L32_61).mpr c_2571)) ?_
      exact Rn.weak (ll_s (ll_s (ll_n ll_e))) (RX12_compared_b37 hd R_2568 t0 p_2569 hq e)
    · rw [if_neg c_2571] at e
      refine Rn.bf hT rfl rfl rfl (decide_eq_false (fun z => c_2571 ((ti_e p_2569 L32_61).mp z))) ?_
      refine Rn.n hT 2 (pc' := 24) (L' := [some (.ref q0), some (.int z_2569), none]) (st' := [.int (62 : Int32), .int z_2569]) rfl ?_
      by_cases c_2572 : v_2569 = 62
      · rw [if_pos c_2572] at e
        refine Rn.bt hT rfl rfl rfl (decide_eq_true ((ti_e p_2569 L32_62).mpr c_2572)) ?_
        exact Rn.weak (ll_s (ll_s (ll_n ll_e))) (RX12_compared_b37 hd R_2568 t0 p_2569 hq e)
      · rw [if_neg c_2572] at e
        refine Rn.bf hT rfl rfl rfl (decide_eq_false (fun z => c_2572 ((ti_e p_2569 L32_62).mp z))) ?_
        refine Rn.n hT 3 (pc' := 30) (L' := [some (.ref q0), some (.int z_2569), none]) (st' := [.ref q0, .int (0 : Int32), .ref q0]) rfl ?_
        obtain ⟨z_2573, g_2573, p_2573⟩ : ∃ z : Int32, gI h_2568 12 29 q0 = some z ∧ z.toInt = s_2568 q0 29 := rp_gI (k := 29) R_2568 (T12_o t0) rfl
        refine Rn.hp hT rfl rfl (gI_hp g_2573) ?_
        obtain ⟨s_2575, e_2574, e⟩ := Option.bind_eq_some_iff.mp e
        refine Rn.call hT rfl rfl rfl (Nat.le_of_ble_eq_true rfl) (rcv_v gX12_fails (by omega) (rp_ck R_2568 (T12_o t0))) (RX12_fails (by omega) R_2568 t0 L32_0 p_2573 e_2574 (fun h_2575 R_2575 => ?_))
        show Rn d _ _ 36 [some (.ref q0), some (.int z_2569), none] [] h_2575 Q
        obtain rfl := Option.some.inj e
        exact Rn.ret hT rfl rfl rfl (hq h_2575 R_2575)
set_option maxRecDepth 10000 in
theorem hX12_top : iv_Tb 223 tX12_top := iv_tb_of (m := mX12_top) rfl
set_option maxRecDepth 10000 in
theorem gX12_top : PG.2 223 = some mX12_top := iv_pi_of (t := tX12_top) rfl (by decide)
def FX12_top_b22 (N : Nat) (s : iv_M)  (xs0 : Int) : Option (Int) := (some xs0)
set_option maxRecDepth 10000 in
set_option maxHeartbeats 4000000 in
theorem RX12_top_b22 {d N nc Ls : Nat} {Xs : Nat → Int32} (hd : 0 ≤ d) {h : iv_H} {s : iv_M} (hR : Rep nc Ls Xs h s)  {ms0 : Int32} {xs0 : Int} (ps0 : ms0.toInt = xs0) {r : Int} {Q : Option Value → iv_H → Prop} (hq : ∀ (z : Int32), z.toInt = r → Q (some (.int z)) h) (e : FX12_top_b22 N s  xs0 = some r) : Rn d 223 (some .int) 22 [none] [.int ms0] h Q := by
  have hT := hX12_top
  unfold FX12_top_b22 at e
  obtain rfl := Option.some.inj e
  exact Rn.ret hT rfl rfl rfl (hq ms0 ps0)
def FX12_top (N : Nat) (s : iv_M) (q0 : Nat) : Option (Int) := (if (s q0 36) = 0 then (FX12_top_b22 N s (-1)) else ((rd s (q0 + 32) 402 (w32 ((s q0 36) - 1))).bind fun v_2600 => (FX12_top_b22 N s v_2600)))
set_option maxRecDepth 10000 in
set_option maxHeartbeats 4000000 in
theorem RX12_top {d N nc Ls : Nat} {Xs : Nat → Int32} (hd : 1 ≤ d) {h : iv_H} {s : iv_M} (hR : Rep nc Ls Xs h s) {q0 : Nat} (t0 : T12 nc q0) {r : Int} {Q : Option Value → iv_H → Prop} (e : FX12_top N s q0 = some r) (hq : ∀ (z : Int32), z.toInt = r → Q (some (.int z)) h) : Cl d 223 [.ref q0] h Q := by
  obtain ⟨d, rfl⟩ : ∃ k, d = k + 1 := ⟨d - 1, by omega⟩
  have hd : 0 ≤ d := by omega
  have hT := hX12_top
  unfold FX12_top at e
  refine Cl.into (by decide) gX12_top rfl ?_
  show Rn d 223 (some .int) 0 [some (.ref q0)] [] h Q
  refine Rn.n hT 1 (pc' := 1) (L' := [some (.ref q0)]) (st' := [.ref q0]) rfl ?_
  obtain ⟨z_2597, g_2597, p_2597⟩ : ∃ z : Int32, gI h 12 36 q0 = some z ∧ z.toInt = s q0 36 := rp_gI (k := 36) hR (T12_o t0) rfl
  refine Rn.hp hT rfl rfl (gI_hp g_2597) ?_
  by_cases c_2598 : (s q0 36) = 0
  · rw [if_pos c_2598] at e
    refine Rn.bf hT rfl rfl rfl (decide_eq_false (fun z => z ((ti_e p_2597 L32_0).mpr c_2598))) ?_
    refine Rn.n hT 2 (pc' := 22) (L' := [some (.ref q0)]) (st' := [.int (-1 : Int32)]) rfl ?_
    exact Rn.weak (ll_n ll_e) (RX12_top_b22 hd hR L32_m1 hq e)
  · rw [if_neg c_2598] at e
    refine Rn.bt hT rfl rfl rfl (decide_eq_true (fun z => c_2598 ((ti_e p_2597 L32_0).mp z))) ?_
    refine Rn.n hT 1 (pc' := 12) (L' := [some (.ref q0)]) (st' := [.ref q0]) rfl ?_
    refine Rn.hp hT rfl rfl (gR_hp (rp_gR hR (T12_o t0) rfl)) ?_
    refine Rn.n hT 1 (pc' := 16) (L' := [some (.ref q0)]) (st' := [.ref q0, .ref (q0 + 32)]) rfl ?_
    obtain ⟨z_2599, g_2599, p_2599⟩ : ∃ z : Int32, gI h 12 36 q0 = some z ∧ z.toInt = s q0 36 := rp_gI (k := 36) hR (T12_o t0) rfl
    refine Rn.hp hT rfl rfl (gI_hp g_2599) ?_
    refine Rn.n hT 2 (pc' := 21) (L' := [some (.ref q0)]) (st' := [.int (z_2599 - (1 : Int32)), .ref (q0 + 32)]) rfl ?_
    obtain ⟨v_2600, e_2600, e⟩ := Option.bind_eq_some_iff.mp e
    obtain ⟨z_2600, g_2600, p_2600⟩ := rp_aI hR (T12_45 t0) (T12_45l t0) (ti_sub p_2599 L32_1) e_2600
    refine Rn.hp hT rfl rfl (aI_hp g_2600) ?_
    exact Rn.weak (ll_n ll_e) (RX12_top_b22 hd hR p_2600 hq e)
set_option maxRecDepth 10000 in
theorem hX12_opens : iv_Tb 224 tX12_opens := iv_tb_of (m := mX12_opens) rfl
set_option maxRecDepth 10000 in
theorem gX12_opens : PG.2 224 = some mX12_opens := iv_pi_of (t := tX12_opens) rfl (by decide)
def FX12_opens_b40 (N : Nat) (s : iv_M) (q0 : Nat) (x1 : Int)  : Option (iv_M) := ((wr s (q0 + 32) 402 (s q0 36) x1).bind fun s_2612 => ((pt s_2612 q0 36 (w32 ((s_2612 q0 36) + 1))).bind fun s_2615 => some s_2615))
set_option maxRecDepth 10000 in
set_option maxHeartbeats 4000000 in
theorem RX12_opens_b40 {d N nc Ls : Nat} {Xs : Nat → Int32} (hd : 1 ≤ d) {h : iv_H} {s : iv_M} (hR : Rep nc Ls Xs h s) {q0 : Nat} (t0 : T12 nc q0) {m1 : Int32} {x1 : Int} (p1 : m1.toInt = x1)  {r : iv_M} {Q : Option Value → iv_H → Prop} (hq : ∀ h1, Rep nc Ls Xs h1 r → Q none h1) (e : FX12_opens_b40 N s q0 x1  = some r) : Rn d 224 none 40 [some (.ref q0), some (.int m1)] [] h Q := by
  have hT := hX12_opens
  unfold FX12_opens_b40 at e
  refine Rn.n hT 1 (pc' := 41) (L' := [some (.ref q0), some (.int m1)]) (st' := [.ref q0]) rfl ?_
  refine Rn.hp hT rfl rfl (gR_hp (rp_gR hR (T12_o t0) rfl)) ?_
  refine Rn.n hT 1 (pc' := 45) (L' := [some (.ref q0), some (.int m1)]) (st' := [.ref q0, .ref (q0 + 32)]) rfl ?_
  obtain ⟨z_2611, g_2611, p_2611⟩ : ∃ z : Int32, gI h 12 36 q0 = some z ∧ z.toInt = s q0 36 := rp_gI (k := 36) hR (T12_o t0) rfl
  refine Rn.hp hT rfl rfl (gI_hp g_2611) ?_
  refine Rn.n hT 1 (pc' := 49) (L' := [some (.ref q0), some (.int m1)]) (st' := [.int m1, .int z_2611, .ref (q0 + 32)]) rfl ?_
  obtain ⟨s_2612, e_2613, e⟩ := Option.bind_eq_some_iff.mp e
  obtain ⟨h_2612, g_2613, R_2612⟩ := rp_wI hR (T12_45 t0) (T12_45l t0) p_2611 p1 e_2613
  refine Rn.hp hT rfl rfl (wI_hp g_2613) ?_
  refine Rn.n hT 2 (pc' := 52) (L' := [some (.ref q0), some (.int m1)]) (st' := [.ref q0, .ref q0]) rfl ?_
  obtain ⟨z_2614, g_2614, p_2614⟩ : ∃ z : Int32, gI h_2612 12 36 q0 = some z ∧ z.toInt = s_2612 q0 36 := rp_gI (k := 36) R_2612 (T12_o t0) rfl
  refine Rn.hp hT rfl rfl (gI_hp g_2614) ?_
  refine Rn.n hT 2 (pc' := 57) (L' := [some (.ref q0), some (.int m1)]) (st' := [.int (z_2614 + (1 : Int32)), .ref q0]) rfl ?_
  obtain ⟨s_2615, e_2616, e⟩ := Option.bind_eq_some_iff.mp e
  obtain ⟨h_2615, g_2616, R_2615⟩ := rp_pI (ci := 12) (k := 36) R_2612 (T12_o t0) rfl rfl (ti_add p_2614 L32_1) e_2616
  refine Rn.hp hT rfl rfl (pV_hp rfl g_2616) ?_
  obtain rfl := Option.some.inj e
  exact Rn.ret hT rfl rfl rfl (hq h_2615 R_2615)
def FX12_opens_b30 (N : Nat) (s : iv_M) (q0 : Nat) (x1 : Int)  : Option (iv_M) := ((pt s q0 34 (w32 ((s q0 34) + 1))).bind fun s_2609 => (FX12_opens_b40 N s_2609 q0 x1))
set_option maxRecDepth 10000 in
set_option maxHeartbeats 4000000 in
theorem RX12_opens_b30 {d N nc Ls : Nat} {Xs : Nat → Int32} (hd : 1 ≤ d) {h : iv_H} {s : iv_M} (hR : Rep nc Ls Xs h s) {q0 : Nat} (t0 : T12 nc q0) {m1 : Int32} {x1 : Int} (p1 : m1.toInt = x1)  {r : iv_M} {Q : Option Value → iv_H → Prop} (hq : ∀ h1, Rep nc Ls Xs h1 r → Q none h1) (e : FX12_opens_b30 N s q0 x1  = some r) : Rn d 224 none 30 [some (.ref q0), some (.int m1)] [] h Q := by
  have hT := hX12_opens
  unfold FX12_opens_b30 at e
  refine Rn.n hT 2 (pc' := 32) (L' := [some (.ref q0), some (.int m1)]) (st' := [.ref q0, .ref q0]) rfl ?_
  obtain ⟨z_2608, g_2608, p_2608⟩ : ∃ z : Int32, gI h 12 34 q0 = some z ∧ z.toInt = s q0 34 := rp_gI (k := 34) hR (T12_o t0) rfl
  refine Rn.hp hT rfl rfl (gI_hp g_2608) ?_
  refine Rn.n hT 2 (pc' := 37) (L' := [some (.ref q0), some (.int m1)]) (st' := [.int (z_2608 + (1 : Int32)), .ref q0]) rfl ?_
  obtain ⟨s_2609, e_2610, e⟩ := Option.bind_eq_some_iff.mp e
  obtain ⟨h_2609, g_2610, R_2609⟩ := rp_pI (ci := 12) (k := 34) hR (T12_o t0) rfl rfl (ti_add p_2608 L32_1) e_2610
  refine Rn.hp hT rfl rfl (pV_hp rfl g_2610) ?_
  exact Rn.weak (ll_s (ll_s ll_e)) (RX12_opens_b40 hd R_2609 t0 p1 hq e)
def FX12_opens_b12 (N : Nat) (s : iv_M) (q0 : Nat) (x1 : Int)  : Option (iv_M) := (if (s q0 34) = 10 then ((FX12_fails N s q0 2 (s q0 29)).bind fun s_2607 => (FX12_opens_b30 N s_2607 q0 x1)) else (FX12_opens_b30 N s q0 x1))
set_option maxRecDepth 10000 in
set_option maxHeartbeats 4000000 in
theorem RX12_opens_b12 {d N nc Ls : Nat} {Xs : Nat → Int32} (hd : 1 ≤ d) {h : iv_H} {s : iv_M} (hR : Rep nc Ls Xs h s) {q0 : Nat} (t0 : T12 nc q0) {m1 : Int32} {x1 : Int} (p1 : m1.toInt = x1)  {r : iv_M} {Q : Option Value → iv_H → Prop} (hq : ∀ h1, Rep nc Ls Xs h1 r → Q none h1) (e : FX12_opens_b12 N s q0 x1  = some r) : Rn d 224 none 12 [some (.ref q0), some (.int m1)] [] h Q := by
  have hT := hX12_opens
  unfold FX12_opens_b12 at e
  refine Rn.n hT 1 (pc' := 13) (L' := [some (.ref q0), some (.int m1)]) (st' := [.ref q0]) rfl ?_
  obtain ⟨z_2603, g_2603, p_2603⟩ : ∃ z : Int32, gI h 12 34 q0 = some z ∧ z.toInt = s q0 34 := rp_gI (k := 34) hR (T12_o t0) rfl
  refine Rn.hp hT rfl rfl (gI_hp g_2603) ?_
  refine Rn.n hT 1 (pc' := 18) (L' := [some (.ref q0), some (.int m1)]) (st' := [.int (10 : Int32), .int z_2603]) rfl ?_
  by_cases c_2604 : (s q0 34) = 10
  · rw [if_pos c_2604] at e
    refine Rn.bf hT rfl rfl rfl (decide_eq_false (fun z => z ((ti_e p_2603 L32_10).mpr c_2604))) ?_
    refine Rn.n hT 3 (pc' := 24) (L' := [some (.ref q0), some (.int m1)]) (st' := [.ref q0, .int (2 : Int32), .ref q0]) rfl ?_
    obtain ⟨z_2605, g_2605, p_2605⟩ : ∃ z : Int32, gI h 12 29 q0 = some z ∧ z.toInt = s q0 29 := rp_gI (k := 29) hR (T12_o t0) rfl
    refine Rn.hp hT rfl rfl (gI_hp g_2605) ?_
    obtain ⟨s_2607, e_2606, e⟩ := Option.bind_eq_some_iff.mp e
    refine Rn.call hT rfl rfl rfl (Nat.le_of_ble_eq_true rfl) (rcv_v gX12_fails (by omega) (rp_ck hR (T12_o t0))) (RX12_fails (by omega) hR t0 L32_2 p_2605 e_2606 (fun h_2607 R_2607 => ?_))
    show Rn d _ _ 30 [some (.ref q0), some (.int m1)] [] h_2607 Q
    exact Rn.weak (ll_s (ll_s ll_e)) (RX12_opens_b30 hd R_2607 t0 p1 hq e)
  · rw [if_neg c_2604] at e
    refine Rn.bt hT rfl rfl rfl (decide_eq_true (fun z => c_2604 ((ti_e p_2603 L32_10).mp z))) ?_
    exact Rn.weak (ll_s (ll_s ll_e)) (RX12_opens_b30 hd hR t0 p1 hq e)
def FX12_opens (N : Nat) (s : iv_M) (q0 : Nat) (x1 : Int) : Option (iv_M) := (if x1 = 9 then (FX12_opens_b12 N s q0 x1) else (if x1 = 12 then (FX12_opens_b12 N s q0 x1) else (FX12_opens_b40 N s q0 x1)))
set_option maxRecDepth 10000 in
set_option maxHeartbeats 4000000 in
theorem RX12_opens {d N nc Ls : Nat} {Xs : Nat → Int32} (hd : 2 ≤ d) {h : iv_H} {s : iv_M} (hR : Rep nc Ls Xs h s) {q0 : Nat} (t0 : T12 nc q0) {m1 : Int32} {x1 : Int} (p1 : m1.toInt = x1) {r : iv_M} {Q : Option Value → iv_H → Prop} (e : FX12_opens N s q0 x1 = some r) (hq : ∀ h1, Rep nc Ls Xs h1 r → Q none h1) : Cl d 224 [.ref q0, .int m1] h Q := by
  obtain ⟨d, rfl⟩ : ∃ k, d = k + 1 := ⟨d - 1, by omega⟩
  have hd : 1 ≤ d := by omega
  have hT := hX12_opens
  unfold FX12_opens at e
  refine Cl.into (by decide) gX12_opens rfl ?_
  show Rn d 224 none 0 [some (.ref q0), some (.int m1)] [] h Q
  refine Rn.n hT 2 (pc' := 3) (L' := [some (.ref q0), some (.int m1)]) (st' := [.int (9 : Int32), .int m1]) rfl ?_
  by_cases c_2601 : x1 = 9
  · rw [if_pos c_2601] at e
    refine Rn.bt hT rfl rfl rfl (decide_eq_true ((ti_e p1 L32_9).mpr c_2601)) ?_
    exact Rn.weak (ll_s (ll_s ll_e)) (RX12_opens_b12 hd hR t0 p1 hq e)
  · rw [if_neg c_2601] at e
    refine Rn.bf hT rfl rfl rfl (decide_eq_false (fun z => c_2601 ((ti_e p1 L32_9).mp z))) ?_
    refine Rn.n hT 2 (pc' := 9) (L' := [some (.ref q0), some (.int m1)]) (st' := [.int (12 : Int32), .int m1]) rfl ?_
    by_cases c_2602 : x1 = 12
    · rw [if_pos c_2602] at e
      refine Rn.bf hT rfl rfl rfl (decide_eq_false (fun z => z ((ti_e p1 L32_12).mpr c_2602))) ?_
      exact Rn.weak (ll_s (ll_s ll_e)) (RX12_opens_b12 hd hR t0 p1 hq e)
    · rw [if_neg c_2602] at e
      refine Rn.bt hT rfl rfl rfl (decide_eq_true (fun z => c_2602 ((ti_e p1 L32_12).mp z))) ?_
      exact Rn.weak (ll_s (ll_s ll_e)) (RX12_opens_b40 hd hR t0 p1 hq e)
set_option maxRecDepth 10000 in
theorem hX12_answers : iv_Tb 225 tX12_answers := iv_tb_of (m := mX12_answers) rfl
set_option maxRecDepth 10000 in
theorem gX12_answers : PG.2 225 = some mX12_answers := iv_pi_of (t := tX12_answers) rfl (by decide)
def FX12_answers_b47 (N : Nat) (s : iv_M) (q0 : Nat) (x1 : Int) (xs0 : Int) (xs1 : Int) (qs2 : Nat) (kb : iv_M → Option (iv_M)) (kx : iv_M → Option (iv_M)) : Option (iv_M) := ((pt s qs2 34 (w32 (xs1 - xs0))).bind fun s_2630 => (kb s_2630))
set_option maxRecDepth 10000 in
set_option maxHeartbeats 4000000 in
theorem RX12_answers_b47 {d N nc Ls : Nat} {Xs : Nat → Int32} (hd : 1 ≤ d) {h : iv_H} {s : iv_M} (hR : Rep nc Ls Xs h s) {q0 : Nat} (t0 : T12 nc q0) {m1 : Int32} {x1 : Int} (p1 : m1.toInt = x1) {ms0 : Int32} {xs0 : Int} (ps0 : ms0.toInt = xs0) {ms1 : Int32} {xs1 : Int} (ps1 : ms1.toInt = xs1) {qs2 : Nat} (ts2 : T12 nc qs2) {kb : iv_M → Option (iv_M)} {kx : iv_M → Option (iv_M)} {r : iv_M} {Q : Option Value → iv_H → Prop} (hb : ∀ (h : iv_H) (s : iv_M) (hR : Rep nc Ls Xs h s), kb s = some r → Rn d 225 none 0 [some (.ref q0), some (.int m1)] [] h Q) (hk : ∀ (h : iv_H) (s : iv_M) (hR : Rep nc Ls Xs h s), kx s = some r → Rn d 225 none 54 [none, none] [] h Q) (hq : ∀ h1, Rep nc Ls Xs h1 r → Q none h1) (e : FX12_answers_b47 N s q0 x1 xs0 xs1 qs2 kb kx = some r) : Rn d 225 none 47 [some (.ref q0), some (.int m1)] [.int ms0, .int ms1, .ref qs2] h Q := by
  have hT := hX12_answers
  unfold FX12_answers_b47 at e
  refine Rn.n hT 1 (pc' := 48) (L' := [some (.ref q0), some (.int m1)]) (st' := [.int (ms1 - ms0), .ref qs2]) rfl ?_
  obtain ⟨s_2630, e_2631, e⟩ := Option.bind_eq_some_iff.mp e
  obtain ⟨h_2630, g_2631, R_2630⟩ := rp_pI (ci := 12) (k := 34) hR (T12_o ts2) rfl rfl (ti_sub ps1 ps0) e_2631
  refine Rn.hp hT rfl rfl (pV_hp rfl g_2631) ?_
  refine Rn.n hT 1 (pc' := 0) (L' := [some (.ref q0), some (.int m1)]) (st' := []) rfl ?_
  exact Rn.weak (ll_s (ll_s ll_e)) (hb h_2630 s_2630 R_2630 e)
def FX12_answers_l0 (N : Nat) (q0 : Nat) (x1 : Int) (kx : iv_M → Option (iv_M)) : Nat → iv_M → Option (iv_M)
  | 0, _ => none
  | n + 1, s => ((FX12_top N s q0).bind fun v_2619 => (if v_2619 = x1 then (if (s q0 30) = 0 then ((FX12_entry N s q0 x1 0).bind fun s_2624 => ((pt s_2624 q0 36 (w32 ((s_2624 q0 36) - 1))).bind fun s_2626 => (if x1 = 9 then (FX12_answers_b47 N s_2626 q0 x1 1 (s_2626 q0 34) q0 (FX12_answers_l0 N q0 x1 kx n) kx) else (FX12_answers_b47 N s_2626 q0 x1 0 (s_2626 q0 34) q0 (FX12_answers_l0 N q0 x1 kx n) kx)))) else (kx s)) else (kx s)))
set_option maxRecDepth 10000 in
set_option maxHeartbeats 4000000 in
theorem RX12_answers_l0 {d N nc Ls : Nat} {Xs : Nat → Int32} (hd : 1 ≤ d) {q0 : Nat} (t0 : T12 nc q0) {m1 : Int32} {x1 : Int} (p1 : m1.toInt = x1) {kx : iv_M → Option (iv_M)} {r : iv_M} {Q : Option Value → iv_H → Prop} (hk : ∀ (h : iv_H) (s : iv_M) (hR : Rep nc Ls Xs h s), kx s = some r → Rn d 225 none 54 [none, none] [] h Q) (hq : ∀ h1, Rep nc Ls Xs h1 r → Q none h1) : ∀ (n : Nat) (h : iv_H) (s : iv_M) (hR : Rep nc Ls Xs h s), FX12_answers_l0 N q0 x1 kx n s = some r → Rn d 225 none 0 [some (.ref q0), some (.int m1)] [] h Q := by
  have hT := hX12_answers
  intro n
  induction n with
  | zero =>
    intro h s hR e
    rw [FX12_answers_l0] at e
    cases e
  | succ n ih =>
    intro h s hR e
    rw [FX12_answers_l0] at e
    refine Rn.n hT 1 (pc' := 1) (L' := [some (.ref q0), some (.int m1)]) (st' := [.ref q0]) rfl ?_
    obtain ⟨v_2619, e_2619, e⟩ := Option.bind_eq_some_iff.mp e
    refine Rn.call hT rfl rfl rfl (Nat.le_of_ble_eq_true rfl) (rcv_v gX12_top (by omega) (rp_ck hR (T12_o t0))) (RX12_top (by omega) hR t0 e_2619 (fun z_2619 p_2619 => ?_))
    show Rn d _ _ 4 [some (.ref q0), some (.int m1)] [.int z_2619] h Q
    refine Rn.n hT 1 (pc' := 5) (L' := [some (.ref q0), some (.int m1)]) (st' := [.int m1, .int z_2619]) rfl ?_
    by_cases c_2620 : v_2619 = x1
    · rw [if_pos c_2620] at e
      refine Rn.bf hT rfl rfl rfl (decide_eq_false (fun z => z ((ti_e p_2619 p1).mpr c_2620))) ?_
      refine Rn.n hT 1 (pc' := 9) (L' := [some (.ref q0), some (.int m1)]) (st' := [.ref q0]) rfl ?_
      obtain ⟨z_2621, g_2621, p_2621⟩ : ∃ z : Int32, gI h 12 30 q0 = some z ∧ z.toInt = s q0 30 := rp_gI (k := 30) hR (T12_o t0) rfl
      refine Rn.hp hT rfl rfl (gI_hp g_2621) ?_
      by_cases c_2622 : (s q0 30) = 0
      · rw [if_pos c_2622] at e
        refine Rn.bf hT rfl rfl rfl (decide_eq_false (fun z => z ((ti_e p_2621 L32_0).mpr c_2622))) ?_
        refine Rn.n hT 3 (pc' := 18) (L' := [some (.ref q0), some (.int m1)]) (st' := [.int (0 : Int32), .int m1, .ref q0]) rfl ?_
        obtain ⟨s_2624, e_2623, e⟩ := Option.bind_eq_some_iff.mp e
        refine Rn.call hT rfl rfl rfl (Nat.le_of_ble_eq_true rfl) (rcv_v gX12_entry (by omega) (rp_ck hR (T12_o t0))) (RX12_entry (by omega) hR t0 p1 L32_0 e_2623 (fun h_2624 R_2624 => ?_))
        show Rn d _ _ 21 [some (.ref q0), some (.int m1)] [] h_2624 Q
        refine Rn.n hT 2 (pc' := 23) (L' := [some (.ref q0), some (.int m1)]) (st' := [.ref q0, .ref q0]) rfl ?_
        obtain ⟨z_2625, g_2625, p_2625⟩ : ∃ z : Int32, gI h_2624 12 36 q0 = some z ∧ z.toInt = s_2624 q0 36 := rp_gI (k := 36) R_2624 (T12_o t0) rfl
        refine Rn.hp hT rfl rfl (gI_hp g_2625) ?_
        refine Rn.n hT 2 (pc' := 28) (L' := [some (.ref q0), some (.int m1)]) (st' := [.int (z_2625 - (1 : Int32)), .ref q0]) rfl ?_
        obtain ⟨s_2626, e_2627, e⟩ := Option.bind_eq_some_iff.mp e
        obtain ⟨h_2626, g_2627, R_2626⟩ := rp_pI (ci := 12) (k := 36) R_2624 (T12_o t0) rfl rfl (ti_sub p_2625 L32_1) e_2627
        refine Rn.hp hT rfl rfl (pV_hp rfl g_2627) ?_
        refine Rn.n hT 2 (pc' := 33) (L' := [some (.ref q0), some (.int m1)]) (st' := [.ref q0, .ref q0]) rfl ?_
        obtain ⟨z_2628, g_2628, p_2628⟩ : ∃ z : Int32, gI h_2626 12 34 q0 = some z ∧ z.toInt = s_2626 q0 34 := rp_gI (k := 34) R_2626 (T12_o t0) rfl
        refine Rn.hp hT rfl rfl (gI_hp g_2628) ?_
        refine Rn.n hT 2 (pc' := 39) (L' := [some (.ref q0), some (.int m1)]) (st' := [.int (9 : Int32), .int m1, .int z_2628, .ref q0]) rfl ?_
        by_cases c_2629 : x1 = 9
        · rw [if_pos c_2629] at e
          refine Rn.bf hT rfl rfl rfl (decide_eq_false (fun z => z ((ti_e p1 L32_9).mpr c_2629))) ?_
          refine Rn.n hT 2 (pc' := 47) (L' := [some (.ref q0), some (.int m1)]) (st' := [.int (1 : Int32), .int z_2628, .ref q0]) rfl ?_
          exact Rn.weak (ll_s (ll_s ll_e)) (RX12_answers_b47 hd R_2626 t0 p1 L32_1 p_2628 t0 ih hk hq e)
        · rw [if_neg c_2629] at e
          refine Rn.bt hT rfl rfl rfl (decide_eq_true (fun z => c_2629 ((ti_e p1 L32_9).mp z))) ?_
          refine Rn.n hT 1 (pc' := 47) (L' := [some (.ref q0), some (.int m1)]) (st' := [.int (0 : Int32), .int z_2628, .ref q0]) rfl ?_
          exact Rn.weak (ll_s (ll_s ll_e)) (RX12_answers_b47 hd R_2626 t0 p1 L32_0 p_2628 t0 ih hk hq e)
      · rw [if_neg c_2622] at e
        refine Rn.bt hT rfl rfl rfl (decide_eq_true (fun z => c_2622 ((ti_e p_2621 L32_0).mp z))) ?_
        exact Rn.weak (ll_n (ll_n ll_e)) (hk h s hR e)
    · rw [if_neg c_2620] at e
      refine Rn.bt hT rfl rfl rfl (decide_eq_true (fun z => c_2620 ((ti_e p_2619 p1).mp z))) ?_
      exact Rn.weak (ll_n (ll_n ll_e)) (hk h s hR e)
def FX12_answers_b54 (N : Nat) (s : iv_M)   : Option (iv_M) := some s
set_option maxRecDepth 10000 in
set_option maxHeartbeats 4000000 in
theorem RX12_answers_b54 {d N nc Ls : Nat} {Xs : Nat → Int32} (hd : 1 ≤ d) {h : iv_H} {s : iv_M} (hR : Rep nc Ls Xs h s)   {r : iv_M} {Q : Option Value → iv_H → Prop} (hq : ∀ h1, Rep nc Ls Xs h1 r → Q none h1) (e : FX12_answers_b54 N s   = some r) : Rn d 225 none 54 [none, none] [] h Q := by
  have hT := hX12_answers
  unfold FX12_answers_b54 at e
  obtain rfl := Option.some.inj e
  exact Rn.ret hT rfl rfl rfl (hq h hR)
def FX12_answers (N : Nat) (s : iv_M) (q0 : Nat) (x1 : Int) : Option (iv_M) := (FX12_answers_l0 N q0 x1 (fun (s_2617 : iv_M) => (FX12_answers_b54 N s_2617)) N s)
set_option maxRecDepth 10000 in
set_option maxHeartbeats 4000000 in
theorem RX12_answers {d N nc Ls : Nat} {Xs : Nat → Int32} (hd : 2 ≤ d) {h : iv_H} {s : iv_M} (hR : Rep nc Ls Xs h s) {q0 : Nat} (t0 : T12 nc q0) {m1 : Int32} {x1 : Int} (p1 : m1.toInt = x1) {r : iv_M} {Q : Option Value → iv_H → Prop} (e : FX12_answers N s q0 x1 = some r) (hq : ∀ h1, Rep nc Ls Xs h1 r → Q none h1) : Cl d 225 [.ref q0, .int m1] h Q := by
  obtain ⟨d, rfl⟩ : ∃ k, d = k + 1 := ⟨d - 1, by omega⟩
  have hd : 1 ≤ d := by omega
  have hT := hX12_answers
  unfold FX12_answers at e
  refine Cl.into (by decide) gX12_answers rfl ?_
  show Rn d 225 none 0 [some (.ref q0), some (.int m1)] [] h Q
  refine Rn.weak (ll_s (ll_s ll_e)) (RX12_answers_l0 hd t0 p1 (fun h_2617 s_2617 R_2617 e => ?_) hq N h s hR e)
  try dsimp only at e
  exact Rn.weak (ll_n (ll_n ll_e)) (RX12_answers_b54 hd R_2617 hq e)
set_option maxRecDepth 10000 in
theorem hX12_fact : iv_Tb 226 tX12_fact := iv_tb_of (m := mX12_fact) rfl
set_option maxRecDepth 10000 in
theorem gX12_fact : PG.2 226 = some mX12_fact := iv_pi_of (t := tX12_fact) rfl (by decide)
def FX12_fact (N : Nat) (s : iv_M) (q0 : Nat) : Option (Int × iv_M) := ((FX12_blanks N s q0).bind fun s_2633 => ((FX12_stood N s_2633 q0 1000028).bind fun v_2634 => (if v_2634 = 0 then ((FX12_sign N s_2633 q0).bind fun v_2636 => (if v_2636 = 91 then ((FX12_opens N s_2633 q0 12).bind fun s_2641 => ((pt s_2641 q0 29 (w32 ((s_2641 q0 29) + 1))).bind fun s_2643 => (some (0, s_2643)))) else ((FX12_compared N s_2633 q0).bind fun s_2639 => (some (1, s_2639))))) else ((FX12_opens N s_2633 q0 9).bind fun s_2646 => ((pt s_2646 q0 29 (w32 ((s_2646 q0 29) + 3))).bind fun s_2648 => (some (0, s_2648)))))))
set_option maxRecDepth 10000 in
set_option maxHeartbeats 4000000 in
theorem RX12_fact {d N nc Ls : Nat} {Xs : Nat → Int32} (hd : 16 ≤ d) {h : iv_H} {s : iv_M} (hR : Rep nc Ls Xs h s) {q0 : Nat} (t0 : T12 nc q0) {r : Int × iv_M} {Q : Option Value → iv_H → Prop} (e : FX12_fact N s q0 = some r) (hq : ∀ (z : Int32) (h1 : iv_H), z.toInt = r.1 → Rep nc Ls Xs h1 r.2 → Q (some (.int z)) h1) : Cl d 226 [.ref q0] h Q := by
  obtain ⟨d, rfl⟩ : ∃ k, d = k + 1 := ⟨d - 1, by omega⟩
  have hd : 15 ≤ d := by omega
  have hT := hX12_fact
  unfold FX12_fact at e
  refine Cl.into (by decide) gX12_fact rfl ?_
  show Rn d 226 (some .boolean) 0 [some (.ref q0)] [] h Q
  refine Rn.n hT 1 (pc' := 1) (L' := [some (.ref q0)]) (st' := [.ref q0]) rfl ?_
  obtain ⟨s_2633, e_2632, e⟩ := Option.bind_eq_some_iff.mp e
  refine Rn.call hT rfl rfl rfl (Nat.le_of_ble_eq_true rfl) (rcv_v gX12_blanks (by omega) (rp_ck hR (T12_o t0))) (RX12_blanks (by omega) hR t0 e_2632 (fun h_2633 R_2633 => ?_))
  show Rn d _ _ 4 [some (.ref q0)] [] h_2633 Q
  refine Rn.n hT 2 (pc' := 8) (L' := [some (.ref q0)]) (st' := [.ref 1000028, .ref q0]) rfl ?_
  obtain ⟨v_2634, e_2634, e⟩ := Option.bind_eq_some_iff.mp e
  refine Rn.call hT rfl rfl rfl (Nat.le_of_ble_eq_true rfl) (rcv_v gX12_stood (by omega) (rp_ck R_2633 (T12_o t0))) (RX12_stood (by omega) R_2633 t0 TS_1000028 e_2634 (fun z_2634 p_2634 => ?_))
  show Rn d _ _ 11 [some (.ref q0)] [.int z_2634] h_2633 Q
  by_cases c_2635 : v_2634 = 0
  · rw [if_pos c_2635] at e
    refine Rn.bt hT rfl rfl rfl (decide_eq_true ((ti_e p_2634 L32_0).mpr c_2635)) ?_
    refine Rn.n hT 1 (pc' := 33) (L' := [some (.ref q0)]) (st' := [.ref q0]) rfl ?_
    obtain ⟨v_2636, e_2636, e⟩ := Option.bind_eq_some_iff.mp e
    refine Rn.call hT rfl rfl rfl (Nat.le_of_ble_eq_true rfl) (rcv_v gX12_sign (by omega) (rp_ck R_2633 (T12_o t0))) (RX12_sign (by omega) R_2633 t0 e_2636 (fun z_2636 p_2636 => ?_))
    show Rn d _ _ 36 [some (.ref q0)] [.int z_2636] h_2633 Q
    refine Rn.n hT 1 (pc' := 38) (L' := [some (.ref q0)]) (st' := [.int (91 : Int32), .int z_2636]) rfl ?_
    by_cases c_2637 : v_2636 = 91
    · rw [if_pos c_2637] at e
      refine Rn.bf hT rfl rfl rfl (decide_eq_false (fun z => z ((ti_e p_2636 L32_91).mpr c_2637))) ?_
      refine Rn.n hT 2 (pc' := 44) (L' := [some (.ref q0)]) (st' := [.int (12 : Int32), .ref q0]) rfl ?_
      obtain ⟨s_2641, e_2640, e⟩ := Option.bind_eq_some_iff.mp e
      refine Rn.call hT rfl rfl rfl (Nat.le_of_ble_eq_true rfl) (rcv_v gX12_opens (by omega) (rp_ck R_2633 (T12_o t0))) (RX12_opens (by omega) R_2633 t0 L32_12 e_2640 (fun h_2641 R_2641 => ?_))
      show Rn d _ _ 47 [some (.ref q0)] [] h_2641 Q
      refine Rn.n hT 2 (pc' := 49) (L' := [some (.ref q0)]) (st' := [.ref q0, .ref q0]) rfl ?_
      obtain ⟨z_2642, g_2642, p_2642⟩ : ∃ z : Int32, gI h_2641 12 29 q0 = some z ∧ z.toInt = s_2641 q0 29 := rp_gI (k := 29) R_2641 (T12_o t0) rfl
      refine Rn.hp hT rfl rfl (gI_hp g_2642) ?_
      refine Rn.n hT 2 (pc' := 54) (L' := [some (.ref q0)]) (st' := [.int (z_2642 + (1 : Int32)), .ref q0]) rfl ?_
      obtain ⟨s_2643, e_2644, e⟩ := Option.bind_eq_some_iff.mp e
      obtain ⟨h_2643, g_2644, R_2643⟩ := rp_pI (ci := 12) (k := 29) R_2641 (T12_o t0) rfl rfl (ti_add p_2642 L32_1) e_2644
      refine Rn.hp hT rfl rfl (pV_hp rfl g_2644) ?_
      refine Rn.n hT 1 (pc' := 58) (L' := [some (.ref q0)]) (st' := [.int (0 : Int32)]) rfl ?_
      obtain rfl := Option.some.inj e
      exact Rn.ret hT rfl rfl rfl (hq (0 : Int32) h_2643 L32_0 R_2643)
    · rw [if_neg c_2637] at e
      refine Rn.bt hT rfl rfl rfl (decide_eq_true (fun z => c_2637 ((ti_e p_2636 L32_91).mp z))) ?_
      refine Rn.n hT 1 (pc' := 60) (L' := [some (.ref q0)]) (st' := [.ref q0]) rfl ?_
      obtain ⟨s_2639, e_2638, e⟩ := Option.bind_eq_some_iff.mp e
      refine Rn.call hT rfl rfl rfl (Nat.le_of_ble_eq_true rfl) (rcv_v gX12_compared (by omega) (rp_ck R_2633 (T12_o t0))) (RX12_compared (by omega) R_2633 t0 e_2638 (fun h_2639 R_2639 => ?_))
      show Rn d _ _ 63 [some (.ref q0)] [] h_2639 Q
      refine Rn.n hT 1 (pc' := 64) (L' := [some (.ref q0)]) (st' := [.int (1 : Int32)]) rfl ?_
      obtain rfl := Option.some.inj e
      exact Rn.ret hT rfl rfl rfl (hq (1 : Int32) h_2639 L32_1 R_2639)
  · rw [if_neg c_2635] at e
    refine Rn.bf hT rfl rfl rfl (decide_eq_false (fun z => c_2635 ((ti_e p_2634 L32_0).mp z))) ?_
    refine Rn.n hT 2 (pc' := 17) (L' := [some (.ref q0)]) (st' := [.int (9 : Int32), .ref q0]) rfl ?_
    obtain ⟨s_2646, e_2645, e⟩ := Option.bind_eq_some_iff.mp e
    refine Rn.call hT rfl rfl rfl (Nat.le_of_ble_eq_true rfl) (rcv_v gX12_opens (by omega) (rp_ck R_2633 (T12_o t0))) (RX12_opens (by omega) R_2633 t0 L32_9 e_2645 (fun h_2646 R_2646 => ?_))
    show Rn d _ _ 20 [some (.ref q0)] [] h_2646 Q
    refine Rn.n hT 2 (pc' := 22) (L' := [some (.ref q0)]) (st' := [.ref q0, .ref q0]) rfl ?_
    obtain ⟨z_2647, g_2647, p_2647⟩ : ∃ z : Int32, gI h_2646 12 29 q0 = some z ∧ z.toInt = s_2646 q0 29 := rp_gI (k := 29) R_2646 (T12_o t0) rfl
    refine Rn.hp hT rfl rfl (gI_hp g_2647) ?_
    refine Rn.n hT 2 (pc' := 27) (L' := [some (.ref q0)]) (st' := [.int (z_2647 + (3 : Int32)), .ref q0]) rfl ?_
    obtain ⟨s_2648, e_2649, e⟩ := Option.bind_eq_some_iff.mp e
    obtain ⟨h_2648, g_2649, R_2648⟩ := rp_pI (ci := 12) (k := 29) R_2646 (T12_o t0) rfl rfl (ti_add p_2647 L32_3) e_2649
    refine Rn.hp hT rfl rfl (pV_hp rfl g_2649) ?_
    refine Rn.n hT 1 (pc' := 31) (L' := [some (.ref q0)]) (st' := [.int (0 : Int32)]) rfl ?_
    obtain rfl := Option.some.inj e
    exact Rn.ret hT rfl rfl rfl (hq (0 : Int32) h_2648 L32_0 R_2648)
set_option maxRecDepth 10000 in
theorem hX12_test : iv_Tb 227 tX12_test := iv_tb_of (m := mX12_test) rfl
set_option maxRecDepth 10000 in
theorem gX12_test : PG.2 227 = some mX12_test := iv_pi_of (t := tX12_test) rfl (by decide)
def FX12_test_b36 (N : Nat) (s : iv_M) (q0 : Nat) (x2 : Int) (xs0 : Int) (kb : iv_M → Int → Int → Option (iv_M)) (kx : iv_M → Option (iv_M)) : Option (iv_M) := (kb s xs0 x2)
set_option maxRecDepth 10000 in
set_option maxHeartbeats 4000000 in
theorem RX12_test_b36 {d N nc Ls : Nat} {Xs : Nat → Int32} (hd : 16 ≤ d) {h : iv_H} {s : iv_M} (hR : Rep nc Ls Xs h s) {q0 : Nat} (t0 : T12 nc q0) {m2 : Int32} {x2 : Int} (p2 : m2.toInt = x2) {ms0 : Int32} {xs0 : Int} (ps0 : ms0.toInt = xs0) {kb : iv_M → Int → Int → Option (iv_M)} {kx : iv_M → Option (iv_M)} {r : iv_M} {Q : Option Value → iv_H → Prop} (hb : ∀ (h : iv_H) (s : iv_M) (hR : Rep nc Ls Xs h s) (mw1 : Int32) (xw1 : Int) (pw1 : mw1.toInt = xw1) (mw2 : Int32) (xw2 : Int) (pw2 : mw2.toInt = xw2), kb s xw1 xw2 = some r → Rn d 227 none 9 [some (.ref q0), some (.int mw1), some (.int mw2), none, none] [] h Q) (hk : ∀ (h : iv_H) (s : iv_M) (hR : Rep nc Ls Xs h s), kx s = some r → Rn d 227 none 202 [none, none, none, none, none] [] h Q) (hq : ∀ h1, Rep nc Ls Xs h1 r → Q none h1) (e : FX12_test_b36 N s q0 x2 xs0 kb kx = some r) : Rn d 227 none 36 [some (.ref q0), none, some (.int m2), none, none] [.int ms0] h Q := by
  have hT := hX12_test
  unfold FX12_test_b36 at e
  refine Rn.n hT 2 (pc' := 9) (L' := [some (.ref q0), some (.int ms0), some (.int m2), none, none]) (st' := []) rfl ?_
  exact Rn.weak (ll_s (ll_s (ll_s (ll_n (ll_n ll_e))))) (hb h s hR ms0 xs0 ps0 m2 x2 p2 e)
def FX12_test_b199 (N : Nat) (s : iv_M) (q0 : Nat) (x1 : Int) (x2 : Int)  (kb : iv_M → Int → Int → Option (iv_M)) (kx : iv_M → Option (iv_M)) : Option (iv_M) := (kb s x1 x2)
set_option maxRecDepth 10000 in
set_option maxHeartbeats 4000000 in
theorem RX12_test_b199 {d N nc Ls : Nat} {Xs : Nat → Int32} (hd : 16 ≤ d) {h : iv_H} {s : iv_M} (hR : Rep nc Ls Xs h s) {q0 : Nat} (t0 : T12 nc q0) {m1 : Int32} {x1 : Int} (p1 : m1.toInt = x1) {m2 : Int32} {x2 : Int} (p2 : m2.toInt = x2)  {kb : iv_M → Int → Int → Option (iv_M)} {kx : iv_M → Option (iv_M)} {r : iv_M} {Q : Option Value → iv_H → Prop} (hb : ∀ (h : iv_H) (s : iv_M) (hR : Rep nc Ls Xs h s) (mw1 : Int32) (xw1 : Int) (pw1 : mw1.toInt = xw1) (mw2 : Int32) (xw2 : Int) (pw2 : mw2.toInt = xw2), kb s xw1 xw2 = some r → Rn d 227 none 9 [some (.ref q0), some (.int mw1), some (.int mw2), none, none] [] h Q) (hk : ∀ (h : iv_H) (s : iv_M) (hR : Rep nc Ls Xs h s), kx s = some r → Rn d 227 none 202 [none, none, none, none, none] [] h Q) (hq : ∀ h1, Rep nc Ls Xs h1 r → Q none h1) (e : FX12_test_b199 N s q0 x1 x2  kb kx = some r) : Rn d 227 none 199 [some (.ref q0), some (.int m1), some (.int m2), none, none] [] h Q := by
  have hT := hX12_test
  unfold FX12_test_b199 at e
  refine Rn.n hT 1 (pc' := 9) (L' := [some (.ref q0), some (.int m1), some (.int m2), none, none]) (st' := []) rfl ?_
  exact Rn.weak (ll_s (ll_s (ll_s (ll_n (ll_n ll_e))))) (hb h s hR m1 x1 p1 m2 x2 p2 e)
def FX12_test_b122 (N : Nat) (s : iv_M) (q0 : Nat) (x2 : Int) (xs0 : Int) (xs1 : Int) (qs2 : Nat) (kb : iv_M → Int → Int → Option (iv_M)) (kx : iv_M → Option (iv_M)) : Option (iv_M) := ((pt s qs2 29 (w32 (xs1 + xs0))).bind fun s_2688 => (FX12_test_b199 N s_2688 q0 1 x2 kb kx))
set_option maxRecDepth 10000 in
set_option maxHeartbeats 4000000 in
theorem RX12_test_b122 {d N nc Ls : Nat} {Xs : Nat → Int32} (hd : 16 ≤ d) {h : iv_H} {s : iv_M} (hR : Rep nc Ls Xs h s) {q0 : Nat} (t0 : T12 nc q0) {m2 : Int32} {x2 : Int} (p2 : m2.toInt = x2) {ms0 : Int32} {xs0 : Int} (ps0 : ms0.toInt = xs0) {ms1 : Int32} {xs1 : Int} (ps1 : ms1.toInt = xs1) {qs2 : Nat} (ts2 : T12 nc qs2) {kb : iv_M → Int → Int → Option (iv_M)} {kx : iv_M → Option (iv_M)} {r : iv_M} {Q : Option Value → iv_H → Prop} (hb : ∀ (h : iv_H) (s : iv_M) (hR : Rep nc Ls Xs h s) (mw1 : Int32) (xw1 : Int) (pw1 : mw1.toInt = xw1) (mw2 : Int32) (xw2 : Int) (pw2 : mw2.toInt = xw2), kb s xw1 xw2 = some r → Rn d 227 none 9 [some (.ref q0), some (.int mw1), some (.int mw2), none, none] [] h Q) (hk : ∀ (h : iv_H) (s : iv_M) (hR : Rep nc Ls Xs h s), kx s = some r → Rn d 227 none 202 [none, none, none, none, none] [] h Q) (hq : ∀ h1, Rep nc Ls Xs h1 r → Q none h1) (e : FX12_test_b122 N s q0 x2 xs0 xs1 qs2 kb kx = some r) : Rn d 227 none 122 [some (.ref q0), none, some (.int m2), none, none] [.int ms0, .int ms1, .ref qs2] h Q := by
  have hT := hX12_test
  unfold FX12_test_b122 at e
  refine Rn.n hT 1 (pc' := 123) (L' := [some (.ref q0), none, some (.int m2), none, none]) (st' := [.int (ms1 + ms0), .ref qs2]) rfl ?_
  obtain ⟨s_2688, e_2689, e⟩ := Option.bind_eq_some_iff.mp e
  obtain ⟨h_2688, g_2689, R_2688⟩ := rp_pI (ci := 12) (k := 29) hR (T12_o ts2) rfl rfl (ti_add ps1 ps0) e_2689
  refine Rn.hp hT rfl rfl (pV_hp rfl g_2689) ?_
  refine Rn.n hT 3 (pc' := 199) (L' := [some (.ref q0), some (.int (1 : Int32)), some (.int m2), none, none]) (st' := []) rfl ?_
  exact Rn.weak (ll_s (ll_s (ll_s (ll_n (ll_n ll_e))))) (RX12_test_b199 hd R_2688 t0 L32_1 p2 hb hk hq e)
def FX12_test_b105 (N : Nat) (s : iv_M) (q0 : Nat) (x2 : Int) (x3 : Int) (xs0 : Int) (qs1 : Nat) (kb : iv_M → Int → Int → Option (iv_M)) (kx : iv_M → Option (iv_M)) : Option (iv_M) := ((FX12_opens N s qs1 xs0).bind fun s_2685 => (if x3 = 0 then (FX12_test_b122 N s_2685 q0 x2 2 (s_2685 q0 29) q0 kb kx) else (FX12_test_b122 N s_2685 q0 x2 3 (s_2685 q0 29) q0 kb kx)))
set_option maxRecDepth 10000 in
set_option maxHeartbeats 4000000 in
theorem RX12_test_b105 {d N nc Ls : Nat} {Xs : Nat → Int32} (hd : 16 ≤ d) {h : iv_H} {s : iv_M} (hR : Rep nc Ls Xs h s) {q0 : Nat} (t0 : T12 nc q0) {m2 : Int32} {x2 : Int} (p2 : m2.toInt = x2) {m3 : Int32} {x3 : Int} (p3 : m3.toInt = x3) {ms0 : Int32} {xs0 : Int} (ps0 : ms0.toInt = xs0) {qs1 : Nat} (ts1 : T12 nc qs1) {kb : iv_M → Int → Int → Option (iv_M)} {kx : iv_M → Option (iv_M)} {r : iv_M} {Q : Option Value → iv_H → Prop} (hb : ∀ (h : iv_H) (s : iv_M) (hR : Rep nc Ls Xs h s) (mw1 : Int32) (xw1 : Int) (pw1 : mw1.toInt = xw1) (mw2 : Int32) (xw2 : Int) (pw2 : mw2.toInt = xw2), kb s xw1 xw2 = some r → Rn d 227 none 9 [some (.ref q0), some (.int mw1), some (.int mw2), none, none] [] h Q) (hk : ∀ (h : iv_H) (s : iv_M) (hR : Rep nc Ls Xs h s), kx s = some r → Rn d 227 none 202 [none, none, none, none, none] [] h Q) (hq : ∀ h1, Rep nc Ls Xs h1 r → Q none h1) (e : FX12_test_b105 N s q0 x2 x3 xs0 qs1 kb kx = some r) : Rn d 227 none 105 [some (.ref q0), none, some (.int m2), some (.int m3), none] [.int ms0, .ref qs1] h Q := by
  have hT := hX12_test
  unfold FX12_test_b105 at e
  obtain ⟨s_2685, e_2684, e⟩ := Option.bind_eq_some_iff.mp e
  refine Rn.call hT rfl rfl rfl (Nat.le_of_ble_eq_true rfl) (rcv_v gX12_opens (by omega) (rp_ck hR (T12_o ts1))) (RX12_opens (by omega) hR ts1 ps0 e_2684 (fun h_2685 R_2685 => ?_))
  show Rn d _ _ 108 [some (.ref q0), none, some (.int m2), some (.int m3), none] [] h_2685 Q
  refine Rn.n hT 2 (pc' := 110) (L' := [some (.ref q0), none, some (.int m2), some (.int m3), none]) (st' := [.ref q0, .ref q0]) rfl ?_
  obtain ⟨z_2686, g_2686, p_2686⟩ : ∃ z : Int32, gI h_2685 12 29 q0 = some z ∧ z.toInt = s_2685 q0 29 := rp_gI (k := 29) R_2685 (T12_o t0) rfl
  refine Rn.hp hT rfl rfl (gI_hp g_2686) ?_
  refine Rn.n hT 1 (pc' := 114) (L' := [some (.ref q0), none, some (.int m2), some (.int m3), none]) (st' := [.int m3, .int z_2686, .ref q0]) rfl ?_
  by_cases c_2687 : x3 = 0
  · rw [if_pos c_2687] at e
    refine Rn.bt hT rfl rfl rfl (decide_eq_true ((ti_e p3 L32_0).mpr c_2687)) ?_
    refine Rn.n hT 1 (pc' := 122) (L' := [some (.ref q0), none, some (.int m2), some (.int m3), none]) (st' := [.int (2 : Int32), .int z_2686, .ref q0]) rfl ?_
    exact Rn.weak (ll_s (ll_n (ll_s (ll_n (ll_n ll_e))))) (RX12_test_b122 hd R_2685 t0 p2 L32_2 p_2686 t0 hb hk hq e)
  · rw [if_neg c_2687] at e
    refine Rn.bf hT rfl rfl rfl (decide_eq_false (fun z => c_2687 ((ti_e p3 L32_0).mp z))) ?_
    refine Rn.n hT 2 (pc' := 122) (L' := [some (.ref q0), none, some (.int m2), some (.int m3), none]) (st' := [.int (3 : Int32), .int z_2686, .ref q0]) rfl ?_
    exact Rn.weak (ll_s (ll_n (ll_s (ll_n (ll_n ll_e))))) (RX12_test_b122 hd R_2685 t0 p2 L32_3 p_2686 t0 hb hk hq e)
def FX12_test_b93 (N : Nat) (s : iv_M) (q0 : Nat) (x2 : Int) (x3 : Int)  (kb : iv_M → Int → Int → Option (iv_M)) (kx : iv_M → Option (iv_M)) : Option (iv_M) := (if x3 = 0 then (FX12_test_b105 N s q0 x2 x3 11 q0 kb kx) else (FX12_test_b105 N s q0 x2 x3 10 q0 kb kx))
set_option maxRecDepth 10000 in
set_option maxHeartbeats 4000000 in
theorem RX12_test_b93 {d N nc Ls : Nat} {Xs : Nat → Int32} (hd : 16 ≤ d) {h : iv_H} {s : iv_M} (hR : Rep nc Ls Xs h s) {q0 : Nat} (t0 : T12 nc q0) {m2 : Int32} {x2 : Int} (p2 : m2.toInt = x2) {m3 : Int32} {x3 : Int} (p3 : m3.toInt = x3)  {kb : iv_M → Int → Int → Option (iv_M)} {kx : iv_M → Option (iv_M)} {r : iv_M} {Q : Option Value → iv_H → Prop} (hb : ∀ (h : iv_H) (s : iv_M) (hR : Rep nc Ls Xs h s) (mw1 : Int32) (xw1 : Int) (pw1 : mw1.toInt = xw1) (mw2 : Int32) (xw2 : Int) (pw2 : mw2.toInt = xw2), kb s xw1 xw2 = some r → Rn d 227 none 9 [some (.ref q0), some (.int mw1), some (.int mw2), none, none] [] h Q) (hk : ∀ (h : iv_H) (s : iv_M) (hR : Rep nc Ls Xs h s), kx s = some r → Rn d 227 none 202 [none, none, none, none, none] [] h Q) (hq : ∀ h1, Rep nc Ls Xs h1 r → Q none h1) (e : FX12_test_b93 N s q0 x2 x3  kb kx = some r) : Rn d 227 none 93 [some (.ref q0), none, some (.int m2), some (.int m3), none] [] h Q := by
  have hT := hX12_test
  unfold FX12_test_b93 at e
  refine Rn.n hT 2 (pc' := 95) (L' := [some (.ref q0), none, some (.int m2), some (.int m3), none]) (st' := [.int m3, .ref q0]) rfl ?_
  by_cases c_2683 : x3 = 0
  · rw [if_pos c_2683] at e
    refine Rn.bt hT rfl rfl rfl (decide_eq_true ((ti_e p3 L32_0).mpr c_2683)) ?_
    refine Rn.n hT 1 (pc' := 105) (L' := [some (.ref q0), none, some (.int m2), some (.int m3), none]) (st' := [.int (11 : Int32), .ref q0]) rfl ?_
    exact Rn.weak (ll_s (ll_n (ll_s (ll_s (ll_n ll_e))))) (RX12_test_b105 hd hR t0 p2 p3 L32_11 t0 hb hk hq e)
  · rw [if_neg c_2683] at e
    refine Rn.bf hT rfl rfl rfl (decide_eq_false (fun z => c_2683 ((ti_e p3 L32_0).mp z))) ?_
    refine Rn.n hT 2 (pc' := 105) (L' := [some (.ref q0), none, some (.int m2), some (.int m3), none]) (st' := [.int (10 : Int32), .ref q0]) rfl ?_
    exact Rn.weak (ll_s (ll_n (ll_s (ll_s (ll_n ll_e))))) (RX12_test_b105 hd hR t0 p2 p3 L32_10 t0 hb hk hq e)
def FX12_test_b82 (N : Nat) (s : iv_M) (q0 : Nat) (x2 : Int) (x3 : Int) (x4 : Int)  (kb : iv_M → Int → Int → Option (iv_M)) (kx : iv_M → Option (iv_M)) : Option (iv_M) := (if x4 = 0 then (FX12_test_b93 N s q0 x2 x3 kb kx) else ((FX12_answers N s q0 11).bind fun s_2682 => (FX12_test_b93 N s_2682 q0 x2 x3 kb kx)))
set_option maxRecDepth 10000 in
set_option maxHeartbeats 4000000 in
theorem RX12_test_b82 {d N nc Ls : Nat} {Xs : Nat → Int32} (hd : 16 ≤ d) {h : iv_H} {s : iv_M} (hR : Rep nc Ls Xs h s) {q0 : Nat} (t0 : T12 nc q0) {m2 : Int32} {x2 : Int} (p2 : m2.toInt = x2) {m3 : Int32} {x3 : Int} (p3 : m3.toInt = x3) {m4 : Int32} {x4 : Int} (p4 : m4.toInt = x4)  {kb : iv_M → Int → Int → Option (iv_M)} {kx : iv_M → Option (iv_M)} {r : iv_M} {Q : Option Value → iv_H → Prop} (hb : ∀ (h : iv_H) (s : iv_M) (hR : Rep nc Ls Xs h s) (mw1 : Int32) (xw1 : Int) (pw1 : mw1.toInt = xw1) (mw2 : Int32) (xw2 : Int) (pw2 : mw2.toInt = xw2), kb s xw1 xw2 = some r → Rn d 227 none 9 [some (.ref q0), some (.int mw1), some (.int mw2), none, none] [] h Q) (hk : ∀ (h : iv_H) (s : iv_M) (hR : Rep nc Ls Xs h s), kx s = some r → Rn d 227 none 202 [none, none, none, none, none] [] h Q) (hq : ∀ h1, Rep nc Ls Xs h1 r → Q none h1) (e : FX12_test_b82 N s q0 x2 x3 x4  kb kx = some r) : Rn d 227 none 82 [some (.ref q0), none, some (.int m2), some (.int m3), some (.int m4)] [] h Q := by
  have hT := hX12_test
  unfold FX12_test_b82 at e
  refine Rn.n hT 1 (pc' := 84) (L' := [some (.ref q0), none, some (.int m2), some (.int m3), some (.int m4)]) (st' := [.int m4]) rfl ?_
  by_cases c_2680 : x4 = 0
  · rw [if_pos c_2680] at e
    refine Rn.bt hT rfl rfl rfl (decide_eq_true ((ti_e p4 L32_0).mpr c_2680)) ?_
    exact Rn.weak (ll_s (ll_n (ll_s (ll_s (ll_n ll_e))))) (RX12_test_b93 hd hR t0 p2 p3 hb hk hq e)
  · rw [if_neg c_2680] at e
    refine Rn.bf hT rfl rfl rfl (decide_eq_false (fun z => c_2680 ((ti_e p4 L32_0).mp z))) ?_
    refine Rn.n hT 2 (pc' := 90) (L' := [some (.ref q0), none, some (.int m2), some (.int m3), some (.int m4)]) (st' := [.int (11 : Int32), .ref q0]) rfl ?_
    obtain ⟨s_2682, e_2681, e⟩ := Option.bind_eq_some_iff.mp e
    refine Rn.call hT rfl rfl rfl (Nat.le_of_ble_eq_true rfl) (rcv_v gX12_answers (by omega) (rp_ck hR (T12_o t0))) (RX12_answers (by omega) hR t0 L32_11 e_2681 (fun h_2682 R_2682 => ?_))
    show Rn d _ _ 93 [some (.ref q0), none, some (.int m2), some (.int m3), some (.int m4)] [] h_2682 Q
    exact Rn.weak (ll_s (ll_n (ll_s (ll_s (ll_n ll_e))))) (RX12_test_b93 hd R_2682 t0 p2 p3 hb hk hq e)
def FX12_test_b164 (N : Nat) (s : iv_M) (q0 : Nat) (x1 : Int) (x2 : Int)  (kb : iv_M → Int → Int → Option (iv_M)) (kx : iv_M → Option (iv_M)) : Option (iv_M) := ((pt s q0 29 (w32 ((s q0 29) + 1))).bind fun s_2691 => ((pt s_2691 q0 36 (w32 ((s_2691 q0 36) - 1))).bind fun s_2694 => ((pt s_2694 q0 34 (w32 ((s_2694 q0 34) - 1))).bind fun s_2697 => (FX12_test_b199 N s_2697 q0 x1 x2 kb kx))))
set_option maxRecDepth 10000 in
set_option maxHeartbeats 4000000 in
theorem RX12_test_b164 {d N nc Ls : Nat} {Xs : Nat → Int32} (hd : 16 ≤ d) {h : iv_H} {s : iv_M} (hR : Rep nc Ls Xs h s) {q0 : Nat} (t0 : T12 nc q0) {m1 : Int32} {x1 : Int} (p1 : m1.toInt = x1) {m2 : Int32} {x2 : Int} (p2 : m2.toInt = x2)  {kb : iv_M → Int → Int → Option (iv_M)} {kx : iv_M → Option (iv_M)} {r : iv_M} {Q : Option Value → iv_H → Prop} (hb : ∀ (h : iv_H) (s : iv_M) (hR : Rep nc Ls Xs h s) (mw1 : Int32) (xw1 : Int) (pw1 : mw1.toInt = xw1) (mw2 : Int32) (xw2 : Int) (pw2 : mw2.toInt = xw2), kb s xw1 xw2 = some r → Rn d 227 none 9 [some (.ref q0), some (.int mw1), some (.int mw2), none, none] [] h Q) (hk : ∀ (h : iv_H) (s : iv_M) (hR : Rep nc Ls Xs h s), kx s = some r → Rn d 227 none 202 [none, none, none, none, none] [] h Q) (hq : ∀ h1, Rep nc Ls Xs h1 r → Q none h1) (e : FX12_test_b164 N s q0 x1 x2  kb kx = some r) : Rn d 227 none 164 [some (.ref q0), some (.int m1), some (.int m2), none, none] [] h Q := by
  have hT := hX12_test
  unfold FX12_test_b164 at e
  refine Rn.n hT 2 (pc' := 166) (L' := [some (.ref q0), some (.int m1), some (.int m2), none, none]) (st' := [.ref q0, .ref q0]) rfl ?_
  obtain ⟨z_2690, g_2690, p_2690⟩ : ∃ z : Int32, gI h 12 29 q0 = some z ∧ z.toInt = s q0 29 := rp_gI (k := 29) hR (T12_o t0) rfl
  refine Rn.hp hT rfl rfl (gI_hp g_2690) ?_
  refine Rn.n hT 2 (pc' := 171) (L' := [some (.ref q0), some (.int m1), some (.int m2), none, none]) (st' := [.int (z_2690 + (1 : Int32)), .ref q0]) rfl ?_
  obtain ⟨s_2691, e_2692, e⟩ := Option.bind_eq_some_iff.mp e
  obtain ⟨h_2691, g_2692, R_2691⟩ := rp_pI (ci := 12) (k := 29) hR (T12_o t0) rfl rfl (ti_add p_2690 L32_1) e_2692
  refine Rn.hp hT rfl rfl (pV_hp rfl g_2692) ?_
  refine Rn.n hT 2 (pc' := 176) (L' := [some (.ref q0), some (.int m1), some (.int m2), none, none]) (st' := [.ref q0, .ref q0]) rfl ?_
  obtain ⟨z_2693, g_2693, p_2693⟩ : ∃ z : Int32, gI h_2691 12 36 q0 = some z ∧ z.toInt = s_2691 q0 36 := rp_gI (k := 36) R_2691 (T12_o t0) rfl
  refine Rn.hp hT rfl rfl (gI_hp g_2693) ?_
  refine Rn.n hT 2 (pc' := 181) (L' := [some (.ref q0), some (.int m1), some (.int m2), none, none]) (st' := [.int (z_2693 - (1 : Int32)), .ref q0]) rfl ?_
  obtain ⟨s_2694, e_2695, e⟩ := Option.bind_eq_some_iff.mp e
  obtain ⟨h_2694, g_2695, R_2694⟩ := rp_pI (ci := 12) (k := 36) R_2691 (T12_o t0) rfl rfl (ti_sub p_2693 L32_1) e_2695
  refine Rn.hp hT rfl rfl (pV_hp rfl g_2695) ?_
  refine Rn.n hT 2 (pc' := 186) (L' := [some (.ref q0), some (.int m1), some (.int m2), none, none]) (st' := [.ref q0, .ref q0]) rfl ?_
  obtain ⟨z_2696, g_2696, p_2696⟩ : ∃ z : Int32, gI h_2694 12 34 q0 = some z ∧ z.toInt = s_2694 q0 34 := rp_gI (k := 34) R_2694 (T12_o t0) rfl
  refine Rn.hp hT rfl rfl (gI_hp g_2696) ?_
  refine Rn.n hT 2 (pc' := 191) (L' := [some (.ref q0), some (.int m1), some (.int m2), none, none]) (st' := [.int (z_2696 - (1 : Int32)), .ref q0]) rfl ?_
  obtain ⟨s_2697, e_2698, e⟩ := Option.bind_eq_some_iff.mp e
  obtain ⟨h_2697, g_2698, R_2697⟩ := rp_pI (ci := 12) (k := 34) R_2694 (T12_o t0) rfl rfl (ti_sub p_2696 L32_1) e_2698
  refine Rn.hp hT rfl rfl (pV_hp rfl g_2698) ?_
  refine Rn.n hT 1 (pc' := 199) (L' := [some (.ref q0), some (.int m1), some (.int m2), none, none]) (st' := []) rfl ?_
  exact Rn.weak (ll_s (ll_s (ll_s (ll_n (ll_n ll_e))))) (RX12_test_b199 hd R_2697 t0 p1 p2 hb hk hq e)
def FX12_test_l9 (N : Nat) (q0 : Nat) (kx : iv_M → Option (iv_M)) : Nat → iv_M → Int → Int → Option (iv_M)
  | 0, _, _, _ => none
  | n + 1, s, x1, x2 => (if x2 = 0 then (kx s) else (if (s q0 30) = 0 then (if x1 = 0 then ((FX12_answers N s q0 9).bind fun s_2659 => ((FX12_blanks N s_2659 q0).bind fun s_2661 => ((FX12_stood N s_2661 q0 1000029).bind fun v_2662 => ((FX12_stood N s_2661 q0 1000030).bind fun v_2663 => ((FX12_answers N s_2661 q0 10).bind fun s_2665 => (if v_2662 = 0 then (if v_2663 = 0 then ((FX12_answers N s_2665 q0 11).bind fun s_2669 => ((FX12_top N s_2669 q0).bind fun v_2670 => (if v_2670 = 12 then ((FX12_sign N s_2669 q0).bind fun v_2672 => (if v_2672 = 93 then (FX12_test_b164 N s_2669 q0 x1 x2 (FX12_test_l9 N q0 kx n) kx) else ((FX12_fails N s_2669 q0 0 (s_2669 q0 29)).bind fun s_2676 => (FX12_test_b164 N s_2676 q0 x1 x2 (FX12_test_l9 N q0 kx n) kx)))) else (FX12_test_b199 N s_2669 q0 x1 0 (FX12_test_l9 N q0 kx n) kx)))) else (FX12_test_b82 N s_2665 q0 x2 v_2662 v_2663 (FX12_test_l9 N q0 kx n) kx)) else (FX12_test_b82 N s_2665 q0 x2 v_2662 v_2663 (FX12_test_l9 N q0 kx n) kx))))))) else ((FX12_fact N s q0).bind fun r_2677 => (fun (v_2677 : Int) (s_2678 : iv_M) => (if v_2677 = 0 then (FX12_test_b36 N s_2678 q0 x2 1 (FX12_test_l9 N q0 kx n) kx) else (FX12_test_b36 N s_2678 q0 x2 0 (FX12_test_l9 N q0 kx n) kx))) r_2677.1 r_2677.2)) else (kx s)))
set_option maxRecDepth 10000 in
set_option maxHeartbeats 4000000 in
theorem RX12_test_l9 {d N nc Ls : Nat} {Xs : Nat → Int32} (hd : 16 ≤ d) {q0 : Nat} (t0 : T12 nc q0) {kx : iv_M → Option (iv_M)} {r : iv_M} {Q : Option Value → iv_H → Prop} (hk : ∀ (h : iv_H) (s : iv_M) (hR : Rep nc Ls Xs h s), kx s = some r → Rn d 227 none 202 [none, none, none, none, none] [] h Q) (hq : ∀ h1, Rep nc Ls Xs h1 r → Q none h1) : ∀ (n : Nat) (h : iv_H) (s : iv_M) (hR : Rep nc Ls Xs h s) (m1 : Int32) (x1 : Int) (p1 : m1.toInt = x1) (m2 : Int32) (x2 : Int) (p2 : m2.toInt = x2), FX12_test_l9 N q0 kx n s x1 x2 = some r → Rn d 227 none 9 [some (.ref q0), some (.int m1), some (.int m2), none, none] [] h Q := by
  have hT := hX12_test
  intro n
  induction n with
  | zero =>
    intro h s hR m1 x1 p1 m2 x2 p2 e
    rw [FX12_test_l9] at e
    cases e
  | succ n ih =>
    intro h s hR m1 x1 p1 m2 x2 p2 e
    rw [FX12_test_l9] at e
    refine Rn.n hT 1 (pc' := 10) (L' := [some (.ref q0), some (.int m1), some (.int m2), none, none]) (st' := [.int m2]) rfl ?_
    by_cases c_2654 : x2 = 0
    · rw [if_pos c_2654] at e
      refine Rn.bt hT rfl rfl rfl (decide_eq_true ((ti_e p2 L32_0).mpr c_2654)) ?_
      exact Rn.weak (ll_n (ll_n (ll_n (ll_n (ll_n ll_e))))) (hk h s hR e)
    · rw [if_neg c_2654] at e
      refine Rn.bf hT rfl rfl rfl (decide_eq_false (fun z => c_2654 ((ti_e p2 L32_0).mp z))) ?_
      refine Rn.n hT 1 (pc' := 14) (L' := [some (.ref q0), some (.int m1), some (.int m2), none, none]) (st' := [.ref q0]) rfl ?_
      obtain ⟨z_2655, g_2655, p_2655⟩ : ∃ z : Int32, gI h 12 30 q0 = some z ∧ z.toInt = s q0 30 := rp_gI (k := 30) hR (T12_o t0) rfl
      refine Rn.hp hT rfl rfl (gI_hp g_2655) ?_
      by_cases c_2656 : (s q0 30) = 0
      · rw [if_pos c_2656] at e
        refine Rn.bf hT rfl rfl rfl (decide_eq_false (fun z => z ((ti_e p_2655 L32_0).mpr c_2656))) ?_
        refine Rn.n hT 1 (pc' := 21) (L' := [some (.ref q0), some (.int m1), some (.int m2), none, none]) (st' := [.int m1]) rfl ?_
        by_cases c_2657 : x1 = 0
        · rw [if_pos c_2657] at e
          refine Rn.bt hT rfl rfl rfl (decide_eq_true ((ti_e p1 L32_0).mpr c_2657)) ?_
          refine Rn.n hT 2 (pc' := 43) (L' := [some (.ref q0), some (.int m1), some (.int m2), none, none]) (st' := [.int (9 : Int32), .ref q0]) rfl ?_
          obtain ⟨s_2659, e_2658, e⟩ := Option.bind_eq_some_iff.mp e
          refine Rn.call hT rfl rfl rfl (Nat.le_of_ble_eq_true rfl) (rcv_v gX12_answers (by omega) (rp_ck hR (T12_o t0))) (RX12_answers (by omega) hR t0 L32_9 e_2658 (fun h_2659 R_2659 => ?_))
          show Rn d _ _ 46 [some (.ref q0), some (.int m1), some (.int m2), none, none] [] h_2659 Q
          refine Rn.n hT 1 (pc' := 47) (L' := [some (.ref q0), some (.int m1), some (.int m2), none, none]) (st' := [.ref q0]) rfl ?_
          obtain ⟨s_2661, e_2660, e⟩ := Option.bind_eq_some_iff.mp e
          refine Rn.call hT rfl rfl rfl (Nat.le_of_ble_eq_true rfl) (rcv_v gX12_blanks (by omega) (rp_ck R_2659 (T12_o t0))) (RX12_blanks (by omega) R_2659 t0 e_2660 (fun h_2661 R_2661 => ?_))
          show Rn d _ _ 50 [some (.ref q0), some (.int m1), some (.int m2), none, none] [] h_2661 Q
          refine Rn.n hT 2 (pc' := 54) (L' := [some (.ref q0), some (.int m1), some (.int m2), none, none]) (st' := [.ref 1000029, .ref q0]) rfl ?_
          obtain ⟨v_2662, e_2662, e⟩ := Option.bind_eq_some_iff.mp e
          refine Rn.call hT rfl rfl rfl (Nat.le_of_ble_eq_true rfl) (rcv_v gX12_stood (by omega) (rp_ck R_2661 (T12_o t0))) (RX12_stood (by omega) R_2661 t0 TS_1000029 e_2662 (fun z_2662 p_2662 => ?_))
          show Rn d _ _ 57 [some (.ref q0), some (.int m1), some (.int m2), none, none] [.int z_2662] h_2661 Q
          refine Rn.n hT 3 (pc' := 62) (L' := [some (.ref q0), some (.int m1), some (.int m2), some (.int z_2662), none]) (st' := [.ref 1000030, .ref q0]) rfl ?_
          obtain ⟨v_2663, e_2663, e⟩ := Option.bind_eq_some_iff.mp e
          refine Rn.call hT rfl rfl rfl (Nat.le_of_ble_eq_true rfl) (rcv_v gX12_stood (by omega) (rp_ck R_2661 (T12_o t0))) (RX12_stood (by omega) R_2661 t0 TS_1000030 e_2663 (fun z_2663 p_2663 => ?_))
          show Rn d _ _ 65 [some (.ref q0), some (.int m1), some (.int m2), some (.int z_2662), none] [.int z_2663] h_2661 Q
          refine Rn.n hT 3 (pc' := 70) (L' := [some (.ref q0), some (.int m1), some (.int m2), some (.int z_2662), some (.int z_2663)]) (st' := [.int (10 : Int32), .ref q0]) rfl ?_
          obtain ⟨s_2665, e_2664, e⟩ := Option.bind_eq_some_iff.mp e
          refine Rn.call hT rfl rfl rfl (Nat.le_of_ble_eq_true rfl) (rcv_v gX12_answers (by omega) (rp_ck R_2661 (T12_o t0))) (RX12_answers (by omega) R_2661 t0 L32_10 e_2664 (fun h_2665 R_2665 => ?_))
          show Rn d _ _ 73 [some (.ref q0), some (.int m1), some (.int m2), some (.int z_2662), some (.int z_2663)] [] h_2665 Q
          refine Rn.n hT 1 (pc' := 74) (L' := [some (.ref q0), some (.int m1), some (.int m2), some (.int z_2662), some (.int z_2663)]) (st' := [.int z_2662]) rfl ?_
          by_cases c_2666 : v_2662 = 0
          · rw [if_pos c_2666] at e
            refine Rn.bf hT rfl rfl rfl (decide_eq_false (fun z => z ((ti_e p_2662 L32_0).mpr c_2666))) ?_
            refine Rn.n hT 1 (pc' := 79) (L' := [some (.ref q0), some (.int m1), some (.int m2), some (.int z_2662), some (.int z_2663)]) (st' := [.int z_2663]) rfl ?_
            by_cases c_2667 : v_2663 = 0
            · rw [if_pos c_2667] at e
              refine Rn.bt hT rfl rfl rfl (decide_eq_true ((ti_e p_2663 L32_0).mpr c_2667)) ?_
              refine Rn.n hT 2 (pc' := 134) (L' := [some (.ref q0), some (.int m1), some (.int m2), some (.int z_2662), some (.int z_2663)]) (st' := [.int (11 : Int32), .ref q0]) rfl ?_
              obtain ⟨s_2669, e_2668, e⟩ := Option.bind_eq_some_iff.mp e
              refine Rn.call hT rfl rfl rfl (Nat.le_of_ble_eq_true rfl) (rcv_v gX12_answers (by omega) (rp_ck R_2665 (T12_o t0))) (RX12_answers (by omega) R_2665 t0 L32_11 e_2668 (fun h_2669 R_2669 => ?_))
              show Rn d _ _ 137 [some (.ref q0), some (.int m1), some (.int m2), some (.int z_2662), some (.int z_2663)] [] h_2669 Q
              refine Rn.n hT 1 (pc' := 138) (L' := [some (.ref q0), some (.int m1), some (.int m2), some (.int z_2662), some (.int z_2663)]) (st' := [.ref q0]) rfl ?_
              obtain ⟨v_2670, e_2670, e⟩ := Option.bind_eq_some_iff.mp e
              refine Rn.call hT rfl rfl rfl (Nat.le_of_ble_eq_true rfl) (rcv_v gX12_top (by omega) (rp_ck R_2669 (T12_o t0))) (RX12_top (by omega) R_2669 t0 e_2670 (fun z_2670 p_2670 => ?_))
              show Rn d _ _ 141 [some (.ref q0), some (.int m1), some (.int m2), some (.int z_2662), some (.int z_2663)] [.int z_2670] h_2669 Q
              refine Rn.n hT 1 (pc' := 143) (L' := [some (.ref q0), some (.int m1), some (.int m2), some (.int z_2662), some (.int z_2663)]) (st' := [.int (12 : Int32), .int z_2670]) rfl ?_
              by_cases c_2671 : v_2670 = 12
              · rw [if_pos c_2671] at e
                refine Rn.bf hT rfl rfl rfl (decide_eq_false (fun z => z ((ti_e p_2670 L32_12).mpr c_2671))) ?_
                refine Rn.n hT 1 (pc' := 147) (L' := [some (.ref q0), some (.int m1), some (.int m2), some (.int z_2662), some (.int z_2663)]) (st' := [.ref q0]) rfl ?_
                obtain ⟨v_2672, e_2672, e⟩ := Option.bind_eq_some_iff.mp e
                refine Rn.call hT rfl rfl rfl (Nat.le_of_ble_eq_true rfl) (rcv_v gX12_sign (by omega) (rp_ck R_2669 (T12_o t0))) (RX12_sign (by omega) R_2669 t0 e_2672 (fun z_2672 p_2672 => ?_))
                show Rn d _ _ 150 [some (.ref q0), some (.int m1), some (.int m2), some (.int z_2662), some (.int z_2663)] [.int z_2672] h_2669 Q
                refine Rn.n hT 1 (pc' := 152) (L' := [some (.ref q0), some (.int m1), some (.int m2), some (.int z_2662), some (.int z_2663)]) (st' := [.int (93 : Int32), .int z_2672]) rfl ?_
                by_cases c_2673 : v_2672 = 93
                · rw [if_pos c_2673] at e
                  refine Rn.bt hT rfl rfl rfl (decide_eq_true ((ti_e p_2672 L32_93).mpr c_2673)) ?_
                  exact Rn.weak (ll_s (ll_s (ll_s (ll_n (ll_n ll_e))))) (RX12_test_b164 hd R_2669 t0 p1 p2 ih hk hq e)
                · rw [if_neg c_2673] at e
                  refine Rn.bf hT rfl rfl rfl (decide_eq_false (fun z => c_2673 ((ti_e p_2672 L32_93).mp z))) ?_
                  refine Rn.n hT 3 (pc' := 158) (L' := [some (.ref q0), some (.int m1), some (.int m2), some (.int z_2662), some (.int z_2663)]) (st' := [.ref q0, .int (0 : Int32), .ref q0]) rfl ?_
                  obtain ⟨z_2674, g_2674, p_2674⟩ : ∃ z : Int32, gI h_2669 12 29 q0 = some z ∧ z.toInt = s_2669 q0 29 := rp_gI (k := 29) R_2669 (T12_o t0) rfl
                  refine Rn.hp hT rfl rfl (gI_hp g_2674) ?_
                  obtain ⟨s_2676, e_2675, e⟩ := Option.bind_eq_some_iff.mp e
                  refine Rn.call hT rfl rfl rfl (Nat.le_of_ble_eq_true rfl) (rcv_v gX12_fails (by omega) (rp_ck R_2669 (T12_o t0))) (RX12_fails (by omega) R_2669 t0 L32_0 p_2674 e_2675 (fun h_2676 R_2676 => ?_))
                  show Rn d _ _ 164 [some (.ref q0), some (.int m1), some (.int m2), some (.int z_2662), some (.int z_2663)] [] h_2676 Q
                  exact Rn.weak (ll_s (ll_s (ll_s (ll_n (ll_n ll_e))))) (RX12_test_b164 hd R_2676 t0 p1 p2 ih hk hq e)
              · rw [if_neg c_2671] at e
                refine Rn.bt hT rfl rfl rfl (decide_eq_true (fun z => c_2671 ((ti_e p_2670 L32_12).mp z))) ?_
                refine Rn.n hT 2 (pc' := 199) (L' := [some (.ref q0), some (.int m1), some (.int (0 : Int32)), some (.int z_2662), some (.int z_2663)]) (st' := []) rfl ?_
                exact Rn.weak (ll_s (ll_s (ll_s (ll_n (ll_n ll_e))))) (RX12_test_b199 hd R_2669 t0 p1 L32_0 ih hk hq e)
            · rw [if_neg c_2667] at e
              refine Rn.bf hT rfl rfl rfl (decide_eq_false (fun z => c_2667 ((ti_e p_2663 L32_0).mp z))) ?_
              exact Rn.weak (ll_s (ll_n (ll_s (ll_s (ll_s ll_e))))) (RX12_test_b82 hd R_2665 t0 p2 p_2662 p_2663 ih hk hq e)
          · rw [if_neg c_2666] at e
            refine Rn.bt hT rfl rfl rfl (decide_eq_true (fun z => c_2666 ((ti_e p_2662 L32_0).mp z))) ?_
            exact Rn.weak (ll_s (ll_n (ll_s (ll_s (ll_s ll_e))))) (RX12_test_b82 hd R_2665 t0 p2 p_2662 p_2663 ih hk hq e)
        · rw [if_neg c_2657] at e
          refine Rn.bf hT rfl rfl rfl (decide_eq_false (fun z => c_2657 ((ti_e p1 L32_0).mp z))) ?_
          refine Rn.n hT 1 (pc' := 25) (L' := [some (.ref q0), some (.int m1), some (.int m2), none, none]) (st' := [.ref q0]) rfl ?_
          obtain ⟨⟨v_2677, s_2678⟩, e_2677, e⟩ := Option.bind_eq_some_iff.mp e
          try dsimp only at e
          try dsimp only at e
          refine Rn.call hT rfl rfl rfl (Nat.le_of_ble_eq_true rfl) (rcv_v gX12_fact (by omega) (rp_ck hR (T12_o t0))) (RX12_fact (by omega) hR t0 e_2677 (fun z_2677 h_2678 p_2677 R_2678 => ?_))
          show Rn d _ _ 28 [some (.ref q0), some (.int m1), some (.int m2), none, none] [.int z_2677] h_2678 Q
          by_cases c_2679 : v_2677 = 0
          · rw [if_pos c_2679] at e
            refine Rn.bf hT rfl rfl rfl (decide_eq_false (fun z => z ((ti_e p_2677 L32_0).mpr c_2679))) ?_
            refine Rn.n hT 2 (pc' := 36) (L' := [some (.ref q0), some (.int m1), some (.int m2), none, none]) (st' := [.int (1 : Int32)]) rfl ?_
            exact Rn.weak (ll_s (ll_n (ll_s (ll_n (ll_n ll_e))))) (RX12_test_b36 hd R_2678 t0 p2 L32_1 ih hk hq e)
          · rw [if_neg c_2679] at e
            refine Rn.bt hT rfl rfl rfl (decide_eq_true (fun z => c_2679 ((ti_e p_2677 L32_0).mp z))) ?_
            refine Rn.n hT 1 (pc' := 36) (L' := [some (.ref q0), some (.int m1), some (.int m2), none, none]) (st' := [.int (0 : Int32)]) rfl ?_
            exact Rn.weak (ll_s (ll_n (ll_s (ll_n (ll_n ll_e))))) (RX12_test_b36 hd R_2678 t0 p2 L32_0 ih hk hq e)
      · rw [if_neg c_2656] at e
        refine Rn.bt hT rfl rfl rfl (decide_eq_true (fun z => c_2656 ((ti_e p_2655 L32_0).mp z))) ?_
        exact Rn.weak (ll_n (ll_n (ll_n (ll_n (ll_n ll_e))))) (hk h s hR e)
def FX12_test_b202 (N : Nat) (s : iv_M)   : Option (iv_M) := some s
set_option maxRecDepth 10000 in
set_option maxHeartbeats 4000000 in
theorem RX12_test_b202 {d N nc Ls : Nat} {Xs : Nat → Int32} (hd : 16 ≤ d) {h : iv_H} {s : iv_M} (hR : Rep nc Ls Xs h s)   {r : iv_M} {Q : Option Value → iv_H → Prop} (hq : ∀ h1, Rep nc Ls Xs h1 r → Q none h1) (e : FX12_test_b202 N s   = some r) : Rn d 227 none 202 [none, none, none, none, none] [] h Q := by
  have hT := hX12_test
  unfold FX12_test_b202 at e
  obtain rfl := Option.some.inj e
  exact Rn.ret hT rfl rfl rfl (hq h hR)
def FX12_test (N : Nat) (s : iv_M) (q0 : Nat) : Option (iv_M) := ((pt s q0 36 0).bind fun s_2650 => (FX12_test_l9 N q0 (fun (s_2652 : iv_M) => (FX12_test_b202 N s_2652)) N s_2650 1 1))
set_option maxRecDepth 10000 in
set_option maxHeartbeats 4000000 in
theorem RX12_test {d N nc Ls : Nat} {Xs : Nat → Int32} (hd : 17 ≤ d) {h : iv_H} {s : iv_M} (hR : Rep nc Ls Xs h s) {q0 : Nat} (t0 : T12 nc q0) {r : iv_M} {Q : Option Value → iv_H → Prop} (e : FX12_test N s q0 = some r) (hq : ∀ h1, Rep nc Ls Xs h1 r → Q none h1) : Cl d 227 [.ref q0] h Q := by
  obtain ⟨d, rfl⟩ : ∃ k, d = k + 1 := ⟨d - 1, by omega⟩
  have hd : 16 ≤ d := by omega
  have hT := hX12_test
  unfold FX12_test at e
  refine Cl.into (by decide) gX12_test rfl ?_
  show Rn d 227 none 0 [some (.ref q0), none, none, none, none] [] h Q
  refine Rn.n hT 2 (pc' := 2) (L' := [some (.ref q0), none, none, none, none]) (st' := [.int (0 : Int32), .ref q0]) rfl ?_
  obtain ⟨s_2650, e_2651, e⟩ := Option.bind_eq_some_iff.mp e
  obtain ⟨h_2650, g_2651, R_2650⟩ := rp_pI (ci := 12) (k := 36) hR (T12_o t0) rfl rfl L32_0 e_2651
  refine Rn.hp hT rfl rfl (pV_hp rfl g_2651) ?_
  refine Rn.n hT 4 (pc' := 9) (L' := [some (.ref q0), some (.int (1 : Int32)), some (.int (1 : Int32)), none, none]) (st' := []) rfl ?_
  refine Rn.weak (ll_s (ll_s (ll_s (ll_n (ll_n ll_e))))) (RX12_test_l9 hd t0 (fun h_2652 s_2652 R_2652 e => ?_) hq N h_2650 s_2650 R_2650 (1 : Int32) 1 L32_1 (1 : Int32) 1 L32_1 e)
  try dsimp only at e
  exact Rn.weak (ll_n (ll_n (ll_n (ll_n (ll_n ll_e))))) (RX12_test_b202 hd R_2652 hq e)
set_option maxRecDepth 10000 in
theorem hX12_amount : iv_Tb 228 tX12_amount := iv_tb_of (m := mX12_amount) rfl
set_option maxRecDepth 10000 in
theorem gX12_amount : PG.2 228 = some mX12_amount := iv_pi_of (t := tX12_amount) rfl (by decide)
def FX12_amount_b55 (N : Nat) (s : iv_M) (x4 : Int)  : Option (Int × iv_M) := (some (x4, s))
set_option maxRecDepth 10000 in
set_option maxHeartbeats 4000000 in
theorem RX12_amount_b55 {d N nc Ls : Nat} {Xs : Nat → Int32} (hd : 3 ≤ d) {h : iv_H} {s : iv_M} (hR : Rep nc Ls Xs h s) {m4 : Int32} {x4 : Int} (p4 : m4.toInt = x4)  {r : Int × iv_M} {Q : Option Value → iv_H → Prop} (hq : ∀ (z : Int32) (h1 : iv_H), z.toInt = r.1 → Rep nc Ls Xs h1 r.2 → Q (some (.int z)) h1) (e : FX12_amount_b55 N s x4  = some r) : Rn d 228 (some .int) 55 [none, none, none, none, some (.int m4)] [] h Q := by
  have hT := hX12_amount
  unfold FX12_amount_b55 at e
  refine Rn.n hT 1 (pc' := 57) (L' := [none, none, none, none, some (.int m4)]) (st' := [.int m4]) rfl ?_
  obtain rfl := Option.some.inj e
  exact Rn.ret hT rfl rfl rfl (hq m4 h p4 hR)
def FX12_amount_b27 (N : Nat) (s : iv_M) (q0 : Nat) (x1 : Int) (x2 : Int) (x3 : Int) (xs0 : Int) : Option (Int × iv_M) := (if (s q0 30) = 0 then ((FX12_in N s xs0 x1 x2).bind fun v_2708 => (if v_2708 = 0 then ((FX12_fails N s q0 1 x3).bind fun s_2711 => (FX12_amount_b55 N s_2711 xs0)) else (FX12_amount_b55 N s xs0))) else (FX12_amount_b55 N s xs0))
set_option maxRecDepth 10000 in
set_option maxHeartbeats 4000000 in
theorem RX12_amount_b27 {d N nc Ls : Nat} {Xs : Nat → Int32} (hd : 3 ≤ d) {h : iv_H} {s : iv_M} (hR : Rep nc Ls Xs h s) {q0 : Nat} (t0 : T12 nc q0) {m1 : Int32} {x1 : Int} (p1 : m1.toInt = x1) {m2 : Int32} {x2 : Int} (p2 : m2.toInt = x2) {m3 : Int32} {x3 : Int} (p3 : m3.toInt = x3) {ms0 : Int32} {xs0 : Int} (ps0 : ms0.toInt = xs0) {r : Int × iv_M} {Q : Option Value → iv_H → Prop} (hq : ∀ (z : Int32) (h1 : iv_H), z.toInt = r.1 → Rep nc Ls Xs h1 r.2 → Q (some (.int z)) h1) (e : FX12_amount_b27 N s q0 x1 x2 x3 xs0 = some r) : Rn d 228 (some .int) 27 [some (.ref q0), some (.int m1), some (.int m2), some (.int m3), none] [.int ms0] h Q := by
  have hT := hX12_amount
  unfold FX12_amount_b27 at e
  refine Rn.n hT 2 (pc' := 30) (L' := [some (.ref q0), some (.int m1), some (.int m2), some (.int m3), some (.int ms0)]) (st' := [.ref q0]) rfl ?_
  obtain ⟨z_2706, g_2706, p_2706⟩ : ∃ z : Int32, gI h 12 30 q0 = some z ∧ z.toInt = s q0 30 := rp_gI (k := 30) hR (T12_o t0) rfl
  refine Rn.hp hT rfl rfl (gI_hp g_2706) ?_
  by_cases c_2707 : (s q0 30) = 0
  · rw [if_pos c_2707] at e
    refine Rn.bf hT rfl rfl rfl (decide_eq_false (fun z => z ((ti_e p_2706 L32_0).mpr c_2707))) ?_
    refine Rn.n hT 6 (pc' := 43) (L' := [some (.ref q0), some (.int m1), some (.int m2), some (.int m3), some (.int ms0)]) (st' := [.long ((m2).toInt64), .long ((m1).toInt64), .long ((ms0).toInt64)]) rfl ?_
    obtain ⟨v_2708, e_2708, e⟩ := Option.bind_eq_some_iff.mp e
    refine Rn.call hT rfl rfl rfl (Nat.le_of_ble_eq_true rfl) rfl (RX12_in (by omega) hR (ti_j ps0) (ti_j p1) (ti_j p2) e_2708 (fun z_2708 p_2708 => ?_))
    show Rn d _ _ 46 [some (.ref q0), some (.int m1), some (.int m2), some (.int m3), some (.int ms0)] [.int z_2708] h Q
    by_cases c_2709 : v_2708 = 0
    · rw [if_pos c_2709] at e
      refine Rn.bf hT rfl rfl rfl (decide_eq_false (fun z => z ((ti_e p_2708 L32_0).mpr c_2709))) ?_
      refine Rn.n hT 3 (pc' := 52) (L' := [some (.ref q0), some (.int m1), some (.int m2), some (.int m3), some (.int ms0)]) (st' := [.int m3, .int (1 : Int32), .ref q0]) rfl ?_
      obtain ⟨s_2711, e_2710, e⟩ := Option.bind_eq_some_iff.mp e
      refine Rn.call hT rfl rfl rfl (Nat.le_of_ble_eq_true rfl) (rcv_v gX12_fails (by omega) (rp_ck hR (T12_o t0))) (RX12_fails (by omega) hR t0 L32_1 p3 e_2710 (fun h_2711 R_2711 => ?_))
      show Rn d _ _ 55 [some (.ref q0), some (.int m1), some (.int m2), some (.int m3), some (.int ms0)] [] h_2711 Q
      exact Rn.weak (ll_n (ll_n (ll_n (ll_n (ll_s ll_e))))) (RX12_amount_b55 hd R_2711 ps0 hq e)
    · rw [if_neg c_2709] at e
      refine Rn.bt hT rfl rfl rfl (decide_eq_true (fun z => c_2709 ((ti_e p_2708 L32_0).mp z))) ?_
      exact Rn.weak (ll_n (ll_n (ll_n (ll_n (ll_s ll_e))))) (RX12_amount_b55 hd hR ps0 hq e)
  · rw [if_neg c_2707] at e
    refine Rn.bt hT rfl rfl rfl (decide_eq_true (fun z => c_2707 ((ti_e p_2706 L32_0).mp z))) ?_
    exact Rn.weak (ll_n (ll_n (ll_n (ll_n (ll_s ll_e))))) (RX12_amount_b55 hd hR ps0 hq e)
def FX12_amount (N : Nat) (s : iv_M) (q0 : Nat) (x1 : Int) (x2 : Int) : Option (Int × iv_M) := ((FX12_blanks N s q0).bind fun s_2700 => (if (s_2700 q0 30) = 0 then ((FX12_digits N s_2700 q0 99999).bind fun r_2704 => (fun (v_2704 : Int) (s_2705 : iv_M) => (FX12_amount_b27 N s_2705 q0 x1 x2 (s_2700 q0 29) v_2704)) r_2704.1 r_2704.2) else (FX12_amount_b27 N s_2700 q0 x1 x2 (s_2700 q0 29) 0)))
set_option maxRecDepth 10000 in
set_option maxHeartbeats 4000000 in
theorem RX12_amount {d N nc Ls : Nat} {Xs : Nat → Int32} (hd : 4 ≤ d) {h : iv_H} {s : iv_M} (hR : Rep nc Ls Xs h s) {q0 : Nat} (t0 : T12 nc q0) {m1 : Int32} {x1 : Int} (p1 : m1.toInt = x1) {m2 : Int32} {x2 : Int} (p2 : m2.toInt = x2) {r : Int × iv_M} {Q : Option Value → iv_H → Prop} (e : FX12_amount N s q0 x1 x2 = some r) (hq : ∀ (z : Int32) (h1 : iv_H), z.toInt = r.1 → Rep nc Ls Xs h1 r.2 → Q (some (.int z)) h1) : Cl d 228 [.ref q0, .int m1, .int m2] h Q := by
  obtain ⟨d, rfl⟩ : ∃ k, d = k + 1 := ⟨d - 1, by omega⟩
  have hd : 3 ≤ d := by omega
  have hT := hX12_amount
  unfold FX12_amount at e
  refine Cl.into (by decide) gX12_amount rfl ?_
  show Rn d 228 (some .int) 0 [some (.ref q0), some (.int m1), some (.int m2), none, none] [] h Q
  refine Rn.n hT 1 (pc' := 1) (L' := [some (.ref q0), some (.int m1), some (.int m2), none, none]) (st' := [.ref q0]) rfl ?_
  obtain ⟨s_2700, e_2699, e⟩ := Option.bind_eq_some_iff.mp e
  refine Rn.call hT rfl rfl rfl (Nat.le_of_ble_eq_true rfl) (rcv_v gX12_blanks (by omega) (rp_ck hR (T12_o t0))) (RX12_blanks (by omega) hR t0 e_2699 (fun h_2700 R_2700 => ?_))
  show Rn d _ _ 4 [some (.ref q0), some (.int m1), some (.int m2), none, none] [] h_2700 Q
  refine Rn.n hT 1 (pc' := 5) (L' := [some (.ref q0), some (.int m1), some (.int m2), none, none]) (st' := [.ref q0]) rfl ?_
  obtain ⟨z_2701, g_2701, p_2701⟩ : ∃ z : Int32, gI h_2700 12 29 q0 = some z ∧ z.toInt = s_2700 q0 29 := rp_gI (k := 29) R_2700 (T12_o t0) rfl
  refine Rn.hp hT rfl rfl (gI_hp g_2701) ?_
  refine Rn.n hT 2 (pc' := 10) (L' := [some (.ref q0), some (.int m1), some (.int m2), some (.int z_2701), none]) (st' := [.ref q0]) rfl ?_
  obtain ⟨z_2702, g_2702, p_2702⟩ : ∃ z : Int32, gI h_2700 12 30 q0 = some z ∧ z.toInt = s_2700 q0 30 := rp_gI (k := 30) R_2700 (T12_o t0) rfl
  refine Rn.hp hT rfl rfl (gI_hp g_2702) ?_
  by_cases c_2703 : (s_2700 q0 30) = 0
  · rw [if_pos c_2703] at e
    refine Rn.bf hT rfl rfl rfl (decide_eq_false (fun z => z ((ti_e p_2702 L32_0).mpr c_2703))) ?_
    refine Rn.n hT 2 (pc' := 20) (L' := [some (.ref q0), some (.int m1), some (.int m2), some (.int z_2701), none]) (st' := [.int (99999 : Int32), .ref q0]) rfl ?_
    obtain ⟨⟨v_2704, s_2705⟩, e_2704, e⟩ := Option.bind_eq_some_iff.mp e
    try dsimp only at e
    try dsimp only at e
    refine Rn.call hT rfl rfl rfl (Nat.le_of_ble_eq_true rfl) (rcv_v gX12_digits (by omega) (rp_ck R_2700 (T12_o t0))) (RX12_digits (by omega) R_2700 t0 L32_99999 e_2704 (fun z_2704 h_2705 p_2704 R_2705 => ?_))
    show Rn d _ _ 23 [some (.ref q0), some (.int m1), some (.int m2), some (.int z_2701), none] [.int z_2704] h_2705 Q
    refine Rn.n hT 1 (pc' := 27) (L' := [some (.ref q0), some (.int m1), some (.int m2), some (.int z_2701), none]) (st' := [.int z_2704]) rfl ?_
    exact Rn.weak (ll_s (ll_s (ll_s (ll_s (ll_n ll_e))))) (RX12_amount_b27 hd R_2705 t0 p1 p2 p_2701 p_2704 hq e)
  · rw [if_neg c_2703] at e
    refine Rn.bt hT rfl rfl rfl (decide_eq_true (fun z => c_2703 ((ti_e p_2702 L32_0).mp z))) ?_
    refine Rn.n hT 1 (pc' := 27) (L' := [some (.ref q0), some (.int m1), some (.int m2), some (.int z_2701), none]) (st' := [.int (0 : Int32)]) rfl ?_
    exact Rn.weak (ll_s (ll_s (ll_s (ll_s (ll_n ll_e))))) (RX12_amount_b27 hd R_2700 t0 p1 p2 p_2701 L32_0 hq e)
set_option maxRecDepth 10000 in
theorem hX12_palaceWord : iv_Tb 229 tX12_palaceWord := iv_tb_of (m := mX12_palaceWord) rfl
set_option maxRecDepth 10000 in
theorem gX12_palaceWord : PG.2 229 = some mX12_palaceWord := iv_pi_of (t := tX12_palaceWord) rfl (by decide)
def FX12_palaceWord (N : Nat) (s : iv_M) (x0 : Int) : Option (Nat) := (if x0 = 0 then (some 1000031) else (if x0 = 1 then (some 1000016) else (if x0 = 2 then (some 1000032) else (if x0 = 3 then (some 1000033) else (if x0 = 4 then (some 1000034) else (some 1000035))))))
set_option maxRecDepth 10000 in
set_option maxHeartbeats 4000000 in
theorem RX12_palaceWord {d N nc Ls : Nat} {Xs : Nat → Int32} (hd : 1 ≤ d) {h : iv_H} {s : iv_M} (hR : Rep nc Ls Xs h s) {m0 : Int32} {x0 : Int} (p0 : m0.toInt = x0) {r : Nat} {Q : Option Value → iv_H → Prop} (e : FX12_palaceWord N s x0 = some r) (hq : TS r → Q (some (.ref r)) h) : Cl d 229 [.int m0] h Q := by
  obtain ⟨d, rfl⟩ : ∃ k, d = k + 1 := ⟨d - 1, by omega⟩
  have hd : 0 ≤ d := by omega
  have hT := hX12_palaceWord
  unfold FX12_palaceWord at e
  refine Cl.into (by decide) gX12_palaceWord rfl ?_
  show Rn d 229 (some (.object "java/lang/String")) 0 [some (.int m0)] [] h Q
  refine Rn.n hT 1 (pc' := 1) (L' := [some (.int m0)]) (st' := [.int m0]) rfl ?_
  by_cases c_2712 : x0 = 0
  · rw [if_pos c_2712] at e
    refine Rn.sw2 hT rfl rfl rfl (if_pos ((ti_e p0 L32_0).mpr c_2712)) ?_
    refine Rn.n hT 1 (pc' := 39) (L' := [some (.int m0)]) (st' := [.ref 1000031]) rfl ?_
    obtain rfl := Option.some.inj e
    exact Rn.ret hT rfl rfl rfl (hq TS_1000031)
  · rw [if_neg c_2712] at e
    by_cases c_2713 : x0 = 1
    · rw [if_pos c_2713] at e
      refine Rn.sw2 hT rfl rfl rfl ((if_neg (fun z => c_2712 ((ti_e p0 L32_0).mp z))).trans (if_pos ((ti_e p0 L32_1).mpr c_2713))) ?_
      refine Rn.n hT 1 (pc' := 42) (L' := [some (.int m0)]) (st' := [.ref 1000016]) rfl ?_
      obtain rfl := Option.some.inj e
      exact Rn.ret hT rfl rfl rfl (hq TS_1000016)
    · rw [if_neg c_2713] at e
      by_cases c_2714 : x0 = 2
      · rw [if_pos c_2714] at e
        refine Rn.sw2 hT rfl rfl rfl ((if_neg (fun z => c_2712 ((ti_e p0 L32_0).mp z))).trans ((if_neg (fun z => c_2713 ((ti_e p0 L32_1).mp z))).trans (if_pos ((ti_e p0 L32_2).mpr c_2714)))) ?_
        refine Rn.n hT 1 (pc' := 46) (L' := [some (.int m0)]) (st' := [.ref 1000032]) rfl ?_
        obtain rfl := Option.some.inj e
        exact Rn.ret hT rfl rfl rfl (hq TS_1000032)
      · rw [if_neg c_2714] at e
        by_cases c_2715 : x0 = 3
        · rw [if_pos c_2715] at e
          refine Rn.sw2 hT rfl rfl rfl ((if_neg (fun z => c_2712 ((ti_e p0 L32_0).mp z))).trans ((if_neg (fun z => c_2713 ((ti_e p0 L32_1).mp z))).trans ((if_neg (fun z => c_2714 ((ti_e p0 L32_2).mp z))).trans (if_pos ((ti_e p0 L32_3).mpr c_2715))))) ?_
          refine Rn.n hT 1 (pc' := 50) (L' := [some (.int m0)]) (st' := [.ref 1000033]) rfl ?_
          obtain rfl := Option.some.inj e
          exact Rn.ret hT rfl rfl rfl (hq TS_1000033)
        · rw [if_neg c_2715] at e
          by_cases c_2716 : x0 = 4
          · rw [if_pos c_2716] at e
            refine Rn.sw2 hT rfl rfl rfl ((if_neg (fun z => c_2712 ((ti_e p0 L32_0).mp z))).trans ((if_neg (fun z => c_2713 ((ti_e p0 L32_1).mp z))).trans ((if_neg (fun z => c_2714 ((ti_e p0 L32_2).mp z))).trans ((if_neg (fun z => c_2715 ((ti_e p0 L32_3).mp z))).trans (if_pos ((ti_e p0 L32_4).mpr c_2716)))))) ?_
            refine Rn.n hT 1 (pc' := 54) (L' := [some (.int m0)]) (st' := [.ref 1000034]) rfl ?_
            obtain rfl := Option.some.inj e
            exact Rn.ret hT rfl rfl rfl (hq TS_1000034)
          · rw [if_neg c_2716] at e
            refine Rn.sw2 hT rfl rfl rfl ((if_neg (fun z => c_2712 ((ti_e p0 L32_0).mp z))).trans ((if_neg (fun z => c_2713 ((ti_e p0 L32_1).mp z))).trans ((if_neg (fun z => c_2714 ((ti_e p0 L32_2).mp z))).trans ((if_neg (fun z => c_2715 ((ti_e p0 L32_3).mp z))).trans ((if_neg (fun z => c_2716 ((ti_e p0 L32_4).mp z))).trans rfl))))) ?_
            refine Rn.n hT 1 (pc' := 58) (L' := [some (.int m0)]) (st' := [.ref 1000035]) rfl ?_
            obtain rfl := Option.some.inj e
            exact Rn.ret hT rfl rfl rfl (hq TS_1000035)
set_option maxRecDepth 10000 in
theorem hX12_signAt : iv_Tb 230 tX12_signAt := iv_tb_of (m := mX12_signAt) rfl
set_option maxRecDepth 10000 in
theorem gX12_signAt : PG.2 230 = some mX12_signAt := iv_pi_of (t := tX12_signAt) rfl (by decide)
def FX12_signAt (N : Nat) (s : iv_M) (q0 : Nat) : Option (Int) := (if (s q0 29) < (s q0 28) then ((rd s (q0 + 26) 400 (s q0 29)).bind fun v_2721 => (if v_2721 = 46 then (some 0) else (if v_2721 = 49 then (some 3) else (if v_2721 = 50 then (some 4) else (if v_2721 = 51 then (some 5) else (if v_2721 = 52 then (some 6) else (if v_2721 = 100 then (some 1) else (if v_2721 = 119 then (some 2) else (some (-1)))))))))) else (some (-1)))
set_option maxRecDepth 10000 in
set_option maxHeartbeats 4000000 in
theorem RX12_signAt {d N nc Ls : Nat} {Xs : Nat → Int32} (hd : 1 ≤ d) {h : iv_H} {s : iv_M} (hR : Rep nc Ls Xs h s) {q0 : Nat} (t0 : T12 nc q0) {r : Int} {Q : Option Value → iv_H → Prop} (e : FX12_signAt N s q0 = some r) (hq : ∀ (z : Int32), z.toInt = r → Q (some (.int z)) h) : Cl d 230 [.ref q0] h Q := by
  obtain ⟨d, rfl⟩ : ∃ k, d = k + 1 := ⟨d - 1, by omega⟩
  have hd : 0 ≤ d := by omega
  have hT := hX12_signAt
  unfold FX12_signAt at e
  refine Cl.into (by decide) gX12_signAt rfl ?_
  show Rn d 230 (some .int) 0 [some (.ref q0)] [] h Q
  refine Rn.n hT 1 (pc' := 1) (L' := [some (.ref q0)]) (st' := [.ref q0]) rfl ?_
  obtain ⟨z_2717, g_2717, p_2717⟩ : ∃ z : Int32, gI h 12 29 q0 = some z ∧ z.toInt = s q0 29 := rp_gI (k := 29) hR (T12_o t0) rfl
  refine Rn.hp hT rfl rfl (gI_hp g_2717) ?_
  refine Rn.n hT 1 (pc' := 5) (L' := [some (.ref q0)]) (st' := [.ref q0, .int z_2717]) rfl ?_
  obtain ⟨z_2718, g_2718, p_2718⟩ : ∃ z : Int32, gI h 12 28 q0 = some z ∧ z.toInt = s q0 28 := rp_gI (k := 28) hR (T12_o t0) rfl
  refine Rn.hp hT rfl rfl (gI_hp g_2718) ?_
  by_cases c_2719 : (s q0 29) < (s q0 28)
  · rw [if_pos c_2719] at e
    refine Rn.bt hT rfl rfl rfl (decide_eq_true ((ti_l p_2717 p_2718).mpr c_2719)) ?_
    refine Rn.n hT 1 (pc' := 14) (L' := [some (.ref q0)]) (st' := [.ref q0]) rfl ?_
    refine Rn.hp hT rfl rfl (gR_hp (rp_gR hR (T12_o t0) rfl)) ?_
    refine Rn.n hT 1 (pc' := 18) (L' := [some (.ref q0)]) (st' := [.ref q0, .ref (q0 + 26)]) rfl ?_
    obtain ⟨z_2720, g_2720, p_2720⟩ : ∃ z : Int32, gI h 12 29 q0 = some z ∧ z.toInt = s q0 29 := rp_gI (k := 29) hR (T12_o t0) rfl
    refine Rn.hp hT rfl rfl (gI_hp g_2720) ?_
    obtain ⟨v_2721, e_2721, e⟩ := Option.bind_eq_some_iff.mp e
    obtain ⟨z_2721, g_2721, p_2721⟩ := rp_aB hR (T12_39 t0) (Or.inl rfl) (T12_39l t0) p_2720 e_2721
    refine Rn.hp hT rfl rfl (aB_hp g_2721) ?_
    by_cases c_2722 : v_2721 = 46
    · rw [if_pos c_2722] at e
      refine Rn.sw2 hT rfl rfl rfl (if_pos ((ti_e p_2721 L32_46).mpr c_2722)) ?_
      refine Rn.n hT 1 (pc' := 89) (L' := [some (.ref q0)]) (st' := [.int (0 : Int32)]) rfl ?_
      obtain rfl := Option.some.inj e
      exact Rn.ret hT rfl rfl rfl (hq (0 : Int32) L32_0)
    · rw [if_neg c_2722] at e
      by_cases c_2723 : v_2721 = 49
      · rw [if_pos c_2723] at e
        refine Rn.sw2 hT rfl rfl rfl ((if_neg (fun z => c_2722 ((ti_e p_2721 L32_46).mp z))).trans (if_pos ((ti_e p_2721 L32_49).mpr c_2723))) ?_
        refine Rn.n hT 1 (pc' := 95) (L' := [some (.ref q0)]) (st' := [.int (3 : Int32)]) rfl ?_
        obtain rfl := Option.some.inj e
        exact Rn.ret hT rfl rfl rfl (hq (3 : Int32) L32_3)
      · rw [if_neg c_2723] at e
        by_cases c_2724 : v_2721 = 50
        · rw [if_pos c_2724] at e
          refine Rn.sw2 hT rfl rfl rfl ((if_neg (fun z => c_2722 ((ti_e p_2721 L32_46).mp z))).trans ((if_neg (fun z => c_2723 ((ti_e p_2721 L32_49).mp z))).trans (if_pos ((ti_e p_2721 L32_50).mpr c_2724)))) ?_
          refine Rn.n hT 1 (pc' := 97) (L' := [some (.ref q0)]) (st' := [.int (4 : Int32)]) rfl ?_
          obtain rfl := Option.some.inj e
          exact Rn.ret hT rfl rfl rfl (hq (4 : Int32) L32_4)
        · rw [if_neg c_2724] at e
          by_cases c_2725 : v_2721 = 51
          · rw [if_pos c_2725] at e
            refine Rn.sw2 hT rfl rfl rfl ((if_neg (fun z => c_2722 ((ti_e p_2721 L32_46).mp z))).trans ((if_neg (fun z => c_2723 ((ti_e p_2721 L32_49).mp z))).trans ((if_neg (fun z => c_2724 ((ti_e p_2721 L32_50).mp z))).trans (if_pos ((ti_e p_2721 L32_51).mpr c_2725))))) ?_
            refine Rn.n hT 1 (pc' := 99) (L' := [some (.ref q0)]) (st' := [.int (5 : Int32)]) rfl ?_
            obtain rfl := Option.some.inj e
            exact Rn.ret hT rfl rfl rfl (hq (5 : Int32) L32_5)
          · rw [if_neg c_2725] at e
            by_cases c_2726 : v_2721 = 52
            · rw [if_pos c_2726] at e
              refine Rn.sw2 hT rfl rfl rfl ((if_neg (fun z => c_2722 ((ti_e p_2721 L32_46).mp z))).trans ((if_neg (fun z => c_2723 ((ti_e p_2721 L32_49).mp z))).trans ((if_neg (fun z => c_2724 ((ti_e p_2721 L32_50).mp z))).trans ((if_neg (fun z => c_2725 ((ti_e p_2721 L32_51).mp z))).trans (if_pos ((ti_e p_2721 L32_52).mpr c_2726)))))) ?_
              refine Rn.n hT 1 (pc' := 102) (L' := [some (.ref q0)]) (st' := [.int (6 : Int32)]) rfl ?_
              obtain rfl := Option.some.inj e
              exact Rn.ret hT rfl rfl rfl (hq (6 : Int32) L32_6)
            · rw [if_neg c_2726] at e
              by_cases c_2727 : v_2721 = 100
              · rw [if_pos c_2727] at e
                refine Rn.sw2 hT rfl rfl rfl ((if_neg (fun z => c_2722 ((ti_e p_2721 L32_46).mp z))).trans ((if_neg (fun z => c_2723 ((ti_e p_2721 L32_49).mp z))).trans ((if_neg (fun z => c_2724 ((ti_e p_2721 L32_50).mp z))).trans ((if_neg (fun z => c_2725 ((ti_e p_2721 L32_51).mp z))).trans ((if_neg (fun z => c_2726 ((ti_e p_2721 L32_52).mp z))).trans (if_pos ((ti_e p_2721 L32_100).mpr c_2727))))))) ?_
                refine Rn.n hT 1 (pc' := 91) (L' := [some (.ref q0)]) (st' := [.int (1 : Int32)]) rfl ?_
                obtain rfl := Option.some.inj e
                exact Rn.ret hT rfl rfl rfl (hq (1 : Int32) L32_1)
              · rw [if_neg c_2727] at e
                by_cases c_2728 : v_2721 = 119
                · rw [if_pos c_2728] at e
                  refine Rn.sw2 hT rfl rfl rfl ((if_neg (fun z => c_2722 ((ti_e p_2721 L32_46).mp z))).trans ((if_neg (fun z => c_2723 ((ti_e p_2721 L32_49).mp z))).trans ((if_neg (fun z => c_2724 ((ti_e p_2721 L32_50).mp z))).trans ((if_neg (fun z => c_2725 ((ti_e p_2721 L32_51).mp z))).trans ((if_neg (fun z => c_2726 ((ti_e p_2721 L32_52).mp z))).trans ((if_neg (fun z => c_2727 ((ti_e p_2721 L32_100).mp z))).trans (if_pos ((ti_e p_2721 L32_119).mpr c_2728)))))))) ?_
                  refine Rn.n hT 1 (pc' := 93) (L' := [some (.ref q0)]) (st' := [.int (2 : Int32)]) rfl ?_
                  obtain rfl := Option.some.inj e
                  exact Rn.ret hT rfl rfl rfl (hq (2 : Int32) L32_2)
                · rw [if_neg c_2728] at e
                  refine Rn.sw2 hT rfl rfl rfl ((if_neg (fun z => c_2722 ((ti_e p_2721 L32_46).mp z))).trans ((if_neg (fun z => c_2723 ((ti_e p_2721 L32_49).mp z))).trans ((if_neg (fun z => c_2724 ((ti_e p_2721 L32_50).mp z))).trans ((if_neg (fun z => c_2725 ((ti_e p_2721 L32_51).mp z))).trans ((if_neg (fun z => c_2726 ((ti_e p_2721 L32_52).mp z))).trans ((if_neg (fun z => c_2727 ((ti_e p_2721 L32_100).mp z))).trans ((if_neg (fun z => c_2728 ((ti_e p_2721 L32_119).mp z))).trans rfl))))))) ?_
                  refine Rn.n hT 1 (pc' := 104) (L' := [some (.ref q0)]) (st' := [.int (-1 : Int32)]) rfl ?_
                  obtain rfl := Option.some.inj e
                  exact Rn.ret hT rfl rfl rfl (hq (-1 : Int32) L32_m1)
  · rw [if_neg c_2719] at e
    refine Rn.bf hT rfl rfl rfl (decide_eq_false (fun z => c_2719 ((ti_l p_2717 p_2718).mp z))) ?_
    refine Rn.n hT 1 (pc' := 12) (L' := [some (.ref q0)]) (st' := [.int (-1 : Int32)]) rfl ?_
    obtain rfl := Option.some.inj e
    exact Rn.ret hT rfl rfl rfl (hq (-1 : Int32) L32_m1)
set_option maxRecDepth 10000 in
theorem hX12_readsRoom : iv_Tb 231 tX12_readsRoom := iv_tb_of (m := mX12_readsRoom) rfl
set_option maxRecDepth 10000 in
theorem gX12_readsRoom : PG.2 231 = some mX12_readsRoom := iv_pi_of (t := tX12_readsRoom) rfl (by decide)
def FX12_readsRoom_b68 (N : Nat) (s : iv_M) (q0 : Nat) (x1 : Int) (x2 : Int)  (kb : iv_M → Int → Option (iv_M)) (kx : iv_M → Option (iv_M)) : Option (iv_M) := (kb s (w32 (x2 + 1)))
set_option maxRecDepth 10000 in
set_option maxHeartbeats 4000000 in
theorem RX12_readsRoom_b68 {d N nc Ls : Nat} {Xs : Nat → Int32} (hd : 4 ≤ d) {h : iv_H} {s : iv_M} (hR : Rep nc Ls Xs h s) {q0 : Nat} (t0 : T12 nc q0) {m1 : Int32} {x1 : Int} (p1 : m1.toInt = x1) {m2 : Int32} {x2 : Int} (p2 : m2.toInt = x2)  {kb : iv_M → Int → Option (iv_M)} {kx : iv_M → Option (iv_M)} {r : iv_M} {Q : Option Value → iv_H → Prop} (hb : ∀ (h : iv_H) (s : iv_M) (hR : Rep nc Ls Xs h s) (mw2 : Int32) (xw2 : Int) (pw2 : mw2.toInt = xw2), kb s xw2 = some r → Rn d 231 none 13 [some (.ref q0), some (.int m1), some (.int mw2), none, none] [] h Q) (hk : ∀ (h : iv_H) (s : iv_M) (hR : Rep nc Ls Xs h s), kx s = some r → Rn d 231 none 74 [some (.ref q0), some (.int m1), none, none, none] [] h Q) (hq : ∀ h1, Rep nc Ls Xs h1 r → Q none h1) (e : FX12_readsRoom_b68 N s q0 x1 x2  kb kx = some r) : Rn d 231 none 68 [some (.ref q0), some (.int m1), some (.int m2), none, none] [] h Q := by
  have hT := hX12_readsRoom
  unfold FX12_readsRoom_b68 at e
  refine Rn.n hT 2 (pc' := 13) (L' := [some (.ref q0), some (.int m1), some (.int (m2 + (1 : Int32))), none, none]) (st' := []) rfl ?_
  exact Rn.weak (ll_s (ll_s (ll_s (ll_n (ll_n ll_e))))) (hb h s hR (m2 + (1 : Int32)) (w32 (x2 + 1)) (ti_add p2 L32_1) e)
def FX12_readsRoom_l13 (N : Nat) (q0 : Nat) (x1 : Int) (kx : iv_M → Option (iv_M)) : Nat → iv_M → Int → Option (iv_M)
  | 0, _, _ => none
  | n + 1, s, x2 => (if 4 ≤ x2 then (kx s) else (if (s q0 30) = 0 then ((FX12_signAt N s q0).bind fun v_2737 => (if v_2737 = (-1) then ((FX12_fails N s q0 0 (s q0 29)).bind fun s_2746 => (FX12_readsRoom_b68 N s_2746 q0 x1 x2 (FX12_readsRoom_l13 N q0 x1 kx n) kx)) else ((wr s (q0 + 20) 48 (w32 ((w32 (4 * x1)) + x2)) v_2737).bind fun s_2739 => ((pt s_2739 q0 29 (w32 ((s_2739 q0 29) + 1))).bind fun s_2742 => (FX12_readsRoom_b68 N s_2742 q0 x1 x2 (FX12_readsRoom_l13 N q0 x1 kx n) kx))))) else (kx s)))
set_option maxRecDepth 10000 in
set_option maxHeartbeats 4000000 in
theorem RX12_readsRoom_l13 {d N nc Ls : Nat} {Xs : Nat → Int32} (hd : 4 ≤ d) {q0 : Nat} (t0 : T12 nc q0) {m1 : Int32} {x1 : Int} (p1 : m1.toInt = x1) {kx : iv_M → Option (iv_M)} {r : iv_M} {Q : Option Value → iv_H → Prop} (hk : ∀ (h : iv_H) (s : iv_M) (hR : Rep nc Ls Xs h s), kx s = some r → Rn d 231 none 74 [some (.ref q0), some (.int m1), none, none, none] [] h Q) (hq : ∀ h1, Rep nc Ls Xs h1 r → Q none h1) : ∀ (n : Nat) (h : iv_H) (s : iv_M) (hR : Rep nc Ls Xs h s) (m2 : Int32) (x2 : Int) (p2 : m2.toInt = x2), FX12_readsRoom_l13 N q0 x1 kx n s x2 = some r → Rn d 231 none 13 [some (.ref q0), some (.int m1), some (.int m2), none, none] [] h Q := by
  have hT := hX12_readsRoom
  intro n
  induction n with
  | zero =>
    intro h s hR m2 x2 p2 e
    rw [FX12_readsRoom_l13] at e
    cases e
  | succ n ih =>
    intro h s hR m2 x2 p2 e
    rw [FX12_readsRoom_l13] at e
    refine Rn.n hT 2 (pc' := 15) (L' := [some (.ref q0), some (.int m1), some (.int m2), none, none]) (st' := [.int (4 : Int32), .int m2]) rfl ?_
    by_cases c_2734 : 4 ≤ x2
    · rw [if_pos c_2734] at e
      refine Rn.bt hT rfl rfl rfl (decide_eq_true ((ti_le L32_4 p2).mpr c_2734)) ?_
      exact Rn.weak (ll_s (ll_s (ll_n (ll_n (ll_n ll_e))))) (hk h s hR e)
    · rw [if_neg c_2734] at e
      refine Rn.bf hT rfl rfl rfl (decide_eq_false (fun z => c_2734 ((ti_le L32_4 p2).mp z))) ?_
      refine Rn.n hT 1 (pc' := 19) (L' := [some (.ref q0), some (.int m1), some (.int m2), none, none]) (st' := [.ref q0]) rfl ?_
      obtain ⟨z_2735, g_2735, p_2735⟩ : ∃ z : Int32, gI h 12 30 q0 = some z ∧ z.toInt = s q0 30 := rp_gI (k := 30) hR (T12_o t0) rfl
      refine Rn.hp hT rfl rfl (gI_hp g_2735) ?_
      by_cases c_2736 : (s q0 30) = 0
      · rw [if_pos c_2736] at e
        refine Rn.bf hT rfl rfl rfl (decide_eq_false (fun z => z ((ti_e p_2735 L32_0).mpr c_2736))) ?_
        refine Rn.n hT 1 (pc' := 26) (L' := [some (.ref q0), some (.int m1), some (.int m2), none, none]) (st' := [.ref q0]) rfl ?_
        obtain ⟨v_2737, e_2737, e⟩ := Option.bind_eq_some_iff.mp e
        refine Rn.call hT rfl rfl rfl (Nat.le_of_ble_eq_true rfl) (rcv_v gX12_signAt (by omega) (rp_ck hR (T12_o t0))) (RX12_signAt (by omega) hR t0 e_2737 (fun z_2737 p_2737 => ?_))
        show Rn d _ _ 29 [some (.ref q0), some (.int m1), some (.int m2), none, none] [.int z_2737] h Q
        refine Rn.n hT 3 (pc' := 32) (L' := [some (.ref q0), some (.int m1), some (.int m2), some (.int z_2737), none]) (st' := [.int (-1 : Int32), .int z_2737]) rfl ?_
        by_cases c_2738 : v_2737 = (-1)
        · rw [if_pos c_2738] at e
          refine Rn.bf hT rfl rfl rfl (decide_eq_false (fun z => z ((ti_e p_2737 L32_m1).mpr c_2738))) ?_
          refine Rn.n hT 3 (pc' := 38) (L' := [some (.ref q0), some (.int m1), some (.int m2), some (.int z_2737), none]) (st' := [.ref q0, .int (0 : Int32), .ref q0]) rfl ?_
          obtain ⟨z_2744, g_2744, p_2744⟩ : ∃ z : Int32, gI h 12 29 q0 = some z ∧ z.toInt = s q0 29 := rp_gI (k := 29) hR (T12_o t0) rfl
          refine Rn.hp hT rfl rfl (gI_hp g_2744) ?_
          obtain ⟨s_2746, e_2745, e⟩ := Option.bind_eq_some_iff.mp e
          refine Rn.call hT rfl rfl rfl (Nat.le_of_ble_eq_true rfl) (rcv_v gX12_fails (by omega) (rp_ck hR (T12_o t0))) (RX12_fails (by omega) hR t0 L32_0 p_2744 e_2745 (fun h_2746 R_2746 => ?_))
          show Rn d _ _ 44 [some (.ref q0), some (.int m1), some (.int m2), some (.int z_2737), none] [] h_2746 Q
          refine Rn.n hT 1 (pc' := 68) (L' := [some (.ref q0), some (.int m1), some (.int m2), some (.int z_2737), none]) (st' := []) rfl ?_
          exact Rn.weak (ll_s (ll_s (ll_s (ll_n (ll_n ll_e))))) (RX12_readsRoom_b68 hd R_2746 t0 p1 p2 ih hk hq e)
        · rw [if_neg c_2738] at e
          refine Rn.bt hT rfl rfl rfl (decide_eq_true (fun z => c_2738 ((ti_e p_2737 L32_m1).mp z))) ?_
          refine Rn.n hT 1 (pc' := 48) (L' := [some (.ref q0), some (.int m1), some (.int m2), some (.int z_2737), none]) (st' := [.ref q0]) rfl ?_
          refine Rn.hp hT rfl rfl (gR_hp (rp_gR hR (T12_o t0) rfl)) ?_
          refine Rn.n hT 6 (pc' := 57) (L' := [some (.ref q0), some (.int m1), some (.int m2), some (.int z_2737), none]) (st' := [.int z_2737, .int (((4 : Int32) * m1) + m2), .ref (q0 + 20)]) rfl ?_
          obtain ⟨s_2739, e_2740, e⟩ := Option.bind_eq_some_iff.mp e
          obtain ⟨h_2739, g_2740, R_2739⟩ := rp_wI hR (T12_20 t0) (T12_20l t0) (ti_add (ti_mul L32_4 p1) p2) p_2737 e_2740
          refine Rn.hp hT rfl rfl (wI_hp g_2740) ?_
          refine Rn.n hT 2 (pc' := 60) (L' := [some (.ref q0), some (.int m1), some (.int m2), some (.int z_2737), none]) (st' := [.ref q0, .ref q0]) rfl ?_
          obtain ⟨z_2741, g_2741, p_2741⟩ : ∃ z : Int32, gI h_2739 12 29 q0 = some z ∧ z.toInt = s_2739 q0 29 := rp_gI (k := 29) R_2739 (T12_o t0) rfl
          refine Rn.hp hT rfl rfl (gI_hp g_2741) ?_
          refine Rn.n hT 2 (pc' := 65) (L' := [some (.ref q0), some (.int m1), some (.int m2), some (.int z_2737), none]) (st' := [.int (z_2741 + (1 : Int32)), .ref q0]) rfl ?_
          obtain ⟨s_2742, e_2743, e⟩ := Option.bind_eq_some_iff.mp e
          obtain ⟨h_2742, g_2743, R_2742⟩ := rp_pI (ci := 12) (k := 29) R_2739 (T12_o t0) rfl rfl (ti_add p_2741 L32_1) e_2743
          refine Rn.hp hT rfl rfl (pV_hp rfl g_2743) ?_
          exact Rn.weak (ll_s (ll_s (ll_s (ll_n (ll_n ll_e))))) (RX12_readsRoom_b68 hd R_2742 t0 p1 p2 ih hk hq e)
      · rw [if_neg c_2736] at e
        refine Rn.bt hT rfl rfl rfl (decide_eq_true (fun z => c_2736 ((ti_e p_2735 L32_0).mp z))) ?_
        exact Rn.weak (ll_s (ll_s (ll_n (ll_n (ll_n ll_e))))) (hk h s hR e)
def FX12_readsRoom_b195 (N : Nat) (s : iv_M)   : Option (iv_M) := some s
set_option maxRecDepth 10000 in
set_option maxHeartbeats 4000000 in
theorem RX12_readsRoom_b195 {d N nc Ls : Nat} {Xs : Nat → Int32} (hd : 4 ≤ d) {h : iv_H} {s : iv_M} (hR : Rep nc Ls Xs h s)   {r : iv_M} {Q : Option Value → iv_H → Prop} (hq : ∀ h1, Rep nc Ls Xs h1 r → Q none h1) (e : FX12_readsRoom_b195 N s   = some r) : Rn d 231 none 195 [none, none, none, none, none] [] h Q := by
  have hT := hX12_readsRoom
  unfold FX12_readsRoom_b195 at e
  obtain rfl := Option.some.inj e
  exact Rn.ret hT rfl rfl rfl (hq h hR)
def FX12_readsRoom_b147 (N : Nat) (s : iv_M) (q0 : Nat) (x1 : Int) (x3 : Int) (x4 : Int)  : Option (iv_M) := (if (s q0 30) = 0 then ((wr s (q0 + 25) 16 (w32 ((w32 (4 * x4)) + x3)) x1).bind fun s_2766 => ((wr s_2766 (q0 + 21) 12 x1 (w32 ((w32 (4 * x4)) + x3))).bind fun s_2768 => ((wr s_2768 (q0 + 22) 12 x1 0).bind fun s_2770 => ((rd s_2770 (q0 + 19) 5 2).bind fun v_2772 => ((wr s_2770 (q0 + 19) 5 2 (w32 (v_2772 + 1))).bind fun s_2773 => (FX12_readsRoom_b195 N s_2773)))))) else (FX12_readsRoom_b195 N s))
set_option maxRecDepth 10000 in
set_option maxHeartbeats 4000000 in
theorem RX12_readsRoom_b147 {d N nc Ls : Nat} {Xs : Nat → Int32} (hd : 4 ≤ d) {h : iv_H} {s : iv_M} (hR : Rep nc Ls Xs h s) {q0 : Nat} (t0 : T12 nc q0) {m1 : Int32} {x1 : Int} (p1 : m1.toInt = x1) {m3 : Int32} {x3 : Int} (p3 : m3.toInt = x3) {m4 : Int32} {x4 : Int} (p4 : m4.toInt = x4)  {r : iv_M} {Q : Option Value → iv_H → Prop} (hq : ∀ h1, Rep nc Ls Xs h1 r → Q none h1) (e : FX12_readsRoom_b147 N s q0 x1 x3 x4  = some r) : Rn d 231 none 147 [some (.ref q0), some (.int m1), none, some (.int m3), some (.int m4)] [] h Q := by
  have hT := hX12_readsRoom
  unfold FX12_readsRoom_b147 at e
  refine Rn.n hT 1 (pc' := 148) (L' := [some (.ref q0), some (.int m1), none, some (.int m3), some (.int m4)]) (st' := [.ref q0]) rfl ?_
  obtain ⟨z_2764, g_2764, p_2764⟩ : ∃ z : Int32, gI h 12 30 q0 = some z ∧ z.toInt = s q0 30 := rp_gI (k := 30) hR (T12_o t0) rfl
  refine Rn.hp hT rfl rfl (gI_hp g_2764) ?_
  by_cases c_2765 : (s q0 30) = 0
  · rw [if_pos c_2765] at e
    refine Rn.bf hT rfl rfl rfl (decide_eq_false (fun z => z ((ti_e p_2764 L32_0).mpr c_2765))) ?_
    refine Rn.n hT 1 (pc' := 155) (L' := [some (.ref q0), some (.int m1), none, some (.int m3), some (.int m4)]) (st' := [.ref q0]) rfl ?_
    refine Rn.hp hT rfl rfl (gR_hp (rp_gR hR (T12_o t0) rfl)) ?_
    refine Rn.n hT 6 (pc' := 165) (L' := [some (.ref q0), some (.int m1), none, some (.int m3), some (.int m4)]) (st' := [.int m1, .int (((4 : Int32) * m4) + m3), .ref (q0 + 25)]) rfl ?_
    obtain ⟨s_2766, e_2767, e⟩ := Option.bind_eq_some_iff.mp e
    obtain ⟨h_2766, g_2767, R_2766⟩ := rp_wI hR (T12_25 t0) (T12_25l t0) (ti_add (ti_mul L32_4 p4) p3) p1 e_2767
    refine Rn.hp hT rfl rfl (wI_hp g_2767) ?_
    refine Rn.n hT 1 (pc' := 167) (L' := [some (.ref q0), some (.int m1), none, some (.int m3), some (.int m4)]) (st' := [.ref q0]) rfl ?_
    refine Rn.hp hT rfl rfl (gR_hp (rp_gR R_2766 (T12_o t0) rfl)) ?_
    refine Rn.n hT 6 (pc' := 177) (L' := [some (.ref q0), some (.int m1), none, some (.int m3), some (.int m4)]) (st' := [.int (((4 : Int32) * m4) + m3), .int m1, .ref (q0 + 21)]) rfl ?_
    obtain ⟨s_2768, e_2769, e⟩ := Option.bind_eq_some_iff.mp e
    obtain ⟨h_2768, g_2769, R_2768⟩ := rp_wI R_2766 (T12_21 t0) (T12_21l t0) p1 (ti_add (ti_mul L32_4 p4) p3) e_2769
    refine Rn.hp hT rfl rfl (wI_hp g_2769) ?_
    refine Rn.n hT 1 (pc' := 179) (L' := [some (.ref q0), some (.int m1), none, some (.int m3), some (.int m4)]) (st' := [.ref q0]) rfl ?_
    refine Rn.hp hT rfl rfl (gR_hp (rp_gR R_2768 (T12_o t0) rfl)) ?_
    refine Rn.n hT 2 (pc' := 184) (L' := [some (.ref q0), some (.int m1), none, some (.int m3), some (.int m4)]) (st' := [.int (0 : Int32), .int m1, .ref (q0 + 22)]) rfl ?_
    obtain ⟨s_2770, e_2771, e⟩ := Option.bind_eq_some_iff.mp e
    obtain ⟨h_2770, g_2771, R_2770⟩ := rp_wI R_2768 (T12_22 t0) (T12_22l t0) p1 L32_0 e_2771
    refine Rn.hp hT rfl rfl (wI_hp g_2771) ?_
    refine Rn.n hT 1 (pc' := 186) (L' := [some (.ref q0), some (.int m1), none, some (.int m3), some (.int m4)]) (st' := [.ref q0]) rfl ?_
    refine Rn.hp hT rfl rfl (gR_hp (rp_gR R_2770 (T12_o t0) rfl)) ?_
    refine Rn.n hT 2 (pc' := 191) (L' := [some (.ref q0), some (.int m1), none, some (.int m3), some (.int m4)]) (st' := [.int (2 : Int32), .ref (q0 + 19), .int (2 : Int32), .ref (q0 + 19)]) rfl ?_
    obtain ⟨v_2772, e_2772, e⟩ := Option.bind_eq_some_iff.mp e
    obtain ⟨z_2772, g_2772, p_2772⟩ := rp_aI R_2770 (T12_19 t0) (T12_19l t0) L32_2 e_2772
    refine Rn.hp hT rfl rfl (aI_hp g_2772) ?_
    refine Rn.n hT 2 (pc' := 194) (L' := [some (.ref q0), some (.int m1), none, some (.int m3), some (.int m4)]) (st' := [.int (z_2772 + (1 : Int32)), .int (2 : Int32), .ref (q0 + 19)]) rfl ?_
    obtain ⟨s_2773, e_2774, e⟩ := Option.bind_eq_some_iff.mp e
    obtain ⟨h_2773, g_2774, R_2773⟩ := rp_wI R_2770 (T12_19 t0) (T12_19l t0) L32_2 (ti_add p_2772 L32_1) e_2774
    refine Rn.hp hT rfl rfl (wI_hp g_2774) ?_
    exact Rn.weak (ll_n (ll_n (ll_n (ll_n (ll_n ll_e))))) (RX12_readsRoom_b195 hd R_2773 hq e)
  · rw [if_neg c_2765] at e
    refine Rn.bt hT rfl rfl rfl (decide_eq_true (fun z => c_2765 ((ti_e p_2764 L32_0).mp z))) ?_
    exact Rn.weak (ll_n (ll_n (ll_n (ll_n (ll_n ll_e))))) (RX12_readsRoom_b195 hd hR hq e)
def FX12_readsRoom_b141 (N : Nat) (s : iv_M) (q0 : Nat) (x1 : Int) (x2 : Int) (x3 : Int) (x4 : Int)  : Option (iv_M) := ((FX12_fails N s q0 5 x2).bind fun s_2763 => (FX12_readsRoom_b147 N s_2763 q0 x1 x3 x4))
set_option maxRecDepth 10000 in
set_option maxHeartbeats 4000000 in
theorem RX12_readsRoom_b141 {d N nc Ls : Nat} {Xs : Nat → Int32} (hd : 4 ≤ d) {h : iv_H} {s : iv_M} (hR : Rep nc Ls Xs h s) {q0 : Nat} (t0 : T12 nc q0) {m1 : Int32} {x1 : Int} (p1 : m1.toInt = x1) {m2 : Int32} {x2 : Int} (p2 : m2.toInt = x2) {m3 : Int32} {x3 : Int} (p3 : m3.toInt = x3) {m4 : Int32} {x4 : Int} (p4 : m4.toInt = x4)  {r : iv_M} {Q : Option Value → iv_H → Prop} (hq : ∀ h1, Rep nc Ls Xs h1 r → Q none h1) (e : FX12_readsRoom_b141 N s q0 x1 x2 x3 x4  = some r) : Rn d 231 none 141 [some (.ref q0), some (.int m1), some (.int m2), some (.int m3), some (.int m4)] [] h Q := by
  have hT := hX12_readsRoom
  unfold FX12_readsRoom_b141 at e
  refine Rn.n hT 3 (pc' := 144) (L' := [some (.ref q0), some (.int m1), some (.int m2), some (.int m3), some (.int m4)]) (st' := [.int m2, .int (5 : Int32), .ref q0]) rfl ?_
  obtain ⟨s_2763, e_2762, e⟩ := Option.bind_eq_some_iff.mp e
  refine Rn.call hT rfl rfl rfl (Nat.le_of_ble_eq_true rfl) (rcv_v gX12_fails (by omega) (rp_ck hR (T12_o t0))) (RX12_fails (by omega) hR t0 L32_5 p2 e_2762 (fun h_2763 R_2763 => ?_))
  show Rn d _ _ 147 [some (.ref q0), some (.int m1), some (.int m2), some (.int m3), some (.int m4)] [] h_2763 Q
  exact Rn.weak (ll_s (ll_s (ll_n (ll_s (ll_s ll_e))))) (RX12_readsRoom_b147 hd R_2763 t0 p1 p3 p4 hq e)
def FX12_readsRoom_b74 (N : Nat) (s : iv_M) (q0 : Nat) (x1 : Int)  : Option (iv_M) := ((FX12_blanks N s q0).bind fun s_2748 => ((FX12_amount N s_2748 q0 0 3).bind fun r_2750 => (fun (v_2750 : Int) (s_2751 : iv_M) => ((FX12_amount N s_2751 q0 0 3).bind fun r_2752 => (fun (v_2752 : Int) (s_2753 : iv_M) => (if (s_2753 q0 30) = 0 then ((rd s_2753 (q0 + 19) 5 0).bind fun v_2756 => (if v_2756 ≤ v_2750 then (FX12_readsRoom_b141 N s_2753 q0 x1 (s_2748 q0 29) v_2750 v_2752) else ((rd s_2753 (q0 + 19) 5 1).bind fun v_2758 => (if v_2758 ≤ v_2752 then (FX12_readsRoom_b141 N s_2753 q0 x1 (s_2748 q0 29) v_2750 v_2752) else ((rd s_2753 (q0 + 25) 16 (w32 ((w32 (4 * v_2752)) + v_2750))).bind fun v_2760 => (if v_2760 = (-1) then (FX12_readsRoom_b147 N s_2753 q0 x1 v_2750 v_2752) else (FX12_readsRoom_b141 N s_2753 q0 x1 (s_2748 q0 29) v_2750 v_2752))))))) else (FX12_readsRoom_b147 N s_2753 q0 x1 v_2750 v_2752))) r_2752.1 r_2752.2)) r_2750.1 r_2750.2))
set_option maxRecDepth 10000 in
set_option maxHeartbeats 4000000 in
theorem RX12_readsRoom_b74 {d N nc Ls : Nat} {Xs : Nat → Int32} (hd : 4 ≤ d) {h : iv_H} {s : iv_M} (hR : Rep nc Ls Xs h s) {q0 : Nat} (t0 : T12 nc q0) {m1 : Int32} {x1 : Int} (p1 : m1.toInt = x1)  {r : iv_M} {Q : Option Value → iv_H → Prop} (hq : ∀ h1, Rep nc Ls Xs h1 r → Q none h1) (e : FX12_readsRoom_b74 N s q0 x1  = some r) : Rn d 231 none 74 [some (.ref q0), some (.int m1), none, none, none] [] h Q := by
  have hT := hX12_readsRoom
  unfold FX12_readsRoom_b74 at e
  refine Rn.n hT 1 (pc' := 75) (L' := [some (.ref q0), some (.int m1), none, none, none]) (st' := [.ref q0]) rfl ?_
  obtain ⟨s_2748, e_2747, e⟩ := Option.bind_eq_some_iff.mp e
  refine Rn.call hT rfl rfl rfl (Nat.le_of_ble_eq_true rfl) (rcv_v gX12_blanks (by omega) (rp_ck hR (T12_o t0))) (RX12_blanks (by omega) hR t0 e_2747 (fun h_2748 R_2748 => ?_))
  show Rn d _ _ 78 [some (.ref q0), some (.int m1), none, none, none] [] h_2748 Q
  refine Rn.n hT 1 (pc' := 79) (L' := [some (.ref q0), some (.int m1), none, none, none]) (st' := [.ref q0]) rfl ?_
  obtain ⟨z_2749, g_2749, p_2749⟩ : ∃ z : Int32, gI h_2748 12 29 q0 = some z ∧ z.toInt = s_2748 q0 29 := rp_gI (k := 29) R_2748 (T12_o t0) rfl
  refine Rn.hp hT rfl rfl (gI_hp g_2749) ?_
  refine Rn.n hT 4 (pc' := 86) (L' := [some (.ref q0), some (.int m1), some (.int z_2749), none, none]) (st' := [.int (3 : Int32), .int (0 : Int32), .ref q0]) rfl ?_
  obtain ⟨⟨v_2750, s_2751⟩, e_2750, e⟩ := Option.bind_eq_some_iff.mp e
  try dsimp only at e
  try dsimp only at e
  refine Rn.call hT rfl rfl rfl (Nat.le_of_ble_eq_true rfl) (rcv_v gX12_amount (by omega) (rp_ck R_2748 (T12_o t0))) (RX12_amount (by omega) R_2748 t0 L32_0 L32_3 e_2750 (fun z_2750 h_2751 p_2750 R_2751 => ?_))
  show Rn d _ _ 89 [some (.ref q0), some (.int m1), some (.int z_2749), none, none] [.int z_2750] h_2751 Q
  refine Rn.n hT 4 (pc' := 93) (L' := [some (.ref q0), some (.int m1), some (.int z_2749), some (.int z_2750), none]) (st' := [.int (3 : Int32), .int (0 : Int32), .ref q0]) rfl ?_
  obtain ⟨⟨v_2752, s_2753⟩, e_2752, e⟩ := Option.bind_eq_some_iff.mp e
  try dsimp only at e
  try dsimp only at e
  refine Rn.call hT rfl rfl rfl (Nat.le_of_ble_eq_true rfl) (rcv_v gX12_amount (by omega) (rp_ck R_2751 (T12_o t0))) (RX12_amount (by omega) R_2751 t0 L32_0 L32_3 e_2752 (fun z_2752 h_2753 p_2752 R_2753 => ?_))
  show Rn d _ _ 96 [some (.ref q0), some (.int m1), some (.int z_2749), some (.int z_2750), none] [.int z_2752] h_2753 Q
  refine Rn.n hT 2 (pc' := 99) (L' := [some (.ref q0), some (.int m1), some (.int z_2749), some (.int z_2750), some (.int z_2752)]) (st' := [.ref q0]) rfl ?_
  obtain ⟨z_2754, g_2754, p_2754⟩ : ∃ z : Int32, gI h_2753 12 30 q0 = some z ∧ z.toInt = s_2753 q0 30 := rp_gI (k := 30) R_2753 (T12_o t0) rfl
  refine Rn.hp hT rfl rfl (gI_hp g_2754) ?_
  by_cases c_2755 : (s_2753 q0 30) = 0
  · rw [if_pos c_2755] at e
    refine Rn.bf hT rfl rfl rfl (decide_eq_false (fun z => z ((ti_e p_2754 L32_0).mpr c_2755))) ?_
    refine Rn.n hT 2 (pc' := 107) (L' := [some (.ref q0), some (.int m1), some (.int z_2749), some (.int z_2750), some (.int z_2752)]) (st' := [.ref q0, .int z_2750]) rfl ?_
    refine Rn.hp hT rfl rfl (gR_hp (rp_gR R_2753 (T12_o t0) rfl)) ?_
    refine Rn.n hT 1 (pc' := 111) (L' := [some (.ref q0), some (.int m1), some (.int z_2749), some (.int z_2750), some (.int z_2752)]) (st' := [.int (0 : Int32), .ref (q0 + 19), .int z_2750]) rfl ?_
    obtain ⟨v_2756, e_2756, e⟩ := Option.bind_eq_some_iff.mp e
    obtain ⟨z_2756, g_2756, p_2756⟩ := rp_aI R_2753 (T12_19 t0) (T12_19l t0) L32_0 e_2756
    refine Rn.hp hT rfl rfl (aI_hp g_2756) ?_
    by_cases c_2757 : v_2756 ≤ v_2750
    · rw [if_pos c_2757] at e
      refine Rn.bt hT rfl rfl rfl (decide_eq_true ((ti_le p_2756 p_2750).mpr c_2757)) ?_
      exact Rn.weak (ll_s (ll_s (ll_s (ll_s (ll_s ll_e))))) (RX12_readsRoom_b141 hd R_2753 t0 p1 p_2749 p_2750 p_2752 hq e)
    · rw [if_neg c_2757] at e
      refine Rn.bf hT rfl rfl rfl (decide_eq_false (fun z => c_2757 ((ti_le p_2756 p_2750).mp z))) ?_
      refine Rn.n hT 2 (pc' := 118) (L' := [some (.ref q0), some (.int m1), some (.int z_2749), some (.int z_2750), some (.int z_2752)]) (st' := [.ref q0, .int z_2752]) rfl ?_
      refine Rn.hp hT rfl rfl (gR_hp (rp_gR R_2753 (T12_o t0) rfl)) ?_
      refine Rn.n hT 1 (pc' := 122) (L' := [some (.ref q0), some (.int m1), some (.int z_2749), some (.int z_2750), some (.int z_2752)]) (st' := [.int (1 : Int32), .ref (q0 + 19), .int z_2752]) rfl ?_
      obtain ⟨v_2758, e_2758, e⟩ := Option.bind_eq_some_iff.mp e
      obtain ⟨z_2758, g_2758, p_2758⟩ := rp_aI R_2753 (T12_19 t0) (T12_19l t0) L32_1 e_2758
      refine Rn.hp hT rfl rfl (aI_hp g_2758) ?_
      by_cases c_2759 : v_2758 ≤ v_2752
      · rw [if_pos c_2759] at e
        refine Rn.bt hT rfl rfl rfl (decide_eq_true ((ti_le p_2758 p_2752).mpr c_2759)) ?_
        exact Rn.weak (ll_s (ll_s (ll_s (ll_s (ll_s ll_e))))) (RX12_readsRoom_b141 hd R_2753 t0 p1 p_2749 p_2750 p_2752 hq e)
      · rw [if_neg c_2759] at e
        refine Rn.bf hT rfl rfl rfl (decide_eq_false (fun z => c_2759 ((ti_le p_2758 p_2752).mp z))) ?_
        refine Rn.n hT 1 (pc' := 127) (L' := [some (.ref q0), some (.int m1), some (.int z_2749), some (.int z_2750), some (.int z_2752)]) (st' := [.ref q0]) rfl ?_
        refine Rn.hp hT rfl rfl (gR_hp (rp_gR R_2753 (T12_o t0) rfl)) ?_
        refine Rn.n hT 5 (pc' := 136) (L' := [some (.ref q0), some (.int m1), some (.int z_2749), some (.int z_2750), some (.int z_2752)]) (st' := [.int (((4 : Int32) * z_2752) + z_2750), .ref (q0 + 25)]) rfl ?_
        obtain ⟨v_2760, e_2760, e⟩ := Option.bind_eq_some_iff.mp e
        obtain ⟨z_2760, g_2760, p_2760⟩ := rp_aI R_2753 (T12_25 t0) (T12_25l t0) (ti_add (ti_mul L32_4 p_2752) p_2750) e_2760
        refine Rn.hp hT rfl rfl (aI_hp g_2760) ?_
        refine Rn.n hT 1 (pc' := 138) (L' := [some (.ref q0), some (.int m1), some (.int z_2749), some (.int z_2750), some (.int z_2752)]) (st' := [.int (-1 : Int32), .int z_2760]) rfl ?_
        by_cases c_2761 : v_2760 = (-1)
        · rw [if_pos c_2761] at e
          refine Rn.bt hT rfl rfl rfl (decide_eq_true ((ti_e p_2760 L32_m1).mpr c_2761)) ?_
          exact Rn.weak (ll_s (ll_s (ll_n (ll_s (ll_s ll_e))))) (RX12_readsRoom_b147 hd R_2753 t0 p1 p_2750 p_2752 hq e)
        · rw [if_neg c_2761] at e
          refine Rn.bf hT rfl rfl rfl (decide_eq_false (fun z => c_2761 ((ti_e p_2760 L32_m1).mp z))) ?_
          exact Rn.weak (ll_s (ll_s (ll_s (ll_s (ll_s ll_e))))) (RX12_readsRoom_b141 hd R_2753 t0 p1 p_2749 p_2750 p_2752 hq e)
  · rw [if_neg c_2755] at e
    refine Rn.bt hT rfl rfl rfl (decide_eq_true (fun z => c_2755 ((ti_e p_2754 L32_0).mp z))) ?_
    exact Rn.weak (ll_s (ll_s (ll_n (ll_s (ll_s ll_e))))) (RX12_readsRoom_b147 hd R_2753 t0 p1 p_2750 p_2752 hq e)
def FX12_readsRoom (N : Nat) (s : iv_M) (q0 : Nat) : Option (iv_M) := ((rd s (q0 + 19) 5 2).bind fun v_2729 => ((FX12_blanks N s q0).bind fun s_2731 => (FX12_readsRoom_l13 N q0 v_2729 (fun (s_2732 : iv_M) => (FX12_readsRoom_b74 N s_2732 q0 v_2729)) N s_2731 0)))
set_option maxRecDepth 10000 in
set_option maxHeartbeats 4000000 in
theorem RX12_readsRoom {d N nc Ls : Nat} {Xs : Nat → Int32} (hd : 5 ≤ d) {h : iv_H} {s : iv_M} (hR : Rep nc Ls Xs h s) {q0 : Nat} (t0 : T12 nc q0) {r : iv_M} {Q : Option Value → iv_H → Prop} (e : FX12_readsRoom N s q0 = some r) (hq : ∀ h1, Rep nc Ls Xs h1 r → Q none h1) : Cl d 231 [.ref q0] h Q := by
  obtain ⟨d, rfl⟩ : ∃ k, d = k + 1 := ⟨d - 1, by omega⟩
  have hd : 4 ≤ d := by omega
  have hT := hX12_readsRoom
  unfold FX12_readsRoom at e
  refine Cl.into (by decide) gX12_readsRoom rfl ?_
  show Rn d 231 none 0 [some (.ref q0), none, none, none, none] [] h Q
  refine Rn.n hT 1 (pc' := 1) (L' := [some (.ref q0), none, none, none, none]) (st' := [.ref q0]) rfl ?_
  refine Rn.hp hT rfl rfl (gR_hp (rp_gR hR (T12_o t0) rfl)) ?_
  refine Rn.n hT 1 (pc' := 5) (L' := [some (.ref q0), none, none, none, none]) (st' := [.int (2 : Int32), .ref (q0 + 19)]) rfl ?_
  obtain ⟨v_2729, e_2729, e⟩ := Option.bind_eq_some_iff.mp e
  obtain ⟨z_2729, g_2729, p_2729⟩ := rp_aI hR (T12_19 t0) (T12_19l t0) L32_2 e_2729
  refine Rn.hp hT rfl rfl (aI_hp g_2729) ?_
  refine Rn.n hT 2 (pc' := 8) (L' := [some (.ref q0), some (.int z_2729), none, none, none]) (st' := [.ref q0]) rfl ?_
  obtain ⟨s_2731, e_2730, e⟩ := Option.bind_eq_some_iff.mp e
  refine Rn.call hT rfl rfl rfl (Nat.le_of_ble_eq_true rfl) (rcv_v gX12_blanks (by omega) (rp_ck hR (T12_o t0))) (RX12_blanks (by omega) hR t0 e_2730 (fun h_2731 R_2731 => ?_))
  show Rn d _ _ 11 [some (.ref q0), some (.int z_2729), none, none, none] [] h_2731 Q
  refine Rn.n hT 2 (pc' := 13) (L' := [some (.ref q0), some (.int z_2729), some (.int (0 : Int32)), none, none]) (st' := []) rfl ?_
  refine Rn.weak (ll_s (ll_s (ll_s (ll_n (ll_n ll_e))))) (RX12_readsRoom_l13 hd t0 p_2729 (fun h_2732 s_2732 R_2732 e => ?_) hq N h_2731 s_2731 R_2731 (0 : Int32) 0 L32_0 e)
  try dsimp only at e
  exact Rn.weak (ll_s (ll_s (ll_n (ll_n (ll_n ll_e))))) (RX12_readsRoom_b74 hd R_2732 t0 p_2729 hq e)
set_option maxRecDepth 10000 in
theorem hX12_palacePart : iv_Tb 232 tX12_palacePart := iv_tb_of (m := mX12_palacePart) rfl
set_option maxRecDepth 10000 in
theorem gX12_palacePart : PG.2 232 = some mX12_palacePart := iv_pi_of (t := tX12_palacePart) rfl (by decide)
def FX12_palacePart_b185 (N : Nat) (s : iv_M)   : Option (iv_M) := some s
set_option maxRecDepth 10000 in
set_option maxHeartbeats 4000000 in
theorem RX12_palacePart_b185 {d N nc Ls : Nat} {Xs : Nat → Int32} (hd : 5 ≤ d) {h : iv_H} {s : iv_M} (hR : Rep nc Ls Xs h s)   {r : iv_M} {Q : Option Value → iv_H → Prop} (hq : ∀ h1, Rep nc Ls Xs h1 r → Q none h1) (e : FX12_palacePart_b185 N s   = some r) : Rn d 232 none 185 [none, none, none, none, none] [] h Q := by
  have hT := hX12_palacePart
  unfold FX12_palacePart_b185 at e
  obtain rfl := Option.some.inj e
  exact Rn.ret hT rfl rfl rfl (hq h hR)
def FX12_palacePart (N : Nat) (s : iv_M) (q0 : Nat) (x1 : Int) : Option (iv_M) := ((rd s (q0 + 19) 5 2).bind fun v_2775 => (if x1 = 0 then ((FX12_amount N s q0 1 4).bind fun r_2777 => (fun (v_2777 : Int) (s_2778 : iv_M) => ((wr s_2778 (q0 + 19) 5 0 v_2777).bind fun s_2779 => ((FX12_amount N s_2779 q0 1 4).bind fun r_2781 => (fun (v_2781 : Int) (s_2782 : iv_M) => ((wr s_2782 (q0 + 19) 5 1 v_2781).bind fun s_2783 => (FX12_palacePart_b185 N s_2783))) r_2781.1 r_2781.2))) r_2777.1 r_2777.2) else (if x1 = 1 then ((FX12_readsRoom N s q0).bind fun s_2787 => (FX12_palacePart_b185 N s_2787)) else (if x1 = 2 then ((FX12_amount N s q0 0 (w32 (v_2775 - 1))).bind fun r_2789 => (fun (v_2789 : Int) (s_2790 : iv_M) => (if (s_2790 q0 30) = 0 then ((wr s_2790 (q0 + 22) 12 v_2789 1).bind fun s_2793 => (FX12_palacePart_b185 N s_2793)) else (FX12_palacePart_b185 N s_2790))) r_2789.1 r_2789.2) else (if x1 = 3 then ((FX12_amount N s q0 1 4).bind fun r_2796 => (fun (v_2796 : Int) (s_2797 : iv_M) => ((FX12_amount N s_2797 q0 0 (w32 (v_2775 - 1))).bind fun r_2798 => (fun (v_2798 : Int) (s_2799 : iv_M) => (if (s_2799 q0 30) = 0 then ((wr s_2799 (q0 + 23) 4 (w32 (v_2796 - 1)) v_2798).bind fun s_2802 => (FX12_palacePart_b185 N s_2802)) else (FX12_palacePart_b185 N s_2799))) r_2798.1 r_2798.2)) r_2796.1 r_2796.2) else (if x1 = 4 then ((rd s (q0 + 19) 5 3).bind fun v_2805 => ((FX12_amount N s q0 0 (w32 (v_2775 - 1))).bind fun r_2806 => (fun (v_2806 : Int) (s_2807 : iv_M) => ((wr s_2807 (q0 + 24) 6 v_2805 v_2806).bind fun s_2808 => ((rd s_2808 (q0 + 19) 5 3).bind fun v_2810 => ((wr s_2808 (q0 + 19) 5 3 (w32 (v_2810 + 1))).bind fun s_2811 => (FX12_palacePart_b185 N s_2811))))) r_2806.1 r_2806.2)) else ((FX12_amount N s q0 1 7).bind fun r_2813 => (fun (v_2813 : Int) (s_2814 : iv_M) => ((wr s_2814 (q0 + 19) 5 4 v_2813).bind fun s_2815 => ((pt s_2815 q0 38 1).bind fun s_2817 => (FX12_palacePart_b185 N s_2817)))) r_2813.1 r_2813.2)))))))
set_option maxRecDepth 10000 in
set_option maxHeartbeats 4000000 in
theorem RX12_palacePart {d N nc Ls : Nat} {Xs : Nat → Int32} (hd : 6 ≤ d) {h : iv_H} {s : iv_M} (hR : Rep nc Ls Xs h s) {q0 : Nat} (t0 : T12 nc q0) {m1 : Int32} {x1 : Int} (p1 : m1.toInt = x1) {r : iv_M} {Q : Option Value → iv_H → Prop} (e : FX12_palacePart N s q0 x1 = some r) (hq : ∀ h1, Rep nc Ls Xs h1 r → Q none h1) : Cl d 232 [.ref q0, .int m1] h Q := by
  obtain ⟨d, rfl⟩ : ∃ k, d = k + 1 := ⟨d - 1, by omega⟩
  have hd : 5 ≤ d := by omega
  have hT := hX12_palacePart
  unfold FX12_palacePart at e
  refine Cl.into (by decide) gX12_palacePart rfl ?_
  show Rn d 232 none 0 [some (.ref q0), some (.int m1), none, none, none] [] h Q
  refine Rn.n hT 1 (pc' := 1) (L' := [some (.ref q0), some (.int m1), none, none, none]) (st' := [.ref q0]) rfl ?_
  refine Rn.hp hT rfl rfl (gR_hp (rp_gR hR (T12_o t0) rfl)) ?_
  refine Rn.n hT 1 (pc' := 5) (L' := [some (.ref q0), some (.int m1), none, none, none]) (st' := [.int (2 : Int32), .ref (q0 + 19)]) rfl ?_
  obtain ⟨v_2775, e_2775, e⟩ := Option.bind_eq_some_iff.mp e
  obtain ⟨z_2775, g_2775, p_2775⟩ := rp_aI hR (T12_19 t0) (T12_19l t0) L32_2 e_2775
  refine Rn.hp hT rfl rfl (aI_hp g_2775) ?_
  refine Rn.n hT 4 (pc' := 10) (L' := [some (.ref q0), some (.int m1), some (.int (z_2775 - (1 : Int32))), none, none]) (st' := [.int m1]) rfl ?_
  by_cases c_2776 : x1 = 0
  · rw [if_pos c_2776] at e
    refine Rn.sw2 hT rfl rfl rfl (if_pos ((ti_e p1 L32_0).mpr c_2776)) ?_
    refine Rn.n hT 1 (pc' := 45) (L' := [some (.ref q0), some (.int m1), some (.int (z_2775 - (1 : Int32))), none, none]) (st' := [.ref q0]) rfl ?_
    refine Rn.hp hT rfl rfl (gR_hp (rp_gR hR (T12_o t0) rfl)) ?_
    refine Rn.n hT 4 (pc' := 52) (L' := [some (.ref q0), some (.int m1), some (.int (z_2775 - (1 : Int32))), none, none]) (st' := [.int (4 : Int32), .int (1 : Int32), .ref q0, .int (0 : Int32), .ref (q0 + 19)]) rfl ?_
    obtain ⟨⟨v_2777, s_2778⟩, e_2777, e⟩ := Option.bind_eq_some_iff.mp e
    try dsimp only at e
    try dsimp only at e
    refine Rn.call hT rfl rfl rfl (Nat.le_of_ble_eq_true rfl) (rcv_v gX12_amount (by omega) (rp_ck hR (T12_o t0))) (RX12_amount (by omega) hR t0 L32_1 L32_4 e_2777 (fun z_2777 h_2778 p_2777 R_2778 => ?_))
    show Rn d _ _ 55 [some (.ref q0), some (.int m1), some (.int (z_2775 - (1 : Int32))), none, none] [.int z_2777, .int (0 : Int32), .ref (q0 + 19)] h_2778 Q
    obtain ⟨s_2779, e_2780, e⟩ := Option.bind_eq_some_iff.mp e
    obtain ⟨h_2779, g_2780, R_2779⟩ := rp_wI R_2778 (T12_19 t0) (T12_19l t0) L32_0 p_2777 e_2780
    refine Rn.hp hT rfl rfl (wI_hp g_2780) ?_
    refine Rn.n hT 1 (pc' := 57) (L' := [some (.ref q0), some (.int m1), some (.int (z_2775 - (1 : Int32))), none, none]) (st' := [.ref q0]) rfl ?_
    refine Rn.hp hT rfl rfl (gR_hp (rp_gR R_2779 (T12_o t0) rfl)) ?_
    refine Rn.n hT 4 (pc' := 64) (L' := [some (.ref q0), some (.int m1), some (.int (z_2775 - (1 : Int32))), none, none]) (st' := [.int (4 : Int32), .int (1 : Int32), .ref q0, .int (1 : Int32), .ref (q0 + 19)]) rfl ?_
    obtain ⟨⟨v_2781, s_2782⟩, e_2781, e⟩ := Option.bind_eq_some_iff.mp e
    try dsimp only at e
    try dsimp only at e
    refine Rn.call hT rfl rfl rfl (Nat.le_of_ble_eq_true rfl) (rcv_v gX12_amount (by omega) (rp_ck R_2779 (T12_o t0))) (RX12_amount (by omega) R_2779 t0 L32_1 L32_4 e_2781 (fun z_2781 h_2782 p_2781 R_2782 => ?_))
    show Rn d _ _ 67 [some (.ref q0), some (.int m1), some (.int (z_2775 - (1 : Int32))), none, none] [.int z_2781, .int (1 : Int32), .ref (q0 + 19)] h_2782 Q
    obtain ⟨s_2783, e_2784, e⟩ := Option.bind_eq_some_iff.mp e
    obtain ⟨h_2783, g_2784, R_2783⟩ := rp_wI R_2782 (T12_19 t0) (T12_19l t0) L32_1 p_2781 e_2784
    refine Rn.hp hT rfl rfl (wI_hp g_2784) ?_
    refine Rn.n hT 1 (pc' := 185) (L' := [some (.ref q0), some (.int m1), some (.int (z_2775 - (1 : Int32))), none, none]) (st' := []) rfl ?_
    exact Rn.weak (ll_n (ll_n (ll_n (ll_n (ll_n ll_e))))) (RX12_palacePart_b185 hd R_2783 hq e)
  · rw [if_neg c_2776] at e
    by_cases c_2785 : x1 = 1
    · rw [if_pos c_2785] at e
      refine Rn.sw2 hT rfl rfl rfl ((if_neg (fun z => c_2776 ((ti_e p1 L32_0).mp z))).trans (if_pos ((ti_e p1 L32_1).mpr c_2785))) ?_
      refine Rn.n hT 1 (pc' := 72) (L' := [some (.ref q0), some (.int m1), some (.int (z_2775 - (1 : Int32))), none, none]) (st' := [.ref q0]) rfl ?_
      obtain ⟨s_2787, e_2786, e⟩ := Option.bind_eq_some_iff.mp e
      refine Rn.call hT rfl rfl rfl (Nat.le_of_ble_eq_true rfl) (rcv_v gX12_readsRoom (by omega) (rp_ck hR (T12_o t0))) (RX12_readsRoom (by omega) hR t0 e_2786 (fun h_2787 R_2787 => ?_))
      show Rn d _ _ 75 [some (.ref q0), some (.int m1), some (.int (z_2775 - (1 : Int32))), none, none] [] h_2787 Q
      refine Rn.n hT 1 (pc' := 185) (L' := [some (.ref q0), some (.int m1), some (.int (z_2775 - (1 : Int32))), none, none]) (st' := []) rfl ?_
      exact Rn.weak (ll_n (ll_n (ll_n (ll_n (ll_n ll_e))))) (RX12_palacePart_b185 hd R_2787 hq e)
    · rw [if_neg c_2785] at e
      by_cases c_2788 : x1 = 2
      · rw [if_pos c_2788] at e
        refine Rn.sw2 hT rfl rfl rfl ((if_neg (fun z => c_2776 ((ti_e p1 L32_0).mp z))).trans ((if_neg (fun z => c_2785 ((ti_e p1 L32_1).mp z))).trans (if_pos ((ti_e p1 L32_2).mpr c_2788)))) ?_
        refine Rn.n hT 3 (pc' := 81) (L' := [some (.ref q0), some (.int m1), some (.int (z_2775 - (1 : Int32))), none, none]) (st' := [.int (z_2775 - (1 : Int32)), .int (0 : Int32), .ref q0]) rfl ?_
        obtain ⟨⟨v_2789, s_2790⟩, e_2789, e⟩ := Option.bind_eq_some_iff.mp e
        try dsimp only at e
        try dsimp only at e
        refine Rn.call hT rfl rfl rfl (Nat.le_of_ble_eq_true rfl) (rcv_v gX12_amount (by omega) (rp_ck hR (T12_o t0))) (RX12_amount (by omega) hR t0 L32_0 (ti_sub p_2775 L32_1) e_2789 (fun z_2789 h_2790 p_2789 R_2790 => ?_))
        show Rn d _ _ 84 [some (.ref q0), some (.int m1), some (.int (z_2775 - (1 : Int32))), none, none] [.int z_2789] h_2790 Q
        refine Rn.n hT 2 (pc' := 86) (L' := [some (.ref q0), some (.int m1), some (.int (z_2775 - (1 : Int32))), some (.int z_2789), none]) (st' := [.ref q0]) rfl ?_
        obtain ⟨z_2791, g_2791, p_2791⟩ : ∃ z : Int32, gI h_2790 12 30 q0 = some z ∧ z.toInt = s_2790 q0 30 := rp_gI (k := 30) R_2790 (T12_o t0) rfl
        refine Rn.hp hT rfl rfl (gI_hp g_2791) ?_
        by_cases c_2792 : (s_2790 q0 30) = 0
        · rw [if_pos c_2792] at e
          refine Rn.bf hT rfl rfl rfl (decide_eq_false (fun z => z ((ti_e p_2791 L32_0).mpr c_2792))) ?_
          refine Rn.n hT 1 (pc' := 93) (L' := [some (.ref q0), some (.int m1), some (.int (z_2775 - (1 : Int32))), some (.int z_2789), none]) (st' := [.ref q0]) rfl ?_
          refine Rn.hp hT rfl rfl (gR_hp (rp_gR R_2790 (T12_o t0) rfl)) ?_
          refine Rn.n hT 2 (pc' := 98) (L' := [some (.ref q0), some (.int m1), some (.int (z_2775 - (1 : Int32))), some (.int z_2789), none]) (st' := [.int (1 : Int32), .int z_2789, .ref (q0 + 22)]) rfl ?_
          obtain ⟨s_2793, e_2794, e⟩ := Option.bind_eq_some_iff.mp e
          obtain ⟨h_2793, g_2794, R_2793⟩ := rp_wI R_2790 (T12_22 t0) (T12_22l t0) p_2789 L32_1 e_2794
          refine Rn.hp hT rfl rfl (wI_hp g_2794) ?_
          refine Rn.n hT 1 (pc' := 185) (L' := [some (.ref q0), some (.int m1), some (.int (z_2775 - (1 : Int32))), some (.int z_2789), none]) (st' := []) rfl ?_
          exact Rn.weak (ll_n (ll_n (ll_n (ll_n (ll_n ll_e))))) (RX12_palacePart_b185 hd R_2793 hq e)
        · rw [if_neg c_2792] at e
          refine Rn.bt hT rfl rfl rfl (decide_eq_true (fun z => c_2792 ((ti_e p_2791 L32_0).mp z))) ?_
          exact Rn.weak (ll_n (ll_n (ll_n (ll_n (ll_n ll_e))))) (RX12_palacePart_b185 hd R_2790 hq e)
      · rw [if_neg c_2788] at e
        by_cases c_2795 : x1 = 3
        · rw [if_pos c_2795] at e
          refine Rn.sw2 hT rfl rfl rfl ((if_neg (fun z => c_2776 ((ti_e p1 L32_0).mp z))).trans ((if_neg (fun z => c_2785 ((ti_e p1 L32_1).mp z))).trans ((if_neg (fun z => c_2788 ((ti_e p1 L32_2).mp z))).trans (if_pos ((ti_e p1 L32_3).mpr c_2795))))) ?_
          refine Rn.n hT 3 (pc' := 105) (L' := [some (.ref q0), some (.int m1), some (.int (z_2775 - (1 : Int32))), none, none]) (st' := [.int (4 : Int32), .int (1 : Int32), .ref q0]) rfl ?_
          obtain ⟨⟨v_2796, s_2797⟩, e_2796, e⟩ := Option.bind_eq_some_iff.mp e
          try dsimp only at e
          try dsimp only at e
          refine Rn.call hT rfl rfl rfl (Nat.le_of_ble_eq_true rfl) (rcv_v gX12_amount (by omega) (rp_ck hR (T12_o t0))) (RX12_amount (by omega) hR t0 L32_1 L32_4 e_2796 (fun z_2796 h_2797 p_2796 R_2797 => ?_))
          show Rn d _ _ 108 [some (.ref q0), some (.int m1), some (.int (z_2775 - (1 : Int32))), none, none] [.int z_2796] h_2797 Q
          refine Rn.n hT 4 (pc' := 112) (L' := [some (.ref q0), some (.int m1), some (.int (z_2775 - (1 : Int32))), some (.int z_2796), none]) (st' := [.int (z_2775 - (1 : Int32)), .int (0 : Int32), .ref q0]) rfl ?_
          obtain ⟨⟨v_2798, s_2799⟩, e_2798, e⟩ := Option.bind_eq_some_iff.mp e
          try dsimp only at e
          try dsimp only at e
          refine Rn.call hT rfl rfl rfl (Nat.le_of_ble_eq_true rfl) (rcv_v gX12_amount (by omega) (rp_ck R_2797 (T12_o t0))) (RX12_amount (by omega) R_2797 t0 L32_0 (ti_sub p_2775 L32_1) e_2798 (fun z_2798 h_2799 p_2798 R_2799 => ?_))
          show Rn d _ _ 115 [some (.ref q0), some (.int m1), some (.int (z_2775 - (1 : Int32))), some (.int z_2796), none] [.int z_2798] h_2799 Q
          refine Rn.n hT 2 (pc' := 118) (L' := [some (.ref q0), some (.int m1), some (.int (z_2775 - (1 : Int32))), some (.int z_2796), some (.int z_2798)]) (st' := [.ref q0]) rfl ?_
          obtain ⟨z_2800, g_2800, p_2800⟩ : ∃ z : Int32, gI h_2799 12 30 q0 = some z ∧ z.toInt = s_2799 q0 30 := rp_gI (k := 30) R_2799 (T12_o t0) rfl
          refine Rn.hp hT rfl rfl (gI_hp g_2800) ?_
          by_cases c_2801 : (s_2799 q0 30) = 0
          · rw [if_pos c_2801] at e
            refine Rn.bf hT rfl rfl rfl (decide_eq_false (fun z => z ((ti_e p_2800 L32_0).mpr c_2801))) ?_
            refine Rn.n hT 1 (pc' := 125) (L' := [some (.ref q0), some (.int m1), some (.int (z_2775 - (1 : Int32))), some (.int z_2796), some (.int z_2798)]) (st' := [.ref q0]) rfl ?_
            refine Rn.hp hT rfl rfl (gR_hp (rp_gR R_2799 (T12_o t0) rfl)) ?_
            refine Rn.n hT 4 (pc' := 133) (L' := [some (.ref q0), some (.int m1), some (.int (z_2775 - (1 : Int32))), some (.int z_2796), some (.int z_2798)]) (st' := [.int z_2798, .int (z_2796 - (1 : Int32)), .ref (q0 + 23)]) rfl ?_
            obtain ⟨s_2802, e_2803, e⟩ := Option.bind_eq_some_iff.mp e
            obtain ⟨h_2802, g_2803, R_2802⟩ := rp_wI R_2799 (T12_23 t0) (T12_23l t0) (ti_sub p_2796 L32_1) p_2798 e_2803
            refine Rn.hp hT rfl rfl (wI_hp g_2803) ?_
            refine Rn.n hT 1 (pc' := 185) (L' := [some (.ref q0), some (.int m1), some (.int (z_2775 - (1 : Int32))), some (.int z_2796), some (.int z_2798)]) (st' := []) rfl ?_
            exact Rn.weak (ll_n (ll_n (ll_n (ll_n (ll_n ll_e))))) (RX12_palacePart_b185 hd R_2802 hq e)
          · rw [if_neg c_2801] at e
            refine Rn.bt hT rfl rfl rfl (decide_eq_true (fun z => c_2801 ((ti_e p_2800 L32_0).mp z))) ?_
            exact Rn.weak (ll_n (ll_n (ll_n (ll_n (ll_n ll_e))))) (RX12_palacePart_b185 hd R_2799 hq e)
        · rw [if_neg c_2795] at e
          by_cases c_2804 : x1 = 4
          · rw [if_pos c_2804] at e
            refine Rn.sw2 hT rfl rfl rfl ((if_neg (fun z => c_2776 ((ti_e p1 L32_0).mp z))).trans ((if_neg (fun z => c_2785 ((ti_e p1 L32_1).mp z))).trans ((if_neg (fun z => c_2788 ((ti_e p1 L32_2).mp z))).trans ((if_neg (fun z => c_2795 ((ti_e p1 L32_3).mp z))).trans (if_pos ((ti_e p1 L32_4).mpr c_2804)))))) ?_
            refine Rn.n hT 1 (pc' := 138) (L' := [some (.ref q0), some (.int m1), some (.int (z_2775 - (1 : Int32))), none, none]) (st' := [.ref q0]) rfl ?_
            refine Rn.hp hT rfl rfl (gR_hp (rp_gR hR (T12_o t0) rfl)) ?_
            refine Rn.n hT 1 (pc' := 142) (L' := [some (.ref q0), some (.int m1), some (.int (z_2775 - (1 : Int32))), none, none]) (st' := [.ref q0, .ref (q0 + 24)]) rfl ?_
            refine Rn.hp hT rfl rfl (gR_hp (rp_gR hR (T12_o t0) rfl)) ?_
            refine Rn.n hT 1 (pc' := 146) (L' := [some (.ref q0), some (.int m1), some (.int (z_2775 - (1 : Int32))), none, none]) (st' := [.int (3 : Int32), .ref (q0 + 19), .ref (q0 + 24)]) rfl ?_
            obtain ⟨v_2805, e_2805, e⟩ := Option.bind_eq_some_iff.mp e
            obtain ⟨z_2805, g_2805, p_2805⟩ := rp_aI hR (T12_19 t0) (T12_19l t0) L32_3 e_2805
            refine Rn.hp hT rfl rfl (aI_hp g_2805) ?_
            refine Rn.n hT 3 (pc' := 150) (L' := [some (.ref q0), some (.int m1), some (.int (z_2775 - (1 : Int32))), none, none]) (st' := [.int (z_2775 - (1 : Int32)), .int (0 : Int32), .ref q0, .int z_2805, .ref (q0 + 24)]) rfl ?_
            obtain ⟨⟨v_2806, s_2807⟩, e_2806, e⟩ := Option.bind_eq_some_iff.mp e
            try dsimp only at e
            try dsimp only at e
            refine Rn.call hT rfl rfl rfl (Nat.le_of_ble_eq_true rfl) (rcv_v gX12_amount (by omega) (rp_ck hR (T12_o t0))) (RX12_amount (by omega) hR t0 L32_0 (ti_sub p_2775 L32_1) e_2806 (fun z_2806 h_2807 p_2806 R_2807 => ?_))
            show Rn d _ _ 153 [some (.ref q0), some (.int m1), some (.int (z_2775 - (1 : Int32))), none, none] [.int z_2806, .int z_2805, .ref (q0 + 24)] h_2807 Q
            obtain ⟨s_2808, e_2809, e⟩ := Option.bind_eq_some_iff.mp e
            obtain ⟨h_2808, g_2809, R_2808⟩ := rp_wI R_2807 (T12_24 t0) (T12_24l t0) p_2805 p_2806 e_2809
            refine Rn.hp hT rfl rfl (wI_hp g_2809) ?_
            refine Rn.n hT 1 (pc' := 155) (L' := [some (.ref q0), some (.int m1), some (.int (z_2775 - (1 : Int32))), none, none]) (st' := [.ref q0]) rfl ?_
            refine Rn.hp hT rfl rfl (gR_hp (rp_gR R_2808 (T12_o t0) rfl)) ?_
            refine Rn.n hT 2 (pc' := 160) (L' := [some (.ref q0), some (.int m1), some (.int (z_2775 - (1 : Int32))), none, none]) (st' := [.int (3 : Int32), .ref (q0 + 19), .int (3 : Int32), .ref (q0 + 19)]) rfl ?_
            obtain ⟨v_2810, e_2810, e⟩ := Option.bind_eq_some_iff.mp e
            obtain ⟨z_2810, g_2810, p_2810⟩ := rp_aI R_2808 (T12_19 t0) (T12_19l t0) L32_3 e_2810
            refine Rn.hp hT rfl rfl (aI_hp g_2810) ?_
            refine Rn.n hT 2 (pc' := 163) (L' := [some (.ref q0), some (.int m1), some (.int (z_2775 - (1 : Int32))), none, none]) (st' := [.int (z_2810 + (1 : Int32)), .int (3 : Int32), .ref (q0 + 19)]) rfl ?_
            obtain ⟨s_2811, e_2812, e⟩ := Option.bind_eq_some_iff.mp e
            obtain ⟨h_2811, g_2812, R_2811⟩ := rp_wI R_2808 (T12_19 t0) (T12_19l t0) L32_3 (ti_add p_2810 L32_1) e_2812
            refine Rn.hp hT rfl rfl (wI_hp g_2812) ?_
            refine Rn.n hT 1 (pc' := 185) (L' := [some (.ref q0), some (.int m1), some (.int (z_2775 - (1 : Int32))), none, none]) (st' := []) rfl ?_
            exact Rn.weak (ll_n (ll_n (ll_n (ll_n (ll_n ll_e))))) (RX12_palacePart_b185 hd R_2811 hq e)
          · rw [if_neg c_2804] at e
            refine Rn.sw2 hT rfl rfl rfl ((if_neg (fun z => c_2776 ((ti_e p1 L32_0).mp z))).trans ((if_neg (fun z => c_2785 ((ti_e p1 L32_1).mp z))).trans ((if_neg (fun z => c_2788 ((ti_e p1 L32_2).mp z))).trans ((if_neg (fun z => c_2795 ((ti_e p1 L32_3).mp z))).trans ((if_neg (fun z => c_2804 ((ti_e p1 L32_4).mp z))).trans rfl))))) ?_
            refine Rn.n hT 1 (pc' := 168) (L' := [some (.ref q0), some (.int m1), some (.int (z_2775 - (1 : Int32))), none, none]) (st' := [.ref q0]) rfl ?_
            refine Rn.hp hT rfl rfl (gR_hp (rp_gR hR (T12_o t0) rfl)) ?_
            refine Rn.n hT 4 (pc' := 176) (L' := [some (.ref q0), some (.int m1), some (.int (z_2775 - (1 : Int32))), none, none]) (st' := [.int (7 : Int32), .int (1 : Int32), .ref q0, .int (4 : Int32), .ref (q0 + 19)]) rfl ?_
            obtain ⟨⟨v_2813, s_2814⟩, e_2813, e⟩ := Option.bind_eq_some_iff.mp e
            try dsimp only at e
            try dsimp only at e
            refine Rn.call hT rfl rfl rfl (Nat.le_of_ble_eq_true rfl) (rcv_v gX12_amount (by omega) (rp_ck hR (T12_o t0))) (RX12_amount (by omega) hR t0 L32_1 L32_7 e_2813 (fun z_2813 h_2814 p_2813 R_2814 => ?_))
            show Rn d _ _ 179 [some (.ref q0), some (.int m1), some (.int (z_2775 - (1 : Int32))), none, none] [.int z_2813, .int (4 : Int32), .ref (q0 + 19)] h_2814 Q
            obtain ⟨s_2815, e_2816, e⟩ := Option.bind_eq_some_iff.mp e
            obtain ⟨h_2815, g_2816, R_2815⟩ := rp_wI R_2814 (T12_19 t0) (T12_19l t0) L32_4 p_2813 e_2816
            refine Rn.hp hT rfl rfl (wI_hp g_2816) ?_
            refine Rn.n hT 2 (pc' := 182) (L' := [some (.ref q0), some (.int m1), some (.int (z_2775 - (1 : Int32))), none, none]) (st' := [.int (1 : Int32), .ref q0]) rfl ?_
            obtain ⟨s_2817, e_2818, e⟩ := Option.bind_eq_some_iff.mp e
            obtain ⟨h_2817, g_2818, R_2817⟩ := rp_pI (ci := 12) (k := 38) R_2815 (T12_o t0) rfl rfl L32_1 e_2818
            refine Rn.hp hT rfl rfl (pV_hp (by decide) g_2818) ?_
            exact Rn.weak (ll_n (ll_n (ll_n (ll_n (ll_n ll_e))))) (RX12_palacePart_b185 hd R_2817 hq e)
set_option maxRecDepth 10000 in
theorem hX12_isFull : iv_Tb 233 tX12_isFull := iv_tb_of (m := mX12_isFull) rfl
set_option maxRecDepth 10000 in
theorem gX12_isFull : PG.2 233 = some mX12_isFull := iv_pi_of (t := tX12_isFull) rfl (by decide)
def FX12_isFull_b27 (N : Nat) (s : iv_M)   : Option (Int) := (some 1)
set_option maxRecDepth 10000 in
set_option maxHeartbeats 4000000 in
theorem RX12_isFull_b27 {d N nc Ls : Nat} {Xs : Nat → Int32} (hd : 0 ≤ d) {h : iv_H} {s : iv_M} (hR : Rep nc Ls Xs h s)   {r : Int} {Q : Option Value → iv_H → Prop} (hq : ∀ (z : Int32), z.toInt = r → Q (some (.int z)) h) (e : FX12_isFull_b27 N s   = some r) : Rn d 233 (some .boolean) 27 [none, none, none] [] h Q := by
  have hT := hX12_isFull
  unfold FX12_isFull_b27 at e
  refine Rn.n hT 1 (pc' := 28) (L' := [none, none, none]) (st' := [.int (1 : Int32)]) rfl ?_
  obtain rfl := Option.some.inj e
  exact Rn.ret hT rfl rfl rfl (hq (1 : Int32) L32_1)
def FX12_isFull_b80 (N : Nat) (s : iv_M)  (xs0 : Int) : Option (Int) := (if xs0 = 0 ∨ xs0 = 1 then some xs0 else none)
set_option maxRecDepth 10000 in
set_option maxHeartbeats 4000000 in
theorem RX12_isFull_b80 {d N nc Ls : Nat} {Xs : Nat → Int32} (hd : 0 ≤ d) {h : iv_H} {s : iv_M} (hR : Rep nc Ls Xs h s)  {ms0 : Int32} {xs0 : Int} (ps0 : ms0.toInt = xs0) {r : Int} {Q : Option Value → iv_H → Prop} (hq : ∀ (z : Int32), z.toInt = r → Q (some (.int z)) h) (e : FX12_isFull_b80 N s  xs0 = some r) : Rn d 233 (some .boolean) 80 [none, none, none] [.int ms0] h Q := by
  have hT := hX12_isFull
  unfold FX12_isFull_b80 at e
  by_cases c_2834 : xs0 = 0 ∨ xs0 = 1
  · rw [if_pos c_2834] at e
    obtain rfl := Option.some.inj e
    exact Rn.ret hT rfl rfl (if_pos (ti_b ps0 c_2834)) (hq ms0 ps0)
  · rw [if_neg c_2834] at e
    cases e
def FX12_isFull_b97 (N : Nat) (s : iv_M)  (xs0 : Int) : Option (Int) := (if xs0 = 0 ∨ xs0 = 1 then some xs0 else none)
set_option maxRecDepth 10000 in
set_option maxHeartbeats 4000000 in
theorem RX12_isFull_b97 {d N nc Ls : Nat} {Xs : Nat → Int32} (hd : 0 ≤ d) {h : iv_H} {s : iv_M} (hR : Rep nc Ls Xs h s)  {ms0 : Int32} {xs0 : Int} (ps0 : ms0.toInt = xs0) {r : Int} {Q : Option Value → iv_H → Prop} (hq : ∀ (z : Int32), z.toInt = r → Q (some (.int z)) h) (e : FX12_isFull_b97 N s  xs0 = some r) : Rn d 233 (some .boolean) 97 [none, none, none] [.int ms0] h Q := by
  have hT := hX12_isFull
  unfold FX12_isFull_b97 at e
  by_cases c_2835 : xs0 = 0 ∨ xs0 = 1
  · rw [if_pos c_2835] at e
    obtain rfl := Option.some.inj e
    exact Rn.ret hT rfl rfl (if_pos (ti_b ps0 c_2835)) (hq ms0 ps0)
  · rw [if_neg c_2835] at e
    cases e
def FX12_isFull_b24 (N : Nat) (s : iv_M) (q0 : Nat) (x1 : Int) (xs0 : Int) (xs1 : Int) : Option (Int) := (if xs1 = xs0 then (if x1 = 1 then ((rd s (q0 + 19) 5 2).bind fun v_2824 => (if v_2824 = 12 then (FX12_isFull_b80 N s 1) else (FX12_isFull_b80 N s 0))) else (if x1 = 2 then (some 0) else (if x1 = 3 then (some 0) else (if x1 = 4 then ((rd s (q0 + 19) 5 3).bind fun v_2829 => (if v_2829 = 6 then (FX12_isFull_b97 N s 1) else (FX12_isFull_b97 N s 0))) else (if x1 = 5 then (if (s q0 38) = 0 ∨ (s q0 38) = 1 then some (s q0 38) else none) else (some 0)))))) else (FX12_isFull_b27 N s))
set_option maxRecDepth 10000 in
set_option maxHeartbeats 4000000 in
theorem RX12_isFull_b24 {d N nc Ls : Nat} {Xs : Nat → Int32} (hd : 0 ≤ d) {h : iv_H} {s : iv_M} (hR : Rep nc Ls Xs h s) {q0 : Nat} (t0 : T12 nc q0) {m1 : Int32} {x1 : Int} (p1 : m1.toInt = x1) {ms0 : Int32} {xs0 : Int} (ps0 : ms0.toInt = xs0) {ms1 : Int32} {xs1 : Int} (ps1 : ms1.toInt = xs1) {r : Int} {Q : Option Value → iv_H → Prop} (hq : ∀ (z : Int32), z.toInt = r → Q (some (.int z)) h) (e : FX12_isFull_b24 N s q0 x1 xs0 xs1 = some r) : Rn d 233 (some .boolean) 24 [some (.ref q0), some (.int m1), none] [.int ms0, .int ms1] h Q := by
  have hT := hX12_isFull
  unfold FX12_isFull_b24 at e
  by_cases c_2822 : xs1 = xs0
  · rw [if_pos c_2822] at e
    refine Rn.bt hT rfl rfl rfl (decide_eq_true ((ti_e ps1 ps0).mpr c_2822)) ?_
    refine Rn.n hT 1 (pc' := 30) (L' := [some (.ref q0), some (.int m1), none]) (st' := [.int m1]) rfl ?_
    by_cases c_2823 : x1 = 1
    · rw [if_pos c_2823] at e
      refine Rn.sw2 hT rfl rfl rfl (if_pos ((ti_e p1 L32_1).mpr c_2823)) ?_
      refine Rn.n hT 1 (pc' := 65) (L' := [some (.ref q0), some (.int m1), none]) (st' := [.ref q0]) rfl ?_
      refine Rn.hp hT rfl rfl (gR_hp (rp_gR hR (T12_o t0) rfl)) ?_
      refine Rn.n hT 1 (pc' := 69) (L' := [some (.ref q0), some (.int m1), none]) (st' := [.int (2 : Int32), .ref (q0 + 19)]) rfl ?_
      obtain ⟨v_2824, e_2824, e⟩ := Option.bind_eq_some_iff.mp e
      obtain ⟨z_2824, g_2824, p_2824⟩ := rp_aI hR (T12_19 t0) (T12_19l t0) L32_2 e_2824
      refine Rn.hp hT rfl rfl (aI_hp g_2824) ?_
      refine Rn.n hT 1 (pc' := 72) (L' := [some (.ref q0), some (.int m1), none]) (st' := [.int (12 : Int32), .int z_2824]) rfl ?_
      by_cases c_2825 : v_2824 = 12
      · rw [if_pos c_2825] at e
        refine Rn.bf hT rfl rfl rfl (decide_eq_false (fun z => z ((ti_e p_2824 L32_12).mpr c_2825))) ?_
        refine Rn.n hT 2 (pc' := 80) (L' := [some (.ref q0), some (.int m1), none]) (st' := [.int (1 : Int32)]) rfl ?_
        exact Rn.weak (ll_n (ll_n (ll_n ll_e))) (RX12_isFull_b80 hd hR L32_1 hq e)
      · rw [if_neg c_2825] at e
        refine Rn.bt hT rfl rfl rfl (decide_eq_true (fun z => c_2825 ((ti_e p_2824 L32_12).mp z))) ?_
        refine Rn.n hT 1 (pc' := 80) (L' := [some (.ref q0), some (.int m1), none]) (st' := [.int (0 : Int32)]) rfl ?_
        exact Rn.weak (ll_n (ll_n (ll_n ll_e))) (RX12_isFull_b80 hd hR L32_0 hq e)
    · rw [if_neg c_2823] at e
      by_cases c_2826 : x1 = 2
      · rw [if_pos c_2826] at e
        refine Rn.sw2 hT rfl rfl rfl ((if_neg (fun z => c_2823 ((ti_e p1 L32_1).mp z))).trans (if_pos ((ti_e p1 L32_2).mpr c_2826))) ?_
        refine Rn.n hT 1 (pc' := 104) (L' := [some (.ref q0), some (.int m1), none]) (st' := [.int (0 : Int32)]) rfl ?_
        obtain rfl := Option.some.inj e
        exact Rn.ret hT rfl rfl rfl (hq (0 : Int32) L32_0)
      · rw [if_neg c_2826] at e
        by_cases c_2827 : x1 = 3
        · rw [if_pos c_2827] at e
          refine Rn.sw2 hT rfl rfl rfl ((if_neg (fun z => c_2823 ((ti_e p1 L32_1).mp z))).trans ((if_neg (fun z => c_2826 ((ti_e p1 L32_2).mp z))).trans (if_pos ((ti_e p1 L32_3).mpr c_2827)))) ?_
          refine Rn.n hT 1 (pc' := 104) (L' := [some (.ref q0), some (.int m1), none]) (st' := [.int (0 : Int32)]) rfl ?_
          obtain rfl := Option.some.inj e
          exact Rn.ret hT rfl rfl rfl (hq (0 : Int32) L32_0)
        · rw [if_neg c_2827] at e
          by_cases c_2828 : x1 = 4
          · rw [if_pos c_2828] at e
            refine Rn.sw2 hT rfl rfl rfl ((if_neg (fun z => c_2823 ((ti_e p1 L32_1).mp z))).trans ((if_neg (fun z => c_2826 ((ti_e p1 L32_2).mp z))).trans ((if_neg (fun z => c_2827 ((ti_e p1 L32_3).mp z))).trans (if_pos ((ti_e p1 L32_4).mpr c_2828))))) ?_
            refine Rn.n hT 1 (pc' := 82) (L' := [some (.ref q0), some (.int m1), none]) (st' := [.ref q0]) rfl ?_
            refine Rn.hp hT rfl rfl (gR_hp (rp_gR hR (T12_o t0) rfl)) ?_
            refine Rn.n hT 1 (pc' := 86) (L' := [some (.ref q0), some (.int m1), none]) (st' := [.int (3 : Int32), .ref (q0 + 19)]) rfl ?_
            obtain ⟨v_2829, e_2829, e⟩ := Option.bind_eq_some_iff.mp e
            obtain ⟨z_2829, g_2829, p_2829⟩ := rp_aI hR (T12_19 t0) (T12_19l t0) L32_3 e_2829
            refine Rn.hp hT rfl rfl (aI_hp g_2829) ?_
            refine Rn.n hT 1 (pc' := 89) (L' := [some (.ref q0), some (.int m1), none]) (st' := [.int (6 : Int32), .int z_2829]) rfl ?_
            by_cases c_2830 : v_2829 = 6
            · rw [if_pos c_2830] at e
              refine Rn.bf hT rfl rfl rfl (decide_eq_false (fun z => z ((ti_e p_2829 L32_6).mpr c_2830))) ?_
              refine Rn.n hT 2 (pc' := 97) (L' := [some (.ref q0), some (.int m1), none]) (st' := [.int (1 : Int32)]) rfl ?_
              exact Rn.weak (ll_n (ll_n (ll_n ll_e))) (RX12_isFull_b97 hd hR L32_1 hq e)
            · rw [if_neg c_2830] at e
              refine Rn.bt hT rfl rfl rfl (decide_eq_true (fun z => c_2830 ((ti_e p_2829 L32_6).mp z))) ?_
              refine Rn.n hT 1 (pc' := 97) (L' := [some (.ref q0), some (.int m1), none]) (st' := [.int (0 : Int32)]) rfl ?_
              exact Rn.weak (ll_n (ll_n (ll_n ll_e))) (RX12_isFull_b97 hd hR L32_0 hq e)
          · rw [if_neg c_2828] at e
            by_cases c_2831 : x1 = 5
            · rw [if_pos c_2831] at e
              refine Rn.sw2 hT rfl rfl rfl ((if_neg (fun z => c_2823 ((ti_e p1 L32_1).mp z))).trans ((if_neg (fun z => c_2826 ((ti_e p1 L32_2).mp z))).trans ((if_neg (fun z => c_2827 ((ti_e p1 L32_3).mp z))).trans ((if_neg (fun z => c_2828 ((ti_e p1 L32_4).mp z))).trans (if_pos ((ti_e p1 L32_5).mpr c_2831)))))) ?_
              refine Rn.n hT 1 (pc' := 99) (L' := [some (.ref q0), some (.int m1), none]) (st' := [.ref q0]) rfl ?_
              obtain ⟨z_2832, g_2832, p_2832⟩ : ∃ z : Int32, gI h 12 38 q0 = some z ∧ z.toInt = s q0 38 := rp_gI (k := 38) hR (T12_o t0) rfl
              refine Rn.hp hT rfl rfl (gI_hp g_2832) ?_
              by_cases c_2833 : (s q0 38) = 0 ∨ (s q0 38) = 1
              · rw [if_pos c_2833] at e
                obtain rfl := Option.some.inj e
                exact Rn.ret hT rfl rfl (if_pos (ti_b p_2832 c_2833)) (hq z_2832 p_2832)
              · rw [if_neg c_2833] at e
                cases e
            · rw [if_neg c_2831] at e
              refine Rn.sw2 hT rfl rfl rfl ((if_neg (fun z => c_2823 ((ti_e p1 L32_1).mp z))).trans ((if_neg (fun z => c_2826 ((ti_e p1 L32_2).mp z))).trans ((if_neg (fun z => c_2827 ((ti_e p1 L32_3).mp z))).trans ((if_neg (fun z => c_2828 ((ti_e p1 L32_4).mp z))).trans ((if_neg (fun z => c_2831 ((ti_e p1 L32_5).mp z))).trans rfl))))) ?_
              refine Rn.n hT 1 (pc' := 104) (L' := [some (.ref q0), some (.int m1), none]) (st' := [.int (0 : Int32)]) rfl ?_
              obtain rfl := Option.some.inj e
              exact Rn.ret hT rfl rfl rfl (hq (0 : Int32) L32_0)
  · rw [if_neg c_2822] at e
    refine Rn.bf hT rfl rfl rfl (decide_eq_false (fun z => c_2822 ((ti_e ps1 ps0).mp z))) ?_
    exact Rn.weak (ll_n (ll_n (ll_n ll_e))) (RX12_isFull_b27 hd hR hq e)
def FX12_isFull_b15 (N : Nat) (s : iv_M) (q0 : Nat) (x1 : Int) (x2 : Int) (xs0 : Int) : Option (Int) := (if x2 = 0 then (FX12_isFull_b24 N s q0 x1 1 xs0) else (FX12_isFull_b24 N s q0 x1 0 xs0))
set_option maxRecDepth 10000 in
set_option maxHeartbeats 4000000 in
theorem RX12_isFull_b15 {d N nc Ls : Nat} {Xs : Nat → Int32} (hd : 0 ≤ d) {h : iv_H} {s : iv_M} (hR : Rep nc Ls Xs h s) {q0 : Nat} (t0 : T12 nc q0) {m1 : Int32} {x1 : Int} (p1 : m1.toInt = x1) {m2 : Int32} {x2 : Int} (p2 : m2.toInt = x2) {ms0 : Int32} {xs0 : Int} (ps0 : ms0.toInt = xs0) {r : Int} {Q : Option Value → iv_H → Prop} (hq : ∀ (z : Int32), z.toInt = r → Q (some (.int z)) h) (e : FX12_isFull_b15 N s q0 x1 x2 xs0 = some r) : Rn d 233 (some .boolean) 15 [some (.ref q0), some (.int m1), some (.int m2)] [.int ms0] h Q := by
  have hT := hX12_isFull
  unfold FX12_isFull_b15 at e
  refine Rn.n hT 1 (pc' := 16) (L' := [some (.ref q0), some (.int m1), some (.int m2)]) (st' := [.int m2, .int ms0]) rfl ?_
  by_cases c_2821 : x2 = 0
  · rw [if_pos c_2821] at e
    refine Rn.bf hT rfl rfl rfl (decide_eq_false (fun z => z ((ti_e p2 L32_0).mpr c_2821))) ?_
    refine Rn.n hT 2 (pc' := 24) (L' := [some (.ref q0), some (.int m1), some (.int m2)]) (st' := [.int (1 : Int32), .int ms0]) rfl ?_
    exact Rn.weak (ll_s (ll_s (ll_n ll_e))) (RX12_isFull_b24 hd hR t0 p1 L32_1 ps0 hq e)
  · rw [if_neg c_2821] at e
    refine Rn.bt hT rfl rfl rfl (decide_eq_true (fun z => c_2821 ((ti_e p2 L32_0).mp z))) ?_
    refine Rn.n hT 1 (pc' := 24) (L' := [some (.ref q0), some (.int m1), some (.int m2)]) (st' := [.int (0 : Int32), .int ms0]) rfl ?_
    exact Rn.weak (ll_s (ll_s (ll_n ll_e))) (RX12_isFull_b24 hd hR t0 p1 L32_0 ps0 hq e)
def FX12_isFull (N : Nat) (s : iv_M) (q0 : Nat) (x1 : Int) (x2 : Int) : Option (Int) := (if x2 = 40 then (FX12_isFull_b27 N s) else (if x1 = 0 then (FX12_isFull_b15 N s q0 x1 x2 1) else (FX12_isFull_b15 N s q0 x1 x2 0)))
set_option maxRecDepth 10000 in
set_option maxHeartbeats 4000000 in
theorem RX12_isFull {d N nc Ls : Nat} {Xs : Nat → Int32} (hd : 1 ≤ d) {h : iv_H} {s : iv_M} (hR : Rep nc Ls Xs h s) {q0 : Nat} (t0 : T12 nc q0) {m1 : Int32} {x1 : Int} (p1 : m1.toInt = x1) {m2 : Int32} {x2 : Int} (p2 : m2.toInt = x2) {r : Int} {Q : Option Value → iv_H → Prop} (e : FX12_isFull N s q0 x1 x2 = some r) (hq : ∀ (z : Int32), z.toInt = r → Q (some (.int z)) h) : Cl d 233 [.ref q0, .int m1, .int m2] h Q := by
  obtain ⟨d, rfl⟩ : ∃ k, d = k + 1 := ⟨d - 1, by omega⟩
  have hd : 0 ≤ d := by omega
  have hT := hX12_isFull
  unfold FX12_isFull at e
  refine Cl.into (by decide) gX12_isFull rfl ?_
  show Rn d 233 (some .boolean) 0 [some (.ref q0), some (.int m1), some (.int m2)] [] h Q
  refine Rn.n hT 2 (pc' := 3) (L' := [some (.ref q0), some (.int m1), some (.int m2)]) (st' := [.int (40 : Int32), .int m2]) rfl ?_
  by_cases c_2819 : x2 = 40
  · rw [if_pos c_2819] at e
    refine Rn.bt hT rfl rfl rfl (decide_eq_true ((ti_e p2 L32_40).mpr c_2819)) ?_
    exact Rn.weak (ll_n (ll_n (ll_n ll_e))) (RX12_isFull_b27 hd hR hq e)
  · rw [if_neg c_2819] at e
    refine Rn.bf hT rfl rfl rfl (decide_eq_false (fun z => c_2819 ((ti_e p2 L32_40).mp z))) ?_
    refine Rn.n hT 1 (pc' := 7) (L' := [some (.ref q0), some (.int m1), some (.int m2)]) (st' := [.int m1]) rfl ?_
    by_cases c_2820 : x1 = 0
    · rw [if_pos c_2820] at e
      refine Rn.bf hT rfl rfl rfl (decide_eq_false (fun z => z ((ti_e p1 L32_0).mpr c_2820))) ?_
      refine Rn.n hT 2 (pc' := 15) (L' := [some (.ref q0), some (.int m1), some (.int m2)]) (st' := [.int (1 : Int32)]) rfl ?_
      exact Rn.weak (ll_s (ll_s (ll_s ll_e))) (RX12_isFull_b15 hd hR t0 p1 p2 L32_1 hq e)
    · rw [if_neg c_2820] at e
      refine Rn.bt hT rfl rfl rfl (decide_eq_true (fun z => c_2820 ((ti_e p1 L32_0).mp z))) ?_
      refine Rn.n hT 1 (pc' := 15) (L' := [some (.ref q0), some (.int m1), some (.int m2)]) (st' := [.int (0 : Int32)]) rfl ?_
      exact Rn.weak (ll_s (ll_s (ll_s ll_e))) (RX12_isFull_b15 hd hR t0 p1 p2 L32_0 hq e)
set_option maxRecDepth 10000 in
theorem hX12_palaceClause : iv_Tb 234 tX12_palaceClause := iv_tb_of (m := mX12_palaceClause) rfl
set_option maxRecDepth 10000 in
theorem gX12_palaceClause : PG.2 234 = some mX12_palaceClause := iv_pi_of (t := tX12_palaceClause) rfl (by decide)
def FX12_palaceClause_l11 (N : Nat) (q0 : Nat) (x1 : Int) (x2 : Int) (kx : iv_M → Int → Option (iv_M)) : Nat → iv_M → Int → Option (iv_M)
  | 0, _, _ => none
  | n + 1, s, x3 => (if 6 ≤ x3 then (kx s x3) else ((FX12_palaceWord N s x3).bind fun v_2842 => ((FX12_stood N s q0 v_2842).bind fun v_2843 => (if v_2843 = 0 then (FX12_palaceClause_l11 N q0 x1 x2 kx n s (w32 (x3 + 1))) else (kx s x3)))))
set_option maxRecDepth 10000 in
set_option maxHeartbeats 4000000 in
theorem RX12_palaceClause_l11 {d N nc Ls : Nat} {Xs : Nat → Int32} (hd : 11 ≤ d) {q0 : Nat} (t0 : T12 nc q0) {m1 : Int32} {x1 : Int} (p1 : m1.toInt = x1) {m2 : Int32} {x2 : Int} (p2 : m2.toInt = x2) {kx : iv_M → Int → Option (iv_M)} {r : iv_M} {Q : Option Value → iv_H → Prop} (hk : ∀ (h : iv_H) (s : iv_M) (hR : Rep nc Ls Xs h s) (m3 : Int32) (x3 : Int) (p3 : m3.toInt = x3), kx s x3 = some r → Rn d 234 none 34 [some (.ref q0), some (.int m1), some (.int m2), some (.int m3)] [] h Q) (hq : ∀ h1, Rep nc Ls Xs h1 r → Q none h1) : ∀ (n : Nat) (h : iv_H) (s : iv_M) (hR : Rep nc Ls Xs h s) (m3 : Int32) (x3 : Int) (p3 : m3.toInt = x3), FX12_palaceClause_l11 N q0 x1 x2 kx n s x3 = some r → Rn d 234 none 11 [some (.ref q0), some (.int m1), some (.int m2), some (.int m3)] [] h Q := by
  have hT := hX12_palaceClause
  intro n
  induction n with
  | zero =>
    intro h s hR m3 x3 p3 e
    rw [FX12_palaceClause_l11] at e
    cases e
  | succ n ih =>
    intro h s hR m3 x3 p3 e
    rw [FX12_palaceClause_l11] at e
    refine Rn.n hT 2 (pc' := 14) (L' := [some (.ref q0), some (.int m1), some (.int m2), some (.int m3)]) (st' := [.int (6 : Int32), .int m3]) rfl ?_
    by_cases c_2841 : 6 ≤ x3
    · rw [if_pos c_2841] at e
      refine Rn.bt hT rfl rfl rfl (decide_eq_true ((ti_le L32_6 p3).mpr c_2841)) ?_
      exact Rn.weak (ll_s (ll_s (ll_s (ll_s ll_e)))) (hk h s hR m3 x3 p3 e)
    · rw [if_neg c_2841] at e
      refine Rn.bf hT rfl rfl rfl (decide_eq_false (fun z => c_2841 ((ti_le L32_6 p3).mp z))) ?_
      refine Rn.n hT 2 (pc' := 19) (L' := [some (.ref q0), some (.int m1), some (.int m2), some (.int m3)]) (st' := [.int m3, .ref q0]) rfl ?_
      obtain ⟨v_2842, e_2842, e⟩ := Option.bind_eq_some_iff.mp e
      refine Rn.call hT rfl rfl rfl (Nat.le_of_ble_eq_true rfl) rfl (RX12_palaceWord (by omega) hR p3 e_2842 (fun t_2842 => ?_))
      show Rn d _ _ 22 [some (.ref q0), some (.int m1), some (.int m2), some (.int m3)] [.ref v_2842, .ref q0] h Q
      obtain ⟨v_2843, e_2843, e⟩ := Option.bind_eq_some_iff.mp e
      refine Rn.call hT rfl rfl rfl (Nat.le_of_ble_eq_true rfl) (rcv_v gX12_stood (by omega) (rp_ck hR (T12_o t0))) (RX12_stood (by omega) hR t0 t_2842 e_2843 (fun z_2843 p_2843 => ?_))
      show Rn d _ _ 25 [some (.ref q0), some (.int m1), some (.int m2), some (.int m3)] [.int z_2843] h Q
      by_cases c_2844 : v_2843 = 0
      · rw [if_pos c_2844] at e
        refine Rn.bf hT rfl rfl rfl (decide_eq_false (fun z => z ((ti_e p_2843 L32_0).mpr c_2844))) ?_
        refine Rn.n hT 2 (pc' := 11) (L' := [some (.ref q0), some (.int m1), some (.int m2), some (.int (m3 + (1 : Int32)))]) (st' := []) rfl ?_
        exact Rn.weak (ll_s (ll_s (ll_s (ll_s ll_e)))) (ih h s hR (m3 + (1 : Int32)) (w32 (x3 + 1)) (ti_add p3 L32_1) e)
      · rw [if_neg c_2844] at e
        refine Rn.bt hT rfl rfl rfl (decide_eq_true (fun z => c_2844 ((ti_e p_2843 L32_0).mp z))) ?_
        exact Rn.weak (ll_s (ll_s (ll_s (ll_s ll_e)))) (hk h s hR m3 x3 p3 e)
def FX12_palaceClause_b34 (N : Nat) (s : iv_M) (q0 : Nat) (x1 : Int) (x2 : Int) (x3 : Int)  : Option (iv_M) := (if x3 = 6 then ((FX12_fails N s q0 0 x2).bind fun s_2858 => some s_2858) else ((FX12_isFull N s q0 x3 x1).bind fun v_2846 => (if v_2846 = 0 then ((FX12_palaceWord N s x3).bind fun v_2849 => ((pt s q0 29 (w32 ((s q0 29) + (tL v_2849)))).bind fun s_2851 => ((FX12_palacePart N s_2851 q0 x3).bind fun s_2854 => some s_2854))) else ((FX12_fails N s q0 4 x2).bind fun s_2856 => some s_2856))))
set_option maxRecDepth 10000 in
set_option maxHeartbeats 4000000 in
theorem RX12_palaceClause_b34 {d N nc Ls : Nat} {Xs : Nat → Int32} (hd : 11 ≤ d) {h : iv_H} {s : iv_M} (hR : Rep nc Ls Xs h s) {q0 : Nat} (t0 : T12 nc q0) {m1 : Int32} {x1 : Int} (p1 : m1.toInt = x1) {m2 : Int32} {x2 : Int} (p2 : m2.toInt = x2) {m3 : Int32} {x3 : Int} (p3 : m3.toInt = x3)  {r : iv_M} {Q : Option Value → iv_H → Prop} (hq : ∀ h1, Rep nc Ls Xs h1 r → Q none h1) (e : FX12_palaceClause_b34 N s q0 x1 x2 x3  = some r) : Rn d 234 none 34 [some (.ref q0), some (.int m1), some (.int m2), some (.int m3)] [] h Q := by
  have hT := hX12_palaceClause
  unfold FX12_palaceClause_b34 at e
  refine Rn.n hT 2 (pc' := 37) (L' := [some (.ref q0), some (.int m1), some (.int m2), some (.int m3)]) (st' := [.int (6 : Int32), .int m3]) rfl ?_
  by_cases c_2845 : x3 = 6
  · rw [if_pos c_2845] at e
    refine Rn.bf hT rfl rfl rfl (decide_eq_false (fun z => z ((ti_e p3 L32_6).mpr c_2845))) ?_
    refine Rn.n hT 3 (pc' := 43) (L' := [some (.ref q0), some (.int m1), some (.int m2), some (.int m3)]) (st' := [.int m2, .int (0 : Int32), .ref q0]) rfl ?_
    obtain ⟨s_2858, e_2857, e⟩ := Option.bind_eq_some_iff.mp e
    refine Rn.call hT rfl rfl rfl (Nat.le_of_ble_eq_true rfl) (rcv_v gX12_fails (by omega) (rp_ck hR (T12_o t0))) (RX12_fails (by omega) hR t0 L32_0 p2 e_2857 (fun h_2858 R_2858 => ?_))
    show Rn d _ _ 46 [some (.ref q0), some (.int m1), some (.int m2), some (.int m3)] [] h_2858 Q
    obtain rfl := Option.some.inj e
    exact Rn.ret hT rfl rfl rfl (hq h_2858 R_2858)
  · rw [if_neg c_2845] at e
    refine Rn.bt hT rfl rfl rfl (decide_eq_true (fun z => c_2845 ((ti_e p3 L32_6).mp z))) ?_
    refine Rn.n hT 3 (pc' := 50) (L' := [some (.ref q0), some (.int m1), some (.int m2), some (.int m3)]) (st' := [.int m1, .int m3, .ref q0]) rfl ?_
    obtain ⟨v_2846, e_2846, e⟩ := Option.bind_eq_some_iff.mp e
    refine Rn.call hT rfl rfl rfl (Nat.le_of_ble_eq_true rfl) (rcv_v gX12_isFull (by omega) (rp_ck hR (T12_o t0))) (RX12_isFull (by omega) hR t0 p3 p1 e_2846 (fun z_2846 p_2846 => ?_))
    show Rn d _ _ 53 [some (.ref q0), some (.int m1), some (.int m2), some (.int m3)] [.int z_2846] h Q
    by_cases c_2847 : v_2846 = 0
    · rw [if_pos c_2847] at e
      refine Rn.bt hT rfl rfl rfl (decide_eq_true ((ti_e p_2846 L32_0).mpr c_2847)) ?_
      refine Rn.n hT 2 (pc' := 65) (L' := [some (.ref q0), some (.int m1), some (.int m2), some (.int m3)]) (st' := [.ref q0, .ref q0]) rfl ?_
      obtain ⟨z_2848, g_2848, p_2848⟩ : ∃ z : Int32, gI h 12 29 q0 = some z ∧ z.toInt = s q0 29 := rp_gI (k := 29) hR (T12_o t0) rfl
      refine Rn.hp hT rfl rfl (gI_hp g_2848) ?_
      refine Rn.n hT 1 (pc' := 69) (L' := [some (.ref q0), some (.int m1), some (.int m2), some (.int m3)]) (st' := [.int m3, .int z_2848, .ref q0]) rfl ?_
      obtain ⟨v_2849, e_2849, e⟩ := Option.bind_eq_some_iff.mp e
      refine Rn.call hT rfl rfl rfl (Nat.le_of_ble_eq_true rfl) rfl (RX12_palaceWord (by omega) hR p3 e_2849 (fun t_2849 => ?_))
      show Rn d _ _ 72 [some (.ref q0), some (.int m1), some (.int m2), some (.int m3)] [.ref v_2849, .int z_2848, .ref q0] h Q
      obtain ⟨z_2850, g_2850, p_2850⟩ := rp_sL hR t_2849
      refine Rn.call hT rfl rfl rfl (Nat.le_of_ble_eq_true rfl) rfl (sL_cl (by omega) g_2850 ?_)
      show Rn d _ _ 75 [some (.ref q0), some (.int m1), some (.int m2), some (.int m3)] [.int z_2850, .int z_2848, .ref q0] h Q
      refine Rn.n hT 1 (pc' := 76) (L' := [some (.ref q0), some (.int m1), some (.int m2), some (.int m3)]) (st' := [.int (z_2848 + z_2850), .ref q0]) rfl ?_
      obtain ⟨s_2851, e_2852, e⟩ := Option.bind_eq_some_iff.mp e
      obtain ⟨h_2851, g_2852, R_2851⟩ := rp_pI (ci := 12) (k := 29) hR (T12_o t0) rfl rfl (ti_add p_2848 p_2850) e_2852
      refine Rn.hp hT rfl rfl (pV_hp rfl g_2852) ?_
      refine Rn.n hT 2 (pc' := 81) (L' := [some (.ref q0), some (.int m1), some (.int m2), some (.int m3)]) (st' := [.int m3, .ref q0]) rfl ?_
      obtain ⟨s_2854, e_2853, e⟩ := Option.bind_eq_some_iff.mp e
      refine Rn.call hT rfl rfl rfl (Nat.le_of_ble_eq_true rfl) (rcv_v gX12_palacePart (by omega) (rp_ck R_2851 (T12_o t0))) (RX12_palacePart (by omega) R_2851 t0 p3 e_2853 (fun h_2854 R_2854 => ?_))
      show Rn d _ _ 84 [some (.ref q0), some (.int m1), some (.int m2), some (.int m3)] [] h_2854 Q
      obtain rfl := Option.some.inj e
      exact Rn.ret hT rfl rfl rfl (hq h_2854 R_2854)
    · rw [if_neg c_2847] at e
      refine Rn.bf hT rfl rfl rfl (decide_eq_false (fun z => c_2847 ((ti_e p_2846 L32_0).mp z))) ?_
      refine Rn.n hT 3 (pc' := 59) (L' := [some (.ref q0), some (.int m1), some (.int m2), some (.int m3)]) (st' := [.int m2, .int (4 : Int32), .ref q0]) rfl ?_
      obtain ⟨s_2856, e_2855, e⟩ := Option.bind_eq_some_iff.mp e
      refine Rn.call hT rfl rfl rfl (Nat.le_of_ble_eq_true rfl) (rcv_v gX12_fails (by omega) (rp_ck hR (T12_o t0))) (RX12_fails (by omega) hR t0 L32_4 p2 e_2855 (fun h_2856 R_2856 => ?_))
      show Rn d _ _ 62 [some (.ref q0), some (.int m1), some (.int m2), some (.int m3)] [] h_2856 Q
      obtain rfl := Option.some.inj e
      exact Rn.ret hT rfl rfl rfl (hq h_2856 R_2856)
def FX12_palaceClause (N : Nat) (s : iv_M) (q0 : Nat) (x1 : Int) : Option (iv_M) := ((FX12_blanks N s q0).bind fun s_2837 => (FX12_palaceClause_l11 N q0 x1 (s_2837 q0 29) (fun (s_2839 : iv_M) (x2840_3 : Int) => (FX12_palaceClause_b34 N s_2839 q0 x1 (s_2837 q0 29) x2840_3)) N s_2837 0))
set_option maxRecDepth 10000 in
set_option maxHeartbeats 4000000 in
theorem RX12_palaceClause {d N nc Ls : Nat} {Xs : Nat → Int32} (hd : 12 ≤ d) {h : iv_H} {s : iv_M} (hR : Rep nc Ls Xs h s) {q0 : Nat} (t0 : T12 nc q0) {m1 : Int32} {x1 : Int} (p1 : m1.toInt = x1) {r : iv_M} {Q : Option Value → iv_H → Prop} (e : FX12_palaceClause N s q0 x1 = some r) (hq : ∀ h1, Rep nc Ls Xs h1 r → Q none h1) : Cl d 234 [.ref q0, .int m1] h Q := by
  obtain ⟨d, rfl⟩ : ∃ k, d = k + 1 := ⟨d - 1, by omega⟩
  have hd : 11 ≤ d := by omega
  have hT := hX12_palaceClause
  unfold FX12_palaceClause at e
  refine Cl.into (by decide) gX12_palaceClause rfl ?_
  show Rn d 234 none 0 [some (.ref q0), some (.int m1), none, none] [] h Q
  refine Rn.n hT 1 (pc' := 1) (L' := [some (.ref q0), some (.int m1), none, none]) (st' := [.ref q0]) rfl ?_
  obtain ⟨s_2837, e_2836, e⟩ := Option.bind_eq_some_iff.mp e
  refine Rn.call hT rfl rfl rfl (Nat.le_of_ble_eq_true rfl) (rcv_v gX12_blanks (by omega) (rp_ck hR (T12_o t0))) (RX12_blanks (by omega) hR t0 e_2836 (fun h_2837 R_2837 => ?_))
  show Rn d _ _ 4 [some (.ref q0), some (.int m1), none, none] [] h_2837 Q
  refine Rn.n hT 1 (pc' := 5) (L' := [some (.ref q0), some (.int m1), none, none]) (st' := [.ref q0]) rfl ?_
  obtain ⟨z_2838, g_2838, p_2838⟩ : ∃ z : Int32, gI h_2837 12 29 q0 = some z ∧ z.toInt = s_2837 q0 29 := rp_gI (k := 29) R_2837 (T12_o t0) rfl
  refine Rn.hp hT rfl rfl (gI_hp g_2838) ?_
  refine Rn.n hT 3 (pc' := 11) (L' := [some (.ref q0), some (.int m1), some (.int z_2838), some (.int (0 : Int32))]) (st' := []) rfl ?_
  refine Rn.weak (ll_s (ll_s (ll_s (ll_s ll_e)))) (RX12_palaceClause_l11 hd t0 p1 p_2838 (fun h_2839 s_2839 R_2839 m2840_3 x2840_3 p2840_3 e => ?_) hq N h_2837 s_2837 R_2837 (0 : Int32) 0 L32_0 e)
  try dsimp only at e
  exact Rn.weak (ll_s (ll_s (ll_s (ll_s ll_e)))) (RX12_palaceClause_b34 hd R_2839 t0 p1 p_2838 p2840_3 hq e)
set_option maxRecDepth 10000 in
theorem hX12_copies : iv_Tb 235 tX12_copies := iv_tb_of (m := mX12_copies) rfl
set_option maxRecDepth 10000 in
theorem gX12_copies : PG.2 235 = some mX12_copies := iv_pi_of (t := tX12_copies) rfl (by decide)
def FX12_copies_l2 (N : Nat) (q0 : Nat) (q1 : Nat) (kx : iv_M → Option (iv_M)) : Nat → iv_M → Int → Option (iv_M)
  | 0, _, _ => none
  | n + 1, s, x2 => (if ((sh q0).2 : Int) ≤ x2 then (kx s) else ((rd s q0 ((sh q0).2 : Int) x2).bind fun v_2863 => ((wr s q1 ((sh q1).2 : Int) x2 v_2863).bind fun s_2864 => (FX12_copies_l2 N q0 q1 kx n s_2864 (w32 (x2 + 1))))))
set_option maxRecDepth 10000 in
set_option maxHeartbeats 4000000 in
theorem RX12_copies_l2 {d N nc Ls : Nat} {Xs : Nat → Int32} (hd : 0 ≤ d) {q0 : Nat} (t0 : TA 0 nc q0) {q1 : Nat} (t1 : TA 0 nc q1) {kx : iv_M → Option (iv_M)} {r : iv_M} {Q : Option Value → iv_H → Prop} (hk : ∀ (h : iv_H) (s : iv_M) (hR : Rep nc Ls Xs h s), kx s = some r → Rn d 235 none 20 [none, none, none] [] h Q) (hq : ∀ h1, Rep nc Ls Xs h1 r → Q none h1) : ∀ (n : Nat) (h : iv_H) (s : iv_M) (hR : Rep nc Ls Xs h s) (m2 : Int32) (x2 : Int) (p2 : m2.toInt = x2), FX12_copies_l2 N q0 q1 kx n s x2 = some r → Rn d 235 none 2 [some (.ref q0), some (.ref q1), some (.int m2)] [] h Q := by
  have hT := hX12_copies
  intro n
  induction n with
  | zero =>
    intro h s hR m2 x2 p2 e
    rw [FX12_copies_l2] at e
    cases e
  | succ n ih =>
    intro h s hR m2 x2 p2 e
    rw [FX12_copies_l2] at e
    refine Rn.n hT 2 (pc' := 4) (L' := [some (.ref q0), some (.ref q1), some (.int m2)]) (st' := [.ref q0, .int m2]) rfl ?_
    obtain ⟨z_2861, g_2861, p_2861⟩ : ∃ z : Int32, aL h q0 = some z ∧ z.toInt = ((sh q0).2 : Int) := rp_aL hR t0 (Or.inl rfl) rfl
    refine Rn.hp hT rfl rfl (aL_hp g_2861) ?_
    by_cases c_2862 : ((sh q0).2 : Int) ≤ x2
    · rw [if_pos c_2862] at e
      refine Rn.bt hT rfl rfl rfl (decide_eq_true ((ti_le p_2861 p2).mpr c_2862)) ?_
      exact Rn.weak (ll_n (ll_n (ll_n ll_e))) (hk h s hR e)
    · rw [if_neg c_2862] at e
      refine Rn.bf hT rfl rfl rfl (decide_eq_false (fun z => c_2862 ((ti_le p_2861 p2).mp z))) ?_
      refine Rn.n hT 4 (pc' := 12) (L' := [some (.ref q0), some (.ref q1), some (.int m2)]) (st' := [.int m2, .ref q0, .int m2, .ref q1]) rfl ?_
      obtain ⟨v_2863, e_2863, e⟩ := Option.bind_eq_some_iff.mp e
      obtain ⟨z_2863, g_2863, p_2863⟩ := rp_aI hR t0 rfl p2 e_2863
      refine Rn.hp hT rfl rfl (aI_hp g_2863) ?_
      obtain ⟨s_2864, e_2865, e⟩ := Option.bind_eq_some_iff.mp e
      obtain ⟨h_2864, g_2865, R_2864⟩ := rp_wI hR t1 rfl p2 p_2863 e_2865
      refine Rn.hp hT rfl rfl (wI_hp g_2865) ?_
      refine Rn.n hT 2 (pc' := 2) (L' := [some (.ref q0), some (.ref q1), some (.int (m2 + (1 : Int32)))]) (st' := []) rfl ?_
      exact Rn.weak (ll_s (ll_s (ll_s ll_e))) (ih h_2864 s_2864 R_2864 (m2 + (1 : Int32)) (w32 (x2 + 1)) (ti_add p2 L32_1) e)
def FX12_copies (N : Nat) (s : iv_M) (q0 : Nat) (q1 : Nat) : Option (iv_M) := (FX12_copies_l2 N q0 q1 (fun (s_2859 : iv_M) => some s_2859) N s 0)
set_option maxRecDepth 10000 in
set_option maxHeartbeats 4000000 in
theorem RX12_copies {d N nc Ls : Nat} {Xs : Nat → Int32} (hd : 1 ≤ d) {h : iv_H} {s : iv_M} (hR : Rep nc Ls Xs h s) {q0 : Nat} (t0 : TA 0 nc q0) {q1 : Nat} (t1 : TA 0 nc q1) {r : iv_M} {Q : Option Value → iv_H → Prop} (e : FX12_copies N s q0 q1 = some r) (hq : ∀ h1, Rep nc Ls Xs h1 r → Q none h1) : Cl d 235 [.ref q0, .ref q1] h Q := by
  obtain ⟨d, rfl⟩ : ∃ k, d = k + 1 := ⟨d - 1, by omega⟩
  have hd : 0 ≤ d := by omega
  have hT := hX12_copies
  unfold FX12_copies at e
  refine Cl.into (by decide) gX12_copies rfl ?_
  show Rn d 235 none 0 [some (.ref q0), some (.ref q1), none] [] h Q
  refine Rn.n hT 2 (pc' := 2) (L' := [some (.ref q0), some (.ref q1), some (.int (0 : Int32))]) (st' := []) rfl ?_
  refine Rn.weak (ll_s (ll_s (ll_s ll_e))) (RX12_copies_l2 hd t0 t1 (fun h_2859 s_2859 R_2859 e => ?_) hq N h s hR (0 : Int32) 0 L32_0 e)
  try dsimp only at e
  obtain rfl := Option.some.inj e
  exact Rn.ret hT rfl rfl rfl (hq h_2859 R_2859)
set_option maxRecDepth 10000 in
theorem hX12_goesOn : iv_Tb 236 tX12_goesOn := iv_tb_of (m := mX12_goesOn) rfl
set_option maxRecDepth 10000 in
theorem gX12_goesOn : PG.2 236 = some mX12_goesOn := iv_pi_of (t := tX12_goesOn) rfl (by decide)
def FX12_goesOn_b63 (N : Nat) (s : iv_M) (q0 : Nat) (xs0 : Int) : Option (Int × iv_M) := ((pt s q0 29 (w32 ((s q0 29) + 1))).bind fun s_2884 => (if xs0 = 0 ∨ xs0 = 1 then some (xs0, s_2884) else none))
set_option maxRecDepth 10000 in
set_option maxHeartbeats 4000000 in
theorem RX12_goesOn_b63 {d N nc Ls : Nat} {Xs : Nat → Int32} (hd : 2 ≤ d) {h : iv_H} {s : iv_M} (hR : Rep nc Ls Xs h s) {q0 : Nat} (t0 : T12 nc q0) {ms0 : Int32} {xs0 : Int} (ps0 : ms0.toInt = xs0) {r : Int × iv_M} {Q : Option Value → iv_H → Prop} (hq : ∀ (z : Int32) (h1 : iv_H), z.toInt = r.1 → Rep nc Ls Xs h1 r.2 → Q (some (.int z)) h1) (e : FX12_goesOn_b63 N s q0 xs0 = some r) : Rn d 236 (some .boolean) 63 [some (.ref q0), none] [.int ms0] h Q := by
  have hT := hX12_goesOn
  unfold FX12_goesOn_b63 at e
  refine Rn.n hT 3 (pc' := 66) (L' := [some (.ref q0), some (.int ms0)]) (st' := [.ref q0, .ref q0]) rfl ?_
  obtain ⟨z_2883, g_2883, p_2883⟩ : ∃ z : Int32, gI h 12 29 q0 = some z ∧ z.toInt = s q0 29 := rp_gI (k := 29) hR (T12_o t0) rfl
  refine Rn.hp hT rfl rfl (gI_hp g_2883) ?_
  refine Rn.n hT 2 (pc' := 71) (L' := [some (.ref q0), some (.int ms0)]) (st' := [.int (z_2883 + (1 : Int32)), .ref q0]) rfl ?_
  obtain ⟨s_2884, e_2885, e⟩ := Option.bind_eq_some_iff.mp e
  obtain ⟨h_2884, g_2885, R_2884⟩ := rp_pI (ci := 12) (k := 29) hR (T12_o t0) rfl rfl (ti_add p_2883 L32_1) e_2885
  refine Rn.hp hT rfl rfl (pV_hp rfl g_2885) ?_
  refine Rn.n hT 1 (pc' := 75) (L' := [some (.ref q0), some (.int ms0)]) (st' := [.int ms0]) rfl ?_
  by_cases c_2886 : xs0 = 0 ∨ xs0 = 1
  · rw [if_pos c_2886] at e
    obtain rfl := Option.some.inj e
    exact Rn.ret hT rfl rfl (if_pos (ti_b ps0 c_2886)) (hq ms0 h_2884 ps0 R_2884)
  · rw [if_neg c_2886] at e
    cases e
def FX12_goesOn_b62 (N : Nat) (s : iv_M) (q0 : Nat)  : Option (Int × iv_M) := (FX12_goesOn_b63 N s q0 0)
set_option maxRecDepth 10000 in
set_option maxHeartbeats 4000000 in
theorem RX12_goesOn_b62 {d N nc Ls : Nat} {Xs : Nat → Int32} (hd : 2 ≤ d) {h : iv_H} {s : iv_M} (hR : Rep nc Ls Xs h s) {q0 : Nat} (t0 : T12 nc q0)  {r : Int × iv_M} {Q : Option Value → iv_H → Prop} (hq : ∀ (z : Int32) (h1 : iv_H), z.toInt = r.1 → Rep nc Ls Xs h1 r.2 → Q (some (.int z)) h1) (e : FX12_goesOn_b62 N s q0  = some r) : Rn d 236 (some .boolean) 62 [some (.ref q0), none] [] h Q := by
  have hT := hX12_goesOn
  unfold FX12_goesOn_b62 at e
  refine Rn.n hT 1 (pc' := 63) (L' := [some (.ref q0), none]) (st' := [.int (0 : Int32)]) rfl ?_
  exact Rn.weak (ll_s (ll_n ll_e)) (RX12_goesOn_b63 hd hR t0 L32_0 hq e)
def FX12_goesOn_b40 (N : Nat) (s : iv_M) (q0 : Nat)  : Option (Int × iv_M) := (if (s q0 30) = 0 then (if (s q0 28) ≤ (s q0 29) then (FX12_goesOn_b62 N s q0) else (FX12_goesOn_b63 N s q0 1)) else (FX12_goesOn_b62 N s q0))
set_option maxRecDepth 10000 in
set_option maxHeartbeats 4000000 in
theorem RX12_goesOn_b40 {d N nc Ls : Nat} {Xs : Nat → Int32} (hd : 2 ≤ d) {h : iv_H} {s : iv_M} (hR : Rep nc Ls Xs h s) {q0 : Nat} (t0 : T12 nc q0)  {r : Int × iv_M} {Q : Option Value → iv_H → Prop} (hq : ∀ (z : Int32) (h1 : iv_H), z.toInt = r.1 → Rep nc Ls Xs h1 r.2 → Q (some (.int z)) h1) (e : FX12_goesOn_b40 N s q0  = some r) : Rn d 236 (some .boolean) 40 [some (.ref q0), none] [] h Q := by
  have hT := hX12_goesOn
  unfold FX12_goesOn_b40 at e
  refine Rn.n hT 1 (pc' := 41) (L' := [some (.ref q0), none]) (st' := [.ref q0]) rfl ?_
  obtain ⟨z_2878, g_2878, p_2878⟩ : ∃ z : Int32, gI h 12 30 q0 = some z ∧ z.toInt = s q0 30 := rp_gI (k := 30) hR (T12_o t0) rfl
  refine Rn.hp hT rfl rfl (gI_hp g_2878) ?_
  by_cases c_2879 : (s q0 30) = 0
  · rw [if_pos c_2879] at e
    refine Rn.bf hT rfl rfl rfl (decide_eq_false (fun z => z ((ti_e p_2878 L32_0).mpr c_2879))) ?_
    refine Rn.n hT 1 (pc' := 48) (L' := [some (.ref q0), none]) (st' := [.ref q0]) rfl ?_
    obtain ⟨z_2880, g_2880, p_2880⟩ : ∃ z : Int32, gI h 12 29 q0 = some z ∧ z.toInt = s q0 29 := rp_gI (k := 29) hR (T12_o t0) rfl
    refine Rn.hp hT rfl rfl (gI_hp g_2880) ?_
    refine Rn.n hT 1 (pc' := 52) (L' := [some (.ref q0), none]) (st' := [.ref q0, .int z_2880]) rfl ?_
    obtain ⟨z_2881, g_2881, p_2881⟩ : ∃ z : Int32, gI h 12 28 q0 = some z ∧ z.toInt = s q0 28 := rp_gI (k := 28) hR (T12_o t0) rfl
    refine Rn.hp hT rfl rfl (gI_hp g_2881) ?_
    by_cases c_2882 : (s q0 28) ≤ (s q0 29)
    · rw [if_pos c_2882] at e
      refine Rn.bt hT rfl rfl rfl (decide_eq_true ((ti_le p_2881 p_2880).mpr c_2882)) ?_
      exact Rn.weak (ll_s (ll_n ll_e)) (RX12_goesOn_b62 hd hR t0 hq e)
    · rw [if_neg c_2882] at e
      refine Rn.bf hT rfl rfl rfl (decide_eq_false (fun z => c_2882 ((ti_le p_2881 p_2880).mp z))) ?_
      refine Rn.n hT 2 (pc' := 63) (L' := [some (.ref q0), none]) (st' := [.int (1 : Int32)]) rfl ?_
      exact Rn.weak (ll_s (ll_n ll_e)) (RX12_goesOn_b63 hd hR t0 L32_1 hq e)
  · rw [if_neg c_2879] at e
    refine Rn.bt hT rfl rfl rfl (decide_eq_true (fun z => c_2879 ((ti_e p_2878 L32_0).mp z))) ?_
    exact Rn.weak (ll_s (ll_n ll_e)) (RX12_goesOn_b62 hd hR t0 hq e)
def FX12_goesOn (N : Nat) (s : iv_M) (q0 : Nat) : Option (Int × iv_M) := ((FX12_blanks N s q0).bind fun s_2867 => (if (s_2867 q0 30) = 0 then (if (s_2867 q0 28) ≤ (s_2867 q0 29) then (FX12_goesOn_b40 N s_2867 q0) else ((FX12_sign N s_2867 q0).bind fun v_2873 => (if v_2873 = 59 then (FX12_goesOn_b40 N s_2867 q0) else ((FX12_fails N s_2867 q0 0 (s_2867 q0 29)).bind fun s_2877 => (FX12_goesOn_b40 N s_2877 q0))))) else (FX12_goesOn_b40 N s_2867 q0)))
set_option maxRecDepth 10000 in
set_option maxHeartbeats 4000000 in
theorem RX12_goesOn {d N nc Ls : Nat} {Xs : Nat → Int32} (hd : 3 ≤ d) {h : iv_H} {s : iv_M} (hR : Rep nc Ls Xs h s) {q0 : Nat} (t0 : T12 nc q0) {r : Int × iv_M} {Q : Option Value → iv_H → Prop} (e : FX12_goesOn N s q0 = some r) (hq : ∀ (z : Int32) (h1 : iv_H), z.toInt = r.1 → Rep nc Ls Xs h1 r.2 → Q (some (.int z)) h1) : Cl d 236 [.ref q0] h Q := by
  obtain ⟨d, rfl⟩ : ∃ k, d = k + 1 := ⟨d - 1, by omega⟩
  have hd : 2 ≤ d := by omega
  have hT := hX12_goesOn
  unfold FX12_goesOn at e
  refine Cl.into (by decide) gX12_goesOn rfl ?_
  show Rn d 236 (some .boolean) 0 [some (.ref q0), none] [] h Q
  refine Rn.n hT 1 (pc' := 1) (L' := [some (.ref q0), none]) (st' := [.ref q0]) rfl ?_
  obtain ⟨s_2867, e_2866, e⟩ := Option.bind_eq_some_iff.mp e
  refine Rn.call hT rfl rfl rfl (Nat.le_of_ble_eq_true rfl) (rcv_v gX12_blanks (by omega) (rp_ck hR (T12_o t0))) (RX12_blanks (by omega) hR t0 e_2866 (fun h_2867 R_2867 => ?_))
  show Rn d _ _ 4 [some (.ref q0), none] [] h_2867 Q
  refine Rn.n hT 1 (pc' := 5) (L' := [some (.ref q0), none]) (st' := [.ref q0]) rfl ?_
  obtain ⟨z_2868, g_2868, p_2868⟩ : ∃ z : Int32, gI h_2867 12 30 q0 = some z ∧ z.toInt = s_2867 q0 30 := rp_gI (k := 30) R_2867 (T12_o t0) rfl
  refine Rn.hp hT rfl rfl (gI_hp g_2868) ?_
  by_cases c_2869 : (s_2867 q0 30) = 0
  · rw [if_pos c_2869] at e
    refine Rn.bf hT rfl rfl rfl (decide_eq_false (fun z => z ((ti_e p_2868 L32_0).mpr c_2869))) ?_
    refine Rn.n hT 1 (pc' := 12) (L' := [some (.ref q0), none]) (st' := [.ref q0]) rfl ?_
    obtain ⟨z_2870, g_2870, p_2870⟩ : ∃ z : Int32, gI h_2867 12 29 q0 = some z ∧ z.toInt = s_2867 q0 29 := rp_gI (k := 29) R_2867 (T12_o t0) rfl
    refine Rn.hp hT rfl rfl (gI_hp g_2870) ?_
    refine Rn.n hT 1 (pc' := 16) (L' := [some (.ref q0), none]) (st' := [.ref q0, .int z_2870]) rfl ?_
    obtain ⟨z_2871, g_2871, p_2871⟩ : ∃ z : Int32, gI h_2867 12 28 q0 = some z ∧ z.toInt = s_2867 q0 28 := rp_gI (k := 28) R_2867 (T12_o t0) rfl
    refine Rn.hp hT rfl rfl (gI_hp g_2871) ?_
    by_cases c_2872 : (s_2867 q0 28) ≤ (s_2867 q0 29)
    · rw [if_pos c_2872] at e
      refine Rn.bt hT rfl rfl rfl (decide_eq_true ((ti_le p_2871 p_2870).mpr c_2872)) ?_
      exact Rn.weak (ll_s (ll_n ll_e)) (RX12_goesOn_b40 hd R_2867 t0 hq e)
    · rw [if_neg c_2872] at e
      refine Rn.bf hT rfl rfl rfl (decide_eq_false (fun z => c_2872 ((ti_le p_2871 p_2870).mp z))) ?_
      refine Rn.n hT 1 (pc' := 23) (L' := [some (.ref q0), none]) (st' := [.ref q0]) rfl ?_
      obtain ⟨v_2873, e_2873, e⟩ := Option.bind_eq_some_iff.mp e
      refine Rn.call hT rfl rfl rfl (Nat.le_of_ble_eq_true rfl) (rcv_v gX12_sign (by omega) (rp_ck R_2867 (T12_o t0))) (RX12_sign (by omega) R_2867 t0 e_2873 (fun z_2873 p_2873 => ?_))
      show Rn d _ _ 26 [some (.ref q0), none] [.int z_2873] h_2867 Q
      refine Rn.n hT 1 (pc' := 28) (L' := [some (.ref q0), none]) (st' := [.int (59 : Int32), .int z_2873]) rfl ?_
      by_cases c_2874 : v_2873 = 59
      · rw [if_pos c_2874] at e
        refine Rn.bt hT rfl rfl rfl (decide_eq_true ((ti_e p_2873 L32_59).mpr c_2874)) ?_
        exact Rn.weak (ll_s (ll_n ll_e)) (RX12_goesOn_b40 hd R_2867 t0 hq e)
      · rw [if_neg c_2874] at e
        refine Rn.bf hT rfl rfl rfl (decide_eq_false (fun z => c_2874 ((ti_e p_2873 L32_59).mp z))) ?_
        refine Rn.n hT 3 (pc' := 34) (L' := [some (.ref q0), none]) (st' := [.ref q0, .int (0 : Int32), .ref q0]) rfl ?_
        obtain ⟨z_2875, g_2875, p_2875⟩ : ∃ z : Int32, gI h_2867 12 29 q0 = some z ∧ z.toInt = s_2867 q0 29 := rp_gI (k := 29) R_2867 (T12_o t0) rfl
        refine Rn.hp hT rfl rfl (gI_hp g_2875) ?_
        obtain ⟨s_2877, e_2876, e⟩ := Option.bind_eq_some_iff.mp e
        refine Rn.call hT rfl rfl rfl (Nat.le_of_ble_eq_true rfl) (rcv_v gX12_fails (by omega) (rp_ck R_2867 (T12_o t0))) (RX12_fails (by omega) R_2867 t0 L32_0 p_2875 e_2876 (fun h_2877 R_2877 => ?_))
        show Rn d _ _ 40 [some (.ref q0), none] [] h_2877 Q
        exact Rn.weak (ll_s (ll_n ll_e)) (RX12_goesOn_b40 hd R_2877 t0 hq e)
  · rw [if_neg c_2869] at e
    refine Rn.bt hT rfl rfl rfl (decide_eq_true (fun z => c_2869 ((ti_e p_2868 L32_0).mp z))) ?_
    exact Rn.weak (ll_s (ll_n ll_e)) (RX12_goesOn_b40 hd R_2867 t0 hq e)
set_option maxRecDepth 10000 in
theorem hX12_starts : iv_Tb 237 tX12_starts := iv_tb_of (m := mX12_starts) rfl
set_option maxRecDepth 10000 in
theorem gX12_starts : PG.2 237 = some mX12_starts := iv_pi_of (t := tX12_starts) rfl (by decide)
def FX12_starts (N : Nat) (s : iv_M) (q0 : Nat) : Option (iv_M) := ((pt s q0 29 0).bind fun s_2887 => ((pt s_2887 q0 30 0).bind fun s_2889 => ((pt s_2889 q0 33 0).bind fun s_2891 => ((pt s_2891 q0 34 0).bind fun s_2893 => ((pt s_2893 q0 35 0).bind fun s_2895 => some s_2895)))))
set_option maxRecDepth 10000 in
set_option maxHeartbeats 4000000 in
theorem RX12_starts {d N nc Ls : Nat} {Xs : Nat → Int32} (hd : 1 ≤ d) {h : iv_H} {s : iv_M} (hR : Rep nc Ls Xs h s) {q0 : Nat} (t0 : T12 nc q0) {r : iv_M} {Q : Option Value → iv_H → Prop} (e : FX12_starts N s q0 = some r) (hq : ∀ h1, Rep nc Ls Xs h1 r → Q none h1) : Cl d 237 [.ref q0] h Q := by
  obtain ⟨d, rfl⟩ : ∃ k, d = k + 1 := ⟨d - 1, by omega⟩
  have hd : 0 ≤ d := by omega
  have hT := hX12_starts
  unfold FX12_starts at e
  refine Cl.into (by decide) gX12_starts rfl ?_
  show Rn d 237 none 0 [some (.ref q0)] [] h Q
  refine Rn.n hT 2 (pc' := 2) (L' := [some (.ref q0)]) (st' := [.int (0 : Int32), .ref q0]) rfl ?_
  obtain ⟨s_2887, e_2888, e⟩ := Option.bind_eq_some_iff.mp e
  obtain ⟨h_2887, g_2888, R_2887⟩ := rp_pI (ci := 12) (k := 29) hR (T12_o t0) rfl rfl L32_0 e_2888
  refine Rn.hp hT rfl rfl (pV_hp rfl g_2888) ?_
  refine Rn.n hT 2 (pc' := 7) (L' := [some (.ref q0)]) (st' := [.int (0 : Int32), .ref q0]) rfl ?_
  obtain ⟨s_2889, e_2890, e⟩ := Option.bind_eq_some_iff.mp e
  obtain ⟨h_2889, g_2890, R_2889⟩ := rp_pI (ci := 12) (k := 30) R_2887 (T12_o t0) rfl rfl L32_0 e_2890
  refine Rn.hp hT rfl rfl (pV_hp rfl g_2890) ?_
  refine Rn.n hT 2 (pc' := 12) (L' := [some (.ref q0)]) (st' := [.int (0 : Int32), .ref q0]) rfl ?_
  obtain ⟨s_2891, e_2892, e⟩ := Option.bind_eq_some_iff.mp e
  obtain ⟨h_2891, g_2892, R_2891⟩ := rp_pI (ci := 12) (k := 33) R_2889 (T12_o t0) rfl rfl L32_0 e_2892
  refine Rn.hp hT rfl rfl (pV_hp rfl g_2892) ?_
  refine Rn.n hT 2 (pc' := 17) (L' := [some (.ref q0)]) (st' := [.int (0 : Int32), .ref q0]) rfl ?_
  obtain ⟨s_2893, e_2894, e⟩ := Option.bind_eq_some_iff.mp e
  obtain ⟨h_2893, g_2894, R_2893⟩ := rp_pI (ci := 12) (k := 34) R_2891 (T12_o t0) rfl rfl L32_0 e_2894
  refine Rn.hp hT rfl rfl (pV_hp rfl g_2894) ?_
  refine Rn.n hT 2 (pc' := 22) (L' := [some (.ref q0)]) (st' := [.int (0 : Int32), .ref q0]) rfl ?_
  obtain ⟨s_2895, e_2896, e⟩ := Option.bind_eq_some_iff.mp e
  obtain ⟨h_2895, g_2896, R_2895⟩ := rp_pI (ci := 12) (k := 35) R_2893 (T12_o t0) rfl rfl L32_0 e_2896
  refine Rn.hp hT rfl rfl (pV_hp rfl g_2896) ?_
  obtain rfl := Option.some.inj e
  exact Rn.ret hT rfl rfl rfl (hq h_2895 R_2895)
