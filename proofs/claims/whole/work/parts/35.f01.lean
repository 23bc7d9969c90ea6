-- FLAT MIRRORS, 1 (written by wip/whole/mir2.py)
set_option maxRecDepth 10000 in
theorem hX1_border : iv_Tb 29 tX1_border := iv_tb_of (m := mX1_border) rfl
set_option maxRecDepth 10000 in
theorem gX1_border : PG.2 29 = some mX1_border := iv_pi_of (t := tX1_border) rfl (by decide)
def FX1_border_b83 (N : Nat) (s : iv_M)  (xs0 : Int) : Option (Int) := (some xs0)
set_option maxRecDepth 10000 in
set_option maxHeartbeats 4000000 in
theorem RX1_border_b83 {d N nc Ls : Nat} {Xs : Nat → Int32} (hd : 0 ≤ d) {h : iv_H} {s : iv_M} (hR : Rep nc Ls Xs h s)  {ms0 : Int32} {xs0 : Int} (ps0 : ms0.toInt = xs0) {r : Int} {Q : Option Value → iv_H → Prop} (hq : ∀ (z : Int32), z.toInt = r → Q (some (.int z)) h) (e : FX1_border_b83 N s  xs0 = some r) : Rn d 29 (some .int) 83 [none, none, none, none, none, none] [.int ms0] h Q := by
  have hT := hX1_border
  unfold FX1_border_b83 at e
  obtain rfl := Option.some.inj e
  exact Rn.ret hT rfl rfl rfl (hq ms0 ps0)
def FX1_border_b78 (N : Nat) (s : iv_M)   : Option (Int) := (FX1_border_b83 N s 1)
set_option maxRecDepth 10000 in
set_option maxHeartbeats 4000000 in
theorem RX1_border_b78 {d N nc Ls : Nat} {Xs : Nat → Int32} (hd : 0 ≤ d) {h : iv_H} {s : iv_M} (hR : Rep nc Ls Xs h s)   {r : Int} {Q : Option Value → iv_H → Prop} (hq : ∀ (z : Int32), z.toInt = r → Q (some (.int z)) h) (e : FX1_border_b78 N s   = some r) : Rn d 29 (some .int) 78 [none, none, none, none, none, none] [] h Q := by
  have hT := hX1_border
  unfold FX1_border_b78 at e
  refine Rn.n hT 2 (pc' := 83) (L' := [none, none, none, none, none, none]) (st' := [.int (1 : Int32)]) rfl ?_
  exact Rn.weak (ll_n (ll_n (ll_n (ll_n (ll_n (ll_n ll_e)))))) (RX1_border_b83 hd hR L32_1 hq e)
def FX1_border_b67 (N : Nat) (s : iv_M) (x3 : Int) (x5 : Int)  : Option (Int) := (if x3 = 1 then (FX1_border_b78 N s) else (if x5 = 1 then (FX1_border_b78 N s) else (FX1_border_b83 N s 0)))
set_option maxRecDepth 10000 in
set_option maxHeartbeats 4000000 in
theorem RX1_border_b67 {d N nc Ls : Nat} {Xs : Nat → Int32} (hd : 0 ≤ d) {h : iv_H} {s : iv_M} (hR : Rep nc Ls Xs h s) {m3 : Int32} {x3 : Int} (p3 : m3.toInt = x3) {m5 : Int32} {x5 : Int} (p5 : m5.toInt = x5)  {r : Int} {Q : Option Value → iv_H → Prop} (hq : ∀ (z : Int32), z.toInt = r → Q (some (.int z)) h) (e : FX1_border_b67 N s x3 x5  = some r) : Rn d 29 (some .int) 67 [none, none, none, some (.int m3), none, some (.int m5)] [] h Q := by
  have hT := hX1_border
  unfold FX1_border_b67 at e
  refine Rn.n hT 2 (pc' := 69) (L' := [none, none, none, some (.int m3), none, some (.int m5)]) (st' := [.int (1 : Int32), .int m3]) rfl ?_
  by_cases c_279 : x3 = 1
  · rw [if_pos c_279] at e
    refine Rn.bt hT rfl rfl rfl (decide_eq_true ((ti_e p3 L32_1).mpr c_279)) ?_
    exact Rn.weak (ll_n (ll_n (ll_n (ll_n (ll_n (ll_n ll_e)))))) (RX1_border_b78 hd hR hq e)
  · rw [if_neg c_279] at e
    refine Rn.bf hT rfl rfl rfl (decide_eq_false (fun z => c_279 ((ti_e p3 L32_1).mp z))) ?_
    refine Rn.n hT 2 (pc' := 75) (L' := [none, none, none, some (.int m3), none, some (.int m5)]) (st' := [.int (1 : Int32), .int m5]) rfl ?_
    by_cases c_280 : x5 = 1
    · rw [if_pos c_280] at e
      refine Rn.bf hT rfl rfl rfl (decide_eq_false (fun z => z ((ti_e p5 L32_1).mpr c_280))) ?_
      exact Rn.weak (ll_n (ll_n (ll_n (ll_n (ll_n (ll_n ll_e)))))) (RX1_border_b78 hd hR hq e)
    · rw [if_neg c_280] at e
      refine Rn.bt hT rfl rfl rfl (decide_eq_true (fun z => c_280 ((ti_e p5 L32_1).mp z))) ?_
      refine Rn.n hT 1 (pc' := 83) (L' := [none, none, none, some (.int m3), none, some (.int m5)]) (st' := [.int (0 : Int32)]) rfl ?_
      exact Rn.weak (ll_n (ll_n (ll_n (ll_n (ll_n (ll_n ll_e)))))) (RX1_border_b83 hd hR L32_0 hq e)
def FX1_border_b46 (N : Nat) (s : iv_M) (x3 : Int) (xs0 : Int) : Option (Int) := (if x3 = xs0 then (some 0) else (if x3 = 3 then (FX1_border_b67 N s x3 xs0) else (if xs0 = 3 then (FX1_border_b67 N s x3 xs0) else (some 1))))
set_option maxRecDepth 10000 in
set_option maxHeartbeats 4000000 in
theorem RX1_border_b46 {d N nc Ls : Nat} {Xs : Nat → Int32} (hd : 0 ≤ d) {h : iv_H} {s : iv_M} (hR : Rep nc Ls Xs h s) {m3 : Int32} {x3 : Int} (p3 : m3.toInt = x3) {ms0 : Int32} {xs0 : Int} (ps0 : ms0.toInt = xs0) {r : Int} {Q : Option Value → iv_H → Prop} (hq : ∀ (z : Int32), z.toInt = r → Q (some (.int z)) h) (e : FX1_border_b46 N s x3 xs0 = some r) : Rn d 29 (some .int) 46 [none, none, none, some (.int m3), none, none] [.int ms0] h Q := by
  have hT := hX1_border
  unfold FX1_border_b46 at e
  refine Rn.n hT 3 (pc' := 51) (L' := [none, none, none, some (.int m3), none, some (.int ms0)]) (st' := [.int ms0, .int m3]) rfl ?_
  by_cases c_276 : x3 = xs0
  · rw [if_pos c_276] at e
    refine Rn.bf hT rfl rfl rfl (decide_eq_false (fun z => z ((ti_e p3 ps0).mpr c_276))) ?_
    refine Rn.n hT 1 (pc' := 55) (L' := [none, none, none, some (.int m3), none, some (.int ms0)]) (st' := [.int (0 : Int32)]) rfl ?_
    obtain rfl := Option.some.inj e
    exact Rn.ret hT rfl rfl rfl (hq (0 : Int32) L32_0)
  · rw [if_neg c_276] at e
    refine Rn.bt hT rfl rfl rfl (decide_eq_true (fun z => c_276 ((ti_e p3 ps0).mp z))) ?_
    refine Rn.n hT 2 (pc' := 58) (L' := [none, none, none, some (.int m3), none, some (.int ms0)]) (st' := [.int (3 : Int32), .int m3]) rfl ?_
    by_cases c_277 : x3 = 3
    · rw [if_pos c_277] at e
      refine Rn.bt hT rfl rfl rfl (decide_eq_true ((ti_e p3 L32_3).mpr c_277)) ?_
      exact Rn.weak (ll_n (ll_n (ll_n (ll_s (ll_n (ll_s ll_e)))))) (RX1_border_b67 hd hR p3 ps0 hq e)
    · rw [if_neg c_277] at e
      refine Rn.bf hT rfl rfl rfl (decide_eq_false (fun z => c_277 ((ti_e p3 L32_3).mp z))) ?_
      refine Rn.n hT 2 (pc' := 64) (L' := [none, none, none, some (.int m3), none, some (.int ms0)]) (st' := [.int (3 : Int32), .int ms0]) rfl ?_
      by_cases c_278 : xs0 = 3
      · rw [if_pos c_278] at e
        refine Rn.bf hT rfl rfl rfl (decide_eq_false (fun z => z ((ti_e ps0 L32_3).mpr c_278))) ?_
        exact Rn.weak (ll_n (ll_n (ll_n (ll_s (ll_n (ll_s ll_e)))))) (RX1_border_b67 hd hR p3 ps0 hq e)
      · rw [if_neg c_278] at e
        refine Rn.bt hT rfl rfl rfl (decide_eq_true (fun z => c_278 ((ti_e ps0 L32_3).mp z))) ?_
        refine Rn.n hT 1 (pc' := 85) (L' := [none, none, none, some (.int m3), none, some (.int ms0)]) (st' := [.int (1 : Int32)]) rfl ?_
        obtain rfl := Option.some.inj e
        exact Rn.ret hT rfl rfl rfl (hq (1 : Int32) L32_1)
def FX1_border (N : Nat) (s : iv_M) (q0 : Nat) (x1 : Int) (x2 : Int) : Option (Int) := ((rd s (q0 + 5) 64 (w32 ((w32 (4 * x1)) + x2))).bind fun v_272 => ((rd s (q0 + 6) 64 (w32 ((w32 (4 * x1)) + x2))).bind fun v_273 => (if v_273 = (-1) then (FX1_border_b46 N s v_272 3) else ((rd s (q0 + 5) 64 (w32 ((w32 (4 * v_273)) + (bXo x2 2)))).bind fun v_275 => (FX1_border_b46 N s v_272 v_275)))))
set_option maxRecDepth 10000 in
set_option maxHeartbeats 4000000 in
theorem RX1_border {d N nc Ls : Nat} {Xs : Nat → Int32} (hd : 1 ≤ d) {h : iv_H} {s : iv_M} (hR : Rep nc Ls Xs h s) {q0 : Nat} (t0 : T1 nc q0) {m1 : Int32} {x1 : Int} (p1 : m1.toInt = x1) {m2 : Int32} {x2 : Int} (p2 : m2.toInt = x2) {r : Int} {Q : Option Value → iv_H → Prop} (e : FX1_border N s q0 x1 x2 = some r) (hq : ∀ (z : Int32), z.toInt = r → Q (some (.int z)) h) : Cl d 29 [.ref q0, .int m1, .int m2] h Q := by
  obtain ⟨d, rfl⟩ : ∃ k, d = k + 1 := ⟨d - 1, by omega⟩
  have hd : 0 ≤ d := by omega
  have hT := hX1_border
  unfold FX1_border at e
  refine Cl.into (by decide) gX1_border rfl ?_
  show Rn d 29 (some .int) 0 [some (.ref q0), some (.int m1), some (.int m2), none, none, none] [] h Q
  refine Rn.n hT 1 (pc' := 1) (L' := [some (.ref q0), some (.int m1), some (.int m2), none, none, none]) (st' := [.ref q0]) rfl ?_
  refine Rn.hp hT rfl rfl (gR_hp (rp_gR hR (T1_o t0) rfl)) ?_
  refine Rn.n hT 5 (pc' := 9) (L' := [some (.ref q0), some (.int m1), some (.int m2), none, none, none]) (st' := [.int (((4 : Int32) * m1) + m2), .ref (q0 + 5)]) rfl ?_
  obtain ⟨v_272, e_272, e⟩ := Option.bind_eq_some_iff.mp e
  obtain ⟨z_272, g_272, p_272⟩ := rp_aI hR (T1_9 t0) (T1_9l t0) (ti_add (ti_mul L32_4 p1) p2) e_272
  refine Rn.hp hT rfl rfl (aI_hp g_272) ?_
  refine Rn.n hT 2 (pc' := 12) (L' := [some (.ref q0), some (.int m1), some (.int m2), some (.int z_272), none, none]) (st' := [.ref q0]) rfl ?_
  refine Rn.hp hT rfl rfl (gR_hp (rp_gR hR (T1_o t0) rfl)) ?_
  refine Rn.n hT 5 (pc' := 20) (L' := [some (.ref q0), some (.int m1), some (.int m2), some (.int z_272), none, none]) (st' := [.int (((4 : Int32) * m1) + m2), .ref (q0 + 6)]) rfl ?_
  obtain ⟨v_273, e_273, e⟩ := Option.bind_eq_some_iff.mp e
  obtain ⟨z_273, g_273, p_273⟩ := rp_aI hR (T1_10 t0) (T1_10l t0) (ti_add (ti_mul L32_4 p1) p2) e_273
  refine Rn.hp hT rfl rfl (aI_hp g_273) ?_
  refine Rn.n hT 3 (pc' := 26) (L' := [some (.ref q0), some (.int m1), some (.int m2), some (.int z_272), some (.int z_273), none]) (st' := [.int (-1 : Int32), .int z_273]) rfl ?_
  by_cases c_274 : v_273 = (-1)
  · rw [if_pos c_274] at e
    refine Rn.bf hT rfl rfl rfl (decide_eq_false (fun z => z ((ti_e p_273 L32_m1).mpr c_274))) ?_
    refine Rn.n hT 2 (pc' := 46) (L' := [some (.ref q0), some (.int m1), some (.int m2), some (.int z_272), some (.int z_273), none]) (st' := [.int (3 : Int32)]) rfl ?_
    exact Rn.weak (ll_n (ll_n (ll_n (ll_s (ll_n (ll_n ll_e)))))) (RX1_border_b46 hd hR p_272 L32_3 hq e)
  · rw [if_neg c_274] at e
    refine Rn.bt hT rfl rfl rfl (decide_eq_true (fun z => c_274 ((ti_e p_273 L32_m1).mp z))) ?_
    refine Rn.n hT 1 (pc' := 34) (L' := [some (.ref q0), some (.int m1), some (.int m2), some (.int z_272), some (.int z_273), none]) (st' := [.ref q0]) rfl ?_
    refine Rn.hp hT rfl rfl (gR_hp (rp_gR hR (T1_o t0) rfl)) ?_
    refine Rn.n hT 7 (pc' := 45) (L' := [some (.ref q0), some (.int m1), some (.int m2), some (.int z_272), some (.int z_273), none]) (st' := [.int (((4 : Int32) * z_273) + (m2 ^^^ (2 : Int32))), .ref (q0 + 5)]) rfl ?_
    obtain ⟨v_275, e_275, e⟩ := Option.bind_eq_some_iff.mp e
    obtain ⟨z_275, g_275, p_275⟩ := rp_aI hR (T1_9 t0) (T1_9l t0) (ti_add (ti_mul L32_4 p_273) (ti_xor p2 L32_2)) e_275
    refine Rn.hp hT rfl rfl (aI_hp g_275) ?_
    exact Rn.weak (ll_n (ll_n (ll_n (ll_s (ll_n (ll_n ll_e)))))) (RX1_border_b46 hd hR p_272 p_275 hq e)
set_option maxRecDepth 10000 in
theorem hX1_touching : iv_Tb 28 tX1_touching := iv_tb_of (m := mX1_touching) rfl
set_option maxRecDepth 10000 in
theorem gX1_touching : PG.2 28 = some mX1_touching := iv_pi_of (t := tX1_touching) rfl (by decide)
def FX1_touching_l5 (N : Nat) (s : iv_M) (q0 : Nat) (x1 : Int) (x2 : Int) (kx : Int → Option (Int)) : Nat → Int → Int → Option (Int)
  | 0, _, _ => none
  | n + 1, x3, x4 => (if 4 ≤ x4 then (kx x3) else ((FX1_border N s q0 x1 x4).bind fun v_285 => (FX1_touching_l5 N s q0 x1 x2 kx n (w32 (x3 + v_285)) (w32 (x4 + 1)))))
set_option maxRecDepth 10000 in
set_option maxHeartbeats 4000000 in
theorem RX1_touching_l5 {d N nc Ls : Nat} {Xs : Nat → Int32} (hd : 1 ≤ d) {h : iv_H} {s : iv_M} (hR : Rep nc Ls Xs h s) {q0 : Nat} (t0 : T1 nc q0) {m1 : Int32} {x1 : Int} (p1 : m1.toInt = x1) {m2 : Int32} {x2 : Int} (p2 : m2.toInt = x2) {kx : Int → Option (Int)} {r : Int} {Q : Option Value → iv_H → Prop} (hk : ∀ (m3 : Int32) (x3 : Int) (p3 : m3.toInt = x3), kx x3 = some r → Rn d 28 (some .int) 27 [some (.ref q0), some (.int m1), some (.int m2), some (.int m3), none, none] [] h Q) (hq : ∀ (z : Int32), z.toInt = r → Q (some (.int z)) h) : ∀ (n : Nat) (m3 : Int32) (x3 : Int) (p3 : m3.toInt = x3) (m4 : Int32) (x4 : Int) (p4 : m4.toInt = x4), FX1_touching_l5 N s q0 x1 x2 kx n x3 x4 = some r → Rn d 28 (some .int) 5 [some (.ref q0), some (.int m1), some (.int m2), some (.int m3), some (.int m4), none] [] h Q := by
  have hT := hX1_touching
  intro n
  induction n with
  | zero =>
    intro m3 x3 p3 m4 x4 p4 e
    rw [FX1_touching_l5] at e
    cases e
  | succ n ih =>
    intro m3 x3 p3 m4 x4 p4 e
    rw [FX1_touching_l5] at e
    refine Rn.n hT 2 (pc' := 8) (L' := [some (.ref q0), some (.int m1), some (.int m2), some (.int m3), some (.int m4), none]) (st' := [.int (4 : Int32), .int m4]) rfl ?_
    by_cases c_284 : 4 ≤ x4
    · rw [if_pos c_284] at e
      refine Rn.bt hT rfl rfl rfl (decide_eq_true ((ti_le L32_4 p4).mpr c_284)) ?_
      exact Rn.weak (ll_s (ll_s (ll_s (ll_s (ll_n (ll_n ll_e)))))) (hk m3 x3 p3 e)
    · rw [if_neg c_284] at e
      refine Rn.bf hT rfl rfl rfl (decide_eq_false (fun z => c_284 ((ti_le L32_4 p4).mp z))) ?_
      refine Rn.n hT 4 (pc' := 16) (L' := [some (.ref q0), some (.int m1), some (.int m2), some (.int m3), some (.int m4), none]) (st' := [.int m4, .int m1, .ref q0, .int m3]) rfl ?_
      obtain ⟨v_285, e_285, e⟩ := Option.bind_eq_some_iff.mp e
      refine Rn.call hT rfl rfl rfl (Nat.le_of_ble_eq_true rfl) (rcv_v gX1_border (by omega) (rp_ck hR (T1_o t0))) (RX1_border (by omega) hR t0 p1 p4 e_285 (fun z_285 p_285 => ?_))
      show Rn d _ _ 19 [some (.ref q0), some (.int m1), some (.int m2), some (.int m3), some (.int m4), none] [.int z_285, .int m3] h Q
      refine Rn.n hT 4 (pc' := 5) (L' := [some (.ref q0), some (.int m1), some (.int m2), some (.int (m3 + z_285)), some (.int (m4 + (1 : Int32))), none]) (st' := []) rfl ?_
      exact Rn.weak (ll_s (ll_s (ll_s (ll_s (ll_s (ll_n ll_e)))))) (ih (m3 + z_285) (w32 (x3 + v_285)) (ti_add p3 p_285) (m4 + (1 : Int32)) (w32 (x4 + 1)) (ti_add p4 L32_1) e)
def FX1_touching_b84 (N : Nat) (s : iv_M) (q0 : Nat) (x2 : Int) (x4 : Int) (x5 : Int) (xs0 : Int) (xs1 : Int) (kb : Int → Int → Option (Int)) (kx : Int → Option (Int)) : Option (Int) := (kb (w32 (xs1 + xs0)) (w32 (x5 + 1)))
set_option maxRecDepth 10000 in
set_option maxHeartbeats 4000000 in
theorem RX1_touching_b84 {d N nc Ls : Nat} {Xs : Nat → Int32} (hd : 1 ≤ d) {h : iv_H} {s : iv_M} (hR : Rep nc Ls Xs h s) {q0 : Nat} (t0 : T1 nc q0) {m2 : Int32} {x2 : Int} (p2 : m2.toInt = x2) {m4 : Int32} {x4 : Int} (p4 : m4.toInt = x4) {m5 : Int32} {x5 : Int} (p5 : m5.toInt = x5) {ms0 : Int32} {xs0 : Int} (ps0 : ms0.toInt = xs0) {ms1 : Int32} {xs1 : Int} (ps1 : ms1.toInt = xs1) {kb : Int → Int → Option (Int)} {kx : Int → Option (Int)} {r : Int} {Q : Option Value → iv_H → Prop} (hb : ∀ (mw3 : Int32) (xw3 : Int) (pw3 : mw3.toInt = xw3) (mw5 : Int32) (xw5 : Int) (pw5 : mw5.toInt = xw5), kb xw3 xw5 = some r → Rn d 28 (some .int) 51 [some (.ref q0), none, some (.int m2), some (.int mw3), some (.int m4), some (.int mw5)] [] h Q) (hk : ∀ (mw3 : Int32) (xw3 : Int) (pw3 : mw3.toInt = xw3), kx xw3 = some r → Rn d 28 (some .int) 92 [none, none, none, some (.int mw3), none, none] [] h Q) (hq : ∀ (z : Int32), z.toInt = r → Q (some (.int z)) h) (e : FX1_touching_b84 N s q0 x2 x4 x5 xs0 xs1 kb kx = some r) : Rn d 28 (some .int) 84 [some (.ref q0), none, some (.int m2), none, some (.int m4), some (.int m5)] [.int ms0, .int ms1] h Q := by
  have hT := hX1_touching
  unfold FX1_touching_b84 at e
  refine Rn.n hT 4 (pc' := 51) (L' := [some (.ref q0), none, some (.int m2), some (.int (ms1 + ms0)), some (.int m4), some (.int (m5 + (1 : Int32)))]) (st' := []) rfl ?_
  exact Rn.weak (ll_s (ll_n (ll_s (ll_s (ll_s (ll_s ll_e)))))) (hb (ms1 + ms0) (w32 (xs1 + xs0)) (ti_add ps1 ps0) (m5 + (1 : Int32)) (w32 (x5 + 1)) (ti_add p5 L32_1) e)
def FX1_touching_l51 (N : Nat) (s : iv_M) (q0 : Nat) (x2 : Int) (x4 : Int) (kx : Int → Option (Int)) : Nat → Int → Int → Option (Int)
  | 0, _, _ => none
  | n + 1, x3, x5 => (if 4 ≤ x5 then (kx x3) else (if x4 = (-1) then (kx x3) else (if x5 = (bXo x2 2) then (FX1_touching_b84 N s q0 x2 x4 x5 0 x3 (FX1_touching_l51 N s q0 x2 x4 kx n) kx) else ((FX1_border N s q0 x4 x5).bind fun v_290 => (FX1_touching_b84 N s q0 x2 x4 x5 v_290 x3 (FX1_touching_l51 N s q0 x2 x4 kx n) kx)))))
set_option maxRecDepth 10000 in
set_option maxHeartbeats 4000000 in
theorem RX1_touching_l51 {d N nc Ls : Nat} {Xs : Nat → Int32} (hd : 1 ≤ d) {h : iv_H} {s : iv_M} (hR : Rep nc Ls Xs h s) {q0 : Nat} (t0 : T1 nc q0) {m2 : Int32} {x2 : Int} (p2 : m2.toInt = x2) {m4 : Int32} {x4 : Int} (p4 : m4.toInt = x4) {kx : Int → Option (Int)} {r : Int} {Q : Option Value → iv_H → Prop} (hk : ∀ (m3 : Int32) (x3 : Int) (p3 : m3.toInt = x3), kx x3 = some r → Rn d 28 (some .int) 92 [none, none, none, some (.int m3), none, none] [] h Q) (hq : ∀ (z : Int32), z.toInt = r → Q (some (.int z)) h) : ∀ (n : Nat) (m3 : Int32) (x3 : Int) (p3 : m3.toInt = x3) (m5 : Int32) (x5 : Int) (p5 : m5.toInt = x5), FX1_touching_l51 N s q0 x2 x4 kx n x3 x5 = some r → Rn d 28 (some .int) 51 [some (.ref q0), none, some (.int m2), some (.int m3), some (.int m4), some (.int m5)] [] h Q := by
  have hT := hX1_touching
  intro n
  induction n with
  | zero =>
    intro m3 x3 p3 m5 x5 p5 e
    rw [FX1_touching_l51] at e
    cases e
  | succ n ih =>
    intro m3 x3 p3 m5 x5 p5 e
    rw [FX1_touching_l51] at e
    refine Rn.n hT 2 (pc' := 54) (L' := [some (.ref q0), none, some (.int m2), some (.int m3), some (.int m4), some (.int m5)]) (st' := [.int (4 : Int32), .int m5]) rfl ?_
    by_cases c_287 : 4 ≤ x5
    · rw [if_pos c_287] at e
      refine Rn.bt hT rfl rfl rfl (decide_eq_true ((ti_le L32_4 p5).mpr c_287)) ?_
      exact Rn.weak (ll_n (ll_n (ll_n (ll_s (ll_n (ll_n ll_e)))))) (hk m3 x3 p3 e)
    · rw [if_neg c_287] at e
      refine Rn.bf hT rfl rfl rfl (decide_eq_false (fun z => c_287 ((ti_le L32_4 p5).mp z))) ?_
      refine Rn.n hT 2 (pc' := 60) (L' := [some (.ref q0), none, some (.int m2), some (.int m3), some (.int m4), some (.int m5)]) (st' := [.int (-1 : Int32), .int m4]) rfl ?_
      by_cases c_288 : x4 = (-1)
      · rw [if_pos c_288] at e
        refine Rn.bt hT rfl rfl rfl (decide_eq_true ((ti_e p4 L32_m1).mpr c_288)) ?_
        exact Rn.weak (ll_n (ll_n (ll_n (ll_s (ll_n (ll_n ll_e)))))) (hk m3 x3 p3 e)
      · rw [if_neg c_288] at e
        refine Rn.bf hT rfl rfl rfl (decide_eq_false (fun z => c_288 ((ti_e p4 L32_m1).mp z))) ?_
        refine Rn.n hT 5 (pc' := 69) (L' := [some (.ref q0), none, some (.int m2), some (.int m3), some (.int m4), some (.int m5)]) (st' := [.int (m2 ^^^ (2 : Int32)), .int m5, .int m3]) rfl ?_
        by_cases c_289 : x5 = (bXo x2 2)
        · rw [if_pos c_289] at e
          refine Rn.bf hT rfl rfl rfl (decide_eq_false (fun z => z ((ti_e p5 (ti_xor p2 L32_2)).mpr c_289))) ?_
          refine Rn.n hT 2 (pc' := 84) (L' := [some (.ref q0), none, some (.int m2), some (.int m3), some (.int m4), some (.int m5)]) (st' := [.int (0 : Int32), .int m3]) rfl ?_
          exact Rn.weak (ll_s (ll_n (ll_s (ll_n (ll_s (ll_s ll_e)))))) (RX1_touching_b84 hd hR t0 p2 p4 p5 L32_0 p3 ih hk hq e)
        · rw [if_neg c_289] at e
          refine Rn.bt hT rfl rfl rfl (decide_eq_true (fun z => c_289 ((ti_e p5 (ti_xor p2 L32_2)).mp z))) ?_
          refine Rn.n hT 3 (pc' := 81) (L' := [some (.ref q0), none, some (.int m2), some (.int m3), some (.int m4), some (.int m5)]) (st' := [.int m5, .int m4, .ref q0, .int m3]) rfl ?_
          obtain ⟨v_290, e_290, e⟩ := Option.bind_eq_some_iff.mp e
          refine Rn.call hT rfl rfl rfl (Nat.le_of_ble_eq_true rfl) (rcv_v gX1_border (by omega) (rp_ck hR (T1_o t0))) (RX1_border (by omega) hR t0 p4 p5 e_290 (fun z_290 p_290 => ?_))
          show Rn d _ _ 84 [some (.ref q0), none, some (.int m2), some (.int m3), some (.int m4), some (.int m5)] [.int z_290, .int m3] h Q
          exact Rn.weak (ll_s (ll_n (ll_s (ll_n (ll_s (ll_s ll_e)))))) (RX1_touching_b84 hd hR t0 p2 p4 p5 p_290 p3 ih hk hq e)
def FX1_touching_b92 (N : Nat) (s : iv_M) (x3 : Int)  : Option (Int) := (some x3)
set_option maxRecDepth 10000 in
set_option maxHeartbeats 4000000 in
theorem RX1_touching_b92 {d N nc Ls : Nat} {Xs : Nat → Int32} (hd : 1 ≤ d) {h : iv_H} {s : iv_M} (hR : Rep nc Ls Xs h s) {m3 : Int32} {x3 : Int} (p3 : m3.toInt = x3)  {r : Int} {Q : Option Value → iv_H → Prop} (hq : ∀ (z : Int32), z.toInt = r → Q (some (.int z)) h) (e : FX1_touching_b92 N s x3  = some r) : Rn d 28 (some .int) 92 [none, none, none, some (.int m3), none, none] [] h Q := by
  have hT := hX1_touching
  unfold FX1_touching_b92 at e
  refine Rn.n hT 1 (pc' := 93) (L' := [none, none, none, some (.int m3), none, none]) (st' := [.int m3]) rfl ?_
  obtain rfl := Option.some.inj e
  exact Rn.ret hT rfl rfl rfl (hq m3 p3)
def FX1_touching_b46 (N : Nat) (s : iv_M) (q0 : Nat) (x2 : Int) (x3 : Int) (xs0 : Int) : Option (Int) := (FX1_touching_l51 N s q0 x2 xs0 (fun (x286_3 : Int) => (FX1_touching_b92 N s x286_3)) N x3 0)
set_option maxRecDepth 10000 in
set_option maxHeartbeats 4000000 in
theorem RX1_touching_b46 {d N nc Ls : Nat} {Xs : Nat → Int32} (hd : 1 ≤ d) {h : iv_H} {s : iv_M} (hR : Rep nc Ls Xs h s) {q0 : Nat} (t0 : T1 nc q0) {m2 : Int32} {x2 : Int} (p2 : m2.toInt = x2) {m3 : Int32} {x3 : Int} (p3 : m3.toInt = x3) {ms0 : Int32} {xs0 : Int} (ps0 : ms0.toInt = xs0) {r : Int} {Q : Option Value → iv_H → Prop} (hq : ∀ (z : Int32), z.toInt = r → Q (some (.int z)) h) (e : FX1_touching_b46 N s q0 x2 x3 xs0 = some r) : Rn d 28 (some .int) 46 [some (.ref q0), none, some (.int m2), some (.int m3), none, none] [.int ms0] h Q := by
  have hT := hX1_touching
  unfold FX1_touching_b46 at e
  refine Rn.n hT 3 (pc' := 51) (L' := [some (.ref q0), none, some (.int m2), some (.int m3), some (.int ms0), some (.int (0 : Int32))]) (st' := []) rfl ?_
  refine Rn.weak (ll_s (ll_n (ll_s (ll_s (ll_s (ll_s ll_e)))))) (RX1_touching_l51 hd hR t0 p2 ps0 (fun m286_3 x286_3 p286_3 e => ?_) hq N m3 x3 p3 (0 : Int32) 0 L32_0 e)
  try dsimp only at e
  exact Rn.weak (ll_n (ll_n (ll_n (ll_s (ll_n (ll_n ll_e)))))) (RX1_touching_b92 hd hR p286_3 hq e)
def FX1_touching (N : Nat) (s : iv_M) (q0 : Nat) (x1 : Int) (x2 : Int) : Option (Int) := (FX1_touching_l5 N s q0 x1 x2 (fun (x281_3 : Int) => (if x2 = (-1) then (FX1_touching_b46 N s q0 x2 x281_3 (-1)) else ((rd s (q0 + 6) 64 (w32 ((w32 (4 * x1)) + x2))).bind fun v_283 => (FX1_touching_b46 N s q0 x2 x281_3 v_283)))) N 0 0)
set_option maxRecDepth 10000 in
set_option maxHeartbeats 4000000 in
theorem RX1_touching {d N nc Ls : Nat} {Xs : Nat → Int32} (hd : 2 ≤ d) {h : iv_H} {s : iv_M} (hR : Rep nc Ls Xs h s) {q0 : Nat} (t0 : T1 nc q0) {m1 : Int32} {x1 : Int} (p1 : m1.toInt = x1) {m2 : Int32} {x2 : Int} (p2 : m2.toInt = x2) {r : Int} {Q : Option Value → iv_H → Prop} (e : FX1_touching N s q0 x1 x2 = some r) (hq : ∀ (z : Int32), z.toInt = r → Q (some (.int z)) h) : Cl d 28 [.ref q0, .int m1, .int m2] h Q := by
  obtain ⟨d, rfl⟩ : ∃ k, d = k + 1 := ⟨d - 1, by omega⟩
  have hd : 1 ≤ d := by omega
  have hT := hX1_touching
  unfold FX1_touching at e
  refine Cl.into (by decide) gX1_touching rfl ?_
  show Rn d 28 (some .int) 0 [some (.ref q0), some (.int m1), some (.int m2), none, none, none] [] h Q
  refine Rn.n hT 4 (pc' := 5) (L' := [some (.ref q0), some (.int m1), some (.int m2), some (.int (0 : Int32)), some (.int (0 : Int32)), none]) (st' := []) rfl ?_
  refine Rn.weak (ll_s (ll_s (ll_s (ll_s (ll_s (ll_n ll_e)))))) (RX1_touching_l5 hd hR t0 p1 p2 (fun m281_3 x281_3 p281_3 e => ?_) hq N (0 : Int32) 0 L32_0 (0 : Int32) 0 L32_0 e)
  try dsimp only at e
  refine Rn.n hT 2 (pc' := 29) (L' := [some (.ref q0), some (.int m1), some (.int m2), some (.int m281_3), none, none]) (st' := [.int (-1 : Int32), .int m2]) rfl ?_
  by_cases c_282 : x2 = (-1)
  · rw [if_pos c_282] at e
    refine Rn.bf hT rfl rfl rfl (decide_eq_false (fun z => z ((ti_e p2 L32_m1).mpr c_282))) ?_
    refine Rn.n hT 2 (pc' := 46) (L' := [some (.ref q0), some (.int m1), some (.int m2), some (.int m281_3), none, none]) (st' := [.int (-1 : Int32)]) rfl ?_
    exact Rn.weak (ll_s (ll_n (ll_s (ll_s (ll_n (ll_n ll_e)))))) (RX1_touching_b46 hd hR t0 p2 p281_3 L32_m1 hq e)
  · rw [if_neg c_282] at e
    refine Rn.bt hT rfl rfl rfl (decide_eq_true (fun z => c_282 ((ti_e p2 L32_m1).mp z))) ?_
    refine Rn.n hT 1 (pc' := 37) (L' := [some (.ref q0), some (.int m1), some (.int m2), some (.int m281_3), none, none]) (st' := [.ref q0]) rfl ?_
    refine Rn.hp hT rfl rfl (gR_hp (rp_gR hR (T1_o t0) rfl)) ?_
    refine Rn.n hT 5 (pc' := 45) (L' := [some (.ref q0), some (.int m1), some (.int m2), some (.int m281_3), none, none]) (st' := [.int (((4 : Int32) * m1) + m2), .ref (q0 + 6)]) rfl ?_
    obtain ⟨v_283, e_283, e⟩ := Option.bind_eq_some_iff.mp e
    obtain ⟨z_283, g_283, p_283⟩ := rp_aI hR (T1_10 t0) (T1_10l t0) (ti_add (ti_mul L32_4 p1) p2) e_283
    refine Rn.hp hT rfl rfl (aI_hp g_283) ?_
    exact Rn.weak (ll_s (ll_n (ll_s (ll_s (ll_n (ll_n ll_e)))))) (RX1_touching_b46 hd hR t0 p2 p281_3 p_283 hq e)
set_option maxRecDepth 10000 in
theorem hX1_gain : iv_Tb 27 tX1_gain := iv_tb_of (m := mX1_gain) rfl
set_option maxRecDepth 10000 in
theorem gX1_gain : PG.2 27 = some mX1_gain := iv_pi_of (t := tX1_gain) rfl (by decide)
def FX1_gain_b53 (N : Nat) (s : iv_M) (q0 : Nat) (x1 : Int) (x2 : Int) (x3 : Int)  : Option (Int × iv_M) := ((FX1_touching N s q0 x2 x3).bind fun v_296 => ((FX1_stir N s q0 x1 1).bind fun s_298 => ((FX1_touching N s_298 q0 x2 x3).bind fun v_299 => ((FX1_stir N s_298 q0 x1 0).bind fun s_301 => (some ((w32 (v_299 - v_296)), s_301))))))
set_option maxRecDepth 10000 in
set_option maxHeartbeats 4000000 in
theorem RX1_gain_b53 {d N nc Ls : Nat} {Xs : Nat → Int32} (hd : 2 ≤ d) {h : iv_H} {s : iv_M} (hR : Rep nc Ls Xs h s) {q0 : Nat} (t0 : T1 nc q0) {m1 : Int32} {x1 : Int} (p1 : m1.toInt = x1) {m2 : Int32} {x2 : Int} (p2 : m2.toInt = x2) {m3 : Int32} {x3 : Int} (p3 : m3.toInt = x3)  {r : Int × iv_M} {Q : Option Value → iv_H → Prop} (hq : ∀ (z : Int32) (h1 : iv_H), z.toInt = r.1 → Rep nc Ls Xs h1 r.2 → Q (some (.int z)) h1) (e : FX1_gain_b53 N s q0 x1 x2 x3  = some r) : Rn d 27 (some .int) 53 [some (.ref q0), some (.int m1), some (.int m2), some (.int m3), none, none] [] h Q := by
  have hT := hX1_gain
  unfold FX1_gain_b53 at e
  refine Rn.n hT 3 (pc' := 56) (L' := [some (.ref q0), some (.int m1), some (.int m2), some (.int m3), none, none]) (st' := [.int m3, .int m2, .ref q0]) rfl ?_
  obtain ⟨v_296, e_296, e⟩ := Option.bind_eq_some_iff.mp e
  refine Rn.call hT rfl rfl rfl (Nat.le_of_ble_eq_true rfl) (rcv_v gX1_touching (by omega) (rp_ck hR (T1_o t0))) (RX1_touching (by omega) hR t0 p2 p3 e_296 (fun z_296 p_296 => ?_))
  show Rn d _ _ 59 [some (.ref q0), some (.int m1), some (.int m2), some (.int m3), none, none] [.int z_296] h Q
  refine Rn.n hT 4 (pc' := 64) (L' := [some (.ref q0), some (.int m1), some (.int m2), some (.int m3), some (.int z_296), none]) (st' := [.int (1 : Int32), .int m1, .ref q0]) rfl ?_
  obtain ⟨s_298, e_297, e⟩ := Option.bind_eq_some_iff.mp e
  refine Rn.call hT rfl rfl rfl (Nat.le_of_ble_eq_true rfl) (rcv_v gX1_stir (by omega) (rp_ck hR (T1_o t0))) (RX1_stir (by omega) hR t0 p1 L32_1 e_297 (fun h_298 R_298 => ?_))
  show Rn d _ _ 67 [some (.ref q0), some (.int m1), some (.int m2), some (.int m3), some (.int z_296), none] [] h_298 Q
  refine Rn.n hT 3 (pc' := 70) (L' := [some (.ref q0), some (.int m1), some (.int m2), some (.int m3), some (.int z_296), none]) (st' := [.int m3, .int m2, .ref q0]) rfl ?_
  obtain ⟨v_299, e_299, e⟩ := Option.bind_eq_some_iff.mp e
  refine Rn.call hT rfl rfl rfl (Nat.le_of_ble_eq_true rfl) (rcv_v gX1_touching (by omega) (rp_ck R_298 (T1_o t0))) (RX1_touching (by omega) R_298 t0 p2 p3 e_299 (fun z_299 p_299 => ?_))
  show Rn d _ _ 73 [some (.ref q0), some (.int m1), some (.int m2), some (.int m3), some (.int z_296), none] [.int z_299] h_298 Q
  refine Rn.n hT 4 (pc' := 78) (L' := [some (.ref q0), some (.int m1), some (.int m2), some (.int m3), some (.int z_296), some (.int z_299)]) (st' := [.int (0 : Int32), .int m1, .ref q0]) rfl ?_
  obtain ⟨s_301, e_300, e⟩ := Option.bind_eq_some_iff.mp e
  refine Rn.call hT rfl rfl rfl (Nat.le_of_ble_eq_true rfl) (rcv_v gX1_stir (by omega) (rp_ck R_298 (T1_o t0))) (RX1_stir (by omega) R_298 t0 p1 L32_0 e_300 (fun h_301 R_301 => ?_))
  show Rn d _ _ 81 [some (.ref q0), some (.int m1), some (.int m2), some (.int m3), some (.int z_296), some (.int z_299)] [] h_301 Q
  refine Rn.n hT 3 (pc' := 86) (L' := [some (.ref q0), some (.int m1), some (.int m2), some (.int m3), some (.int z_296), some (.int z_299)]) (st' := [.int (z_299 - z_296)]) rfl ?_
  obtain rfl := Option.some.inj e
  exact Rn.ret hT rfl rfl rfl (hq (z_299 - z_296) h_301 (ti_sub p_299 p_296) R_301)
def FX1_gain (N : Nat) (s : iv_M) (q0 : Nat) (x1 : Int) : Option (Int × iv_M) := ((rd s (q0 + 1) 12 (bAn (sr32 x1 4) 15)).bind fun v_291 => (if (sr32 x1 8) = 1 then (FX1_gain_b53 N s q0 x1 v_291 (bAn x1 15)) else (if (sr32 x1 8) = 2 then ((rd s (q0 + 1) 12 (bAn x1 15)).bind fun v_294 => ((FX1_sideTo N s q0 v_291 v_294).bind fun v_295 => (FX1_gain_b53 N s q0 x1 v_291 v_295))) else (FX1_gain_b53 N s q0 x1 v_291 (-1)))))
set_option maxRecDepth 10000 in
set_option maxHeartbeats 4000000 in
theorem RX1_gain {d N nc Ls : Nat} {Xs : Nat → Int32} (hd : 3 ≤ d) {h : iv_H} {s : iv_M} (hR : Rep nc Ls Xs h s) {q0 : Nat} (t0 : T1 nc q0) {m1 : Int32} {x1 : Int} (p1 : m1.toInt = x1) {r : Int × iv_M} {Q : Option Value → iv_H → Prop} (e : FX1_gain N s q0 x1 = some r) (hq : ∀ (z : Int32) (h1 : iv_H), z.toInt = r.1 → Rep nc Ls Xs h1 r.2 → Q (some (.int z)) h1) : Cl d 27 [.ref q0, .int m1] h Q := by
  obtain ⟨d, rfl⟩ : ∃ k, d = k + 1 := ⟨d - 1, by omega⟩
  have hd : 2 ≤ d := by omega
  have hT := hX1_gain
  unfold FX1_gain at e
  refine Cl.into (by decide) gX1_gain rfl ?_
  show Rn d 27 (some .int) 0 [some (.ref q0), some (.int m1), none, none, none, none] [] h Q
  refine Rn.n hT 1 (pc' := 1) (L' := [some (.ref q0), some (.int m1), none, none, none, none]) (st' := [.ref q0]) rfl ?_
  refine Rn.hp hT rfl rfl (gR_hp (rp_gR hR (T1_o t0) rfl)) ?_
  refine Rn.n hT 5 (pc' := 10) (L' := [some (.ref q0), some (.int m1), none, none, none, none]) (st' := [.int ((m1 >>> ((4 : Int32) &&& 31)) &&& (15 : Int32)), .ref (q0 + 1)]) rfl ?_
  obtain ⟨v_291, e_291, e⟩ := Option.bind_eq_some_iff.mp e
  obtain ⟨z_291, g_291, p_291⟩ := rp_aI hR (T1_5 t0) (T1_5l t0) (ti_and (ti_shr p1 L32_4) L32_15) e_291
  refine Rn.hp hT rfl rfl (aI_hp g_291) ?_
  refine Rn.n hT 7 (pc' := 19) (L' := [some (.ref q0), some (.int m1), some (.int z_291), some (.int (-1 : Int32)), none, none]) (st' := [.int (1 : Int32), .int (m1 >>> ((8 : Int32) &&& 31))]) rfl ?_
  by_cases c_292 : (sr32 x1 8) = 1
  · rw [if_pos c_292] at e
    refine Rn.bf hT rfl rfl rfl (decide_eq_false (fun z => z ((ti_e (ti_shr p1 L32_8) L32_1).mpr c_292))) ?_
    refine Rn.n hT 5 (pc' := 53) (L' := [some (.ref q0), some (.int m1), some (.int z_291), some (.int (m1 &&& (15 : Int32))), none, none]) (st' := []) rfl ?_
    exact Rn.weak (ll_s (ll_s (ll_s (ll_s (ll_n (ll_n ll_e)))))) (RX1_gain_b53 hd hR t0 p1 p_291 (ti_and p1 L32_15) hq e)
  · rw [if_neg c_292] at e
    refine Rn.bt hT rfl rfl rfl (decide_eq_true (fun z => c_292 ((ti_e (ti_shr p1 L32_8) L32_1).mp z))) ?_
    refine Rn.n hT 4 (pc' := 35) (L' := [some (.ref q0), some (.int m1), some (.int z_291), some (.int (-1 : Int32)), none, none]) (st' := [.int (2 : Int32), .int (m1 >>> ((8 : Int32) &&& 31))]) rfl ?_
    by_cases c_293 : (sr32 x1 8) = 2
    · rw [if_pos c_293] at e
      refine Rn.bf hT rfl rfl rfl (decide_eq_false (fun z => z ((ti_e (ti_shr p1 L32_8) L32_2).mpr c_293))) ?_
      refine Rn.n hT 3 (pc' := 41) (L' := [some (.ref q0), some (.int m1), some (.int z_291), some (.int (-1 : Int32)), none, none]) (st' := [.ref q0, .int z_291, .ref q0]) rfl ?_
      refine Rn.hp hT rfl rfl (gR_hp (rp_gR hR (T1_o t0) rfl)) ?_
      refine Rn.n hT 3 (pc' := 48) (L' := [some (.ref q0), some (.int m1), some (.int z_291), some (.int (-1 : Int32)), none, none]) (st' := [.int (m1 &&& (15 : Int32)), .ref (q0 + 1), .int z_291, .ref q0]) rfl ?_
      obtain ⟨v_294, e_294, e⟩ := Option.bind_eq_some_iff.mp e
      obtain ⟨z_294, g_294, p_294⟩ := rp_aI hR (T1_5 t0) (T1_5l t0) (ti_and p1 L32_15) e_294
      refine Rn.hp hT rfl rfl (aI_hp g_294) ?_
      obtain ⟨v_295, e_295, e⟩ := Option.bind_eq_some_iff.mp e
      refine Rn.call hT rfl rfl rfl (Nat.le_of_ble_eq_true rfl) (rcv_v gX1_sideTo (by omega) (rp_ck hR (T1_o t0))) (RX1_sideTo (by omega) hR t0 p_291 p_294 e_295 (fun z_295 p_295 => ?_))
      show Rn d _ _ 52 [some (.ref q0), some (.int m1), some (.int z_291), some (.int (-1 : Int32)), none, none] [.int z_295] h Q
      refine Rn.n hT 1 (pc' := 53) (L' := [some (.ref q0), some (.int m1), some (.int z_291), some (.int z_295), none, none]) (st' := []) rfl ?_
      exact Rn.weak (ll_s (ll_s (ll_s (ll_s (ll_n (ll_n ll_e)))))) (RX1_gain_b53 hd hR t0 p1 p_291 p_295 hq e)
    · rw [if_neg c_293] at e
      refine Rn.bt hT rfl rfl rfl (decide_eq_true (fun z => c_293 ((ti_e (ti_shr p1 L32_8) L32_2).mp z))) ?_
      exact Rn.weak (ll_s (ll_s (ll_s (ll_s (ll_n (ll_n ll_e)))))) (RX1_gain_b53 hd hR t0 p1 p_291 L32_m1 hq e)
set_option maxRecDepth 10000 in
theorem hX1_mismatches : iv_Tb 30 tX1_mismatches := iv_tb_of (m := mX1_mismatches) rfl
set_option maxRecDepth 10000 in
theorem gX1_mismatches : PG.2 30 = some mX1_mismatches := iv_pi_of (t := tX1_mismatches) rfl (by decide)
def FX1_mismatches_b81 (N : Nat) (s : iv_M) (q0 : Nat) (x2 : Int) (x3 : Int) (xs0 : Int) (xs1 : Int) (kb : Int → Int → Option (Int)) (kx : Int → Option (Int)) : Option (Int) := (kb (w32 (xs1 + xs0)) (w32 (x3 + 1)))
set_option maxRecDepth 10000 in
set_option maxHeartbeats 4000000 in
theorem RX1_mismatches_b81 {d N nc Ls : Nat} {Xs : Nat → Int32} (hd : 1 ≤ d) {h : iv_H} {s : iv_M} (hR : Rep nc Ls Xs h s) {q0 : Nat} (t0 : T1 nc q0) {m2 : Int32} {x2 : Int} (p2 : m2.toInt = x2) {m3 : Int32} {x3 : Int} (p3 : m3.toInt = x3) {ms0 : Int32} {xs0 : Int} (ps0 : ms0.toInt = xs0) {ms1 : Int32} {xs1 : Int} (ps1 : ms1.toInt = xs1) {kb : Int → Int → Option (Int)} {kx : Int → Option (Int)} {r : Int} {Q : Option Value → iv_H → Prop} (hb : ∀ (mw1 : Int32) (xw1 : Int) (pw1 : mw1.toInt = xw1) (mw3 : Int32) (xw3 : Int) (pw3 : mw3.toInt = xw3), kb xw1 xw3 = some r → Rn d 30 (some .int) 14 [some (.ref q0), some (.int mw1), some (.int m2), some (.int mw3), none] [] h Q) (hk : ∀ (mw1 : Int32) (xw1 : Int) (pw1 : mw1.toInt = xw1), kx xw1 = some r → Rn d 30 (some .int) 89 [some (.ref q0), some (.int mw1), some (.int m2), none, none] [] h Q) (hq : ∀ (z : Int32), z.toInt = r → Q (some (.int z)) h) (e : FX1_mismatches_b81 N s q0 x2 x3 xs0 xs1 kb kx = some r) : Rn d 30 (some .int) 81 [some (.ref q0), none, some (.int m2), some (.int m3), none] [.int ms0, .int ms1] h Q := by
  have hT := hX1_mismatches
  unfold FX1_mismatches_b81 at e
  refine Rn.n hT 4 (pc' := 14) (L' := [some (.ref q0), some (.int (ms1 + ms0)), some (.int m2), some (.int (m3 + (1 : Int32))), none]) (st' := []) rfl ?_
  exact Rn.weak (ll_s (ll_s (ll_s (ll_s (ll_n ll_e))))) (hb (ms1 + ms0) (w32 (xs1 + xs0)) (ti_add ps1 ps0) (m3 + (1 : Int32)) (w32 (x3 + 1)) (ti_add p3 L32_1) e)
def FX1_mismatches_b63 (N : Nat) (s : iv_M) (q0 : Nat) (x2 : Int) (x3 : Int) (x4 : Int) (xs0 : Int) (xs1 : Int) (kb : Int → Int → Option (Int)) (kx : Int → Option (Int)) : Option (Int) := (if x3 = 0 then ((FX1_border N s q0 x4 3).bind fun v_313 => (FX1_mismatches_b81 N s q0 x2 x3 v_313 (w32 (xs1 + xs0)) kb kx)) else (FX1_mismatches_b81 N s q0 x2 x3 0 (w32 (xs1 + xs0)) kb kx))
set_option maxRecDepth 10000 in
set_option maxHeartbeats 4000000 in
theorem RX1_mismatches_b63 {d N nc Ls : Nat} {Xs : Nat → Int32} (hd : 1 ≤ d) {h : iv_H} {s : iv_M} (hR : Rep nc Ls Xs h s) {q0 : Nat} (t0 : T1 nc q0) {m2 : Int32} {x2 : Int} (p2 : m2.toInt = x2) {m3 : Int32} {x3 : Int} (p3 : m3.toInt = x3) {m4 : Int32} {x4 : Int} (p4 : m4.toInt = x4) {ms0 : Int32} {xs0 : Int} (ps0 : ms0.toInt = xs0) {ms1 : Int32} {xs1 : Int} (ps1 : ms1.toInt = xs1) {kb : Int → Int → Option (Int)} {kx : Int → Option (Int)} {r : Int} {Q : Option Value → iv_H → Prop} (hb : ∀ (mw1 : Int32) (xw1 : Int) (pw1 : mw1.toInt = xw1) (mw3 : Int32) (xw3 : Int) (pw3 : mw3.toInt = xw3), kb xw1 xw3 = some r → Rn d 30 (some .int) 14 [some (.ref q0), some (.int mw1), some (.int m2), some (.int mw3), none] [] h Q) (hk : ∀ (mw1 : Int32) (xw1 : Int) (pw1 : mw1.toInt = xw1), kx xw1 = some r → Rn d 30 (some .int) 89 [some (.ref q0), some (.int mw1), some (.int m2), none, none] [] h Q) (hq : ∀ (z : Int32), z.toInt = r → Q (some (.int z)) h) (e : FX1_mismatches_b63 N s q0 x2 x3 x4 xs0 xs1 kb kx = some r) : Rn d 30 (some .int) 63 [some (.ref q0), none, some (.int m2), some (.int m3), some (.int m4)] [.int ms0, .int ms1] h Q := by
  have hT := hX1_mismatches
  unfold FX1_mismatches_b63 at e
  refine Rn.n hT 4 (pc' := 67) (L' := [some (.ref q0), some (.int (ms1 + ms0)), some (.int m2), some (.int m3), some (.int m4)]) (st' := [.int m3, .int (ms1 + ms0)]) rfl ?_
  by_cases c_312 : x3 = 0
  · rw [if_pos c_312] at e
    refine Rn.bf hT rfl rfl rfl (decide_eq_false (fun z => z ((ti_e p3 L32_0).mpr c_312))) ?_
    refine Rn.n hT 3 (pc' := 74) (L' := [some (.ref q0), some (.int (ms1 + ms0)), some (.int m2), some (.int m3), some (.int m4)]) (st' := [.int (3 : Int32), .int m4, .ref q0, .int (ms1 + ms0)]) rfl ?_
    obtain ⟨v_313, e_313, e⟩ := Option.bind_eq_some_iff.mp e
    refine Rn.call hT rfl rfl rfl (Nat.le_of_ble_eq_true rfl) (rcv_v gX1_border (by omega) (rp_ck hR (T1_o t0))) (RX1_border (by omega) hR t0 p4 L32_3 e_313 (fun z_313 p_313 => ?_))
    show Rn d _ _ 77 [some (.ref q0), some (.int (ms1 + ms0)), some (.int m2), some (.int m3), some (.int m4)] [.int z_313, .int (ms1 + ms0)] h Q
    refine Rn.n hT 1 (pc' := 81) (L' := [some (.ref q0), some (.int (ms1 + ms0)), some (.int m2), some (.int m3), some (.int m4)]) (st' := [.int z_313, .int (ms1 + ms0)]) rfl ?_
    exact Rn.weak (ll_s (ll_n (ll_s (ll_s (ll_n ll_e))))) (RX1_mismatches_b81 hd hR t0 p2 p3 p_313 (ti_add ps1 ps0) hb hk hq e)
  · rw [if_neg c_312] at e
    refine Rn.bt hT rfl rfl rfl (decide_eq_true (fun z => c_312 ((ti_e p3 L32_0).mp z))) ?_
    refine Rn.n hT 1 (pc' := 81) (L' := [some (.ref q0), some (.int (ms1 + ms0)), some (.int m2), some (.int m3), some (.int m4)]) (st' := [.int (0 : Int32), .int (ms1 + ms0)]) rfl ?_
    exact Rn.weak (ll_s (ll_n (ll_s (ll_s (ll_n ll_e))))) (RX1_mismatches_b81 hd hR t0 p2 p3 L32_0 (ti_add ps1 ps0) hb hk hq e)
def FX1_mismatches_l14 (N : Nat) (s : iv_M) (q0 : Nat) (x2 : Int) (kx : Int → Option (Int)) : Nat → Int → Int → Option (Int)
  | 0, _, _ => none
  | n + 1, x1, x3 => (if (s q0 0) ≤ x3 then (kx x1) else ((FX1_border N s q0 (w32 ((w32 (4 * x2)) + x3)) 1).bind fun v_308 => ((FX1_border N s q0 (w32 ((w32 (4 * x2)) + x3)) 2).bind fun v_309 => (if x2 = 0 then ((FX1_border N s q0 (w32 ((w32 (4 * x2)) + x3)) 0).bind fun v_311 => (FX1_mismatches_b63 N s q0 x2 x3 (w32 ((w32 (4 * x2)) + x3)) v_311 (w32 (x1 + (w32 (v_308 + v_309)))) (FX1_mismatches_l14 N s q0 x2 kx n) kx)) else (FX1_mismatches_b63 N s q0 x2 x3 (w32 ((w32 (4 * x2)) + x3)) 0 (w32 (x1 + (w32 (v_308 + v_309)))) (FX1_mismatches_l14 N s q0 x2 kx n) kx)))))
set_option maxRecDepth 10000 in
set_option maxHeartbeats 4000000 in
theorem RX1_mismatches_l14 {d N nc Ls : Nat} {Xs : Nat → Int32} (hd : 1 ≤ d) {h : iv_H} {s : iv_M} (hR : Rep nc Ls Xs h s) {q0 : Nat} (t0 : T1 nc q0) {m2 : Int32} {x2 : Int} (p2 : m2.toInt = x2) {kx : Int → Option (Int)} {r : Int} {Q : Option Value → iv_H → Prop} (hk : ∀ (m1 : Int32) (x1 : Int) (p1 : m1.toInt = x1), kx x1 = some r → Rn d 30 (some .int) 89 [some (.ref q0), some (.int m1), some (.int m2), none, none] [] h Q) (hq : ∀ (z : Int32), z.toInt = r → Q (some (.int z)) h) : ∀ (n : Nat) (m1 : Int32) (x1 : Int) (p1 : m1.toInt = x1) (m3 : Int32) (x3 : Int) (p3 : m3.toInt = x3), FX1_mismatches_l14 N s q0 x2 kx n x1 x3 = some r → Rn d 30 (some .int) 14 [some (.ref q0), some (.int m1), some (.int m2), some (.int m3), none] [] h Q := by
  have hT := hX1_mismatches
  intro n
  induction n with
  | zero =>
    intro m1 x1 p1 m3 x3 p3 e
    rw [FX1_mismatches_l14] at e
    cases e
  | succ n ih =>
    intro m1 x1 p1 m3 x3 p3 e
    rw [FX1_mismatches_l14] at e
    refine Rn.n hT 2 (pc' := 16) (L' := [some (.ref q0), some (.int m1), some (.int m2), some (.int m3), none]) (st' := [.ref q0, .int m3]) rfl ?_
    obtain ⟨z_306, g_306, p_306⟩ : ∃ z : Int32, gI h 1 0 q0 = some z ∧ z.toInt = s q0 0 := rp_gI (k := 0) hR (T1_o t0) rfl
    refine Rn.hp hT rfl rfl (gI_hp g_306) ?_
    by_cases c_307 : (s q0 0) ≤ x3
    · rw [if_pos c_307] at e
      refine Rn.bt hT rfl rfl rfl (decide_eq_true ((ti_le p_306 p3).mpr c_307)) ?_
      exact Rn.weak (ll_s (ll_s (ll_s (ll_n (ll_n ll_e))))) (hk m1 x1 p1 e)
    · rw [if_neg c_307] at e
      refine Rn.bf hT rfl rfl rfl (decide_eq_false (fun z => c_307 ((ti_le p_306 p3).mp z))) ?_
      refine Rn.n hT 10 (pc' := 34) (L' := [some (.ref q0), some (.int m1), some (.int m2), some (.int m3), some (.int (((4 : Int32) * m2) + m3))]) (st' := [.int (1 : Int32), .int (((4 : Int32) * m2) + m3), .ref q0, .int m1]) rfl ?_
      obtain ⟨v_308, e_308, e⟩ := Option.bind_eq_some_iff.mp e
      refine Rn.call hT rfl rfl rfl (Nat.le_of_ble_eq_true rfl) (rcv_v gX1_border (by omega) (rp_ck hR (T1_o t0))) (RX1_border (by omega) hR t0 (ti_add (ti_mul L32_4 p2) p3) L32_1 e_308 (fun z_308 p_308 => ?_))
      show Rn d _ _ 37 [some (.ref q0), some (.int m1), some (.int m2), some (.int m3), some (.int (((4 : Int32) * m2) + m3))] [.int z_308, .int m1] h Q
      refine Rn.n hT 3 (pc' := 41) (L' := [some (.ref q0), some (.int m1), some (.int m2), some (.int m3), some (.int (((4 : Int32) * m2) + m3))]) (st' := [.int (2 : Int32), .int (((4 : Int32) * m2) + m3), .ref q0, .int z_308, .int m1]) rfl ?_
      obtain ⟨v_309, e_309, e⟩ := Option.bind_eq_some_iff.mp e
      refine Rn.call hT rfl rfl rfl (Nat.le_of_ble_eq_true rfl) (rcv_v gX1_border (by omega) (rp_ck hR (T1_o t0))) (RX1_border (by omega) hR t0 (ti_add (ti_mul L32_4 p2) p3) L32_2 e_309 (fun z_309 p_309 => ?_))
      show Rn d _ _ 44 [some (.ref q0), some (.int m1), some (.int m2), some (.int m3), some (.int (((4 : Int32) * m2) + m3))] [.int z_309, .int z_308, .int m1] h Q
      refine Rn.n hT 5 (pc' := 49) (L' := [some (.ref q0), some (.int (m1 + (z_308 + z_309))), some (.int m2), some (.int m3), some (.int (((4 : Int32) * m2) + m3))]) (st' := [.int m2, .int (m1 + (z_308 + z_309))]) rfl ?_
      by_cases c_310 : x2 = 0
      · rw [if_pos c_310] at e
        refine Rn.bf hT rfl rfl rfl (decide_eq_false (fun z => z ((ti_e p2 L32_0).mpr c_310))) ?_
        refine Rn.n hT 3 (pc' := 56) (L' := [some (.ref q0), some (.int (m1 + (z_308 + z_309))), some (.int m2), some (.int m3), some (.int (((4 : Int32) * m2) + m3))]) (st' := [.int (0 : Int32), .int (((4 : Int32) * m2) + m3), .ref q0, .int (m1 + (z_308 + z_309))]) rfl ?_
        obtain ⟨v_311, e_311, e⟩ := Option.bind_eq_some_iff.mp e
        refine Rn.call hT rfl rfl rfl (Nat.le_of_ble_eq_true rfl) (rcv_v gX1_border (by omega) (rp_ck hR (T1_o t0))) (RX1_border (by omega) hR t0 (ti_add (ti_mul L32_4 p2) p3) L32_0 e_311 (fun z_311 p_311 => ?_))
        show Rn d _ _ 59 [some (.ref q0), some (.int (m1 + (z_308 + z_309))), some (.int m2), some (.int m3), some (.int (((4 : Int32) * m2) + m3))] [.int z_311, .int (m1 + (z_308 + z_309))] h Q
        refine Rn.n hT 1 (pc' := 63) (L' := [some (.ref q0), some (.int (m1 + (z_308 + z_309))), some (.int m2), some (.int m3), some (.int (((4 : Int32) * m2) + m3))]) (st' := [.int z_311, .int (m1 + (z_308 + z_309))]) rfl ?_
        exact Rn.weak (ll_s (ll_n (ll_s (ll_s (ll_s ll_e))))) (RX1_mismatches_b63 hd hR t0 p2 p3 (ti_add (ti_mul L32_4 p2) p3) p_311 (ti_add p1 (ti_add p_308 p_309)) ih hk hq e)
      · rw [if_neg c_310] at e
        refine Rn.bt hT rfl rfl rfl (decide_eq_true (fun z => c_310 ((ti_e p2 L32_0).mp z))) ?_
        refine Rn.n hT 1 (pc' := 63) (L' := [some (.ref q0), some (.int (m1 + (z_308 + z_309))), some (.int m2), some (.int m3), some (.int (((4 : Int32) * m2) + m3))]) (st' := [.int (0 : Int32), .int (m1 + (z_308 + z_309))]) rfl ?_
        exact Rn.weak (ll_s (ll_n (ll_s (ll_s (ll_s ll_e))))) (RX1_mismatches_b63 hd hR t0 p2 p3 (ti_add (ti_mul L32_4 p2) p3) L32_0 (ti_add p1 (ti_add p_308 p_309)) ih hk hq e)
def FX1_mismatches_l4 (N : Nat) (s : iv_M) (q0 : Nat) (kx : Int → Option (Int)) : Nat → Int → Int → Option (Int)
  | 0, _, _ => none
  | n + 1, x1, x2 => (if (s q0 1) ≤ x2 then (kx x1) else (FX1_mismatches_l14 N s q0 x2 (fun (x305_1 : Int) => (FX1_mismatches_l4 N s q0 kx n x305_1 (w32 (x2 + 1)))) N x1 0))
set_option maxRecDepth 10000 in
set_option maxHeartbeats 4000000 in
theorem RX1_mismatches_l4 {d N nc Ls : Nat} {Xs : Nat → Int32} (hd : 1 ≤ d) {h : iv_H} {s : iv_M} (hR : Rep nc Ls Xs h s) {q0 : Nat} (t0 : T1 nc q0) {kx : Int → Option (Int)} {r : Int} {Q : Option Value → iv_H → Prop} (hk : ∀ (m1 : Int32) (x1 : Int) (p1 : m1.toInt = x1), kx x1 = some r → Rn d 30 (some .int) 95 [none, some (.int m1), none, none, none] [] h Q) (hq : ∀ (z : Int32), z.toInt = r → Q (some (.int z)) h) : ∀ (n : Nat) (m1 : Int32) (x1 : Int) (p1 : m1.toInt = x1) (m2 : Int32) (x2 : Int) (p2 : m2.toInt = x2), FX1_mismatches_l4 N s q0 kx n x1 x2 = some r → Rn d 30 (some .int) 4 [some (.ref q0), some (.int m1), some (.int m2), none, none] [] h Q := by
  have hT := hX1_mismatches
  intro n
  induction n with
  | zero =>
    intro m1 x1 p1 m2 x2 p2 e
    rw [FX1_mismatches_l4] at e
    cases e
  | succ n ih =>
    intro m1 x1 p1 m2 x2 p2 e
    rw [FX1_mismatches_l4] at e
    refine Rn.n hT 2 (pc' := 6) (L' := [some (.ref q0), some (.int m1), some (.int m2), none, none]) (st' := [.ref q0, .int m2]) rfl ?_
    obtain ⟨z_303, g_303, p_303⟩ : ∃ z : Int32, gI h 1 1 q0 = some z ∧ z.toInt = s q0 1 := rp_gI (k := 1) hR (T1_o t0) rfl
    refine Rn.hp hT rfl rfl (gI_hp g_303) ?_
    by_cases c_304 : (s q0 1) ≤ x2
    · rw [if_pos c_304] at e
      refine Rn.bt hT rfl rfl rfl (decide_eq_true ((ti_le p_303 p2).mpr c_304)) ?_
      exact Rn.weak (ll_n (ll_s (ll_n (ll_n (ll_n ll_e))))) (hk m1 x1 p1 e)
    · rw [if_neg c_304] at e
      refine Rn.bf hT rfl rfl rfl (decide_eq_false (fun z => c_304 ((ti_le p_303 p2).mp z))) ?_
      refine Rn.n hT 2 (pc' := 14) (L' := [some (.ref q0), some (.int m1), some (.int m2), some (.int (0 : Int32)), none]) (st' := []) rfl ?_
      refine Rn.weak (ll_s (ll_s (ll_s (ll_s (ll_n ll_e))))) (RX1_mismatches_l14 hd hR t0 p2 (fun m305_1 x305_1 p305_1 e => ?_) hq N m1 x1 p1 (0 : Int32) 0 L32_0 e)
      try dsimp only at e
      refine Rn.n hT 2 (pc' := 4) (L' := [some (.ref q0), some (.int m305_1), some (.int (m2 + (1 : Int32))), none, none]) (st' := []) rfl ?_
      exact Rn.weak (ll_s (ll_s (ll_s (ll_n (ll_n ll_e))))) (ih m305_1 x305_1 p305_1 (m2 + (1 : Int32)) (w32 (x2 + 1)) (ti_add p2 L32_1) e)
def FX1_mismatches (N : Nat) (s : iv_M) (q0 : Nat) : Option (Int) := (FX1_mismatches_l4 N s q0 (fun (x302_1 : Int) => (some x302_1)) N 0 0)
set_option maxRecDepth 10000 in
set_option maxHeartbeats 4000000 in
theorem RX1_mismatches {d N nc Ls : Nat} {Xs : Nat → Int32} (hd : 2 ≤ d) {h : iv_H} {s : iv_M} (hR : Rep nc Ls Xs h s) {q0 : Nat} (t0 : T1 nc q0) {r : Int} {Q : Option Value → iv_H → Prop} (e : FX1_mismatches N s q0 = some r) (hq : ∀ (z : Int32), z.toInt = r → Q (some (.int z)) h) : Cl d 30 [.ref q0] h Q := by
  obtain ⟨d, rfl⟩ : ∃ k, d = k + 1 := ⟨d - 1, by omega⟩
  have hd : 1 ≤ d := by omega
  have hT := hX1_mismatches
  unfold FX1_mismatches at e
  refine Cl.into (by decide) gX1_mismatches rfl ?_
  show Rn d 30 (some .int) 0 [some (.ref q0), none, none, none, none] [] h Q
  refine Rn.n hT 4 (pc' := 4) (L' := [some (.ref q0), some (.int (0 : Int32)), some (.int (0 : Int32)), none, none]) (st' := []) rfl ?_
  refine Rn.weak (ll_s (ll_s (ll_s (ll_n (ll_n ll_e))))) (RX1_mismatches_l4 hd hR t0 (fun m302_1 x302_1 p302_1 e => ?_) hq N (0 : Int32) 0 L32_0 (0 : Int32) 0 L32_0 e)
  try dsimp only at e
  refine Rn.n hT 1 (pc' := 96) (L' := [none, some (.int m302_1), none, none, none]) (st' := [.int m302_1]) rfl ?_
  obtain rfl := Option.some.inj e
  exact Rn.ret hT rfl rfl rfl (hq m302_1 p302_1)
set_option maxRecDepth 10000 in
theorem hX1_firstMismatch : iv_Tb 31 tX1_firstMismatch := iv_tb_of (m := mX1_firstMismatch) rfl
set_option maxRecDepth 10000 in
theorem gX1_firstMismatch : PG.2 31 = some mX1_firstMismatch := iv_pi_of (t := tX1_firstMismatch) rfl (by decide)
def FX1_firstMismatch_b41 (N : Nat) (s : iv_M) (q0 : Nat) (x1 : Int) (x2 : Int)  (kb : Int → Option (Int)) (kx : Unit → Option (Int)) : Option (Int) := (kb (w32 (x2 + 1)))
set_option maxRecDepth 10000 in
set_option maxHeartbeats 4000000 in
theorem RX1_firstMismatch_b41 {d N nc Ls : Nat} {Xs : Nat → Int32} (hd : 1 ≤ d) {h : iv_H} {s : iv_M} (hR : Rep nc Ls Xs h s) {q0 : Nat} (t0 : T1 nc q0) {m1 : Int32} {x1 : Int} (p1 : m1.toInt = x1) {m2 : Int32} {x2 : Int} (p2 : m2.toInt = x2)  {kb : Int → Option (Int)} {kx : Unit → Option (Int)} {r : Int} {Q : Option Value → iv_H → Prop} (hb : ∀ (mw2 : Int32) (xw2 : Int) (pw2 : mw2.toInt = xw2), kb xw2 = some r → Rn d 31 (some .int) 10 [some (.ref q0), some (.int m1), some (.int mw2)] [] h Q) (hk : ∀ (u : Unit), kx u = some r → Rn d 31 (some .int) 47 [some (.ref q0), some (.int m1), none] [] h Q) (hq : ∀ (z : Int32), z.toInt = r → Q (some (.int z)) h) (e : FX1_firstMismatch_b41 N s q0 x1 x2  kb kx = some r) : Rn d 31 (some .int) 41 [some (.ref q0), some (.int m1), some (.int m2)] [] h Q := by
  have hT := hX1_firstMismatch
  unfold FX1_firstMismatch_b41 at e
  refine Rn.n hT 2 (pc' := 10) (L' := [some (.ref q0), some (.int m1), some (.int (m2 + (1 : Int32)))]) (st' := []) rfl ?_
  exact Rn.weak (ll_s (ll_s (ll_s ll_e))) (hb (m2 + (1 : Int32)) (w32 (x2 + 1)) (ti_add p2 L32_1) e)
def FX1_firstMismatch_l10 (N : Nat) (s : iv_M) (q0 : Nat) (x1 : Int) (kx : Unit → Option (Int)) : Nat → Int → Option (Int)
  | 0, _ => none
  | n + 1, x2 => (if 4 ≤ x2 then (kx ()) else ((rd s (q0 + 3) 16 x1).bind fun v_318 => (if v_318 = (-1) then (FX1_firstMismatch_b41 N s q0 x1 x2 (FX1_firstMismatch_l10 N s q0 x1 kx n) kx) else ((FX1_border N s q0 x1 x2).bind fun v_320 => (if v_320 = 1 then (some (w32 ((w32 (4 * x1)) + x2))) else (FX1_firstMismatch_b41 N s q0 x1 x2 (FX1_firstMismatch_l10 N s q0 x1 kx n) kx))))))
set_option maxRecDepth 10000 in
set_option maxHeartbeats 4000000 in
theorem RX1_firstMismatch_l10 {d N nc Ls : Nat} {Xs : Nat → Int32} (hd : 1 ≤ d) {h : iv_H} {s : iv_M} (hR : Rep nc Ls Xs h s) {q0 : Nat} (t0 : T1 nc q0) {m1 : Int32} {x1 : Int} (p1 : m1.toInt = x1) {kx : Unit → Option (Int)} {r : Int} {Q : Option Value → iv_H → Prop} (hk : ∀ (u : Unit), kx u = some r → Rn d 31 (some .int) 47 [some (.ref q0), some (.int m1), none] [] h Q) (hq : ∀ (z : Int32), z.toInt = r → Q (some (.int z)) h) : ∀ (n : Nat) (m2 : Int32) (x2 : Int) (p2 : m2.toInt = x2), FX1_firstMismatch_l10 N s q0 x1 kx n x2 = some r → Rn d 31 (some .int) 10 [some (.ref q0), some (.int m1), some (.int m2)] [] h Q := by
  have hT := hX1_firstMismatch
  intro n
  induction n with
  | zero =>
    intro m2 x2 p2 e
    rw [FX1_firstMismatch_l10] at e
    cases e
  | succ n ih =>
    intro m2 x2 p2 e
    rw [FX1_firstMismatch_l10] at e
    refine Rn.n hT 2 (pc' := 12) (L' := [some (.ref q0), some (.int m1), some (.int m2)]) (st' := [.int (4 : Int32), .int m2]) rfl ?_
    by_cases c_317 : 4 ≤ x2
    · rw [if_pos c_317] at e
      refine Rn.bt hT rfl rfl rfl (decide_eq_true ((ti_le L32_4 p2).mpr c_317)) ?_
      exact Rn.weak (ll_s (ll_s (ll_n ll_e))) (hk () e)
    · rw [if_neg c_317] at e
      refine Rn.bf hT rfl rfl rfl (decide_eq_false (fun z => c_317 ((ti_le L32_4 p2).mp z))) ?_
      refine Rn.n hT 1 (pc' := 16) (L' := [some (.ref q0), some (.int m1), some (.int m2)]) (st' := [.ref q0]) rfl ?_
      refine Rn.hp hT rfl rfl (gR_hp (rp_gR hR (T1_o t0) rfl)) ?_
      refine Rn.n hT 1 (pc' := 20) (L' := [some (.ref q0), some (.int m1), some (.int m2)]) (st' := [.int m1, .ref (q0 + 3)]) rfl ?_
      obtain ⟨v_318, e_318, e⟩ := Option.bind_eq_some_iff.mp e
      obtain ⟨z_318, g_318, p_318⟩ := rp_aI hR (T1_7 t0) (T1_7l t0) p1 e_318
      refine Rn.hp hT rfl rfl (aI_hp g_318) ?_
      refine Rn.n hT 1 (pc' := 22) (L' := [some (.ref q0), some (.int m1), some (.int m2)]) (st' := [.int (-1 : Int32), .int z_318]) rfl ?_
      by_cases c_319 : v_318 = (-1)
      · rw [if_pos c_319] at e
        refine Rn.bt hT rfl rfl rfl (decide_eq_true ((ti_e p_318 L32_m1).mpr c_319)) ?_
        exact Rn.weak (ll_s (ll_s (ll_s ll_e))) (RX1_firstMismatch_b41 hd hR t0 p1 p2 ih hk hq e)
      · rw [if_neg c_319] at e
        refine Rn.bf hT rfl rfl rfl (decide_eq_false (fun z => c_319 ((ti_e p_318 L32_m1).mp z))) ?_
        refine Rn.n hT 3 (pc' := 28) (L' := [some (.ref q0), some (.int m1), some (.int m2)]) (st' := [.int m2, .int m1, .ref q0]) rfl ?_
        obtain ⟨v_320, e_320, e⟩ := Option.bind_eq_some_iff.mp e
        refine Rn.call hT rfl rfl rfl (Nat.le_of_ble_eq_true rfl) (rcv_v gX1_border (by omega) (rp_ck hR (T1_o t0))) (RX1_border (by omega) hR t0 p1 p2 e_320 (fun z_320 p_320 => ?_))
        show Rn d _ _ 31 [some (.ref q0), some (.int m1), some (.int m2)] [.int z_320] h Q
        refine Rn.n hT 1 (pc' := 32) (L' := [some (.ref q0), some (.int m1), some (.int m2)]) (st' := [.int (1 : Int32), .int z_320]) rfl ?_
        by_cases c_321 : v_320 = 1
        · rw [if_pos c_321] at e
          refine Rn.bf hT rfl rfl rfl (decide_eq_false (fun z => z ((ti_e p_320 L32_1).mpr c_321))) ?_
          refine Rn.n hT 5 (pc' := 40) (L' := [some (.ref q0), some (.int m1), some (.int m2)]) (st' := [.int (((4 : Int32) * m1) + m2)]) rfl ?_
          obtain rfl := Option.some.inj e
          exact Rn.ret hT rfl rfl rfl (hq (((4 : Int32) * m1) + m2) (ti_add (ti_mul L32_4 p1) p2))
        · rw [if_neg c_321] at e
          refine Rn.bt hT rfl rfl rfl (decide_eq_true (fun z => c_321 ((ti_e p_320 L32_1).mp z))) ?_
          exact Rn.weak (ll_s (ll_s (ll_s ll_e))) (RX1_firstMismatch_b41 hd hR t0 p1 p2 ih hk hq e)
def FX1_firstMismatch_l2 (N : Nat) (s : iv_M) (q0 : Nat) (kx : Unit → Option (Int)) : Nat → Int → Option (Int)
  | 0, _ => none
  | n + 1, x1 => (if 16 ≤ x1 then (kx ()) else (FX1_firstMismatch_l10 N s q0 x1 (fun (_ : Unit) => (FX1_firstMismatch_l2 N s q0 kx n (w32 (x1 + 1)))) N 0))
set_option maxRecDepth 10000 in
set_option maxHeartbeats 4000000 in
theorem RX1_firstMismatch_l2 {d N nc Ls : Nat} {Xs : Nat → Int32} (hd : 1 ≤ d) {h : iv_H} {s : iv_M} (hR : Rep nc Ls Xs h s) {q0 : Nat} (t0 : T1 nc q0) {kx : Unit → Option (Int)} {r : Int} {Q : Option Value → iv_H → Prop} (hk : ∀ (u : Unit), kx u = some r → Rn d 31 (some .int) 53 [none, none, none] [] h Q) (hq : ∀ (z : Int32), z.toInt = r → Q (some (.int z)) h) : ∀ (n : Nat) (m1 : Int32) (x1 : Int) (p1 : m1.toInt = x1), FX1_firstMismatch_l2 N s q0 kx n x1 = some r → Rn d 31 (some .int) 2 [some (.ref q0), some (.int m1), none] [] h Q := by
  have hT := hX1_firstMismatch
  intro n
  induction n with
  | zero =>
    intro m1 x1 p1 e
    rw [FX1_firstMismatch_l2] at e
    cases e
  | succ n ih =>
    intro m1 x1 p1 e
    rw [FX1_firstMismatch_l2] at e
    refine Rn.n hT 2 (pc' := 5) (L' := [some (.ref q0), some (.int m1), none]) (st' := [.int (16 : Int32), .int m1]) rfl ?_
    by_cases c_315 : 16 ≤ x1
    · rw [if_pos c_315] at e
      refine Rn.bt hT rfl rfl rfl (decide_eq_true ((ti_le L32_16 p1).mpr c_315)) ?_
      exact Rn.weak (ll_n (ll_n (ll_n ll_e))) (hk () e)
    · rw [if_neg c_315] at e
      refine Rn.bf hT rfl rfl rfl (decide_eq_false (fun z => c_315 ((ti_le L32_16 p1).mp z))) ?_
      refine Rn.n hT 2 (pc' := 10) (L' := [some (.ref q0), some (.int m1), some (.int (0 : Int32))]) (st' := []) rfl ?_
      refine Rn.weak (ll_s (ll_s (ll_s ll_e))) (RX1_firstMismatch_l10 hd hR t0 p1 (fun _ e => ?_) hq N (0 : Int32) 0 L32_0 e)
      try dsimp only at e
      refine Rn.n hT 2 (pc' := 2) (L' := [some (.ref q0), some (.int (m1 + (1 : Int32))), none]) (st' := []) rfl ?_
      exact Rn.weak (ll_s (ll_s (ll_n ll_e))) (ih (m1 + (1 : Int32)) (w32 (x1 + 1)) (ti_add p1 L32_1) e)
def FX1_firstMismatch (N : Nat) (s : iv_M) (q0 : Nat) : Option (Int) := (FX1_firstMismatch_l2 N s q0 (fun (_ : Unit) => (some (-1))) N 0)
set_option maxRecDepth 10000 in
set_option maxHeartbeats 4000000 in
theorem RX1_firstMismatch {d N nc Ls : Nat} {Xs : Nat → Int32} (hd : 2 ≤ d) {h : iv_H} {s : iv_M} (hR : Rep nc Ls Xs h s) {q0 : Nat} (t0 : T1 nc q0) {r : Int} {Q : Option Value → iv_H → Prop} (e : FX1_firstMismatch N s q0 = some r) (hq : ∀ (z : Int32), z.toInt = r → Q (some (.int z)) h) : Cl d 31 [.ref q0] h Q := by
  obtain ⟨d, rfl⟩ : ∃ k, d = k + 1 := ⟨d - 1, by omega⟩
  have hd : 1 ≤ d := by omega
  have hT := hX1_firstMismatch
  unfold FX1_firstMismatch at e
  refine Cl.into (by decide) gX1_firstMismatch rfl ?_
  show Rn d 31 (some .int) 0 [some (.ref q0), none, none] [] h Q
  refine Rn.n hT 2 (pc' := 2) (L' := [some (.ref q0), some (.int (0 : Int32)), none]) (st' := []) rfl ?_
  refine Rn.weak (ll_s (ll_s (ll_n ll_e))) (RX1_firstMismatch_l2 hd hR t0 (fun _ e => ?_) hq N (0 : Int32) 0 L32_0 e)
  try dsimp only at e
  refine Rn.n hT 1 (pc' := 54) (L' := [none, none, none]) (st' := [.int (-1 : Int32)]) rfl ?_
  obtain rfl := Option.some.inj e
  exact Rn.ret hT rfl rfl rfl (hq (-1 : Int32) L32_m1)
set_option maxRecDepth 10000 in
theorem hX1_fits : iv_Tb 32 tX1_fits := iv_tb_of (m := mX1_fits) rfl
set_option maxRecDepth 10000 in
theorem gX1_fits : PG.2 32 = some mX1_fits := iv_pi_of (t := tX1_fits) rfl (by decide)
def FX1_fits_b97 (N : Nat) (s : iv_M) (q0 : Nat) (x1 : Int) (x2 : Int)  (kb : Int → Option (Int)) (kx : Unit → Option (Int)) : Option (Int) := (kb (w32 (x2 + 1)))
set_option maxRecDepth 10000 in
set_option maxHeartbeats 4000000 in
theorem RX1_fits_b97 {d N nc Ls : Nat} {Xs : Nat → Int32} (hd : 0 ≤ d) {h : iv_H} {s : iv_M} (hR : Rep nc Ls Xs h s) {q0 : Nat} (t0 : T1 nc q0) {m1 : Int32} {x1 : Int} (p1 : m1.toInt = x1) {m2 : Int32} {x2 : Int} (p2 : m2.toInt = x2)  {kb : Int → Option (Int)} {kx : Unit → Option (Int)} {r : Int} {Q : Option Value → iv_H → Prop} (hb : ∀ (mw2 : Int32) (xw2 : Int) (pw2 : mw2.toInt = xw2), kb xw2 = some r → Rn d 32 (some .boolean) 2 [some (.ref q0), some (.int m1), some (.int mw2), none, none, none] [] h Q) (hk : ∀ (u : Unit), kx u = some r → Rn d 32 (some .boolean) 103 [none, none, none, none, none, none] [] h Q) (hq : ∀ (z : Int32), z.toInt = r → Q (some (.int z)) h) (e : FX1_fits_b97 N s q0 x1 x2  kb kx = some r) : Rn d 32 (some .boolean) 97 [some (.ref q0), some (.int m1), some (.int m2), none, none, none] [] h Q := by
  have hT := hX1_fits
  unfold FX1_fits_b97 at e
  refine Rn.n hT 2 (pc' := 2) (L' := [some (.ref q0), some (.int m1), some (.int (m2 + (1 : Int32))), none, none, none]) (st' := []) rfl ?_
  exact Rn.weak (ll_s (ll_s (ll_s (ll_n (ll_n (ll_n ll_e)))))) (hb (m2 + (1 : Int32)) (w32 (x2 + 1)) (ti_add p2 L32_1) e)
def FX1_fits_b68 (N : Nat) (s : iv_M) (q0 : Nat) (x1 : Int) (x2 : Int) (x3 : Int) (x4 : Int) (x5 : Int)  (kb : Int → Option (Int)) (kx : Unit → Option (Int)) : Option (Int) := (if x5 = 0 then ((rd s (q0 + 5) 64 x3).bind fun v_333 => ((rd s (q0 + 5) 64 (w32 ((w32 (4 * x4)) + (bXo x2 2)))).bind fun v_334 => (if v_333 = v_334 then (FX1_fits_b97 N s q0 x1 x2 kb kx) else (some 0)))) else (FX1_fits_b97 N s q0 x1 x2 kb kx))
set_option maxRecDepth 10000 in
set_option maxHeartbeats 4000000 in
theorem RX1_fits_b68 {d N nc Ls : Nat} {Xs : Nat → Int32} (hd : 0 ≤ d) {h : iv_H} {s : iv_M} (hR : Rep nc Ls Xs h s) {q0 : Nat} (t0 : T1 nc q0) {m1 : Int32} {x1 : Int} (p1 : m1.toInt = x1) {m2 : Int32} {x2 : Int} (p2 : m2.toInt = x2) {m3 : Int32} {x3 : Int} (p3 : m3.toInt = x3) {m4 : Int32} {x4 : Int} (p4 : m4.toInt = x4) {m5 : Int32} {x5 : Int} (p5 : m5.toInt = x5)  {kb : Int → Option (Int)} {kx : Unit → Option (Int)} {r : Int} {Q : Option Value → iv_H → Prop} (hb : ∀ (mw2 : Int32) (xw2 : Int) (pw2 : mw2.toInt = xw2), kb xw2 = some r → Rn d 32 (some .boolean) 2 [some (.ref q0), some (.int m1), some (.int mw2), none, none, none] [] h Q) (hk : ∀ (u : Unit), kx u = some r → Rn d 32 (some .boolean) 103 [none, none, none, none, none, none] [] h Q) (hq : ∀ (z : Int32), z.toInt = r → Q (some (.int z)) h) (e : FX1_fits_b68 N s q0 x1 x2 x3 x4 x5  kb kx = some r) : Rn d 32 (some .boolean) 68 [some (.ref q0), some (.int m1), some (.int m2), some (.int m3), some (.int m4), some (.int m5)] [] h Q := by
  have hT := hX1_fits
  unfold FX1_fits_b68 at e
  refine Rn.n hT 1 (pc' := 70) (L' := [some (.ref q0), some (.int m1), some (.int m2), some (.int m3), some (.int m4), some (.int m5)]) (st' := [.int m5]) rfl ?_
  by_cases c_332 : x5 = 0
  · rw [if_pos c_332] at e
    refine Rn.bf hT rfl rfl rfl (decide_eq_false (fun z => z ((ti_e p5 L32_0).mpr c_332))) ?_
    refine Rn.n hT 1 (pc' := 74) (L' := [some (.ref q0), some (.int m1), some (.int m2), some (.int m3), some (.int m4), some (.int m5)]) (st' := [.ref q0]) rfl ?_
    refine Rn.hp hT rfl rfl (gR_hp (rp_gR hR (T1_o t0) rfl)) ?_
    refine Rn.n hT 1 (pc' := 78) (L' := [some (.ref q0), some (.int m1), some (.int m2), some (.int m3), some (.int m4), some (.int m5)]) (st' := [.int m3, .ref (q0 + 5)]) rfl ?_
    obtain ⟨v_333, e_333, e⟩ := Option.bind_eq_some_iff.mp e
    obtain ⟨z_333, g_333, p_333⟩ := rp_aI hR (T1_9 t0) (T1_9l t0) p3 e_333
    refine Rn.hp hT rfl rfl (aI_hp g_333) ?_
    refine Rn.n hT 1 (pc' := 80) (L' := [some (.ref q0), some (.int m1), some (.int m2), some (.int m3), some (.int m4), some (.int m5)]) (st' := [.ref q0, .int z_333]) rfl ?_
    refine Rn.hp hT rfl rfl (gR_hp (rp_gR hR (T1_o t0) rfl)) ?_
    refine Rn.n hT 7 (pc' := 91) (L' := [some (.ref q0), some (.int m1), some (.int m2), some (.int m3), some (.int m4), some (.int m5)]) (st' := [.int (((4 : Int32) * m4) + (m2 ^^^ (2 : Int32))), .ref (q0 + 5), .int z_333]) rfl ?_
    obtain ⟨v_334, e_334, e⟩ := Option.bind_eq_some_iff.mp e
    obtain ⟨z_334, g_334, p_334⟩ := rp_aI hR (T1_9 t0) (T1_9l t0) (ti_add (ti_mul L32_4 p4) (ti_xor p2 L32_2)) e_334
    refine Rn.hp hT rfl rfl (aI_hp g_334) ?_
    by_cases c_335 : v_333 = v_334
    · rw [if_pos c_335] at e
      refine Rn.bt hT rfl rfl rfl (decide_eq_true ((ti_e p_333 p_334).mpr c_335)) ?_
      exact Rn.weak (ll_s (ll_s (ll_s (ll_n (ll_n (ll_n ll_e)))))) (RX1_fits_b97 hd hR t0 p1 p2 hb hk hq e)
    · rw [if_neg c_335] at e
      refine Rn.bf hT rfl rfl rfl (decide_eq_false (fun z => c_335 ((ti_e p_333 p_334).mp z))) ?_
      refine Rn.n hT 1 (pc' := 96) (L' := [some (.ref q0), some (.int m1), some (.int m2), some (.int m3), some (.int m4), some (.int m5)]) (st' := [.int (0 : Int32)]) rfl ?_
      obtain rfl := Option.some.inj e
      exact Rn.ret hT rfl rfl rfl (hq (0 : Int32) L32_0)
  · rw [if_neg c_332] at e
    refine Rn.bt hT rfl rfl rfl (decide_eq_true (fun z => c_332 ((ti_e p5 L32_0).mp z))) ?_
    exact Rn.weak (ll_s (ll_s (ll_s (ll_n (ll_n (ll_n ll_e)))))) (RX1_fits_b97 hd hR t0 p1 p2 hb hk hq e)
def FX1_fits_b48 (N : Nat) (s : iv_M) (q0 : Nat) (x1 : Int) (x2 : Int) (x3 : Int) (x4 : Int) (xs0 : Int) (kb : Int → Option (Int)) (kx : Unit → Option (Int)) : Option (Int) := (if x4 = (-1) then ((rd s (q0 + 5) 64 x3).bind fun v_330 => (if v_330 = 1 then (some 0) else (FX1_fits_b68 N s q0 x1 x2 x3 x4 xs0 kb kx))) else (FX1_fits_b68 N s q0 x1 x2 x3 x4 xs0 kb kx))
set_option maxRecDepth 10000 in
set_option maxHeartbeats 4000000 in
theorem RX1_fits_b48 {d N nc Ls : Nat} {Xs : Nat → Int32} (hd : 0 ≤ d) {h : iv_H} {s : iv_M} (hR : Rep nc Ls Xs h s) {q0 : Nat} (t0 : T1 nc q0) {m1 : Int32} {x1 : Int} (p1 : m1.toInt = x1) {m2 : Int32} {x2 : Int} (p2 : m2.toInt = x2) {m3 : Int32} {x3 : Int} (p3 : m3.toInt = x3) {m4 : Int32} {x4 : Int} (p4 : m4.toInt = x4) {ms0 : Int32} {xs0 : Int} (ps0 : ms0.toInt = xs0) {kb : Int → Option (Int)} {kx : Unit → Option (Int)} {r : Int} {Q : Option Value → iv_H → Prop} (hb : ∀ (mw2 : Int32) (xw2 : Int) (pw2 : mw2.toInt = xw2), kb xw2 = some r → Rn d 32 (some .boolean) 2 [some (.ref q0), some (.int m1), some (.int mw2), none, none, none] [] h Q) (hk : ∀ (u : Unit), kx u = some r → Rn d 32 (some .boolean) 103 [none, none, none, none, none, none] [] h Q) (hq : ∀ (z : Int32), z.toInt = r → Q (some (.int z)) h) (e : FX1_fits_b48 N s q0 x1 x2 x3 x4 xs0 kb kx = some r) : Rn d 32 (some .boolean) 48 [some (.ref q0), some (.int m1), some (.int m2), some (.int m3), some (.int m4), none] [.int ms0] h Q := by
  have hT := hX1_fits
  unfold FX1_fits_b48 at e
  refine Rn.n hT 3 (pc' := 53) (L' := [some (.ref q0), some (.int m1), some (.int m2), some (.int m3), some (.int m4), some (.int ms0)]) (st' := [.int (-1 : Int32), .int m4]) rfl ?_
  by_cases c_329 : x4 = (-1)
  · rw [if_pos c_329] at e
    refine Rn.bf hT rfl rfl rfl (decide_eq_false (fun z => z ((ti_e p4 L32_m1).mpr c_329))) ?_
    refine Rn.n hT 1 (pc' := 57) (L' := [some (.ref q0), some (.int m1), some (.int m2), some (.int m3), some (.int m4), some (.int ms0)]) (st' := [.ref q0]) rfl ?_
    refine Rn.hp hT rfl rfl (gR_hp (rp_gR hR (T1_o t0) rfl)) ?_
    refine Rn.n hT 1 (pc' := 61) (L' := [some (.ref q0), some (.int m1), some (.int m2), some (.int m3), some (.int m4), some (.int ms0)]) (st' := [.int m3, .ref (q0 + 5)]) rfl ?_
    obtain ⟨v_330, e_330, e⟩ := Option.bind_eq_some_iff.mp e
    obtain ⟨z_330, g_330, p_330⟩ := rp_aI hR (T1_9 t0) (T1_9l t0) p3 e_330
    refine Rn.hp hT rfl rfl (aI_hp g_330) ?_
    refine Rn.n hT 1 (pc' := 63) (L' := [some (.ref q0), some (.int m1), some (.int m2), some (.int m3), some (.int m4), some (.int ms0)]) (st' := [.int (1 : Int32), .int z_330]) rfl ?_
    by_cases c_331 : v_330 = 1
    · rw [if_pos c_331] at e
      refine Rn.bf hT rfl rfl rfl (decide_eq_false (fun z => z ((ti_e p_330 L32_1).mpr c_331))) ?_
      refine Rn.n hT 1 (pc' := 67) (L' := [some (.ref q0), some (.int m1), some (.int m2), some (.int m3), some (.int m4), some (.int ms0)]) (st' := [.int (0 : Int32)]) rfl ?_
      obtain rfl := Option.some.inj e
      exact Rn.ret hT rfl rfl rfl (hq (0 : Int32) L32_0)
    · rw [if_neg c_331] at e
      refine Rn.bt hT rfl rfl rfl (decide_eq_true (fun z => c_331 ((ti_e p_330 L32_1).mp z))) ?_
      exact Rn.weak (ll_s (ll_s (ll_s (ll_s (ll_s (ll_s ll_e)))))) (RX1_fits_b68 hd hR t0 p1 p2 p3 p4 ps0 hb hk hq e)
  · rw [if_neg c_329] at e
    refine Rn.bt hT rfl rfl rfl (decide_eq_true (fun z => c_329 ((ti_e p4 L32_m1).mp z))) ?_
    exact Rn.weak (ll_s (ll_s (ll_s (ll_s (ll_s (ll_s ll_e)))))) (RX1_fits_b68 hd hR t0 p1 p2 p3 p4 ps0 hb hk hq e)
def FX1_fits_b43 (N : Nat) (s : iv_M) (q0 : Nat) (x1 : Int) (x2 : Int) (x3 : Int) (x4 : Int)  (kb : Int → Option (Int)) (kx : Unit → Option (Int)) : Option (Int) := (FX1_fits_b48 N s q0 x1 x2 x3 x4 1 kb kx)
set_option maxRecDepth 10000 in
set_option maxHeartbeats 4000000 in
theorem RX1_fits_b43 {d N nc Ls : Nat} {Xs : Nat → Int32} (hd : 0 ≤ d) {h : iv_H} {s : iv_M} (hR : Rep nc Ls Xs h s) {q0 : Nat} (t0 : T1 nc q0) {m1 : Int32} {x1 : Int} (p1 : m1.toInt = x1) {m2 : Int32} {x2 : Int} (p2 : m2.toInt = x2) {m3 : Int32} {x3 : Int} (p3 : m3.toInt = x3) {m4 : Int32} {x4 : Int} (p4 : m4.toInt = x4)  {kb : Int → Option (Int)} {kx : Unit → Option (Int)} {r : Int} {Q : Option Value → iv_H → Prop} (hb : ∀ (mw2 : Int32) (xw2 : Int) (pw2 : mw2.toInt = xw2), kb xw2 = some r → Rn d 32 (some .boolean) 2 [some (.ref q0), some (.int m1), some (.int mw2), none, none, none] [] h Q) (hk : ∀ (u : Unit), kx u = some r → Rn d 32 (some .boolean) 103 [none, none, none, none, none, none] [] h Q) (hq : ∀ (z : Int32), z.toInt = r → Q (some (.int z)) h) (e : FX1_fits_b43 N s q0 x1 x2 x3 x4  kb kx = some r) : Rn d 32 (some .boolean) 43 [some (.ref q0), some (.int m1), some (.int m2), some (.int m3), some (.int m4), none] [] h Q := by
  have hT := hX1_fits
  unfold FX1_fits_b43 at e
  refine Rn.n hT 2 (pc' := 48) (L' := [some (.ref q0), some (.int m1), some (.int m2), some (.int m3), some (.int m4), none]) (st' := [.int (1 : Int32)]) rfl ?_
  exact Rn.weak (ll_s (ll_s (ll_s (ll_s (ll_s (ll_n ll_e)))))) (RX1_fits_b48 hd hR t0 p1 p2 p3 p4 L32_1 hb hk hq e)
def FX1_fits_l2 (N : Nat) (s : iv_M) (q0 : Nat) (x1 : Int) (kx : Unit → Option (Int)) : Nat → Int → Option (Int)
  | 0, _ => none
  | n + 1, x2 => (if 4 ≤ x2 then (kx ()) else ((rd s (q0 + 1) 12 x1).bind fun v_324 => ((rd s (q0 + 6) 64 (w32 ((w32 (4 * v_324)) + x2))).bind fun v_325 => (if v_325 = (-1) then (FX1_fits_b43 N s q0 x1 x2 (w32 ((w32 (4 * v_324)) + x2)) v_325 (FX1_fits_l2 N s q0 x1 kx n) kx) else ((rd s (q0 + 3) 16 v_325).bind fun v_327 => (if v_327 = (-1) then (FX1_fits_b43 N s q0 x1 x2 (w32 ((w32 (4 * v_324)) + x2)) v_325 (FX1_fits_l2 N s q0 x1 kx n) kx) else (FX1_fits_b48 N s q0 x1 x2 (w32 ((w32 (4 * v_324)) + x2)) v_325 0 (FX1_fits_l2 N s q0 x1 kx n) kx)))))))
set_option maxRecDepth 10000 in
set_option maxHeartbeats 4000000 in
theorem RX1_fits_l2 {d N nc Ls : Nat} {Xs : Nat → Int32} (hd : 0 ≤ d) {h : iv_H} {s : iv_M} (hR : Rep nc Ls Xs h s) {q0 : Nat} (t0 : T1 nc q0) {m1 : Int32} {x1 : Int} (p1 : m1.toInt = x1) {kx : Unit → Option (Int)} {r : Int} {Q : Option Value → iv_H → Prop} (hk : ∀ (u : Unit), kx u = some r → Rn d 32 (some .boolean) 103 [none, none, none, none, none, none] [] h Q) (hq : ∀ (z : Int32), z.toInt = r → Q (some (.int z)) h) : ∀ (n : Nat) (m2 : Int32) (x2 : Int) (p2 : m2.toInt = x2), FX1_fits_l2 N s q0 x1 kx n x2 = some r → Rn d 32 (some .boolean) 2 [some (.ref q0), some (.int m1), some (.int m2), none, none, none] [] h Q := by
  have hT := hX1_fits
  intro n
  induction n with
  | zero =>
    intro m2 x2 p2 e
    rw [FX1_fits_l2] at e
    cases e
  | succ n ih =>
    intro m2 x2 p2 e
    rw [FX1_fits_l2] at e
    refine Rn.n hT 2 (pc' := 4) (L' := [some (.ref q0), some (.int m1), some (.int m2), none, none, none]) (st' := [.int (4 : Int32), .int m2]) rfl ?_
    by_cases c_323 : 4 ≤ x2
    · rw [if_pos c_323] at e
      refine Rn.bt hT rfl rfl rfl (decide_eq_true ((ti_le L32_4 p2).mpr c_323)) ?_
      exact Rn.weak (ll_n (ll_n (ll_n (ll_n (ll_n (ll_n ll_e)))))) (hk () e)
    · rw [if_neg c_323] at e
      refine Rn.bf hT rfl rfl rfl (decide_eq_false (fun z => c_323 ((ti_le L32_4 p2).mp z))) ?_
      refine Rn.n hT 2 (pc' := 9) (L' := [some (.ref q0), some (.int m1), some (.int m2), none, none, none]) (st' := [.ref q0, .int (4 : Int32)]) rfl ?_
      refine Rn.hp hT rfl rfl (gR_hp (rp_gR hR (T1_o t0) rfl)) ?_
      refine Rn.n hT 1 (pc' := 13) (L' := [some (.ref q0), some (.int m1), some (.int m2), none, none, none]) (st' := [.int m1, .ref (q0 + 1), .int (4 : Int32)]) rfl ?_
      obtain ⟨v_324, e_324, e⟩ := Option.bind_eq_some_iff.mp e
      obtain ⟨z_324, g_324, p_324⟩ := rp_aI hR (T1_5 t0) (T1_5l t0) p1 e_324
      refine Rn.hp hT rfl rfl (aI_hp g_324) ?_
      refine Rn.n hT 5 (pc' := 19) (L' := [some (.ref q0), some (.int m1), some (.int m2), some (.int (((4 : Int32) * z_324) + m2)), none, none]) (st' := [.ref q0]) rfl ?_
      refine Rn.hp hT rfl rfl (gR_hp (rp_gR hR (T1_o t0) rfl)) ?_
      refine Rn.n hT 1 (pc' := 23) (L' := [some (.ref q0), some (.int m1), some (.int m2), some (.int (((4 : Int32) * z_324) + m2)), none, none]) (st' := [.int (((4 : Int32) * z_324) + m2), .ref (q0 + 6)]) rfl ?_
      obtain ⟨v_325, e_325, e⟩ := Option.bind_eq_some_iff.mp e
      obtain ⟨z_325, g_325, p_325⟩ := rp_aI hR (T1_10 t0) (T1_10l t0) (ti_add (ti_mul L32_4 p_324) p2) e_325
      refine Rn.hp hT rfl rfl (aI_hp g_325) ?_
      refine Rn.n hT 3 (pc' := 29) (L' := [some (.ref q0), some (.int m1), some (.int m2), some (.int (((4 : Int32) * z_324) + m2)), some (.int z_325), none]) (st' := [.int (-1 : Int32), .int z_325]) rfl ?_
      by_cases c_326 : v_325 = (-1)
      · rw [if_pos c_326] at e
        refine Rn.bt hT rfl rfl rfl (decide_eq_true ((ti_e p_325 L32_m1).mpr c_326)) ?_
        exact Rn.weak (ll_s (ll_s (ll_s (ll_s (ll_s (ll_n ll_e)))))) (RX1_fits_b43 hd hR t0 p1 p2 (ti_add (ti_mul L32_4 p_324) p2) p_325 ih hk hq e)
      · rw [if_neg c_326] at e
        refine Rn.bf hT rfl rfl rfl (decide_eq_false (fun z => c_326 ((ti_e p_325 L32_m1).mp z))) ?_
        refine Rn.n hT 1 (pc' := 33) (L' := [some (.ref q0), some (.int m1), some (.int m2), some (.int (((4 : Int32) * z_324) + m2)), some (.int z_325), none]) (st' := [.ref q0]) rfl ?_
        refine Rn.hp hT rfl rfl (gR_hp (rp_gR hR (T1_o t0) rfl)) ?_
        refine Rn.n hT 1 (pc' := 38) (L' := [some (.ref q0), some (.int m1), some (.int m2), some (.int (((4 : Int32) * z_324) + m2)), some (.int z_325), none]) (st' := [.int z_325, .ref (q0 + 3)]) rfl ?_
        obtain ⟨v_327, e_327, e⟩ := Option.bind_eq_some_iff.mp e
        obtain ⟨z_327, g_327, p_327⟩ := rp_aI hR (T1_7 t0) (T1_7l t0) p_325 e_327
        refine Rn.hp hT rfl rfl (aI_hp g_327) ?_
        refine Rn.n hT 1 (pc' := 40) (L' := [some (.ref q0), some (.int m1), some (.int m2), some (.int (((4 : Int32) * z_324) + m2)), some (.int z_325), none]) (st' := [.int (-1 : Int32), .int z_327]) rfl ?_
        by_cases c_328 : v_327 = (-1)
        · rw [if_pos c_328] at e
          refine Rn.bf hT rfl rfl rfl (decide_eq_false (fun z => z ((ti_e p_327 L32_m1).mpr c_328))) ?_
          exact Rn.weak (ll_s (ll_s (ll_s (ll_s (ll_s (ll_n ll_e)))))) (RX1_fits_b43 hd hR t0 p1 p2 (ti_add (ti_mul L32_4 p_324) p2) p_325 ih hk hq e)
        · rw [if_neg c_328] at e
          refine Rn.bt hT rfl rfl rfl (decide_eq_true (fun z => c_328 ((ti_e p_327 L32_m1).mp z))) ?_
          refine Rn.n hT 1 (pc' := 48) (L' := [some (.ref q0), some (.int m1), some (.int m2), some (.int (((4 : Int32) * z_324) + m2)), some (.int z_325), none]) (st' := [.int (0 : Int32)]) rfl ?_
          exact Rn.weak (ll_s (ll_s (ll_s (ll_s (ll_s (ll_n ll_e)))))) (RX1_fits_b48 hd hR t0 p1 p2 (ti_add (ti_mul L32_4 p_324) p2) p_325 L32_0 ih hk hq e)
def FX1_fits (N : Nat) (s : iv_M) (q0 : Nat) (x1 : Int) : Option (Int) := (FX1_fits_l2 N s q0 x1 (fun (_ : Unit) => (some 1)) N 0)
set_option maxRecDepth 10000 in
set_option maxHeartbeats 4000000 in
theorem RX1_fits {d N nc Ls : Nat} {Xs : Nat → Int32} (hd : 1 ≤ d) {h : iv_H} {s : iv_M} (hR : Rep nc Ls Xs h s) {q0 : Nat} (t0 : T1 nc q0) {m1 : Int32} {x1 : Int} (p1 : m1.toInt = x1) {r : Int} {Q : Option Value → iv_H → Prop} (e : FX1_fits N s q0 x1 = some r) (hq : ∀ (z : Int32), z.toInt = r → Q (some (.int z)) h) : Cl d 32 [.ref q0, .int m1] h Q := by
  obtain ⟨d, rfl⟩ : ∃ k, d = k + 1 := ⟨d - 1, by omega⟩
  have hd : 0 ≤ d := by omega
  have hT := hX1_fits
  unfold FX1_fits at e
  refine Cl.into (by decide) gX1_fits rfl ?_
  show Rn d 32 (some .boolean) 0 [some (.ref q0), some (.int m1), none, none, none, none] [] h Q
  refine Rn.n hT 2 (pc' := 2) (L' := [some (.ref q0), some (.int m1), some (.int (0 : Int32)), none, none, none]) (st' := []) rfl ?_
  refine Rn.weak (ll_s (ll_s (ll_s (ll_n (ll_n (ll_n ll_e)))))) (RX1_fits_l2 hd hR t0 p1 (fun _ e => ?_) hq N (0 : Int32) 0 L32_0 e)
  try dsimp only at e
  refine Rn.n hT 1 (pc' := 104) (L' := [none, none, none, none, none, none]) (st' := [.int (1 : Int32)]) rfl ?_
  obtain rfl := Option.some.inj e
  exact Rn.ret hT rfl rfl rfl (hq (1 : Int32) L32_1)
set_option maxRecDepth 10000 in
theorem hX1_doorsOf : iv_Tb 33 tX1_doorsOf := iv_tb_of (m := mX1_doorsOf) rfl
set_option maxRecDepth 10000 in
theorem gX1_doorsOf : PG.2 33 = some mX1_doorsOf := iv_pi_of (t := tX1_doorsOf) rfl (by decide)
def FX1_doorsOf_b39 (N : Nat) (s : iv_M) (q0 : Nat) (x1 : Int) (x3 : Int) (xs0 : Int) (xs1 : Int) (kb : Int → Int → Option (Int)) (kx : Int → Option (Int)) : Option (Int) := (kb (w32 (xs1 + xs0)) (w32 (x3 + 1)))
set_option maxRecDepth 10000 in
set_option maxHeartbeats 4000000 in
theorem RX1_doorsOf_b39 {d N nc Ls : Nat} {Xs : Nat → Int32} (hd : 0 ≤ d) {h : iv_H} {s : iv_M} (hR : Rep nc Ls Xs h s) {q0 : Nat} (t0 : T1 nc q0) {m1 : Int32} {x1 : Int} (p1 : m1.toInt = x1) {m3 : Int32} {x3 : Int} (p3 : m3.toInt = x3) {ms0 : Int32} {xs0 : Int} (ps0 : ms0.toInt = xs0) {ms1 : Int32} {xs1 : Int} (ps1 : ms1.toInt = xs1) {kb : Int → Int → Option (Int)} {kx : Int → Option (Int)} {r : Int} {Q : Option Value → iv_H → Prop} (hb : ∀ (mw2 : Int32) (xw2 : Int) (pw2 : mw2.toInt = xw2) (mw3 : Int32) (xw3 : Int) (pw3 : mw3.toInt = xw3), kb xw2 xw3 = some r → Rn d 33 (some .int) 4 [some (.ref q0), some (.int m1), some (.int mw2), some (.int mw3), none] [] h Q) (hk : ∀ (mw2 : Int32) (xw2 : Int) (pw2 : mw2.toInt = xw2), kx xw2 = some r → Rn d 33 (some .int) 47 [none, none, some (.int mw2), none, none] [] h Q) (hq : ∀ (z : Int32), z.toInt = r → Q (some (.int z)) h) (e : FX1_doorsOf_b39 N s q0 x1 x3 xs0 xs1 kb kx = some r) : Rn d 33 (some .int) 39 [some (.ref q0), some (.int m1), none, some (.int m3), none] [.int ms0, .int ms1] h Q := by
  have hT := hX1_doorsOf
  unfold FX1_doorsOf_b39 at e
  refine Rn.n hT 4 (pc' := 4) (L' := [some (.ref q0), some (.int m1), some (.int (ms1 + ms0)), some (.int (m3 + (1 : Int32))), none]) (st' := []) rfl ?_
  exact Rn.weak (ll_s (ll_s (ll_s (ll_s (ll_n ll_e))))) (hb (ms1 + ms0) (w32 (xs1 + xs0)) (ti_add ps1 ps0) (m3 + (1 : Int32)) (w32 (x3 + 1)) (ti_add p3 L32_1) e)
def FX1_doorsOf_b34 (N : Nat) (s : iv_M) (q0 : Nat) (x1 : Int) (x3 : Int) (xs0 : Int) (kb : Int → Int → Option (Int)) (kx : Int → Option (Int)) : Option (Int) := (FX1_doorsOf_b39 N s q0 x1 x3 1 xs0 kb kx)
set_option maxRecDepth 10000 in
set_option maxHeartbeats 4000000 in
theorem RX1_doorsOf_b34 {d N nc Ls : Nat} {Xs : Nat → Int32} (hd : 0 ≤ d) {h : iv_H} {s : iv_M} (hR : Rep nc Ls Xs h s) {q0 : Nat} (t0 : T1 nc q0) {m1 : Int32} {x1 : Int} (p1 : m1.toInt = x1) {m3 : Int32} {x3 : Int} (p3 : m3.toInt = x3) {ms0 : Int32} {xs0 : Int} (ps0 : ms0.toInt = xs0) {kb : Int → Int → Option (Int)} {kx : Int → Option (Int)} {r : Int} {Q : Option Value → iv_H → Prop} (hb : ∀ (mw2 : Int32) (xw2 : Int) (pw2 : mw2.toInt = xw2) (mw3 : Int32) (xw3 : Int) (pw3 : mw3.toInt = xw3), kb xw2 xw3 = some r → Rn d 33 (some .int) 4 [some (.ref q0), some (.int m1), some (.int mw2), some (.int mw3), none] [] h Q) (hk : ∀ (mw2 : Int32) (xw2 : Int) (pw2 : mw2.toInt = xw2), kx xw2 = some r → Rn d 33 (some .int) 47 [none, none, some (.int mw2), none, none] [] h Q) (hq : ∀ (z : Int32), z.toInt = r → Q (some (.int z)) h) (e : FX1_doorsOf_b34 N s q0 x1 x3 xs0 kb kx = some r) : Rn d 33 (some .int) 34 [some (.ref q0), some (.int m1), none, some (.int m3), none] [.int ms0] h Q := by
  have hT := hX1_doorsOf
  unfold FX1_doorsOf_b34 at e
  refine Rn.n hT 2 (pc' := 39) (L' := [some (.ref q0), some (.int m1), none, some (.int m3), none]) (st' := [.int (1 : Int32), .int ms0]) rfl ?_
  exact Rn.weak (ll_s (ll_s (ll_n (ll_s (ll_n ll_e))))) (RX1_doorsOf_b39 hd hR t0 p1 p3 L32_1 ps0 hb hk hq e)
def FX1_doorsOf_l4 (N : Nat) (s : iv_M) (q0 : Nat) (x1 : Int) (kx : Int → Option (Int)) : Nat → Int → Int → Option (Int)
  | 0, _, _ => none
  | n + 1, x2, x3 => (if 4 ≤ x3 then (kx x2) else ((rd s (q0 + 4) 48 (w32 ((w32 (4 * x1)) + x3))).bind fun v_338 => (if v_338 = 1 then (FX1_doorsOf_b34 N s q0 x1 x3 x2 (FX1_doorsOf_l4 N s q0 x1 kx n) kx) else (if v_338 < 3 then (FX1_doorsOf_b39 N s q0 x1 x3 0 x2 (FX1_doorsOf_l4 N s q0 x1 kx n) kx) else (FX1_doorsOf_b34 N s q0 x1 x3 x2 (FX1_doorsOf_l4 N s q0 x1 kx n) kx)))))
set_option maxRecDepth 10000 in
set_option maxHeartbeats 4000000 in
theorem RX1_doorsOf_l4 {d N nc Ls : Nat} {Xs : Nat → Int32} (hd : 0 ≤ d) {h : iv_H} {s : iv_M} (hR : Rep nc Ls Xs h s) {q0 : Nat} (t0 : T1 nc q0) {m1 : Int32} {x1 : Int} (p1 : m1.toInt = x1) {kx : Int → Option (Int)} {r : Int} {Q : Option Value → iv_H → Prop} (hk : ∀ (m2 : Int32) (x2 : Int) (p2 : m2.toInt = x2), kx x2 = some r → Rn d 33 (some .int) 47 [none, none, some (.int m2), none, none] [] h Q) (hq : ∀ (z : Int32), z.toInt = r → Q (some (.int z)) h) : ∀ (n : Nat) (m2 : Int32) (x2 : Int) (p2 : m2.toInt = x2) (m3 : Int32) (x3 : Int) (p3 : m3.toInt = x3), FX1_doorsOf_l4 N s q0 x1 kx n x2 x3 = some r → Rn d 33 (some .int) 4 [some (.ref q0), some (.int m1), some (.int m2), some (.int m3), none] [] h Q := by
  have hT := hX1_doorsOf
  intro n
  induction n with
  | zero =>
    intro m2 x2 p2 m3 x3 p3 e
    rw [FX1_doorsOf_l4] at e
    cases e
  | succ n ih =>
    intro m2 x2 p2 m3 x3 p3 e
    rw [FX1_doorsOf_l4] at e
    refine Rn.n hT 2 (pc' := 6) (L' := [some (.ref q0), some (.int m1), some (.int m2), some (.int m3), none]) (st' := [.int (4 : Int32), .int m3]) rfl ?_
    by_cases c_337 : 4 ≤ x3
    · rw [if_pos c_337] at e
      refine Rn.bt hT rfl rfl rfl (decide_eq_true ((ti_le L32_4 p3).mpr c_337)) ?_
      exact Rn.weak (ll_n (ll_n (ll_s (ll_n (ll_n ll_e))))) (hk m2 x2 p2 e)
    · rw [if_neg c_337] at e
      refine Rn.bf hT rfl rfl rfl (decide_eq_false (fun z => c_337 ((ti_le L32_4 p3).mp z))) ?_
      refine Rn.n hT 1 (pc' := 10) (L' := [some (.ref q0), some (.int m1), some (.int m2), some (.int m3), none]) (st' := [.ref q0]) rfl ?_
      refine Rn.hp hT rfl rfl (gR_hp (rp_gR hR (T1_o t0) rfl)) ?_
      refine Rn.n hT 5 (pc' := 18) (L' := [some (.ref q0), some (.int m1), some (.int m2), some (.int m3), none]) (st' := [.int (((4 : Int32) * m1) + m3), .ref (q0 + 4)]) rfl ?_
      obtain ⟨v_338, e_338, e⟩ := Option.bind_eq_some_iff.mp e
      obtain ⟨z_338, g_338, p_338⟩ := rp_aI hR (T1_8 t0) (T1_8l t0) (ti_add (ti_mul L32_4 p1) p3) e_338
      refine Rn.hp hT rfl rfl (aI_hp g_338) ?_
      refine Rn.n hT 4 (pc' := 25) (L' := [some (.ref q0), some (.int m1), some (.int m2), some (.int m3), some (.int z_338)]) (st' := [.int (1 : Int32), .int z_338, .int m2]) rfl ?_
      by_cases c_339 : v_338 = 1
      · rw [if_pos c_339] at e
        refine Rn.bt hT rfl rfl rfl (decide_eq_true ((ti_e p_338 L32_1).mpr c_339)) ?_
        exact Rn.weak (ll_s (ll_s (ll_n (ll_s (ll_n ll_e))))) (RX1_doorsOf_b34 hd hR t0 p1 p3 p2 ih hk hq e)
      · rw [if_neg c_339] at e
        refine Rn.bf hT rfl rfl rfl (decide_eq_false (fun z => c_339 ((ti_e p_338 L32_1).mp z))) ?_
        refine Rn.n hT 2 (pc' := 31) (L' := [some (.ref q0), some (.int m1), some (.int m2), some (.int m3), some (.int z_338)]) (st' := [.int (3 : Int32), .int z_338, .int m2]) rfl ?_
        by_cases c_340 : v_338 < 3
        · rw [if_pos c_340] at e
          refine Rn.bt hT rfl rfl rfl (decide_eq_true ((ti_l p_338 L32_3).mpr c_340)) ?_
          refine Rn.n hT 1 (pc' := 39) (L' := [some (.ref q0), some (.int m1), some (.int m2), some (.int m3), some (.int z_338)]) (st' := [.int (0 : Int32), .int m2]) rfl ?_
          exact Rn.weak (ll_s (ll_s (ll_n (ll_s (ll_n ll_e))))) (RX1_doorsOf_b39 hd hR t0 p1 p3 L32_0 p2 ih hk hq e)
        · rw [if_neg c_340] at e
          refine Rn.bf hT rfl rfl rfl (decide_eq_false (fun z => c_340 ((ti_l p_338 L32_3).mp z))) ?_
          exact Rn.weak (ll_s (ll_s (ll_n (ll_s (ll_n ll_e))))) (RX1_doorsOf_b34 hd hR t0 p1 p3 p2 ih hk hq e)
def FX1_doorsOf (N : Nat) (s : iv_M) (q0 : Nat) (x1 : Int) : Option (Int) := (FX1_doorsOf_l4 N s q0 x1 (fun (x336_2 : Int) => (some x336_2)) N 0 0)
set_option maxRecDepth 10000 in
set_option maxHeartbeats 4000000 in
theorem RX1_doorsOf {d N nc Ls : Nat} {Xs : Nat → Int32} (hd : 1 ≤ d) {h : iv_H} {s : iv_M} (hR : Rep nc Ls Xs h s) {q0 : Nat} (t0 : T1 nc q0) {m1 : Int32} {x1 : Int} (p1 : m1.toInt = x1) {r : Int} {Q : Option Value → iv_H → Prop} (e : FX1_doorsOf N s q0 x1 = some r) (hq : ∀ (z : Int32), z.toInt = r → Q (some (.int z)) h) : Cl d 33 [.ref q0, .int m1] h Q := by
  obtain ⟨d, rfl⟩ : ∃ k, d = k + 1 := ⟨d - 1, by omega⟩
  have hd : 0 ≤ d := by omega
  have hT := hX1_doorsOf
  unfold FX1_doorsOf at e
  refine Cl.into (by decide) gX1_doorsOf rfl ?_
  show Rn d 33 (some .int) 0 [some (.ref q0), some (.int m1), none, none, none] [] h Q
  refine Rn.n hT 4 (pc' := 4) (L' := [some (.ref q0), some (.int m1), some (.int (0 : Int32)), some (.int (0 : Int32)), none]) (st' := []) rfl ?_
  refine Rn.weak (ll_s (ll_s (ll_s (ll_s (ll_n ll_e))))) (RX1_doorsOf_l4 hd hR t0 p1 (fun m336_2 x336_2 p336_2 e => ?_) hq N (0 : Int32) 0 L32_0 (0 : Int32) 0 L32_0 e)
  try dsimp only at e
  refine Rn.n hT 1 (pc' := 48) (L' := [none, none, some (.int m336_2), none, none]) (st' := [.int m336_2]) rfl ?_
  obtain rfl := Option.some.inj e
  exact Rn.ret hT rfl rfl rfl (hq m336_2 p336_2)
set_option maxRecDepth 10000 in
theorem hX1_locksOf : iv_Tb 34 tX1_locksOf := iv_tb_of (m := mX1_locksOf) rfl
set_option maxRecDepth 10000 in
theorem gX1_locksOf : PG.2 34 = some mX1_locksOf := iv_pi_of (t := tX1_locksOf) rfl (by decide)
def FX1_locksOf_b29 (N : Nat) (s : iv_M) (q0 : Nat) (x1 : Int) (x3 : Int) (xs0 : Int) (xs1 : Int) (kb : Int → Int → Option (Int)) (kx : Int → Option (Int)) : Option (Int) := (kb (w32 (xs1 + xs0)) (w32 (x3 + 1)))
set_option maxRecDepth 10000 in
set_option maxHeartbeats 4000000 in
theorem RX1_locksOf_b29 {d N nc Ls : Nat} {Xs : Nat → Int32} (hd : 0 ≤ d) {h : iv_H} {s : iv_M} (hR : Rep nc Ls Xs h s) {q0 : Nat} (t0 : T1 nc q0) {m1 : Int32} {x1 : Int} (p1 : m1.toInt = x1) {m3 : Int32} {x3 : Int} (p3 : m3.toInt = x3) {ms0 : Int32} {xs0 : Int} (ps0 : ms0.toInt = xs0) {ms1 : Int32} {xs1 : Int} (ps1 : ms1.toInt = xs1) {kb : Int → Int → Option (Int)} {kx : Int → Option (Int)} {r : Int} {Q : Option Value → iv_H → Prop} (hb : ∀ (mw2 : Int32) (xw2 : Int) (pw2 : mw2.toInt = xw2) (mw3 : Int32) (xw3 : Int) (pw3 : mw3.toInt = xw3), kb xw2 xw3 = some r → Rn d 34 (some .int) 4 [some (.ref q0), some (.int m1), some (.int mw2), some (.int mw3)] [] h Q) (hk : ∀ (mw2 : Int32) (xw2 : Int) (pw2 : mw2.toInt = xw2), kx xw2 = some r → Rn d 34 (some .int) 37 [none, none, some (.int mw2), none] [] h Q) (hq : ∀ (z : Int32), z.toInt = r → Q (some (.int z)) h) (e : FX1_locksOf_b29 N s q0 x1 x3 xs0 xs1 kb kx = some r) : Rn d 34 (some .int) 29 [some (.ref q0), some (.int m1), none, some (.int m3)] [.int ms0, .int ms1] h Q := by
  have hT := hX1_locksOf
  unfold FX1_locksOf_b29 at e
  refine Rn.n hT 4 (pc' := 4) (L' := [some (.ref q0), some (.int m1), some (.int (ms1 + ms0)), some (.int (m3 + (1 : Int32)))]) (st' := []) rfl ?_
  exact Rn.weak (ll_s (ll_s (ll_s (ll_s ll_e)))) (hb (ms1 + ms0) (w32 (xs1 + xs0)) (ti_add ps1 ps0) (m3 + (1 : Int32)) (w32 (x3 + 1)) (ti_add p3 L32_1) e)
def FX1_locksOf_l4 (N : Nat) (s : iv_M) (q0 : Nat) (x1 : Int) (kx : Int → Option (Int)) : Nat → Int → Int → Option (Int)
  | 0, _, _ => none
  | n + 1, x2, x3 => (if 4 ≤ x3 then (kx x2) else ((rd s (q0 + 4) 48 (w32 ((w32 (4 * x1)) + x3))).bind fun v_343 => (if v_343 < 3 then (FX1_locksOf_b29 N s q0 x1 x3 0 x2 (FX1_locksOf_l4 N s q0 x1 kx n) kx) else (FX1_locksOf_b29 N s q0 x1 x3 1 x2 (FX1_locksOf_l4 N s q0 x1 kx n) kx))))
set_option maxRecDepth 10000 in
set_option maxHeartbeats 4000000 in
theorem RX1_locksOf_l4 {d N nc Ls : Nat} {Xs : Nat → Int32} (hd : 0 ≤ d) {h : iv_H} {s : iv_M} (hR : Rep nc Ls Xs h s) {q0 : Nat} (t0 : T1 nc q0) {m1 : Int32} {x1 : Int} (p1 : m1.toInt = x1) {kx : Int → Option (Int)} {r : Int} {Q : Option Value → iv_H → Prop} (hk : ∀ (m2 : Int32) (x2 : Int) (p2 : m2.toInt = x2), kx x2 = some r → Rn d 34 (some .int) 37 [none, none, some (.int m2), none] [] h Q) (hq : ∀ (z : Int32), z.toInt = r → Q (some (.int z)) h) : ∀ (n : Nat) (m2 : Int32) (x2 : Int) (p2 : m2.toInt = x2) (m3 : Int32) (x3 : Int) (p3 : m3.toInt = x3), FX1_locksOf_l4 N s q0 x1 kx n x2 x3 = some r → Rn d 34 (some .int) 4 [some (.ref q0), some (.int m1), some (.int m2), some (.int m3)] [] h Q := by
  have hT := hX1_locksOf
  intro n
  induction n with
  | zero =>
    intro m2 x2 p2 m3 x3 p3 e
    rw [FX1_locksOf_l4] at e
    cases e
  | succ n ih =>
    intro m2 x2 p2 m3 x3 p3 e
    rw [FX1_locksOf_l4] at e
    refine Rn.n hT 2 (pc' := 6) (L' := [some (.ref q0), some (.int m1), some (.int m2), some (.int m3)]) (st' := [.int (4 : Int32), .int m3]) rfl ?_
    by_cases c_342 : 4 ≤ x3
    · rw [if_pos c_342] at e
      refine Rn.bt hT rfl rfl rfl (decide_eq_true ((ti_le L32_4 p3).mpr c_342)) ?_
      exact Rn.weak (ll_n (ll_n (ll_s (ll_n ll_e)))) (hk m2 x2 p2 e)
    · rw [if_neg c_342] at e
      refine Rn.bf hT rfl rfl rfl (decide_eq_false (fun z => c_342 ((ti_le L32_4 p3).mp z))) ?_
      refine Rn.n hT 2 (pc' := 11) (L' := [some (.ref q0), some (.int m1), some (.int m2), some (.int m3)]) (st' := [.ref q0, .int m2]) rfl ?_
      refine Rn.hp hT rfl rfl (gR_hp (rp_gR hR (T1_o t0) rfl)) ?_
      refine Rn.n hT 5 (pc' := 19) (L' := [some (.ref q0), some (.int m1), some (.int m2), some (.int m3)]) (st' := [.int (((4 : Int32) * m1) + m3), .ref (q0 + 4), .int m2]) rfl ?_
      obtain ⟨v_343, e_343, e⟩ := Option.bind_eq_some_iff.mp e
      obtain ⟨z_343, g_343, p_343⟩ := rp_aI hR (T1_8 t0) (T1_8l t0) (ti_add (ti_mul L32_4 p1) p3) e_343
      refine Rn.hp hT rfl rfl (aI_hp g_343) ?_
      refine Rn.n hT 1 (pc' := 21) (L' := [some (.ref q0), some (.int m1), some (.int m2), some (.int m3)]) (st' := [.int (3 : Int32), .int z_343, .int m2]) rfl ?_
      by_cases c_344 : v_343 < 3
      · rw [if_pos c_344] at e
        refine Rn.bt hT rfl rfl rfl (decide_eq_true ((ti_l p_343 L32_3).mpr c_344)) ?_
        refine Rn.n hT 1 (pc' := 29) (L' := [some (.ref q0), some (.int m1), some (.int m2), some (.int m3)]) (st' := [.int (0 : Int32), .int m2]) rfl ?_
        exact Rn.weak (ll_s (ll_s (ll_n (ll_s ll_e)))) (RX1_locksOf_b29 hd hR t0 p1 p3 L32_0 p2 ih hk hq e)
      · rw [if_neg c_344] at e
        refine Rn.bf hT rfl rfl rfl (decide_eq_false (fun z => c_344 ((ti_l p_343 L32_3).mp z))) ?_
        refine Rn.n hT 2 (pc' := 29) (L' := [some (.ref q0), some (.int m1), some (.int m2), some (.int m3)]) (st' := [.int (1 : Int32), .int m2]) rfl ?_
        exact Rn.weak (ll_s (ll_s (ll_n (ll_s ll_e)))) (RX1_locksOf_b29 hd hR t0 p1 p3 L32_1 p2 ih hk hq e)
def FX1_locksOf (N : Nat) (s : iv_M) (q0 : Nat) (x1 : Int) : Option (Int) := (FX1_locksOf_l4 N s q0 x1 (fun (x341_2 : Int) => (some x341_2)) N 0 0)
set_option maxRecDepth 10000 in
set_option maxHeartbeats 4000000 in
theorem RX1_locksOf {d N nc Ls : Nat} {Xs : Nat → Int32} (hd : 1 ≤ d) {h : iv_H} {s : iv_M} (hR : Rep nc Ls Xs h s) {q0 : Nat} (t0 : T1 nc q0) {m1 : Int32} {x1 : Int} (p1 : m1.toInt = x1) {r : Int} {Q : Option Value → iv_H → Prop} (e : FX1_locksOf N s q0 x1 = some r) (hq : ∀ (z : Int32), z.toInt = r → Q (some (.int z)) h) : Cl d 34 [.ref q0, .int m1] h Q := by
  obtain ⟨d, rfl⟩ : ∃ k, d = k + 1 := ⟨d - 1, by omega⟩
  have hd : 0 ≤ d := by omega
  have hT := hX1_locksOf
  unfold FX1_locksOf at e
  refine Cl.into (by decide) gX1_locksOf rfl ?_
  show Rn d 34 (some .int) 0 [some (.ref q0), some (.int m1), none, none] [] h Q
  refine Rn.n hT 4 (pc' := 4) (L' := [some (.ref q0), some (.int m1), some (.int (0 : Int32)), some (.int (0 : Int32))]) (st' := []) rfl ?_
  refine Rn.weak (ll_s (ll_s (ll_s (ll_s ll_e)))) (RX1_locksOf_l4 hd hR t0 p1 (fun m341_2 x341_2 p341_2 e => ?_) hq N (0 : Int32) 0 L32_0 (0 : Int32) 0 L32_0 e)
  try dsimp only at e
  refine Rn.n hT 1 (pc' := 38) (L' := [none, none, some (.int m341_2), none]) (st' := [.int m341_2]) rfl ?_
  obtain rfl := Option.some.inj e
  exact Rn.ret hT rfl rfl rfl (hq m341_2 p341_2)
set_option maxRecDepth 10000 in
theorem hX1_doorToDoor : iv_Tb 37 tX1_doorToDoor := iv_tb_of (m := mX1_doorToDoor) rfl
set_option maxRecDepth 10000 in
theorem gX1_doorToDoor : PG.2 37 = some mX1_doorToDoor := iv_pi_of (t := tX1_doorToDoor) rfl (by decide)
def FX1_doorToDoor_l2 (N : Nat) (s : iv_M) (q0 : Nat) (x1 : Int) (x2 : Int) (kx : Unit → Option (Int)) : Nat → Int → Option (Int)
  | 0, _ => none
  | n + 1, x3 => (if 4 ≤ x3 then (kx ()) else ((FX1_throughDoor N s q0 x1 x3).bind fun v_347 => (if v_347 = x2 then (some 1) else (FX1_doorToDoor_l2 N s q0 x1 x2 kx n (w32 (x3 + 1))))))
set_option maxRecDepth 10000 in
set_option maxHeartbeats 4000000 in
theorem RX1_doorToDoor_l2 {d N nc Ls : Nat} {Xs : Nat → Int32} (hd : 1 ≤ d) {h : iv_H} {s : iv_M} (hR : Rep nc Ls Xs h s) {q0 : Nat} (t0 : T1 nc q0) {m1 : Int32} {x1 : Int} (p1 : m1.toInt = x1) {m2 : Int32} {x2 : Int} (p2 : m2.toInt = x2) {kx : Unit → Option (Int)} {r : Int} {Q : Option Value → iv_H → Prop} (hk : ∀ (u : Unit), kx u = some r → Rn d 37 (some .boolean) 25 [none, none, none, none] [] h Q) (hq : ∀ (z : Int32), z.toInt = r → Q (some (.int z)) h) : ∀ (n : Nat) (m3 : Int32) (x3 : Int) (p3 : m3.toInt = x3), FX1_doorToDoor_l2 N s q0 x1 x2 kx n x3 = some r → Rn d 37 (some .boolean) 2 [some (.ref q0), some (.int m1), some (.int m2), some (.int m3)] [] h Q := by
  have hT := hX1_doorToDoor
  intro n
  induction n with
  | zero =>
    intro m3 x3 p3 e
    rw [FX1_doorToDoor_l2] at e
    cases e
  | succ n ih =>
    intro m3 x3 p3 e
    rw [FX1_doorToDoor_l2] at e
    refine Rn.n hT 2 (pc' := 4) (L' := [some (.ref q0), some (.int m1), some (.int m2), some (.int m3)]) (st' := [.int (4 : Int32), .int m3]) rfl ?_
    by_cases c_346 : 4 ≤ x3
    · rw [if_pos c_346] at e
      refine Rn.bt hT rfl rfl rfl (decide_eq_true ((ti_le L32_4 p3).mpr c_346)) ?_
      exact Rn.weak (ll_n (ll_n (ll_n (ll_n ll_e)))) (hk () e)
    · rw [if_neg c_346] at e
      refine Rn.bf hT rfl rfl rfl (decide_eq_false (fun z => c_346 ((ti_le L32_4 p3).mp z))) ?_
      refine Rn.n hT 3 (pc' := 10) (L' := [some (.ref q0), some (.int m1), some (.int m2), some (.int m3)]) (st' := [.int m3, .int m1, .ref q0]) rfl ?_
      obtain ⟨v_347, e_347, e⟩ := Option.bind_eq_some_iff.mp e
      refine Rn.call hT rfl rfl rfl (Nat.le_of_ble_eq_true rfl) (rcv_v gX1_throughDoor (by omega) (rp_ck hR (T1_o t0))) (RX1_throughDoor (by omega) hR t0 p1 p3 e_347 (fun z_347 p_347 => ?_))
      show Rn d _ _ 13 [some (.ref q0), some (.int m1), some (.int m2), some (.int m3)] [.int z_347] h Q
      refine Rn.n hT 1 (pc' := 14) (L' := [some (.ref q0), some (.int m1), some (.int m2), some (.int m3)]) (st' := [.int m2, .int z_347]) rfl ?_
      by_cases c_348 : v_347 = x2
      · rw [if_pos c_348] at e
        refine Rn.bf hT rfl rfl rfl (decide_eq_false (fun z => z ((ti_e p_347 p2).mpr c_348))) ?_
        refine Rn.n hT 1 (pc' := 18) (L' := [some (.ref q0), some (.int m1), some (.int m2), some (.int m3)]) (st' := [.int (1 : Int32)]) rfl ?_
        obtain rfl := Option.some.inj e
        exact Rn.ret hT rfl rfl rfl (hq (1 : Int32) L32_1)
      · rw [if_neg c_348] at e
        refine Rn.bt hT rfl rfl rfl (decide_eq_true (fun z => c_348 ((ti_e p_347 p2).mp z))) ?_
        refine Rn.n hT 2 (pc' := 2) (L' := [some (.ref q0), some (.int m1), some (.int m2), some (.int (m3 + (1 : Int32)))]) (st' := []) rfl ?_
        exact Rn.weak (ll_s (ll_s (ll_s (ll_s ll_e)))) (ih (m3 + (1 : Int32)) (w32 (x3 + 1)) (ti_add p3 L32_1) e)
def FX1_doorToDoor (N : Nat) (s : iv_M) (q0 : Nat) (x1 : Int) (x2 : Int) : Option (Int) := (FX1_doorToDoor_l2 N s q0 x1 x2 (fun (_ : Unit) => (some 0)) N 0)
set_option maxRecDepth 10000 in
set_option maxHeartbeats 4000000 in
theorem RX1_doorToDoor {d N nc Ls : Nat} {Xs : Nat → Int32} (hd : 2 ≤ d) {h : iv_H} {s : iv_M} (hR : Rep nc Ls Xs h s) {q0 : Nat} (t0 : T1 nc q0) {m1 : Int32} {x1 : Int} (p1 : m1.toInt = x1) {m2 : Int32} {x2 : Int} (p2 : m2.toInt = x2) {r : Int} {Q : Option Value → iv_H → Prop} (e : FX1_doorToDoor N s q0 x1 x2 = some r) (hq : ∀ (z : Int32), z.toInt = r → Q (some (.int z)) h) : Cl d 37 [.ref q0, .int m1, .int m2] h Q := by
  obtain ⟨d, rfl⟩ : ∃ k, d = k + 1 := ⟨d - 1, by omega⟩
  have hd : 1 ≤ d := by omega
  have hT := hX1_doorToDoor
  unfold FX1_doorToDoor at e
  refine Cl.into (by decide) gX1_doorToDoor rfl ?_
  show Rn d 37 (some .boolean) 0 [some (.ref q0), some (.int m1), some (.int m2), none] [] h Q
  refine Rn.n hT 2 (pc' := 2) (L' := [some (.ref q0), some (.int m1), some (.int m2), some (.int (0 : Int32))]) (st' := []) rfl ?_
  refine Rn.weak (ll_s (ll_s (ll_s (ll_s ll_e)))) (RX1_doorToDoor_l2 hd hR t0 p1 p2 (fun _ e => ?_) hq N (0 : Int32) 0 L32_0 e)
  try dsimp only at e
  refine Rn.n hT 1 (pc' := 26) (L' := [none, none, none, none]) (st' := [.int (0 : Int32)]) rfl ?_
  obtain rfl := Option.some.inj e
  exact Rn.ret hT rfl rfl rfl (hq (0 : Int32) L32_0)
set_option maxRecDepth 10000 in
theorem hX1_mostDoors : iv_Tb 38 tX1_mostDoors := iv_tb_of (m := mX1_mostDoors) rfl
set_option maxRecDepth 10000 in
theorem gX1_mostDoors : PG.2 38 = some mX1_mostDoors := iv_pi_of (t := tX1_mostDoors) rfl (by decide)
def FX1_mostDoors_b32 (N : Nat) (s : iv_M) (q0 : Nat) (x1 : Int) (x2 : Int)  (kb : Int → Int → Option (Int)) (kx : Int → Option (Int)) : Option (Int) := (kb x1 (w32 (x2 + 1)))
set_option maxRecDepth 10000 in
set_option maxHeartbeats 4000000 in
theorem RX1_mostDoors_b32 {d N nc Ls : Nat} {Xs : Nat → Int32} (hd : 1 ≤ d) {h : iv_H} {s : iv_M} (hR : Rep nc Ls Xs h s) {q0 : Nat} (t0 : T1 nc q0) {m1 : Int32} {x1 : Int} (p1 : m1.toInt = x1) {m2 : Int32} {x2 : Int} (p2 : m2.toInt = x2)  {kb : Int → Int → Option (Int)} {kx : Int → Option (Int)} {r : Int} {Q : Option Value → iv_H → Prop} (hb : ∀ (mw1 : Int32) (xw1 : Int) (pw1 : mw1.toInt = xw1) (mw2 : Int32) (xw2 : Int) (pw2 : mw2.toInt = xw2), kb xw1 xw2 = some r → Rn d 38 (some .int) 4 [some (.ref q0), some (.int mw1), some (.int mw2)] [] h Q) (hk : ∀ (mw1 : Int32) (xw1 : Int) (pw1 : mw1.toInt = xw1), kx xw1 = some r → Rn d 38 (some .int) 38 [none, some (.int mw1), none] [] h Q) (hq : ∀ (z : Int32), z.toInt = r → Q (some (.int z)) h) (e : FX1_mostDoors_b32 N s q0 x1 x2  kb kx = some r) : Rn d 38 (some .int) 32 [some (.ref q0), some (.int m1), some (.int m2)] [] h Q := by
  have hT := hX1_mostDoors
  unfold FX1_mostDoors_b32 at e
  refine Rn.n hT 2 (pc' := 4) (L' := [some (.ref q0), some (.int m1), some (.int (m2 + (1 : Int32)))]) (st' := []) rfl ?_
  exact Rn.weak (ll_s (ll_s (ll_s ll_e))) (hb m1 x1 p1 (m2 + (1 : Int32)) (w32 (x2 + 1)) (ti_add p2 L32_1) e)
def FX1_mostDoors_b30 (N : Nat) (s : iv_M) (q0 : Nat) (x2 : Int)  (kb : Int → Int → Option (Int)) (kx : Int → Option (Int)) : Option (Int) := (FX1_mostDoors_b32 N s q0 x2 x2 kb kx)
set_option maxRecDepth 10000 in
set_option maxHeartbeats 4000000 in
theorem RX1_mostDoors_b30 {d N nc Ls : Nat} {Xs : Nat → Int32} (hd : 1 ≤ d) {h : iv_H} {s : iv_M} (hR : Rep nc Ls Xs h s) {q0 : Nat} (t0 : T1 nc q0) {m2 : Int32} {x2 : Int} (p2 : m2.toInt = x2)  {kb : Int → Int → Option (Int)} {kx : Int → Option (Int)} {r : Int} {Q : Option Value → iv_H → Prop} (hb : ∀ (mw1 : Int32) (xw1 : Int) (pw1 : mw1.toInt = xw1) (mw2 : Int32) (xw2 : Int) (pw2 : mw2.toInt = xw2), kb xw1 xw2 = some r → Rn d 38 (some .int) 4 [some (.ref q0), some (.int mw1), some (.int mw2)] [] h Q) (hk : ∀ (mw1 : Int32) (xw1 : Int) (pw1 : mw1.toInt = xw1), kx xw1 = some r → Rn d 38 (some .int) 38 [none, some (.int mw1), none] [] h Q) (hq : ∀ (z : Int32), z.toInt = r → Q (some (.int z)) h) (e : FX1_mostDoors_b30 N s q0 x2  kb kx = some r) : Rn d 38 (some .int) 30 [some (.ref q0), none, some (.int m2)] [] h Q := by
  have hT := hX1_mostDoors
  unfold FX1_mostDoors_b30 at e
  refine Rn.n hT 2 (pc' := 32) (L' := [some (.ref q0), some (.int m2), some (.int m2)]) (st' := []) rfl ?_
  exact Rn.weak (ll_s (ll_s (ll_s ll_e))) (RX1_mostDoors_b32 hd hR t0 p2 p2 hb hk hq e)
def FX1_mostDoors_l4 (N : Nat) (s : iv_M) (q0 : Nat) (kx : Int → Option (Int)) : Nat → Int → Int → Option (Int)
  | 0, _, _ => none
  | n + 1, x1, x2 => (if (s q0 2) ≤ x2 then (kx x1) else (if x1 = (-1) then (FX1_mostDoors_b30 N s q0 x2 (FX1_mostDoors_l4 N s q0 kx n) kx) else ((FX1_doorsOf N s q0 x2).bind fun v_353 => ((FX1_doorsOf N s q0 x1).bind fun v_354 => (if v_353 ≤ v_354 then (FX1_mostDoors_b32 N s q0 x1 x2 (FX1_mostDoors_l4 N s q0 kx n) kx) else (FX1_mostDoors_b30 N s q0 x2 (FX1_mostDoors_l4 N s q0 kx n) kx))))))
set_option maxRecDepth 10000 in
set_option maxHeartbeats 4000000 in
theorem RX1_mostDoors_l4 {d N nc Ls : Nat} {Xs : Nat → Int32} (hd : 1 ≤ d) {h : iv_H} {s : iv_M} (hR : Rep nc Ls Xs h s) {q0 : Nat} (t0 : T1 nc q0) {kx : Int → Option (Int)} {r : Int} {Q : Option Value → iv_H → Prop} (hk : ∀ (m1 : Int32) (x1 : Int) (p1 : m1.toInt = x1), kx x1 = some r → Rn d 38 (some .int) 38 [none, some (.int m1), none] [] h Q) (hq : ∀ (z : Int32), z.toInt = r → Q (some (.int z)) h) : ∀ (n : Nat) (m1 : Int32) (x1 : Int) (p1 : m1.toInt = x1) (m2 : Int32) (x2 : Int) (p2 : m2.toInt = x2), FX1_mostDoors_l4 N s q0 kx n x1 x2 = some r → Rn d 38 (some .int) 4 [some (.ref q0), some (.int m1), some (.int m2)] [] h Q := by
  have hT := hX1_mostDoors
  intro n
  induction n with
  | zero =>
    intro m1 x1 p1 m2 x2 p2 e
    rw [FX1_mostDoors_l4] at e
    cases e
  | succ n ih =>
    intro m1 x1 p1 m2 x2 p2 e
    rw [FX1_mostDoors_l4] at e
    refine Rn.n hT 2 (pc' := 6) (L' := [some (.ref q0), some (.int m1), some (.int m2)]) (st' := [.ref q0, .int m2]) rfl ?_
    obtain ⟨z_350, g_350, p_350⟩ : ∃ z : Int32, gI h 1 2 q0 = some z ∧ z.toInt = s q0 2 := rp_gI (k := 2) hR (T1_o t0) rfl
    refine Rn.hp hT rfl rfl (gI_hp g_350) ?_
    by_cases c_351 : (s q0 2) ≤ x2
    · rw [if_pos c_351] at e
      refine Rn.bt hT rfl rfl rfl (decide_eq_true ((ti_le p_350 p2).mpr c_351)) ?_
      exact Rn.weak (ll_n (ll_s (ll_n ll_e))) (hk m1 x1 p1 e)
    · rw [if_neg c_351] at e
      refine Rn.bf hT rfl rfl rfl (decide_eq_false (fun z => c_351 ((ti_le p_350 p2).mp z))) ?_
      refine Rn.n hT 2 (pc' := 14) (L' := [some (.ref q0), some (.int m1), some (.int m2)]) (st' := [.int (-1 : Int32), .int m1]) rfl ?_
      by_cases c_352 : x1 = (-1)
      · rw [if_pos c_352] at e
        refine Rn.bt hT rfl rfl rfl (decide_eq_true ((ti_e p1 L32_m1).mpr c_352)) ?_
        exact Rn.weak (ll_s (ll_n (ll_s ll_e))) (RX1_mostDoors_b30 hd hR t0 p2 ih hk hq e)
      · rw [if_neg c_352] at e
        refine Rn.bf hT rfl rfl rfl (decide_eq_false (fun z => c_352 ((ti_e p1 L32_m1).mp z))) ?_
        refine Rn.n hT 2 (pc' := 19) (L' := [some (.ref q0), some (.int m1), some (.int m2)]) (st' := [.int m2, .ref q0]) rfl ?_
        obtain ⟨v_353, e_353, e⟩ := Option.bind_eq_some_iff.mp e
        refine Rn.call hT rfl rfl rfl (Nat.le_of_ble_eq_true rfl) (rcv_v gX1_doorsOf (by omega) (rp_ck hR (T1_o t0))) (RX1_doorsOf (by omega) hR t0 p2 e_353 (fun z_353 p_353 => ?_))
        show Rn d _ _ 22 [some (.ref q0), some (.int m1), some (.int m2)] [.int z_353] h Q
        refine Rn.n hT 2 (pc' := 24) (L' := [some (.ref q0), some (.int m1), some (.int m2)]) (st' := [.int m1, .ref q0, .int z_353]) rfl ?_
        obtain ⟨v_354, e_354, e⟩ := Option.bind_eq_some_iff.mp e
        refine Rn.call hT rfl rfl rfl (Nat.le_of_ble_eq_true rfl) (rcv_v gX1_doorsOf (by omega) (rp_ck hR (T1_o t0))) (RX1_doorsOf (by omega) hR t0 p1 e_354 (fun z_354 p_354 => ?_))
        show Rn d _ _ 27 [some (.ref q0), some (.int m1), some (.int m2)] [.int z_354, .int z_353] h Q
        by_cases c_355 : v_353 ≤ v_354
        · rw [if_pos c_355] at e
          refine Rn.bt hT rfl rfl rfl (decide_eq_true ((ti_le p_353 p_354).mpr c_355)) ?_
          exact Rn.weak (ll_s (ll_s (ll_s ll_e))) (RX1_mostDoors_b32 hd hR t0 p1 p2 ih hk hq e)
        · rw [if_neg c_355] at e
          refine Rn.bf hT rfl rfl rfl (decide_eq_false (fun z => c_355 ((ti_le p_353 p_354).mp z))) ?_
          exact Rn.weak (ll_s (ll_n (ll_s ll_e))) (RX1_mostDoors_b30 hd hR t0 p2 ih hk hq e)
def FX1_mostDoors (N : Nat) (s : iv_M) (q0 : Nat) : Option (Int) := (FX1_mostDoors_l4 N s q0 (fun (x349_1 : Int) => (some x349_1)) N (-1) 0)
set_option maxRecDepth 10000 in
set_option maxHeartbeats 4000000 in
theorem RX1_mostDoors {d N nc Ls : Nat} {Xs : Nat → Int32} (hd : 2 ≤ d) {h : iv_H} {s : iv_M} (hR : Rep nc Ls Xs h s) {q0 : Nat} (t0 : T1 nc q0) {r : Int} {Q : Option Value → iv_H → Prop} (e : FX1_mostDoors N s q0 = some r) (hq : ∀ (z : Int32), z.toInt = r → Q (some (.int z)) h) : Cl d 38 [.ref q0] h Q := by
  obtain ⟨d, rfl⟩ : ∃ k, d = k + 1 := ⟨d - 1, by omega⟩
  have hd : 1 ≤ d := by omega
  have hT := hX1_mostDoors
  unfold FX1_mostDoors at e
  refine Cl.into (by decide) gX1_mostDoors rfl ?_
  show Rn d 38 (some .int) 0 [some (.ref q0), none, none] [] h Q
  refine Rn.n hT 4 (pc' := 4) (L' := [some (.ref q0), some (.int (-1 : Int32)), some (.int (0 : Int32))]) (st' := []) rfl ?_
  refine Rn.weak (ll_s (ll_s (ll_s ll_e))) (RX1_mostDoors_l4 hd hR t0 (fun m349_1 x349_1 p349_1 e => ?_) hq N (-1 : Int32) (-1) L32_m1 (0 : Int32) 0 L32_0 e)
  try dsimp only at e
  refine Rn.n hT 1 (pc' := 39) (L' := [none, some (.int m349_1), none]) (st' := [.int m349_1]) rfl ?_
  obtain rfl := Option.some.inj e
  exact Rn.ret hT rfl rfl rfl (hq m349_1 p349_1)
set_option maxRecDepth 10000 in
theorem hX1_doorsThatMeet : iv_Tb 39 tX1_doorsThatMeet := iv_tb_of (m := mX1_doorsThatMeet) rfl
set_option maxRecDepth 10000 in
theorem gX1_doorsThatMeet : PG.2 39 = some mX1_doorsThatMeet := iv_pi_of (t := tX1_doorsThatMeet) rfl (by decide)
def FX1_doorsThatMeet_b25 (N : Nat) (s : iv_M) (q0 : Nat) (x1 : Int) (x3 : Int) (xs0 : Int) (xs1 : Int) (kb : Int → Int → Option (Int)) (kx : Int → Option (Int)) : Option (Int) := (kb (w32 (xs1 + xs0)) (w32 (x3 + 1)))
set_option maxRecDepth 10000 in
set_option maxHeartbeats 4000000 in
theorem RX1_doorsThatMeet_b25 {d N nc Ls : Nat} {Xs : Nat → Int32} (hd : 1 ≤ d) {h : iv_H} {s : iv_M} (hR : Rep nc Ls Xs h s) {q0 : Nat} (t0 : T1 nc q0) {m1 : Int32} {x1 : Int} (p1 : m1.toInt = x1) {m3 : Int32} {x3 : Int} (p3 : m3.toInt = x3) {ms0 : Int32} {xs0 : Int} (ps0 : ms0.toInt = xs0) {ms1 : Int32} {xs1 : Int} (ps1 : ms1.toInt = xs1) {kb : Int → Int → Option (Int)} {kx : Int → Option (Int)} {r : Int} {Q : Option Value → iv_H → Prop} (hb : ∀ (mw2 : Int32) (xw2 : Int) (pw2 : mw2.toInt = xw2) (mw3 : Int32) (xw3 : Int) (pw3 : mw3.toInt = xw3), kb xw2 xw3 = some r → Rn d 39 (some .int) 4 [some (.ref q0), some (.int m1), some (.int mw2), some (.int mw3)] [] h Q) (hk : ∀ (mw2 : Int32) (xw2 : Int) (pw2 : mw2.toInt = xw2), kx xw2 = some r → Rn d 39 (some .int) 33 [none, none, some (.int mw2), none] [] h Q) (hq : ∀ (z : Int32), z.toInt = r → Q (some (.int z)) h) (e : FX1_doorsThatMeet_b25 N s q0 x1 x3 xs0 xs1 kb kx = some r) : Rn d 39 (some .int) 25 [some (.ref q0), some (.int m1), none, some (.int m3)] [.int ms0, .int ms1] h Q := by
  have hT := hX1_doorsThatMeet
  unfold FX1_doorsThatMeet_b25 at e
  refine Rn.n hT 4 (pc' := 4) (L' := [some (.ref q0), some (.int m1), some (.int (ms1 + ms0)), some (.int (m3 + (1 : Int32)))]) (st' := []) rfl ?_
  exact Rn.weak (ll_s (ll_s (ll_s (ll_s ll_e)))) (hb (ms1 + ms0) (w32 (xs1 + xs0)) (ti_add ps1 ps0) (m3 + (1 : Int32)) (w32 (x3 + 1)) (ti_add p3 L32_1) e)
def FX1_doorsThatMeet_l4 (N : Nat) (s : iv_M) (q0 : Nat) (x1 : Int) (kx : Int → Option (Int)) : Nat → Int → Int → Option (Int)
  | 0, _, _ => none
  | n + 1, x2, x3 => (if 4 ≤ x3 then (kx x2) else ((FX1_throughDoor N s q0 x1 x3).bind fun v_358 => (if v_358 = (-1) then (FX1_doorsThatMeet_b25 N s q0 x1 x3 0 x2 (FX1_doorsThatMeet_l4 N s q0 x1 kx n) kx) else (FX1_doorsThatMeet_b25 N s q0 x1 x3 1 x2 (FX1_doorsThatMeet_l4 N s q0 x1 kx n) kx))))
set_option maxRecDepth 10000 in
set_option maxHeartbeats 4000000 in
theorem RX1_doorsThatMeet_l4 {d N nc Ls : Nat} {Xs : Nat → Int32} (hd : 1 ≤ d) {h : iv_H} {s : iv_M} (hR : Rep nc Ls Xs h s) {q0 : Nat} (t0 : T1 nc q0) {m1 : Int32} {x1 : Int} (p1 : m1.toInt = x1) {kx : Int → Option (Int)} {r : Int} {Q : Option Value → iv_H → Prop} (hk : ∀ (m2 : Int32) (x2 : Int) (p2 : m2.toInt = x2), kx x2 = some r → Rn d 39 (some .int) 33 [none, none, some (.int m2), none] [] h Q) (hq : ∀ (z : Int32), z.toInt = r → Q (some (.int z)) h) : ∀ (n : Nat) (m2 : Int32) (x2 : Int) (p2 : m2.toInt = x2) (m3 : Int32) (x3 : Int) (p3 : m3.toInt = x3), FX1_doorsThatMeet_l4 N s q0 x1 kx n x2 x3 = some r → Rn d 39 (some .int) 4 [some (.ref q0), some (.int m1), some (.int m2), some (.int m3)] [] h Q := by
  have hT := hX1_doorsThatMeet
  intro n
  induction n with
  | zero =>
    intro m2 x2 p2 m3 x3 p3 e
    rw [FX1_doorsThatMeet_l4] at e
    cases e
  | succ n ih =>
    intro m2 x2 p2 m3 x3 p3 e
    rw [FX1_doorsThatMeet_l4] at e
    refine Rn.n hT 2 (pc' := 6) (L' := [some (.ref q0), some (.int m1), some (.int m2), some (.int m3)]) (st' := [.int (4 : Int32), .int m3]) rfl ?_
    by_cases c_357 : 4 ≤ x3
    · rw [if_pos c_357] at e
      refine Rn.bt hT rfl rfl rfl (decide_eq_true ((ti_le L32_4 p3).mpr c_357)) ?_
      exact Rn.weak (ll_n (ll_n (ll_s (ll_n ll_e)))) (hk m2 x2 p2 e)
    · rw [if_neg c_357] at e
      refine Rn.bf hT rfl rfl rfl (decide_eq_false (fun z => c_357 ((ti_le L32_4 p3).mp z))) ?_
      refine Rn.n hT 4 (pc' := 13) (L' := [some (.ref q0), some (.int m1), some (.int m2), some (.int m3)]) (st' := [.int m3, .int m1, .ref q0, .int m2]) rfl ?_
      obtain ⟨v_358, e_358, e⟩ := Option.bind_eq_some_iff.mp e
      refine Rn.call hT rfl rfl rfl (Nat.le_of_ble_eq_true rfl) (rcv_v gX1_throughDoor (by omega) (rp_ck hR (T1_o t0))) (RX1_throughDoor (by omega) hR t0 p1 p3 e_358 (fun z_358 p_358 => ?_))
      show Rn d _ _ 16 [some (.ref q0), some (.int m1), some (.int m2), some (.int m3)] [.int z_358, .int m2] h Q
      refine Rn.n hT 1 (pc' := 17) (L' := [some (.ref q0), some (.int m1), some (.int m2), some (.int m3)]) (st' := [.int (-1 : Int32), .int z_358, .int m2]) rfl ?_
      by_cases c_359 : v_358 = (-1)
      · rw [if_pos c_359] at e
        refine Rn.bf hT rfl rfl rfl (decide_eq_false (fun z => z ((ti_e p_358 L32_m1).mpr c_359))) ?_
        refine Rn.n hT 2 (pc' := 25) (L' := [some (.ref q0), some (.int m1), some (.int m2), some (.int m3)]) (st' := [.int (0 : Int32), .int m2]) rfl ?_
        exact Rn.weak (ll_s (ll_s (ll_n (ll_s ll_e)))) (RX1_doorsThatMeet_b25 hd hR t0 p1 p3 L32_0 p2 ih hk hq e)
      · rw [if_neg c_359] at e
        refine Rn.bt hT rfl rfl rfl (decide_eq_true (fun z => c_359 ((ti_e p_358 L32_m1).mp z))) ?_
        refine Rn.n hT 1 (pc' := 25) (L' := [some (.ref q0), some (.int m1), some (.int m2), some (.int m3)]) (st' := [.int (1 : Int32), .int m2]) rfl ?_
        exact Rn.weak (ll_s (ll_s (ll_n (ll_s ll_e)))) (RX1_doorsThatMeet_b25 hd hR t0 p1 p3 L32_1 p2 ih hk hq e)
def FX1_doorsThatMeet (N : Nat) (s : iv_M) (q0 : Nat) (x1 : Int) : Option (Int) := (FX1_doorsThatMeet_l4 N s q0 x1 (fun (x356_2 : Int) => (some x356_2)) N 0 0)
set_option maxRecDepth 10000 in
set_option maxHeartbeats 4000000 in
theorem RX1_doorsThatMeet {d N nc Ls : Nat} {Xs : Nat → Int32} (hd : 2 ≤ d) {h : iv_H} {s : iv_M} (hR : Rep nc Ls Xs h s) {q0 : Nat} (t0 : T1 nc q0) {m1 : Int32} {x1 : Int} (p1 : m1.toInt = x1) {r : Int} {Q : Option Value → iv_H → Prop} (e : FX1_doorsThatMeet N s q0 x1 = some r) (hq : ∀ (z : Int32), z.toInt = r → Q (some (.int z)) h) : Cl d 39 [.ref q0, .int m1] h Q := by
  obtain ⟨d, rfl⟩ : ∃ k, d = k + 1 := ⟨d - 1, by omega⟩
  have hd : 1 ≤ d := by omega
  have hT := hX1_doorsThatMeet
  unfold FX1_doorsThatMeet at e
  refine Cl.into (by decide) gX1_doorsThatMeet rfl ?_
  show Rn d 39 (some .int) 0 [some (.ref q0), some (.int m1), none, none] [] h Q
  refine Rn.n hT 4 (pc' := 4) (L' := [some (.ref q0), some (.int m1), some (.int (0 : Int32)), some (.int (0 : Int32))]) (st' := []) rfl ?_
  refine Rn.weak (ll_s (ll_s (ll_s (ll_s ll_e)))) (RX1_doorsThatMeet_l4 hd hR t0 p1 (fun m356_2 x356_2 p356_2 e => ?_) hq N (0 : Int32) 0 L32_0 (0 : Int32) 0 L32_0 e)
  try dsimp only at e
  refine Rn.n hT 1 (pc' := 34) (L' := [none, none, some (.int m356_2), none]) (st' := [.int m356_2]) rfl ?_
  obtain rfl := Option.some.inj e
  exact Rn.ret hT rfl rfl rfl (hq m356_2 p356_2)
set_option maxRecDepth 10000 in
theorem hX1_lockedDrift : iv_Tb 40 tX1_lockedDrift := iv_tb_of (m := mX1_lockedDrift) rfl
set_option maxRecDepth 10000 in
theorem gX1_lockedDrift : PG.2 40 = some mX1_lockedDrift := iv_pi_of (t := tX1_lockedDrift) rfl (by decide)
def FX1_lockedDrift_b81 (N : Nat) (s : iv_M) (q0 : Nat) (x2 : Int) (xs0 : Int) (xs1 : Int) (kb : Int → Int → Option (Int)) (kx : Int → Option (Int)) : Option (Int) := (kb (w32 (xs1 + xs0)) (w32 (x2 + 1)))
set_option maxRecDepth 10000 in
set_option maxHeartbeats 4000000 in
theorem RX1_lockedDrift_b81 {d N nc Ls : Nat} {Xs : Nat → Int32} (hd : 1 ≤ d) {h : iv_H} {s : iv_M} (hR : Rep nc Ls Xs h s) {q0 : Nat} (t0 : T1 nc q0) {m2 : Int32} {x2 : Int} (p2 : m2.toInt = x2) {ms0 : Int32} {xs0 : Int} (ps0 : ms0.toInt = xs0) {ms1 : Int32} {xs1 : Int} (ps1 : ms1.toInt = xs1) {kb : Int → Int → Option (Int)} {kx : Int → Option (Int)} {r : Int} {Q : Option Value → iv_H → Prop} (hb : ∀ (mw1 : Int32) (xw1 : Int) (pw1 : mw1.toInt = xw1) (mw2 : Int32) (xw2 : Int) (pw2 : mw2.toInt = xw2), kb xw1 xw2 = some r → Rn d 40 (some .int) 4 [some (.ref q0), some (.int mw1), some (.int mw2), none, none, none, none] [] h Q) (hk : ∀ (mw1 : Int32) (xw1 : Int) (pw1 : mw1.toInt = xw1), kx xw1 = some r → Rn d 40 (some .int) 89 [none, some (.int mw1), none, none, none, none, none] [] h Q) (hq : ∀ (z : Int32), z.toInt = r → Q (some (.int z)) h) (e : FX1_lockedDrift_b81 N s q0 x2 xs0 xs1 kb kx = some r) : Rn d 40 (some .int) 81 [some (.ref q0), none, some (.int m2), none, none, none, none] [.int ms0, .int ms1] h Q := by
  have hT := hX1_lockedDrift
  unfold FX1_lockedDrift_b81 at e
  refine Rn.n hT 4 (pc' := 4) (L' := [some (.ref q0), some (.int (ms1 + ms0)), some (.int (m2 + (1 : Int32))), none, none, none, none]) (st' := []) rfl ?_
  exact Rn.weak (ll_s (ll_s (ll_s (ll_n (ll_n (ll_n (ll_n ll_e))))))) (hb (ms1 + ms0) (w32 (xs1 + xs0)) (ti_add ps1 ps0) (m2 + (1 : Int32)) (w32 (x2 + 1)) (ti_add p2 L32_1) e)
def FX1_lockedDrift_l4 (N : Nat) (s : iv_M) (q0 : Nat) (kx : Int → Option (Int)) : Nat → Int → Int → Option (Int)
  | 0, _, _ => none
  | n + 1, x1, x2 => (if (s q0 2) ≤ x2 then (kx x1) else ((rd s (q0 + 1) 12 x2).bind fun v_363 => ((rd s (q0 + 1) 12 x2).bind fun v_364 => ((FX1_locksOf N s q0 x2).bind fun v_369 => (if v_369 ≤ 0 then (FX1_lockedDrift_b81 N s q0 x2 0 x1 (FX1_lockedDrift_l4 N s q0 kx n) kx) else (FX1_lockedDrift_b81 N s q0 x2 (mnI (mnI (bAn v_363 3) (w32 ((w32 ((s q0 0) - 1)) - (bAn v_363 3)))) (mnI (sr32 v_364 2) (w32 ((w32 ((s q0 1) - 1)) - (sr32 v_364 2))))) x1 (FX1_lockedDrift_l4 N s q0 kx n) kx))))))
set_option maxRecDepth 10000 in
set_option maxHeartbeats 4000000 in
theorem RX1_lockedDrift_l4 {d N nc Ls : Nat} {Xs : Nat → Int32} (hd : 1 ≤ d) {h : iv_H} {s : iv_M} (hR : Rep nc Ls Xs h s) {q0 : Nat} (t0 : T1 nc q0) {kx : Int → Option (Int)} {r : Int} {Q : Option Value → iv_H → Prop} (hk : ∀ (m1 : Int32) (x1 : Int) (p1 : m1.toInt = x1), kx x1 = some r → Rn d 40 (some .int) 89 [none, some (.int m1), none, none, none, none, none] [] h Q) (hq : ∀ (z : Int32), z.toInt = r → Q (some (.int z)) h) : ∀ (n : Nat) (m1 : Int32) (x1 : Int) (p1 : m1.toInt = x1) (m2 : Int32) (x2 : Int) (p2 : m2.toInt = x2), FX1_lockedDrift_l4 N s q0 kx n x1 x2 = some r → Rn d 40 (some .int) 4 [some (.ref q0), some (.int m1), some (.int m2), none, none, none, none] [] h Q := by
  have hT := hX1_lockedDrift
  intro n
  induction n with
  | zero =>
    intro m1 x1 p1 m2 x2 p2 e
    rw [FX1_lockedDrift_l4] at e
    cases e
  | succ n ih =>
    intro m1 x1 p1 m2 x2 p2 e
    rw [FX1_lockedDrift_l4] at e
    refine Rn.n hT 2 (pc' := 6) (L' := [some (.ref q0), some (.int m1), some (.int m2), none, none, none, none]) (st' := [.ref q0, .int m2]) rfl ?_
    obtain ⟨z_361, g_361, p_361⟩ : ∃ z : Int32, gI h 1 2 q0 = some z ∧ z.toInt = s q0 2 := rp_gI (k := 2) hR (T1_o t0) rfl
    refine Rn.hp hT rfl rfl (gI_hp g_361) ?_
    by_cases c_362 : (s q0 2) ≤ x2
    · rw [if_pos c_362] at e
      refine Rn.bt hT rfl rfl rfl (decide_eq_true ((ti_le p_361 p2).mpr c_362)) ?_
      exact Rn.weak (ll_n (ll_s (ll_n (ll_n (ll_n (ll_n (ll_n ll_e))))))) (hk m1 x1 p1 e)
    · rw [if_neg c_362] at e
      refine Rn.bf hT rfl rfl rfl (decide_eq_false (fun z => c_362 ((ti_le p_361 p2).mp z))) ?_
      refine Rn.n hT 1 (pc' := 13) (L' := [some (.ref q0), some (.int m1), some (.int m2), none, none, none, none]) (st' := [.ref q0]) rfl ?_
      refine Rn.hp hT rfl rfl (gR_hp (rp_gR hR (T1_o t0) rfl)) ?_
      refine Rn.n hT 1 (pc' := 17) (L' := [some (.ref q0), some (.int m1), some (.int m2), none, none, none, none]) (st' := [.int m2, .ref (q0 + 1)]) rfl ?_
      obtain ⟨v_363, e_363, e⟩ := Option.bind_eq_some_iff.mp e
      obtain ⟨z_363, g_363, p_363⟩ := rp_aI hR (T1_5 t0) (T1_5l t0) p2 e_363
      refine Rn.hp hT rfl rfl (aI_hp g_363) ?_
      refine Rn.n hT 4 (pc' := 22) (L' := [some (.ref q0), some (.int m1), some (.int m2), some (.int (z_363 &&& (3 : Int32))), none, none, none]) (st' := [.ref q0]) rfl ?_
      refine Rn.hp hT rfl rfl (gR_hp (rp_gR hR (T1_o t0) rfl)) ?_
      refine Rn.n hT 1 (pc' := 26) (L' := [some (.ref q0), some (.int m1), some (.int m2), some (.int (z_363 &&& (3 : Int32))), none, none, none]) (st' := [.int m2, .ref (q0 + 1)]) rfl ?_
      obtain ⟨v_364, e_364, e⟩ := Option.bind_eq_some_iff.mp e
      obtain ⟨z_364, g_364, p_364⟩ := rp_aI hR (T1_5 t0) (T1_5l t0) p2 e_364
      refine Rn.hp hT rfl rfl (aI_hp g_364) ?_
      refine Rn.n hT 5 (pc' := 33) (L' := [some (.ref q0), some (.int m1), some (.int m2), some (.int (z_363 &&& (3 : Int32))), some (.int (z_364 >>> ((2 : Int32) &&& 31))), none, none]) (st' := [.ref q0, .int (z_363 &&& (3 : Int32))]) rfl ?_
      obtain ⟨z_365, g_365, p_365⟩ : ∃ z : Int32, gI h 1 0 q0 = some z ∧ z.toInt = s q0 0 := rp_gI (k := 0) hR (T1_o t0) rfl
      refine Rn.hp hT rfl rfl (gI_hp g_365) ?_
      refine Rn.n hT 4 (pc' := 40) (L' := [some (.ref q0), some (.int m1), some (.int m2), some (.int (z_363 &&& (3 : Int32))), some (.int (z_364 >>> ((2 : Int32) &&& 31))), none, none]) (st' := [.int ((z_365 - (1 : Int32)) - (z_363 &&& (3 : Int32))), .int (z_363 &&& (3 : Int32))]) rfl ?_
      refine Rn.hp hT rfl rfl (mn_hp (Nat.le_of_ble_eq_true rfl)) ?_
      refine Rn.n hT 3 (pc' := 48) (L' := [some (.ref q0), some (.int m1), some (.int m2), some (.int (z_363 &&& (3 : Int32))), some (.int (z_364 >>> ((2 : Int32) &&& 31))), some (.int (iv_mn (z_363 &&& (3 : Int32)) ((z_365 - (1 : Int32)) - (z_363 &&& (3 : Int32))))), none]) (st' := [.ref q0, .int (z_364 >>> ((2 : Int32) &&& 31))]) rfl ?_
      obtain ⟨z_367, g_367, p_367⟩ : ∃ z : Int32, gI h 1 1 q0 = some z ∧ z.toInt = s q0 1 := rp_gI (k := 1) hR (T1_o t0) rfl
      refine Rn.hp hT rfl rfl (gI_hp g_367) ?_
      refine Rn.n hT 4 (pc' := 56) (L' := [some (.ref q0), some (.int m1), some (.int m2), some (.int (z_363 &&& (3 : Int32))), some (.int (z_364 >>> ((2 : Int32) &&& 31))), some (.int (iv_mn (z_363 &&& (3 : Int32)) ((z_365 - (1 : Int32)) - (z_363 &&& (3 : Int32))))), none]) (st' := [.int ((z_367 - (1 : Int32)) - (z_364 >>> ((2 : Int32) &&& 31))), .int (z_364 >>> ((2 : Int32) &&& 31))]) rfl ?_
      refine Rn.hp hT rfl rfl (mn_hp (Nat.le_of_ble_eq_true rfl)) ?_
      refine Rn.n hT 4 (pc' := 64) (L' := [some (.ref q0), some (.int m1), some (.int m2), some (.int (z_363 &&& (3 : Int32))), some (.int (z_364 >>> ((2 : Int32) &&& 31))), some (.int (iv_mn (z_363 &&& (3 : Int32)) ((z_365 - (1 : Int32)) - (z_363 &&& (3 : Int32))))), some (.int (iv_mn (z_364 >>> ((2 : Int32) &&& 31)) ((z_367 - (1 : Int32)) - (z_364 >>> ((2 : Int32) &&& 31)))))]) (st' := [.int m2, .ref q0, .int m1]) rfl ?_
      obtain ⟨v_369, e_369, e⟩ := Option.bind_eq_some_iff.mp e
      refine Rn.call hT rfl rfl rfl (Nat.le_of_ble_eq_true rfl) (rcv_v gX1_locksOf (by omega) (rp_ck hR (T1_o t0))) (RX1_locksOf (by omega) hR t0 p2 e_369 (fun z_369 p_369 => ?_))
      show Rn d _ _ 67 [some (.ref q0), some (.int m1), some (.int m2), some (.int (z_363 &&& (3 : Int32))), some (.int (z_364 >>> ((2 : Int32) &&& 31))), some (.int (iv_mn (z_363 &&& (3 : Int32)) ((z_365 - (1 : Int32)) - (z_363 &&& (3 : Int32))))), some (.int (iv_mn (z_364 >>> ((2 : Int32) &&& 31)) ((z_367 - (1 : Int32)) - (z_364 >>> ((2 : Int32) &&& 31)))))] [.int z_369, .int m1] h Q
      by_cases c_370 : v_369 ≤ 0
      · rw [if_pos c_370] at e
        refine Rn.bt hT rfl rfl rfl (decide_eq_true ((ti_le p_369 L32_0).mpr c_370)) ?_
        refine Rn.n hT 1 (pc' := 81) (L' := [some (.ref q0), some (.int m1), some (.int m2), some (.int (z_363 &&& (3 : Int32))), some (.int (z_364 >>> ((2 : Int32) &&& 31))), some (.int (iv_mn (z_363 &&& (3 : Int32)) ((z_365 - (1 : Int32)) - (z_363 &&& (3 : Int32))))), some (.int (iv_mn (z_364 >>> ((2 : Int32) &&& 31)) ((z_367 - (1 : Int32)) - (z_364 >>> ((2 : Int32) &&& 31)))))]) (st' := [.int (0 : Int32), .int m1]) rfl ?_
        exact Rn.weak (ll_s (ll_n (ll_s (ll_n (ll_n (ll_n (ll_n ll_e))))))) (RX1_lockedDrift_b81 hd hR t0 p2 L32_0 p1 ih hk hq e)
      · rw [if_neg c_370] at e
        refine Rn.bf hT rfl rfl rfl (decide_eq_false (fun z => c_370 ((ti_le p_369 L32_0).mp z))) ?_
        refine Rn.n hT 2 (pc' := 74) (L' := [some (.ref q0), some (.int m1), some (.int m2), some (.int (z_363 &&& (3 : Int32))), some (.int (z_364 >>> ((2 : Int32) &&& 31))), some (.int (iv_mn (z_363 &&& (3 : Int32)) ((z_365 - (1 : Int32)) - (z_363 &&& (3 : Int32))))), some (.int (iv_mn (z_364 >>> ((2 : Int32) &&& 31)) ((z_367 - (1 : Int32)) - (z_364 >>> ((2 : Int32) &&& 31)))))]) (st' := [.int (iv_mn (z_364 >>> ((2 : Int32) &&& 31)) ((z_367 - (1 : Int32)) - (z_364 >>> ((2 : Int32) &&& 31)))), .int (iv_mn (z_363 &&& (3 : Int32)) ((z_365 - (1 : Int32)) - (z_363 &&& (3 : Int32)))), .int m1]) rfl ?_
        refine Rn.hp hT rfl rfl (mn_hp (Nat.le_of_ble_eq_true rfl)) ?_
        refine Rn.n hT 1 (pc' := 81) (L' := [some (.ref q0), some (.int m1), some (.int m2), some (.int (z_363 &&& (3 : Int32))), some (.int (z_364 >>> ((2 : Int32) &&& 31))), some (.int (iv_mn (z_363 &&& (3 : Int32)) ((z_365 - (1 : Int32)) - (z_363 &&& (3 : Int32))))), some (.int (iv_mn (z_364 >>> ((2 : Int32) &&& 31)) ((z_367 - (1 : Int32)) - (z_364 >>> ((2 : Int32) &&& 31)))))]) (st' := [.int (iv_mn (iv_mn (z_363 &&& (3 : Int32)) ((z_365 - (1 : Int32)) - (z_363 &&& (3 : Int32)))) (iv_mn (z_364 >>> ((2 : Int32) &&& 31)) ((z_367 - (1 : Int32)) - (z_364 >>> ((2 : Int32) &&& 31))))), .int m1]) rfl ?_
        exact Rn.weak (ll_s (ll_n (ll_s (ll_n (ll_n (ll_n (ll_n ll_e))))))) (RX1_lockedDrift_b81 hd hR t0 p2 (ti_mn (ti_mn (ti_and p_363 L32_3) (ti_sub (ti_sub p_365 L32_1) (ti_and p_363 L32_3))) (ti_mn (ti_shr p_364 L32_2) (ti_sub (ti_sub p_367 L32_1) (ti_shr p_364 L32_2)))) p1 ih hk hq e)
def FX1_lockedDrift (N : Nat) (s : iv_M) (q0 : Nat) : Option (Int) := (FX1_lockedDrift_l4 N s q0 (fun (x360_1 : Int) => (some x360_1)) N 0 0)
set_option maxRecDepth 10000 in
set_option maxHeartbeats 4000000 in
theorem RX1_lockedDrift {d N nc Ls : Nat} {Xs : Nat → Int32} (hd : 2 ≤ d) {h : iv_H} {s : iv_M} (hR : Rep nc Ls Xs h s) {q0 : Nat} (t0 : T1 nc q0) {r : Int} {Q : Option Value → iv_H → Prop} (e : FX1_lockedDrift N s q0 = some r) (hq : ∀ (z : Int32), z.toInt = r → Q (some (.int z)) h) : Cl d 40 [.ref q0] h Q := by
  obtain ⟨d, rfl⟩ : ∃ k, d = k + 1 := ⟨d - 1, by omega⟩
  have hd : 1 ≤ d := by omega
  have hT := hX1_lockedDrift
  unfold FX1_lockedDrift at e
  refine Cl.into (by decide) gX1_lockedDrift rfl ?_
  show Rn d 40 (some .int) 0 [some (.ref q0), none, none, none, none, none, none] [] h Q
  refine Rn.n hT 4 (pc' := 4) (L' := [some (.ref q0), some (.int (0 : Int32)), some (.int (0 : Int32)), none, none, none, none]) (st' := []) rfl ?_
  refine Rn.weak (ll_s (ll_s (ll_s (ll_n (ll_n (ll_n (ll_n ll_e))))))) (RX1_lockedDrift_l4 hd hR t0 (fun m360_1 x360_1 p360_1 e => ?_) hq N (0 : Int32) 0 L32_0 (0 : Int32) 0 L32_0 e)
  try dsimp only at e
  refine Rn.n hT 1 (pc' := 90) (L' := [none, some (.int m360_1), none, none, none, none, none]) (st' := [.int m360_1]) rfl ?_
  obtain rfl := Option.some.inj e
  exact Rn.ret hT rfl rfl rfl (hq m360_1 p360_1)
set_option maxRecDepth 10000 in
theorem hX1_sideToBuild : iv_Tb 41 tX1_sideToBuild := iv_tb_of (m := mX1_sideToBuild) rfl
set_option maxRecDepth 10000 in
theorem gX1_sideToBuild : PG.2 41 = some mX1_sideToBuild := iv_pi_of (t := tX1_sideToBuild) rfl (by decide)
def FX1_sideToBuild_b46 (N : Nat) (s : iv_M)  (xs0 : Int) : Option (Int) := (some xs0)
set_option maxRecDepth 10000 in
set_option maxHeartbeats 4000000 in
theorem RX1_sideToBuild_b46 {d N nc Ls : Nat} {Xs : Nat → Int32} (hd : 0 ≤ d) {h : iv_H} {s : iv_M} (hR : Rep nc Ls Xs h s)  {ms0 : Int32} {xs0 : Int} (ps0 : ms0.toInt = xs0) {r : Int} {Q : Option Value → iv_H → Prop} (hq : ∀ (z : Int32), z.toInt = r → Q (some (.int z)) h) (e : FX1_sideToBuild_b46 N s  xs0 = some r) : Rn d 41 (some .int) 46 [none, none, none, none, none] [.int ms0] h Q := by
  have hT := hX1_sideToBuild
  unfold FX1_sideToBuild_b46 at e
  obtain rfl := Option.some.inj e
  exact Rn.ret hT rfl rfl rfl (hq ms0 ps0)
def FX1_sideToBuild_b32 (N : Nat) (s : iv_M)  (xs0 : Int) : Option (Int) := (if xs0 = 3 then (FX1_sideToBuild_b46 N s 0) else (FX1_sideToBuild_b46 N s xs0))
set_option maxRecDepth 10000 in
set_option maxHeartbeats 4000000 in
theorem RX1_sideToBuild_b32 {d N nc Ls : Nat} {Xs : Nat → Int32} (hd : 0 ≤ d) {h : iv_H} {s : iv_M} (hR : Rep nc Ls Xs h s)  {ms0 : Int32} {xs0 : Int} (ps0 : ms0.toInt = xs0) {r : Int} {Q : Option Value → iv_H → Prop} (hq : ∀ (z : Int32), z.toInt = r → Q (some (.int z)) h) (e : FX1_sideToBuild_b32 N s  xs0 = some r) : Rn d 41 (some .int) 32 [none, none, none, none, none] [.int ms0] h Q := by
  have hT := hX1_sideToBuild
  unfold FX1_sideToBuild_b32 at e
  refine Rn.n hT 3 (pc' := 37) (L' := [none, none, none, none, some (.int ms0)]) (st' := [.int (3 : Int32), .int ms0]) rfl ?_
  by_cases c_375 : xs0 = 3
  · rw [if_pos c_375] at e
    refine Rn.bf hT rfl rfl rfl (decide_eq_false (fun z => z ((ti_e ps0 L32_3).mpr c_375))) ?_
    refine Rn.n hT 2 (pc' := 46) (L' := [none, none, none, none, some (.int ms0)]) (st' := [.int (0 : Int32)]) rfl ?_
    exact Rn.weak (ll_n (ll_n (ll_n (ll_n (ll_n ll_e))))) (RX1_sideToBuild_b46 hd hR L32_0 hq e)
  · rw [if_neg c_375] at e
    refine Rn.bt hT rfl rfl rfl (decide_eq_true (fun z => c_375 ((ti_e ps0 L32_3).mp z))) ?_
    refine Rn.n hT 1 (pc' := 46) (L' := [none, none, none, none, some (.int ms0)]) (st' := [.int ms0]) rfl ?_
    exact Rn.weak (ll_n (ll_n (ll_n (ll_n (ll_n ll_e))))) (RX1_sideToBuild_b46 hd hR ps0 hq e)
def FX1_sideToBuild (N : Nat) (s : iv_M) (q0 : Nat) (x1 : Int) (x2 : Int) : Option (Int) := ((rd s (q0 + 6) 64 (w32 ((w32 (4 * x1)) + x2))).bind fun v_372 => (if v_372 = (-1) then (FX1_sideToBuild_b32 N s 3) else ((rd s (q0 + 5) 64 (w32 ((w32 (4 * v_372)) + (bXo x2 2)))).bind fun v_374 => (FX1_sideToBuild_b32 N s v_374))))
set_option maxRecDepth 10000 in
set_option maxHeartbeats 4000000 in
theorem RX1_sideToBuild {d N nc Ls : Nat} {Xs : Nat → Int32} (hd : 1 ≤ d) {h : iv_H} {s : iv_M} (hR : Rep nc Ls Xs h s) {q0 : Nat} (t0 : T1 nc q0) {m1 : Int32} {x1 : Int} (p1 : m1.toInt = x1) {m2 : Int32} {x2 : Int} (p2 : m2.toInt = x2) {r : Int} {Q : Option Value → iv_H → Prop} (e : FX1_sideToBuild N s q0 x1 x2 = some r) (hq : ∀ (z : Int32), z.toInt = r → Q (some (.int z)) h) : Cl d 41 [.ref q0, .int m1, .int m2] h Q := by
  obtain ⟨d, rfl⟩ : ∃ k, d = k + 1 := ⟨d - 1, by omega⟩
  have hd : 0 ≤ d := by omega
  have hT := hX1_sideToBuild
  unfold FX1_sideToBuild at e
  refine Cl.into (by decide) gX1_sideToBuild rfl ?_
  show Rn d 41 (some .int) 0 [some (.ref q0), some (.int m1), some (.int m2), none, none] [] h Q
  refine Rn.n hT 1 (pc' := 1) (L' := [some (.ref q0), some (.int m1), some (.int m2), none, none]) (st' := [.ref q0]) rfl ?_
  refine Rn.hp hT rfl rfl (gR_hp (rp_gR hR (T1_o t0) rfl)) ?_
  refine Rn.n hT 5 (pc' := 9) (L' := [some (.ref q0), some (.int m1), some (.int m2), none, none]) (st' := [.int (((4 : Int32) * m1) + m2), .ref (q0 + 6)]) rfl ?_
  obtain ⟨v_372, e_372, e⟩ := Option.bind_eq_some_iff.mp e
  obtain ⟨z_372, g_372, p_372⟩ := rp_aI hR (T1_10 t0) (T1_10l t0) (ti_add (ti_mul L32_4 p1) p2) e_372
  refine Rn.hp hT rfl rfl (aI_hp g_372) ?_
  refine Rn.n hT 3 (pc' := 13) (L' := [some (.ref q0), some (.int m1), some (.int m2), some (.int z_372), none]) (st' := [.int (-1 : Int32), .int z_372]) rfl ?_
  by_cases c_373 : v_372 = (-1)
  · rw [if_pos c_373] at e
    refine Rn.bf hT rfl rfl rfl (decide_eq_false (fun z => z ((ti_e p_372 L32_m1).mpr c_373))) ?_
    refine Rn.n hT 2 (pc' := 32) (L' := [some (.ref q0), some (.int m1), some (.int m2), some (.int z_372), none]) (st' := [.int (3 : Int32)]) rfl ?_
    exact Rn.weak (ll_n (ll_n (ll_n (ll_n (ll_n ll_e))))) (RX1_sideToBuild_b32 hd hR L32_3 hq e)
  · rw [if_neg c_373] at e
    refine Rn.bt hT rfl rfl rfl (decide_eq_true (fun z => c_373 ((ti_e p_372 L32_m1).mp z))) ?_
    refine Rn.n hT 1 (pc' := 21) (L' := [some (.ref q0), some (.int m1), some (.int m2), some (.int z_372), none]) (st' := [.ref q0]) rfl ?_
    refine Rn.hp hT rfl rfl (gR_hp (rp_gR hR (T1_o t0) rfl)) ?_
    refine Rn.n hT 7 (pc' := 31) (L' := [some (.ref q0), some (.int m1), some (.int m2), some (.int z_372), none]) (st' := [.int (((4 : Int32) * z_372) + (m2 ^^^ (2 : Int32))), .ref (q0 + 5)]) rfl ?_
    obtain ⟨v_374, e_374, e⟩ := Option.bind_eq_some_iff.mp e
    obtain ⟨z_374, g_374, p_374⟩ := rp_aI hR (T1_9 t0) (T1_9l t0) (ti_add (ti_mul L32_4 p_372) (ti_xor p2 L32_2)) e_374
    refine Rn.hp hT rfl rfl (aI_hp g_374) ?_
    exact Rn.weak (ll_n (ll_n (ll_n (ll_n (ll_n ll_e))))) (RX1_sideToBuild_b32 hd hR p_374 hq e)
set_option maxRecDepth 10000 in
theorem hX1_doorsTowards : iv_Tb 42 tX1_doorsTowards := iv_tb_of (m := mX1_doorsTowards) rfl
set_option maxRecDepth 10000 in
theorem gX1_doorsTowards : PG.2 42 = some mX1_doorsTowards := iv_pi_of (t := tX1_doorsTowards) rfl (by decide)
def FX1_doorsTowards_b25 (N : Nat) (s : iv_M) (q0 : Nat) (x1 : Int) (x3 : Int) (xs0 : Int) (xs1 : Int) (kb : Int → Int → Option (Int)) (kx : Int → Option (Int)) : Option (Int) := (kb (w32 (xs1 + xs0)) (w32 (x3 + 1)))
set_option maxRecDepth 10000 in
set_option maxHeartbeats 4000000 in
theorem RX1_doorsTowards_b25 {d N nc Ls : Nat} {Xs : Nat → Int32} (hd : 1 ≤ d) {h : iv_H} {s : iv_M} (hR : Rep nc Ls Xs h s) {q0 : Nat} (t0 : T1 nc q0) {m1 : Int32} {x1 : Int} (p1 : m1.toInt = x1) {m3 : Int32} {x3 : Int} (p3 : m3.toInt = x3) {ms0 : Int32} {xs0 : Int} (ps0 : ms0.toInt = xs0) {ms1 : Int32} {xs1 : Int} (ps1 : ms1.toInt = xs1) {kb : Int → Int → Option (Int)} {kx : Int → Option (Int)} {r : Int} {Q : Option Value → iv_H → Prop} (hb : ∀ (mw2 : Int32) (xw2 : Int) (pw2 : mw2.toInt = xw2) (mw3 : Int32) (xw3 : Int) (pw3 : mw3.toInt = xw3), kb xw2 xw3 = some r → Rn d 42 (some .int) 4 [some (.ref q0), some (.int m1), some (.int mw2), some (.int mw3)] [] h Q) (hk : ∀ (mw2 : Int32) (xw2 : Int) (pw2 : mw2.toInt = xw2), kx xw2 = some r → Rn d 42 (some .int) 33 [none, none, some (.int mw2), none] [] h Q) (hq : ∀ (z : Int32), z.toInt = r → Q (some (.int z)) h) (e : FX1_doorsTowards_b25 N s q0 x1 x3 xs0 xs1 kb kx = some r) : Rn d 42 (some .int) 25 [some (.ref q0), some (.int m1), none, some (.int m3)] [.int ms0, .int ms1] h Q := by
  have hT := hX1_doorsTowards
  unfold FX1_doorsTowards_b25 at e
  refine Rn.n hT 4 (pc' := 4) (L' := [some (.ref q0), some (.int m1), some (.int (ms1 + ms0)), some (.int (m3 + (1 : Int32)))]) (st' := []) rfl ?_
  exact Rn.weak (ll_s (ll_s (ll_s (ll_s ll_e)))) (hb (ms1 + ms0) (w32 (xs1 + xs0)) (ti_add ps1 ps0) (m3 + (1 : Int32)) (w32 (x3 + 1)) (ti_add p3 L32_1) e)
def FX1_doorsTowards_l4 (N : Nat) (s : iv_M) (q0 : Nat) (x1 : Int) (kx : Int → Option (Int)) : Nat → Int → Int → Option (Int)
  | 0, _, _ => none
  | n + 1, x2, x3 => (if 4 ≤ x3 then (kx x2) else ((FX1_sideToBuild N s q0 x1 x3).bind fun v_378 => (if v_378 = 1 then (FX1_doorsTowards_b25 N s q0 x1 x3 1 x2 (FX1_doorsTowards_l4 N s q0 x1 kx n) kx) else (FX1_doorsTowards_b25 N s q0 x1 x3 0 x2 (FX1_doorsTowards_l4 N s q0 x1 kx n) kx))))
set_option maxRecDepth 10000 in
set_option maxHeartbeats 4000000 in
theorem RX1_doorsTowards_l4 {d N nc Ls : Nat} {Xs : Nat → Int32} (hd : 1 ≤ d) {h : iv_H} {s : iv_M} (hR : Rep nc Ls Xs h s) {q0 : Nat} (t0 : T1 nc q0) {m1 : Int32} {x1 : Int} (p1 : m1.toInt = x1) {kx : Int → Option (Int)} {r : Int} {Q : Option Value → iv_H → Prop} (hk : ∀ (m2 : Int32) (x2 : Int) (p2 : m2.toInt = x2), kx x2 = some r → Rn d 42 (some .int) 33 [none, none, some (.int m2), none] [] h Q) (hq : ∀ (z : Int32), z.toInt = r → Q (some (.int z)) h) : ∀ (n : Nat) (m2 : Int32) (x2 : Int) (p2 : m2.toInt = x2) (m3 : Int32) (x3 : Int) (p3 : m3.toInt = x3), FX1_doorsTowards_l4 N s q0 x1 kx n x2 x3 = some r → Rn d 42 (some .int) 4 [some (.ref q0), some (.int m1), some (.int m2), some (.int m3)] [] h Q := by
  have hT := hX1_doorsTowards
  intro n
  induction n with
  | zero =>
    intro m2 x2 p2 m3 x3 p3 e
    rw [FX1_doorsTowards_l4] at e
    cases e
  | succ n ih =>
    intro m2 x2 p2 m3 x3 p3 e
    rw [FX1_doorsTowards_l4] at e
    refine Rn.n hT 2 (pc' := 6) (L' := [some (.ref q0), some (.int m1), some (.int m2), some (.int m3)]) (st' := [.int (4 : Int32), .int m3]) rfl ?_
    by_cases c_377 : 4 ≤ x3
    · rw [if_pos c_377] at e
      refine Rn.bt hT rfl rfl rfl (decide_eq_true ((ti_le L32_4 p3).mpr c_377)) ?_
      exact Rn.weak (ll_n (ll_n (ll_s (ll_n ll_e)))) (hk m2 x2 p2 e)
    · rw [if_neg c_377] at e
      refine Rn.bf hT rfl rfl rfl (decide_eq_false (fun z => c_377 ((ti_le L32_4 p3).mp z))) ?_
      refine Rn.n hT 4 (pc' := 13) (L' := [some (.ref q0), some (.int m1), some (.int m2), some (.int m3)]) (st' := [.int m3, .int m1, .ref q0, .int m2]) rfl ?_
      obtain ⟨v_378, e_378, e⟩ := Option.bind_eq_some_iff.mp e
      refine Rn.call hT rfl rfl rfl (Nat.le_of_ble_eq_true rfl) (rcv_v gX1_sideToBuild (by omega) (rp_ck hR (T1_o t0))) (RX1_sideToBuild (by omega) hR t0 p1 p3 e_378 (fun z_378 p_378 => ?_))
      show Rn d _ _ 16 [some (.ref q0), some (.int m1), some (.int m2), some (.int m3)] [.int z_378, .int m2] h Q
      refine Rn.n hT 1 (pc' := 17) (L' := [some (.ref q0), some (.int m1), some (.int m2), some (.int m3)]) (st' := [.int (1 : Int32), .int z_378, .int m2]) rfl ?_
      by_cases c_379 : v_378 = 1
      · rw [if_pos c_379] at e
        refine Rn.bf hT rfl rfl rfl (decide_eq_false (fun z => z ((ti_e p_378 L32_1).mpr c_379))) ?_
        refine Rn.n hT 2 (pc' := 25) (L' := [some (.ref q0), some (.int m1), some (.int m2), some (.int m3)]) (st' := [.int (1 : Int32), .int m2]) rfl ?_
        exact Rn.weak (ll_s (ll_s (ll_n (ll_s ll_e)))) (RX1_doorsTowards_b25 hd hR t0 p1 p3 L32_1 p2 ih hk hq e)
      · rw [if_neg c_379] at e
        refine Rn.bt hT rfl rfl rfl (decide_eq_true (fun z => c_379 ((ti_e p_378 L32_1).mp z))) ?_
        refine Rn.n hT 1 (pc' := 25) (L' := [some (.ref q0), some (.int m1), some (.int m2), some (.int m3)]) (st' := [.int (0 : Int32), .int m2]) rfl ?_
        exact Rn.weak (ll_s (ll_s (ll_n (ll_s ll_e)))) (RX1_doorsTowards_b25 hd hR t0 p1 p3 L32_0 p2 ih hk hq e)
def FX1_doorsTowards (N : Nat) (s : iv_M) (q0 : Nat) (x1 : Int) : Option (Int) := (FX1_doorsTowards_l4 N s q0 x1 (fun (x376_2 : Int) => (some x376_2)) N 0 0)
set_option maxRecDepth 10000 in
set_option maxHeartbeats 4000000 in
theorem RX1_doorsTowards {d N nc Ls : Nat} {Xs : Nat → Int32} (hd : 2 ≤ d) {h : iv_H} {s : iv_M} (hR : Rep nc Ls Xs h s) {q0 : Nat} (t0 : T1 nc q0) {m1 : Int32} {x1 : Int} (p1 : m1.toInt = x1) {r : Int} {Q : Option Value → iv_H → Prop} (e : FX1_doorsTowards N s q0 x1 = some r) (hq : ∀ (z : Int32), z.toInt = r → Q (some (.int z)) h) : Cl d 42 [.ref q0, .int m1] h Q := by
  obtain ⟨d, rfl⟩ : ∃ k, d = k + 1 := ⟨d - 1, by omega⟩
  have hd : 1 ≤ d := by omega
  have hT := hX1_doorsTowards
  unfold FX1_doorsTowards at e
  refine Cl.into (by decide) gX1_doorsTowards rfl ?_
  show Rn d 42 (some .int) 0 [some (.ref q0), some (.int m1), none, none] [] h Q
  refine Rn.n hT 4 (pc' := 4) (L' := [some (.ref q0), some (.int m1), some (.int (0 : Int32)), some (.int (0 : Int32))]) (st' := []) rfl ?_
  refine Rn.weak (ll_s (ll_s (ll_s (ll_s ll_e)))) (RX1_doorsTowards_l4 hd hR t0 p1 (fun m376_2 x376_2 p376_2 e => ?_) hq N (0 : Int32) 0 L32_0 (0 : Int32) 0 L32_0 e)
  try dsimp only at e
  refine Rn.n hT 1 (pc' := 34) (L' := [none, none, some (.int m376_2), none]) (st' := [.int m376_2]) rfl ?_
  obtain rfl := Option.some.inj e
  exact Rn.ret hT rfl rfl rfl (hq m376_2 p376_2)
set_option maxRecDepth 10000 in
theorem hX2_forgetPast : iv_Tb 53 tX2_forgetPast := iv_tb_of (m := mX2_forgetPast) rfl
set_option maxRecDepth 10000 in
theorem gX2_forgetPast : PG.2 53 = some mX2_forgetPast := iv_pi_of (t := tX2_forgetPast) rfl (by decide)
def FX2_forgetPast (N : Nat) (s : iv_M) (q0 : Nat) : Option (iv_M) := ((pt s (q0 + 10) 1 0).bind fun s_380 => ((pt s_380 (q0 + 12) 1 0).bind fun s_382 => some s_382))
set_option maxRecDepth 10000 in
set_option maxHeartbeats 4000000 in
theorem RX2_forgetPast {d N nc Ls : Nat} {Xs : Nat → Int32} (hd : 1 ≤ d) {h : iv_H} {s : iv_M} (hR : Rep nc Ls Xs h s) {q0 : Nat} (t0 : T2 nc q0) {r : iv_M} {Q : Option Value → iv_H → Prop} (e : FX2_forgetPast N s q0 = some r) (hq : ∀ h1, Rep nc Ls Xs h1 r → Q none h1) : Cl d 53 [.ref q0] h Q := by
  obtain ⟨d, rfl⟩ : ∃ k, d = k + 1 := ⟨d - 1, by omega⟩
  have hd : 0 ≤ d := by omega
  have hT := hX2_forgetPast
  unfold FX2_forgetPast at e
  refine Cl.into (by decide) gX2_forgetPast rfl ?_
  show Rn d 53 none 0 [some (.ref q0)] [] h Q
  refine Rn.n hT 1 (pc' := 1) (L' := [some (.ref q0)]) (st' := [.ref q0]) rfl ?_
  refine Rn.hp hT rfl rfl (gR_hp (rp_gR hR (T2_o t0) rfl)) ?_
  refine Rn.n hT 1 (pc' := 5) (L' := [some (.ref q0)]) (st' := [.int (0 : Int32), .ref (q0 + 10)]) rfl ?_
  obtain ⟨s_380, e_381, e⟩ := Option.bind_eq_some_iff.mp e
  obtain ⟨h_380, g_381, R_380⟩ := rp_pI (ci := 7) (k := 1) hR (T7_o (T2_12 t0)) rfl rfl L32_0 e_381
  refine Rn.hp hT rfl rfl (pV_hp rfl g_381) ?_
  refine Rn.n hT 1 (pc' := 9) (L' := [some (.ref q0)]) (st' := [.ref q0]) rfl ?_
  refine Rn.hp hT rfl rfl (gR_hp (rp_gR R_380 (T2_o t0) rfl)) ?_
  refine Rn.n hT 1 (pc' := 13) (L' := [some (.ref q0)]) (st' := [.int (0 : Int32), .ref (q0 + 12)]) rfl ?_
  obtain ⟨s_382, e_383, e⟩ := Option.bind_eq_some_iff.mp e
  obtain ⟨h_382, g_383, R_382⟩ := rp_pI (ci := 7) (k := 1) R_380 (T7_o (T2_13 t0)) rfl rfl L32_0 e_383
  refine Rn.hp hT rfl rfl (pV_hp rfl g_383) ?_
  obtain rfl := Option.some.inj e
  exact Rn.ret hT rfl rfl rfl (hq h_382 R_382)
set_option maxRecDepth 10000 in
theorem hX2_build : iv_Tb 44 tX2_build := iv_tb_of (m := mX2_build) rfl
set_option maxRecDepth 10000 in
theorem gX2_build : PG.2 44 = some mX2_build := iv_pi_of (t := tX2_build) rfl (by decide)
def FX2_build (N : Nat) (s : iv_M) (q0 : Nat) (x1 : Int) (x2 : Int) : Option (iv_M) := ((pt s q0 0 1).bind fun s_384 => ((pt s_384 q0 1 7).bind fun s_386 => ((pt s_386 q0 2 0).bind fun s_388 => ((pt s_388 q0 3 0).bind fun s_390 => ((pt s_390 q0 4 0).bind fun s_392 => ((pt s_392 q0 5 (-1)).bind fun s_394 => ((pt s_394 q0 6 0).bind fun s_396 => ((pt s_396 q0 8 0).bind fun s_398 => ((FX1_layOut N s_398 (q0 + 1) x1 x2).bind fun s_401 => ((FJ7_fill_53178 N s_401 (q0 + 8) (-1)).bind fun s_403 => ((FX2_forgetPast N s_403 q0).bind fun s_405 => ((pt s_405 (q0 + 16) 1 0).bind fun s_406 => ((pt s_406 (q0 + 18) 1 0).bind fun s_408 => ((pt s_408 (q0 + 20) 1 0).bind fun s_410 => some s_410))))))))))))))
set_option maxRecDepth 10000 in
set_option maxHeartbeats 4000000 in
theorem RX2_build {d N nc Ls : Nat} {Xs : Nat → Int32} (hd : 4 ≤ d) {h : iv_H} {s : iv_M} (hR : Rep nc Ls Xs h s) {q0 : Nat} (t0 : T2 nc q0) {m1 : Int32} {x1 : Int} (p1 : m1.toInt = x1) {m2 : Int32} {x2 : Int} (p2 : m2.toInt = x2) {r : iv_M} {Q : Option Value → iv_H → Prop} (e : FX2_build N s q0 x1 x2 = some r) (hq : ∀ h1, Rep nc Ls Xs h1 r → Q none h1) : Cl d 44 [.ref q0, .int m1, .int m2] h Q := by
  obtain ⟨d, rfl⟩ : ∃ k, d = k + 1 := ⟨d - 1, by omega⟩
  have hd : 3 ≤ d := by omega
  have hT := hX2_build
  unfold FX2_build at e
  refine Cl.into (by decide) gX2_build rfl ?_
  show Rn d 44 none 0 [some (.ref q0), some (.int m1), some (.int m2)] [] h Q
  refine Rn.n hT 2 (pc' := 2) (L' := [some (.ref q0), some (.int m1), some (.int m2)]) (st' := [.int (1 : Int32), .ref q0]) rfl ?_
  obtain ⟨s_384, e_385, e⟩ := Option.bind_eq_some_iff.mp e
  obtain ⟨h_384, g_385, R_384⟩ := rp_pI (ci := 2) (k := 0) hR (T2_o t0) rfl rfl L32_1 e_385
  refine Rn.hp hT rfl rfl (pV_hp (by decide) g_385) ?_
  refine Rn.n hT 2 (pc' := 8) (L' := [some (.ref q0), some (.int m1), some (.int m2)]) (st' := [.int (7 : Int32), .ref q0]) rfl ?_
  obtain ⟨s_386, e_387, e⟩ := Option.bind_eq_some_iff.mp e
  obtain ⟨h_386, g_387, R_386⟩ := rp_pI (ci := 2) (k := 1) R_384 (T2_o t0) rfl rfl L32_7 e_387
  refine Rn.hp hT rfl rfl (pV_hp rfl g_387) ?_
  refine Rn.n hT 2 (pc' := 13) (L' := [some (.ref q0), some (.int m1), some (.int m2)]) (st' := [.int (0 : Int32), .ref q0]) rfl ?_
  obtain ⟨s_388, e_389, e⟩ := Option.bind_eq_some_iff.mp e
  obtain ⟨h_388, g_389, R_388⟩ := rp_pI (ci := 2) (k := 2) R_386 (T2_o t0) rfl rfl L32_0 e_389
  refine Rn.hp hT rfl rfl (pV_hp rfl g_389) ?_
  refine Rn.n hT 2 (pc' := 18) (L' := [some (.ref q0), some (.int m1), some (.int m2)]) (st' := [.int (0 : Int32), .ref q0]) rfl ?_
  obtain ⟨s_390, e_391, e⟩ := Option.bind_eq_some_iff.mp e
  obtain ⟨h_390, g_391, R_390⟩ := rp_pI (ci := 2) (k := 3) R_388 (T2_o t0) rfl rfl L32_0 e_391
  refine Rn.hp hT rfl rfl (pV_hp rfl g_391) ?_
  refine Rn.n hT 2 (pc' := 23) (L' := [some (.ref q0), some (.int m1), some (.int m2)]) (st' := [.int (0 : Int32), .ref q0]) rfl ?_
  obtain ⟨s_392, e_393, e⟩ := Option.bind_eq_some_iff.mp e
  obtain ⟨h_392, g_393, R_392⟩ := rp_pI (ci := 2) (k := 4) R_390 (T2_o t0) rfl rfl L32_0 e_393
  refine Rn.hp hT rfl rfl (pV_hp rfl g_393) ?_
  refine Rn.n hT 2 (pc' := 28) (L' := [some (.ref q0), some (.int m1), some (.int m2)]) (st' := [.int (-1 : Int32), .ref q0]) rfl ?_
  obtain ⟨s_394, e_395, e⟩ := Option.bind_eq_some_iff.mp e
  obtain ⟨h_394, g_395, R_394⟩ := rp_pI (ci := 2) (k := 5) R_392 (T2_o t0) rfl rfl L32_m1 e_395
  refine Rn.hp hT rfl rfl (pV_hp rfl g_395) ?_
  refine Rn.n hT 2 (pc' := 33) (L' := [some (.ref q0), some (.int m1), some (.int m2)]) (st' := [.int (0 : Int32), .ref q0]) rfl ?_
  obtain ⟨s_396, e_397, e⟩ := Option.bind_eq_some_iff.mp e
  obtain ⟨h_396, g_397, R_396⟩ := rp_pI (ci := 2) (k := 6) R_394 (T2_o t0) rfl rfl L32_0 e_397
  refine Rn.hp hT rfl rfl (pV_hp rfl g_397) ?_
  refine Rn.n hT 2 (pc' := 38) (L' := [some (.ref q0), some (.int m1), some (.int m2)]) (st' := [.int (0 : Int32), .ref q0]) rfl ?_
  obtain ⟨s_398, e_399, e⟩ := Option.bind_eq_some_iff.mp e
  obtain ⟨h_398, g_399, R_398⟩ := rp_pI (ci := 2) (k := 8) R_396 (T2_o t0) rfl rfl L32_0 e_399
  refine Rn.hp hT rfl rfl (pV_hp rfl g_399) ?_
  refine Rn.n hT 1 (pc' := 42) (L' := [some (.ref q0), some (.int m1), some (.int m2)]) (st' := [.ref q0]) rfl ?_
  refine Rn.hp hT rfl rfl (gR_hp (rp_gR R_398 (T2_o t0) rfl)) ?_
  refine Rn.n hT 2 (pc' := 47) (L' := [some (.ref q0), some (.int m1), some (.int m2)]) (st' := [.int m2, .int m1, .ref (q0 + 1)]) rfl ?_
  obtain ⟨s_401, e_400, e⟩ := Option.bind_eq_some_iff.mp e
  refine Rn.call hT rfl rfl rfl (Nat.le_of_ble_eq_true rfl) (rcv_v gX1_layOut (by omega) (rp_ck R_398 (T1_o (T2_9 t0)))) (RX1_layOut (by omega) R_398 (T2_9 t0) p1 p2 e_400 (fun h_401 R_401 => ?_))
  show Rn d _ _ 50 [some (.ref q0), some (.int m1), some (.int m2)] [] h_401 Q
  refine Rn.n hT 1 (pc' := 51) (L' := [some (.ref q0), some (.int m1), some (.int m2)]) (st' := [.ref q0]) rfl ?_
  refine Rn.hp hT rfl rfl (gR_hp (rp_gR R_401 (T2_o t0) rfl)) ?_
  refine Rn.n hT 1 (pc' := 55) (L' := [some (.ref q0), some (.int m1), some (.int m2)]) (st' := [.int (-1 : Int32), .ref (q0 + 8)]) rfl ?_
  obtain ⟨s_403, e_402, e⟩ := Option.bind_eq_some_iff.mp e
  refine Rn.call hT rfl rfl rfl (Nat.le_of_ble_eq_true rfl) rfl (RJ7_fill_53178 (by omega) R_401 (T2_10 t0) L32_m1 e_402 (fun h_403 R_403 => ?_))
  show Rn d _ _ 58 [some (.ref q0), some (.int m1), some (.int m2)] [] h_403 Q
  refine Rn.n hT 1 (pc' := 59) (L' := [some (.ref q0), some (.int m1), some (.int m2)]) (st' := [.ref q0]) rfl ?_
  obtain ⟨s_405, e_404, e⟩ := Option.bind_eq_some_iff.mp e
  refine Rn.call hT rfl rfl rfl (Nat.le_of_ble_eq_true rfl) (rcv_v gX2_forgetPast (by omega) (rp_ck R_403 (T2_o t0))) (RX2_forgetPast (by omega) R_403 t0 e_404 (fun h_405 R_405 => ?_))
  show Rn d _ _ 62 [some (.ref q0), some (.int m1), some (.int m2)] [] h_405 Q
  refine Rn.n hT 1 (pc' := 63) (L' := [some (.ref q0), some (.int m1), some (.int m2)]) (st' := [.ref q0]) rfl ?_
  refine Rn.hp hT rfl rfl (gR_hp (rp_gR R_405 (T2_o t0) rfl)) ?_
  refine Rn.n hT 1 (pc' := 67) (L' := [some (.ref q0), some (.int m1), some (.int m2)]) (st' := [.int (0 : Int32), .ref (q0 + 16)]) rfl ?_
  obtain ⟨s_406, e_407, e⟩ := Option.bind_eq_some_iff.mp e
  obtain ⟨h_406, g_407, R_406⟩ := rp_pI (ci := 7) (k := 1) R_405 (T7_o (T2_16 t0)) rfl rfl L32_0 e_407
  refine Rn.hp hT rfl rfl (pV_hp rfl g_407) ?_
  refine Rn.n hT 1 (pc' := 71) (L' := [some (.ref q0), some (.int m1), some (.int m2)]) (st' := [.ref q0]) rfl ?_
  refine Rn.hp hT rfl rfl (gR_hp (rp_gR R_406 (T2_o t0) rfl)) ?_
  refine Rn.n hT 1 (pc' := 75) (L' := [some (.ref q0), some (.int m1), some (.int m2)]) (st' := [.int (0 : Int32), .ref (q0 + 18)]) rfl ?_
  obtain ⟨s_408, e_409, e⟩ := Option.bind_eq_some_iff.mp e
  obtain ⟨h_408, g_409, R_408⟩ := rp_pI (ci := 7) (k := 1) R_406 (T7_o (T2_17 t0)) rfl rfl L32_0 e_409
  refine Rn.hp hT rfl rfl (pV_hp rfl g_409) ?_
  refine Rn.n hT 1 (pc' := 79) (L' := [some (.ref q0), some (.int m1), some (.int m2)]) (st' := [.ref q0]) rfl ?_
  refine Rn.hp hT rfl rfl (gR_hp (rp_gR R_408 (T2_o t0) rfl)) ?_
  refine Rn.n hT 1 (pc' := 83) (L' := [some (.ref q0), some (.int m1), some (.int m2)]) (st' := [.int (0 : Int32), .ref (q0 + 20)]) rfl ?_
  obtain ⟨s_410, e_411, e⟩ := Option.bind_eq_some_iff.mp e
  obtain ⟨h_410, g_411, R_410⟩ := rp_pI (ci := 7) (k := 1) R_408 (T7_o (T2_18 t0)) rfl rfl L32_0 e_411
  refine Rn.hp hT rfl rfl (pV_hp rfl g_411) ?_
  obtain rfl := Option.some.inj e
  exact Rn.ret hT rfl rfl rfl (hq h_410 R_410)
set_option maxRecDepth 10000 in
theorem hX7_copyFrom : iv_Tb 98 tX7_copyFrom := iv_tb_of (m := mX7_copyFrom) rfl
set_option maxRecDepth 10000 in
theorem gX7_copyFrom : PG.2 98 = some mX7_copyFrom := iv_pi_of (t := tX7_copyFrom) rfl (by decide)
def FX7_copyFrom (N : Nat) (s : iv_M) (q0 : Nat) (q1 : Nat) : Option (iv_M) := ((pt s q0 1 (mnI (s q1 1) ((sh (q0 + 1)).2 : Int))).bind fun s_415 => ((cp s_415 (q1 + 1) ((sh (q1 + 1)).2 : Int) 0 (q0 + 1) ((sh (q0 + 1)).2 : Int) 0 (s_415 q0 1)).bind fun s_419 => some s_419))
set_option maxRecDepth 10000 in
set_option maxHeartbeats 4000000 in
theorem RX7_copyFrom {d N nc Ls : Nat} {Xs : Nat → Int32} (hd : 1 ≤ d) {h : iv_H} {s : iv_M} (hR : Rep nc Ls Xs h s) {q0 : Nat} (t0 : T7 nc q0) {q1 : Nat} (t1 : T7 nc q1) {r : iv_M} {Q : Option Value → iv_H → Prop} (e : FX7_copyFrom N s q0 q1 = some r) (hq : ∀ h1, Rep nc Ls Xs h1 r → Q none h1) : Cl d 98 [.ref q0, .ref q1] h Q := by
  obtain ⟨d, rfl⟩ : ∃ k, d = k + 1 := ⟨d - 1, by omega⟩
  have hd : 0 ≤ d := by omega
  have hT := hX7_copyFrom
  unfold FX7_copyFrom at e
  refine Cl.into (by decide) gX7_copyFrom rfl ?_
  show Rn d 98 none 0 [some (.ref q0), some (.ref q1)] [] h Q
  refine Rn.n hT 2 (pc' := 2) (L' := [some (.ref q0), some (.ref q1)]) (st' := [.ref q1, .ref q0]) rfl ?_
  obtain ⟨z_412, g_412, p_412⟩ : ∃ z : Int32, gI h 7 1 q1 = some z ∧ z.toInt = s q1 1 := rp_gI (k := 1) hR (T7_o t1) rfl
  refine Rn.hp hT rfl rfl (gI_hp g_412) ?_
  refine Rn.n hT 1 (pc' := 6) (L' := [some (.ref q0), some (.ref q1)]) (st' := [.ref q0, .int z_412, .ref q0]) rfl ?_
  refine Rn.hp hT rfl rfl (gR_hp (rp_gR hR (T7_o t0) rfl)) ?_
  obtain ⟨z_413, g_413, p_413⟩ : ∃ z : Int32, aL h (q0 + 1) = some z ∧ z.toInt = ((sh (q0 + 1)).2 : Int) := rp_aL hR (T7_0 t0) (Or.inr (Or.inl rfl)) rfl
  refine Rn.hp hT rfl rfl (aL_hp g_413) ?_
  refine Rn.hp hT rfl rfl (mn_hp (Nat.le_of_ble_eq_true rfl)) ?_
  obtain ⟨s_415, e_416, e⟩ := Option.bind_eq_some_iff.mp e
  obtain ⟨h_415, g_416, R_415⟩ := rp_pI (ci := 7) (k := 1) hR (T7_o t0) rfl rfl (ti_mn p_412 p_413) e_416
  refine Rn.hp hT rfl rfl (pV_hp rfl g_416) ?_
  refine Rn.n hT 1 (pc' := 17) (L' := [some (.ref q0), some (.ref q1)]) (st' := [.ref q1]) rfl ?_
  refine Rn.hp hT rfl rfl (gR_hp (rp_gR R_415 (T7_o t1) rfl)) ?_
  refine Rn.n hT 2 (pc' := 22) (L' := [some (.ref q0), some (.ref q1)]) (st' := [.ref q0, .int (0 : Int32), .ref (q1 + 1)]) rfl ?_
  refine Rn.hp hT rfl rfl (gR_hp (rp_gR R_415 (T7_o t0) rfl)) ?_
  refine Rn.n hT 2 (pc' := 27) (L' := [some (.ref q0), some (.ref q1)]) (st' := [.ref q0, .int (0 : Int32), .ref (q0 + 1), .int (0 : Int32), .ref (q1 + 1)]) rfl ?_
  obtain ⟨z_417, g_417, p_417⟩ : ∃ z : Int32, gI h_415 7 1 q0 = some z ∧ z.toInt = s_415 q0 1 := rp_gI (k := 1) R_415 (T7_o t0) rfl
  refine Rn.hp hT rfl rfl (gI_hp g_417) ?_
  obtain ⟨s_419, e_418, e⟩ := Option.bind_eq_some_iff.mp e
  obtain ⟨h_419, g_418, R_419⟩ := rp_cpJ R_415 (T7_0 t1) rfl L32_0 (T7_0 t0) rfl L32_0 p_417 e_418
  refine Rn.hp hT rfl rfl (cpA_hp (Nat.le_of_ble_eq_true rfl) g_418) ?_
  obtain rfl := Option.some.inj e
  exact Rn.ret hT rfl rfl rfl (hq h_419 R_419)
set_option maxRecDepth 10000 in
theorem hX2_copyFrom : iv_Tb 45 tX2_copyFrom := iv_tb_of (m := mX2_copyFrom) rfl
set_option maxRecDepth 10000 in
theorem gX2_copyFrom : PG.2 45 = some mX2_copyFrom := iv_pi_of (t := tX2_copyFrom) rfl (by decide)
def FX2_copyFrom (N : Nat) (s : iv_M) (q0 : Nat) (q1 : Nat) : Option (iv_M) := (if (s q1 0) = 0 ∨ (s q1 0) = 1 then ((pt s q0 0 (s q1 0)).bind fun s_421 => ((pt s_421 q0 1 (s_421 q1 1)).bind fun s_424 => ((pt s_424 q0 2 (s_424 q1 2)).bind fun s_427 => ((pt s_427 q0 3 (s_427 q1 3)).bind fun s_430 => ((pt s_430 q0 4 (s_430 q1 4)).bind fun s_433 => ((pt s_433 q0 5 (s_433 q1 5)).bind fun s_436 => ((pt s_436 q0 6 (s_436 q1 6)).bind fun s_439 => ((pt s_439 q0 7 (s_439 q1 7)).bind fun s_442 => ((pt s_442 q0 8 (s_442 q1 8)).bind fun s_445 => ((FX1_copyFrom N s_445 (q0 + 1) (q1 + 1)).bind fun s_448 => ((cp s_448 (q1 + 8) 5 0 (q0 + 8) 5 0 5).bind fun s_451 => ((cp s_451 (q1 + 9) 6 0 (q0 + 9) 6 0 6).bind fun s_454 => ((FX7_copyFrom N s_454 (q0 + 10) (q1 + 10)).bind fun s_456 => ((FX7_copyFrom N s_456 (q0 + 12) (q1 + 12)).bind fun s_458 => ((cp s_458 (q1 + 14) 4 0 (q0 + 14) 4 0 4).bind fun s_461 => ((cp s_461 (q1 + 15) 4 0 (q0 + 15) 4 0 4).bind fun s_464 => ((FX7_copyFrom N s_464 (q0 + 16) (q1 + 16)).bind fun s_466 => ((FX7_copyFrom N s_466 (q0 + 18) (q1 + 18)).bind fun s_468 => ((FX7_copyFrom N s_468 (q0 + 20) (q1 + 20)).bind fun s_470 => some s_470))))))))))))))))))) else none)
set_option maxRecDepth 10000 in
set_option maxHeartbeats 4000000 in
theorem RX2_copyFrom {d N nc Ls : Nat} {Xs : Nat → Int32} (hd : 5 ≤ d) {h : iv_H} {s : iv_M} (hR : Rep nc Ls Xs h s) {q0 : Nat} (t0 : T2 nc q0) {q1 : Nat} (t1 : T2 nc q1) {r : iv_M} {Q : Option Value → iv_H → Prop} (e : FX2_copyFrom N s q0 q1 = some r) (hq : ∀ h1, Rep nc Ls Xs h1 r → Q none h1) : Cl d 45 [.ref q0, .ref q1] h Q := by
  obtain ⟨d, rfl⟩ : ∃ k, d = k + 1 := ⟨d - 1, by omega⟩
  have hd : 4 ≤ d := by omega
  have hT := hX2_copyFrom
  unfold FX2_copyFrom at e
  refine Cl.into (by decide) gX2_copyFrom rfl ?_
  show Rn d 45 none 0 [some (.ref q0), some (.ref q1)] [] h Q
  refine Rn.n hT 2 (pc' := 2) (L' := [some (.ref q0), some (.ref q1)]) (st' := [.ref q1, .ref q0]) rfl ?_
  obtain ⟨z_420, g_420, p_420⟩ : ∃ z : Int32, gI h 2 0 q1 = some z ∧ z.toInt = s q1 0 := rp_gI (k := 0) hR (T2_o t1) rfl
  refine Rn.hp hT rfl rfl (gI_hp g_420) ?_
  by_cases c_471 : (s q1 0) = 0 ∨ (s q1 0) = 1
  · rw [if_pos c_471] at e
    obtain ⟨s_421, e_422, e⟩ := Option.bind_eq_some_iff.mp e
    obtain ⟨h_421, g_422, R_421⟩ := rp_pI (ci := 2) (k := 0) hR (T2_o t0) rfl rfl p_420 e_422
    refine Rn.hp hT rfl rfl (pV_hp (ft_bl (ti_b p_420 c_471)) g_422) ?_
    refine Rn.n hT 2 (pc' := 10) (L' := [some (.ref q0), some (.ref q1)]) (st' := [.ref q1, .ref q0]) rfl ?_
    obtain ⟨z_423, g_423, p_423⟩ : ∃ z : Int32, gI h_421 2 1 q1 = some z ∧ z.toInt = s_421 q1 1 := rp_gI (k := 1) R_421 (T2_o t1) rfl
    refine Rn.hp hT rfl rfl (gI_hp g_423) ?_
    obtain ⟨s_424, e_425, e⟩ := Option.bind_eq_some_iff.mp e
    obtain ⟨h_424, g_425, R_424⟩ := rp_pI (ci := 2) (k := 1) R_421 (T2_o t0) rfl rfl p_423 e_425
    refine Rn.hp hT rfl rfl (pV_hp rfl g_425) ?_
    refine Rn.n hT 2 (pc' := 18) (L' := [some (.ref q0), some (.ref q1)]) (st' := [.ref q1, .ref q0]) rfl ?_
    obtain ⟨z_426, g_426, p_426⟩ : ∃ z : Int32, gI h_424 2 2 q1 = some z ∧ z.toInt = s_424 q1 2 := rp_gI (k := 2) R_424 (T2_o t1) rfl
    refine Rn.hp hT rfl rfl (gI_hp g_426) ?_
    obtain ⟨s_427, e_428, e⟩ := Option.bind_eq_some_iff.mp e
    obtain ⟨h_427, g_428, R_427⟩ := rp_pI (ci := 2) (k := 2) R_424 (T2_o t0) rfl rfl p_426 e_428
    refine Rn.hp hT rfl rfl (pV_hp rfl g_428) ?_
    refine Rn.n hT 2 (pc' := 26) (L' := [some (.ref q0), some (.ref q1)]) (st' := [.ref q1, .ref q0]) rfl ?_
    obtain ⟨z_429, g_429, p_429⟩ : ∃ z : Int32, gI h_427 2 3 q1 = some z ∧ z.toInt = s_427 q1 3 := rp_gI (k := 3) R_427 (T2_o t1) rfl
    refine Rn.hp hT rfl rfl (gI_hp g_429) ?_
    obtain ⟨s_430, e_431, e⟩ := Option.bind_eq_some_iff.mp e
    obtain ⟨h_430, g_431, R_430⟩ := rp_pI (ci := 2) (k := 3) R_427 (T2_o t0) rfl rfl p_429 e_431
    refine Rn.hp hT rfl rfl (pV_hp rfl g_431) ?_
    refine Rn.n hT 2 (pc' := 34) (L' := [some (.ref q0), some (.ref q1)]) (st' := [.ref q1, .ref q0]) rfl ?_
    obtain ⟨z_432, g_432, p_432⟩ : ∃ z : Int32, gI h_430 2 4 q1 = some z ∧ z.toInt = s_430 q1 4 := rp_gI (k := 4) R_430 (T2_o t1) rfl
    refine Rn.hp hT rfl rfl (gI_hp g_432) ?_
    obtain ⟨s_433, e_434, e⟩ := Option.bind_eq_some_iff.mp e
    obtain ⟨h_433, g_434, R_433⟩ := rp_pI (ci := 2) (k := 4) R_430 (T2_o t0) rfl rfl p_432 e_434
    refine Rn.hp hT rfl rfl (pV_hp rfl g_434) ?_
    refine Rn.n hT 2 (pc' := 42) (L' := [some (.ref q0), some (.ref q1)]) (st' := [.ref q1, .ref q0]) rfl ?_
    obtain ⟨z_435, g_435, p_435⟩ : ∃ z : Int32, gI h_433 2 5 q1 = some z ∧ z.toInt = s_433 q1 5 := rp_gI (k := 5) R_433 (T2_o t1) rfl
    refine Rn.hp hT rfl rfl (gI_hp g_435) ?_
    obtain ⟨s_436, e_437, e⟩ := Option.bind_eq_some_iff.mp e
    obtain ⟨h_436, g_437, R_436⟩ := rp_pI (ci := 2) (k := 5) R_433 (T2_o t0) rfl rfl p_435 e_437
    refine Rn.hp hT rfl rfl (pV_hp rfl g_437) ?_
    refine Rn.n hT 2 (pc' := 50) (L' := [some (.ref q0), some (.ref q1)]) (st' := [.ref q1, .ref q0]) rfl ?_
    obtain ⟨z_438, g_438, p_438⟩ : ∃ z : Int32, gI h_436 2 6 q1 = some z ∧ z.toInt = s_436 q1 6 := rp_gI (k := 6) R_436 (T2_o t1) rfl
    refine Rn.hp hT rfl rfl (gI_hp g_438) ?_
    obtain ⟨s_439, e_440, e⟩ := Option.bind_eq_some_iff.mp e
    obtain ⟨h_439, g_440, R_439⟩ := rp_pI (ci := 2) (k := 6) R_436 (T2_o t0) rfl rfl p_438 e_440
    refine Rn.hp hT rfl rfl (pV_hp rfl g_440) ?_
    refine Rn.n hT 2 (pc' := 58) (L' := [some (.ref q0), some (.ref q1)]) (st' := [.ref q1, .ref q0]) rfl ?_
    obtain ⟨z_441, g_441, p_441⟩ : ∃ z : Int32, gI h_439 2 7 q1 = some z ∧ z.toInt = s_439 q1 7 := rp_gI (k := 7) R_439 (T2_o t1) rfl
    refine Rn.hp hT rfl rfl (gI_hp g_441) ?_
    obtain ⟨s_442, e_443, e⟩ := Option.bind_eq_some_iff.mp e
    obtain ⟨h_442, g_443, R_442⟩ := rp_pI (ci := 2) (k := 7) R_439 (T2_o t0) rfl rfl p_441 e_443
    refine Rn.hp hT rfl rfl (pV_hp rfl g_443) ?_
    refine Rn.n hT 2 (pc' := 66) (L' := [some (.ref q0), some (.ref q1)]) (st' := [.ref q1, .ref q0]) rfl ?_
    obtain ⟨z_444, g_444, p_444⟩ : ∃ z : Int32, gI h_442 2 8 q1 = some z ∧ z.toInt = s_442 q1 8 := rp_gI (k := 8) R_442 (T2_o t1) rfl
    refine Rn.hp hT rfl rfl (gI_hp g_444) ?_
    obtain ⟨s_445, e_446, e⟩ := Option.bind_eq_some_iff.mp e
    obtain ⟨h_445, g_446, R_445⟩ := rp_pI (ci := 2) (k := 8) R_442 (T2_o t0) rfl rfl p_444 e_446
    refine Rn.hp hT rfl rfl (pV_hp rfl g_446) ?_
    refine Rn.n hT 1 (pc' := 73) (L' := [some (.ref q0), some (.ref q1)]) (st' := [.ref q0]) rfl ?_
    refine Rn.hp hT rfl rfl (gR_hp (rp_gR R_445 (T2_o t0) rfl)) ?_
    refine Rn.n hT 1 (pc' := 77) (L' := [some (.ref q0), some (.ref q1)]) (st' := [.ref q1, .ref (q0 + 1)]) rfl ?_
    refine Rn.hp hT rfl rfl (gR_hp (rp_gR R_445 (T2_o t1) rfl)) ?_
    obtain ⟨s_448, e_447, e⟩ := Option.bind_eq_some_iff.mp e
    refine Rn.call hT rfl rfl rfl (Nat.le_of_ble_eq_true rfl) (rcv_v gX1_copyFrom (by omega) (rp_ck R_445 (T1_o (T2_9 t0)))) (RX1_copyFrom (by omega) R_445 (T2_9 t0) (T2_9 t1) e_447 (fun h_448 R_448 => ?_))
    show Rn d _ _ 83 [some (.ref q0), some (.ref q1)] [] h_448 Q
    refine Rn.n hT 1 (pc' := 84) (L' := [some (.ref q0), some (.ref q1)]) (st' := [.ref q1]) rfl ?_
    refine Rn.hp hT rfl rfl (gR_hp (rp_gR R_448 (T2_o t1) rfl)) ?_
    refine Rn.n hT 2 (pc' := 89) (L' := [some (.ref q0), some (.ref q1)]) (st' := [.ref q0, .int (0 : Int32), .ref (q1 + 8)]) rfl ?_
    refine Rn.hp hT rfl rfl (gR_hp (rp_gR R_448 (T2_o t0) rfl)) ?_
    refine Rn.n hT 2 (pc' := 94) (L' := [some (.ref q0), some (.ref q1)]) (st' := [.ref q0, .int (0 : Int32), .ref (q0 + 8), .int (0 : Int32), .ref (q1 + 8)]) rfl ?_
    refine Rn.hp hT rfl rfl (gR_hp (rp_gR R_448 (T2_o t0) rfl)) ?_
    obtain ⟨z_449, g_449, p_449⟩ : ∃ z : Int32, aL h_448 (q0 + 8) = some z ∧ z.toInt = 5 := rp_aL R_448 (T2_10 t0) (Or.inl rfl) (T2_10l t0)
    refine Rn.hp hT rfl rfl (aL_hp g_449) ?_
    obtain ⟨s_451, e_450, e⟩ := Option.bind_eq_some_iff.mp e
    obtain ⟨h_451, g_450, R_451⟩ := rp_cp R_448 (T2_10 t1) (T2_10l t1) L32_0 (T2_10 t0) (T2_10l t0) L32_0 p_449 e_450
    refine Rn.hp hT rfl rfl (cpA_hp (Nat.le_of_ble_eq_true rfl) g_450) ?_
    refine Rn.n hT 1 (pc' := 102) (L' := [some (.ref q0), some (.ref q1)]) (st' := [.ref q1]) rfl ?_
    refine Rn.hp hT rfl rfl (gR_hp (rp_gR R_451 (T2_o t1) rfl)) ?_
    refine Rn.n hT 2 (pc' := 107) (L' := [some (.ref q0), some (.ref q1)]) (st' := [.ref q0, .int (0 : Int32), .ref (q1 + 9)]) rfl ?_
    refine Rn.hp hT rfl rfl (gR_hp (rp_gR R_451 (T2_o t0) rfl)) ?_
    refine Rn.n hT 2 (pc' := 112) (L' := [some (.ref q0), some (.ref q1)]) (st' := [.ref q0, .int (0 : Int32), .ref (q0 + 9), .int (0 : Int32), .ref (q1 + 9)]) rfl ?_
    refine Rn.hp hT rfl rfl (gR_hp (rp_gR R_451 (T2_o t0) rfl)) ?_
    obtain ⟨z_452, g_452, p_452⟩ : ∃ z : Int32, aL h_451 (q0 + 9) = some z ∧ z.toInt = 6 := rp_aL R_451 (T2_11 t0) (Or.inl rfl) (T2_11l t0)
    refine Rn.hp hT rfl rfl (aL_hp g_452) ?_
    obtain ⟨s_454, e_453, e⟩ := Option.bind_eq_some_iff.mp e
    obtain ⟨h_454, g_453, R_454⟩ := rp_cp R_451 (T2_11 t1) (T2_11l t1) L32_0 (T2_11 t0) (T2_11l t0) L32_0 p_452 e_453
    refine Rn.hp hT rfl rfl (cpA_hp (Nat.le_of_ble_eq_true rfl) g_453) ?_
    refine Rn.n hT 1 (pc' := 120) (L' := [some (.ref q0), some (.ref q1)]) (st' := [.ref q0]) rfl ?_
    refine Rn.hp hT rfl rfl (gR_hp (rp_gR R_454 (T2_o t0) rfl)) ?_
    refine Rn.n hT 1 (pc' := 124) (L' := [some (.ref q0), some (.ref q1)]) (st' := [.ref q1, .ref (q0 + 10)]) rfl ?_
    refine Rn.hp hT rfl rfl (gR_hp (rp_gR R_454 (T2_o t1) rfl)) ?_
    obtain ⟨s_456, e_455, e⟩ := Option.bind_eq_some_iff.mp e
    refine Rn.call hT rfl rfl rfl (Nat.le_of_ble_eq_true rfl) (rcv_v gX7_copyFrom (by omega) (rp_ck R_454 (T7_o (T2_12 t0)))) (RX7_copyFrom (by omega) R_454 (T2_12 t0) (T2_12 t1) e_455 (fun h_456 R_456 => ?_))
    show Rn d _ _ 130 [some (.ref q0), some (.ref q1)] [] h_456 Q
    refine Rn.n hT 1 (pc' := 131) (L' := [some (.ref q0), some (.ref q1)]) (st' := [.ref q0]) rfl ?_
    refine Rn.hp hT rfl rfl (gR_hp (rp_gR R_456 (T2_o t0) rfl)) ?_
    refine Rn.n hT 1 (pc' := 135) (L' := [some (.ref q0), some (.ref q1)]) (st' := [.ref q1, .ref (q0 + 12)]) rfl ?_
    refine Rn.hp hT rfl rfl (gR_hp (rp_gR R_456 (T2_o t1) rfl)) ?_
    obtain ⟨s_458, e_457, e⟩ := Option.bind_eq_some_iff.mp e
    refine Rn.call hT rfl rfl rfl (Nat.le_of_ble_eq_true rfl) (rcv_v gX7_copyFrom (by omega) (rp_ck R_456 (T7_o (T2_13 t0)))) (RX7_copyFrom (by omega) R_456 (T2_13 t0) (T2_13 t1) e_457 (fun h_458 R_458 => ?_))
    show Rn d _ _ 141 [some (.ref q0), some (.ref q1)] [] h_458 Q
    refine Rn.n hT 1 (pc' := 142) (L' := [some (.ref q0), some (.ref q1)]) (st' := [.ref q1]) rfl ?_
    refine Rn.hp hT rfl rfl (gR_hp (rp_gR R_458 (T2_o t1) rfl)) ?_
    refine Rn.n hT 2 (pc' := 147) (L' := [some (.ref q0), some (.ref q1)]) (st' := [.ref q0, .int (0 : Int32), .ref (q1 + 14)]) rfl ?_
    refine Rn.hp hT rfl rfl (gR_hp (rp_gR R_458 (T2_o t0) rfl)) ?_
    refine Rn.n hT 2 (pc' := 152) (L' := [some (.ref q0), some (.ref q1)]) (st' := [.ref q0, .int (0 : Int32), .ref (q0 + 14), .int (0 : Int32), .ref (q1 + 14)]) rfl ?_
    refine Rn.hp hT rfl rfl (gR_hp (rp_gR R_458 (T2_o t0) rfl)) ?_
    obtain ⟨z_459, g_459, p_459⟩ : ∃ z : Int32, aL h_458 (q0 + 14) = some z ∧ z.toInt = 4 := rp_aL R_458 (T2_14 t0) (Or.inr (Or.inl rfl)) (T2_14l t0)
    refine Rn.hp hT rfl rfl (aL_hp g_459) ?_
    obtain ⟨s_461, e_460, e⟩ := Option.bind_eq_some_iff.mp e
    obtain ⟨h_461, g_460, R_461⟩ := rp_cpJ R_458 (T2_14 t1) (T2_14l t1) L32_0 (T2_14 t0) (T2_14l t0) L32_0 p_459 e_460
    refine Rn.hp hT rfl rfl (cpA_hp (Nat.le_of_ble_eq_true rfl) g_460) ?_
    refine Rn.n hT 1 (pc' := 160) (L' := [some (.ref q0), some (.ref q1)]) (st' := [.ref q1]) rfl ?_
    refine Rn.hp hT rfl rfl (gR_hp (rp_gR R_461 (T2_o t1) rfl)) ?_
    refine Rn.n hT 2 (pc' := 165) (L' := [some (.ref q0), some (.ref q1)]) (st' := [.ref q0, .int (0 : Int32), .ref (q1 + 15)]) rfl ?_
    refine Rn.hp hT rfl rfl (gR_hp (rp_gR R_461 (T2_o t0) rfl)) ?_
    refine Rn.n hT 2 (pc' := 170) (L' := [some (.ref q0), some (.ref q1)]) (st' := [.ref q0, .int (0 : Int32), .ref (q0 + 15), .int (0 : Int32), .ref (q1 + 15)]) rfl ?_
    refine Rn.hp hT rfl rfl (gR_hp (rp_gR R_461 (T2_o t0) rfl)) ?_
    obtain ⟨z_462, g_462, p_462⟩ : ∃ z : Int32, aL h_461 (q0 + 15) = some z ∧ z.toInt = 4 := rp_aL R_461 (T2_15 t0) (Or.inl rfl) (T2_15l t0)
    refine Rn.hp hT rfl rfl (aL_hp g_462) ?_
    obtain ⟨s_464, e_463, e⟩ := Option.bind_eq_some_iff.mp e
    obtain ⟨h_464, g_463, R_464⟩ := rp_cp R_461 (T2_15 t1) (T2_15l t1) L32_0 (T2_15 t0) (T2_15l t0) L32_0 p_462 e_463
    refine Rn.hp hT rfl rfl (cpA_hp (Nat.le_of_ble_eq_true rfl) g_463) ?_
    refine Rn.n hT 1 (pc' := 178) (L' := [some (.ref q0), some (.ref q1)]) (st' := [.ref q0]) rfl ?_
    refine Rn.hp hT rfl rfl (gR_hp (rp_gR R_464 (T2_o t0) rfl)) ?_
    refine Rn.n hT 1 (pc' := 182) (L' := [some (.ref q0), some (.ref q1)]) (st' := [.ref q1, .ref (q0 + 16)]) rfl ?_
    refine Rn.hp hT rfl rfl (gR_hp (rp_gR R_464 (T2_o t1) rfl)) ?_
    obtain ⟨s_466, e_465, e⟩ := Option.bind_eq_some_iff.mp e
    refine Rn.call hT rfl rfl rfl (Nat.le_of_ble_eq_true rfl) (rcv_v gX7_copyFrom (by omega) (rp_ck R_464 (T7_o (T2_16 t0)))) (RX7_copyFrom (by omega) R_464 (T2_16 t0) (T2_16 t1) e_465 (fun h_466 R_466 => ?_))
    show Rn d _ _ 188 [some (.ref q0), some (.ref q1)] [] h_466 Q
    refine Rn.n hT 1 (pc' := 189) (L' := [some (.ref q0), some (.ref q1)]) (st' := [.ref q0]) rfl ?_
    refine Rn.hp hT rfl rfl (gR_hp (rp_gR R_466 (T2_o t0) rfl)) ?_
    refine Rn.n hT 1 (pc' := 193) (L' := [some (.ref q0), some (.ref q1)]) (st' := [.ref q1, .ref (q0 + 18)]) rfl ?_
    refine Rn.hp hT rfl rfl (gR_hp (rp_gR R_466 (T2_o t1) rfl)) ?_
    obtain ⟨s_468, e_467, e⟩ := Option.bind_eq_some_iff.mp e
    refine Rn.call hT rfl rfl rfl (Nat.le_of_ble_eq_true rfl) (rcv_v gX7_copyFrom (by omega) (rp_ck R_466 (T7_o (T2_17 t0)))) (RX7_copyFrom (by omega) R_466 (T2_17 t0) (T2_17 t1) e_467 (fun h_468 R_468 => ?_))
    show Rn d _ _ 199 [some (.ref q0), some (.ref q1)] [] h_468 Q
    refine Rn.n hT 1 (pc' := 200) (L' := [some (.ref q0), some (.ref q1)]) (st' := [.ref q0]) rfl ?_
    refine Rn.hp hT rfl rfl (gR_hp (rp_gR R_468 (T2_o t0) rfl)) ?_
    refine Rn.n hT 1 (pc' := 204) (L' := [some (.ref q0), some (.ref q1)]) (st' := [.ref q1, .ref (q0 + 20)]) rfl ?_
    refine Rn.hp hT rfl rfl (gR_hp (rp_gR R_468 (T2_o t1) rfl)) ?_
    obtain ⟨s_470, e_469, e⟩ := Option.bind_eq_some_iff.mp e
    refine Rn.call hT rfl rfl rfl (Nat.le_of_ble_eq_true rfl) (rcv_v gX7_copyFrom (by omega) (rp_ck R_468 (T7_o (T2_18 t0)))) (RX7_copyFrom (by omega) R_468 (T2_18 t0) (T2_18 t1) e_469 (fun h_470 R_470 => ?_))
    show Rn d _ _ 210 [some (.ref q0), some (.ref q1)] [] h_470 Q
    obtain rfl := Option.some.inj e
    exact Rn.ret hT rfl rfl rfl (hq h_470 R_470)
  · rw [if_neg c_471] at e
    cases e
set_option maxRecDepth 10000 in
theorem hX2_isRoom : iv_Tb 46 tX2_isRoom := iv_tb_of (m := mX2_isRoom) rfl
set_option maxRecDepth 10000 in
theorem gX2_isRoom : PG.2 46 = some mX2_isRoom := iv_pi_of (t := tX2_isRoom) rfl (by decide)
def FX2_isRoom_b20 (N : Nat) (s : iv_M)  (xs0 : Int) : Option (Int) := (if xs0 = 0 ∨ xs0 = 1 then some xs0 else none)
set_option maxRecDepth 10000 in
set_option maxHeartbeats 4000000 in
theorem RX2_isRoom_b20 {d N nc Ls : Nat} {Xs : Nat → Int32} (hd : 0 ≤ d) {h : iv_H} {s : iv_M} (hR : Rep nc Ls Xs h s)  {ms0 : Int32} {xs0 : Int} (ps0 : ms0.toInt = xs0) {r : Int} {Q : Option Value → iv_H → Prop} (hq : ∀ (z : Int32), z.toInt = r → Q (some (.int z)) h) (e : FX2_isRoom_b20 N s  xs0 = some r) : Rn d 46 (some .boolean) 20 [none, none] [.int ms0] h Q := by
  have hT := hX2_isRoom
  unfold FX2_isRoom_b20 at e
  by_cases c_475 : xs0 = 0 ∨ xs0 = 1
  · rw [if_pos c_475] at e
    obtain rfl := Option.some.inj e
    exact Rn.ret hT rfl rfl (if_pos (ti_b ps0 c_475)) (hq ms0 ps0)
  · rw [if_neg c_475] at e
    cases e
def FX2_isRoom_b19 (N : Nat) (s : iv_M)   : Option (Int) := (FX2_isRoom_b20 N s 0)
set_option maxRecDepth 10000 in
set_option maxHeartbeats 4000000 in
theorem RX2_isRoom_b19 {d N nc Ls : Nat} {Xs : Nat → Int32} (hd : 0 ≤ d) {h : iv_H} {s : iv_M} (hR : Rep nc Ls Xs h s)   {r : Int} {Q : Option Value → iv_H → Prop} (hq : ∀ (z : Int32), z.toInt = r → Q (some (.int z)) h) (e : FX2_isRoom_b19 N s   = some r) : Rn d 46 (some .boolean) 19 [none, none] [] h Q := by
  have hT := hX2_isRoom
  unfold FX2_isRoom_b19 at e
  refine Rn.n hT 1 (pc' := 20) (L' := [none, none]) (st' := [.int (0 : Int32)]) rfl ?_
  exact Rn.weak (ll_n (ll_n ll_e)) (RX2_isRoom_b20 hd hR L32_0 hq e)
def FX2_isRoom (N : Nat) (s : iv_M) (q0 : Nat) (x1 : Int) : Option (Int) := (if x1 < 0 then (FX2_isRoom_b19 N s) else (if (s (q0 + 1) 2) ≤ x1 then (FX2_isRoom_b19 N s) else (FX2_isRoom_b20 N s 1)))
set_option maxRecDepth 10000 in
set_option maxHeartbeats 4000000 in
theorem RX2_isRoom {d N nc Ls : Nat} {Xs : Nat → Int32} (hd : 1 ≤ d) {h : iv_H} {s : iv_M} (hR : Rep nc Ls Xs h s) {q0 : Nat} (t0 : T2 nc q0) {m1 : Int32} {x1 : Int} (p1 : m1.toInt = x1) {r : Int} {Q : Option Value → iv_H → Prop} (e : FX2_isRoom N s q0 x1 = some r) (hq : ∀ (z : Int32), z.toInt = r → Q (some (.int z)) h) : Cl d 46 [.ref q0, .int m1] h Q := by
  obtain ⟨d, rfl⟩ : ∃ k, d = k + 1 := ⟨d - 1, by omega⟩
  have hd : 0 ≤ d := by omega
  have hT := hX2_isRoom
  unfold FX2_isRoom at e
  refine Cl.into (by decide) gX2_isRoom rfl ?_
  show Rn d 46 (some .boolean) 0 [some (.ref q0), some (.int m1)] [] h Q
  refine Rn.n hT 1 (pc' := 1) (L' := [some (.ref q0), some (.int m1)]) (st' := [.int m1]) rfl ?_
  by_cases c_472 : x1 < 0
  · rw [if_pos c_472] at e
    refine Rn.bt hT rfl rfl rfl (decide_eq_true ((ti_l p1 L32_0).mpr c_472)) ?_
    exact Rn.weak (ll_n (ll_n ll_e)) (RX2_isRoom_b19 hd hR hq e)
  · rw [if_neg c_472] at e
    refine Rn.bf hT rfl rfl rfl (decide_eq_false (fun z => c_472 ((ti_l p1 L32_0).mp z))) ?_
    refine Rn.n hT 2 (pc' := 6) (L' := [some (.ref q0), some (.int m1)]) (st' := [.ref q0, .int m1]) rfl ?_
    refine Rn.hp hT rfl rfl (gR_hp (rp_gR hR (T2_o t0) rfl)) ?_
    obtain ⟨z_473, g_473, p_473⟩ : ∃ z : Int32, gI h 1 2 (q0 + 1) = some z ∧ z.toInt = s (q0 + 1) 2 := rp_gI (k := 2) hR (T1_o (T2_9 t0)) rfl
    refine Rn.hp hT rfl rfl (gI_hp g_473) ?_
    by_cases c_474 : (s (q0 + 1) 2) ≤ x1
    · rw [if_pos c_474] at e
      refine Rn.bt hT rfl rfl rfl (decide_eq_true ((ti_le p_473 p1).mpr c_474)) ?_
      exact Rn.weak (ll_n (ll_n ll_e)) (RX2_isRoom_b19 hd hR hq e)
    · rw [if_neg c_474] at e
      refine Rn.bf hT rfl rfl rfl (decide_eq_false (fun z => c_474 ((ti_le p_473 p1).mp z))) ?_
      refine Rn.n hT 2 (pc' := 20) (L' := [some (.ref q0), some (.int m1)]) (st' := [.int (1 : Int32)]) rfl ?_
      exact Rn.weak (ll_n (ll_n ll_e)) (RX2_isRoom_b20 hd hR L32_1 hq e)
set_option maxRecDepth 10000 in
theorem hX2_isPerson : iv_Tb 47 tX2_isPerson := iv_tb_of (m := mX2_isPerson) rfl
set_option maxRecDepth 10000 in
theorem gX2_isPerson : PG.2 47 = some mX2_isPerson := iv_pi_of (t := tX2_isPerson) rfl (by decide)
def FX2_isPerson_b17 (N : Nat) (s : iv_M)  (xs0 : Int) : Option (Int) := (if xs0 = 0 ∨ xs0 = 1 then some xs0 else none)
set_option maxRecDepth 10000 in
set_option maxHeartbeats 4000000 in
theorem RX2_isPerson_b17 {d N nc Ls : Nat} {Xs : Nat → Int32} (hd : 0 ≤ d) {h : iv_H} {s : iv_M} (hR : Rep nc Ls Xs h s)  {ms0 : Int32} {xs0 : Int} (ps0 : ms0.toInt = xs0) {r : Int} {Q : Option Value → iv_H → Prop} (hq : ∀ (z : Int32), z.toInt = r → Q (some (.int z)) h) (e : FX2_isPerson_b17 N s  xs0 = some r) : Rn d 47 (some .boolean) 17 [none, none] [.int ms0] h Q := by
  have hT := hX2_isPerson
  unfold FX2_isPerson_b17 at e
  by_cases c_479 : xs0 = 0 ∨ xs0 = 1
  · rw [if_pos c_479] at e
    obtain rfl := Option.some.inj e
    exact Rn.ret hT rfl rfl (if_pos (ti_b ps0 c_479)) (hq ms0 ps0)
  · rw [if_neg c_479] at e
    cases e
def FX2_isPerson_b16 (N : Nat) (s : iv_M)   : Option (Int) := (FX2_isPerson_b17 N s 0)
set_option maxRecDepth 10000 in
set_option maxHeartbeats 4000000 in
theorem RX2_isPerson_b16 {d N nc Ls : Nat} {Xs : Nat → Int32} (hd : 0 ≤ d) {h : iv_H} {s : iv_M} (hR : Rep nc Ls Xs h s)   {r : Int} {Q : Option Value → iv_H → Prop} (hq : ∀ (z : Int32), z.toInt = r → Q (some (.int z)) h) (e : FX2_isPerson_b16 N s   = some r) : Rn d 47 (some .boolean) 16 [none, none] [] h Q := by
  have hT := hX2_isPerson
  unfold FX2_isPerson_b16 at e
  refine Rn.n hT 1 (pc' := 17) (L' := [none, none]) (st' := [.int (0 : Int32)]) rfl ?_
  exact Rn.weak (ll_n (ll_n ll_e)) (RX2_isPerson_b17 hd hR L32_0 hq e)
def FX2_isPerson (N : Nat) (s : iv_M) (q0 : Nat) (x1 : Int) : Option (Int) := (if x1 < 0 then (FX2_isPerson_b16 N s) else (if (s q0 2) ≤ x1 then (FX2_isPerson_b16 N s) else (FX2_isPerson_b17 N s 1)))
set_option maxRecDepth 10000 in
set_option maxHeartbeats 4000000 in
theorem RX2_isPerson {d N nc Ls : Nat} {Xs : Nat → Int32} (hd : 1 ≤ d) {h : iv_H} {s : iv_M} (hR : Rep nc Ls Xs h s) {q0 : Nat} (t0 : T2 nc q0) {m1 : Int32} {x1 : Int} (p1 : m1.toInt = x1) {r : Int} {Q : Option Value → iv_H → Prop} (e : FX2_isPerson N s q0 x1 = some r) (hq : ∀ (z : Int32), z.toInt = r → Q (some (.int z)) h) : Cl d 47 [.ref q0, .int m1] h Q := by
  obtain ⟨d, rfl⟩ : ∃ k, d = k + 1 := ⟨d - 1, by omega⟩
  have hd : 0 ≤ d := by omega
  have hT := hX2_isPerson
  unfold FX2_isPerson at e
  refine Cl.into (by decide) gX2_isPerson rfl ?_
  show Rn d 47 (some .boolean) 0 [some (.ref q0), some (.int m1)] [] h Q
  refine Rn.n hT 1 (pc' := 1) (L' := [some (.ref q0), some (.int m1)]) (st' := [.int m1]) rfl ?_
  by_cases c_476 : x1 < 0
  · rw [if_pos c_476] at e
    refine Rn.bt hT rfl rfl rfl (decide_eq_true ((ti_l p1 L32_0).mpr c_476)) ?_
    exact Rn.weak (ll_n (ll_n ll_e)) (RX2_isPerson_b16 hd hR hq e)
  · rw [if_neg c_476] at e
    refine Rn.bf hT rfl rfl rfl (decide_eq_false (fun z => c_476 ((ti_l p1 L32_0).mp z))) ?_
    refine Rn.n hT 2 (pc' := 6) (L' := [some (.ref q0), some (.int m1)]) (st' := [.ref q0, .int m1]) rfl ?_
    obtain ⟨z_477, g_477, p_477⟩ : ∃ z : Int32, gI h 2 2 q0 = some z ∧ z.toInt = s q0 2 := rp_gI (k := 2) hR (T2_o t0) rfl
    refine Rn.hp hT rfl rfl (gI_hp g_477) ?_
    by_cases c_478 : (s q0 2) ≤ x1
    · rw [if_pos c_478] at e
      refine Rn.bt hT rfl rfl rfl (decide_eq_true ((ti_le p_477 p1).mpr c_478)) ?_
      exact Rn.weak (ll_n (ll_n ll_e)) (RX2_isPerson_b16 hd hR hq e)
    · rw [if_neg c_478] at e
      refine Rn.bf hT rfl rfl rfl (decide_eq_false (fun z => c_478 ((ti_le p_477 p1).mp z))) ?_
      refine Rn.n hT 2 (pc' := 17) (L' := [some (.ref q0), some (.int m1)]) (st' := [.int (1 : Int32)]) rfl ?_
      exact Rn.weak (ll_n (ll_n ll_e)) (RX2_isPerson_b17 hd hR L32_1 hq e)
set_option maxRecDepth 10000 in
theorem hX2_isFixed : iv_Tb 48 tX2_isFixed := iv_tb_of (m := mX2_isFixed) rfl
set_option maxRecDepth 10000 in
theorem gX2_isFixed : PG.2 48 = some mX2_isFixed := iv_pi_of (t := tX2_isFixed) rfl (by decide)
def FX2_isFixed_b17 (N : Nat) (s : iv_M)  (xs0 : Int) : Option (Int) := (if xs0 = 0 ∨ xs0 = 1 then some xs0 else none)
set_option maxRecDepth 10000 in
set_option maxHeartbeats 4000000 in
theorem RX2_isFixed_b17 {d N nc Ls : Nat} {Xs : Nat → Int32} (hd : 0 ≤ d) {h : iv_H} {s : iv_M} (hR : Rep nc Ls Xs h s)  {ms0 : Int32} {xs0 : Int} (ps0 : ms0.toInt = xs0) {r : Int} {Q : Option Value → iv_H → Prop} (hq : ∀ (z : Int32), z.toInt = r → Q (some (.int z)) h) (e : FX2_isFixed_b17 N s  xs0 = some r) : Rn d 48 (some .boolean) 17 [none, none] [.int ms0] h Q := by
  have hT := hX2_isFixed
  unfold FX2_isFixed_b17 at e
  by_cases c_482 : xs0 = 0 ∨ xs0 = 1
  · rw [if_pos c_482] at e
    obtain rfl := Option.some.inj e
    exact Rn.ret hT rfl rfl (if_pos (ti_b ps0 c_482)) (hq ms0 ps0)
  · rw [if_neg c_482] at e
    cases e
def FX2_isFixed (N : Nat) (s : iv_M) (q0 : Nat) (x1 : Int) : Option (Int) := (if (bAn (sr32 (s q0 3) x1) 1) = 1 then (FX2_isFixed_b17 N s 1) else (FX2_isFixed_b17 N s 0))
set_option maxRecDepth 10000 in
set_option maxHeartbeats 4000000 in
theorem RX2_isFixed {d N nc Ls : Nat} {Xs : Nat → Int32} (hd : 1 ≤ d) {h : iv_H} {s : iv_M} (hR : Rep nc Ls Xs h s) {q0 : Nat} (t0 : T2 nc q0) {m1 : Int32} {x1 : Int} (p1 : m1.toInt = x1) {r : Int} {Q : Option Value → iv_H → Prop} (e : FX2_isFixed N s q0 x1 = some r) (hq : ∀ (z : Int32), z.toInt = r → Q (some (.int z)) h) : Cl d 48 [.ref q0, .int m1] h Q := by
  obtain ⟨d, rfl⟩ : ∃ k, d = k + 1 := ⟨d - 1, by omega⟩
  have hd : 0 ≤ d := by omega
  have hT := hX2_isFixed
  unfold FX2_isFixed at e
  refine Cl.into (by decide) gX2_isFixed rfl ?_
  show Rn d 48 (some .boolean) 0 [some (.ref q0), some (.int m1)] [] h Q
  refine Rn.n hT 1 (pc' := 1) (L' := [some (.ref q0), some (.int m1)]) (st' := [.ref q0]) rfl ?_
  obtain ⟨z_480, g_480, p_480⟩ : ∃ z : Int32, gI h 2 3 q0 = some z ∧ z.toInt = s q0 3 := rp_gI (k := 3) hR (T2_o t0) rfl
  refine Rn.hp hT rfl rfl (gI_hp g_480) ?_
  refine Rn.n hT 5 (pc' := 9) (L' := [some (.ref q0), some (.int m1)]) (st' := [.int (1 : Int32), .int ((z_480 >>> (m1 &&& 31)) &&& (1 : Int32))]) rfl ?_
  by_cases c_481 : (bAn (sr32 (s q0 3) x1) 1) = 1
  · rw [if_pos c_481] at e
    refine Rn.bf hT rfl rfl rfl (decide_eq_false (fun z => z ((ti_e (ti_and (ti_shr p_480 p1) L32_1) L32_1).mpr c_481))) ?_
    refine Rn.n hT 2 (pc' := 17) (L' := [some (.ref q0), some (.int m1)]) (st' := [.int (1 : Int32)]) rfl ?_
    exact Rn.weak (ll_n (ll_n ll_e)) (RX2_isFixed_b17 hd hR L32_1 hq e)
  · rw [if_neg c_481] at e
    refine Rn.bt hT rfl rfl rfl (decide_eq_true (fun z => c_481 ((ti_e (ti_and (ti_shr p_480 p1) L32_1) L32_1).mp z))) ?_
    refine Rn.n hT 1 (pc' := 17) (L' := [some (.ref q0), some (.int m1)]) (st' := [.int (0 : Int32)]) rfl ?_
    exact Rn.weak (ll_n (ll_n ll_e)) (RX2_isFixed_b17 hd hR L32_0 hq e)
set_option maxRecDepth 10000 in
theorem hX2_sleepersIn : iv_Tb 50 tX2_sleepersIn := iv_tb_of (m := mX2_sleepersIn) rfl
set_option maxRecDepth 10000 in
theorem gX2_sleepersIn : PG.2 50 = some mX2_sleepersIn := iv_pi_of (t := tX2_sleepersIn) rfl (by decide)
def FX2_sleepersIn_b30 (N : Nat) (s : iv_M) (q0 : Nat) (x1 : Int) (x3 : Int) (xs0 : Int) (xs1 : Int) (kb : Int → Int → Option (Int)) (kx : Int → Option (Int)) : Option (Int) := (kb (bOr xs1 xs0) (w32 (x3 + 1)))
set_option maxRecDepth 10000 in
set_option maxHeartbeats 4000000 in
theorem RX2_sleepersIn_b30 {d N nc Ls : Nat} {Xs : Nat → Int32} (hd : 0 ≤ d) {h : iv_H} {s : iv_M} (hR : Rep nc Ls Xs h s) {q0 : Nat} (t0 : T2 nc q0) {m1 : Int32} {x1 : Int} (p1 : m1.toInt = x1) {m3 : Int32} {x3 : Int} (p3 : m3.toInt = x3) {ms0 : Int32} {xs0 : Int} (ps0 : ms0.toInt = xs0) {ms1 : Int32} {xs1 : Int} (ps1 : ms1.toInt = xs1) {kb : Int → Int → Option (Int)} {kx : Int → Option (Int)} {r : Int} {Q : Option Value → iv_H → Prop} (hb : ∀ (mw2 : Int32) (xw2 : Int) (pw2 : mw2.toInt = xw2) (mw3 : Int32) (xw3 : Int) (pw3 : mw3.toInt = xw3), kb xw2 xw3 = some r → Rn d 50 (some .int) 4 [some (.ref q0), some (.int m1), some (.int mw2), some (.int mw3)] [] h Q) (hk : ∀ (mw2 : Int32) (xw2 : Int) (pw2 : mw2.toInt = xw2), kx xw2 = some r → Rn d 50 (some .int) 38 [none, none, some (.int mw2), none] [] h Q) (hq : ∀ (z : Int32), z.toInt = r → Q (some (.int z)) h) (e : FX2_sleepersIn_b30 N s q0 x1 x3 xs0 xs1 kb kx = some r) : Rn d 50 (some .int) 30 [some (.ref q0), some (.int m1), none, some (.int m3)] [.int ms0, .int ms1] h Q := by
  have hT := hX2_sleepersIn
  unfold FX2_sleepersIn_b30 at e
  refine Rn.n hT 4 (pc' := 4) (L' := [some (.ref q0), some (.int m1), some (.int (ms1 ||| ms0)), some (.int (m3 + (1 : Int32)))]) (st' := []) rfl ?_
  exact Rn.weak (ll_s (ll_s (ll_s (ll_s ll_e)))) (hb (ms1 ||| ms0) (bOr xs1 xs0) (ti_or ps1 ps0) (m3 + (1 : Int32)) (w32 (x3 + 1)) (ti_add p3 L32_1) e)
def FX2_sleepersIn_l4 (N : Nat) (s : iv_M) (q0 : Nat) (x1 : Int) (kx : Int → Option (Int)) : Nat → Int → Int → Option (Int)
  | 0, _, _ => none
  | n + 1, x2, x3 => (if (s q0 2) ≤ x3 then (kx x2) else ((rd s (q0 + 9) 6 x3).bind fun v_486 => (if v_486 = x1 then (FX2_sleepersIn_b30 N s q0 x1 x3 (sl32 1 x3) x2 (FX2_sleepersIn_l4 N s q0 x1 kx n) kx) else (FX2_sleepersIn_b30 N s q0 x1 x3 0 x2 (FX2_sleepersIn_l4 N s q0 x1 kx n) kx))))
set_option maxRecDepth 10000 in
set_option maxHeartbeats 4000000 in
theorem RX2_sleepersIn_l4 {d N nc Ls : Nat} {Xs : Nat → Int32} (hd : 0 ≤ d) {h : iv_H} {s : iv_M} (hR : Rep nc Ls Xs h s) {q0 : Nat} (t0 : T2 nc q0) {m1 : Int32} {x1 : Int} (p1 : m1.toInt = x1) {kx : Int → Option (Int)} {r : Int} {Q : Option Value → iv_H → Prop} (hk : ∀ (m2 : Int32) (x2 : Int) (p2 : m2.toInt = x2), kx x2 = some r → Rn d 50 (some .int) 38 [none, none, some (.int m2), none] [] h Q) (hq : ∀ (z : Int32), z.toInt = r → Q (some (.int z)) h) : ∀ (n : Nat) (m2 : Int32) (x2 : Int) (p2 : m2.toInt = x2) (m3 : Int32) (x3 : Int) (p3 : m3.toInt = x3), FX2_sleepersIn_l4 N s q0 x1 kx n x2 x3 = some r → Rn d 50 (some .int) 4 [some (.ref q0), some (.int m1), some (.int m2), some (.int m3)] [] h Q := by
  have hT := hX2_sleepersIn
  intro n
  induction n with
  | zero =>
    intro m2 x2 p2 m3 x3 p3 e
    rw [FX2_sleepersIn_l4] at e
    cases e
  | succ n ih =>
    intro m2 x2 p2 m3 x3 p3 e
    rw [FX2_sleepersIn_l4] at e
    refine Rn.n hT 2 (pc' := 6) (L' := [some (.ref q0), some (.int m1), some (.int m2), some (.int m3)]) (st' := [.ref q0, .int m3]) rfl ?_
    obtain ⟨z_484, g_484, p_484⟩ : ∃ z : Int32, gI h 2 2 q0 = some z ∧ z.toInt = s q0 2 := rp_gI (k := 2) hR (T2_o t0) rfl
    refine Rn.hp hT rfl rfl (gI_hp g_484) ?_
    by_cases c_485 : (s q0 2) ≤ x3
    · rw [if_pos c_485] at e
      refine Rn.bt hT rfl rfl rfl (decide_eq_true ((ti_le p_484 p3).mpr c_485)) ?_
      exact Rn.weak (ll_n (ll_n (ll_s (ll_n ll_e)))) (hk m2 x2 p2 e)
    · rw [if_neg c_485] at e
      refine Rn.bf hT rfl rfl rfl (decide_eq_false (fun z => c_485 ((ti_le p_484 p3).mp z))) ?_
      refine Rn.n hT 2 (pc' := 14) (L' := [some (.ref q0), some (.int m1), some (.int m2), some (.int m3)]) (st' := [.ref q0, .int m2]) rfl ?_
      refine Rn.hp hT rfl rfl (gR_hp (rp_gR hR (T2_o t0) rfl)) ?_
      refine Rn.n hT 1 (pc' := 18) (L' := [some (.ref q0), some (.int m1), some (.int m2), some (.int m3)]) (st' := [.int m3, .ref (q0 + 9), .int m2]) rfl ?_
      obtain ⟨v_486, e_486, e⟩ := Option.bind_eq_some_iff.mp e
      obtain ⟨z_486, g_486, p_486⟩ := rp_aI hR (T2_11 t0) (T2_11l t0) p3 e_486
      refine Rn.hp hT rfl rfl (aI_hp g_486) ?_
      refine Rn.n hT 1 (pc' := 20) (L' := [some (.ref q0), some (.int m1), some (.int m2), some (.int m3)]) (st' := [.int m1, .int z_486, .int m2]) rfl ?_
      by_cases c_487 : v_486 = x1
      · rw [if_pos c_487] at e
        refine Rn.bf hT rfl rfl rfl (decide_eq_false (fun z => z ((ti_e p_486 p1).mpr c_487))) ?_
        refine Rn.n hT 4 (pc' := 30) (L' := [some (.ref q0), some (.int m1), some (.int m2), some (.int m3)]) (st' := [.int ((1 : Int32) <<< (m3 &&& 31)), .int m2]) rfl ?_
        exact Rn.weak (ll_s (ll_s (ll_n (ll_s ll_e)))) (RX2_sleepersIn_b30 hd hR t0 p1 p3 (ti_shl L32_1 p3) p2 ih hk hq e)
      · rw [if_neg c_487] at e
        refine Rn.bt hT rfl rfl rfl (decide_eq_true (fun z => c_487 ((ti_e p_486 p1).mp z))) ?_
        refine Rn.n hT 1 (pc' := 30) (L' := [some (.ref q0), some (.int m1), some (.int m2), some (.int m3)]) (st' := [.int (0 : Int32), .int m2]) rfl ?_
        exact Rn.weak (ll_s (ll_s (ll_n (ll_s ll_e)))) (RX2_sleepersIn_b30 hd hR t0 p1 p3 L32_0 p2 ih hk hq e)
def FX2_sleepersIn (N : Nat) (s : iv_M) (q0 : Nat) (x1 : Int) : Option (Int) := (FX2_sleepersIn_l4 N s q0 x1 (fun (x483_2 : Int) => (some x483_2)) N 0 0)
set_option maxRecDepth 10000 in
set_option maxHeartbeats 4000000 in
theorem RX2_sleepersIn {d N nc Ls : Nat} {Xs : Nat → Int32} (hd : 1 ≤ d) {h : iv_H} {s : iv_M} (hR : Rep nc Ls Xs h s) {q0 : Nat} (t0 : T2 nc q0) {m1 : Int32} {x1 : Int} (p1 : m1.toInt = x1) {r : Int} {Q : Option Value → iv_H → Prop} (e : FX2_sleepersIn N s q0 x1 = some r) (hq : ∀ (z : Int32), z.toInt = r → Q (some (.int z)) h) : Cl d 50 [.ref q0, .int m1] h Q := by
  obtain ⟨d, rfl⟩ : ∃ k, d = k + 1 := ⟨d - 1, by omega⟩
  have hd : 0 ≤ d := by omega
  have hT := hX2_sleepersIn
  unfold FX2_sleepersIn at e
  refine Cl.into (by decide) gX2_sleepersIn rfl ?_
  show Rn d 50 (some .int) 0 [some (.ref q0), some (.int m1), none, none] [] h Q
  refine Rn.n hT 4 (pc' := 4) (L' := [some (.ref q0), some (.int m1), some (.int (0 : Int32)), some (.int (0 : Int32))]) (st' := []) rfl ?_
  refine Rn.weak (ll_s (ll_s (ll_s (ll_s ll_e)))) (RX2_sleepersIn_l4 hd hR t0 p1 (fun m483_2 x483_2 p483_2 e => ?_) hq N (0 : Int32) 0 L32_0 (0 : Int32) 0 L32_0 e)
  try dsimp only at e
  refine Rn.n hT 1 (pc' := 39) (L' := [none, none, some (.int m483_2), none]) (st' := [.int m483_2]) rfl ?_
  obtain rfl := Option.some.inj e
  exact Rn.ret hT rfl rfl rfl (hq m483_2 p483_2)
set_option maxRecDepth 10000 in
theorem hX2_walkOf : iv_Tb 51 tX2_walkOf := iv_tb_of (m := mX2_walkOf) rfl
set_option maxRecDepth 10000 in
theorem gX2_walkOf : PG.2 51 = some mX2_walkOf := iv_pi_of (t := tX2_walkOf) rfl (by decide)
def FX2_walkOf_b18 (N : Nat) (s : iv_M)   : Option (Int) := (some (-1))
set_option maxRecDepth 10000 in
set_option maxHeartbeats 4000000 in
theorem RX2_walkOf_b18 {d N nc Ls : Nat} {Xs : Nat → Int32} (hd : 1 ≤ d) {h : iv_H} {s : iv_M} (hR : Rep nc Ls Xs h s)   {r : Int} {Q : Option Value → iv_H → Prop} (hq : ∀ (z : Int32), z.toInt = r → Q (some (.int z)) h) (e : FX2_walkOf_b18 N s   = some r) : Rn d 51 (some .int) 18 [none, none, none, none, none] [] h Q := by
  have hT := hX2_walkOf
  unfold FX2_walkOf_b18 at e
  refine Rn.n hT 1 (pc' := 19) (L' := [none, none, none, none, none]) (st' := [.int (-1 : Int32)]) rfl ?_
  obtain rfl := Option.some.inj e
  exact Rn.ret hT rfl rfl rfl (hq (-1 : Int32) L32_m1)
def FX2_walkOf_b43 (N : Nat) (s : iv_M)   : Option (Int) := (some (-1))
set_option maxRecDepth 10000 in
set_option maxHeartbeats 4000000 in
theorem RX2_walkOf_b43 {d N nc Ls : Nat} {Xs : Nat → Int32} (hd : 1 ≤ d) {h : iv_H} {s : iv_M} (hR : Rep nc Ls Xs h s)   {r : Int} {Q : Option Value → iv_H → Prop} (hq : ∀ (z : Int32), z.toInt = r → Q (some (.int z)) h) (e : FX2_walkOf_b43 N s   = some r) : Rn d 51 (some .int) 43 [none, none, none, none, none] [] h Q := by
  have hT := hX2_walkOf
  unfold FX2_walkOf_b43 at e
  refine Rn.n hT 1 (pc' := 44) (L' := [none, none, none, none, none]) (st' := [.int (-1 : Int32)]) rfl ?_
  obtain rfl := Option.some.inj e
  exact Rn.ret hT rfl rfl rfl (hq (-1 : Int32) L32_m1)
def FX2_walkOf_b63 (N : Nat) (s : iv_M)   : Option (Int) := (some (-1))
set_option maxRecDepth 10000 in
set_option maxHeartbeats 4000000 in
theorem RX2_walkOf_b63 {d N nc Ls : Nat} {Xs : Nat → Int32} (hd : 1 ≤ d) {h : iv_H} {s : iv_M} (hR : Rep nc Ls Xs h s)   {r : Int} {Q : Option Value → iv_H → Prop} (hq : ∀ (z : Int32), z.toInt = r → Q (some (.int z)) h) (e : FX2_walkOf_b63 N s   = some r) : Rn d 51 (some .int) 63 [none, none, none, none, none] [] h Q := by
  have hT := hX2_walkOf
  unfold FX2_walkOf_b63 at e
  refine Rn.n hT 1 (pc' := 64) (L' := [none, none, none, none, none]) (st' := [.int (-1 : Int32)]) rfl ?_
  obtain rfl := Option.some.inj e
  exact Rn.ret hT rfl rfl rfl (hq (-1 : Int32) L32_m1)
def FX2_walkOf_b109 (N : Nat) (s : iv_M)  (xs0 : Int) (xs1 : Int) : Option (Int) := (some (bOr xs1 xs0))
set_option maxRecDepth 10000 in
set_option maxHeartbeats 4000000 in
theorem RX2_walkOf_b109 {d N nc Ls : Nat} {Xs : Nat → Int32} (hd : 1 ≤ d) {h : iv_H} {s : iv_M} (hR : Rep nc Ls Xs h s)  {ms0 : Int32} {xs0 : Int} (ps0 : ms0.toInt = xs0) {ms1 : Int32} {xs1 : Int} (ps1 : ms1.toInt = xs1) {r : Int} {Q : Option Value → iv_H → Prop} (hq : ∀ (z : Int32), z.toInt = r → Q (some (.int z)) h) (e : FX2_walkOf_b109 N s  xs0 xs1 = some r) : Rn d 51 (some .int) 109 [none, none, none, none, none] [.int ms0, .int ms1] h Q := by
  have hT := hX2_walkOf
  unfold FX2_walkOf_b109 at e
  refine Rn.n hT 1 (pc' := 110) (L' := [none, none, none, none, none]) (st' := [.int (ms1 ||| ms0)]) rfl ?_
  obtain rfl := Option.some.inj e
  exact Rn.ret hT rfl rfl rfl (hq (ms1 ||| ms0) (ti_or ps1 ps0))
def FX2_walkOf_b96 (N : Nat) (s : iv_M) (x2 : Int) (x3 : Int) (x4 : Int) (xs0 : Int) (xs1 : Int) : Option (Int) := (if x4 = 0 then (FX2_walkOf_b109 N s x3 (bOr xs1 (sl32 xs0 4))) else (FX2_walkOf_b109 N s x2 (bOr xs1 (sl32 xs0 4))))
set_option maxRecDepth 10000 in
set_option maxHeartbeats 4000000 in
theorem RX2_walkOf_b96 {d N nc Ls : Nat} {Xs : Nat → Int32} (hd : 1 ≤ d) {h : iv_H} {s : iv_M} (hR : Rep nc Ls Xs h s) {m2 : Int32} {x2 : Int} (p2 : m2.toInt = x2) {m3 : Int32} {x3 : Int} (p3 : m3.toInt = x3) {m4 : Int32} {x4 : Int} (p4 : m4.toInt = x4) {ms0 : Int32} {xs0 : Int} (ps0 : ms0.toInt = xs0) {ms1 : Int32} {xs1 : Int} (ps1 : ms1.toInt = xs1) {r : Int} {Q : Option Value → iv_H → Prop} (hq : ∀ (z : Int32), z.toInt = r → Q (some (.int z)) h) (e : FX2_walkOf_b96 N s x2 x3 x4 xs0 xs1 = some r) : Rn d 51 (some .int) 96 [none, none, some (.int m2), some (.int m3), some (.int m4)] [.int ms0, .int ms1] h Q := by
  have hT := hX2_walkOf
  unfold FX2_walkOf_b96 at e
  refine Rn.n hT 4 (pc' := 101) (L' := [none, none, some (.int m2), some (.int m3), some (.int m4)]) (st' := [.int m4, .int (ms1 ||| (ms0 <<< ((4 : Int32) &&& 31)))]) rfl ?_
  by_cases c_504 : x4 = 0
  · rw [if_pos c_504] at e
    refine Rn.bt hT rfl rfl rfl (decide_eq_true ((ti_e p4 L32_0).mpr c_504)) ?_
    refine Rn.n hT 1 (pc' := 109) (L' := [none, none, some (.int m2), some (.int m3), some (.int m4)]) (st' := [.int m3, .int (ms1 ||| (ms0 <<< ((4 : Int32) &&& 31)))]) rfl ?_
    exact Rn.weak (ll_n (ll_n (ll_n (ll_n (ll_n ll_e))))) (RX2_walkOf_b109 hd hR p3 (ti_or ps1 (ti_shl ps0 L32_4)) hq e)
  · rw [if_neg c_504] at e
    refine Rn.bf hT rfl rfl rfl (decide_eq_false (fun z => c_504 ((ti_e p4 L32_0).mp z))) ?_
    refine Rn.n hT 2 (pc' := 109) (L' := [none, none, some (.int m2), some (.int m3), some (.int m4)]) (st' := [.int m2, .int (ms1 ||| (ms0 <<< ((4 : Int32) &&& 31)))]) rfl ?_
    exact Rn.weak (ll_n (ll_n (ll_n (ll_n (ll_n ll_e))))) (RX2_walkOf_b109 hd hR p2 (ti_or ps1 (ti_shl ps0 L32_4)) hq e)
def FX2_walkOf_b80 (N : Nat) (s : iv_M) (x1 : Int) (x2 : Int) (x3 : Int) (xs0 : Int) : Option (Int) := (if xs0 = 0 then (FX2_walkOf_b96 N s x2 x3 xs0 x2 (sl32 x1 8)) else (FX2_walkOf_b96 N s x2 x3 xs0 x3 (sl32 x1 8)))
set_option maxRecDepth 10000 in
set_option maxHeartbeats 4000000 in
theorem RX2_walkOf_b80 {d N nc Ls : Nat} {Xs : Nat → Int32} (hd : 1 ≤ d) {h : iv_H} {s : iv_M} (hR : Rep nc Ls Xs h s) {m1 : Int32} {x1 : Int} (p1 : m1.toInt = x1) {m2 : Int32} {x2 : Int} (p2 : m2.toInt = x2) {m3 : Int32} {x3 : Int} (p3 : m3.toInt = x3) {ms0 : Int32} {xs0 : Int} (ps0 : ms0.toInt = xs0) {r : Int} {Q : Option Value → iv_H → Prop} (hq : ∀ (z : Int32), z.toInt = r → Q (some (.int z)) h) (e : FX2_walkOf_b80 N s x1 x2 x3 xs0 = some r) : Rn d 51 (some .int) 80 [none, some (.int m1), some (.int m2), some (.int m3), none] [.int ms0] h Q := by
  have hT := hX2_walkOf
  unfold FX2_walkOf_b80 at e
  refine Rn.n hT 5 (pc' := 88) (L' := [none, some (.int m1), some (.int m2), some (.int m3), some (.int ms0)]) (st' := [.int ms0, .int (m1 <<< ((8 : Int32) &&& 31))]) rfl ?_
  by_cases c_503 : xs0 = 0
  · rw [if_pos c_503] at e
    refine Rn.bt hT rfl rfl rfl (decide_eq_true ((ti_e ps0 L32_0).mpr c_503)) ?_
    refine Rn.n hT 1 (pc' := 96) (L' := [none, some (.int m1), some (.int m2), some (.int m3), some (.int ms0)]) (st' := [.int m2, .int (m1 <<< ((8 : Int32) &&& 31))]) rfl ?_
    exact Rn.weak (ll_n (ll_n (ll_s (ll_s (ll_s ll_e))))) (RX2_walkOf_b96 hd hR p2 p3 ps0 p2 (ti_shl p1 L32_8) hq e)
  · rw [if_neg c_503] at e
    refine Rn.bf hT rfl rfl rfl (decide_eq_false (fun z => c_503 ((ti_e ps0 L32_0).mp z))) ?_
    refine Rn.n hT 2 (pc' := 96) (L' := [none, some (.int m1), some (.int m2), some (.int m3), some (.int ms0)]) (st' := [.int m3, .int (m1 <<< ((8 : Int32) &&& 31))]) rfl ?_
    exact Rn.weak (ll_n (ll_n (ll_s (ll_s (ll_s ll_e))))) (RX2_walkOf_b96 hd hR p2 p3 ps0 p3 (ti_shl p1 L32_8) hq e)
def FX2_walkOf_b79 (N : Nat) (s : iv_M) (x1 : Int) (x2 : Int) (x3 : Int)  : Option (Int) := (FX2_walkOf_b80 N s x1 x2 x3 0)
set_option maxRecDepth 10000 in
set_option maxHeartbeats 4000000 in
theorem RX2_walkOf_b79 {d N nc Ls : Nat} {Xs : Nat → Int32} (hd : 1 ≤ d) {h : iv_H} {s : iv_M} (hR : Rep nc Ls Xs h s) {m1 : Int32} {x1 : Int} (p1 : m1.toInt = x1) {m2 : Int32} {x2 : Int} (p2 : m2.toInt = x2) {m3 : Int32} {x3 : Int} (p3 : m3.toInt = x3)  {r : Int} {Q : Option Value → iv_H → Prop} (hq : ∀ (z : Int32), z.toInt = r → Q (some (.int z)) h) (e : FX2_walkOf_b79 N s x1 x2 x3  = some r) : Rn d 51 (some .int) 79 [none, some (.int m1), some (.int m2), some (.int m3), none] [] h Q := by
  have hT := hX2_walkOf
  unfold FX2_walkOf_b79 at e
  refine Rn.n hT 1 (pc' := 80) (L' := [none, some (.int m1), some (.int m2), some (.int m3), none]) (st' := [.int (0 : Int32)]) rfl ?_
  exact Rn.weak (ll_n (ll_s (ll_s (ll_s (ll_n ll_e))))) (RX2_walkOf_b80 hd hR p1 p2 p3 L32_0 hq e)
def FX2_walkOf_b65 (N : Nat) (s : iv_M) (x1 : Int) (x2 : Int) (x3 : Int)  : Option (Int) := (if x1 = 2 then (if x2 ≤ x3 then (FX2_walkOf_b79 N s x1 x2 x3) else (FX2_walkOf_b80 N s x1 x2 x3 1)) else (FX2_walkOf_b79 N s x1 x2 x3))
set_option maxRecDepth 10000 in
set_option maxHeartbeats 4000000 in
theorem RX2_walkOf_b65 {d N nc Ls : Nat} {Xs : Nat → Int32} (hd : 1 ≤ d) {h : iv_H} {s : iv_M} (hR : Rep nc Ls Xs h s) {m1 : Int32} {x1 : Int} (p1 : m1.toInt = x1) {m2 : Int32} {x2 : Int} (p2 : m2.toInt = x2) {m3 : Int32} {x3 : Int} (p3 : m3.toInt = x3)  {r : Int} {Q : Option Value → iv_H → Prop} (hq : ∀ (z : Int32), z.toInt = r → Q (some (.int z)) h) (e : FX2_walkOf_b65 N s x1 x2 x3  = some r) : Rn d 51 (some .int) 65 [none, some (.int m1), some (.int m2), some (.int m3), none] [] h Q := by
  have hT := hX2_walkOf
  unfold FX2_walkOf_b65 at e
  refine Rn.n hT 2 (pc' := 67) (L' := [none, some (.int m1), some (.int m2), some (.int m3), none]) (st' := [.int (2 : Int32), .int m1]) rfl ?_
  by_cases c_501 : x1 = 2
  · rw [if_pos c_501] at e
    refine Rn.bf hT rfl rfl rfl (decide_eq_false (fun z => z ((ti_e p1 L32_2).mpr c_501))) ?_
    refine Rn.n hT 2 (pc' := 72) (L' := [none, some (.int m1), some (.int m2), some (.int m3), none]) (st' := [.int m2, .int m3]) rfl ?_
    by_cases c_502 : x2 ≤ x3
    · rw [if_pos c_502] at e
      refine Rn.bt hT rfl rfl rfl (decide_eq_true ((ti_le p2 p3).mpr c_502)) ?_
      exact Rn.weak (ll_n (ll_s (ll_s (ll_s (ll_n ll_e))))) (RX2_walkOf_b79 hd hR p1 p2 p3 hq e)
    · rw [if_neg c_502] at e
      refine Rn.bf hT rfl rfl rfl (decide_eq_false (fun z => c_502 ((ti_le p2 p3).mp z))) ?_
      refine Rn.n hT 2 (pc' := 80) (L' := [none, some (.int m1), some (.int m2), some (.int m3), none]) (st' := [.int (1 : Int32)]) rfl ?_
      exact Rn.weak (ll_n (ll_s (ll_s (ll_s (ll_n ll_e))))) (RX2_walkOf_b80 hd hR p1 p2 p3 L32_1 hq e)
  · rw [if_neg c_501] at e
    refine Rn.bt hT rfl rfl rfl (decide_eq_true (fun z => c_501 ((ti_e p1 L32_2).mp z))) ?_
    exact Rn.weak (ll_n (ll_s (ll_s (ll_s (ll_n ll_e))))) (RX2_walkOf_b79 hd hR p1 p2 p3 hq e)
def FX2_walkOf_b45 (N : Nat) (s : iv_M) (q0 : Nat) (x1 : Int) (x2 : Int) (x3 : Int)  : Option (Int) := (if x1 = 2 then ((FX2_isRoom N s q0 x3).bind fun v_498 => (if v_498 = 0 then (FX2_walkOf_b63 N s) else (if x3 = x2 then (FX2_walkOf_b63 N s) else (FX2_walkOf_b65 N s x1 x2 x3)))) else (FX2_walkOf_b65 N s x1 x2 x3))
set_option maxRecDepth 10000 in
set_option maxHeartbeats 4000000 in
theorem RX2_walkOf_b45 {d N nc Ls : Nat} {Xs : Nat → Int32} (hd : 1 ≤ d) {h : iv_H} {s : iv_M} (hR : Rep nc Ls Xs h s) {q0 : Nat} (t0 : T2 nc q0) {m1 : Int32} {x1 : Int} (p1 : m1.toInt = x1) {m2 : Int32} {x2 : Int} (p2 : m2.toInt = x2) {m3 : Int32} {x3 : Int} (p3 : m3.toInt = x3)  {r : Int} {Q : Option Value → iv_H → Prop} (hq : ∀ (z : Int32), z.toInt = r → Q (some (.int z)) h) (e : FX2_walkOf_b45 N s q0 x1 x2 x3  = some r) : Rn d 51 (some .int) 45 [some (.ref q0), some (.int m1), some (.int m2), some (.int m3), none] [] h Q := by
  have hT := hX2_walkOf
  unfold FX2_walkOf_b45 at e
  refine Rn.n hT 2 (pc' := 47) (L' := [some (.ref q0), some (.int m1), some (.int m2), some (.int m3), none]) (st' := [.int (2 : Int32), .int m1]) rfl ?_
  by_cases c_497 : x1 = 2
  · rw [if_pos c_497] at e
    refine Rn.bf hT rfl rfl rfl (decide_eq_false (fun z => z ((ti_e p1 L32_2).mpr c_497))) ?_
    refine Rn.n hT 2 (pc' := 52) (L' := [some (.ref q0), some (.int m1), some (.int m2), some (.int m3), none]) (st' := [.int m3, .ref q0]) rfl ?_
    obtain ⟨v_498, e_498, e⟩ := Option.bind_eq_some_iff.mp e
    refine Rn.call hT rfl rfl rfl (Nat.le_of_ble_eq_true rfl) (rcv_v gX2_isRoom (by omega) (rp_ck hR (T2_o t0))) (RX2_isRoom (by omega) hR t0 p3 e_498 (fun z_498 p_498 => ?_))
    show Rn d _ _ 55 [some (.ref q0), some (.int m1), some (.int m2), some (.int m3), none] [.int z_498] h Q
    by_cases c_499 : v_498 = 0
    · rw [if_pos c_499] at e
      refine Rn.bt hT rfl rfl rfl (decide_eq_true ((ti_e p_498 L32_0).mpr c_499)) ?_
      exact Rn.weak (ll_n (ll_n (ll_n (ll_n (ll_n ll_e))))) (RX2_walkOf_b63 hd hR hq e)
    · rw [if_neg c_499] at e
      refine Rn.bf hT rfl rfl rfl (decide_eq_false (fun z => c_499 ((ti_e p_498 L32_0).mp z))) ?_
      refine Rn.n hT 2 (pc' := 60) (L' := [some (.ref q0), some (.int m1), some (.int m2), some (.int m3), none]) (st' := [.int m2, .int m3]) rfl ?_
      by_cases c_500 : x3 = x2
      · rw [if_pos c_500] at e
        refine Rn.bf hT rfl rfl rfl (decide_eq_false (fun z => z ((ti_e p3 p2).mpr c_500))) ?_
        exact Rn.weak (ll_n (ll_n (ll_n (ll_n (ll_n ll_e))))) (RX2_walkOf_b63 hd hR hq e)
      · rw [if_neg c_500] at e
        refine Rn.bt hT rfl rfl rfl (decide_eq_true (fun z => c_500 ((ti_e p3 p2).mp z))) ?_
        exact Rn.weak (ll_n (ll_s (ll_s (ll_s (ll_n ll_e))))) (RX2_walkOf_b65 hd hR p1 p2 p3 hq e)
  · rw [if_neg c_497] at e
    refine Rn.bt hT rfl rfl rfl (decide_eq_true (fun z => c_497 ((ti_e p1 L32_2).mp z))) ?_
    exact Rn.weak (ll_n (ll_s (ll_s (ll_s (ll_n ll_e))))) (RX2_walkOf_b65 hd hR p1 p2 p3 hq e)
def FX2_walkOf_b34 (N : Nat) (s : iv_M) (q0 : Nat) (x1 : Int) (x2 : Int) (x3 : Int)  : Option (Int) := (if x1 = 3 then (if x3 = 0 then (FX2_walkOf_b45 N s q0 x1 x2 x3) else (FX2_walkOf_b43 N s)) else (FX2_walkOf_b45 N s q0 x1 x2 x3))
set_option maxRecDepth 10000 in
set_option maxHeartbeats 4000000 in
theorem RX2_walkOf_b34 {d N nc Ls : Nat} {Xs : Nat → Int32} (hd : 1 ≤ d) {h : iv_H} {s : iv_M} (hR : Rep nc Ls Xs h s) {q0 : Nat} (t0 : T2 nc q0) {m1 : Int32} {x1 : Int} (p1 : m1.toInt = x1) {m2 : Int32} {x2 : Int} (p2 : m2.toInt = x2) {m3 : Int32} {x3 : Int} (p3 : m3.toInt = x3)  {r : Int} {Q : Option Value → iv_H → Prop} (hq : ∀ (z : Int32), z.toInt = r → Q (some (.int z)) h) (e : FX2_walkOf_b34 N s q0 x1 x2 x3  = some r) : Rn d 51 (some .int) 34 [some (.ref q0), some (.int m1), some (.int m2), some (.int m3), none] [] h Q := by
  have hT := hX2_walkOf
  unfold FX2_walkOf_b34 at e
  refine Rn.n hT 2 (pc' := 36) (L' := [some (.ref q0), some (.int m1), some (.int m2), some (.int m3), none]) (st' := [.int (3 : Int32), .int m1]) rfl ?_
  by_cases c_495 : x1 = 3
  · rw [if_pos c_495] at e
    refine Rn.bf hT rfl rfl rfl (decide_eq_false (fun z => z ((ti_e p1 L32_3).mpr c_495))) ?_
    refine Rn.n hT 1 (pc' := 40) (L' := [some (.ref q0), some (.int m1), some (.int m2), some (.int m3), none]) (st' := [.int m3]) rfl ?_
    by_cases c_496 : x3 = 0
    · rw [if_pos c_496] at e
      refine Rn.bt hT rfl rfl rfl (decide_eq_true ((ti_e p3 L32_0).mpr c_496)) ?_
      exact Rn.weak (ll_s (ll_s (ll_s (ll_s (ll_n ll_e))))) (RX2_walkOf_b45 hd hR t0 p1 p2 p3 hq e)
    · rw [if_neg c_496] at e
      refine Rn.bf hT rfl rfl rfl (decide_eq_false (fun z => c_496 ((ti_e p3 L32_0).mp z))) ?_
      exact Rn.weak (ll_n (ll_n (ll_n (ll_n (ll_n ll_e))))) (RX2_walkOf_b43 hd hR hq e)
  · rw [if_neg c_495] at e
    refine Rn.bt hT rfl rfl rfl (decide_eq_true (fun z => c_495 ((ti_e p1 L32_3).mp z))) ?_
    exact Rn.weak (ll_s (ll_s (ll_s (ll_s (ll_n ll_e))))) (RX2_walkOf_b45 hd hR t0 p1 p2 p3 hq e)
def FX2_walkOf (N : Nat) (s : iv_M) (q0 : Nat) (x1 : Int) (x2 : Int) (x3 : Int) : Option (Int) := (if x1 < 1 then (FX2_walkOf_b18 N s) else (if 3 < x1 then (FX2_walkOf_b18 N s) else ((FX2_isRoom N s q0 x2).bind fun v_490 => (if v_490 = 0 then (FX2_walkOf_b18 N s) else (if x1 = 1 then (if x3 < 0 then (FX2_walkOf_b43 N s) else (if 4 ≤ x3 then (FX2_walkOf_b43 N s) else (FX2_walkOf_b34 N s q0 x1 x2 x3))) else (FX2_walkOf_b34 N s q0 x1 x2 x3))))))
set_option maxRecDepth 10000 in
set_option maxHeartbeats 4000000 in
theorem RX2_walkOf {d N nc Ls : Nat} {Xs : Nat → Int32} (hd : 2 ≤ d) {h : iv_H} {s : iv_M} (hR : Rep nc Ls Xs h s) {q0 : Nat} (t0 : T2 nc q0) {m1 : Int32} {x1 : Int} (p1 : m1.toInt = x1) {m2 : Int32} {x2 : Int} (p2 : m2.toInt = x2) {m3 : Int32} {x3 : Int} (p3 : m3.toInt = x3) {r : Int} {Q : Option Value → iv_H → Prop} (e : FX2_walkOf N s q0 x1 x2 x3 = some r) (hq : ∀ (z : Int32), z.toInt = r → Q (some (.int z)) h) : Cl d 51 [.ref q0, .int m1, .int m2, .int m3] h Q := by
  obtain ⟨d, rfl⟩ : ∃ k, d = k + 1 := ⟨d - 1, by omega⟩
  have hd : 1 ≤ d := by omega
  have hT := hX2_walkOf
  unfold FX2_walkOf at e
  refine Cl.into (by decide) gX2_walkOf rfl ?_
  show Rn d 51 (some .int) 0 [some (.ref q0), some (.int m1), some (.int m2), some (.int m3), none] [] h Q
  refine Rn.n hT 2 (pc' := 2) (L' := [some (.ref q0), some (.int m1), some (.int m2), some (.int m3), none]) (st' := [.int (1 : Int32), .int m1]) rfl ?_
  by_cases c_488 : x1 < 1
  · rw [if_pos c_488] at e
    refine Rn.bt hT rfl rfl rfl (decide_eq_true ((ti_l p1 L32_1).mpr c_488)) ?_
    exact Rn.weak (ll_n (ll_n (ll_n (ll_n (ll_n ll_e))))) (RX2_walkOf_b18 hd hR hq e)
  · rw [if_neg c_488] at e
    refine Rn.bf hT rfl rfl rfl (decide_eq_false (fun z => c_488 ((ti_l p1 L32_1).mp z))) ?_
    refine Rn.n hT 2 (pc' := 7) (L' := [some (.ref q0), some (.int m1), some (.int m2), some (.int m3), none]) (st' := [.int (3 : Int32), .int m1]) rfl ?_
    by_cases c_489 : 3 < x1
    · rw [if_pos c_489] at e
      refine Rn.bt hT rfl rfl rfl (decide_eq_true ((ti_l L32_3 p1).mpr c_489)) ?_
      exact Rn.weak (ll_n (ll_n (ll_n (ll_n (ll_n ll_e))))) (RX2_walkOf_b18 hd hR hq e)
    · rw [if_neg c_489] at e
      refine Rn.bf hT rfl rfl rfl (decide_eq_false (fun z => c_489 ((ti_l L32_3 p1).mp z))) ?_
      refine Rn.n hT 2 (pc' := 12) (L' := [some (.ref q0), some (.int m1), some (.int m2), some (.int m3), none]) (st' := [.int m2, .ref q0]) rfl ?_
      obtain ⟨v_490, e_490, e⟩ := Option.bind_eq_some_iff.mp e
      refine Rn.call hT rfl rfl rfl (Nat.le_of_ble_eq_true rfl) (rcv_v gX2_isRoom (by omega) (rp_ck hR (T2_o t0))) (RX2_isRoom (by omega) hR t0 p2 e_490 (fun z_490 p_490 => ?_))
      show Rn d _ _ 15 [some (.ref q0), some (.int m1), some (.int m2), some (.int m3), none] [.int z_490] h Q
      by_cases c_491 : v_490 = 0
      · rw [if_pos c_491] at e
        refine Rn.bf hT rfl rfl rfl (decide_eq_false (fun z => z ((ti_e p_490 L32_0).mpr c_491))) ?_
        exact Rn.weak (ll_n (ll_n (ll_n (ll_n (ll_n ll_e))))) (RX2_walkOf_b18 hd hR hq e)
      · rw [if_neg c_491] at e
        refine Rn.bt hT rfl rfl rfl (decide_eq_true (fun z => c_491 ((ti_e p_490 L32_0).mp z))) ?_
        refine Rn.n hT 2 (pc' := 22) (L' := [some (.ref q0), some (.int m1), some (.int m2), some (.int m3), none]) (st' := [.int (1 : Int32), .int m1]) rfl ?_
        by_cases c_492 : x1 = 1
        · rw [if_pos c_492] at e
          refine Rn.bf hT rfl rfl rfl (decide_eq_false (fun z => z ((ti_e p1 L32_1).mpr c_492))) ?_
          refine Rn.n hT 1 (pc' := 26) (L' := [some (.ref q0), some (.int m1), some (.int m2), some (.int m3), none]) (st' := [.int m3]) rfl ?_
          by_cases c_493 : x3 < 0
          · rw [if_pos c_493] at e
            refine Rn.bt hT rfl rfl rfl (decide_eq_true ((ti_l p3 L32_0).mpr c_493)) ?_
            exact Rn.weak (ll_n (ll_n (ll_n (ll_n (ll_n ll_e))))) (RX2_walkOf_b43 hd hR hq e)
          · rw [if_neg c_493] at e
            refine Rn.bf hT rfl rfl rfl (decide_eq_false (fun z => c_493 ((ti_l p3 L32_0).mp z))) ?_
            refine Rn.n hT 2 (pc' := 31) (L' := [some (.ref q0), some (.int m1), some (.int m2), some (.int m3), none]) (st' := [.int (4 : Int32), .int m3]) rfl ?_
            by_cases c_494 : 4 ≤ x3
            · rw [if_pos c_494] at e
              refine Rn.bt hT rfl rfl rfl (decide_eq_true ((ti_le L32_4 p3).mpr c_494)) ?_
              exact Rn.weak (ll_n (ll_n (ll_n (ll_n (ll_n ll_e))))) (RX2_walkOf_b43 hd hR hq e)
            · rw [if_neg c_494] at e
              refine Rn.bf hT rfl rfl rfl (decide_eq_false (fun z => c_494 ((ti_le L32_4 p3).mp z))) ?_
              exact Rn.weak (ll_s (ll_s (ll_s (ll_s (ll_n ll_e))))) (RX2_walkOf_b34 hd hR t0 p1 p2 p3 hq e)
        · rw [if_neg c_492] at e
          refine Rn.bt hT rfl rfl rfl (decide_eq_true (fun z => c_492 ((ti_e p1 L32_1).mp z))) ?_
          exact Rn.weak (ll_s (ll_s (ll_s (ll_s (ll_n ll_e))))) (RX2_walkOf_b34 hd hR t0 p1 p2 p3 hq e)
set_option maxRecDepth 10000 in
theorem hX7_dropFirst : iv_Tb 97 tX7_dropFirst := iv_tb_of (m := mX7_dropFirst) rfl
set_option maxRecDepth 10000 in
theorem gX7_dropFirst : PG.2 97 = some mX7_dropFirst := iv_pi_of (t := tX7_dropFirst) rfl (by decide)
def FX7_dropFirst_b36 (N : Nat) (s : iv_M)   : Option (iv_M) := some s
set_option maxRecDepth 10000 in
set_option maxHeartbeats 4000000 in
theorem RX7_dropFirst_b36 {d N nc Ls : Nat} {Xs : Nat → Int32} (hd : 0 ≤ d) {h : iv_H} {s : iv_M} (hR : Rep nc Ls Xs h s)   {r : iv_M} {Q : Option Value → iv_H → Prop} (hq : ∀ h1, Rep nc Ls Xs h1 r → Q none h1) (e : FX7_dropFirst_b36 N s   = some r) : Rn d 97 none 36 [none] [] h Q := by
  have hT := hX7_dropFirst
  unfold FX7_dropFirst_b36 at e
  obtain rfl := Option.some.inj e
  exact Rn.ret hT rfl rfl rfl (hq h hR)
def FX7_dropFirst (N : Nat) (s : iv_M) (q0 : Nat) : Option (iv_M) := (if (s q0 1) ≤ 0 then (FX7_dropFirst_b36 N s) else ((cp s (q0 + 1) ((sh (q0 + 1)).2 : Int) 1 (q0 + 1) ((sh (q0 + 1)).2 : Int) 0 (w32 ((s q0 1) - 1))).bind fun s_509 => ((pt s_509 q0 1 (w32 ((s_509 q0 1) - 1))).bind fun s_511 => (FX7_dropFirst_b36 N s_511))))
set_option maxRecDepth 10000 in
set_option maxHeartbeats 4000000 in
theorem RX7_dropFirst {d N nc Ls : Nat} {Xs : Nat → Int32} (hd : 1 ≤ d) {h : iv_H} {s : iv_M} (hR : Rep nc Ls Xs h s) {q0 : Nat} (t0 : T7 nc q0) {r : iv_M} {Q : Option Value → iv_H → Prop} (e : FX7_dropFirst N s q0 = some r) (hq : ∀ h1, Rep nc Ls Xs h1 r → Q none h1) : Cl d 97 [.ref q0] h Q := by
  obtain ⟨d, rfl⟩ : ∃ k, d = k + 1 := ⟨d - 1, by omega⟩
  have hd : 0 ≤ d := by omega
  have hT := hX7_dropFirst
  unfold FX7_dropFirst at e
  refine Cl.into (by decide) gX7_dropFirst rfl ?_
  show Rn d 97 none 0 [some (.ref q0)] [] h Q
  refine Rn.n hT 1 (pc' := 1) (L' := [some (.ref q0)]) (st' := [.ref q0]) rfl ?_
  obtain ⟨z_505, g_505, p_505⟩ : ∃ z : Int32, gI h 7 1 q0 = some z ∧ z.toInt = s q0 1 := rp_gI (k := 1) hR (T7_o t0) rfl
  refine Rn.hp hT rfl rfl (gI_hp g_505) ?_
  by_cases c_506 : (s q0 1) ≤ 0
  · rw [if_pos c_506] at e
    refine Rn.bt hT rfl rfl rfl (decide_eq_true ((ti_le p_505 L32_0).mpr c_506)) ?_
    exact Rn.weak (ll_n ll_e) (RX7_dropFirst_b36 hd hR hq e)
  · rw [if_neg c_506] at e
    refine Rn.bf hT rfl rfl rfl (decide_eq_false (fun z => c_506 ((ti_le p_505 L32_0).mp z))) ?_
    refine Rn.n hT 1 (pc' := 8) (L' := [some (.ref q0)]) (st' := [.ref q0]) rfl ?_
    refine Rn.hp hT rfl rfl (gR_hp (rp_gR hR (T7_o t0) rfl)) ?_
    refine Rn.n hT 2 (pc' := 13) (L' := [some (.ref q0)]) (st' := [.ref q0, .int (1 : Int32), .ref (q0 + 1)]) rfl ?_
    refine Rn.hp hT rfl rfl (gR_hp (rp_gR hR (T7_o t0) rfl)) ?_
    refine Rn.n hT 2 (pc' := 18) (L' := [some (.ref q0)]) (st' := [.ref q0, .int (0 : Int32), .ref (q0 + 1), .int (1 : Int32), .ref (q0 + 1)]) rfl ?_
    obtain ⟨z_507, g_507, p_507⟩ : ∃ z : Int32, gI h 7 1 q0 = some z ∧ z.toInt = s q0 1 := rp_gI (k := 1) hR (T7_o t0) rfl
    refine Rn.hp hT rfl rfl (gI_hp g_507) ?_
    refine Rn.n hT 2 (pc' := 23) (L' := [some (.ref q0)]) (st' := [.int (z_507 - (1 : Int32)), .int (0 : Int32), .ref (q0 + 1), .int (1 : Int32), .ref (q0 + 1)]) rfl ?_
    obtain ⟨s_509, e_508, e⟩ := Option.bind_eq_some_iff.mp e
    obtain ⟨h_509, g_508, R_509⟩ := rp_cpJ hR (T7_0 t0) rfl L32_1 (T7_0 t0) rfl L32_0 (ti_sub p_507 L32_1) e_508
    refine Rn.hp hT rfl rfl (cpA_hp (Nat.le_of_ble_eq_true rfl) g_508) ?_
    refine Rn.n hT 2 (pc' := 28) (L' := [some (.ref q0)]) (st' := [.ref q0, .ref q0]) rfl ?_
    obtain ⟨z_510, g_510, p_510⟩ : ∃ z : Int32, gI h_509 7 1 q0 = some z ∧ z.toInt = s_509 q0 1 := rp_gI (k := 1) R_509 (T7_o t0) rfl
    refine Rn.hp hT rfl rfl (gI_hp g_510) ?_
    refine Rn.n hT 2 (pc' := 33) (L' := [some (.ref q0)]) (st' := [.int (z_510 - (1 : Int32)), .ref q0]) rfl ?_
    obtain ⟨s_511, e_512, e⟩ := Option.bind_eq_some_iff.mp e
    obtain ⟨h_511, g_512, R_511⟩ := rp_pI (ci := 7) (k := 1) R_509 (T7_o t0) rfl rfl (ti_sub p_510 L32_1) e_512
    refine Rn.hp hT rfl rfl (pV_hp rfl g_512) ?_
    exact Rn.weak (ll_n ll_e) (RX7_dropFirst_b36 hd R_511 hq e)
set_option maxRecDepth 10000 in
theorem hX7_add : iv_Tb 96 tX7_add := iv_tb_of (m := mX7_add) rfl
set_option maxRecDepth 10000 in
theorem gX7_add : PG.2 96 = some mX7_add := iv_pi_of (t := tX7_add) rfl (by decide)
def FX7_add (N : Nat) (s : iv_M) (q0 : Nat) (y1 : Int) : Option (Int × iv_M) := (if (s q0 1) < ((sh (q0 + 1)).2 : Int) then ((wr s (q0 + 1) ((sh (q0 + 1)).2 : Int) (s q0 1) y1).bind fun s_517 => ((pt s_517 q0 1 (w32 ((s_517 q0 1) + 1))).bind fun s_520 => (some (1, s_520)))) else (some (0, s)))
set_option maxRecDepth 10000 in
set_option maxHeartbeats 4000000 in
theorem RX7_add {d N nc Ls : Nat} {Xs : Nat → Int32} (hd : 1 ≤ d) {h : iv_H} {s : iv_M} (hR : Rep nc Ls Xs h s) {q0 : Nat} (t0 : T7 nc q0) {j1 : Int64} {y1 : Int} (p1 : j1.toInt = y1) {r : Int × iv_M} {Q : Option Value → iv_H → Prop} (e : FX7_add N s q0 y1 = some r) (hq : ∀ (z : Int32) (h1 : iv_H), z.toInt = r.1 → Rep nc Ls Xs h1 r.2 → Q (some (.int z)) h1) : Cl d 96 [.ref q0, .long j1] h Q := by
  obtain ⟨d, rfl⟩ : ∃ k, d = k + 1 := ⟨d - 1, by omega⟩
  have hd : 0 ≤ d := by omega
  have hT := hX7_add
  unfold FX7_add at e
  refine Cl.into (by decide) gX7_add rfl ?_
  show Rn d 96 (some .boolean) 0 [some (.ref q0), some (.long j1), none] [] h Q
  refine Rn.n hT 1 (pc' := 1) (L' := [some (.ref q0), some (.long j1), none]) (st' := [.ref q0]) rfl ?_
  obtain ⟨z_513, g_513, p_513⟩ : ∃ z : Int32, gI h 7 1 q0 = some z ∧ z.toInt = s q0 1 := rp_gI (k := 1) hR (T7_o t0) rfl
  refine Rn.hp hT rfl rfl (gI_hp g_513) ?_
  refine Rn.n hT 1 (pc' := 5) (L' := [some (.ref q0), some (.long j1), none]) (st' := [.ref q0, .int z_513]) rfl ?_
  refine Rn.hp hT rfl rfl (gR_hp (rp_gR hR (T7_o t0) rfl)) ?_
  obtain ⟨z_514, g_514, p_514⟩ : ∃ z : Int32, aL h (q0 + 1) = some z ∧ z.toInt = ((sh (q0 + 1)).2 : Int) := rp_aL hR (T7_0 t0) (Or.inr (Or.inl rfl)) rfl
  refine Rn.hp hT rfl rfl (aL_hp g_514) ?_
  by_cases c_515 : (s q0 1) < ((sh (q0 + 1)).2 : Int)
  · rw [if_pos c_515] at e
    refine Rn.bt hT rfl rfl rfl (decide_eq_true ((ti_l p_513 p_514).mpr c_515)) ?_
    refine Rn.n hT 1 (pc' := 15) (L' := [some (.ref q0), some (.long j1), none]) (st' := [.ref q0]) rfl ?_
    refine Rn.hp hT rfl rfl (gR_hp (rp_gR hR (T7_o t0) rfl)) ?_
    refine Rn.n hT 1 (pc' := 19) (L' := [some (.ref q0), some (.long j1), none]) (st' := [.ref q0, .ref (q0 + 1)]) rfl ?_
    obtain ⟨z_516, g_516, p_516⟩ : ∃ z : Int32, gI h 7 1 q0 = some z ∧ z.toInt = s q0 1 := rp_gI (k := 1) hR (T7_o t0) rfl
    refine Rn.hp hT rfl rfl (gI_hp g_516) ?_
    refine Rn.n hT 1 (pc' := 23) (L' := [some (.ref q0), some (.long j1), none]) (st' := [.long j1, .int z_516, .ref (q0 + 1)]) rfl ?_
    obtain ⟨s_517, e_518, e⟩ := Option.bind_eq_some_iff.mp e
    obtain ⟨h_517, g_518, R_517⟩ := rp_wJ hR (T7_0 t0) rfl p_516 p1 e_518
    refine Rn.hp hT rfl rfl (wJ_hp g_518) ?_
    refine Rn.n hT 2 (pc' := 26) (L' := [some (.ref q0), some (.long j1), none]) (st' := [.ref q0, .ref q0]) rfl ?_
    obtain ⟨z_519, g_519, p_519⟩ : ∃ z : Int32, gI h_517 7 1 q0 = some z ∧ z.toInt = s_517 q0 1 := rp_gI (k := 1) R_517 (T7_o t0) rfl
    refine Rn.hp hT rfl rfl (gI_hp g_519) ?_
    refine Rn.n hT 2 (pc' := 31) (L' := [some (.ref q0), some (.long j1), none]) (st' := [.int (z_519 + (1 : Int32)), .ref q0]) rfl ?_
    obtain ⟨s_520, e_521, e⟩ := Option.bind_eq_some_iff.mp e
    obtain ⟨h_520, g_521, R_520⟩ := rp_pI (ci := 7) (k := 1) R_517 (T7_o t0) rfl rfl (ti_add p_519 L32_1) e_521
    refine Rn.hp hT rfl rfl (pV_hp rfl g_521) ?_
    refine Rn.n hT 1 (pc' := 35) (L' := [some (.ref q0), some (.long j1), none]) (st' := [.int (1 : Int32)]) rfl ?_
    obtain rfl := Option.some.inj e
    exact Rn.ret hT rfl rfl rfl (hq (1 : Int32) h_520 L32_1 R_520)
  · rw [if_neg c_515] at e
    refine Rn.bf hT rfl rfl rfl (decide_eq_false (fun z => c_515 ((ti_l p_513 p_514).mp z))) ?_
    refine Rn.n hT 1 (pc' := 13) (L' := [some (.ref q0), some (.long j1), none]) (st' := [.int (0 : Int32)]) rfl ?_
    obtain rfl := Option.some.inj e
    exact Rn.ret hT rfl rfl rfl (hq (0 : Int32) h L32_0 hR)
set_option maxRecDepth 10000 in
theorem hX2_keepPast : iv_Tb 52 tX2_keepPast := iv_tb_of (m := mX2_keepPast) rfl
set_option maxRecDepth 10000 in
theorem gX2_keepPast : PG.2 52 = some mX2_keepPast := iv_pi_of (t := tX2_keepPast) rfl (by decide)
def FX2_keepPast_b26 (N : Nat) (s : iv_M) (q0 : Nat)  : Option (iv_M) := ((FX7_add N s (q0 + 10) (s (q0 + 1) 3)).bind fun r_529 => (fun (v_529 : Int) (s_530 : iv_M) => ((FX7_add N s_530 (q0 + 12) (s_530 (q0 + 1) 4)).bind fun r_532 => (fun (v_532 : Int) (s_533 : iv_M) => some s_533) r_532.1 r_532.2)) r_529.1 r_529.2)
set_option maxRecDepth 10000 in
set_option maxHeartbeats 4000000 in
theorem RX2_keepPast_b26 {d N nc Ls : Nat} {Xs : Nat → Int32} (hd : 1 ≤ d) {h : iv_H} {s : iv_M} (hR : Rep nc Ls Xs h s) {q0 : Nat} (t0 : T2 nc q0)  {r : iv_M} {Q : Option Value → iv_H → Prop} (hq : ∀ h1, Rep nc Ls Xs h1 r → Q none h1) (e : FX2_keepPast_b26 N s q0  = some r) : Rn d 52 none 26 [some (.ref q0)] [] h Q := by
  have hT := hX2_keepPast
  unfold FX2_keepPast_b26 at e
  refine Rn.n hT 1 (pc' := 27) (L' := [some (.ref q0)]) (st' := [.ref q0]) rfl ?_
  refine Rn.hp hT rfl rfl (gR_hp (rp_gR hR (T2_o t0) rfl)) ?_
  refine Rn.n hT 1 (pc' := 31) (L' := [some (.ref q0)]) (st' := [.ref q0, .ref (q0 + 10)]) rfl ?_
  refine Rn.hp hT rfl rfl (gR_hp (rp_gR hR (T2_o t0) rfl)) ?_
  obtain ⟨z_528, g_528, p_528⟩ : ∃ z : Int64, gJ h 1 3 (q0 + 1) = some z ∧ z.toInt = s (q0 + 1) 3 := rp_gJ (k := 3) hR (T1_o (T2_9 t0)) rfl
  refine Rn.hp hT rfl rfl (gJ_hp g_528) ?_
  obtain ⟨⟨v_529, s_530⟩, e_529, e⟩ := Option.bind_eq_some_iff.mp e
  try dsimp only at e
  try dsimp only at e
  refine Rn.call hT rfl rfl rfl (Nat.le_of_ble_eq_true rfl) (rcv_v gX7_add (by omega) (rp_ck hR (T7_o (T2_12 t0)))) (RX7_add (by omega) hR (T2_12 t0) p_528 e_529 (fun z_529 h_530 p_529 R_530 => ?_))
  show Rn d _ _ 40 [some (.ref q0)] [.int z_529] h_530 Q
  refine Rn.n hT 2 (pc' := 42) (L' := [some (.ref q0)]) (st' := [.ref q0]) rfl ?_
  refine Rn.hp hT rfl rfl (gR_hp (rp_gR R_530 (T2_o t0) rfl)) ?_
  refine Rn.n hT 1 (pc' := 46) (L' := [some (.ref q0)]) (st' := [.ref q0, .ref (q0 + 12)]) rfl ?_
  refine Rn.hp hT rfl rfl (gR_hp (rp_gR R_530 (T2_o t0) rfl)) ?_
  obtain ⟨z_531, g_531, p_531⟩ : ∃ z : Int32, gI h_530 1 4 (q0 + 1) = some z ∧ z.toInt = s_530 (q0 + 1) 4 := rp_gI (k := 4) R_530 (T1_o (T2_9 t0)) rfl
  refine Rn.hp hT rfl rfl (gI_hp g_531) ?_
  refine Rn.n hT 1 (pc' := 53) (L' := [some (.ref q0)]) (st' := [.long ((z_531).toInt64), .ref (q0 + 12)]) rfl ?_
  obtain ⟨⟨v_532, s_533⟩, e_532, e⟩ := Option.bind_eq_some_iff.mp e
  try dsimp only at e
  try dsimp only at e
  refine Rn.call hT rfl rfl rfl (Nat.le_of_ble_eq_true rfl) (rcv_v gX7_add (by omega) (rp_ck R_530 (T7_o (T2_13 t0)))) (RX7_add (by omega) R_530 (T2_13 t0) (ti_j p_531) e_532 (fun z_532 h_533 p_532 R_533 => ?_))
  show Rn d _ _ 56 [some (.ref q0)] [.int z_532] h_533 Q
  refine Rn.n hT 1 (pc' := 57) (L' := [some (.ref q0)]) (st' := []) rfl ?_
  obtain rfl := Option.some.inj e
  exact Rn.ret hT rfl rfl rfl (hq h_533 R_533)
def FX2_keepPast (N : Nat) (s : iv_M) (q0 : Nat) : Option (iv_M) := (if (s (q0 + 10) 1) < 20 then (FX2_keepPast_b26 N s q0) else ((FX7_dropFirst N s (q0 + 10)).bind fun s_525 => ((FX7_dropFirst N s_525 (q0 + 12)).bind fun s_527 => (FX2_keepPast_b26 N s_527 q0))))
set_option maxRecDepth 10000 in
set_option maxHeartbeats 4000000 in
theorem RX2_keepPast {d N nc Ls : Nat} {Xs : Nat → Int32} (hd : 2 ≤ d) {h : iv_H} {s : iv_M} (hR : Rep nc Ls Xs h s) {q0 : Nat} (t0 : T2 nc q0) {r : iv_M} {Q : Option Value → iv_H → Prop} (e : FX2_keepPast N s q0 = some r) (hq : ∀ h1, Rep nc Ls Xs h1 r → Q none h1) : Cl d 52 [.ref q0] h Q := by
  obtain ⟨d, rfl⟩ : ∃ k, d = k + 1 := ⟨d - 1, by omega⟩
  have hd : 1 ≤ d := by omega
  have hT := hX2_keepPast
  unfold FX2_keepPast at e
  refine Cl.into (by decide) gX2_keepPast rfl ?_
  show Rn d 52 none 0 [some (.ref q0)] [] h Q
  refine Rn.n hT 1 (pc' := 1) (L' := [some (.ref q0)]) (st' := [.ref q0]) rfl ?_
  refine Rn.hp hT rfl rfl (gR_hp (rp_gR hR (T2_o t0) rfl)) ?_
  obtain ⟨z_522, g_522, p_522⟩ : ∃ z : Int32, gI h 7 1 (q0 + 10) = some z ∧ z.toInt = s (q0 + 10) 1 := rp_gI (k := 1) hR (T7_o (T2_12 t0)) rfl
  refine Rn.hp hT rfl rfl (gI_hp g_522) ?_
  refine Rn.n hT 1 (pc' := 9) (L' := [some (.ref q0)]) (st' := [.int (20 : Int32), .int z_522]) rfl ?_
  by_cases c_523 : (s (q0 + 10) 1) < 20
  · rw [if_pos c_523] at e
    refine Rn.bt hT rfl rfl rfl (decide_eq_true ((ti_l p_522 L32_20).mpr c_523)) ?_
    exact Rn.weak (ll_s ll_e) (RX2_keepPast_b26 hd hR t0 hq e)
  · rw [if_neg c_523] at e
    refine Rn.bf hT rfl rfl rfl (decide_eq_false (fun z => c_523 ((ti_l p_522 L32_20).mp z))) ?_
    refine Rn.n hT 1 (pc' := 13) (L' := [some (.ref q0)]) (st' := [.ref q0]) rfl ?_
    refine Rn.hp hT rfl rfl (gR_hp (rp_gR hR (T2_o t0) rfl)) ?_
    obtain ⟨s_525, e_524, e⟩ := Option.bind_eq_some_iff.mp e
    refine Rn.call hT rfl rfl rfl (Nat.le_of_ble_eq_true rfl) (rcv_v gX7_dropFirst (by omega) (rp_ck hR (T7_o (T2_12 t0)))) (RX7_dropFirst (by omega) hR (T2_12 t0) e_524 (fun h_525 R_525 => ?_))
    show Rn d _ _ 19 [some (.ref q0)] [] h_525 Q
    refine Rn.n hT 1 (pc' := 20) (L' := [some (.ref q0)]) (st' := [.ref q0]) rfl ?_
    refine Rn.hp hT rfl rfl (gR_hp (rp_gR R_525 (T2_o t0) rfl)) ?_
    obtain ⟨s_527, e_526, e⟩ := Option.bind_eq_some_iff.mp e
    refine Rn.call hT rfl rfl rfl (Nat.le_of_ble_eq_true rfl) (rcv_v gX7_dropFirst (by omega) (rp_ck R_525 (T7_o (T2_13 t0)))) (RX7_dropFirst (by omega) R_525 (T2_13 t0) e_526 (fun h_527 R_527 => ?_))
    show Rn d _ _ 26 [some (.ref q0)] [] h_527 Q
    exact Rn.weak (ll_s ll_e) (RX2_keepPast_b26 hd R_527 t0 hq e)
set_option maxRecDepth 10000 in
theorem hX2_takeNightBack : iv_Tb 54 tX2_takeNightBack := iv_tb_of (m := mX2_takeNightBack) rfl
set_option maxRecDepth 10000 in
theorem gX2_takeNightBack : PG.2 54 = some mX2_takeNightBack := iv_pi_of (t := tX2_takeNightBack) rfl (by decide)
def FX2_takeNightBack_b20 (N : Nat) (s : iv_M)   : Option (iv_M) := some s
set_option maxRecDepth 10000 in
set_option maxHeartbeats 4000000 in
theorem RX2_takeNightBack_b20 {d N nc Ls : Nat} {Xs : Nat → Int32} (hd : 3 ≤ d) {h : iv_H} {s : iv_M} (hR : Rep nc Ls Xs h s)   {r : iv_M} {Q : Option Value → iv_H → Prop} (hq : ∀ h1, Rep nc Ls Xs h1 r → Q none h1) (e : FX2_takeNightBack_b20 N s   = some r) : Rn d 54 none 20 [none, none] [] h Q := by
  have hT := hX2_takeNightBack
  unfold FX2_takeNightBack_b20 at e
  obtain rfl := Option.some.inj e
  exact Rn.ret hT rfl rfl rfl (hq h hR)
def FX2_takeNightBack (N : Nat) (s : iv_M) (q0 : Nat) : Option (iv_M) := (if (w32 ((s (q0 + 10) 1) - 1)) < 0 then (FX2_takeNightBack_b20 N s) else (if (w32 ((s (q0 + 10) 1) - 1)) < 20 then ((rd s ((q0 + 10) + 1) ((sh ((q0 + 10) + 1)).2 : Int) (w32 ((s (q0 + 10) 1) - 1))).bind fun v_537 => ((rd s ((q0 + 12) + 1) ((sh ((q0 + 12) + 1)).2 : Int) (w32 ((s (q0 + 10) 1) - 1))).bind fun v_538 => ((FX1_arrange N s (q0 + 1) v_537 (w32 v_538)).bind fun s_540 => ((pt s_540 (q0 + 10) 1 (w32 ((s (q0 + 10) 1) - 1))).bind fun s_541 => ((pt s_541 (q0 + 12) 1 (w32 ((s (q0 + 10) 1) - 1))).bind fun s_543 => ((pt s_543 q0 6 (w32 ((s_543 q0 6) - 1))).bind fun s_546 => some s_546)))))) else (FX2_takeNightBack_b20 N s)))
set_option maxRecDepth 10000 in
set_option maxHeartbeats 4000000 in
theorem RX2_takeNightBack {d N nc Ls : Nat} {Xs : Nat → Int32} (hd : 4 ≤ d) {h : iv_H} {s : iv_M} (hR : Rep nc Ls Xs h s) {q0 : Nat} (t0 : T2 nc q0) {r : iv_M} {Q : Option Value → iv_H → Prop} (e : FX2_takeNightBack N s q0 = some r) (hq : ∀ h1, Rep nc Ls Xs h1 r → Q none h1) : Cl d 54 [.ref q0] h Q := by
  obtain ⟨d, rfl⟩ : ∃ k, d = k + 1 := ⟨d - 1, by omega⟩
  have hd : 3 ≤ d := by omega
  have hT := hX2_takeNightBack
  unfold FX2_takeNightBack at e
  refine Cl.into (by decide) gX2_takeNightBack rfl ?_
  show Rn d 54 none 0 [some (.ref q0), none] [] h Q
  refine Rn.n hT 1 (pc' := 1) (L' := [some (.ref q0), none]) (st' := [.ref q0]) rfl ?_
  refine Rn.hp hT rfl rfl (gR_hp (rp_gR hR (T2_o t0) rfl)) ?_
  obtain ⟨z_534, g_534, p_534⟩ : ∃ z : Int32, gI h 7 1 (q0 + 10) = some z ∧ z.toInt = s (q0 + 10) 1 := rp_gI (k := 1) hR (T7_o (T2_12 t0)) rfl
  refine Rn.hp hT rfl rfl (gI_hp g_534) ?_
  refine Rn.n hT 4 (pc' := 11) (L' := [some (.ref q0), some (.int (z_534 - (1 : Int32)))]) (st' := [.int (z_534 - (1 : Int32))]) rfl ?_
  by_cases c_535 : (w32 ((s (q0 + 10) 1) - 1)) < 0
  · rw [if_pos c_535] at e
    refine Rn.bt hT rfl rfl rfl (decide_eq_true ((ti_l (ti_sub p_534 L32_1) L32_0).mpr c_535)) ?_
    exact Rn.weak (ll_n (ll_n ll_e)) (RX2_takeNightBack_b20 hd hR hq e)
  · rw [if_neg c_535] at e
    refine Rn.bf hT rfl rfl rfl (decide_eq_false (fun z => c_535 ((ti_l (ti_sub p_534 L32_1) L32_0).mp z))) ?_
    refine Rn.n hT 2 (pc' := 17) (L' := [some (.ref q0), some (.int (z_534 - (1 : Int32)))]) (st' := [.int (20 : Int32), .int (z_534 - (1 : Int32))]) rfl ?_
    by_cases c_536 : (w32 ((s (q0 + 10) 1) - 1)) < 20
    · rw [if_pos c_536] at e
      refine Rn.bt hT rfl rfl rfl (decide_eq_true ((ti_l (ti_sub p_534 L32_1) L32_20).mpr c_536)) ?_
      refine Rn.n hT 1 (pc' := 22) (L' := [some (.ref q0), some (.int (z_534 - (1 : Int32)))]) (st' := [.ref q0]) rfl ?_
      refine Rn.hp hT rfl rfl (gR_hp (rp_gR hR (T2_o t0) rfl)) ?_
      refine Rn.n hT 1 (pc' := 26) (L' := [some (.ref q0), some (.int (z_534 - (1 : Int32)))]) (st' := [.ref q0, .ref (q0 + 1)]) rfl ?_
      refine Rn.hp hT rfl rfl (gR_hp (rp_gR hR (T2_o t0) rfl)) ?_
      refine Rn.hp hT rfl rfl (gR_hp (rp_gR hR (T7_o (T2_12 t0)) rfl)) ?_
      refine Rn.n hT 1 (pc' := 33) (L' := [some (.ref q0), some (.int (z_534 - (1 : Int32)))]) (st' := [.int (z_534 - (1 : Int32)), .ref ((q0 + 10) + 1), .ref (q0 + 1)]) rfl ?_
      obtain ⟨v_537, e_537, e⟩ := Option.bind_eq_some_iff.mp e
      obtain ⟨z_537, g_537, p_537⟩ := rp_aJ hR (T7_0 (T2_12 t0)) rfl (ti_sub p_534 L32_1) e_537
      refine Rn.hp hT rfl rfl (aJ_hp g_537) ?_
      refine Rn.n hT 1 (pc' := 35) (L' := [some (.ref q0), some (.int (z_534 - (1 : Int32)))]) (st' := [.ref q0, .long z_537, .ref (q0 + 1)]) rfl ?_
      refine Rn.hp hT rfl rfl (gR_hp (rp_gR hR (T2_o t0) rfl)) ?_
      refine Rn.hp hT rfl rfl (gR_hp (rp_gR hR (T7_o (T2_13 t0)) rfl)) ?_
      refine Rn.n hT 1 (pc' := 42) (L' := [some (.ref q0), some (.int (z_534 - (1 : Int32)))]) (st' := [.int (z_534 - (1 : Int32)), .ref ((q0 + 12) + 1), .long z_537, .ref (q0 + 1)]) rfl ?_
      obtain ⟨v_538, e_538, e⟩ := Option.bind_eq_some_iff.mp e
      obtain ⟨z_538, g_538, p_538⟩ := rp_aJ hR (T7_0 (T2_13 t0)) rfl (ti_sub p_534 L32_1) e_538
      refine Rn.hp hT rfl rfl (aJ_hp g_538) ?_
      refine Rn.n hT 1 (pc' := 44) (L' := [some (.ref q0), some (.int (z_534 - (1 : Int32)))]) (st' := [.int ((z_538).toInt32), .long z_537, .ref (q0 + 1)]) rfl ?_
      obtain ⟨s_540, e_539, e⟩ := Option.bind_eq_some_iff.mp e
      refine Rn.call hT rfl rfl rfl (Nat.le_of_ble_eq_true rfl) (rcv_v gX1_arrange (by omega) (rp_ck hR (T1_o (T2_9 t0)))) (RX1_arrange (by omega) hR (T2_9 t0) p_537 (tj_i p_538) e_539 (fun h_540 R_540 => ?_))
      show Rn d _ _ 47 [some (.ref q0), some (.int (z_534 - (1 : Int32)))] [] h_540 Q
      refine Rn.n hT 1 (pc' := 48) (L' := [some (.ref q0), some (.int (z_534 - (1 : Int32)))]) (st' := [.ref q0]) rfl ?_
      refine Rn.hp hT rfl rfl (gR_hp (rp_gR R_540 (T2_o t0) rfl)) ?_
      refine Rn.n hT 1 (pc' := 52) (L' := [some (.ref q0), some (.int (z_534 - (1 : Int32)))]) (st' := [.int (z_534 - (1 : Int32)), .ref (q0 + 10)]) rfl ?_
      obtain ⟨s_541, e_542, e⟩ := Option.bind_eq_some_iff.mp e
      obtain ⟨h_541, g_542, R_541⟩ := rp_pI (ci := 7) (k := 1) R_540 (T7_o (T2_12 t0)) rfl rfl (ti_sub p_534 L32_1) e_542
      refine Rn.hp hT rfl rfl (pV_hp rfl g_542) ?_
      refine Rn.n hT 1 (pc' := 56) (L' := [some (.ref q0), some (.int (z_534 - (1 : Int32)))]) (st' := [.ref q0]) rfl ?_
      refine Rn.hp hT rfl rfl (gR_hp (rp_gR R_541 (T2_o t0) rfl)) ?_
      refine Rn.n hT 1 (pc' := 60) (L' := [some (.ref q0), some (.int (z_534 - (1 : Int32)))]) (st' := [.int (z_534 - (1 : Int32)), .ref (q0 + 12)]) rfl ?_
      obtain ⟨s_543, e_544, e⟩ := Option.bind_eq_some_iff.mp e
      obtain ⟨h_543, g_544, R_543⟩ := rp_pI (ci := 7) (k := 1) R_541 (T7_o (T2_13 t0)) rfl rfl (ti_sub p_534 L32_1) e_544
      refine Rn.hp hT rfl rfl (pV_hp rfl g_544) ?_
      refine Rn.n hT 2 (pc' := 65) (L' := [some (.ref q0), some (.int (z_534 - (1 : Int32)))]) (st' := [.ref q0, .ref q0]) rfl ?_
      obtain ⟨z_545, g_545, p_545⟩ : ∃ z : Int32, gI h_543 2 6 q0 = some z ∧ z.toInt = s_543 q0 6 := rp_gI (k := 6) R_543 (T2_o t0) rfl
      refine Rn.hp hT rfl rfl (gI_hp g_545) ?_
      refine Rn.n hT 2 (pc' := 70) (L' := [some (.ref q0), some (.int (z_534 - (1 : Int32)))]) (st' := [.int (z_545 - (1 : Int32)), .ref q0]) rfl ?_
      obtain ⟨s_546, e_547, e⟩ := Option.bind_eq_some_iff.mp e
      obtain ⟨h_546, g_547, R_546⟩ := rp_pI (ci := 2) (k := 6) R_543 (T2_o t0) rfl rfl (ti_sub p_545 L32_1) e_547
      refine Rn.hp hT rfl rfl (pV_hp rfl g_547) ?_
      obtain rfl := Option.some.inj e
      exact Rn.ret hT rfl rfl rfl (hq h_546 R_546)
    · rw [if_neg c_536] at e
      refine Rn.bf hT rfl rfl rfl (decide_eq_false (fun z => c_536 ((ti_l (ti_sub p_534 L32_1) L32_20).mp z))) ?_
      exact Rn.weak (ll_n (ll_n ll_e)) (RX2_takeNightBack_b20 hd hR hq e)
set_option maxRecDepth 10000 in
theorem hX2_hasDraft : iv_Tb 55 tX2_hasDraft := iv_tb_of (m := mX2_hasDraft) rfl
set_option maxRecDepth 10000 in
theorem gX2_hasDraft : PG.2 55 = some mX2_hasDraft := iv_pi_of (t := tX2_hasDraft) rfl (by decide)
def FX2_hasDraft_b26 (N : Nat) (s : iv_M)  (xs0 : Int) : Option (Int) := (if xs0 = 0 ∨ xs0 = 1 then some xs0 else none)
set_option maxRecDepth 10000 in
set_option maxHeartbeats 4000000 in
theorem RX2_hasDraft_b26 {d N nc Ls : Nat} {Xs : Nat → Int32} (hd : 0 ≤ d) {h : iv_H} {s : iv_M} (hR : Rep nc Ls Xs h s)  {ms0 : Int32} {xs0 : Int} (ps0 : ms0.toInt = xs0) {r : Int} {Q : Option Value → iv_H → Prop} (hq : ∀ (z : Int32), z.toInt = r → Q (some (.int z)) h) (e : FX2_hasDraft_b26 N s  xs0 = some r) : Rn d 55 (some .boolean) 26 [none, none] [.int ms0] h Q := by
  have hT := hX2_hasDraft
  unfold FX2_hasDraft_b26 at e
  by_cases c_552 : xs0 = 0 ∨ xs0 = 1
  · rw [if_pos c_552] at e
    obtain rfl := Option.some.inj e
    exact Rn.ret hT rfl rfl (if_pos (ti_b ps0 c_552)) (hq ms0 ps0)
  · rw [if_neg c_552] at e
    cases e
def FX2_hasDraft_b25 (N : Nat) (s : iv_M)   : Option (Int) := (FX2_hasDraft_b26 N s 0)
set_option maxRecDepth 10000 in
set_option maxHeartbeats 4000000 in
theorem RX2_hasDraft_b25 {d N nc Ls : Nat} {Xs : Nat → Int32} (hd : 0 ≤ d) {h : iv_H} {s : iv_M} (hR : Rep nc Ls Xs h s)   {r : Int} {Q : Option Value → iv_H → Prop} (hq : ∀ (z : Int32), z.toInt = r → Q (some (.int z)) h) (e : FX2_hasDraft_b25 N s   = some r) : Rn d 55 (some .boolean) 25 [none, none] [] h Q := by
  have hT := hX2_hasDraft
  unfold FX2_hasDraft_b25 at e
  refine Rn.n hT 1 (pc' := 26) (L' := [none, none]) (st' := [.int (0 : Int32)]) rfl ?_
  exact Rn.weak (ll_n (ll_n ll_e)) (RX2_hasDraft_b26 hd hR L32_0 hq e)
def FX2_hasDraft (N : Nat) (s : iv_M) (q0 : Nat) (x1 : Int) : Option (Int) := (if x1 < 0 then (FX2_hasDraft_b25 N s) else (if 4 ≤ x1 then (FX2_hasDraft_b25 N s) else (if (bAn (sr32 (s q0 8) x1) 1) = 1 then (FX2_hasDraft_b26 N s 1) else (FX2_hasDraft_b25 N s))))
set_option maxRecDepth 10000 in
set_option maxHeartbeats 4000000 in
theorem RX2_hasDraft {d N nc Ls : Nat} {Xs : Nat → Int32} (hd : 1 ≤ d) {h : iv_H} {s : iv_M} (hR : Rep nc Ls Xs h s) {q0 : Nat} (t0 : T2 nc q0) {m1 : Int32} {x1 : Int} (p1 : m1.toInt = x1) {r : Int} {Q : Option Value → iv_H → Prop} (e : FX2_hasDraft N s q0 x1 = some r) (hq : ∀ (z : Int32), z.toInt = r → Q (some (.int z)) h) : Cl d 55 [.ref q0, .int m1] h Q := by
  obtain ⟨d, rfl⟩ : ∃ k, d = k + 1 := ⟨d - 1, by omega⟩
  have hd : 0 ≤ d := by omega
  have hT := hX2_hasDraft
  unfold FX2_hasDraft at e
  refine Cl.into (by decide) gX2_hasDraft rfl ?_
  show Rn d 55 (some .boolean) 0 [some (.ref q0), some (.int m1)] [] h Q
  refine Rn.n hT 1 (pc' := 1) (L' := [some (.ref q0), some (.int m1)]) (st' := [.int m1]) rfl ?_
  by_cases c_548 : x1 < 0
  · rw [if_pos c_548] at e
    refine Rn.bt hT rfl rfl rfl (decide_eq_true ((ti_l p1 L32_0).mpr c_548)) ?_
    exact Rn.weak (ll_n (ll_n ll_e)) (RX2_hasDraft_b25 hd hR hq e)
  · rw [if_neg c_548] at e
    refine Rn.bf hT rfl rfl rfl (decide_eq_false (fun z => c_548 ((ti_l p1 L32_0).mp z))) ?_
    refine Rn.n hT 2 (pc' := 6) (L' := [some (.ref q0), some (.int m1)]) (st' := [.int (4 : Int32), .int m1]) rfl ?_
    by_cases c_549 : 4 ≤ x1
    · rw [if_pos c_549] at e
      refine Rn.bt hT rfl rfl rfl (decide_eq_true ((ti_le L32_4 p1).mpr c_549)) ?_
      exact Rn.weak (ll_n (ll_n ll_e)) (RX2_hasDraft_b25 hd hR hq e)
    · rw [if_neg c_549] at e
      refine Rn.bf hT rfl rfl rfl (decide_eq_false (fun z => c_549 ((ti_le L32_4 p1).mp z))) ?_
      refine Rn.n hT 1 (pc' := 10) (L' := [some (.ref q0), some (.int m1)]) (st' := [.ref q0]) rfl ?_
      obtain ⟨z_550, g_550, p_550⟩ : ∃ z : Int32, gI h 2 8 q0 = some z ∧ z.toInt = s q0 8 := rp_gI (k := 8) hR (T2_o t0) rfl
      refine Rn.hp hT rfl rfl (gI_hp g_550) ?_
      refine Rn.n hT 5 (pc' := 18) (L' := [some (.ref q0), some (.int m1)]) (st' := [.int (1 : Int32), .int ((z_550 >>> (m1 &&& 31)) &&& (1 : Int32))]) rfl ?_
      by_cases c_551 : (bAn (sr32 (s q0 8) x1) 1) = 1
      · rw [if_pos c_551] at e
        refine Rn.bf hT rfl rfl rfl (decide_eq_false (fun z => z ((ti_e (ti_and (ti_shr p_550 p1) L32_1) L32_1).mpr c_551))) ?_
        refine Rn.n hT 2 (pc' := 26) (L' := [some (.ref q0), some (.int m1)]) (st' := [.int (1 : Int32)]) rfl ?_
        exact Rn.weak (ll_n (ll_n ll_e)) (RX2_hasDraft_b26 hd hR L32_1 hq e)
      · rw [if_neg c_551] at e
        refine Rn.bt hT rfl rfl rfl (decide_eq_true (fun z => c_551 ((ti_e (ti_and (ti_shr p_550 p1) L32_1) L32_1).mp z))) ?_
        exact Rn.weak (ll_n (ll_n ll_e)) (RX2_hasDraft_b25 hd hR hq e)
set_option maxRecDepth 10000 in
theorem hX2_keepDraft : iv_Tb 56 tX2_keepDraft := iv_tb_of (m := mX2_keepDraft) rfl
set_option maxRecDepth 10000 in
theorem gX2_keepDraft : PG.2 56 = some mX2_keepDraft := iv_pi_of (t := tX2_keepDraft) rfl (by decide)
def FX2_keepDraft (N : Nat) (s : iv_M) (q0 : Nat) (x1 : Int) (q2 : Nat) : Option (iv_M) := ((pt s q0 8 (bOr (s q0 8) (sl32 1 x1))).bind fun s_554 => ((wr s_554 (q0 + 14) 4 x1 (s_554 q2 3)).bind fun s_557 => ((wr s_557 (q0 + 15) 4 x1 (s_557 q2 4)).bind fun s_560 => some s_560)))
set_option maxRecDepth 10000 in
set_option maxHeartbeats 4000000 in
theorem RX2_keepDraft {d N nc Ls : Nat} {Xs : Nat → Int32} (hd : 1 ≤ d) {h : iv_H} {s : iv_M} (hR : Rep nc Ls Xs h s) {q0 : Nat} (t0 : T2 nc q0) {m1 : Int32} {x1 : Int} (p1 : m1.toInt = x1) {q2 : Nat} (t2 : T1 nc q2) {r : iv_M} {Q : Option Value → iv_H → Prop} (e : FX2_keepDraft N s q0 x1 q2 = some r) (hq : ∀ h1, Rep nc Ls Xs h1 r → Q none h1) : Cl d 56 [.ref q0, .int m1, .ref q2] h Q := by
  obtain ⟨d, rfl⟩ : ∃ k, d = k + 1 := ⟨d - 1, by omega⟩
  have hd : 0 ≤ d := by omega
  have hT := hX2_keepDraft
  unfold FX2_keepDraft at e
  refine Cl.into (by decide) gX2_keepDraft rfl ?_
  show Rn d 56 none 0 [some (.ref q0), some (.int m1), some (.ref q2)] [] h Q
  refine Rn.n hT 2 (pc' := 2) (L' := [some (.ref q0), some (.int m1), some (.ref q2)]) (st' := [.ref q0, .ref q0]) rfl ?_
  obtain ⟨z_553, g_553, p_553⟩ : ∃ z : Int32, gI h 2 8 q0 = some z ∧ z.toInt = s q0 8 := rp_gI (k := 8) hR (T2_o t0) rfl
  refine Rn.hp hT rfl rfl (gI_hp g_553) ?_
  refine Rn.n hT 4 (pc' := 9) (L' := [some (.ref q0), some (.int m1), some (.ref q2)]) (st' := [.int (z_553 ||| ((1 : Int32) <<< (m1 &&& 31))), .ref q0]) rfl ?_
  obtain ⟨s_554, e_555, e⟩ := Option.bind_eq_some_iff.mp e
  obtain ⟨h_554, g_555, R_554⟩ := rp_pI (ci := 2) (k := 8) hR (T2_o t0) rfl rfl (ti_or p_553 (ti_shl L32_1 p1)) e_555
  refine Rn.hp hT rfl rfl (pV_hp rfl g_555) ?_
  refine Rn.n hT 1 (pc' := 13) (L' := [some (.ref q0), some (.int m1), some (.ref q2)]) (st' := [.ref q0]) rfl ?_
  refine Rn.hp hT rfl rfl (gR_hp (rp_gR R_554 (T2_o t0) rfl)) ?_
  refine Rn.n hT 2 (pc' := 18) (L' := [some (.ref q0), some (.int m1), some (.ref q2)]) (st' := [.ref q2, .int m1, .ref (q0 + 14)]) rfl ?_
  obtain ⟨z_556, g_556, p_556⟩ : ∃ z : Int64, gJ h_554 1 3 q2 = some z ∧ z.toInt = s_554 q2 3 := rp_gJ (k := 3) R_554 (T1_o t2) rfl
  refine Rn.hp hT rfl rfl (gJ_hp g_556) ?_
  obtain ⟨s_557, e_558, e⟩ := Option.bind_eq_some_iff.mp e
  obtain ⟨h_557, g_558, R_557⟩ := rp_wJ R_554 (T2_14 t0) (T2_14l t0) p1 p_556 e_558
  refine Rn.hp hT rfl rfl (wJ_hp g_558) ?_
  refine Rn.n hT 1 (pc' := 23) (L' := [some (.ref q0), some (.int m1), some (.ref q2)]) (st' := [.ref q0]) rfl ?_
  refine Rn.hp hT rfl rfl (gR_hp (rp_gR R_557 (T2_o t0) rfl)) ?_
  refine Rn.n hT 2 (pc' := 28) (L' := [some (.ref q0), some (.int m1), some (.ref q2)]) (st' := [.ref q2, .int m1, .ref (q0 + 15)]) rfl ?_
  obtain ⟨z_559, g_559, p_559⟩ : ∃ z : Int32, gI h_557 1 4 q2 = some z ∧ z.toInt = s_557 q2 4 := rp_gI (k := 4) R_557 (T1_o t2) rfl
  refine Rn.hp hT rfl rfl (gI_hp g_559) ?_
  obtain ⟨s_560, e_561, e⟩ := Option.bind_eq_some_iff.mp e
  obtain ⟨h_560, g_561, R_560⟩ := rp_wI R_557 (T2_15 t0) (T2_15l t0) p1 p_559 e_561
  refine Rn.hp hT rfl rfl (wI_hp g_561) ?_
  obtain rfl := Option.some.inj e
  exact Rn.ret hT rfl rfl rfl (hq h_560 R_560)
set_option maxRecDepth 10000 in
theorem hX2_draftCell : iv_Tb 57 tX2_draftCell := iv_tb_of (m := mX2_draftCell) rfl
set_option maxRecDepth 10000 in
theorem gX2_draftCell : PG.2 57 = some mX2_draftCell := iv_pi_of (t := tX2_draftCell) rfl (by decide)
def FX2_draftCell (N : Nat) (s : iv_M) (q0 : Nat) (x1 : Int) (x2 : Int) : Option (Int) := ((rd s (q0 + 14) 4 x1).bind fun v_562 => (some (bAn (w32 (sr64 v_562 (w32 (4 * x2)))) 15)))
set_option maxRecDepth 10000 in
set_option maxHeartbeats 4000000 in
theorem RX2_draftCell {d N nc Ls : Nat} {Xs : Nat → Int32} (hd : 1 ≤ d) {h : iv_H} {s : iv_M} (hR : Rep nc Ls Xs h s) {q0 : Nat} (t0 : T2 nc q0) {m1 : Int32} {x1 : Int} (p1 : m1.toInt = x1) {m2 : Int32} {x2 : Int} (p2 : m2.toInt = x2) {r : Int} {Q : Option Value → iv_H → Prop} (e : FX2_draftCell N s q0 x1 x2 = some r) (hq : ∀ (z : Int32), z.toInt = r → Q (some (.int z)) h) : Cl d 57 [.ref q0, .int m1, .int m2] h Q := by
  obtain ⟨d, rfl⟩ : ∃ k, d = k + 1 := ⟨d - 1, by omega⟩
  have hd : 0 ≤ d := by omega
  have hT := hX2_draftCell
  unfold FX2_draftCell at e
  refine Cl.into (by decide) gX2_draftCell rfl ?_
  show Rn d 57 (some .int) 0 [some (.ref q0), some (.int m1), some (.int m2)] [] h Q
  refine Rn.n hT 1 (pc' := 1) (L' := [some (.ref q0), some (.int m1), some (.int m2)]) (st' := [.ref q0]) rfl ?_
  refine Rn.hp hT rfl rfl (gR_hp (rp_gR hR (T2_o t0) rfl)) ?_
  refine Rn.n hT 1 (pc' := 5) (L' := [some (.ref q0), some (.int m1), some (.int m2)]) (st' := [.int m1, .ref (q0 + 14)]) rfl ?_
  obtain ⟨v_562, e_562, e⟩ := Option.bind_eq_some_iff.mp e
  obtain ⟨z_562, g_562, p_562⟩ := rp_aJ hR (T2_14 t0) (T2_14l t0) p1 e_562
  refine Rn.hp hT rfl rfl (aJ_hp g_562) ?_
  refine Rn.n hT 7 (pc' := 14) (L' := [some (.ref q0), some (.int m1), some (.int m2)]) (st' := [.int (((z_562 >>> ((((4 : Int32) * m2)).toInt64 &&& 63))).toInt32 &&& (15 : Int32))]) rfl ?_
  obtain rfl := Option.some.inj e
  exact Rn.ret hT rfl rfl rfl (hq (((z_562 >>> ((((4 : Int32) * m2)).toInt64 &&& 63))).toInt32 &&& (15 : Int32)) (ti_and (tj_i (tj_shr p_562 (ti_mul L32_4 p2))) L32_15))
set_option maxRecDepth 10000 in
theorem hX2_draftTurn : iv_Tb 58 tX2_draftTurn := iv_tb_of (m := mX2_draftTurn) rfl
set_option maxRecDepth 10000 in
theorem gX2_draftTurn : PG.2 58 = some mX2_draftTurn := iv_pi_of (t := tX2_draftTurn) rfl (by decide)
def FX2_draftTurn (N : Nat) (s : iv_M) (q0 : Nat) (x1 : Int) (x2 : Int) : Option (Int) := ((rd s (q0 + 15) 4 x1).bind fun v_563 => (some (bAn (sr32 v_563 (w32 (2 * x2))) 3)))
set_option maxRecDepth 10000 in
set_option maxHeartbeats 4000000 in
theorem RX2_draftTurn {d N nc Ls : Nat} {Xs : Nat → Int32} (hd : 1 ≤ d) {h : iv_H} {s : iv_M} (hR : Rep nc Ls Xs h s) {q0 : Nat} (t0 : T2 nc q0) {m1 : Int32} {x1 : Int} (p1 : m1.toInt = x1) {m2 : Int32} {x2 : Int} (p2 : m2.toInt = x2) {r : Int} {Q : Option Value → iv_H → Prop} (e : FX2_draftTurn N s q0 x1 x2 = some r) (hq : ∀ (z : Int32), z.toInt = r → Q (some (.int z)) h) : Cl d 58 [.ref q0, .int m1, .int m2] h Q := by
  obtain ⟨d, rfl⟩ : ∃ k, d = k + 1 := ⟨d - 1, by omega⟩
  have hd : 0 ≤ d := by omega
  have hT := hX2_draftTurn
  unfold FX2_draftTurn at e
  refine Cl.into (by decide) gX2_draftTurn rfl ?_
  show Rn d 58 (some .int) 0 [some (.ref q0), some (.int m1), some (.int m2)] [] h Q
  refine Rn.n hT 1 (pc' := 1) (L' := [some (.ref q0), some (.int m1), some (.int m2)]) (st' := [.ref q0]) rfl ?_
  refine Rn.hp hT rfl rfl (gR_hp (rp_gR hR (T2_o t0) rfl)) ?_
  refine Rn.n hT 1 (pc' := 5) (L' := [some (.ref q0), some (.int m1), some (.int m2)]) (st' := [.int m1, .ref (q0 + 15)]) rfl ?_
  obtain ⟨v_563, e_563, e⟩ := Option.bind_eq_some_iff.mp e
  obtain ⟨z_563, g_563, p_563⟩ := rp_aI hR (T2_15 t0) (T2_15l t0) p1 e_563
  refine Rn.hp hT rfl rfl (aI_hp g_563) ?_
  refine Rn.n hT 6 (pc' := 12) (L' := [some (.ref q0), some (.int m1), some (.int m2)]) (st' := [.int ((z_563 >>> (((2 : Int32) * m2) &&& 31)) &&& (3 : Int32))]) rfl ?_
  obtain rfl := Option.some.inj e
  exact Rn.ret hT rfl rfl rfl (hq ((z_563 >>> (((2 : Int32) * m2) &&& 31)) &&& (3 : Int32)) (ti_and (ti_shr p_563 (ti_mul L32_2 p2)) L32_3))
set_option maxRecDepth 10000 in
theorem hX3_look : iv_Tb 61 tX3_look := iv_tb_of (m := mX3_look) rfl
set_option maxRecDepth 10000 in
theorem gX3_look : PG.2 61 = some mX3_look := iv_pi_of (t := tX3_look) rfl (by decide)
def FX3_look_b26 (N : Nat) (s : iv_M)  (xs0 : Int) (qs1 : Nat) : Option (iv_M) := ((pt s qs1 5 xs0).bind fun s_569 => some s_569)
set_option maxRecDepth 10000 in
set_option maxHeartbeats 4000000 in
theorem RX3_look_b26 {d N nc Ls : Nat} {Xs : Nat → Int32} (hd : 2 ≤ d) {h : iv_H} {s : iv_M} (hR : Rep nc Ls Xs h s)  {ms0 : Int32} {xs0 : Int} (ps0 : ms0.toInt = xs0) {qs1 : Nat} (ts1 : T3 nc qs1) {r : iv_M} {Q : Option Value → iv_H → Prop} (hq : ∀ h1, Rep nc Ls Xs h1 r → Q none h1) (e : FX3_look_b26 N s  xs0 qs1 = some r) : Rn d 61 none 26 [none] [.int ms0, .ref qs1] h Q := by
  have hT := hX3_look
  unfold FX3_look_b26 at e
  obtain ⟨s_569, e_570, e⟩ := Option.bind_eq_some_iff.mp e
  obtain ⟨h_569, g_570, R_569⟩ := rp_pI (ci := 3) (k := 5) hR (T3_o ts1) rfl rfl ps0 e_570
  refine Rn.hp hT rfl rfl (pV_hp rfl g_570) ?_
  obtain rfl := Option.some.inj e
  exact Rn.ret hT rfl rfl rfl (hq h_569 R_569)
def FX3_look_b25 (N : Nat) (s : iv_M)  (qs0 : Nat) : Option (iv_M) := (FX3_look_b26 N s 0 qs0)
set_option maxRecDepth 10000 in
set_option maxHeartbeats 4000000 in
theorem RX3_look_b25 {d N nc Ls : Nat} {Xs : Nat → Int32} (hd : 2 ≤ d) {h : iv_H} {s : iv_M} (hR : Rep nc Ls Xs h s)  {qs0 : Nat} (ts0 : T3 nc qs0) {r : iv_M} {Q : Option Value → iv_H → Prop} (hq : ∀ h1, Rep nc Ls Xs h1 r → Q none h1) (e : FX3_look_b25 N s  qs0 = some r) : Rn d 61 none 25 [none] [.ref qs0] h Q := by
  have hT := hX3_look
  unfold FX3_look_b25 at e
  refine Rn.n hT 1 (pc' := 26) (L' := [none]) (st' := [.int (0 : Int32), .ref qs0]) rfl ?_
  exact Rn.weak (ll_n ll_e) (RX3_look_b26 hd hR L32_0 ts0 hq e)
def FX3_look (N : Nat) (s : iv_M) (q0 : Nat) : Option (iv_M) := (if (s q0 3) = 0 then (FX3_look_b25 N s q0) else (if (s q0 1) < 0 then (FX3_look_b25 N s q0) else (if (s q0 1) < 0 then none else ((FX1_mismatches N s ((s q0 1).toNat)).bind fun v_568 => (FX3_look_b26 N s v_568 q0)))))
set_option maxRecDepth 10000 in
set_option maxHeartbeats 4000000 in
theorem RX3_look {d N nc Ls : Nat} {Xs : Nat → Int32} (hd : 3 ≤ d) {h : iv_H} {s : iv_M} (hR : Rep nc Ls Xs h s) {q0 : Nat} (t0 : T3 nc q0) {r : iv_M} {Q : Option Value → iv_H → Prop} (e : FX3_look N s q0 = some r) (hq : ∀ h1, Rep nc Ls Xs h1 r → Q none h1) : Cl d 61 [.ref q0] h Q := by
  obtain ⟨d, rfl⟩ : ∃ k, d = k + 1 := ⟨d - 1, by omega⟩
  have hd : 2 ≤ d := by omega
  have hT := hX3_look
  unfold FX3_look at e
  refine Cl.into (by decide) gX3_look rfl ?_
  show Rn d 61 none 0 [some (.ref q0)] [] h Q
  refine Rn.n hT 2 (pc' := 2) (L' := [some (.ref q0)]) (st' := [.ref q0, .ref q0]) rfl ?_
  obtain ⟨z_564, g_564, p_564⟩ : ∃ z : Int32, gI h 3 3 q0 = some z ∧ z.toInt = s q0 3 := rp_gI (k := 3) hR (T3_o t0) rfl
  refine Rn.hp hT rfl rfl (gI_hp g_564) ?_
  by_cases c_565 : (s q0 3) = 0
  · rw [if_pos c_565] at e
    refine Rn.bt hT rfl rfl rfl (decide_eq_true ((ti_e p_564 L32_0).mpr c_565)) ?_
    exact Rn.weak (ll_n ll_e) (RX3_look_b25 hd hR t0 hq e)
  · rw [if_neg c_565] at e
    refine Rn.bf hT rfl rfl rfl (decide_eq_false (fun z => c_565 ((ti_e p_564 L32_0).mp z))) ?_
    refine Rn.n hT 1 (pc' := 9) (L' := [some (.ref q0)]) (st' := [.ref q0, .ref q0]) rfl ?_
    refine Rn.hp hT rfl rfl (gN_hp (rp_gN (k := 1) hR (T3_o t0) rfl)) ?_
    by_cases c_566 : (s q0 1) < 0
    · rw [if_pos c_566] at e
      have hv : rvo (s q0 ((1 : Nat) : Int)) = none := rvo_neg c_566
      rw [hv]
      clear hv
      show Rn d _ _ 12 [some (.ref q0)] [.null, .ref q0] h Q
      refine Rn.bt hT rfl rfl rfl rfl ?_
      exact Rn.weak (ll_n ll_e) (RX3_look_b25 hd hR t0 hq e)
    · rw [if_neg c_566] at e
      have hv : rvo (s q0 ((1 : Nat) : Int)) = some ((s q0 1)).toNat := rvo_pos c_566
      rw [hv]
      clear hv
      show Rn d _ _ 12 [some (.ref q0)] [.ref ((s q0 1).toNat), .ref q0] h Q
      refine Rn.bf hT rfl rfl rfl rfl ?_
      refine Rn.n hT 1 (pc' := 16) (L' := [some (.ref q0)]) (st' := [.ref q0, .ref q0]) rfl ?_
      refine Rn.hp hT rfl rfl (gN_hp (rp_gN (k := 1) hR (T3_o t0) rfl)) ?_
      by_cases c_567 : (s q0 1) < 0
      · rw [if_pos c_567] at e
        cases e
      · rw [if_neg c_567] at e
        have hv : rvo (s q0 ((1 : Nat) : Int)) = some ((s q0 1)).toNat := rvo_pos c_567
        rw [hv]
        clear hv
        show Rn d _ _ 19 [some (.ref q0)] [.ref ((s q0 1).toNat), .ref q0] h Q
        obtain ⟨v_568, e_568, e⟩ := Option.bind_eq_some_iff.mp e
        refine Rn.call hT rfl rfl rfl (Nat.le_of_ble_eq_true rfl) (rcv_v gX1_mismatches (by omega) (rp_ck hR (T1_o (ty_31 hR t0 c_567)))) (RX1_mismatches (by omega) hR (ty_31 hR t0 c_567) e_568 (fun z_568 p_568 => ?_))
        show Rn d _ _ 22 [some (.ref q0)] [.int z_568, .ref q0] h Q
        refine Rn.n hT 1 (pc' := 26) (L' := [some (.ref q0)]) (st' := [.int z_568, .ref q0]) rfl ?_
        exact Rn.weak (ll_n ll_e) (RX3_look_b26 hd hR p_568 t0 hq e)
set_option maxRecDepth 10000 in
theorem hX3_open : iv_Tb 60 tX3_open := iv_tb_of (m := mX3_open) rfl
set_option maxRecDepth 10000 in
theorem gX3_open : PG.2 60 = some mX3_open := iv_pi_of (t := tX3_open) rfl (by decide)
def FX3_open_b32 (N : Nat) (s : iv_M) (q0 : Nat) (q1 : Nat) (xs0 : Int) (qs1 : Nat) : Option (iv_M) := (if xs0 = 0 ∨ xs0 = 1 then ((pt s qs1 3 xs0).bind fun s_580 => ((pt s_580 q0 4 (s_580 q1 6)).bind fun s_583 => ((FX3_look N s_583 q0).bind fun s_586 => some s_586))) else none)
set_option maxRecDepth 10000 in
set_option maxHeartbeats 4000000 in
theorem RX3_open_b32 {d N nc Ls : Nat} {Xs : Nat → Int32} (hd : 3 ≤ d) {h : iv_H} {s : iv_M} (hR : Rep nc Ls Xs h s) {q0 : Nat} (t0 : T3 nc q0) {q1 : Nat} (t1 : T2 nc q1) {ms0 : Int32} {xs0 : Int} (ps0 : ms0.toInt = xs0) {qs1 : Nat} (ts1 : T3 nc qs1) {r : iv_M} {Q : Option Value → iv_H → Prop} (hq : ∀ h1, Rep nc Ls Xs h1 r → Q none h1) (e : FX3_open_b32 N s q0 q1 xs0 qs1 = some r) : Rn d 60 none 32 [some (.ref q0), some (.ref q1), none, none] [.int ms0, .ref qs1] h Q := by
  have hT := hX3_open
  unfold FX3_open_b32 at e
  by_cases c_587 : xs0 = 0 ∨ xs0 = 1
  · rw [if_pos c_587] at e
    obtain ⟨s_580, e_581, e⟩ := Option.bind_eq_some_iff.mp e
    obtain ⟨h_580, g_581, R_580⟩ := rp_pI (ci := 3) (k := 3) hR (T3_o ts1) rfl rfl ps0 e_581
    refine Rn.hp hT rfl rfl (pV_hp (ft_bl (ti_b ps0 c_587)) g_581) ?_
    refine Rn.n hT 2 (pc' := 37) (L' := [some (.ref q0), some (.ref q1), none, none]) (st' := [.ref q1, .ref q0]) rfl ?_
    obtain ⟨z_582, g_582, p_582⟩ : ∃ z : Int32, gI h_580 2 6 q1 = some z ∧ z.toInt = s_580 q1 6 := rp_gI (k := 6) R_580 (T2_o t1) rfl
    refine Rn.hp hT rfl rfl (gI_hp g_582) ?_
    obtain ⟨s_583, e_584, e⟩ := Option.bind_eq_some_iff.mp e
    obtain ⟨h_583, g_584, R_583⟩ := rp_pI (ci := 3) (k := 4) R_580 (T3_o t0) rfl rfl p_582 e_584
    refine Rn.hp hT rfl rfl (pV_hp rfl g_584) ?_
    refine Rn.n hT 1 (pc' := 44) (L' := [some (.ref q0), some (.ref q1), none, none]) (st' := [.ref q0]) rfl ?_
    obtain ⟨s_586, e_585, e⟩ := Option.bind_eq_some_iff.mp e
    refine Rn.call hT rfl rfl rfl (Nat.le_of_ble_eq_true rfl) (rcv_v gX3_look (by omega) (rp_ck R_583 (T3_o t0))) (RX3_look (by omega) R_583 t0 e_585 (fun h_586 R_586 => ?_))
    show Rn d _ _ 47 [some (.ref q0), some (.ref q1), none, none] [] h_586 Q
    obtain rfl := Option.some.inj e
    exact Rn.ret hT rfl rfl rfl (hq h_586 R_586)
  · rw [if_neg c_587] at e
    cases e
def FX3_open_b27 (N : Nat) (s : iv_M) (q0 : Nat) (q1 : Nat) (qs0 : Nat) : Option (iv_M) := (FX3_open_b32 N s q0 q1 1 qs0)
set_option maxRecDepth 10000 in
set_option maxHeartbeats 4000000 in
theorem RX3_open_b27 {d N nc Ls : Nat} {Xs : Nat → Int32} (hd : 3 ≤ d) {h : iv_H} {s : iv_M} (hR : Rep nc Ls Xs h s) {q0 : Nat} (t0 : T3 nc q0) {q1 : Nat} (t1 : T2 nc q1) {qs0 : Nat} (ts0 : T3 nc qs0) {r : iv_M} {Q : Option Value → iv_H → Prop} (hq : ∀ h1, Rep nc Ls Xs h1 r → Q none h1) (e : FX3_open_b27 N s q0 q1 qs0 = some r) : Rn d 60 none 27 [some (.ref q0), some (.ref q1), none, none] [.ref qs0] h Q := by
  have hT := hX3_open
  unfold FX3_open_b27 at e
  refine Rn.n hT 2 (pc' := 32) (L' := [some (.ref q0), some (.ref q1), none, none]) (st' := [.int (1 : Int32), .ref qs0]) rfl ?_
  exact Rn.weak (ll_s (ll_s (ll_n (ll_n ll_e)))) (RX3_open_b32 hd hR t0 t1 L32_1 ts0 hq e)
def FX3_open (N : Nat) (s : iv_M) (q0 : Nat) (q1 : Nat) (q2 : Nat) (o3 : Int) : Option (iv_M) := ((pt s q0 0 ((q1 : Nat) : Int)).bind fun s_571 => ((pt s_571 q0 1 ((q2 : Nat) : Int)).bind fun s_573 => ((pt s_573 q0 2 o3).bind fun s_575 => (if (s_575 q1 4) = 0 then (if o3 < 0 then (FX3_open_b32 N s_575 q0 q1 0 q0) else (FX3_open_b27 N s_575 q0 q1 q0)) else (FX3_open_b27 N s_575 q0 q1 q0)))))
set_option maxRecDepth 10000 in
set_option maxHeartbeats 4000000 in
theorem RX3_open {d N nc Ls : Nat} {Xs : Nat → Int32} (hd : 4 ≤ d) {h : iv_H} {s : iv_M} (hR : Rep nc Ls Xs h s) {q0 : Nat} (t0 : T3 nc q0) {q1 : Nat} (t1 : T2 nc q1) {q2 : Nat} (t2 : T1 nc q2) {o3 : Int} (t3 : (o3 < 0 ∨ TR nc (o3).toNat)) {r : iv_M} {Q : Option Value → iv_H → Prop} (e : FX3_open N s q0 q1 q2 o3 = some r) (hq : ∀ h1, Rep nc Ls Xs h1 r → Q none h1) : Cl d 60 [.ref q0, .ref q1, .ref q2, iv_rf (rvo o3)] h Q := by
  obtain ⟨d, rfl⟩ : ∃ k, d = k + 1 := ⟨d - 1, by omega⟩
  have hd : 3 ≤ d := by omega
  have hT := hX3_open
  unfold FX3_open at e
  have he : iv_ent 4 [.ref q0, .ref q1, .ref q2, iv_rf (rvo o3)] = [some (.ref q0), some (.ref q1), some (.ref q2), some (iv_rf (rvo o3))] := by cases rvo o3 <;> rfl
  refine Cl.into (by decide) gX3_open (by rw [he]; rfl) ?_
  rw [he]
  refine Rn.n hT 2 (pc' := 2) (L' := [some (.ref q0), some (.ref q1), some (.ref q2), some (iv_rf (rvo o3))]) (st' := [.ref q1, .ref q0]) rfl ?_
  obtain ⟨s_571, e_572, e⟩ := Option.bind_eq_some_iff.mp e
  obtain ⟨h_571, g_572, R_571⟩ := rp_pP (ci := 3) (k := 0) hR (T3_o t0) rfl (Mt_30 hR.2.2.2.2.2 (T3_o t0) t1) e_572
  refine Rn.hp hT rfl rfl (pV_hp rfl g_572) ?_
  refine Rn.n hT 2 (pc' := 7) (L' := [some (.ref q0), some (.ref q1), some (.ref q2), some (iv_rf (rvo o3))]) (st' := [.ref q2, .ref q0]) rfl ?_
  obtain ⟨s_573, e_574, e⟩ := Option.bind_eq_some_iff.mp e
  obtain ⟨h_573, g_574, R_573⟩ := rp_pP (ci := 3) (k := 1) R_571 (T3_o t0) rfl (Mt_31 R_571.2.2.2.2.2 (T3_o t0) t2) e_574
  refine Rn.hp hT rfl rfl (pV_hp rfl g_574) ?_
  refine Rn.n hT 1 (pc' := 11) (L' := [some (.ref q0), some (.ref q1), some (.ref q2), some (iv_rf (rvo o3))]) (st' := [.ref q0]) rfl ?_
  refine Rn.lo hT rfl rfl (L' := [some (.ref q0), some (.ref q1), some (.ref q2), some (iv_rf (rvo o3))]) (st' := [iv_rf (rvo o3), .ref q0]) (ldN (o := (rvo o3)) rfl) ?_
  obtain ⟨s_575, e_576, e⟩ := Option.bind_eq_some_iff.mp e
  obtain ⟨h_575, g_576, R_575⟩ := rp_pN (ci := 3) (k := 2) R_573 (T3_o t0) rfl (Mt_32 R_573.2.2.2.2.2 (T3_o t0) t3) e_576
  refine Rn.hp hT rfl rfl (pV_hp ft_rf g_576) ?_
  refine Rn.n hT 2 (pc' := 17) (L' := [some (.ref q0), some (.ref q1), some (.ref q2), some (iv_rf (rvo o3))]) (st' := [.ref q1, .ref q0]) rfl ?_
  obtain ⟨z_577, g_577, p_577⟩ : ∃ z : Int32, gI h_575 2 4 q1 = some z ∧ z.toInt = s_575 q1 4 := rp_gI (k := 4) R_575 (T2_o t1) rfl
  refine Rn.hp hT rfl rfl (gI_hp g_577) ?_
  by_cases c_578 : (s_575 q1 4) = 0
  · rw [if_pos c_578] at e
    refine Rn.bf hT rfl rfl rfl (decide_eq_false (fun z => z ((ti_e p_577 L32_0).mpr c_578))) ?_
    refine Rn.lo hT rfl rfl (L' := [some (.ref q0), some (.ref q1), some (.ref q2), some (iv_rf (rvo o3))]) (st' := [iv_rf (rvo o3), .ref q0]) (ldN (o := (rvo o3)) rfl) ?_
    by_cases c_579 : o3 < 0
    · rw [if_pos c_579] at e
      rw [rvo_neg c_579]
      refine Rn.bt hT rfl rfl rfl rfl ?_
      refine Rn.n hT 1 (pc' := 32) (L' := [some (.ref q0), some (.ref q1), some (.ref q2), some (iv_rf none)]) (st' := [.int (0 : Int32), .ref q0]) rfl ?_
      exact Rn.weak (ll_s (ll_s (ll_n (ll_n ll_e)))) (RX3_open_b32 hd R_575 t0 t1 L32_0 t0 hq e)
    · rw [if_neg c_579] at e
      rw [rvo_pos c_579]
      refine Rn.bf hT rfl rfl rfl rfl ?_
      exact Rn.weak (ll_s (ll_s (ll_n (ll_n ll_e)))) (RX3_open_b27 hd R_575 t0 t1 t0 hq e)
  · rw [if_neg c_578] at e
    refine Rn.bt hT rfl rfl rfl (decide_eq_true (fun z => c_578 ((ti_e p_577 L32_0).mp z))) ?_
    exact Rn.weak (ll_s (ll_s (ll_n (ll_n ll_e)))) (RX3_open_b27 hd R_575 t0 t1 t0 hq e)
