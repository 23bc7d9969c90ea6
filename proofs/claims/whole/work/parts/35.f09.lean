-- FLAT MIRRORS, 9 (written by wip/whole/mir2.py)
set_option maxRecDepth 10000 in
theorem hX12_codeAt : iv_Tb 262 tX12_codeAt := iv_tb_of (m := mX12_codeAt) rfl
set_option maxRecDepth 10000 in
theorem gX12_codeAt : PG.2 262 = some mX12_codeAt := iv_pi_of (t := tX12_codeAt) rfl (by decide)
def FX12_codeAt_b29 (N : Nat) (s : iv_M) (q0 : Nat) (x1 : Int) (x2 : Int) (x3 : Int)  (kb : iv_M → Int → Int → Option (Int × iv_M)) (kx : iv_M → Option (Int × iv_M)) : Option (Int × iv_M) := (kb s x2 (w32 (x3 + 1)))
set_option maxRecDepth 10000 in
set_option maxHeartbeats 4000000 in
theorem RX12_codeAt_b29 {d N nc Ls : Nat} {Xs : Nat → Int32} (hd : 8 ≤ d) {h : iv_H} {s : iv_M} (hR : Rep nc Ls Xs h s) {q0 : Nat} (t0 : T12 nc q0) {m1 : Int32} {x1 : Int} (p1 : m1.toInt = x1) {m2 : Int32} {x2 : Int} (p2 : m2.toInt = x2) {m3 : Int32} {x3 : Int} (p3 : m3.toInt = x3)  {kb : iv_M → Int → Int → Option (Int × iv_M)} {kx : iv_M → Option (Int × iv_M)} {r : Int × iv_M} {Q : Option Value → iv_H → Prop} (hb : ∀ (h : iv_H) (s : iv_M) (hR : Rep nc Ls Xs h s) (mw2 : Int32) (xw2 : Int) (pw2 : mw2.toInt = xw2) (mw3 : Int32) (xw3 : Int) (pw3 : mw3.toInt = xw3), kb s xw2 xw3 = some r → Rn d 262 (some .int) 4 [some (.ref q0), some (.int m1), some (.int mw2), some (.int mw3)] [] h Q) (hk : ∀ (h : iv_H) (s : iv_M) (hR : Rep nc Ls Xs h s), kx s = some r → Rn d 262 (some .int) 35 [none, none, none, none] [] h Q) (hq : ∀ (z : Int32) (h1 : iv_H), z.toInt = r.1 → Rep nc Ls Xs h1 r.2 → Q (some (.int z)) h1) (e : FX12_codeAt_b29 N s q0 x1 x2 x3  kb kx = some r) : Rn d 262 (some .int) 29 [some (.ref q0), some (.int m1), some (.int m2), some (.int m3)] [] h Q := by
  have hT := hX12_codeAt
  unfold FX12_codeAt_b29 at e
  refine Rn.n hT 2 (pc' := 4) (L' := [some (.ref q0), some (.int m1), some (.int m2), some (.int (m3 + (1 : Int32)))]) (st' := []) rfl ?_
  exact Rn.weak (ll_s (ll_s (ll_s (ll_s ll_e)))) (hb h s hR m2 x2 p2 (m3 + (1 : Int32)) (w32 (x3 + 1)) (ti_add p3 L32_1) e)
def FX12_codeAt_l4 (N : Nat) (q0 : Nat) (x1 : Int) (kx : iv_M → Option (Int × iv_M)) : Nat → iv_M → Int → Int → Option (Int × iv_M)
  | 0, _, _, _ => none
  | n + 1, s, x2, x3 => (if 204 ≤ x3 then (kx s) else ((FX12_mayBe N s q0 x3).bind fun r_3262 => (fun (v_3262 : Int) (s_3263 : iv_M) => (if v_3262 = 0 then (FX12_codeAt_b29 N s_3263 q0 x1 x2 x3 (FX12_codeAt_l4 N q0 x1 kx n) kx) else (if x2 = x1 then (some (x3, s_3263)) else (FX12_codeAt_b29 N s_3263 q0 x1 (w32 (x2 + 1)) x3 (FX12_codeAt_l4 N q0 x1 kx n) kx)))) r_3262.1 r_3262.2))
set_option maxRecDepth 10000 in
set_option maxHeartbeats 4000000 in
theorem RX12_codeAt_l4 {d N nc Ls : Nat} {Xs : Nat → Int32} (hd : 8 ≤ d) {q0 : Nat} (t0 : T12 nc q0) {m1 : Int32} {x1 : Int} (p1 : m1.toInt = x1) {kx : iv_M → Option (Int × iv_M)} {r : Int × iv_M} {Q : Option Value → iv_H → Prop} (hk : ∀ (h : iv_H) (s : iv_M) (hR : Rep nc Ls Xs h s), kx s = some r → Rn d 262 (some .int) 35 [none, none, none, none] [] h Q) (hq : ∀ (z : Int32) (h1 : iv_H), z.toInt = r.1 → Rep nc Ls Xs h1 r.2 → Q (some (.int z)) h1) : ∀ (n : Nat) (h : iv_H) (s : iv_M) (hR : Rep nc Ls Xs h s) (m2 : Int32) (x2 : Int) (p2 : m2.toInt = x2) (m3 : Int32) (x3 : Int) (p3 : m3.toInt = x3), FX12_codeAt_l4 N q0 x1 kx n s x2 x3 = some r → Rn d 262 (some .int) 4 [some (.ref q0), some (.int m1), some (.int m2), some (.int m3)] [] h Q := by
  have hT := hX12_codeAt
  intro n
  induction n with
  | zero =>
    intro h s hR m2 x2 p2 m3 x3 p3 e
    rw [FX12_codeAt_l4] at e
    cases e
  | succ n ih =>
    intro h s hR m2 x2 p2 m3 x3 p3 e
    rw [FX12_codeAt_l4] at e
    refine Rn.n hT 2 (pc' := 8) (L' := [some (.ref q0), some (.int m1), some (.int m2), some (.int m3)]) (st' := [.int (204 : Int32), .int m3]) rfl ?_
    by_cases c_3261 : 204 ≤ x3
    · rw [if_pos c_3261] at e
      refine Rn.bt hT rfl rfl rfl (decide_eq_true ((ti_le L32_204 p3).mpr c_3261)) ?_
      exact Rn.weak (ll_n (ll_n (ll_n (ll_n ll_e)))) (hk h s hR e)
    · rw [if_neg c_3261] at e
      refine Rn.bf hT rfl rfl rfl (decide_eq_false (fun z => c_3261 ((ti_le L32_204 p3).mp z))) ?_
      refine Rn.n hT 2 (pc' := 13) (L' := [some (.ref q0), some (.int m1), some (.int m2), some (.int m3)]) (st' := [.int m3, .ref q0]) rfl ?_
      obtain ⟨⟨v_3262, s_3263⟩, e_3262, e⟩ := Option.bind_eq_some_iff.mp e
      try dsimp only at e
      try dsimp only at e
      refine Rn.call hT rfl rfl rfl (Nat.le_of_ble_eq_true rfl) (rcv_v gX12_mayBe (by omega) (rp_ck hR (T12_o t0))) (RX12_mayBe (by omega) hR t0 p3 e_3262 (fun z_3262 h_3263 p_3262 R_3263 => ?_))
      show Rn d _ _ 16 [some (.ref q0), some (.int m1), some (.int m2), some (.int m3)] [.int z_3262] h_3263 Q
      by_cases c_3264 : v_3262 = 0
      · rw [if_pos c_3264] at e
        refine Rn.bt hT rfl rfl rfl (decide_eq_true ((ti_e p_3262 L32_0).mpr c_3264)) ?_
        exact Rn.weak (ll_s (ll_s (ll_s (ll_s ll_e)))) (RX12_codeAt_b29 hd R_3263 t0 p1 p2 p3 ih hk hq e)
      · rw [if_neg c_3264] at e
        refine Rn.bf hT rfl rfl rfl (decide_eq_false (fun z => c_3264 ((ti_e p_3262 L32_0).mp z))) ?_
        refine Rn.n hT 2 (pc' := 21) (L' := [some (.ref q0), some (.int m1), some (.int m2), some (.int m3)]) (st' := [.int m1, .int m2]) rfl ?_
        by_cases c_3265 : x2 = x1
        · rw [if_pos c_3265] at e
          refine Rn.bf hT rfl rfl rfl (decide_eq_false (fun z => z ((ti_e p2 p1).mpr c_3265))) ?_
          refine Rn.n hT 1 (pc' := 25) (L' := [some (.ref q0), some (.int m1), some (.int m2), some (.int m3)]) (st' := [.int m3]) rfl ?_
          obtain rfl := Option.some.inj e
          exact Rn.ret hT rfl rfl rfl (hq m3 h_3263 p3 R_3263)
        · rw [if_neg c_3265] at e
          refine Rn.bt hT rfl rfl rfl (decide_eq_true (fun z => c_3265 ((ti_e p2 p1).mp z))) ?_
          refine Rn.n hT 1 (pc' := 29) (L' := [some (.ref q0), some (.int m1), some (.int (m2 + (1 : Int32))), some (.int m3)]) (st' := []) rfl ?_
          exact Rn.weak (ll_s (ll_s (ll_s (ll_s ll_e)))) (RX12_codeAt_b29 hd R_3263 t0 p1 (ti_add p2 L32_1) p3 ih hk hq e)
def FX12_codeAt (N : Nat) (s : iv_M) (q0 : Nat) (x1 : Int) : Option (Int × iv_M) := (FX12_codeAt_l4 N q0 x1 (fun (s_3259 : iv_M) => (some ((-1), s_3259))) N s 0 0)
set_option maxRecDepth 10000 in
set_option maxHeartbeats 4000000 in
theorem RX12_codeAt {d N nc Ls : Nat} {Xs : Nat → Int32} (hd : 9 ≤ d) {h : iv_H} {s : iv_M} (hR : Rep nc Ls Xs h s) {q0 : Nat} (t0 : T12 nc q0) {m1 : Int32} {x1 : Int} (p1 : m1.toInt = x1) {r : Int × iv_M} {Q : Option Value → iv_H → Prop} (e : FX12_codeAt N s q0 x1 = some r) (hq : ∀ (z : Int32) (h1 : iv_H), z.toInt = r.1 → Rep nc Ls Xs h1 r.2 → Q (some (.int z)) h1) : Cl d 262 [.ref q0, .int m1] h Q := by
  obtain ⟨d, rfl⟩ : ∃ k, d = k + 1 := ⟨d - 1, by omega⟩
  have hd : 8 ≤ d := by omega
  have hT := hX12_codeAt
  unfold FX12_codeAt at e
  refine Cl.into (by decide) gX12_codeAt rfl ?_
  show Rn d 262 (some .int) 0 [some (.ref q0), some (.int m1), none, none] [] h Q
  refine Rn.n hT 4 (pc' := 4) (L' := [some (.ref q0), some (.int m1), some (.int (0 : Int32)), some (.int (0 : Int32))]) (st' := []) rfl ?_
  refine Rn.weak (ll_s (ll_s (ll_s (ll_s ll_e)))) (RX12_codeAt_l4 hd t0 p1 (fun h_3259 s_3259 R_3259 e => ?_) hq N h s hR (0 : Int32) 0 L32_0 (0 : Int32) 0 L32_0 e)
  try dsimp only at e
  refine Rn.n hT 1 (pc' := 36) (L' := [none, none, none, none]) (st' := [.int (-1 : Int32)]) rfl ?_
  obtain rfl := Option.some.inj e
  exact Rn.ret hT rfl rfl rfl (hq (-1 : Int32) h_3259 L32_m1 R_3259)
set_option maxRecDepth 10000 in
theorem hX12_does : iv_Tb 263 tX12_does := iv_tb_of (m := mX12_does) rfl
set_option maxRecDepth 10000 in
theorem gX12_does : PG.2 263 = some mX12_does := iv_pi_of (t := tX12_does) rfl (by decide)
def FX12_does (N : Nat) (s : iv_M) (q0 : Nat) (x1 : Int) : Option (iv_M) := ((FX12_kindOf N s x1).bind fun v_3266 => ((FX12_roomOf N s x1).bind fun v_3267 => ((FX12_otherOf N s x1).bind fun v_3268 => ((FX12_walks N s q0 v_3266 v_3267 v_3268).bind fun s_3270 => some s_3270))))
set_option maxRecDepth 10000 in
set_option maxHeartbeats 4000000 in
theorem RX12_does {d N nc Ls : Nat} {Xs : Nat → Int32} (hd : 5 ≤ d) {h : iv_H} {s : iv_M} (hR : Rep nc Ls Xs h s) {q0 : Nat} (t0 : T12 nc q0) {m1 : Int32} {x1 : Int} (p1 : m1.toInt = x1) {r : iv_M} {Q : Option Value → iv_H → Prop} (e : FX12_does N s q0 x1 = some r) (hq : ∀ h1, Rep nc Ls Xs h1 r → Q none h1) : Cl d 263 [.ref q0, .int m1] h Q := by
  obtain ⟨d, rfl⟩ : ∃ k, d = k + 1 := ⟨d - 1, by omega⟩
  have hd : 4 ≤ d := by omega
  have hT := hX12_does
  unfold FX12_does at e
  refine Cl.into (by decide) gX12_does rfl ?_
  show Rn d 263 none 0 [some (.ref q0), some (.int m1)] [] h Q
  refine Rn.n hT 2 (pc' := 2) (L' := [some (.ref q0), some (.int m1)]) (st' := [.int m1, .ref q0]) rfl ?_
  obtain ⟨v_3266, e_3266, e⟩ := Option.bind_eq_some_iff.mp e
  refine Rn.call hT rfl rfl rfl (Nat.le_of_ble_eq_true rfl) rfl (RX12_kindOf (by omega) hR p1 e_3266 (fun z_3266 p_3266 => ?_))
  show Rn d _ _ 5 [some (.ref q0), some (.int m1)] [.int z_3266, .ref q0] h Q
  refine Rn.n hT 1 (pc' := 6) (L' := [some (.ref q0), some (.int m1)]) (st' := [.int m1, .int z_3266, .ref q0]) rfl ?_
  obtain ⟨v_3267, e_3267, e⟩ := Option.bind_eq_some_iff.mp e
  refine Rn.call hT rfl rfl rfl (Nat.le_of_ble_eq_true rfl) rfl (RX12_roomOf (by omega) hR p1 e_3267 (fun z_3267 p_3267 => ?_))
  show Rn d _ _ 9 [some (.ref q0), some (.int m1)] [.int z_3267, .int z_3266, .ref q0] h Q
  refine Rn.n hT 1 (pc' := 10) (L' := [some (.ref q0), some (.int m1)]) (st' := [.int m1, .int z_3267, .int z_3266, .ref q0]) rfl ?_
  obtain ⟨v_3268, e_3268, e⟩ := Option.bind_eq_some_iff.mp e
  refine Rn.call hT rfl rfl rfl (Nat.le_of_ble_eq_true rfl) rfl (RX12_otherOf (by omega) hR p1 e_3268 (fun z_3268 p_3268 => ?_))
  show Rn d _ _ 13 [some (.ref q0), some (.int m1)] [.int z_3268, .int z_3267, .int z_3266, .ref q0] h Q
  obtain ⟨s_3270, e_3269, e⟩ := Option.bind_eq_some_iff.mp e
  refine Rn.call hT rfl rfl rfl (Nat.le_of_ble_eq_true rfl) (rcv_v gX12_walks (by omega) (rp_ck hR (T12_o t0))) (RX12_walks (by omega) hR t0 p_3266 p_3267 p_3268 e_3269 (fun h_3270 R_3270 => ?_))
  show Rn d _ _ 16 [some (.ref q0), some (.int m1)] [] h_3270 Q
  obtain rfl := Option.some.inj e
  exact Rn.ret hT rfl rfl rfl (hq h_3270 R_3270)
set_option maxRecDepth 10000 in
theorem hX12_doesBack : iv_Tb 264 tX12_doesBack := iv_tb_of (m := mX12_doesBack) rfl
set_option maxRecDepth 10000 in
theorem gX12_doesBack : PG.2 264 = some mX12_doesBack := iv_pi_of (t := tX12_doesBack) rfl (by decide)
def FX12_doesBack (N : Nat) (s : iv_M) (q0 : Nat) (x1 : Int) : Option (iv_M) := ((FX12_kindOf N s x1).bind fun v_3271 => ((FX12_roomOf N s x1).bind fun v_3272 => ((FX12_otherOf N s x1).bind fun v_3273 => ((FX12_walksBack N s q0 v_3271 v_3272 v_3273).bind fun s_3275 => some s_3275))))
set_option maxRecDepth 10000 in
set_option maxHeartbeats 4000000 in
theorem RX12_doesBack {d N nc Ls : Nat} {Xs : Nat → Int32} (hd : 5 ≤ d) {h : iv_H} {s : iv_M} (hR : Rep nc Ls Xs h s) {q0 : Nat} (t0 : T12 nc q0) {m1 : Int32} {x1 : Int} (p1 : m1.toInt = x1) {r : iv_M} {Q : Option Value → iv_H → Prop} (e : FX12_doesBack N s q0 x1 = some r) (hq : ∀ h1, Rep nc Ls Xs h1 r → Q none h1) : Cl d 264 [.ref q0, .int m1] h Q := by
  obtain ⟨d, rfl⟩ : ∃ k, d = k + 1 := ⟨d - 1, by omega⟩
  have hd : 4 ≤ d := by omega
  have hT := hX12_doesBack
  unfold FX12_doesBack at e
  refine Cl.into (by decide) gX12_doesBack rfl ?_
  show Rn d 264 none 0 [some (.ref q0), some (.int m1)] [] h Q
  refine Rn.n hT 2 (pc' := 2) (L' := [some (.ref q0), some (.int m1)]) (st' := [.int m1, .ref q0]) rfl ?_
  obtain ⟨v_3271, e_3271, e⟩ := Option.bind_eq_some_iff.mp e
  refine Rn.call hT rfl rfl rfl (Nat.le_of_ble_eq_true rfl) rfl (RX12_kindOf (by omega) hR p1 e_3271 (fun z_3271 p_3271 => ?_))
  show Rn d _ _ 5 [some (.ref q0), some (.int m1)] [.int z_3271, .ref q0] h Q
  refine Rn.n hT 1 (pc' := 6) (L' := [some (.ref q0), some (.int m1)]) (st' := [.int m1, .int z_3271, .ref q0]) rfl ?_
  obtain ⟨v_3272, e_3272, e⟩ := Option.bind_eq_some_iff.mp e
  refine Rn.call hT rfl rfl rfl (Nat.le_of_ble_eq_true rfl) rfl (RX12_roomOf (by omega) hR p1 e_3272 (fun z_3272 p_3272 => ?_))
  show Rn d _ _ 9 [some (.ref q0), some (.int m1)] [.int z_3272, .int z_3271, .ref q0] h Q
  refine Rn.n hT 1 (pc' := 10) (L' := [some (.ref q0), some (.int m1)]) (st' := [.int m1, .int z_3272, .int z_3271, .ref q0]) rfl ?_
  obtain ⟨v_3273, e_3273, e⟩ := Option.bind_eq_some_iff.mp e
  refine Rn.call hT rfl rfl rfl (Nat.le_of_ble_eq_true rfl) rfl (RX12_otherOf (by omega) hR p1 e_3273 (fun z_3273 p_3273 => ?_))
  show Rn d _ _ 13 [some (.ref q0), some (.int m1)] [.int z_3273, .int z_3272, .int z_3271, .ref q0] h Q
  obtain ⟨s_3275, e_3274, e⟩ := Option.bind_eq_some_iff.mp e
  refine Rn.call hT rfl rfl rfl (Nat.le_of_ble_eq_true rfl) (rcv_v gX12_walksBack (by omega) (rp_ck hR (T12_o t0))) (RX12_walksBack (by omega) hR t0 p_3271 p_3272 p_3273 e_3274 (fun h_3275 R_3275 => ?_))
  show Rn d _ _ 16 [some (.ref q0), some (.int m1)] [] h_3275 Q
  obtain rfl := Option.some.inj e
  exact Rn.ret hT rfl rfl rfl (hq h_3275 R_3275)
set_option maxRecDepth 10000 in
theorem hX12_part : iv_Tb 265 tX12_part := iv_tb_of (m := mX12_part) rfl
set_option maxRecDepth 10000 in
theorem gX12_part : PG.2 265 = some mX12_part := iv_pi_of (t := tX12_part) rfl (by decide)
def FX12_part_b27 (N : Nat) (s : iv_M)  (xs0 : Int) : Option (Int) := (some xs0)
set_option maxRecDepth 10000 in
set_option maxHeartbeats 4000000 in
theorem RX12_part_b27 {d N nc Ls : Nat} {Xs : Nat → Int32} (hd : 1 ≤ d) {h : iv_H} {s : iv_M} (hR : Rep nc Ls Xs h s)  {ms0 : Int32} {xs0 : Int} (ps0 : ms0.toInt = xs0) {r : Int} {Q : Option Value → iv_H → Prop} (hq : ∀ (z : Int32), z.toInt = r → Q (some (.int z)) h) (e : FX12_part_b27 N s  xs0 = some r) : Rn d 265 (some .int) 27 [none, none] [.int ms0] h Q := by
  have hT := hX12_part
  unfold FX12_part_b27 at e
  obtain rfl := Option.some.inj e
  exact Rn.ret hT rfl rfl rfl (hq ms0 ps0)
def FX12_part (N : Nat) (s : iv_M) (x0 : Int) (x1 : Int) : Option (Int) := (if x1 = 0 then ((FX12_kindOf N s x0).bind fun v_3280 => (FX12_part_b27 N s v_3280)) else (if x1 = 1 then ((FX12_roomOf N s x0).bind fun v_3279 => (FX12_part_b27 N s v_3279)) else ((FX12_otherOf N s x0).bind fun v_3278 => (FX12_part_b27 N s v_3278))))
set_option maxRecDepth 10000 in
set_option maxHeartbeats 4000000 in
theorem RX12_part {d N nc Ls : Nat} {Xs : Nat → Int32} (hd : 2 ≤ d) {h : iv_H} {s : iv_M} (hR : Rep nc Ls Xs h s) {m0 : Int32} {x0 : Int} (p0 : m0.toInt = x0) {m1 : Int32} {x1 : Int} (p1 : m1.toInt = x1) {r : Int} {Q : Option Value → iv_H → Prop} (e : FX12_part N s x0 x1 = some r) (hq : ∀ (z : Int32), z.toInt = r → Q (some (.int z)) h) : Cl d 265 [.int m0, .int m1] h Q := by
  obtain ⟨d, rfl⟩ : ∃ k, d = k + 1 := ⟨d - 1, by omega⟩
  have hd : 1 ≤ d := by omega
  have hT := hX12_part
  unfold FX12_part at e
  refine Cl.into (by decide) gX12_part rfl ?_
  show Rn d 265 (some .int) 0 [some (.int m0), some (.int m1)] [] h Q
  refine Rn.n hT 1 (pc' := 1) (L' := [some (.int m0), some (.int m1)]) (st' := [.int m1]) rfl ?_
  by_cases c_3276 : x1 = 0
  · rw [if_pos c_3276] at e
    refine Rn.bf hT rfl rfl rfl (decide_eq_false (fun z => z ((ti_e p1 L32_0).mpr c_3276))) ?_
    refine Rn.n hT 1 (pc' := 5) (L' := [some (.int m0), some (.int m1)]) (st' := [.int m0]) rfl ?_
    obtain ⟨v_3280, e_3280, e⟩ := Option.bind_eq_some_iff.mp e
    refine Rn.call hT rfl rfl rfl (Nat.le_of_ble_eq_true rfl) rfl (RX12_kindOf (by omega) hR p0 e_3280 (fun z_3280 p_3280 => ?_))
    show Rn d _ _ 8 [some (.int m0), some (.int m1)] [.int z_3280] h Q
    refine Rn.n hT 1 (pc' := 27) (L' := [some (.int m0), some (.int m1)]) (st' := [.int z_3280]) rfl ?_
    exact Rn.weak (ll_n (ll_n ll_e)) (RX12_part_b27 hd hR p_3280 hq e)
  · rw [if_neg c_3276] at e
    refine Rn.bt hT rfl rfl rfl (decide_eq_true (fun z => c_3276 ((ti_e p1 L32_0).mp z))) ?_
    refine Rn.n hT 2 (pc' := 13) (L' := [some (.int m0), some (.int m1)]) (st' := [.int (1 : Int32), .int m1]) rfl ?_
    by_cases c_3277 : x1 = 1
    · rw [if_pos c_3277] at e
      refine Rn.bf hT rfl rfl rfl (decide_eq_false (fun z => z ((ti_e p1 L32_1).mpr c_3277))) ?_
      refine Rn.n hT 1 (pc' := 17) (L' := [some (.int m0), some (.int m1)]) (st' := [.int m0]) rfl ?_
      obtain ⟨v_3279, e_3279, e⟩ := Option.bind_eq_some_iff.mp e
      refine Rn.call hT rfl rfl rfl (Nat.le_of_ble_eq_true rfl) rfl (RX12_roomOf (by omega) hR p0 e_3279 (fun z_3279 p_3279 => ?_))
      show Rn d _ _ 20 [some (.int m0), some (.int m1)] [.int z_3279] h Q
      refine Rn.n hT 1 (pc' := 27) (L' := [some (.int m0), some (.int m1)]) (st' := [.int z_3279]) rfl ?_
      exact Rn.weak (ll_n (ll_n ll_e)) (RX12_part_b27 hd hR p_3279 hq e)
    · rw [if_neg c_3277] at e
      refine Rn.bt hT rfl rfl rfl (decide_eq_true (fun z => c_3277 ((ti_e p1 L32_1).mp z))) ?_
      refine Rn.n hT 1 (pc' := 24) (L' := [some (.int m0), some (.int m1)]) (st' := [.int m0]) rfl ?_
      obtain ⟨v_3278, e_3278, e⟩ := Option.bind_eq_some_iff.mp e
      refine Rn.call hT rfl rfl rfl (Nat.le_of_ble_eq_true rfl) rfl (RX12_otherOf (by omega) hR p0 e_3278 (fun z_3278 p_3278 => ?_))
      show Rn d _ _ 27 [some (.int m0), some (.int m1)] [.int z_3278] h Q
      exact Rn.weak (ll_n (ll_n ll_e)) (RX12_part_b27 hd hR p_3278 hq e)
set_option maxRecDepth 10000 in
theorem hX12_keysIn : iv_Tb 266 tX12_keysIn := iv_tb_of (m := mX12_keysIn) rfl
set_option maxRecDepth 10000 in
theorem gX12_keysIn : PG.2 266 = some mX12_keysIn := iv_pi_of (t := tX12_keysIn) rfl (by decide)
def FX12_keysIn_b27 (N : Nat) (s : iv_M) (q0 : Nat) (x1 : Int) (x3 : Int) (xs0 : Int) (xs1 : Int) (kb : Int → Int → Option (Int)) (kx : Int → Option (Int)) : Option (Int) := (kb (bOr xs1 xs0) (w32 (x3 + 1)))
set_option maxRecDepth 10000 in
set_option maxHeartbeats 4000000 in
theorem RX12_keysIn_b27 {d N nc Ls : Nat} {Xs : Nat → Int32} (hd : 0 ≤ d) {h : iv_H} {s : iv_M} (hR : Rep nc Ls Xs h s) {q0 : Nat} (t0 : T12 nc q0) {m1 : Int32} {x1 : Int} (p1 : m1.toInt = x1) {m3 : Int32} {x3 : Int} (p3 : m3.toInt = x3) {ms0 : Int32} {xs0 : Int} (ps0 : ms0.toInt = xs0) {ms1 : Int32} {xs1 : Int} (ps1 : ms1.toInt = xs1) {kb : Int → Int → Option (Int)} {kx : Int → Option (Int)} {r : Int} {Q : Option Value → iv_H → Prop} (hb : ∀ (mw2 : Int32) (xw2 : Int) (pw2 : mw2.toInt = xw2) (mw3 : Int32) (xw3 : Int) (pw3 : mw3.toInt = xw3), kb xw2 xw3 = some r → Rn d 266 (some .int) 4 [some (.ref q0), some (.int m1), some (.int mw2), some (.int mw3)] [] h Q) (hk : ∀ (mw2 : Int32) (xw2 : Int) (pw2 : mw2.toInt = xw2), kx xw2 = some r → Rn d 266 (some .int) 35 [none, none, some (.int mw2), none] [] h Q) (hq : ∀ (z : Int32), z.toInt = r → Q (some (.int z)) h) (e : FX12_keysIn_b27 N s q0 x1 x3 xs0 xs1 kb kx = some r) : Rn d 266 (some .int) 27 [some (.ref q0), some (.int m1), none, some (.int m3)] [.int ms0, .int ms1] h Q := by
  have hT := hX12_keysIn
  unfold FX12_keysIn_b27 at e
  refine Rn.n hT 4 (pc' := 4) (L' := [some (.ref q0), some (.int m1), some (.int (ms1 ||| ms0)), some (.int (m3 + (1 : Int32)))]) (st' := []) rfl ?_
  exact Rn.weak (ll_s (ll_s (ll_s (ll_s ll_e)))) (hb (ms1 ||| ms0) (bOr xs1 xs0) (ti_or ps1 ps0) (m3 + (1 : Int32)) (w32 (x3 + 1)) (ti_add p3 L32_1) e)
def FX12_keysIn_l4 (N : Nat) (s : iv_M) (q0 : Nat) (x1 : Int) (kx : Int → Option (Int)) : Nat → Int → Int → Option (Int)
  | 0, _, _ => none
  | n + 1, x2, x3 => (if 4 ≤ x3 then (kx x2) else ((rd s (q0 + 6) 4 x3).bind fun v_3283 => (if v_3283 = x1 then (FX12_keysIn_b27 N s q0 x1 x3 (sl32 2 x3) x2 (FX12_keysIn_l4 N s q0 x1 kx n) kx) else (FX12_keysIn_b27 N s q0 x1 x3 0 x2 (FX12_keysIn_l4 N s q0 x1 kx n) kx))))
set_option maxRecDepth 10000 in
set_option maxHeartbeats 4000000 in
theorem RX12_keysIn_l4 {d N nc Ls : Nat} {Xs : Nat → Int32} (hd : 0 ≤ d) {h : iv_H} {s : iv_M} (hR : Rep nc Ls Xs h s) {q0 : Nat} (t0 : T12 nc q0) {m1 : Int32} {x1 : Int} (p1 : m1.toInt = x1) {kx : Int → Option (Int)} {r : Int} {Q : Option Value → iv_H → Prop} (hk : ∀ (m2 : Int32) (x2 : Int) (p2 : m2.toInt = x2), kx x2 = some r → Rn d 266 (some .int) 35 [none, none, some (.int m2), none] [] h Q) (hq : ∀ (z : Int32), z.toInt = r → Q (some (.int z)) h) : ∀ (n : Nat) (m2 : Int32) (x2 : Int) (p2 : m2.toInt = x2) (m3 : Int32) (x3 : Int) (p3 : m3.toInt = x3), FX12_keysIn_l4 N s q0 x1 kx n x2 x3 = some r → Rn d 266 (some .int) 4 [some (.ref q0), some (.int m1), some (.int m2), some (.int m3)] [] h Q := by
  have hT := hX12_keysIn
  intro n
  induction n with
  | zero =>
    intro m2 x2 p2 m3 x3 p3 e
    rw [FX12_keysIn_l4] at e
    cases e
  | succ n ih =>
    intro m2 x2 p2 m3 x3 p3 e
    rw [FX12_keysIn_l4] at e
    refine Rn.n hT 2 (pc' := 6) (L' := [some (.ref q0), some (.int m1), some (.int m2), some (.int m3)]) (st' := [.int (4 : Int32), .int m3]) rfl ?_
    by_cases c_3282 : 4 ≤ x3
    · rw [if_pos c_3282] at e
      refine Rn.bt hT rfl rfl rfl (decide_eq_true ((ti_le L32_4 p3).mpr c_3282)) ?_
      exact Rn.weak (ll_n (ll_n (ll_s (ll_n ll_e)))) (hk m2 x2 p2 e)
    · rw [if_neg c_3282] at e
      refine Rn.bf hT rfl rfl rfl (decide_eq_false (fun z => c_3282 ((ti_le L32_4 p3).mp z))) ?_
      refine Rn.n hT 2 (pc' := 11) (L' := [some (.ref q0), some (.int m1), some (.int m2), some (.int m3)]) (st' := [.ref q0, .int m2]) rfl ?_
      refine Rn.hp hT rfl rfl (gR_hp (rp_gR hR (T12_o t0) rfl)) ?_
      refine Rn.n hT 1 (pc' := 15) (L' := [some (.ref q0), some (.int m1), some (.int m2), some (.int m3)]) (st' := [.int m3, .ref (q0 + 6), .int m2]) rfl ?_
      obtain ⟨v_3283, e_3283, e⟩ := Option.bind_eq_some_iff.mp e
      obtain ⟨z_3283, g_3283, p_3283⟩ := rp_aI hR (T12_6 t0) (T12_6l t0) p3 e_3283
      refine Rn.hp hT rfl rfl (aI_hp g_3283) ?_
      refine Rn.n hT 1 (pc' := 17) (L' := [some (.ref q0), some (.int m1), some (.int m2), some (.int m3)]) (st' := [.int m1, .int z_3283, .int m2]) rfl ?_
      by_cases c_3284 : v_3283 = x1
      · rw [if_pos c_3284] at e
        refine Rn.bf hT rfl rfl rfl (decide_eq_false (fun z => z ((ti_e p_3283 p1).mpr c_3284))) ?_
        refine Rn.n hT 4 (pc' := 27) (L' := [some (.ref q0), some (.int m1), some (.int m2), some (.int m3)]) (st' := [.int ((2 : Int32) <<< (m3 &&& 31)), .int m2]) rfl ?_
        exact Rn.weak (ll_s (ll_s (ll_n (ll_s ll_e)))) (RX12_keysIn_b27 hd hR t0 p1 p3 (ti_shl L32_2 p3) p2 ih hk hq e)
      · rw [if_neg c_3284] at e
        refine Rn.bt hT rfl rfl rfl (decide_eq_true (fun z => c_3284 ((ti_e p_3283 p1).mp z))) ?_
        refine Rn.n hT 1 (pc' := 27) (L' := [some (.ref q0), some (.int m1), some (.int m2), some (.int m3)]) (st' := [.int (0 : Int32), .int m2]) rfl ?_
        exact Rn.weak (ll_s (ll_s (ll_n (ll_s ll_e)))) (RX12_keysIn_b27 hd hR t0 p1 p3 L32_0 p2 ih hk hq e)
def FX12_keysIn (N : Nat) (s : iv_M) (q0 : Nat) (x1 : Int) : Option (Int) := (FX12_keysIn_l4 N s q0 x1 (fun (x3281_2 : Int) => (some x3281_2)) N 0 0)
set_option maxRecDepth 10000 in
set_option maxHeartbeats 4000000 in
theorem RX12_keysIn {d N nc Ls : Nat} {Xs : Nat → Int32} (hd : 1 ≤ d) {h : iv_H} {s : iv_M} (hR : Rep nc Ls Xs h s) {q0 : Nat} (t0 : T12 nc q0) {m1 : Int32} {x1 : Int} (p1 : m1.toInt = x1) {r : Int} {Q : Option Value → iv_H → Prop} (e : FX12_keysIn N s q0 x1 = some r) (hq : ∀ (z : Int32), z.toInt = r → Q (some (.int z)) h) : Cl d 266 [.ref q0, .int m1] h Q := by
  obtain ⟨d, rfl⟩ : ∃ k, d = k + 1 := ⟨d - 1, by omega⟩
  have hd : 0 ≤ d := by omega
  have hT := hX12_keysIn
  unfold FX12_keysIn at e
  refine Cl.into (by decide) gX12_keysIn rfl ?_
  show Rn d 266 (some .int) 0 [some (.ref q0), some (.int m1), none, none] [] h Q
  refine Rn.n hT 4 (pc' := 4) (L' := [some (.ref q0), some (.int m1), some (.int (0 : Int32)), some (.int (0 : Int32))]) (st' := []) rfl ?_
  refine Rn.weak (ll_s (ll_s (ll_s (ll_s ll_e)))) (RX12_keysIn_l4 hd hR t0 p1 (fun m3281_2 x3281_2 p3281_2 e => ?_) hq N (0 : Int32) 0 L32_0 (0 : Int32) 0 L32_0 e)
  try dsimp only at e
  refine Rn.n hT 1 (pc' := 36) (L' := [none, none, some (.int m3281_2), none]) (st' := [.int m3281_2]) rfl ?_
  obtain rfl := Option.some.inj e
  exact Rn.ret hT rfl rfl rfl (hq m3281_2 p3281_2)
set_option maxRecDepth 10000 in
theorem hX12_room : iv_Tb 267 tX12_room := iv_tb_of (m := mX12_room) rfl
set_option maxRecDepth 10000 in
theorem gX12_room : PG.2 267 = some mX12_room := iv_pi_of (t := tX12_room) rfl (by decide)
def FX12_room (N : Nat) (s : iv_M) (q0 : Nat) (x1 : Int) (x2 : Int) : Option (Int) := ((FX12_isRoom N s q0 x1).bind fun v_3285 => (if v_3285 = 0 then (some (-1)) else (if x2 = 0 then ((rd s (q0 + 3) 12 x1).bind fun v_3288 => (some v_3288)) else (if x2 = 1 then ((rd s (q0 + 4) 12 x1).bind fun v_3290 => (some v_3290)) else (if x2 = 2 then ((FX12_sideOf N s q0 x1 (w32 (x2 - 2))).bind fun v_3292 => (some v_3292)) else (if x2 = 3 then ((FX12_sideOf N s q0 x1 (w32 (x2 - 2))).bind fun v_3294 => (some v_3294)) else (if x2 = 4 then ((FX12_sideOf N s q0 x1 (w32 (x2 - 2))).bind fun v_3296 => (some v_3296)) else (if x2 = 5 then ((FX12_sideOf N s q0 x1 (w32 (x2 - 2))).bind fun v_3298 => (some v_3298)) else (if x2 = 6 then ((rd s (q0 + 5) 12 x1).bind fun v_3300 => (some v_3300)) else (if x2 = 7 then ((FX12_keysIn N s q0 x1).bind fun v_3302 => (some v_3302)) else (if x2 = 8 then ((FX12_sleepers N s q0 x1).bind fun v_3304 => (some v_3304)) else (some (-1)))))))))))))
set_option maxRecDepth 10000 in
set_option maxHeartbeats 4000000 in
theorem RX12_room {d N nc Ls : Nat} {Xs : Nat → Int32} (hd : 3 ≤ d) {h : iv_H} {s : iv_M} (hR : Rep nc Ls Xs h s) {q0 : Nat} (t0 : T12 nc q0) {m1 : Int32} {x1 : Int} (p1 : m1.toInt = x1) {m2 : Int32} {x2 : Int} (p2 : m2.toInt = x2) {r : Int} {Q : Option Value → iv_H → Prop} (e : FX12_room N s q0 x1 x2 = some r) (hq : ∀ (z : Int32), z.toInt = r → Q (some (.int z)) h) : Cl d 267 [.ref q0, .int m1, .int m2] h Q := by
  obtain ⟨d, rfl⟩ : ∃ k, d = k + 1 := ⟨d - 1, by omega⟩
  have hd : 2 ≤ d := by omega
  have hT := hX12_room
  unfold FX12_room at e
  refine Cl.into (by decide) gX12_room rfl ?_
  show Rn d 267 (some .int) 0 [some (.ref q0), some (.int m1), some (.int m2)] [] h Q
  refine Rn.n hT 2 (pc' := 2) (L' := [some (.ref q0), some (.int m1), some (.int m2)]) (st' := [.int m1, .ref q0]) rfl ?_
  obtain ⟨v_3285, e_3285, e⟩ := Option.bind_eq_some_iff.mp e
  refine Rn.call hT rfl rfl rfl (Nat.le_of_ble_eq_true rfl) (rcv_v gX12_isRoom (by omega) (rp_ck hR (T12_o t0))) (RX12_isRoom (by omega) hR t0 p1 e_3285 (fun z_3285 p_3285 => ?_))
  show Rn d _ _ 5 [some (.ref q0), some (.int m1), some (.int m2)] [.int z_3285] h Q
  by_cases c_3286 : v_3285 = 0
  · rw [if_pos c_3286] at e
    refine Rn.bf hT rfl rfl rfl (decide_eq_false (fun z => z ((ti_e p_3285 L32_0).mpr c_3286))) ?_
    refine Rn.n hT 1 (pc' := 9) (L' := [some (.ref q0), some (.int m1), some (.int m2)]) (st' := [.int (-1 : Int32)]) rfl ?_
    obtain rfl := Option.some.inj e
    exact Rn.ret hT rfl rfl rfl (hq (-1 : Int32) L32_m1)
  · rw [if_neg c_3286] at e
    refine Rn.bt hT rfl rfl rfl (decide_eq_true (fun z => c_3286 ((ti_e p_3285 L32_0).mp z))) ?_
    refine Rn.n hT 1 (pc' := 11) (L' := [some (.ref q0), some (.int m1), some (.int m2)]) (st' := [.int m2]) rfl ?_
    by_cases c_3287 : x2 = 0
    · rw [if_pos c_3287] at e
      refine Rn.sw2 hT rfl rfl rfl (if_pos ((ti_e p2 L32_0).mpr c_3287)) ?_
      refine Rn.n hT 1 (pc' := 61) (L' := [some (.ref q0), some (.int m1), some (.int m2)]) (st' := [.ref q0]) rfl ?_
      refine Rn.hp hT rfl rfl (gR_hp (rp_gR hR (T12_o t0) rfl)) ?_
      refine Rn.n hT 1 (pc' := 65) (L' := [some (.ref q0), some (.int m1), some (.int m2)]) (st' := [.int m1, .ref (q0 + 3)]) rfl ?_
      obtain ⟨v_3288, e_3288, e⟩ := Option.bind_eq_some_iff.mp e
      obtain ⟨z_3288, g_3288, p_3288⟩ := rp_aI hR (T12_3 t0) (T12_3l t0) p1 e_3288
      refine Rn.hp hT rfl rfl (aI_hp g_3288) ?_
      obtain rfl := Option.some.inj e
      exact Rn.ret hT rfl rfl rfl (hq z_3288 p_3288)
    · rw [if_neg c_3287] at e
      by_cases c_3289 : x2 = 1
      · rw [if_pos c_3289] at e
        refine Rn.sw2 hT rfl rfl rfl ((if_neg (fun z => c_3287 ((ti_e p2 L32_0).mp z))).trans (if_pos ((ti_e p2 L32_1).mpr c_3289))) ?_
        refine Rn.n hT 1 (pc' := 68) (L' := [some (.ref q0), some (.int m1), some (.int m2)]) (st' := [.ref q0]) rfl ?_
        refine Rn.hp hT rfl rfl (gR_hp (rp_gR hR (T12_o t0) rfl)) ?_
        refine Rn.n hT 1 (pc' := 72) (L' := [some (.ref q0), some (.int m1), some (.int m2)]) (st' := [.int m1, .ref (q0 + 4)]) rfl ?_
        obtain ⟨v_3290, e_3290, e⟩ := Option.bind_eq_some_iff.mp e
        obtain ⟨z_3290, g_3290, p_3290⟩ := rp_aI hR (T12_4 t0) (T12_4l t0) p1 e_3290
        refine Rn.hp hT rfl rfl (aI_hp g_3290) ?_
        obtain rfl := Option.some.inj e
        exact Rn.ret hT rfl rfl rfl (hq z_3290 p_3290)
      · rw [if_neg c_3289] at e
        by_cases c_3291 : x2 = 2
        · rw [if_pos c_3291] at e
          refine Rn.sw2 hT rfl rfl rfl ((if_neg (fun z => c_3287 ((ti_e p2 L32_0).mp z))).trans ((if_neg (fun z => c_3289 ((ti_e p2 L32_1).mp z))).trans (if_pos ((ti_e p2 L32_2).mpr c_3291)))) ?_
          refine Rn.n hT 5 (pc' := 79) (L' := [some (.ref q0), some (.int m1), some (.int m2)]) (st' := [.int (m2 - (2 : Int32)), .int m1, .ref q0]) rfl ?_
          obtain ⟨v_3292, e_3292, e⟩ := Option.bind_eq_some_iff.mp e
          refine Rn.call hT rfl rfl rfl (Nat.le_of_ble_eq_true rfl) (rcv_v gX12_sideOf (by omega) (rp_ck hR (T12_o t0))) (RX12_sideOf (by omega) hR t0 p1 (ti_sub p2 L32_2) e_3292 (fun z_3292 p_3292 => ?_))
          show Rn d _ _ 82 [some (.ref q0), some (.int m1), some (.int m2)] [.int z_3292] h Q
          obtain rfl := Option.some.inj e
          exact Rn.ret hT rfl rfl rfl (hq z_3292 p_3292)
        · rw [if_neg c_3291] at e
          by_cases c_3293 : x2 = 3
          · rw [if_pos c_3293] at e
            refine Rn.sw2 hT rfl rfl rfl ((if_neg (fun z => c_3287 ((ti_e p2 L32_0).mp z))).trans ((if_neg (fun z => c_3289 ((ti_e p2 L32_1).mp z))).trans ((if_neg (fun z => c_3291 ((ti_e p2 L32_2).mp z))).trans (if_pos ((ti_e p2 L32_3).mpr c_3293))))) ?_
            refine Rn.n hT 5 (pc' := 79) (L' := [some (.ref q0), some (.int m1), some (.int m2)]) (st' := [.int (m2 - (2 : Int32)), .int m1, .ref q0]) rfl ?_
            obtain ⟨v_3294, e_3294, e⟩ := Option.bind_eq_some_iff.mp e
            refine Rn.call hT rfl rfl rfl (Nat.le_of_ble_eq_true rfl) (rcv_v gX12_sideOf (by omega) (rp_ck hR (T12_o t0))) (RX12_sideOf (by omega) hR t0 p1 (ti_sub p2 L32_2) e_3294 (fun z_3294 p_3294 => ?_))
            show Rn d _ _ 82 [some (.ref q0), some (.int m1), some (.int m2)] [.int z_3294] h Q
            obtain rfl := Option.some.inj e
            exact Rn.ret hT rfl rfl rfl (hq z_3294 p_3294)
          · rw [if_neg c_3293] at e
            by_cases c_3295 : x2 = 4
            · rw [if_pos c_3295] at e
              refine Rn.sw2 hT rfl rfl rfl ((if_neg (fun z => c_3287 ((ti_e p2 L32_0).mp z))).trans ((if_neg (fun z => c_3289 ((ti_e p2 L32_1).mp z))).trans ((if_neg (fun z => c_3291 ((ti_e p2 L32_2).mp z))).trans ((if_neg (fun z => c_3293 ((ti_e p2 L32_3).mp z))).trans (if_pos ((ti_e p2 L32_4).mpr c_3295)))))) ?_
              refine Rn.n hT 5 (pc' := 79) (L' := [some (.ref q0), some (.int m1), some (.int m2)]) (st' := [.int (m2 - (2 : Int32)), .int m1, .ref q0]) rfl ?_
              obtain ⟨v_3296, e_3296, e⟩ := Option.bind_eq_some_iff.mp e
              refine Rn.call hT rfl rfl rfl (Nat.le_of_ble_eq_true rfl) (rcv_v gX12_sideOf (by omega) (rp_ck hR (T12_o t0))) (RX12_sideOf (by omega) hR t0 p1 (ti_sub p2 L32_2) e_3296 (fun z_3296 p_3296 => ?_))
              show Rn d _ _ 82 [some (.ref q0), some (.int m1), some (.int m2)] [.int z_3296] h Q
              obtain rfl := Option.some.inj e
              exact Rn.ret hT rfl rfl rfl (hq z_3296 p_3296)
            · rw [if_neg c_3295] at e
              by_cases c_3297 : x2 = 5
              · rw [if_pos c_3297] at e
                refine Rn.sw2 hT rfl rfl rfl ((if_neg (fun z => c_3287 ((ti_e p2 L32_0).mp z))).trans ((if_neg (fun z => c_3289 ((ti_e p2 L32_1).mp z))).trans ((if_neg (fun z => c_3291 ((ti_e p2 L32_2).mp z))).trans ((if_neg (fun z => c_3293 ((ti_e p2 L32_3).mp z))).trans ((if_neg (fun z => c_3295 ((ti_e p2 L32_4).mp z))).trans (if_pos ((ti_e p2 L32_5).mpr c_3297))))))) ?_
                refine Rn.n hT 5 (pc' := 79) (L' := [some (.ref q0), some (.int m1), some (.int m2)]) (st' := [.int (m2 - (2 : Int32)), .int m1, .ref q0]) rfl ?_
                obtain ⟨v_3298, e_3298, e⟩ := Option.bind_eq_some_iff.mp e
                refine Rn.call hT rfl rfl rfl (Nat.le_of_ble_eq_true rfl) (rcv_v gX12_sideOf (by omega) (rp_ck hR (T12_o t0))) (RX12_sideOf (by omega) hR t0 p1 (ti_sub p2 L32_2) e_3298 (fun z_3298 p_3298 => ?_))
                show Rn d _ _ 82 [some (.ref q0), some (.int m1), some (.int m2)] [.int z_3298] h Q
                obtain rfl := Option.some.inj e
                exact Rn.ret hT rfl rfl rfl (hq z_3298 p_3298)
              · rw [if_neg c_3297] at e
                by_cases c_3299 : x2 = 6
                · rw [if_pos c_3299] at e
                  refine Rn.sw2 hT rfl rfl rfl ((if_neg (fun z => c_3287 ((ti_e p2 L32_0).mp z))).trans ((if_neg (fun z => c_3289 ((ti_e p2 L32_1).mp z))).trans ((if_neg (fun z => c_3291 ((ti_e p2 L32_2).mp z))).trans ((if_neg (fun z => c_3293 ((ti_e p2 L32_3).mp z))).trans ((if_neg (fun z => c_3295 ((ti_e p2 L32_4).mp z))).trans ((if_neg (fun z => c_3297 ((ti_e p2 L32_5).mp z))).trans (if_pos ((ti_e p2 L32_6).mpr c_3299)))))))) ?_
                  refine Rn.n hT 1 (pc' := 84) (L' := [some (.ref q0), some (.int m1), some (.int m2)]) (st' := [.ref q0]) rfl ?_
                  refine Rn.hp hT rfl rfl (gR_hp (rp_gR hR (T12_o t0) rfl)) ?_
                  refine Rn.n hT 1 (pc' := 88) (L' := [some (.ref q0), some (.int m1), some (.int m2)]) (st' := [.int m1, .ref (q0 + 5)]) rfl ?_
                  obtain ⟨v_3300, e_3300, e⟩ := Option.bind_eq_some_iff.mp e
                  obtain ⟨z_3300, g_3300, p_3300⟩ := rp_aI hR (T12_5 t0) (T12_5l t0) p1 e_3300
                  refine Rn.hp hT rfl rfl (aI_hp g_3300) ?_
                  obtain rfl := Option.some.inj e
                  exact Rn.ret hT rfl rfl rfl (hq z_3300 p_3300)
                · rw [if_neg c_3299] at e
                  by_cases c_3301 : x2 = 7
                  · rw [if_pos c_3301] at e
                    refine Rn.sw2 hT rfl rfl rfl ((if_neg (fun z => c_3287 ((ti_e p2 L32_0).mp z))).trans ((if_neg (fun z => c_3289 ((ti_e p2 L32_1).mp z))).trans ((if_neg (fun z => c_3291 ((ti_e p2 L32_2).mp z))).trans ((if_neg (fun z => c_3293 ((ti_e p2 L32_3).mp z))).trans ((if_neg (fun z => c_3295 ((ti_e p2 L32_4).mp z))).trans ((if_neg (fun z => c_3297 ((ti_e p2 L32_5).mp z))).trans ((if_neg (fun z => c_3299 ((ti_e p2 L32_6).mp z))).trans (if_pos ((ti_e p2 L32_7).mpr c_3301))))))))) ?_
                    refine Rn.n hT 2 (pc' := 92) (L' := [some (.ref q0), some (.int m1), some (.int m2)]) (st' := [.int m1, .ref q0]) rfl ?_
                    obtain ⟨v_3302, e_3302, e⟩ := Option.bind_eq_some_iff.mp e
                    refine Rn.call hT rfl rfl rfl (Nat.le_of_ble_eq_true rfl) (rcv_v gX12_keysIn (by omega) (rp_ck hR (T12_o t0))) (RX12_keysIn (by omega) hR t0 p1 e_3302 (fun z_3302 p_3302 => ?_))
                    show Rn d _ _ 95 [some (.ref q0), some (.int m1), some (.int m2)] [.int z_3302] h Q
                    obtain rfl := Option.some.inj e
                    exact Rn.ret hT rfl rfl rfl (hq z_3302 p_3302)
                  · rw [if_neg c_3301] at e
                    by_cases c_3303 : x2 = 8
                    · rw [if_pos c_3303] at e
                      refine Rn.sw2 hT rfl rfl rfl ((if_neg (fun z => c_3287 ((ti_e p2 L32_0).mp z))).trans ((if_neg (fun z => c_3289 ((ti_e p2 L32_1).mp z))).trans ((if_neg (fun z => c_3291 ((ti_e p2 L32_2).mp z))).trans ((if_neg (fun z => c_3293 ((ti_e p2 L32_3).mp z))).trans ((if_neg (fun z => c_3295 ((ti_e p2 L32_4).mp z))).trans ((if_neg (fun z => c_3297 ((ti_e p2 L32_5).mp z))).trans ((if_neg (fun z => c_3299 ((ti_e p2 L32_6).mp z))).trans ((if_neg (fun z => c_3301 ((ti_e p2 L32_7).mp z))).trans (if_pos ((ti_e p2 L32_8).mpr c_3303)))))))))) ?_
                      refine Rn.n hT 2 (pc' := 98) (L' := [some (.ref q0), some (.int m1), some (.int m2)]) (st' := [.int m1, .ref q0]) rfl ?_
                      obtain ⟨v_3304, e_3304, e⟩ := Option.bind_eq_some_iff.mp e
                      refine Rn.call hT rfl rfl rfl (Nat.le_of_ble_eq_true rfl) (rcv_v gX12_sleepers (by omega) (rp_ck hR (T12_o t0))) (RX12_sleepers (by omega) hR t0 p1 e_3304 (fun z_3304 p_3304 => ?_))
                      show Rn d _ _ 101 [some (.ref q0), some (.int m1), some (.int m2)] [.int z_3304] h Q
                      obtain rfl := Option.some.inj e
                      exact Rn.ret hT rfl rfl rfl (hq z_3304 p_3304)
                    · rw [if_neg c_3303] at e
                      refine Rn.sw2 hT rfl rfl rfl ((if_neg (fun z => c_3287 ((ti_e p2 L32_0).mp z))).trans ((if_neg (fun z => c_3289 ((ti_e p2 L32_1).mp z))).trans ((if_neg (fun z => c_3291 ((ti_e p2 L32_2).mp z))).trans ((if_neg (fun z => c_3293 ((ti_e p2 L32_3).mp z))).trans ((if_neg (fun z => c_3295 ((ti_e p2 L32_4).mp z))).trans ((if_neg (fun z => c_3297 ((ti_e p2 L32_5).mp z))).trans ((if_neg (fun z => c_3299 ((ti_e p2 L32_6).mp z))).trans ((if_neg (fun z => c_3301 ((ti_e p2 L32_7).mp z))).trans ((if_neg (fun z => c_3303 ((ti_e p2 L32_8).mp z))).trans rfl))))))))) ?_
                      refine Rn.n hT 1 (pc' := 103) (L' := [some (.ref q0), some (.int m1), some (.int m2)]) (st' := [.int (-1 : Int32)]) rfl ?_
                      obtain rfl := Option.some.inj e
                      exact Rn.ret hT rfl rfl rfl (hq (-1 : Int32) L32_m1)
set_option maxRecDepth 10000 in
theorem hX12_at : iv_Tb 268 tX12_at := iv_tb_of (m := mX12_at) rfl
set_option maxRecDepth 10000 in
theorem gX12_at : PG.2 268 = some mX12_at := iv_pi_of (t := tX12_at) rfl (by decide)
def FX12_at_b24 (N : Nat) (s : iv_M)  (xs0 : Int) : Option (Int) := (some xs0)
set_option maxRecDepth 10000 in
set_option maxHeartbeats 4000000 in
theorem RX12_at_b24 {d N nc Ls : Nat} {Xs : Nat → Int32} (hd : 2 ≤ d) {h : iv_H} {s : iv_M} (hR : Rep nc Ls Xs h s)  {ms0 : Int32} {xs0 : Int} (ps0 : ms0.toInt = xs0) {r : Int} {Q : Option Value → iv_H → Prop} (hq : ∀ (z : Int32), z.toInt = r → Q (some (.int z)) h) (e : FX12_at_b24 N s  xs0 = some r) : Rn d 268 (some .int) 24 [none, none, none] [.int ms0] h Q := by
  have hT := hX12_at
  unfold FX12_at_b24 at e
  obtain rfl := Option.some.inj e
  exact Rn.ret hT rfl rfl rfl (hq ms0 ps0)
def FX12_at (N : Nat) (s : iv_M) (q0 : Nat) (x1 : Int) (x2 : Int) : Option (Int) := ((FX12_isCell N s q0 x1 x2).bind fun v_3305 => (if v_3305 = 0 then (FX12_at_b24 N s (-2)) else ((rd s (q0 + 8) 16 (w32 ((w32 (4 * x2)) + x1))).bind fun v_3307 => (FX12_at_b24 N s v_3307))))
set_option maxRecDepth 10000 in
set_option maxHeartbeats 4000000 in
theorem RX12_at {d N nc Ls : Nat} {Xs : Nat → Int32} (hd : 3 ≤ d) {h : iv_H} {s : iv_M} (hR : Rep nc Ls Xs h s) {q0 : Nat} (t0 : T12 nc q0) {m1 : Int32} {x1 : Int} (p1 : m1.toInt = x1) {m2 : Int32} {x2 : Int} (p2 : m2.toInt = x2) {r : Int} {Q : Option Value → iv_H → Prop} (e : FX12_at N s q0 x1 x2 = some r) (hq : ∀ (z : Int32), z.toInt = r → Q (some (.int z)) h) : Cl d 268 [.ref q0, .int m1, .int m2] h Q := by
  obtain ⟨d, rfl⟩ : ∃ k, d = k + 1 := ⟨d - 1, by omega⟩
  have hd : 2 ≤ d := by omega
  have hT := hX12_at
  unfold FX12_at at e
  refine Cl.into (by decide) gX12_at rfl ?_
  show Rn d 268 (some .int) 0 [some (.ref q0), some (.int m1), some (.int m2)] [] h Q
  refine Rn.n hT 3 (pc' := 3) (L' := [some (.ref q0), some (.int m1), some (.int m2)]) (st' := [.int m2, .int m1, .ref q0]) rfl ?_
  obtain ⟨v_3305, e_3305, e⟩ := Option.bind_eq_some_iff.mp e
  refine Rn.call hT rfl rfl rfl (Nat.le_of_ble_eq_true rfl) (rcv_v gX12_isCell (by omega) (rp_ck hR (T12_o t0))) (RX12_isCell (by omega) hR t0 p1 p2 e_3305 (fun z_3305 p_3305 => ?_))
  show Rn d _ _ 6 [some (.ref q0), some (.int m1), some (.int m2)] [.int z_3305] h Q
  by_cases c_3306 : v_3305 = 0
  · rw [if_pos c_3306] at e
    refine Rn.bt hT rfl rfl rfl (decide_eq_true ((ti_e p_3305 L32_0).mpr c_3306)) ?_
    refine Rn.n hT 1 (pc' := 24) (L' := [some (.ref q0), some (.int m1), some (.int m2)]) (st' := [.int (-2 : Int32)]) rfl ?_
    exact Rn.weak (ll_n (ll_n (ll_n ll_e))) (RX12_at_b24 hd hR L32_m2 hq e)
  · rw [if_neg c_3306] at e
    refine Rn.bf hT rfl rfl rfl (decide_eq_false (fun z => c_3306 ((ti_e p_3305 L32_0).mp z))) ?_
    refine Rn.n hT 1 (pc' := 10) (L' := [some (.ref q0), some (.int m1), some (.int m2)]) (st' := [.ref q0]) rfl ?_
    refine Rn.hp hT rfl rfl (gR_hp (rp_gR hR (T12_o t0) rfl)) ?_
    refine Rn.n hT 5 (pc' := 18) (L' := [some (.ref q0), some (.int m1), some (.int m2)]) (st' := [.int (((4 : Int32) * m2) + m1), .ref (q0 + 8)]) rfl ?_
    obtain ⟨v_3307, e_3307, e⟩ := Option.bind_eq_some_iff.mp e
    obtain ⟨z_3307, g_3307, p_3307⟩ := rp_aI hR (T12_8 t0) (T12_8l t0) (ti_add (ti_mul L32_4 p2) p1) e_3307
    refine Rn.hp hT rfl rfl (aI_hp g_3307) ?_
    refine Rn.n hT 1 (pc' := 24) (L' := [some (.ref q0), some (.int m1), some (.int m2)]) (st' := [.int z_3307]) rfl ?_
    exact Rn.weak (ll_n (ll_n (ll_n ll_e))) (RX12_at_b24 hd hR p_3307 hq e)
set_option maxRecDepth 10000 in
theorem hX12_sleeps : iv_Tb 269 tX12_sleeps := iv_tb_of (m := mX12_sleeps) rfl
set_option maxRecDepth 10000 in
theorem gX12_sleeps : PG.2 269 = some mX12_sleeps := iv_pi_of (t := tX12_sleeps) rfl (by decide)
def FX12_sleeps_b18 (N : Nat) (s : iv_M)  (xs0 : Int) : Option (Int) := (some xs0)
set_option maxRecDepth 10000 in
set_option maxHeartbeats 4000000 in
theorem RX12_sleeps_b18 {d N nc Ls : Nat} {Xs : Nat → Int32} (hd : 2 ≤ d) {h : iv_H} {s : iv_M} (hR : Rep nc Ls Xs h s)  {ms0 : Int32} {xs0 : Int} (ps0 : ms0.toInt = xs0) {r : Int} {Q : Option Value → iv_H → Prop} (hq : ∀ (z : Int32), z.toInt = r → Q (some (.int z)) h) (e : FX12_sleeps_b18 N s  xs0 = some r) : Rn d 269 (some .int) 18 [none, none] [.int ms0] h Q := by
  have hT := hX12_sleeps
  unfold FX12_sleeps_b18 at e
  obtain rfl := Option.some.inj e
  exact Rn.ret hT rfl rfl rfl (hq ms0 ps0)
def FX12_sleeps (N : Nat) (s : iv_M) (q0 : Nat) (x1 : Int) : Option (Int) := ((FX12_isPerson N s q0 x1).bind fun v_3308 => (if v_3308 = 0 then (FX12_sleeps_b18 N s (-1)) else ((rd s (q0 + 7) 6 x1).bind fun v_3310 => (FX12_sleeps_b18 N s v_3310))))
set_option maxRecDepth 10000 in
set_option maxHeartbeats 4000000 in
theorem RX12_sleeps {d N nc Ls : Nat} {Xs : Nat → Int32} (hd : 3 ≤ d) {h : iv_H} {s : iv_M} (hR : Rep nc Ls Xs h s) {q0 : Nat} (t0 : T12 nc q0) {m1 : Int32} {x1 : Int} (p1 : m1.toInt = x1) {r : Int} {Q : Option Value → iv_H → Prop} (e : FX12_sleeps N s q0 x1 = some r) (hq : ∀ (z : Int32), z.toInt = r → Q (some (.int z)) h) : Cl d 269 [.ref q0, .int m1] h Q := by
  obtain ⟨d, rfl⟩ : ∃ k, d = k + 1 := ⟨d - 1, by omega⟩
  have hd : 2 ≤ d := by omega
  have hT := hX12_sleeps
  unfold FX12_sleeps at e
  refine Cl.into (by decide) gX12_sleeps rfl ?_
  show Rn d 269 (some .int) 0 [some (.ref q0), some (.int m1)] [] h Q
  refine Rn.n hT 2 (pc' := 2) (L' := [some (.ref q0), some (.int m1)]) (st' := [.int m1, .ref q0]) rfl ?_
  obtain ⟨v_3308, e_3308, e⟩ := Option.bind_eq_some_iff.mp e
  refine Rn.call hT rfl rfl rfl (Nat.le_of_ble_eq_true rfl) (rcv_v gX12_isPerson (by omega) (rp_ck hR (T12_o t0))) (RX12_isPerson (by omega) hR t0 p1 e_3308 (fun z_3308 p_3308 => ?_))
  show Rn d _ _ 5 [some (.ref q0), some (.int m1)] [.int z_3308] h Q
  by_cases c_3309 : v_3308 = 0
  · rw [if_pos c_3309] at e
    refine Rn.bt hT rfl rfl rfl (decide_eq_true ((ti_e p_3308 L32_0).mpr c_3309)) ?_
    refine Rn.n hT 1 (pc' := 18) (L' := [some (.ref q0), some (.int m1)]) (st' := [.int (-1 : Int32)]) rfl ?_
    exact Rn.weak (ll_n (ll_n ll_e)) (RX12_sleeps_b18 hd hR L32_m1 hq e)
  · rw [if_neg c_3309] at e
    refine Rn.bf hT rfl rfl rfl (decide_eq_false (fun z => c_3309 ((ti_e p_3308 L32_0).mp z))) ?_
    refine Rn.n hT 1 (pc' := 9) (L' := [some (.ref q0), some (.int m1)]) (st' := [.ref q0]) rfl ?_
    refine Rn.hp hT rfl rfl (gR_hp (rp_gR hR (T12_o t0) rfl)) ?_
    refine Rn.n hT 1 (pc' := 13) (L' := [some (.ref q0), some (.int m1)]) (st' := [.int m1, .ref (q0 + 7)]) rfl ?_
    obtain ⟨v_3310, e_3310, e⟩ := Option.bind_eq_some_iff.mp e
    obtain ⟨z_3310, g_3310, p_3310⟩ := rp_aI hR (T12_7 t0) (T12_7l t0) p1 e_3310
    refine Rn.hp hT rfl rfl (aI_hp g_3310) ?_
    refine Rn.n hT 1 (pc' := 18) (L' := [some (.ref q0), some (.int m1)]) (st' := [.int z_3310]) rfl ?_
    exact Rn.weak (ll_n (ll_n ll_e)) (RX12_sleeps_b18 hd hR p_3310 hq e)
set_option maxRecDepth 10000 in
theorem hX12_mismatch : iv_Tb 270 tX12_mismatch := iv_tb_of (m := mX12_mismatch) rfl
set_option maxRecDepth 10000 in
theorem gX12_mismatch : PG.2 270 = some mX12_mismatch := iv_pi_of (t := tX12_mismatch) rfl (by decide)
def FX12_mismatch_b19 (N : Nat) (s : iv_M)   : Option (Int × iv_M) := (some ((-1), s))
set_option maxRecDepth 10000 in
set_option maxHeartbeats 4000000 in
theorem RX12_mismatch_b19 {d N nc Ls : Nat} {Xs : Nat → Int32} (hd : 6 ≤ d) {h : iv_H} {s : iv_M} (hR : Rep nc Ls Xs h s)   {r : Int × iv_M} {Q : Option Value → iv_H → Prop} (hq : ∀ (z : Int32) (h1 : iv_H), z.toInt = r.1 → Rep nc Ls Xs h1 r.2 → Q (some (.int z)) h1) (e : FX12_mismatch_b19 N s   = some r) : Rn d 270 (some .int) 19 [none, none, none] [] h Q := by
  have hT := hX12_mismatch
  unfold FX12_mismatch_b19 at e
  refine Rn.n hT 1 (pc' := 20) (L' := [none, none, none]) (st' := [.int (-1 : Int32)]) rfl ?_
  obtain rfl := Option.some.inj e
  exact Rn.ret hT rfl rfl rfl (hq (-1 : Int32) h L32_m1 hR)
def FX12_mismatch_b48 (N : Nat) (s : iv_M)  (xs0 : Int) : Option (Int × iv_M) := (some (xs0, s))
set_option maxRecDepth 10000 in
set_option maxHeartbeats 4000000 in
theorem RX12_mismatch_b48 {d N nc Ls : Nat} {Xs : Nat → Int32} (hd : 6 ≤ d) {h : iv_H} {s : iv_M} (hR : Rep nc Ls Xs h s)  {ms0 : Int32} {xs0 : Int} (ps0 : ms0.toInt = xs0) {r : Int × iv_M} {Q : Option Value → iv_H → Prop} (hq : ∀ (z : Int32) (h1 : iv_H), z.toInt = r.1 → Rep nc Ls Xs h1 r.2 → Q (some (.int z)) h1) (e : FX12_mismatch_b48 N s  xs0 = some r) : Rn d 270 (some .int) 48 [none, none, none] [.int ms0] h Q := by
  have hT := hX12_mismatch
  unfold FX12_mismatch_b48 at e
  obtain rfl := Option.some.inj e
  exact Rn.ret hT rfl rfl rfl (hq ms0 h ps0 hR)
def FX12_mismatch_b47 (N : Nat) (s : iv_M) (x2 : Int)  : Option (Int × iv_M) := (FX12_mismatch_b48 N s x2)
set_option maxRecDepth 10000 in
set_option maxHeartbeats 4000000 in
theorem RX12_mismatch_b47 {d N nc Ls : Nat} {Xs : Nat → Int32} (hd : 6 ≤ d) {h : iv_H} {s : iv_M} (hR : Rep nc Ls Xs h s) {m2 : Int32} {x2 : Int} (p2 : m2.toInt = x2)  {r : Int × iv_M} {Q : Option Value → iv_H → Prop} (hq : ∀ (z : Int32) (h1 : iv_H), z.toInt = r.1 → Rep nc Ls Xs h1 r.2 → Q (some (.int z)) h1) (e : FX12_mismatch_b47 N s x2  = some r) : Rn d 270 (some .int) 47 [none, none, some (.int m2)] [] h Q := by
  have hT := hX12_mismatch
  unfold FX12_mismatch_b47 at e
  refine Rn.n hT 1 (pc' := 48) (L' := [none, none, some (.int m2)]) (st' := [.int m2]) rfl ?_
  exact Rn.weak (ll_n (ll_n (ll_n ll_e))) (RX12_mismatch_b48 hd hR p2 hq e)
def FX12_mismatch_b34 (N : Nat) (s : iv_M) (x1 : Int) (x2 : Int)  : Option (Int × iv_M) := (if x2 = 0 then (if x1 ≤ 0 then (FX12_mismatch_b47 N s x2) else (FX12_mismatch_b48 N s (-2))) else (FX12_mismatch_b47 N s x2))
set_option maxRecDepth 10000 in
set_option maxHeartbeats 4000000 in
theorem RX12_mismatch_b34 {d N nc Ls : Nat} {Xs : Nat → Int32} (hd : 6 ≤ d) {h : iv_H} {s : iv_M} (hR : Rep nc Ls Xs h s) {m1 : Int32} {x1 : Int} (p1 : m1.toInt = x1) {m2 : Int32} {x2 : Int} (p2 : m2.toInt = x2)  {r : Int × iv_M} {Q : Option Value → iv_H → Prop} (hq : ∀ (z : Int32) (h1 : iv_H), z.toInt = r.1 → Rep nc Ls Xs h1 r.2 → Q (some (.int z)) h1) (e : FX12_mismatch_b34 N s x1 x2  = some r) : Rn d 270 (some .int) 34 [none, some (.int m1), some (.int m2)] [] h Q := by
  have hT := hX12_mismatch
  unfold FX12_mismatch_b34 at e
  refine Rn.n hT 1 (pc' := 35) (L' := [none, some (.int m1), some (.int m2)]) (st' := [.int m2]) rfl ?_
  by_cases c_3324 : x2 = 0
  · rw [if_pos c_3324] at e
    refine Rn.bf hT rfl rfl rfl (decide_eq_false (fun z => z ((ti_e p2 L32_0).mpr c_3324))) ?_
    refine Rn.n hT 1 (pc' := 39) (L' := [none, some (.int m1), some (.int m2)]) (st' := [.int m1]) rfl ?_
    by_cases c_3325 : x1 ≤ 0
    · rw [if_pos c_3325] at e
      refine Rn.bt hT rfl rfl rfl (decide_eq_true ((ti_le p1 L32_0).mpr c_3325)) ?_
      exact Rn.weak (ll_n (ll_n (ll_s ll_e))) (RX12_mismatch_b47 hd hR p2 hq e)
    · rw [if_neg c_3325] at e
      refine Rn.bf hT rfl rfl rfl (decide_eq_false (fun z => c_3325 ((ti_le p1 L32_0).mp z))) ?_
      refine Rn.n hT 2 (pc' := 48) (L' := [none, some (.int m1), some (.int m2)]) (st' := [.int (-2 : Int32)]) rfl ?_
      exact Rn.weak (ll_n (ll_n (ll_n ll_e))) (RX12_mismatch_b48 hd hR L32_m2 hq e)
  · rw [if_neg c_3324] at e
    refine Rn.bt hT rfl rfl rfl (decide_eq_true (fun z => c_3324 ((ti_e p2 L32_0).mp z))) ?_
    exact Rn.weak (ll_n (ll_n (ll_s ll_e))) (RX12_mismatch_b47 hd hR p2 hq e)
def FX12_mismatch_b81 (N : Nat) (s : iv_M)  (xs0 : Int) : Option (Int × iv_M) := (some (xs0, s))
set_option maxRecDepth 10000 in
set_option maxHeartbeats 4000000 in
theorem RX12_mismatch_b81 {d N nc Ls : Nat} {Xs : Nat → Int32} (hd : 6 ≤ d) {h : iv_H} {s : iv_M} (hR : Rep nc Ls Xs h s)  {ms0 : Int32} {xs0 : Int} (ps0 : ms0.toInt = xs0) {r : Int × iv_M} {Q : Option Value → iv_H → Prop} (hq : ∀ (z : Int32) (h1 : iv_H), z.toInt = r.1 → Rep nc Ls Xs h1 r.2 → Q (some (.int z)) h1) (e : FX12_mismatch_b81 N s  xs0 = some r) : Rn d 270 (some .int) 81 [none, none, none] [.int ms0] h Q := by
  have hT := hX12_mismatch
  unfold FX12_mismatch_b81 at e
  obtain rfl := Option.some.inj e
  exact Rn.ret hT rfl rfl rfl (hq ms0 h ps0 hR)
def FX12_mismatch (N : Nat) (s : iv_M) (q0 : Nat) (x1 : Int) : Option (Int × iv_M) := ((FX12_isPalace N s q0).bind fun v_3311 => (if v_3311 = 0 then (FX12_mismatch_b19 N s) else ((FX12_in N s x1 0 3).bind fun v_3313 => (if v_3313 = 0 then (FX12_mismatch_b19 N s) else ((FX12_mismatches N s q0).bind fun r_3315 => (fun (v_3315 : Int) (s_3316 : iv_M) => (if x1 = 0 then (FX12_mismatch_b34 N s_3316 x1 v_3315) else (if v_3315 = 0 then (FX12_mismatch_b34 N s_3316 x1 v_3315) else (if x1 = 1 then (FX12_mismatch_b81 N s_3316 (Int.tmod (s_3316 q0 26) 4)) else (if x1 = 2 then (FX12_mismatch_b81 N s_3316 (dv32 (s_3316 q0 26) 4)) else (FX12_mismatch_b81 N s_3316 (s_3316 q0 27))))))) r_3315.1 r_3315.2)))))
set_option maxRecDepth 10000 in
set_option maxHeartbeats 4000000 in
theorem RX12_mismatch {d N nc Ls : Nat} {Xs : Nat → Int32} (hd : 7 ≤ d) {h : iv_H} {s : iv_M} (hR : Rep nc Ls Xs h s) {q0 : Nat} (t0 : T12 nc q0) {m1 : Int32} {x1 : Int} (p1 : m1.toInt = x1) {r : Int × iv_M} {Q : Option Value → iv_H → Prop} (e : FX12_mismatch N s q0 x1 = some r) (hq : ∀ (z : Int32) (h1 : iv_H), z.toInt = r.1 → Rep nc Ls Xs h1 r.2 → Q (some (.int z)) h1) : Cl d 270 [.ref q0, .int m1] h Q := by
  obtain ⟨d, rfl⟩ : ∃ k, d = k + 1 := ⟨d - 1, by omega⟩
  have hd : 6 ≤ d := by omega
  have hT := hX12_mismatch
  unfold FX12_mismatch at e
  refine Cl.into (by decide) gX12_mismatch rfl ?_
  show Rn d 270 (some .int) 0 [some (.ref q0), some (.int m1), none] [] h Q
  refine Rn.n hT 1 (pc' := 1) (L' := [some (.ref q0), some (.int m1), none]) (st' := [.ref q0]) rfl ?_
  obtain ⟨v_3311, e_3311, e⟩ := Option.bind_eq_some_iff.mp e
  refine Rn.call hT rfl rfl rfl (Nat.le_of_ble_eq_true rfl) (rcv_v gX12_isPalace (by omega) (rp_ck hR (T12_o t0))) (RX12_isPalace (by omega) hR t0 e_3311 (fun z_3311 p_3311 => ?_))
  show Rn d _ _ 4 [some (.ref q0), some (.int m1), none] [.int z_3311] h Q
  by_cases c_3312 : v_3311 = 0
  · rw [if_pos c_3312] at e
    refine Rn.bt hT rfl rfl rfl (decide_eq_true ((ti_e p_3311 L32_0).mpr c_3312)) ?_
    exact Rn.weak (ll_n (ll_n (ll_n ll_e))) (RX12_mismatch_b19 hd hR hq e)
  · rw [if_neg c_3312] at e
    refine Rn.bf hT rfl rfl rfl (decide_eq_false (fun z => c_3312 ((ti_e p_3311 L32_0).mp z))) ?_
    refine Rn.n hT 4 (pc' := 13) (L' := [some (.ref q0), some (.int m1), none]) (st' := [.long (3 : Int64), .long (0 : Int64), .long ((m1).toInt64)]) rfl ?_
    obtain ⟨v_3313, e_3313, e⟩ := Option.bind_eq_some_iff.mp e
    refine Rn.call hT rfl rfl rfl (Nat.le_of_ble_eq_true rfl) rfl (RX12_in (by omega) hR (ti_j p1) L64_0 L64_3 e_3313 (fun z_3313 p_3313 => ?_))
    show Rn d _ _ 16 [some (.ref q0), some (.int m1), none] [.int z_3313] h Q
    by_cases c_3314 : v_3313 = 0
    · rw [if_pos c_3314] at e
      refine Rn.bf hT rfl rfl rfl (decide_eq_false (fun z => z ((ti_e p_3313 L32_0).mpr c_3314))) ?_
      exact Rn.weak (ll_n (ll_n (ll_n ll_e))) (RX12_mismatch_b19 hd hR hq e)
    · rw [if_neg c_3314] at e
      refine Rn.bt hT rfl rfl rfl (decide_eq_true (fun z => c_3314 ((ti_e p_3313 L32_0).mp z))) ?_
      refine Rn.n hT 1 (pc' := 22) (L' := [some (.ref q0), some (.int m1), none]) (st' := [.ref q0]) rfl ?_
      obtain ⟨⟨v_3315, s_3316⟩, e_3315, e⟩ := Option.bind_eq_some_iff.mp e
      try dsimp only at e
      try dsimp only at e
      refine Rn.call hT rfl rfl rfl (Nat.le_of_ble_eq_true rfl) (rcv_v gX12_mismatches (by omega) (rp_ck hR (T12_o t0))) (RX12_mismatches (by omega) hR t0 e_3315 (fun z_3315 h_3316 p_3315 R_3316 => ?_))
      show Rn d _ _ 25 [some (.ref q0), some (.int m1), none] [.int z_3315] h_3316 Q
      refine Rn.n hT 2 (pc' := 27) (L' := [some (.ref q0), some (.int m1), some (.int z_3315)]) (st' := [.int m1]) rfl ?_
      by_cases c_3317 : x1 = 0
      · rw [if_pos c_3317] at e
        refine Rn.bt hT rfl rfl rfl (decide_eq_true ((ti_e p1 L32_0).mpr c_3317)) ?_
        exact Rn.weak (ll_n (ll_s (ll_s ll_e))) (RX12_mismatch_b34 hd R_3316 p1 p_3315 hq e)
      · rw [if_neg c_3317] at e
        refine Rn.bf hT rfl rfl rfl (decide_eq_false (fun z => c_3317 ((ti_e p1 L32_0).mp z))) ?_
        refine Rn.n hT 1 (pc' := 31) (L' := [some (.ref q0), some (.int m1), some (.int z_3315)]) (st' := [.int z_3315]) rfl ?_
        by_cases c_3318 : v_3315 = 0
        · rw [if_pos c_3318] at e
          refine Rn.bf hT rfl rfl rfl (decide_eq_false (fun z => z ((ti_e p_3315 L32_0).mpr c_3318))) ?_
          exact Rn.weak (ll_n (ll_s (ll_s ll_e))) (RX12_mismatch_b34 hd R_3316 p1 p_3315 hq e)
        · rw [if_neg c_3318] at e
          refine Rn.bt hT rfl rfl rfl (decide_eq_true (fun z => c_3318 ((ti_e p_3315 L32_0).mp z))) ?_
          refine Rn.n hT 2 (pc' := 51) (L' := [some (.ref q0), some (.int m1), some (.int z_3315)]) (st' := [.int (1 : Int32), .int m1]) rfl ?_
          by_cases c_3319 : x1 = 1
          · rw [if_pos c_3319] at e
            refine Rn.bf hT rfl rfl rfl (decide_eq_false (fun z => z ((ti_e p1 L32_1).mpr c_3319))) ?_
            refine Rn.n hT 1 (pc' := 55) (L' := [some (.ref q0), some (.int m1), some (.int z_3315)]) (st' := [.ref q0]) rfl ?_
            obtain ⟨z_3323, g_3323, p_3323⟩ : ∃ z : Int32, gI h_3316 12 26 q0 = some z ∧ z.toInt = s_3316 q0 26 := rp_gI (k := 26) R_3316 (T12_o t0) rfl
            refine Rn.hp hT rfl rfl (gI_hp g_3323) ?_
            refine Rn.n hT 3 (pc' := 81) (L' := [some (.ref q0), some (.int m1), some (.int z_3315)]) (st' := [.int (z_3323 - z_3323 / (4 : Int32) * (4 : Int32))]) rfl ?_
            exact Rn.weak (ll_n (ll_n (ll_n ll_e))) (RX12_mismatch_b81 hd R_3316 (ti_rem p_3323 L32_4) hq e)
          · rw [if_neg c_3319] at e
            refine Rn.bt hT rfl rfl rfl (decide_eq_true (fun z => c_3319 ((ti_e p1 L32_1).mp z))) ?_
            refine Rn.n hT 2 (pc' := 65) (L' := [some (.ref q0), some (.int m1), some (.int z_3315)]) (st' := [.int (2 : Int32), .int m1]) rfl ?_
            by_cases c_3320 : x1 = 2
            · rw [if_pos c_3320] at e
              refine Rn.bf hT rfl rfl rfl (decide_eq_false (fun z => z ((ti_e p1 L32_2).mpr c_3320))) ?_
              refine Rn.n hT 1 (pc' := 69) (L' := [some (.ref q0), some (.int m1), some (.int z_3315)]) (st' := [.ref q0]) rfl ?_
              obtain ⟨z_3322, g_3322, p_3322⟩ : ∃ z : Int32, gI h_3316 12 26 q0 = some z ∧ z.toInt = s_3316 q0 26 := rp_gI (k := 26) R_3316 (T12_o t0) rfl
              refine Rn.hp hT rfl rfl (gI_hp g_3322) ?_
              refine Rn.n hT 3 (pc' := 81) (L' := [some (.ref q0), some (.int m1), some (.int z_3315)]) (st' := [.int (z_3322 / (4 : Int32))]) rfl ?_
              exact Rn.weak (ll_n (ll_n (ll_n ll_e))) (RX12_mismatch_b81 hd R_3316 (ti_div p_3322 L32_4) hq e)
            · rw [if_neg c_3320] at e
              refine Rn.bt hT rfl rfl rfl (decide_eq_true (fun z => c_3320 ((ti_e p1 L32_2).mp z))) ?_
              refine Rn.n hT 1 (pc' := 78) (L' := [some (.ref q0), some (.int m1), some (.int z_3315)]) (st' := [.ref q0]) rfl ?_
              obtain ⟨z_3321, g_3321, p_3321⟩ : ∃ z : Int32, gI h_3316 12 27 q0 = some z ∧ z.toInt = s_3316 q0 27 := rp_gI (k := 27) R_3316 (T12_o t0) rfl
              refine Rn.hp hT rfl rfl (gI_hp g_3321) ?_
              exact Rn.weak (ll_n (ll_n (ll_n ll_e))) (RX12_mismatch_b81 hd R_3316 p_3321 hq e)
set_option maxRecDepth 10000 in
theorem hX12_can : iv_Tb 271 tX12_can := iv_tb_of (m := mX12_can) rfl
set_option maxRecDepth 10000 in
theorem gX12_can : PG.2 271 = some mX12_can := iv_pi_of (t := tX12_can) rfl (by decide)
def FX12_can_b15 (N : Nat) (s : iv_M)  (xs0 : Int) : Option (Int × iv_M) := (some (xs0, s))
set_option maxRecDepth 10000 in
set_option maxHeartbeats 4000000 in
theorem RX12_can_b15 {d N nc Ls : Nat} {Xs : Nat → Int32} (hd : 9 ≤ d) {h : iv_H} {s : iv_M} (hR : Rep nc Ls Xs h s)  {ms0 : Int32} {xs0 : Int} (ps0 : ms0.toInt = xs0) {r : Int × iv_M} {Q : Option Value → iv_H → Prop} (hq : ∀ (z : Int32) (h1 : iv_H), z.toInt = r.1 → Rep nc Ls Xs h1 r.2 → Q (some (.int z)) h1) (e : FX12_can_b15 N s  xs0 = some r) : Rn d 271 (some .int) 15 [none] [.int ms0] h Q := by
  have hT := hX12_can
  unfold FX12_can_b15 at e
  obtain rfl := Option.some.inj e
  exact Rn.ret hT rfl rfl rfl (hq ms0 h ps0 hR)
def FX12_can (N : Nat) (s : iv_M) (q0 : Nat) : Option (Int × iv_M) := ((FX12_isPalace N s q0).bind fun v_3326 => (if v_3326 = 0 then (FX12_can_b15 N s (-1)) else ((FX12_canNow N s q0).bind fun r_3328 => (fun (v_3328 : Int) (s_3329 : iv_M) => (FX12_can_b15 N s_3329 v_3328)) r_3328.1 r_3328.2)))
set_option maxRecDepth 10000 in
set_option maxHeartbeats 4000000 in
theorem RX12_can {d N nc Ls : Nat} {Xs : Nat → Int32} (hd : 10 ≤ d) {h : iv_H} {s : iv_M} (hR : Rep nc Ls Xs h s) {q0 : Nat} (t0 : T12 nc q0) {r : Int × iv_M} {Q : Option Value → iv_H → Prop} (e : FX12_can N s q0 = some r) (hq : ∀ (z : Int32) (h1 : iv_H), z.toInt = r.1 → Rep nc Ls Xs h1 r.2 → Q (some (.int z)) h1) : Cl d 271 [.ref q0] h Q := by
  obtain ⟨d, rfl⟩ : ∃ k, d = k + 1 := ⟨d - 1, by omega⟩
  have hd : 9 ≤ d := by omega
  have hT := hX12_can
  unfold FX12_can at e
  refine Cl.into (by decide) gX12_can rfl ?_
  show Rn d 271 (some .int) 0 [some (.ref q0)] [] h Q
  refine Rn.n hT 1 (pc' := 1) (L' := [some (.ref q0)]) (st' := [.ref q0]) rfl ?_
  obtain ⟨v_3326, e_3326, e⟩ := Option.bind_eq_some_iff.mp e
  refine Rn.call hT rfl rfl rfl (Nat.le_of_ble_eq_true rfl) (rcv_v gX12_isPalace (by omega) (rp_ck hR (T12_o t0))) (RX12_isPalace (by omega) hR t0 e_3326 (fun z_3326 p_3326 => ?_))
  show Rn d _ _ 4 [some (.ref q0)] [.int z_3326] h Q
  by_cases c_3327 : v_3326 = 0
  · rw [if_pos c_3327] at e
    refine Rn.bt hT rfl rfl rfl (decide_eq_true ((ti_e p_3326 L32_0).mpr c_3327)) ?_
    refine Rn.n hT 1 (pc' := 15) (L' := [some (.ref q0)]) (st' := [.int (-1 : Int32)]) rfl ?_
    exact Rn.weak (ll_n ll_e) (RX12_can_b15 hd hR L32_m1 hq e)
  · rw [if_neg c_3327] at e
    refine Rn.bf hT rfl rfl rfl (decide_eq_false (fun z => c_3327 ((ti_e p_3326 L32_0).mp z))) ?_
    refine Rn.n hT 1 (pc' := 8) (L' := [some (.ref q0)]) (st' := [.ref q0]) rfl ?_
    obtain ⟨⟨v_3328, s_3329⟩, e_3328, e⟩ := Option.bind_eq_some_iff.mp e
    try dsimp only at e
    try dsimp only at e
    refine Rn.call hT rfl rfl rfl (Nat.le_of_ble_eq_true rfl) (rcv_v gX12_canNow (by omega) (rp_ck hR (T12_o t0))) (RX12_canNow (by omega) hR t0 e_3328 (fun z_3328 h_3329 p_3328 R_3329 => ?_))
    show Rn d _ _ 11 [some (.ref q0)] [.int z_3328] h_3329 Q
    refine Rn.n hT 1 (pc' := 15) (L' := [some (.ref q0)]) (st' := [.int z_3328]) rfl ?_
    exact Rn.weak (ll_n ll_e) (RX12_can_b15 hd R_3329 p_3328 hq e)
set_option maxRecDepth 10000 in
theorem hX12_choice : iv_Tb 272 tX12_choice := iv_tb_of (m := mX12_choice) rfl
set_option maxRecDepth 10000 in
theorem gX12_choice : PG.2 272 = some mX12_choice := iv_pi_of (t := tX12_choice) rfl (by decide)
def FX12_choice_b23 (N : Nat) (s : iv_M)   : Option (Int × iv_M) := (some ((-1), s))
set_option maxRecDepth 10000 in
set_option maxHeartbeats 4000000 in
theorem RX12_choice_b23 {d N nc Ls : Nat} {Xs : Nat → Int32} (hd : 9 ≤ d) {h : iv_H} {s : iv_M} (hR : Rep nc Ls Xs h s)   {r : Int × iv_M} {Q : Option Value → iv_H → Prop} (hq : ∀ (z : Int32) (h1 : iv_H), z.toInt = r.1 → Rep nc Ls Xs h1 r.2 → Q (some (.int z)) h1) (e : FX12_choice_b23 N s   = some r) : Rn d 272 (some .int) 23 [none, none, none, none] [] h Q := by
  have hT := hX12_choice
  unfold FX12_choice_b23 at e
  refine Rn.n hT 1 (pc' := 24) (L' := [none, none, none, none]) (st' := [.int (-1 : Int32)]) rfl ?_
  obtain rfl := Option.some.inj e
  exact Rn.ret hT rfl rfl rfl (hq (-1 : Int32) h L32_m1 hR)
def FX12_choice_b55 (N : Nat) (s : iv_M)  (xs0 : Int) : Option (Int × iv_M) := (some (xs0, s))
set_option maxRecDepth 10000 in
set_option maxHeartbeats 4000000 in
theorem RX12_choice_b55 {d N nc Ls : Nat} {Xs : Nat → Int32} (hd : 9 ≤ d) {h : iv_H} {s : iv_M} (hR : Rep nc Ls Xs h s)  {ms0 : Int32} {xs0 : Int} (ps0 : ms0.toInt = xs0) {r : Int × iv_M} {Q : Option Value → iv_H → Prop} (hq : ∀ (z : Int32) (h1 : iv_H), z.toInt = r.1 → Rep nc Ls Xs h1 r.2 → Q (some (.int z)) h1) (e : FX12_choice_b55 N s  xs0 = some r) : Rn d 272 (some .int) 55 [none, none, none, none] [.int ms0] h Q := by
  have hT := hX12_choice
  unfold FX12_choice_b55 at e
  obtain rfl := Option.some.inj e
  exact Rn.ret hT rfl rfl rfl (hq ms0 h ps0 hR)
def FX12_choice (N : Nat) (s : iv_M) (q0 : Nat) (x1 : Int) (x2 : Int) : Option (Int × iv_M) := ((FX12_isPalace N s q0).bind fun v_3330 => (if v_3330 = 0 then (FX12_choice_b23 N s) else (if x1 < 0 then (FX12_choice_b23 N s) else ((FX12_in N s x2 0 3).bind fun v_3333 => (if v_3333 = 0 then (FX12_choice_b23 N s) else ((FX12_codeAt N s q0 x1).bind fun r_3335 => (fun (v_3335 : Int) (s_3336 : iv_M) => (if v_3335 = (-1) then (some ((-1), s_3336)) else (if x2 = 3 then (FX12_choice_b55 N s_3336 (s_3336 q0 48)) else ((FX12_part N s_3336 v_3335 x2).bind fun v_3339 => (FX12_choice_b55 N s_3336 v_3339))))) r_3335.1 r_3335.2))))))
set_option maxRecDepth 10000 in
set_option maxHeartbeats 4000000 in
theorem RX12_choice {d N nc Ls : Nat} {Xs : Nat → Int32} (hd : 10 ≤ d) {h : iv_H} {s : iv_M} (hR : Rep nc Ls Xs h s) {q0 : Nat} (t0 : T12 nc q0) {m1 : Int32} {x1 : Int} (p1 : m1.toInt = x1) {m2 : Int32} {x2 : Int} (p2 : m2.toInt = x2) {r : Int × iv_M} {Q : Option Value → iv_H → Prop} (e : FX12_choice N s q0 x1 x2 = some r) (hq : ∀ (z : Int32) (h1 : iv_H), z.toInt = r.1 → Rep nc Ls Xs h1 r.2 → Q (some (.int z)) h1) : Cl d 272 [.ref q0, .int m1, .int m2] h Q := by
  obtain ⟨d, rfl⟩ : ∃ k, d = k + 1 := ⟨d - 1, by omega⟩
  have hd : 9 ≤ d := by omega
  have hT := hX12_choice
  unfold FX12_choice at e
  refine Cl.into (by decide) gX12_choice rfl ?_
  show Rn d 272 (some .int) 0 [some (.ref q0), some (.int m1), some (.int m2), none] [] h Q
  refine Rn.n hT 1 (pc' := 1) (L' := [some (.ref q0), some (.int m1), some (.int m2), none]) (st' := [.ref q0]) rfl ?_
  obtain ⟨v_3330, e_3330, e⟩ := Option.bind_eq_some_iff.mp e
  refine Rn.call hT rfl rfl rfl (Nat.le_of_ble_eq_true rfl) (rcv_v gX12_isPalace (by omega) (rp_ck hR (T12_o t0))) (RX12_isPalace (by omega) hR t0 e_3330 (fun z_3330 p_3330 => ?_))
  show Rn d _ _ 4 [some (.ref q0), some (.int m1), some (.int m2), none] [.int z_3330] h Q
  by_cases c_3331 : v_3330 = 0
  · rw [if_pos c_3331] at e
    refine Rn.bt hT rfl rfl rfl (decide_eq_true ((ti_e p_3330 L32_0).mpr c_3331)) ?_
    exact Rn.weak (ll_n (ll_n (ll_n (ll_n ll_e)))) (RX12_choice_b23 hd hR hq e)
  · rw [if_neg c_3331] at e
    refine Rn.bf hT rfl rfl rfl (decide_eq_false (fun z => c_3331 ((ti_e p_3330 L32_0).mp z))) ?_
    refine Rn.n hT 1 (pc' := 8) (L' := [some (.ref q0), some (.int m1), some (.int m2), none]) (st' := [.int m1]) rfl ?_
    by_cases c_3332 : x1 < 0
    · rw [if_pos c_3332] at e
      refine Rn.bt hT rfl rfl rfl (decide_eq_true ((ti_l p1 L32_0).mpr c_3332)) ?_
      exact Rn.weak (ll_n (ll_n (ll_n (ll_n ll_e)))) (RX12_choice_b23 hd hR hq e)
    · rw [if_neg c_3332] at e
      refine Rn.bf hT rfl rfl rfl (decide_eq_false (fun z => c_3332 ((ti_l p1 L32_0).mp z))) ?_
      refine Rn.n hT 4 (pc' := 17) (L' := [some (.ref q0), some (.int m1), some (.int m2), none]) (st' := [.long (3 : Int64), .long (0 : Int64), .long ((m2).toInt64)]) rfl ?_
      obtain ⟨v_3333, e_3333, e⟩ := Option.bind_eq_some_iff.mp e
      refine Rn.call hT rfl rfl rfl (Nat.le_of_ble_eq_true rfl) rfl (RX12_in (by omega) hR (ti_j p2) L64_0 L64_3 e_3333 (fun z_3333 p_3333 => ?_))
      show Rn d _ _ 20 [some (.ref q0), some (.int m1), some (.int m2), none] [.int z_3333] h Q
      by_cases c_3334 : v_3333 = 0
      · rw [if_pos c_3334] at e
        refine Rn.bf hT rfl rfl rfl (decide_eq_false (fun z => z ((ti_e p_3333 L32_0).mpr c_3334))) ?_
        exact Rn.weak (ll_n (ll_n (ll_n (ll_n ll_e)))) (RX12_choice_b23 hd hR hq e)
      · rw [if_neg c_3334] at e
        refine Rn.bt hT rfl rfl rfl (decide_eq_true (fun z => c_3334 ((ti_e p_3333 L32_0).mp z))) ?_
        refine Rn.n hT 2 (pc' := 27) (L' := [some (.ref q0), some (.int m1), some (.int m2), none]) (st' := [.int m1, .ref q0]) rfl ?_
        obtain ⟨⟨v_3335, s_3336⟩, e_3335, e⟩ := Option.bind_eq_some_iff.mp e
        try dsimp only at e
        try dsimp only at e
        refine Rn.call hT rfl rfl rfl (Nat.le_of_ble_eq_true rfl) (rcv_v gX12_codeAt (by omega) (rp_ck hR (T12_o t0))) (RX12_codeAt (by omega) hR t0 p1 e_3335 (fun z_3335 h_3336 p_3335 R_3336 => ?_))
        show Rn d _ _ 30 [some (.ref q0), some (.int m1), some (.int m2), none] [.int z_3335] h_3336 Q
        refine Rn.n hT 3 (pc' := 33) (L' := [some (.ref q0), some (.int m1), some (.int m2), some (.int z_3335)]) (st' := [.int (-1 : Int32), .int z_3335]) rfl ?_
        by_cases c_3337 : v_3335 = (-1)
        · rw [if_pos c_3337] at e
          refine Rn.bf hT rfl rfl rfl (decide_eq_false (fun z => z ((ti_e p_3335 L32_m1).mpr c_3337))) ?_
          refine Rn.n hT 1 (pc' := 37) (L' := [some (.ref q0), some (.int m1), some (.int m2), some (.int z_3335)]) (st' := [.int (-1 : Int32)]) rfl ?_
          obtain rfl := Option.some.inj e
          exact Rn.ret hT rfl rfl rfl (hq (-1 : Int32) h_3336 L32_m1 R_3336)
        · rw [if_neg c_3337] at e
          refine Rn.bt hT rfl rfl rfl (decide_eq_true (fun z => c_3337 ((ti_e p_3335 L32_m1).mp z))) ?_
          refine Rn.n hT 2 (pc' := 40) (L' := [some (.ref q0), some (.int m1), some (.int m2), some (.int z_3335)]) (st' := [.int (3 : Int32), .int m2]) rfl ?_
          by_cases c_3338 : x2 = 3
          · rw [if_pos c_3338] at e
            refine Rn.bf hT rfl rfl rfl (decide_eq_false (fun z => z ((ti_e p2 L32_3).mpr c_3338))) ?_
            refine Rn.n hT 1 (pc' := 44) (L' := [some (.ref q0), some (.int m1), some (.int m2), some (.int z_3335)]) (st' := [.ref q0]) rfl ?_
            obtain ⟨z_3340, g_3340, p_3340⟩ : ∃ z : Int32, gI h_3336 12 48 q0 = some z ∧ z.toInt = s_3336 q0 48 := rp_gI (k := 48) R_3336 (T12_o t0) rfl
            refine Rn.hp hT rfl rfl (gI_hp g_3340) ?_
            refine Rn.n hT 1 (pc' := 55) (L' := [some (.ref q0), some (.int m1), some (.int m2), some (.int z_3335)]) (st' := [.int z_3340]) rfl ?_
            exact Rn.weak (ll_n (ll_n (ll_n (ll_n ll_e)))) (RX12_choice_b55 hd R_3336 p_3340 hq e)
          · rw [if_neg c_3338] at e
            refine Rn.bt hT rfl rfl rfl (decide_eq_true (fun z => c_3338 ((ti_e p2 L32_3).mp z))) ?_
            refine Rn.n hT 2 (pc' := 52) (L' := [some (.ref q0), some (.int m1), some (.int m2), some (.int z_3335)]) (st' := [.int m2, .int z_3335]) rfl ?_
            obtain ⟨v_3339, e_3339, e⟩ := Option.bind_eq_some_iff.mp e
            refine Rn.call hT rfl rfl rfl (Nat.le_of_ble_eq_true rfl) rfl (RX12_part (by omega) R_3336 p_3335 p2 e_3339 (fun z_3339 p_3339 => ?_))
            show Rn d _ _ 55 [some (.ref q0), some (.int m1), some (.int m2), some (.int z_3335)] [.int z_3339] h_3336 Q
            exact Rn.weak (ll_n (ll_n (ll_n (ll_n ll_e)))) (RX12_choice_b55 hd R_3336 p_3339 hq e)
set_option maxRecDepth 10000 in
theorem hX12_brick : iv_Tb 273 tX12_brick := iv_tb_of (m := mX12_brick) rfl
set_option maxRecDepth 10000 in
theorem gX12_brick : PG.2 273 = some mX12_brick := iv_pi_of (t := tX12_brick) rfl (by decide)
def FX12_brick_b42 (N : Nat) (s : iv_M)   : Option (Int × iv_M) := (some ((-2), s))
set_option maxRecDepth 10000 in
set_option maxHeartbeats 4000000 in
theorem RX12_brick_b42 {d N nc Ls : Nat} {Xs : Nat → Int32} (hd : 2 ≤ d) {h : iv_H} {s : iv_M} (hR : Rep nc Ls Xs h s)   {r : Int × iv_M} {Q : Option Value → iv_H → Prop} (hq : ∀ (z : Int32) (h1 : iv_H), z.toInt = r.1 → Rep nc Ls Xs h1 r.2 → Q (some (.int z)) h1) (e : FX12_brick_b42 N s   = some r) : Rn d 273 (some .int) 42 [none, none, none, none, none] [] h Q := by
  have hT := hX12_brick
  unfold FX12_brick_b42 at e
  refine Rn.n hT 1 (pc' := 44) (L' := [none, none, none, none, none]) (st' := [.int (-2 : Int32)]) rfl ?_
  obtain rfl := Option.some.inj e
  exact Rn.ret hT rfl rfl rfl (hq (-2 : Int32) h L32_m2 hR)
def FX12_brick (N : Nat) (s : iv_M) (q0 : Nat) (x1 : Int) (x2 : Int) (x3 : Int) : Option (Int × iv_M) := ((FX12_isRoom N s q0 x1).bind fun v_3341 => (if v_3341 = 0 then (FX12_brick_b42 N s) else ((FX12_in N s x2 0 3).bind fun v_3343 => (if v_3343 = 0 then (FX12_brick_b42 N s) else ((FX12_in N s x3 0 6).bind fun v_3345 => (if v_3345 = 0 then (FX12_brick_b42 N s) else ((FX12_sideOf N s q0 x1 x2).bind fun v_3347 => (if v_3347 = x3 then (FX12_brick_b42 N s) else ((FX12_sideOf N s q0 x1 x2).bind fun v_3349 => ((FX12_spotOf N s q0 x1 x2).bind fun v_3350 => ((wr s (q0 + 2) 48 v_3350 x3).bind fun s_3351 => ((wr s_3351 (q0 + 1) 14 7 0).bind fun s_3353 => (some (v_3349, s_3353))))))))))))))
set_option maxRecDepth 10000 in
set_option maxHeartbeats 4000000 in
theorem RX12_brick {d N nc Ls : Nat} {Xs : Nat → Int32} (hd : 3 ≤ d) {h : iv_H} {s : iv_M} (hR : Rep nc Ls Xs h s) {q0 : Nat} (t0 : T12 nc q0) {m1 : Int32} {x1 : Int} (p1 : m1.toInt = x1) {m2 : Int32} {x2 : Int} (p2 : m2.toInt = x2) {m3 : Int32} {x3 : Int} (p3 : m3.toInt = x3) {r : Int × iv_M} {Q : Option Value → iv_H → Prop} (e : FX12_brick N s q0 x1 x2 x3 = some r) (hq : ∀ (z : Int32) (h1 : iv_H), z.toInt = r.1 → Rep nc Ls Xs h1 r.2 → Q (some (.int z)) h1) : Cl d 273 [.ref q0, .int m1, .int m2, .int m3] h Q := by
  obtain ⟨d, rfl⟩ : ∃ k, d = k + 1 := ⟨d - 1, by omega⟩
  have hd : 2 ≤ d := by omega
  have hT := hX12_brick
  unfold FX12_brick at e
  refine Cl.into (by decide) gX12_brick rfl ?_
  show Rn d 273 (some .int) 0 [some (.ref q0), some (.int m1), some (.int m2), some (.int m3), none] [] h Q
  refine Rn.n hT 2 (pc' := 2) (L' := [some (.ref q0), some (.int m1), some (.int m2), some (.int m3), none]) (st' := [.int m1, .ref q0]) rfl ?_
  obtain ⟨v_3341, e_3341, e⟩ := Option.bind_eq_some_iff.mp e
  refine Rn.call hT rfl rfl rfl (Nat.le_of_ble_eq_true rfl) (rcv_v gX12_isRoom (by omega) (rp_ck hR (T12_o t0))) (RX12_isRoom (by omega) hR t0 p1 e_3341 (fun z_3341 p_3341 => ?_))
  show Rn d _ _ 5 [some (.ref q0), some (.int m1), some (.int m2), some (.int m3), none] [.int z_3341] h Q
  by_cases c_3342 : v_3341 = 0
  · rw [if_pos c_3342] at e
    refine Rn.bt hT rfl rfl rfl (decide_eq_true ((ti_e p_3341 L32_0).mpr c_3342)) ?_
    exact Rn.weak (ll_n (ll_n (ll_n (ll_n (ll_n ll_e))))) (RX12_brick_b42 hd hR hq e)
  · rw [if_neg c_3342] at e
    refine Rn.bf hT rfl rfl rfl (decide_eq_false (fun z => c_3342 ((ti_e p_3341 L32_0).mp z))) ?_
    refine Rn.n hT 4 (pc' := 14) (L' := [some (.ref q0), some (.int m1), some (.int m2), some (.int m3), none]) (st' := [.long (3 : Int64), .long (0 : Int64), .long ((m2).toInt64)]) rfl ?_
    obtain ⟨v_3343, e_3343, e⟩ := Option.bind_eq_some_iff.mp e
    refine Rn.call hT rfl rfl rfl (Nat.le_of_ble_eq_true rfl) rfl (RX12_in (by omega) hR (ti_j p2) L64_0 L64_3 e_3343 (fun z_3343 p_3343 => ?_))
    show Rn d _ _ 17 [some (.ref q0), some (.int m1), some (.int m2), some (.int m3), none] [.int z_3343] h Q
    by_cases c_3344 : v_3343 = 0
    · rw [if_pos c_3344] at e
      refine Rn.bt hT rfl rfl rfl (decide_eq_true ((ti_e p_3343 L32_0).mpr c_3344)) ?_
      exact Rn.weak (ll_n (ll_n (ll_n (ll_n (ll_n ll_e))))) (RX12_brick_b42 hd hR hq e)
    · rw [if_neg c_3344] at e
      refine Rn.bf hT rfl rfl rfl (decide_eq_false (fun z => c_3344 ((ti_e p_3343 L32_0).mp z))) ?_
      refine Rn.n hT 4 (pc' := 26) (L' := [some (.ref q0), some (.int m1), some (.int m2), some (.int m3), none]) (st' := [.long (6 : Int64), .long (0 : Int64), .long ((m3).toInt64)]) rfl ?_
      obtain ⟨v_3345, e_3345, e⟩ := Option.bind_eq_some_iff.mp e
      refine Rn.call hT rfl rfl rfl (Nat.le_of_ble_eq_true rfl) rfl (RX12_in (by omega) hR (ti_j p3) L64_0 L64_6 e_3345 (fun z_3345 p_3345 => ?_))
      show Rn d _ _ 29 [some (.ref q0), some (.int m1), some (.int m2), some (.int m3), none] [.int z_3345] h Q
      by_cases c_3346 : v_3345 = 0
      · rw [if_pos c_3346] at e
        refine Rn.bt hT rfl rfl rfl (decide_eq_true ((ti_e p_3345 L32_0).mpr c_3346)) ?_
        exact Rn.weak (ll_n (ll_n (ll_n (ll_n (ll_n ll_e))))) (RX12_brick_b42 hd hR hq e)
      · rw [if_neg c_3346] at e
        refine Rn.bf hT rfl rfl rfl (decide_eq_false (fun z => c_3346 ((ti_e p_3345 L32_0).mp z))) ?_
        refine Rn.n hT 3 (pc' := 35) (L' := [some (.ref q0), some (.int m1), some (.int m2), some (.int m3), none]) (st' := [.int m2, .int m1, .ref q0]) rfl ?_
        obtain ⟨v_3347, e_3347, e⟩ := Option.bind_eq_some_iff.mp e
        refine Rn.call hT rfl rfl rfl (Nat.le_of_ble_eq_true rfl) (rcv_v gX12_sideOf (by omega) (rp_ck hR (T12_o t0))) (RX12_sideOf (by omega) hR t0 p1 p2 e_3347 (fun z_3347 p_3347 => ?_))
        show Rn d _ _ 38 [some (.ref q0), some (.int m1), some (.int m2), some (.int m3), none] [.int z_3347] h Q
        refine Rn.n hT 1 (pc' := 39) (L' := [some (.ref q0), some (.int m1), some (.int m2), some (.int m3), none]) (st' := [.int m3, .int z_3347]) rfl ?_
        by_cases c_3348 : v_3347 = x3
        · rw [if_pos c_3348] at e
          refine Rn.bf hT rfl rfl rfl (decide_eq_false (fun z => z ((ti_e p_3347 p3).mpr c_3348))) ?_
          exact Rn.weak (ll_n (ll_n (ll_n (ll_n (ll_n ll_e))))) (RX12_brick_b42 hd hR hq e)
        · rw [if_neg c_3348] at e
          refine Rn.bt hT rfl rfl rfl (decide_eq_true (fun z => c_3348 ((ti_e p_3347 p3).mp z))) ?_
          refine Rn.n hT 3 (pc' := 48) (L' := [some (.ref q0), some (.int m1), some (.int m2), some (.int m3), none]) (st' := [.int m2, .int m1, .ref q0]) rfl ?_
          obtain ⟨v_3349, e_3349, e⟩ := Option.bind_eq_some_iff.mp e
          refine Rn.call hT rfl rfl rfl (Nat.le_of_ble_eq_true rfl) (rcv_v gX12_sideOf (by omega) (rp_ck hR (T12_o t0))) (RX12_sideOf (by omega) hR t0 p1 p2 e_3349 (fun z_3349 p_3349 => ?_))
          show Rn d _ _ 51 [some (.ref q0), some (.int m1), some (.int m2), some (.int m3), none] [.int z_3349] h Q
          refine Rn.n hT 2 (pc' := 54) (L' := [some (.ref q0), some (.int m1), some (.int m2), some (.int m3), some (.int z_3349)]) (st' := [.ref q0]) rfl ?_
          refine Rn.hp hT rfl rfl (gR_hp (rp_gR hR (T12_o t0) rfl)) ?_
          refine Rn.n hT 3 (pc' := 60) (L' := [some (.ref q0), some (.int m1), some (.int m2), some (.int m3), some (.int z_3349)]) (st' := [.int m2, .int m1, .ref q0, .ref (q0 + 2)]) rfl ?_
          obtain ⟨v_3350, e_3350, e⟩ := Option.bind_eq_some_iff.mp e
          refine Rn.call hT rfl rfl rfl (Nat.le_of_ble_eq_true rfl) (rcv_v gX12_spotOf (by omega) (rp_ck hR (T12_o t0))) (RX12_spotOf (by omega) hR t0 p1 p2 e_3350 (fun z_3350 p_3350 => ?_))
          show Rn d _ _ 63 [some (.ref q0), some (.int m1), some (.int m2), some (.int m3), some (.int z_3349)] [.int z_3350, .ref (q0 + 2)] h Q
          refine Rn.n hT 1 (pc' := 64) (L' := [some (.ref q0), some (.int m1), some (.int m2), some (.int m3), some (.int z_3349)]) (st' := [.int m3, .int z_3350, .ref (q0 + 2)]) rfl ?_
          obtain ⟨s_3351, e_3352, e⟩ := Option.bind_eq_some_iff.mp e
          obtain ⟨h_3351, g_3352, R_3351⟩ := rp_wI hR (T12_2 t0) (T12_2l t0) p_3350 p3 e_3352
          refine Rn.hp hT rfl rfl (wI_hp g_3352) ?_
          refine Rn.n hT 1 (pc' := 66) (L' := [some (.ref q0), some (.int m1), some (.int m2), some (.int m3), some (.int z_3349)]) (st' := [.ref q0]) rfl ?_
          refine Rn.hp hT rfl rfl (gR_hp (rp_gR R_3351 (T12_o t0) rfl)) ?_
          refine Rn.n hT 2 (pc' := 72) (L' := [some (.ref q0), some (.int m1), some (.int m2), some (.int m3), some (.int z_3349)]) (st' := [.int (0 : Int32), .int (7 : Int32), .ref (q0 + 1)]) rfl ?_
          obtain ⟨s_3353, e_3354, e⟩ := Option.bind_eq_some_iff.mp e
          obtain ⟨h_3353, g_3354, R_3353⟩ := rp_wI R_3351 (T12_1 t0) (T12_1l t0) L32_7 L32_0 e_3354
          refine Rn.hp hT rfl rfl (wI_hp g_3354) ?_
          refine Rn.n hT 1 (pc' := 75) (L' := [some (.ref q0), some (.int m1), some (.int m2), some (.int m3), some (.int z_3349)]) (st' := [.int z_3349]) rfl ?_
          obtain rfl := Option.some.inj e
          exact Rn.ret hT rfl rfl rfl (hq z_3349 h_3353 p_3349 R_3353)
set_option maxRecDepth 10000 in
theorem hX12_lay : iv_Tb 274 tX12_lay := iv_tb_of (m := mX12_lay) rfl
set_option maxRecDepth 10000 in
theorem gX12_lay : PG.2 274 = some mX12_lay := iv_pi_of (t := tX12_lay) rfl (by decide)
def FX12_lay_b44 (N : Nat) (s : iv_M)   : Option (Int × iv_M) := (some ((-2), s))
set_option maxRecDepth 10000 in
set_option maxHeartbeats 4000000 in
theorem RX12_lay_b44 {d N nc Ls : Nat} {Xs : Nat → Int32} (hd : 2 ≤ d) {h : iv_H} {s : iv_M} (hR : Rep nc Ls Xs h s)   {r : Int × iv_M} {Q : Option Value → iv_H → Prop} (hq : ∀ (z : Int32) (h1 : iv_H), z.toInt = r.1 → Rep nc Ls Xs h1 r.2 → Q (some (.int z)) h1) (e : FX12_lay_b44 N s   = some r) : Rn d 274 (some .int) 44 [none, none, none, none] [] h Q := by
  have hT := hX12_lay
  unfold FX12_lay_b44 at e
  refine Rn.n hT 1 (pc' := 46) (L' := [none, none, none, none]) (st' := [.int (-2 : Int32)]) rfl ?_
  obtain rfl := Option.some.inj e
  exact Rn.ret hT rfl rfl rfl (hq (-2 : Int32) h L32_m2 hR)
def FX12_lay_b32 (N : Nat) (s : iv_M) (q0 : Nat) (x1 : Int) (x2 : Int)  : Option (Int × iv_M) := ((rd s (q0 + 6) 4 (w32 (x1 - 1))).bind fun v_3362 => (if v_3362 = x2 then (FX12_lay_b44 N s) else ((rd s (q0 + 6) 4 (w32 (x1 - 1))).bind fun v_3364 => ((wr s (q0 + 6) 4 (w32 (x1 - 1)) x2).bind fun s_3365 => ((wr s_3365 (q0 + 1) 14 7 0).bind fun s_3367 => (some (v_3364, s_3367)))))))
set_option maxRecDepth 10000 in
set_option maxHeartbeats 4000000 in
theorem RX12_lay_b32 {d N nc Ls : Nat} {Xs : Nat → Int32} (hd : 2 ≤ d) {h : iv_H} {s : iv_M} (hR : Rep nc Ls Xs h s) {q0 : Nat} (t0 : T12 nc q0) {m1 : Int32} {x1 : Int} (p1 : m1.toInt = x1) {m2 : Int32} {x2 : Int} (p2 : m2.toInt = x2)  {r : Int × iv_M} {Q : Option Value → iv_H → Prop} (hq : ∀ (z : Int32) (h1 : iv_H), z.toInt = r.1 → Rep nc Ls Xs h1 r.2 → Q (some (.int z)) h1) (e : FX12_lay_b32 N s q0 x1 x2  = some r) : Rn d 274 (some .int) 32 [some (.ref q0), some (.int m1), some (.int m2), none] [] h Q := by
  have hT := hX12_lay
  unfold FX12_lay_b32 at e
  refine Rn.n hT 1 (pc' := 33) (L' := [some (.ref q0), some (.int m1), some (.int m2), none]) (st' := [.ref q0]) rfl ?_
  refine Rn.hp hT rfl rfl (gR_hp (rp_gR hR (T12_o t0) rfl)) ?_
  refine Rn.n hT 3 (pc' := 39) (L' := [some (.ref q0), some (.int m1), some (.int m2), none]) (st' := [.int (m1 - (1 : Int32)), .ref (q0 + 6)]) rfl ?_
  obtain ⟨v_3362, e_3362, e⟩ := Option.bind_eq_some_iff.mp e
  obtain ⟨z_3362, g_3362, p_3362⟩ := rp_aI hR (T12_6 t0) (T12_6l t0) (ti_sub p1 L32_1) e_3362
  refine Rn.hp hT rfl rfl (aI_hp g_3362) ?_
  refine Rn.n hT 1 (pc' := 41) (L' := [some (.ref q0), some (.int m1), some (.int m2), none]) (st' := [.int m2, .int z_3362]) rfl ?_
  by_cases c_3363 : v_3362 = x2
  · rw [if_pos c_3363] at e
    refine Rn.bf hT rfl rfl rfl (decide_eq_false (fun z => z ((ti_e p_3362 p2).mpr c_3363))) ?_
    exact Rn.weak (ll_n (ll_n (ll_n (ll_n ll_e)))) (RX12_lay_b44 hd hR hq e)
  · rw [if_neg c_3363] at e
    refine Rn.bt hT rfl rfl rfl (decide_eq_true (fun z => c_3363 ((ti_e p_3362 p2).mp z))) ?_
    refine Rn.n hT 1 (pc' := 48) (L' := [some (.ref q0), some (.int m1), some (.int m2), none]) (st' := [.ref q0]) rfl ?_
    refine Rn.hp hT rfl rfl (gR_hp (rp_gR hR (T12_o t0) rfl)) ?_
    refine Rn.n hT 3 (pc' := 54) (L' := [some (.ref q0), some (.int m1), some (.int m2), none]) (st' := [.int (m1 - (1 : Int32)), .ref (q0 + 6)]) rfl ?_
    obtain ⟨v_3364, e_3364, e⟩ := Option.bind_eq_some_iff.mp e
    obtain ⟨z_3364, g_3364, p_3364⟩ := rp_aI hR (T12_6 t0) (T12_6l t0) (ti_sub p1 L32_1) e_3364
    refine Rn.hp hT rfl rfl (aI_hp g_3364) ?_
    refine Rn.n hT 2 (pc' := 57) (L' := [some (.ref q0), some (.int m1), some (.int m2), some (.int z_3364)]) (st' := [.ref q0]) rfl ?_
    refine Rn.hp hT rfl rfl (gR_hp (rp_gR hR (T12_o t0) rfl)) ?_
    refine Rn.n hT 4 (pc' := 64) (L' := [some (.ref q0), some (.int m1), some (.int m2), some (.int z_3364)]) (st' := [.int m2, .int (m1 - (1 : Int32)), .ref (q0 + 6)]) rfl ?_
    obtain ⟨s_3365, e_3366, e⟩ := Option.bind_eq_some_iff.mp e
    obtain ⟨h_3365, g_3366, R_3365⟩ := rp_wI hR (T12_6 t0) (T12_6l t0) (ti_sub p1 L32_1) p2 e_3366
    refine Rn.hp hT rfl rfl (wI_hp g_3366) ?_
    refine Rn.n hT 1 (pc' := 66) (L' := [some (.ref q0), some (.int m1), some (.int m2), some (.int z_3364)]) (st' := [.ref q0]) rfl ?_
    refine Rn.hp hT rfl rfl (gR_hp (rp_gR R_3365 (T12_o t0) rfl)) ?_
    refine Rn.n hT 2 (pc' := 72) (L' := [some (.ref q0), some (.int m1), some (.int m2), some (.int z_3364)]) (st' := [.int (0 : Int32), .int (7 : Int32), .ref (q0 + 1)]) rfl ?_
    obtain ⟨s_3367, e_3368, e⟩ := Option.bind_eq_some_iff.mp e
    obtain ⟨h_3367, g_3368, R_3367⟩ := rp_wI R_3365 (T12_1 t0) (T12_1l t0) L32_7 L32_0 e_3368
    refine Rn.hp hT rfl rfl (wI_hp g_3368) ?_
    refine Rn.n hT 1 (pc' := 74) (L' := [some (.ref q0), some (.int m1), some (.int m2), some (.int z_3364)]) (st' := [.int z_3364]) rfl ?_
    obtain rfl := Option.some.inj e
    exact Rn.ret hT rfl rfl rfl (hq z_3364 h_3367 p_3364 R_3367)
def FX12_lay (N : Nat) (s : iv_M) (q0 : Nat) (x1 : Int) (x2 : Int) : Option (Int × iv_M) := ((FX12_isPalace N s q0).bind fun v_3355 => (if v_3355 = 0 then (FX12_lay_b44 N s) else ((FX12_in N s x1 1 4).bind fun v_3357 => (if v_3357 = 0 then (FX12_lay_b44 N s) else (if x2 = (-1) then (FX12_lay_b32 N s q0 x1 x2) else ((FX12_isRoom N s q0 x2).bind fun v_3360 => (if v_3360 = 0 then (FX12_lay_b44 N s) else (FX12_lay_b32 N s q0 x1 x2))))))))
set_option maxRecDepth 10000 in
set_option maxHeartbeats 4000000 in
theorem RX12_lay {d N nc Ls : Nat} {Xs : Nat → Int32} (hd : 3 ≤ d) {h : iv_H} {s : iv_M} (hR : Rep nc Ls Xs h s) {q0 : Nat} (t0 : T12 nc q0) {m1 : Int32} {x1 : Int} (p1 : m1.toInt = x1) {m2 : Int32} {x2 : Int} (p2 : m2.toInt = x2) {r : Int × iv_M} {Q : Option Value → iv_H → Prop} (e : FX12_lay N s q0 x1 x2 = some r) (hq : ∀ (z : Int32) (h1 : iv_H), z.toInt = r.1 → Rep nc Ls Xs h1 r.2 → Q (some (.int z)) h1) : Cl d 274 [.ref q0, .int m1, .int m2] h Q := by
  obtain ⟨d, rfl⟩ : ∃ k, d = k + 1 := ⟨d - 1, by omega⟩
  have hd : 2 ≤ d := by omega
  have hT := hX12_lay
  unfold FX12_lay at e
  refine Cl.into (by decide) gX12_lay rfl ?_
  show Rn d 274 (some .int) 0 [some (.ref q0), some (.int m1), some (.int m2), none] [] h Q
  refine Rn.n hT 1 (pc' := 1) (L' := [some (.ref q0), some (.int m1), some (.int m2), none]) (st' := [.ref q0]) rfl ?_
  obtain ⟨v_3355, e_3355, e⟩ := Option.bind_eq_some_iff.mp e
  refine Rn.call hT rfl rfl rfl (Nat.le_of_ble_eq_true rfl) (rcv_v gX12_isPalace (by omega) (rp_ck hR (T12_o t0))) (RX12_isPalace (by omega) hR t0 e_3355 (fun z_3355 p_3355 => ?_))
  show Rn d _ _ 4 [some (.ref q0), some (.int m1), some (.int m2), none] [.int z_3355] h Q
  by_cases c_3356 : v_3355 = 0
  · rw [if_pos c_3356] at e
    refine Rn.bt hT rfl rfl rfl (decide_eq_true ((ti_e p_3355 L32_0).mpr c_3356)) ?_
    exact Rn.weak (ll_n (ll_n (ll_n (ll_n ll_e)))) (RX12_lay_b44 hd hR hq e)
  · rw [if_neg c_3356] at e
    refine Rn.bf hT rfl rfl rfl (decide_eq_false (fun z => c_3356 ((ti_e p_3355 L32_0).mp z))) ?_
    refine Rn.n hT 4 (pc' := 13) (L' := [some (.ref q0), some (.int m1), some (.int m2), none]) (st' := [.long (4 : Int64), .long (1 : Int64), .long ((m1).toInt64)]) rfl ?_
    obtain ⟨v_3357, e_3357, e⟩ := Option.bind_eq_some_iff.mp e
    refine Rn.call hT rfl rfl rfl (Nat.le_of_ble_eq_true rfl) rfl (RX12_in (by omega) hR (ti_j p1) L64_1 L64_4 e_3357 (fun z_3357 p_3357 => ?_))
    show Rn d _ _ 16 [some (.ref q0), some (.int m1), some (.int m2), none] [.int z_3357] h Q
    by_cases c_3358 : v_3357 = 0
    · rw [if_pos c_3358] at e
      refine Rn.bt hT rfl rfl rfl (decide_eq_true ((ti_e p_3357 L32_0).mpr c_3358)) ?_
      exact Rn.weak (ll_n (ll_n (ll_n (ll_n ll_e)))) (RX12_lay_b44 hd hR hq e)
    · rw [if_neg c_3358] at e
      refine Rn.bf hT rfl rfl rfl (decide_eq_false (fun z => c_3358 ((ti_e p_3357 L32_0).mp z))) ?_
      refine Rn.n hT 2 (pc' := 21) (L' := [some (.ref q0), some (.int m1), some (.int m2), none]) (st' := [.int (-1 : Int32), .int m2]) rfl ?_
      by_cases c_3359 : x2 = (-1)
      · rw [if_pos c_3359] at e
        refine Rn.bt hT rfl rfl rfl (decide_eq_true ((ti_e p2 L32_m1).mpr c_3359)) ?_
        exact Rn.weak (ll_s (ll_s (ll_s (ll_n ll_e)))) (RX12_lay_b32 hd hR t0 p1 p2 hq e)
      · rw [if_neg c_3359] at e
        refine Rn.bf hT rfl rfl rfl (decide_eq_false (fun z => c_3359 ((ti_e p2 L32_m1).mp z))) ?_
        refine Rn.n hT 2 (pc' := 26) (L' := [some (.ref q0), some (.int m1), some (.int m2), none]) (st' := [.int m2, .ref q0]) rfl ?_
        obtain ⟨v_3360, e_3360, e⟩ := Option.bind_eq_some_iff.mp e
        refine Rn.call hT rfl rfl rfl (Nat.le_of_ble_eq_true rfl) (rcv_v gX12_isRoom (by omega) (rp_ck hR (T12_o t0))) (RX12_isRoom (by omega) hR t0 p2 e_3360 (fun z_3360 p_3360 => ?_))
        show Rn d _ _ 29 [some (.ref q0), some (.int m1), some (.int m2), none] [.int z_3360] h Q
        by_cases c_3361 : v_3360 = 0
        · rw [if_pos c_3361] at e
          refine Rn.bt hT rfl rfl rfl (decide_eq_true ((ti_e p_3360 L32_0).mpr c_3361)) ?_
          exact Rn.weak (ll_n (ll_n (ll_n (ll_n ll_e)))) (RX12_lay_b44 hd hR hq e)
        · rw [if_neg c_3361] at e
          refine Rn.bf hT rfl rfl rfl (decide_eq_false (fun z => c_3361 ((ti_e p_3360 L32_0).mp z))) ?_
          exact Rn.weak (ll_s (ll_s (ll_s (ll_n ll_e)))) (RX12_lay_b32 hd hR t0 p1 p2 hq e)
set_option maxRecDepth 10000 in
theorem hX12_bed : iv_Tb 275 tX12_bed := iv_tb_of (m := mX12_bed) rfl
set_option maxRecDepth 10000 in
theorem gX12_bed : PG.2 275 = some mX12_bed := iv_pi_of (t := tX12_bed) rfl (by decide)
def FX12_bed_b26 (N : Nat) (s : iv_M)   : Option (Int × iv_M) := (some ((-2), s))
set_option maxRecDepth 10000 in
set_option maxHeartbeats 4000000 in
theorem RX12_bed_b26 {d N nc Ls : Nat} {Xs : Nat → Int32} (hd : 2 ≤ d) {h : iv_H} {s : iv_M} (hR : Rep nc Ls Xs h s)   {r : Int × iv_M} {Q : Option Value → iv_H → Prop} (hq : ∀ (z : Int32) (h1 : iv_H), z.toInt = r.1 → Rep nc Ls Xs h1 r.2 → Q (some (.int z)) h1) (e : FX12_bed_b26 N s   = some r) : Rn d 275 (some .int) 26 [none, none, none, none] [] h Q := by
  have hT := hX12_bed
  unfold FX12_bed_b26 at e
  refine Rn.n hT 1 (pc' := 28) (L' := [none, none, none, none]) (st' := [.int (-2 : Int32)]) rfl ?_
  obtain rfl := Option.some.inj e
  exact Rn.ret hT rfl rfl rfl (hq (-2 : Int32) h L32_m2 hR)
def FX12_bed (N : Nat) (s : iv_M) (q0 : Nat) (x1 : Int) (x2 : Int) : Option (Int × iv_M) := ((FX12_isPerson N s q0 x1).bind fun v_3369 => (if v_3369 = 0 then (FX12_bed_b26 N s) else ((FX12_isRoom N s q0 x2).bind fun v_3371 => (if v_3371 = 0 then (FX12_bed_b26 N s) else ((rd s (q0 + 7) 6 x1).bind fun v_3373 => (if v_3373 = x2 then (FX12_bed_b26 N s) else ((rd s (q0 + 7) 6 x1).bind fun v_3375 => ((wr s (q0 + 7) 6 x1 x2).bind fun s_3376 => ((wr s_3376 (q0 + 1) 14 7 0).bind fun s_3378 => (some (v_3375, s_3378)))))))))))
set_option maxRecDepth 10000 in
set_option maxHeartbeats 4000000 in
theorem RX12_bed {d N nc Ls : Nat} {Xs : Nat → Int32} (hd : 3 ≤ d) {h : iv_H} {s : iv_M} (hR : Rep nc Ls Xs h s) {q0 : Nat} (t0 : T12 nc q0) {m1 : Int32} {x1 : Int} (p1 : m1.toInt = x1) {m2 : Int32} {x2 : Int} (p2 : m2.toInt = x2) {r : Int × iv_M} {Q : Option Value → iv_H → Prop} (e : FX12_bed N s q0 x1 x2 = some r) (hq : ∀ (z : Int32) (h1 : iv_H), z.toInt = r.1 → Rep nc Ls Xs h1 r.2 → Q (some (.int z)) h1) : Cl d 275 [.ref q0, .int m1, .int m2] h Q := by
  obtain ⟨d, rfl⟩ : ∃ k, d = k + 1 := ⟨d - 1, by omega⟩
  have hd : 2 ≤ d := by omega
  have hT := hX12_bed
  unfold FX12_bed at e
  refine Cl.into (by decide) gX12_bed rfl ?_
  show Rn d 275 (some .int) 0 [some (.ref q0), some (.int m1), some (.int m2), none] [] h Q
  refine Rn.n hT 2 (pc' := 2) (L' := [some (.ref q0), some (.int m1), some (.int m2), none]) (st' := [.int m1, .ref q0]) rfl ?_
  obtain ⟨v_3369, e_3369, e⟩ := Option.bind_eq_some_iff.mp e
  refine Rn.call hT rfl rfl rfl (Nat.le_of_ble_eq_true rfl) (rcv_v gX12_isPerson (by omega) (rp_ck hR (T12_o t0))) (RX12_isPerson (by omega) hR t0 p1 e_3369 (fun z_3369 p_3369 => ?_))
  show Rn d _ _ 5 [some (.ref q0), some (.int m1), some (.int m2), none] [.int z_3369] h Q
  by_cases c_3370 : v_3369 = 0
  · rw [if_pos c_3370] at e
    refine Rn.bt hT rfl rfl rfl (decide_eq_true ((ti_e p_3369 L32_0).mpr c_3370)) ?_
    exact Rn.weak (ll_n (ll_n (ll_n (ll_n ll_e)))) (RX12_bed_b26 hd hR hq e)
  · rw [if_neg c_3370] at e
    refine Rn.bf hT rfl rfl rfl (decide_eq_false (fun z => c_3370 ((ti_e p_3369 L32_0).mp z))) ?_
    refine Rn.n hT 2 (pc' := 10) (L' := [some (.ref q0), some (.int m1), some (.int m2), none]) (st' := [.int m2, .ref q0]) rfl ?_
    obtain ⟨v_3371, e_3371, e⟩ := Option.bind_eq_some_iff.mp e
    refine Rn.call hT rfl rfl rfl (Nat.le_of_ble_eq_true rfl) (rcv_v gX12_isRoom (by omega) (rp_ck hR (T12_o t0))) (RX12_isRoom (by omega) hR t0 p2 e_3371 (fun z_3371 p_3371 => ?_))
    show Rn d _ _ 13 [some (.ref q0), some (.int m1), some (.int m2), none] [.int z_3371] h Q
    by_cases c_3372 : v_3371 = 0
    · rw [if_pos c_3372] at e
      refine Rn.bt hT rfl rfl rfl (decide_eq_true ((ti_e p_3371 L32_0).mpr c_3372)) ?_
      exact Rn.weak (ll_n (ll_n (ll_n (ll_n ll_e)))) (RX12_bed_b26 hd hR hq e)
    · rw [if_neg c_3372] at e
      refine Rn.bf hT rfl rfl rfl (decide_eq_false (fun z => c_3372 ((ti_e p_3371 L32_0).mp z))) ?_
      refine Rn.n hT 1 (pc' := 17) (L' := [some (.ref q0), some (.int m1), some (.int m2), none]) (st' := [.ref q0]) rfl ?_
      refine Rn.hp hT rfl rfl (gR_hp (rp_gR hR (T12_o t0) rfl)) ?_
      refine Rn.n hT 1 (pc' := 21) (L' := [some (.ref q0), some (.int m1), some (.int m2), none]) (st' := [.int m1, .ref (q0 + 7)]) rfl ?_
      obtain ⟨v_3373, e_3373, e⟩ := Option.bind_eq_some_iff.mp e
      obtain ⟨z_3373, g_3373, p_3373⟩ := rp_aI hR (T12_7 t0) (T12_7l t0) p1 e_3373
      refine Rn.hp hT rfl rfl (aI_hp g_3373) ?_
      refine Rn.n hT 1 (pc' := 23) (L' := [some (.ref q0), some (.int m1), some (.int m2), none]) (st' := [.int m2, .int z_3373]) rfl ?_
      by_cases c_3374 : v_3373 = x2
      · rw [if_pos c_3374] at e
        refine Rn.bf hT rfl rfl rfl (decide_eq_false (fun z => z ((ti_e p_3373 p2).mpr c_3374))) ?_
        exact Rn.weak (ll_n (ll_n (ll_n (ll_n ll_e)))) (RX12_bed_b26 hd hR hq e)
      · rw [if_neg c_3374] at e
        refine Rn.bt hT rfl rfl rfl (decide_eq_true (fun z => c_3374 ((ti_e p_3373 p2).mp z))) ?_
        refine Rn.n hT 1 (pc' := 30) (L' := [some (.ref q0), some (.int m1), some (.int m2), none]) (st' := [.ref q0]) rfl ?_
        refine Rn.hp hT rfl rfl (gR_hp (rp_gR hR (T12_o t0) rfl)) ?_
        refine Rn.n hT 1 (pc' := 34) (L' := [some (.ref q0), some (.int m1), some (.int m2), none]) (st' := [.int m1, .ref (q0 + 7)]) rfl ?_
        obtain ⟨v_3375, e_3375, e⟩ := Option.bind_eq_some_iff.mp e
        obtain ⟨z_3375, g_3375, p_3375⟩ := rp_aI hR (T12_7 t0) (T12_7l t0) p1 e_3375
        refine Rn.hp hT rfl rfl (aI_hp g_3375) ?_
        refine Rn.n hT 2 (pc' := 37) (L' := [some (.ref q0), some (.int m1), some (.int m2), some (.int z_3375)]) (st' := [.ref q0]) rfl ?_
        refine Rn.hp hT rfl rfl (gR_hp (rp_gR hR (T12_o t0) rfl)) ?_
        refine Rn.n hT 2 (pc' := 42) (L' := [some (.ref q0), some (.int m1), some (.int m2), some (.int z_3375)]) (st' := [.int m2, .int m1, .ref (q0 + 7)]) rfl ?_
        obtain ⟨s_3376, e_3377, e⟩ := Option.bind_eq_some_iff.mp e
        obtain ⟨h_3376, g_3377, R_3376⟩ := rp_wI hR (T12_7 t0) (T12_7l t0) p1 p2 e_3377
        refine Rn.hp hT rfl rfl (wI_hp g_3377) ?_
        refine Rn.n hT 1 (pc' := 44) (L' := [some (.ref q0), some (.int m1), some (.int m2), some (.int z_3375)]) (st' := [.ref q0]) rfl ?_
        refine Rn.hp hT rfl rfl (gR_hp (rp_gR R_3376 (T12_o t0) rfl)) ?_
        refine Rn.n hT 2 (pc' := 50) (L' := [some (.ref q0), some (.int m1), some (.int m2), some (.int z_3375)]) (st' := [.int (0 : Int32), .int (7 : Int32), .ref (q0 + 1)]) rfl ?_
        obtain ⟨s_3378, e_3379, e⟩ := Option.bind_eq_some_iff.mp e
        obtain ⟨h_3378, g_3379, R_3378⟩ := rp_wI R_3376 (T12_1 t0) (T12_1l t0) L32_7 L32_0 e_3379
        refine Rn.hp hT rfl rfl (wI_hp g_3379) ?_
        refine Rn.n hT 1 (pc' := 52) (L' := [some (.ref q0), some (.int m1), some (.int m2), some (.int z_3375)]) (st' := [.int z_3375]) rfl ?_
        obtain rfl := Option.some.inj e
        exact Rn.ret hT rfl rfl rfl (hq z_3375 h_3378 p_3375 R_3378)
set_option maxRecDepth 10000 in
theorem hX12_fix : iv_Tb 276 tX12_fix := iv_tb_of (m := mX12_fix) rfl
set_option maxRecDepth 10000 in
theorem gX12_fix : PG.2 276 = some mX12_fix := iv_pi_of (t := tX12_fix) rfl (by decide)
def FX12_fix_b59 (N : Nat) (s : iv_M) (x3 : Int)  : Option (Int × iv_M) := (if x3 = 0 ∨ x3 = 1 then some (x3, s) else none)
set_option maxRecDepth 10000 in
set_option maxHeartbeats 4000000 in
theorem RX12_fix_b59 {d N nc Ls : Nat} {Xs : Nat → Int32} (hd : 2 ≤ d) {h : iv_H} {s : iv_M} (hR : Rep nc Ls Xs h s) {m3 : Int32} {x3 : Int} (p3 : m3.toInt = x3)  {r : Int × iv_M} {Q : Option Value → iv_H → Prop} (hq : ∀ (z : Int32) (h1 : iv_H), z.toInt = r.1 → Rep nc Ls Xs h1 r.2 → Q (some (.int z)) h1) (e : FX12_fix_b59 N s x3  = some r) : Rn d 276 (some .boolean) 59 [none, none, none, some (.int m3)] [] h Q := by
  have hT := hX12_fix
  unfold FX12_fix_b59 at e
  refine Rn.n hT 1 (pc' := 60) (L' := [none, none, none, some (.int m3)]) (st' := [.int m3]) rfl ?_
  by_cases c_3391 : x3 = 0 ∨ x3 = 1
  · rw [if_pos c_3391] at e
    obtain rfl := Option.some.inj e
    exact Rn.ret hT rfl rfl (if_pos (ti_b p3 c_3391)) (hq m3 h p3 hR)
  · rw [if_neg c_3391] at e
    cases e
def FX12_fix_b50 (N : Nat) (s : iv_M) (q0 : Nat) (x3 : Int) (xs0 : Int) (xs1 : Int) (qs2 : Nat) : Option (Int × iv_M) := ((wr s qs2 ((sh qs2).2 : Int) xs1 xs0).bind fun s_3387 => ((wr s_3387 (q0 + 1) 14 7 0).bind fun s_3389 => (FX12_fix_b59 N s_3389 x3)))
set_option maxRecDepth 10000 in
set_option maxHeartbeats 4000000 in
theorem RX12_fix_b50 {d N nc Ls : Nat} {Xs : Nat → Int32} (hd : 2 ≤ d) {h : iv_H} {s : iv_M} (hR : Rep nc Ls Xs h s) {q0 : Nat} (t0 : T12 nc q0) {m3 : Int32} {x3 : Int} (p3 : m3.toInt = x3) {ms0 : Int32} {xs0 : Int} (ps0 : ms0.toInt = xs0) {ms1 : Int32} {xs1 : Int} (ps1 : ms1.toInt = xs1) {qs2 : Nat} (ts2 : TA 0 nc qs2) {r : Int × iv_M} {Q : Option Value → iv_H → Prop} (hq : ∀ (z : Int32) (h1 : iv_H), z.toInt = r.1 → Rep nc Ls Xs h1 r.2 → Q (some (.int z)) h1) (e : FX12_fix_b50 N s q0 x3 xs0 xs1 qs2 = some r) : Rn d 276 (some .boolean) 50 [some (.ref q0), none, none, some (.int m3)] [.int ms0, .int ms1, .ref qs2] h Q := by
  have hT := hX12_fix
  unfold FX12_fix_b50 at e
  obtain ⟨s_3387, e_3388, e⟩ := Option.bind_eq_some_iff.mp e
  obtain ⟨h_3387, g_3388, R_3387⟩ := rp_wI hR ts2 rfl ps1 ps0 e_3388
  refine Rn.hp hT rfl rfl (wI_hp g_3388) ?_
  refine Rn.n hT 1 (pc' := 52) (L' := [some (.ref q0), none, none, some (.int m3)]) (st' := [.ref q0]) rfl ?_
  refine Rn.hp hT rfl rfl (gR_hp (rp_gR R_3387 (T12_o t0) rfl)) ?_
  refine Rn.n hT 2 (pc' := 58) (L' := [some (.ref q0), none, none, some (.int m3)]) (st' := [.int (0 : Int32), .int (7 : Int32), .ref (q0 + 1)]) rfl ?_
  obtain ⟨s_3389, e_3390, e⟩ := Option.bind_eq_some_iff.mp e
  obtain ⟨h_3389, g_3390, R_3389⟩ := rp_wI R_3387 (T12_1 t0) (T12_1l t0) L32_7 L32_0 e_3390
  refine Rn.hp hT rfl rfl (wI_hp g_3390) ?_
  exact Rn.weak (ll_n (ll_n (ll_n (ll_s ll_e)))) (RX12_fix_b59 hd R_3389 p3 hq e)
def FX12_fix_b31 (N : Nat) (s : iv_M) (q0 : Nat) (x1 : Int) (x2 : Int) (xs0 : Int) : Option (Int × iv_M) := (if xs0 = 0 then (FX12_fix_b59 N s xs0) else (if x2 = 0 then (FX12_fix_b50 N s q0 xs0 0 x1 (q0 + 5)) else (FX12_fix_b50 N s q0 xs0 1 x1 (q0 + 5))))
set_option maxRecDepth 10000 in
set_option maxHeartbeats 4000000 in
theorem RX12_fix_b31 {d N nc Ls : Nat} {Xs : Nat → Int32} (hd : 2 ≤ d) {h : iv_H} {s : iv_M} (hR : Rep nc Ls Xs h s) {q0 : Nat} (t0 : T12 nc q0) {m1 : Int32} {x1 : Int} (p1 : m1.toInt = x1) {m2 : Int32} {x2 : Int} (p2 : m2.toInt = x2) {ms0 : Int32} {xs0 : Int} (ps0 : ms0.toInt = xs0) {r : Int × iv_M} {Q : Option Value → iv_H → Prop} (hq : ∀ (z : Int32) (h1 : iv_H), z.toInt = r.1 → Rep nc Ls Xs h1 r.2 → Q (some (.int z)) h1) (e : FX12_fix_b31 N s q0 x1 x2 xs0 = some r) : Rn d 276 (some .boolean) 31 [some (.ref q0), some (.int m1), some (.int m2), none] [.int ms0] h Q := by
  have hT := hX12_fix
  unfold FX12_fix_b31 at e
  refine Rn.n hT 2 (pc' := 33) (L' := [some (.ref q0), some (.int m1), some (.int m2), some (.int ms0)]) (st' := [.int ms0]) rfl ?_
  by_cases c_3385 : xs0 = 0
  · rw [if_pos c_3385] at e
    refine Rn.bt hT rfl rfl rfl (decide_eq_true ((ti_e ps0 L32_0).mpr c_3385)) ?_
    exact Rn.weak (ll_n (ll_n (ll_n (ll_s ll_e)))) (RX12_fix_b59 hd hR ps0 hq e)
  · rw [if_neg c_3385] at e
    refine Rn.bf hT rfl rfl rfl (decide_eq_false (fun z => c_3385 ((ti_e ps0 L32_0).mp z))) ?_
    refine Rn.n hT 1 (pc' := 37) (L' := [some (.ref q0), some (.int m1), some (.int m2), some (.int ms0)]) (st' := [.ref q0]) rfl ?_
    refine Rn.hp hT rfl rfl (gR_hp (rp_gR hR (T12_o t0) rfl)) ?_
    refine Rn.n hT 2 (pc' := 42) (L' := [some (.ref q0), some (.int m1), some (.int m2), some (.int ms0)]) (st' := [.int m2, .int m1, .ref (q0 + 5)]) rfl ?_
    by_cases c_3386 : x2 = 0
    · rw [if_pos c_3386] at e
      refine Rn.bt hT rfl rfl rfl (decide_eq_true ((ti_e p2 L32_0).mpr c_3386)) ?_
      refine Rn.n hT 1 (pc' := 50) (L' := [some (.ref q0), some (.int m1), some (.int m2), some (.int ms0)]) (st' := [.int (0 : Int32), .int m1, .ref (q0 + 5)]) rfl ?_
      exact Rn.weak (ll_s (ll_n (ll_n (ll_s ll_e)))) (RX12_fix_b50 hd hR t0 ps0 L32_0 p1 (T12_5 t0) hq e)
    · rw [if_neg c_3386] at e
      refine Rn.bf hT rfl rfl rfl (decide_eq_false (fun z => c_3386 ((ti_e p2 L32_0).mp z))) ?_
      refine Rn.n hT 2 (pc' := 50) (L' := [some (.ref q0), some (.int m1), some (.int m2), some (.int ms0)]) (st' := [.int (1 : Int32), .int m1, .ref (q0 + 5)]) rfl ?_
      exact Rn.weak (ll_s (ll_n (ll_n (ll_s ll_e)))) (RX12_fix_b50 hd hR t0 ps0 L32_1 p1 (T12_5 t0) hq e)
def FX12_fix_b30 (N : Nat) (s : iv_M) (q0 : Nat) (x1 : Int) (x2 : Int)  : Option (Int × iv_M) := (FX12_fix_b31 N s q0 x1 x2 0)
set_option maxRecDepth 10000 in
set_option maxHeartbeats 4000000 in
theorem RX12_fix_b30 {d N nc Ls : Nat} {Xs : Nat → Int32} (hd : 2 ≤ d) {h : iv_H} {s : iv_M} (hR : Rep nc Ls Xs h s) {q0 : Nat} (t0 : T12 nc q0) {m1 : Int32} {x1 : Int} (p1 : m1.toInt = x1) {m2 : Int32} {x2 : Int} (p2 : m2.toInt = x2)  {r : Int × iv_M} {Q : Option Value → iv_H → Prop} (hq : ∀ (z : Int32) (h1 : iv_H), z.toInt = r.1 → Rep nc Ls Xs h1 r.2 → Q (some (.int z)) h1) (e : FX12_fix_b30 N s q0 x1 x2  = some r) : Rn d 276 (some .boolean) 30 [some (.ref q0), some (.int m1), some (.int m2), none] [] h Q := by
  have hT := hX12_fix
  unfold FX12_fix_b30 at e
  refine Rn.n hT 1 (pc' := 31) (L' := [some (.ref q0), some (.int m1), some (.int m2), none]) (st' := [.int (0 : Int32)]) rfl ?_
  exact Rn.weak (ll_s (ll_s (ll_s (ll_n ll_e)))) (RX12_fix_b31 hd hR t0 p1 p2 L32_0 hq e)
def FX12_fix_b23 (N : Nat) (s : iv_M) (q0 : Nat) (x1 : Int) (x2 : Int) (xs0 : Int) (xs1 : Int) : Option (Int × iv_M) := (if xs1 = xs0 then (FX12_fix_b31 N s q0 x1 x2 1) else (FX12_fix_b30 N s q0 x1 x2))
set_option maxRecDepth 10000 in
set_option maxHeartbeats 4000000 in
theorem RX12_fix_b23 {d N nc Ls : Nat} {Xs : Nat → Int32} (hd : 2 ≤ d) {h : iv_H} {s : iv_M} (hR : Rep nc Ls Xs h s) {q0 : Nat} (t0 : T12 nc q0) {m1 : Int32} {x1 : Int} (p1 : m1.toInt = x1) {m2 : Int32} {x2 : Int} (p2 : m2.toInt = x2) {ms0 : Int32} {xs0 : Int} (ps0 : ms0.toInt = xs0) {ms1 : Int32} {xs1 : Int} (ps1 : ms1.toInt = xs1) {r : Int × iv_M} {Q : Option Value → iv_H → Prop} (hq : ∀ (z : Int32) (h1 : iv_H), z.toInt = r.1 → Rep nc Ls Xs h1 r.2 → Q (some (.int z)) h1) (e : FX12_fix_b23 N s q0 x1 x2 xs0 xs1 = some r) : Rn d 276 (some .boolean) 23 [some (.ref q0), some (.int m1), some (.int m2), none] [.int ms0, .int ms1] h Q := by
  have hT := hX12_fix
  unfold FX12_fix_b23 at e
  by_cases c_3384 : xs1 = xs0
  · rw [if_pos c_3384] at e
    refine Rn.bf hT rfl rfl rfl (decide_eq_false (fun z => z ((ti_e ps1 ps0).mpr c_3384))) ?_
    refine Rn.n hT 2 (pc' := 31) (L' := [some (.ref q0), some (.int m1), some (.int m2), none]) (st' := [.int (1 : Int32)]) rfl ?_
    exact Rn.weak (ll_s (ll_s (ll_s (ll_n ll_e)))) (RX12_fix_b31 hd hR t0 p1 p2 L32_1 hq e)
  · rw [if_neg c_3384] at e
    refine Rn.bt hT rfl rfl rfl (decide_eq_true (fun z => c_3384 ((ti_e ps1 ps0).mp z))) ?_
    exact Rn.weak (ll_s (ll_s (ll_s (ll_n ll_e)))) (RX12_fix_b30 hd hR t0 p1 p2 hq e)
def FX12_fix (N : Nat) (s : iv_M) (q0 : Nat) (x1 : Int) (x2 : Int) : Option (Int × iv_M) := ((FX12_isRoom N s q0 x1).bind fun v_3380 => (if v_3380 = 0 then (FX12_fix_b30 N s q0 x1 x2) else ((rd s (q0 + 5) 12 x1).bind fun v_3382 => (if x2 = 0 then (FX12_fix_b23 N s q0 x1 x2 1 v_3382) else (FX12_fix_b23 N s q0 x1 x2 0 v_3382)))))
set_option maxRecDepth 10000 in
set_option maxHeartbeats 4000000 in
theorem RX12_fix {d N nc Ls : Nat} {Xs : Nat → Int32} (hd : 3 ≤ d) {h : iv_H} {s : iv_M} (hR : Rep nc Ls Xs h s) {q0 : Nat} (t0 : T12 nc q0) {m1 : Int32} {x1 : Int} (p1 : m1.toInt = x1) {m2 : Int32} {x2 : Int} (p2 : m2.toInt = x2) {r : Int × iv_M} {Q : Option Value → iv_H → Prop} (e : FX12_fix N s q0 x1 x2 = some r) (hq : ∀ (z : Int32) (h1 : iv_H), z.toInt = r.1 → Rep nc Ls Xs h1 r.2 → Q (some (.int z)) h1) : Cl d 276 [.ref q0, .int m1, .int m2] h Q := by
  obtain ⟨d, rfl⟩ : ∃ k, d = k + 1 := ⟨d - 1, by omega⟩
  have hd : 2 ≤ d := by omega
  have hT := hX12_fix
  unfold FX12_fix at e
  refine Cl.into (by decide) gX12_fix rfl ?_
  show Rn d 276 (some .boolean) 0 [some (.ref q0), some (.int m1), some (.int m2), none] [] h Q
  refine Rn.n hT 2 (pc' := 2) (L' := [some (.ref q0), some (.int m1), some (.int m2), none]) (st' := [.int m1, .ref q0]) rfl ?_
  obtain ⟨v_3380, e_3380, e⟩ := Option.bind_eq_some_iff.mp e
  refine Rn.call hT rfl rfl rfl (Nat.le_of_ble_eq_true rfl) (rcv_v gX12_isRoom (by omega) (rp_ck hR (T12_o t0))) (RX12_isRoom (by omega) hR t0 p1 e_3380 (fun z_3380 p_3380 => ?_))
  show Rn d _ _ 5 [some (.ref q0), some (.int m1), some (.int m2), none] [.int z_3380] h Q
  by_cases c_3381 : v_3380 = 0
  · rw [if_pos c_3381] at e
    refine Rn.bt hT rfl rfl rfl (decide_eq_true ((ti_e p_3380 L32_0).mpr c_3381)) ?_
    exact Rn.weak (ll_s (ll_s (ll_s (ll_n ll_e)))) (RX12_fix_b30 hd hR t0 p1 p2 hq e)
  · rw [if_neg c_3381] at e
    refine Rn.bf hT rfl rfl rfl (decide_eq_false (fun z => c_3381 ((ti_e p_3380 L32_0).mp z))) ?_
    refine Rn.n hT 1 (pc' := 9) (L' := [some (.ref q0), some (.int m1), some (.int m2), none]) (st' := [.ref q0]) rfl ?_
    refine Rn.hp hT rfl rfl (gR_hp (rp_gR hR (T12_o t0) rfl)) ?_
    refine Rn.n hT 1 (pc' := 13) (L' := [some (.ref q0), some (.int m1), some (.int m2), none]) (st' := [.int m1, .ref (q0 + 5)]) rfl ?_
    obtain ⟨v_3382, e_3382, e⟩ := Option.bind_eq_some_iff.mp e
    obtain ⟨z_3382, g_3382, p_3382⟩ := rp_aI hR (T12_5 t0) (T12_5l t0) p1 e_3382
    refine Rn.hp hT rfl rfl (aI_hp g_3382) ?_
    refine Rn.n hT 1 (pc' := 15) (L' := [some (.ref q0), some (.int m1), some (.int m2), none]) (st' := [.int m2, .int z_3382]) rfl ?_
    by_cases c_3383 : x2 = 0
    · rw [if_pos c_3383] at e
      refine Rn.bt hT rfl rfl rfl (decide_eq_true ((ti_e p2 L32_0).mpr c_3383)) ?_
      refine Rn.n hT 1 (pc' := 23) (L' := [some (.ref q0), some (.int m1), some (.int m2), none]) (st' := [.int (1 : Int32), .int z_3382]) rfl ?_
      exact Rn.weak (ll_s (ll_s (ll_s (ll_n ll_e)))) (RX12_fix_b23 hd hR t0 p1 p2 L32_1 p_3382 hq e)
    · rw [if_neg c_3383] at e
      refine Rn.bf hT rfl rfl rfl (decide_eq_false (fun z => c_3383 ((ti_e p2 L32_0).mp z))) ?_
      refine Rn.n hT 2 (pc' := 23) (L' := [some (.ref q0), some (.int m1), some (.int m2), none]) (st' := [.int (0 : Int32), .int z_3382]) rfl ?_
      exact Rn.weak (ll_s (ll_s (ll_s (ll_n ll_e)))) (RX12_fix_b23 hd hR t0 p1 p2 L32_0 p_3382 hq e)
set_option maxRecDepth 10000 in
theorem hX12_fillsFloor : iv_Tb 277 tX12_fillsFloor := iv_tb_of (m := mX12_fillsFloor) rfl
set_option maxRecDepth 10000 in
theorem gX12_fillsFloor : PG.2 277 = some mX12_fillsFloor := iv_pi_of (t := tX12_fillsFloor) rfl (by decide)
def FX12_fillsFloor_l2 (N : Nat) (q0 : Nat) (q1 : Nat) (x2 : Int) (kx : iv_M → Option (iv_M)) : Nat → iv_M → Int → Option (iv_M)
  | 0, _, _ => none
  | n + 1, s, x3 => (if 12 ≤ x3 then (kx s) else ((rd s (q0 + 3) 12 x3).bind fun v_3395 => ((wr s q1 ((sh q1).2 : Int) (w32 (x2 + (w32 (2 * x3)))) v_3395).bind fun s_3396 => ((rd s_3396 (q0 + 4) 12 x3).bind fun v_3398 => ((wr s_3396 q1 ((sh q1).2 : Int) (w32 ((w32 (x2 + (w32 (2 * x3)))) + 1)) v_3398).bind fun s_3399 => (FX12_fillsFloor_l2 N q0 q1 x2 kx n s_3399 (w32 (x3 + 1))))))))
set_option maxRecDepth 10000 in
set_option maxHeartbeats 4000000 in
theorem RX12_fillsFloor_l2 {d N nc Ls : Nat} {Xs : Nat → Int32} (hd : 0 ≤ d) {q0 : Nat} (t0 : T12 nc q0) {q1 : Nat} (t1 : TA 0 nc q1) {m2 : Int32} {x2 : Int} (p2 : m2.toInt = x2) {kx : iv_M → Option (iv_M)} {r : iv_M} {Q : Option Value → iv_H → Prop} (hk : ∀ (h : iv_H) (s : iv_M) (hR : Rep nc Ls Xs h s), kx s = some r → Rn d 277 none 42 [none, none, none, none] [] h Q) (hq : ∀ h1, Rep nc Ls Xs h1 r → Q none h1) : ∀ (n : Nat) (h : iv_H) (s : iv_M) (hR : Rep nc Ls Xs h s) (m3 : Int32) (x3 : Int) (p3 : m3.toInt = x3), FX12_fillsFloor_l2 N q0 q1 x2 kx n s x3 = some r → Rn d 277 none 2 [some (.ref q0), some (.ref q1), some (.int m2), some (.int m3)] [] h Q := by
  have hT := hX12_fillsFloor
  intro n
  induction n with
  | zero =>
    intro h s hR m3 x3 p3 e
    rw [FX12_fillsFloor_l2] at e
    cases e
  | succ n ih =>
    intro h s hR m3 x3 p3 e
    rw [FX12_fillsFloor_l2] at e
    refine Rn.n hT 2 (pc' := 5) (L' := [some (.ref q0), some (.ref q1), some (.int m2), some (.int m3)]) (st' := [.int (12 : Int32), .int m3]) rfl ?_
    by_cases c_3394 : 12 ≤ x3
    · rw [if_pos c_3394] at e
      refine Rn.bt hT rfl rfl rfl (decide_eq_true ((ti_le L32_12 p3).mpr c_3394)) ?_
      exact Rn.weak (ll_n (ll_n (ll_n (ll_n ll_e)))) (hk h s hR e)
    · rw [if_neg c_3394] at e
      refine Rn.bf hT rfl rfl rfl (decide_eq_false (fun z => c_3394 ((ti_le L32_12 p3).mp z))) ?_
      refine Rn.n hT 7 (pc' := 15) (L' := [some (.ref q0), some (.ref q1), some (.int m2), some (.int m3)]) (st' := [.ref q0, .int (m2 + ((2 : Int32) * m3)), .ref q1]) rfl ?_
      refine Rn.hp hT rfl rfl (gR_hp (rp_gR hR (T12_o t0) rfl)) ?_
      refine Rn.n hT 1 (pc' := 19) (L' := [some (.ref q0), some (.ref q1), some (.int m2), some (.int m3)]) (st' := [.int m3, .ref (q0 + 3), .int (m2 + ((2 : Int32) * m3)), .ref q1]) rfl ?_
      obtain ⟨v_3395, e_3395, e⟩ := Option.bind_eq_some_iff.mp e
      obtain ⟨z_3395, g_3395, p_3395⟩ := rp_aI hR (T12_3 t0) (T12_3l t0) p3 e_3395
      refine Rn.hp hT rfl rfl (aI_hp g_3395) ?_
      obtain ⟨s_3396, e_3397, e⟩ := Option.bind_eq_some_iff.mp e
      obtain ⟨h_3396, g_3397, R_3396⟩ := rp_wI hR t1 rfl (ti_add p2 (ti_mul L32_2 p3)) p_3395 e_3397
      refine Rn.hp hT rfl rfl (wI_hp g_3397) ?_
      refine Rn.n hT 9 (pc' := 30) (L' := [some (.ref q0), some (.ref q1), some (.int m2), some (.int m3)]) (st' := [.ref q0, .int ((m2 + ((2 : Int32) * m3)) + (1 : Int32)), .ref q1]) rfl ?_
      refine Rn.hp hT rfl rfl (gR_hp (rp_gR R_3396 (T12_o t0) rfl)) ?_
      refine Rn.n hT 1 (pc' := 34) (L' := [some (.ref q0), some (.ref q1), some (.int m2), some (.int m3)]) (st' := [.int m3, .ref (q0 + 4), .int ((m2 + ((2 : Int32) * m3)) + (1 : Int32)), .ref q1]) rfl ?_
      obtain ⟨v_3398, e_3398, e⟩ := Option.bind_eq_some_iff.mp e
      obtain ⟨z_3398, g_3398, p_3398⟩ := rp_aI R_3396 (T12_4 t0) (T12_4l t0) p3 e_3398
      refine Rn.hp hT rfl rfl (aI_hp g_3398) ?_
      obtain ⟨s_3399, e_3400, e⟩ := Option.bind_eq_some_iff.mp e
      obtain ⟨h_3399, g_3400, R_3399⟩ := rp_wI R_3396 t1 rfl (ti_add (ti_add p2 (ti_mul L32_2 p3)) L32_1) p_3398 e_3400
      refine Rn.hp hT rfl rfl (wI_hp g_3400) ?_
      refine Rn.n hT 2 (pc' := 2) (L' := [some (.ref q0), some (.ref q1), some (.int m2), some (.int (m3 + (1 : Int32)))]) (st' := []) rfl ?_
      exact Rn.weak (ll_s (ll_s (ll_s (ll_s ll_e)))) (ih h_3399 s_3399 R_3399 (m3 + (1 : Int32)) (w32 (x3 + 1)) (ti_add p3 L32_1) e)
def FX12_fillsFloor (N : Nat) (s : iv_M) (q0 : Nat) (q1 : Nat) (x2 : Int) : Option (iv_M) := (FX12_fillsFloor_l2 N q0 q1 x2 (fun (s_3392 : iv_M) => some s_3392) N s 0)
set_option maxRecDepth 10000 in
set_option maxHeartbeats 4000000 in
theorem RX12_fillsFloor {d N nc Ls : Nat} {Xs : Nat → Int32} (hd : 1 ≤ d) {h : iv_H} {s : iv_M} (hR : Rep nc Ls Xs h s) {q0 : Nat} (t0 : T12 nc q0) {q1 : Nat} (t1 : TA 0 nc q1) {m2 : Int32} {x2 : Int} (p2 : m2.toInt = x2) {r : iv_M} {Q : Option Value → iv_H → Prop} (e : FX12_fillsFloor N s q0 q1 x2 = some r) (hq : ∀ h1, Rep nc Ls Xs h1 r → Q none h1) : Cl d 277 [.ref q0, .ref q1, .int m2] h Q := by
  obtain ⟨d, rfl⟩ : ∃ k, d = k + 1 := ⟨d - 1, by omega⟩
  have hd : 0 ≤ d := by omega
  have hT := hX12_fillsFloor
  unfold FX12_fillsFloor at e
  refine Cl.into (by decide) gX12_fillsFloor rfl ?_
  show Rn d 277 none 0 [some (.ref q0), some (.ref q1), some (.int m2), none] [] h Q
  refine Rn.n hT 2 (pc' := 2) (L' := [some (.ref q0), some (.ref q1), some (.int m2), some (.int (0 : Int32))]) (st' := []) rfl ?_
  refine Rn.weak (ll_s (ll_s (ll_s (ll_s ll_e)))) (RX12_fillsFloor_l2 hd t0 t1 p2 (fun h_3392 s_3392 R_3392 e => ?_) hq N h s hR (0 : Int32) 0 L32_0 e)
  try dsimp only at e
  obtain rfl := Option.some.inj e
  exact Rn.ret hT rfl rfl rfl (hq h_3392 R_3392)
set_option maxRecDepth 10000 in
theorem hX12_laysFloor : iv_Tb 278 tX12_laysFloor := iv_tb_of (m := mX12_laysFloor) rfl
set_option maxRecDepth 10000 in
theorem gX12_laysFloor : PG.2 278 = some mX12_laysFloor := iv_pi_of (t := tX12_laysFloor) rfl (by decide)
def FX12_laysFloor_l2 (N : Nat) (q0 : Nat) (q1 : Nat) (x2 : Int) (kx : iv_M → Option (iv_M)) : Nat → iv_M → Int → Option (iv_M)
  | 0, _, _ => none
  | n + 1, s, x3 => (if 16 ≤ x3 then (kx s) else ((wr s (q0 + 8) 16 x3 (-1)).bind fun s_3406 => (FX12_laysFloor_l2 N q0 q1 x2 kx n s_3406 (w32 (x3 + 1)))))
set_option maxRecDepth 10000 in
set_option maxHeartbeats 4000000 in
theorem RX12_laysFloor_l2 {d N nc Ls : Nat} {Xs : Nat → Int32} (hd : 0 ≤ d) {q0 : Nat} (t0 : T12 nc q0) {q1 : Nat} (t1 : TA 0 nc q1) {m2 : Int32} {x2 : Int} (p2 : m2.toInt = x2) {kx : iv_M → Option (iv_M)} {r : iv_M} {Q : Option Value → iv_H → Prop} (hk : ∀ (h : iv_H) (s : iv_M) (hR : Rep nc Ls Xs h s), kx s = some r → Rn d 278 none 21 [some (.ref q0), some (.ref q1), some (.int m2), none] [] h Q) (hq : ∀ h1, Rep nc Ls Xs h1 r → Q none h1) : ∀ (n : Nat) (h : iv_H) (s : iv_M) (hR : Rep nc Ls Xs h s) (m3 : Int32) (x3 : Int) (p3 : m3.toInt = x3), FX12_laysFloor_l2 N q0 q1 x2 kx n s x3 = some r → Rn d 278 none 2 [some (.ref q0), some (.ref q1), some (.int m2), some (.int m3)] [] h Q := by
  have hT := hX12_laysFloor
  intro n
  induction n with
  | zero =>
    intro h s hR m3 x3 p3 e
    rw [FX12_laysFloor_l2] at e
    cases e
  | succ n ih =>
    intro h s hR m3 x3 p3 e
    rw [FX12_laysFloor_l2] at e
    refine Rn.n hT 2 (pc' := 5) (L' := [some (.ref q0), some (.ref q1), some (.int m2), some (.int m3)]) (st' := [.int (16 : Int32), .int m3]) rfl ?_
    by_cases c_3405 : 16 ≤ x3
    · rw [if_pos c_3405] at e
      refine Rn.bt hT rfl rfl rfl (decide_eq_true ((ti_le L32_16 p3).mpr c_3405)) ?_
      exact Rn.weak (ll_s (ll_s (ll_s (ll_n ll_e)))) (hk h s hR e)
    · rw [if_neg c_3405] at e
      refine Rn.bf hT rfl rfl rfl (decide_eq_false (fun z => c_3405 ((ti_le L32_16 p3).mp z))) ?_
      refine Rn.n hT 1 (pc' := 9) (L' := [some (.ref q0), some (.ref q1), some (.int m2), some (.int m3)]) (st' := [.ref q0]) rfl ?_
      refine Rn.hp hT rfl rfl (gR_hp (rp_gR hR (T12_o t0) rfl)) ?_
      refine Rn.n hT 2 (pc' := 14) (L' := [some (.ref q0), some (.ref q1), some (.int m2), some (.int m3)]) (st' := [.int (-1 : Int32), .int m3, .ref (q0 + 8)]) rfl ?_
      obtain ⟨s_3406, e_3407, e⟩ := Option.bind_eq_some_iff.mp e
      obtain ⟨h_3406, g_3407, R_3406⟩ := rp_wI hR (T12_8 t0) (T12_8l t0) p3 L32_m1 e_3407
      refine Rn.hp hT rfl rfl (wI_hp g_3407) ?_
      refine Rn.n hT 2 (pc' := 2) (L' := [some (.ref q0), some (.ref q1), some (.int m2), some (.int (m3 + (1 : Int32)))]) (st' := []) rfl ?_
      exact Rn.weak (ll_s (ll_s (ll_s (ll_s ll_e)))) (ih h_3406 s_3406 R_3406 (m3 + (1 : Int32)) (w32 (x3 + 1)) (ti_add p3 L32_1) e)
def FX12_laysFloor_l23 (N : Nat) (q0 : Nat) (q1 : Nat) (x2 : Int) (kx : iv_M → Option (iv_M)) : Nat → iv_M → Int → Option (iv_M)
  | 0, _, _ => none
  | n + 1, s, x3 => ((rd s (q0 + 1) 14 2).bind fun v_3408 => (if v_3408 ≤ x3 then (kx s) else ((rd s q1 ((sh q1).2 : Int) (w32 (x2 + (w32 (2 * x3))))).bind fun v_3410 => ((wr s (q0 + 3) 12 x3 v_3410).bind fun s_3411 => ((rd s_3411 q1 ((sh q1).2 : Int) (w32 ((w32 (x2 + (w32 (2 * x3)))) + 1))).bind fun v_3413 => ((wr s_3411 (q0 + 4) 12 x3 v_3413).bind fun s_3414 => ((rd s_3414 (q0 + 3) 12 x3).bind fun v_3416 => ((wr s_3414 (q0 + 8) 16 v_3416 x3).bind fun s_3417 => (FX12_laysFloor_l23 N q0 q1 x2 kx n s_3417 (w32 (x3 + 1)))))))))))
set_option maxRecDepth 10000 in
set_option maxHeartbeats 4000000 in
theorem RX12_laysFloor_l23 {d N nc Ls : Nat} {Xs : Nat → Int32} (hd : 0 ≤ d) {q0 : Nat} (t0 : T12 nc q0) {q1 : Nat} (t1 : TA 0 nc q1) {m2 : Int32} {x2 : Int} (p2 : m2.toInt = x2) {kx : iv_M → Option (iv_M)} {r : iv_M} {Q : Option Value → iv_H → Prop} (hk : ∀ (h : iv_H) (s : iv_M) (hR : Rep nc Ls Xs h s), kx s = some r → Rn d 278 none 79 [none, none, none, none] [] h Q) (hq : ∀ h1, Rep nc Ls Xs h1 r → Q none h1) : ∀ (n : Nat) (h : iv_H) (s : iv_M) (hR : Rep nc Ls Xs h s) (m3 : Int32) (x3 : Int) (p3 : m3.toInt = x3), FX12_laysFloor_l23 N q0 q1 x2 kx n s x3 = some r → Rn d 278 none 23 [some (.ref q0), some (.ref q1), some (.int m2), some (.int m3)] [] h Q := by
  have hT := hX12_laysFloor
  intro n
  induction n with
  | zero =>
    intro h s hR m3 x3 p3 e
    rw [FX12_laysFloor_l23] at e
    cases e
  | succ n ih =>
    intro h s hR m3 x3 p3 e
    rw [FX12_laysFloor_l23] at e
    refine Rn.n hT 2 (pc' := 25) (L' := [some (.ref q0), some (.ref q1), some (.int m2), some (.int m3)]) (st' := [.ref q0, .int m3]) rfl ?_
    refine Rn.hp hT rfl rfl (gR_hp (rp_gR hR (T12_o t0) rfl)) ?_
    refine Rn.n hT 1 (pc' := 29) (L' := [some (.ref q0), some (.ref q1), some (.int m2), some (.int m3)]) (st' := [.int (2 : Int32), .ref (q0 + 1), .int m3]) rfl ?_
    obtain ⟨v_3408, e_3408, e⟩ := Option.bind_eq_some_iff.mp e
    obtain ⟨z_3408, g_3408, p_3408⟩ := rp_aI hR (T12_1 t0) (T12_1l t0) L32_2 e_3408
    refine Rn.hp hT rfl rfl (aI_hp g_3408) ?_
    by_cases c_3409 : v_3408 ≤ x3
    · rw [if_pos c_3409] at e
      refine Rn.bt hT rfl rfl rfl (decide_eq_true ((ti_le p_3408 p3).mpr c_3409)) ?_
      exact Rn.weak (ll_n (ll_n (ll_n (ll_n ll_e)))) (hk h s hR e)
    · rw [if_neg c_3409] at e
      refine Rn.bf hT rfl rfl rfl (decide_eq_false (fun z => c_3409 ((ti_le p_3408 p3).mp z))) ?_
      refine Rn.n hT 1 (pc' := 34) (L' := [some (.ref q0), some (.ref q1), some (.int m2), some (.int m3)]) (st' := [.ref q0]) rfl ?_
      refine Rn.hp hT rfl rfl (gR_hp (rp_gR hR (T12_o t0) rfl)) ?_
      refine Rn.n hT 7 (pc' := 44) (L' := [some (.ref q0), some (.ref q1), some (.int m2), some (.int m3)]) (st' := [.int (m2 + ((2 : Int32) * m3)), .ref q1, .int m3, .ref (q0 + 3)]) rfl ?_
      obtain ⟨v_3410, e_3410, e⟩ := Option.bind_eq_some_iff.mp e
      obtain ⟨z_3410, g_3410, p_3410⟩ := rp_aI hR t1 rfl (ti_add p2 (ti_mul L32_2 p3)) e_3410
      refine Rn.hp hT rfl rfl (aI_hp g_3410) ?_
      obtain ⟨s_3411, e_3412, e⟩ := Option.bind_eq_some_iff.mp e
      obtain ⟨h_3411, g_3412, R_3411⟩ := rp_wI hR (T12_3 t0) (T12_3l t0) p3 p_3410 e_3412
      refine Rn.hp hT rfl rfl (wI_hp g_3412) ?_
      refine Rn.n hT 1 (pc' := 47) (L' := [some (.ref q0), some (.ref q1), some (.int m2), some (.int m3)]) (st' := [.ref q0]) rfl ?_
      refine Rn.hp hT rfl rfl (gR_hp (rp_gR R_3411 (T12_o t0) rfl)) ?_
      refine Rn.n hT 9 (pc' := 59) (L' := [some (.ref q0), some (.ref q1), some (.int m2), some (.int m3)]) (st' := [.int ((m2 + ((2 : Int32) * m3)) + (1 : Int32)), .ref q1, .int m3, .ref (q0 + 4)]) rfl ?_
      obtain ⟨v_3413, e_3413, e⟩ := Option.bind_eq_some_iff.mp e
      obtain ⟨z_3413, g_3413, p_3413⟩ := rp_aI R_3411 t1 rfl (ti_add (ti_add p2 (ti_mul L32_2 p3)) L32_1) e_3413
      refine Rn.hp hT rfl rfl (aI_hp g_3413) ?_
      obtain ⟨s_3414, e_3415, e⟩ := Option.bind_eq_some_iff.mp e
      obtain ⟨h_3414, g_3415, R_3414⟩ := rp_wI R_3411 (T12_4 t0) (T12_4l t0) p3 p_3413 e_3415
      refine Rn.hp hT rfl rfl (wI_hp g_3415) ?_
      refine Rn.n hT 1 (pc' := 62) (L' := [some (.ref q0), some (.ref q1), some (.int m2), some (.int m3)]) (st' := [.ref q0]) rfl ?_
      refine Rn.hp hT rfl rfl (gR_hp (rp_gR R_3414 (T12_o t0) rfl)) ?_
      refine Rn.n hT 1 (pc' := 66) (L' := [some (.ref q0), some (.ref q1), some (.int m2), some (.int m3)]) (st' := [.ref q0, .ref (q0 + 8)]) rfl ?_
      refine Rn.hp hT rfl rfl (gR_hp (rp_gR R_3414 (T12_o t0) rfl)) ?_
      refine Rn.n hT 1 (pc' := 70) (L' := [some (.ref q0), some (.ref q1), some (.int m2), some (.int m3)]) (st' := [.int m3, .ref (q0 + 3), .ref (q0 + 8)]) rfl ?_
      obtain ⟨v_3416, e_3416, e⟩ := Option.bind_eq_some_iff.mp e
      obtain ⟨z_3416, g_3416, p_3416⟩ := rp_aI R_3414 (T12_3 t0) (T12_3l t0) p3 e_3416
      refine Rn.hp hT rfl rfl (aI_hp g_3416) ?_
      refine Rn.n hT 1 (pc' := 72) (L' := [some (.ref q0), some (.ref q1), some (.int m2), some (.int m3)]) (st' := [.int m3, .int z_3416, .ref (q0 + 8)]) rfl ?_
      obtain ⟨s_3417, e_3418, e⟩ := Option.bind_eq_some_iff.mp e
      obtain ⟨h_3417, g_3418, R_3417⟩ := rp_wI R_3414 (T12_8 t0) (T12_8l t0) p_3416 p3 e_3418
      refine Rn.hp hT rfl rfl (wI_hp g_3418) ?_
      refine Rn.n hT 2 (pc' := 23) (L' := [some (.ref q0), some (.ref q1), some (.int m2), some (.int (m3 + (1 : Int32)))]) (st' := []) rfl ?_
      exact Rn.weak (ll_s (ll_s (ll_s (ll_s ll_e)))) (ih h_3417 s_3417 R_3417 (m3 + (1 : Int32)) (w32 (x3 + 1)) (ti_add p3 L32_1) e)
def FX12_laysFloor (N : Nat) (s : iv_M) (q0 : Nat) (q1 : Nat) (x2 : Int) : Option (iv_M) := (FX12_laysFloor_l2 N q0 q1 x2 (fun (s_3401 : iv_M) => (FX12_laysFloor_l23 N q0 q1 x2 (fun (s_3403 : iv_M) => some s_3403) N s_3401 0)) N s 0)
set_option maxRecDepth 10000 in
set_option maxHeartbeats 4000000 in
theorem RX12_laysFloor {d N nc Ls : Nat} {Xs : Nat → Int32} (hd : 1 ≤ d) {h : iv_H} {s : iv_M} (hR : Rep nc Ls Xs h s) {q0 : Nat} (t0 : T12 nc q0) {q1 : Nat} (t1 : TA 0 nc q1) {m2 : Int32} {x2 : Int} (p2 : m2.toInt = x2) {r : iv_M} {Q : Option Value → iv_H → Prop} (e : FX12_laysFloor N s q0 q1 x2 = some r) (hq : ∀ h1, Rep nc Ls Xs h1 r → Q none h1) : Cl d 278 [.ref q0, .ref q1, .int m2] h Q := by
  obtain ⟨d, rfl⟩ : ∃ k, d = k + 1 := ⟨d - 1, by omega⟩
  have hd : 0 ≤ d := by omega
  have hT := hX12_laysFloor
  unfold FX12_laysFloor at e
  refine Cl.into (by decide) gX12_laysFloor rfl ?_
  show Rn d 278 none 0 [some (.ref q0), some (.ref q1), some (.int m2), none] [] h Q
  refine Rn.n hT 2 (pc' := 2) (L' := [some (.ref q0), some (.ref q1), some (.int m2), some (.int (0 : Int32))]) (st' := []) rfl ?_
  refine Rn.weak (ll_s (ll_s (ll_s (ll_s ll_e)))) (RX12_laysFloor_l2 hd t0 t1 p2 (fun h_3401 s_3401 R_3401 e => ?_) hq N h s hR (0 : Int32) 0 L32_0 e)
  try dsimp only at e
  refine Rn.n hT 2 (pc' := 23) (L' := [some (.ref q0), some (.ref q1), some (.int m2), some (.int (0 : Int32))]) (st' := []) rfl ?_
  refine Rn.weak (ll_s (ll_s (ll_s (ll_s ll_e)))) (RX12_laysFloor_l23 hd t0 t1 p2 (fun h_3403 s_3403 R_3403 e => ?_) hq N h_3401 s_3401 R_3401 (0 : Int32) 0 L32_0 e)
  try dsimp only at e
  obtain rfl := Option.some.inj e
  exact Rn.ret hT rfl rfl rfl (hq h_3403 R_3403)
set_option maxRecDepth 10000 in
theorem hX12_keepsNight : iv_Tb 279 tX12_keepsNight := iv_tb_of (m := mX12_keepsNight) rfl
set_option maxRecDepth 10000 in
theorem gX12_keepsNight : PG.2 279 = some mX12_keepsNight := iv_pi_of (t := tX12_keepsNight) rfl (by decide)
def FX12_keepsNight_l15 (N : Nat) (q0 : Nat) (kx : iv_M → Option (iv_M)) : Nat → iv_M → Int → Option (iv_M)
  | 0, _, _ => none
  | n + 1, s, x1 => (if 480 ≤ x1 then (kx s) else ((rd s (q0 + 9) 480 x1).bind fun v_3427 => ((wr s (q0 + 9) 480 (w32 (x1 - 24)) v_3427).bind fun s_3428 => (FX12_keepsNight_l15 N q0 kx n s_3428 (w32 (x1 + 1))))))
set_option maxRecDepth 10000 in
set_option maxHeartbeats 4000000 in
theorem RX12_keepsNight_l15 {d N nc Ls : Nat} {Xs : Nat → Int32} (hd : 1 ≤ d) {q0 : Nat} (t0 : T12 nc q0) {kx : iv_M → Option (iv_M)} {r : iv_M} {Q : Option Value → iv_H → Prop} (hk : ∀ (h : iv_H) (s : iv_M) (hR : Rep nc Ls Xs h s), kx s = some r → Rn d 279 none 43 [some (.ref q0), none] [] h Q) (hq : ∀ h1, Rep nc Ls Xs h1 r → Q none h1) : ∀ (n : Nat) (h : iv_H) (s : iv_M) (hR : Rep nc Ls Xs h s) (m1 : Int32) (x1 : Int) (p1 : m1.toInt = x1), FX12_keepsNight_l15 N q0 kx n s x1 = some r → Rn d 279 none 15 [some (.ref q0), some (.int m1)] [] h Q := by
  have hT := hX12_keepsNight
  intro n
  induction n with
  | zero =>
    intro h s hR m1 x1 p1 e
    rw [FX12_keepsNight_l15] at e
    cases e
  | succ n ih =>
    intro h s hR m1 x1 p1 e
    rw [FX12_keepsNight_l15] at e
    refine Rn.n hT 2 (pc' := 19) (L' := [some (.ref q0), some (.int m1)]) (st' := [.int (480 : Int32), .int m1]) rfl ?_
    by_cases c_3426 : 480 ≤ x1
    · rw [if_pos c_3426] at e
      refine Rn.bt hT rfl rfl rfl (decide_eq_true ((ti_le L32_480 p1).mpr c_3426)) ?_
      exact Rn.weak (ll_s (ll_n ll_e)) (hk h s hR e)
    · rw [if_neg c_3426] at e
      refine Rn.bf hT rfl rfl rfl (decide_eq_false (fun z => c_3426 ((ti_le L32_480 p1).mp z))) ?_
      refine Rn.n hT 1 (pc' := 23) (L' := [some (.ref q0), some (.int m1)]) (st' := [.ref q0]) rfl ?_
      refine Rn.hp hT rfl rfl (gR_hp (rp_gR hR (T12_o t0) rfl)) ?_
      refine Rn.n hT 4 (pc' := 31) (L' := [some (.ref q0), some (.int m1)]) (st' := [.ref q0, .int (m1 - (24 : Int32)), .ref (q0 + 9)]) rfl ?_
      refine Rn.hp hT rfl rfl (gR_hp (rp_gR hR (T12_o t0) rfl)) ?_
      refine Rn.n hT 1 (pc' := 35) (L' := [some (.ref q0), some (.int m1)]) (st' := [.int m1, .ref (q0 + 9), .int (m1 - (24 : Int32)), .ref (q0 + 9)]) rfl ?_
      obtain ⟨v_3427, e_3427, e⟩ := Option.bind_eq_some_iff.mp e
      obtain ⟨z_3427, g_3427, p_3427⟩ := rp_aI hR (T12_9 t0) (T12_9l t0) p1 e_3427
      refine Rn.hp hT rfl rfl (aI_hp g_3427) ?_
      obtain ⟨s_3428, e_3429, e⟩ := Option.bind_eq_some_iff.mp e
      obtain ⟨h_3428, g_3429, R_3428⟩ := rp_wI hR (T12_9 t0) (T12_9l t0) (ti_sub p1 L32_24) p_3427 e_3429
      refine Rn.hp hT rfl rfl (wI_hp g_3429) ?_
      refine Rn.n hT 2 (pc' := 15) (L' := [some (.ref q0), some (.int (m1 + (1 : Int32)))]) (st' := []) rfl ?_
      exact Rn.weak (ll_s (ll_s ll_e)) (ih h_3428 s_3428 R_3428 (m1 + (1 : Int32)) (w32 (x1 + 1)) (ti_add p1 L32_1) e)
def FX12_keepsNight_b54 (N : Nat) (s : iv_M) (q0 : Nat)  : Option (iv_M) := ((rd s (q0 + 1) 14 7).bind fun v_3430 => ((FX12_fillsFloor N s q0 (q0 + 9) (w32 (24 * v_3430))).bind fun s_3432 => ((rd s_3432 (q0 + 1) 14 7).bind fun v_3433 => ((wr s_3432 (q0 + 1) 14 7 (w32 (v_3433 + 1))).bind fun s_3434 => ((rd s_3434 (q0 + 1) 14 6).bind fun v_3436 => ((wr s_3434 (q0 + 1) 14 6 (w32 (v_3436 + 1))).bind fun s_3437 => some s_3437))))))
set_option maxRecDepth 10000 in
set_option maxHeartbeats 4000000 in
theorem RX12_keepsNight_b54 {d N nc Ls : Nat} {Xs : Nat → Int32} (hd : 1 ≤ d) {h : iv_H} {s : iv_M} (hR : Rep nc Ls Xs h s) {q0 : Nat} (t0 : T12 nc q0)  {r : iv_M} {Q : Option Value → iv_H → Prop} (hq : ∀ h1, Rep nc Ls Xs h1 r → Q none h1) (e : FX12_keepsNight_b54 N s q0  = some r) : Rn d 279 none 54 [some (.ref q0), none] [] h Q := by
  have hT := hX12_keepsNight
  unfold FX12_keepsNight_b54 at e
  refine Rn.n hT 2 (pc' := 56) (L' := [some (.ref q0), none]) (st' := [.ref q0, .ref q0]) rfl ?_
  refine Rn.hp hT rfl rfl (gR_hp (rp_gR hR (T12_o t0) rfl)) ?_
  refine Rn.n hT 2 (pc' := 62) (L' := [some (.ref q0), none]) (st' := [.ref q0, .int (24 : Int32), .ref (q0 + 9), .ref q0]) rfl ?_
  refine Rn.hp hT rfl rfl (gR_hp (rp_gR hR (T12_o t0) rfl)) ?_
  refine Rn.n hT 1 (pc' := 67) (L' := [some (.ref q0), none]) (st' := [.int (7 : Int32), .ref (q0 + 1), .int (24 : Int32), .ref (q0 + 9), .ref q0]) rfl ?_
  obtain ⟨v_3430, e_3430, e⟩ := Option.bind_eq_some_iff.mp e
  obtain ⟨z_3430, g_3430, p_3430⟩ := rp_aI hR (T12_1 t0) (T12_1l t0) L32_7 e_3430
  refine Rn.hp hT rfl rfl (aI_hp g_3430) ?_
  refine Rn.n hT 1 (pc' := 69) (L' := [some (.ref q0), none]) (st' := [.int ((24 : Int32) * z_3430), .ref (q0 + 9), .ref q0]) rfl ?_
  obtain ⟨s_3432, e_3431, e⟩ := Option.bind_eq_some_iff.mp e
  refine Rn.call hT rfl rfl rfl (Nat.le_of_ble_eq_true rfl) (rcv_v gX12_fillsFloor (by omega) (rp_ck hR (T12_o t0))) (RX12_fillsFloor (by omega) hR t0 (T12_9 t0) (ti_mul L32_24 p_3430) e_3431 (fun h_3432 R_3432 => ?_))
  show Rn d _ _ 72 [some (.ref q0), none] [] h_3432 Q
  refine Rn.n hT 1 (pc' := 73) (L' := [some (.ref q0), none]) (st' := [.ref q0]) rfl ?_
  refine Rn.hp hT rfl rfl (gR_hp (rp_gR R_3432 (T12_o t0) rfl)) ?_
  refine Rn.n hT 2 (pc' := 79) (L' := [some (.ref q0), none]) (st' := [.int (7 : Int32), .ref (q0 + 1), .int (7 : Int32), .ref (q0 + 1)]) rfl ?_
  obtain ⟨v_3433, e_3433, e⟩ := Option.bind_eq_some_iff.mp e
  obtain ⟨z_3433, g_3433, p_3433⟩ := rp_aI R_3432 (T12_1 t0) (T12_1l t0) L32_7 e_3433
  refine Rn.hp hT rfl rfl (aI_hp g_3433) ?_
  refine Rn.n hT 2 (pc' := 82) (L' := [some (.ref q0), none]) (st' := [.int (z_3433 + (1 : Int32)), .int (7 : Int32), .ref (q0 + 1)]) rfl ?_
  obtain ⟨s_3434, e_3435, e⟩ := Option.bind_eq_some_iff.mp e
  obtain ⟨h_3434, g_3435, R_3434⟩ := rp_wI R_3432 (T12_1 t0) (T12_1l t0) L32_7 (ti_add p_3433 L32_1) e_3435
  refine Rn.hp hT rfl rfl (wI_hp g_3435) ?_
  refine Rn.n hT 1 (pc' := 84) (L' := [some (.ref q0), none]) (st' := [.ref q0]) rfl ?_
  refine Rn.hp hT rfl rfl (gR_hp (rp_gR R_3434 (T12_o t0) rfl)) ?_
  refine Rn.n hT 2 (pc' := 90) (L' := [some (.ref q0), none]) (st' := [.int (6 : Int32), .ref (q0 + 1), .int (6 : Int32), .ref (q0 + 1)]) rfl ?_
  obtain ⟨v_3436, e_3436, e⟩ := Option.bind_eq_some_iff.mp e
  obtain ⟨z_3436, g_3436, p_3436⟩ := rp_aI R_3434 (T12_1 t0) (T12_1l t0) L32_6 e_3436
  refine Rn.hp hT rfl rfl (aI_hp g_3436) ?_
  refine Rn.n hT 2 (pc' := 93) (L' := [some (.ref q0), none]) (st' := [.int (z_3436 + (1 : Int32)), .int (6 : Int32), .ref (q0 + 1)]) rfl ?_
  obtain ⟨s_3437, e_3438, e⟩ := Option.bind_eq_some_iff.mp e
  obtain ⟨h_3437, g_3438, R_3437⟩ := rp_wI R_3434 (T12_1 t0) (T12_1l t0) L32_6 (ti_add p_3436 L32_1) e_3438
  refine Rn.hp hT rfl rfl (wI_hp g_3438) ?_
  obtain rfl := Option.some.inj e
  exact Rn.ret hT rfl rfl rfl (hq h_3437 R_3437)
def FX12_keepsNight (N : Nat) (s : iv_M) (q0 : Nat) : Option (iv_M) := ((rd s (q0 + 1) 14 7).bind fun v_3419 => (if v_3419 = 20 then (FX12_keepsNight_l15 N q0 (fun (s_3421 : iv_M) => ((rd s_3421 (q0 + 1) 14 7).bind fun v_3423 => ((wr s_3421 (q0 + 1) 14 7 (w32 (v_3423 - 1))).bind fun s_3424 => (FX12_keepsNight_b54 N s_3424 q0)))) N s 24) else (FX12_keepsNight_b54 N s q0)))
set_option maxRecDepth 10000 in
set_option maxHeartbeats 4000000 in
theorem RX12_keepsNight {d N nc Ls : Nat} {Xs : Nat → Int32} (hd : 2 ≤ d) {h : iv_H} {s : iv_M} (hR : Rep nc Ls Xs h s) {q0 : Nat} (t0 : T12 nc q0) {r : iv_M} {Q : Option Value → iv_H → Prop} (e : FX12_keepsNight N s q0 = some r) (hq : ∀ h1, Rep nc Ls Xs h1 r → Q none h1) : Cl d 279 [.ref q0] h Q := by
  obtain ⟨d, rfl⟩ : ∃ k, d = k + 1 := ⟨d - 1, by omega⟩
  have hd : 1 ≤ d := by omega
  have hT := hX12_keepsNight
  unfold FX12_keepsNight at e
  refine Cl.into (by decide) gX12_keepsNight rfl ?_
  show Rn d 279 none 0 [some (.ref q0), none] [] h Q
  refine Rn.n hT 1 (pc' := 1) (L' := [some (.ref q0), none]) (st' := [.ref q0]) rfl ?_
  refine Rn.hp hT rfl rfl (gR_hp (rp_gR hR (T12_o t0) rfl)) ?_
  refine Rn.n hT 1 (pc' := 6) (L' := [some (.ref q0), none]) (st' := [.int (7 : Int32), .ref (q0 + 1)]) rfl ?_
  obtain ⟨v_3419, e_3419, e⟩ := Option.bind_eq_some_iff.mp e
  obtain ⟨z_3419, g_3419, p_3419⟩ := rp_aI hR (T12_1 t0) (T12_1l t0) L32_7 e_3419
  refine Rn.hp hT rfl rfl (aI_hp g_3419) ?_
  refine Rn.n hT 1 (pc' := 9) (L' := [some (.ref q0), none]) (st' := [.int (20 : Int32), .int z_3419]) rfl ?_
  by_cases c_3420 : v_3419 = 20
  · rw [if_pos c_3420] at e
    refine Rn.bf hT rfl rfl rfl (decide_eq_false (fun z => z ((ti_e p_3419 L32_20).mpr c_3420))) ?_
    refine Rn.n hT 2 (pc' := 15) (L' := [some (.ref q0), some (.int (24 : Int32))]) (st' := []) rfl ?_
    refine Rn.weak (ll_s (ll_s ll_e)) (RX12_keepsNight_l15 hd t0 (fun h_3421 s_3421 R_3421 e => ?_) hq N h s hR (24 : Int32) 24 L32_24 e)
    try dsimp only at e
    refine Rn.n hT 1 (pc' := 44) (L' := [some (.ref q0), none]) (st' := [.ref q0]) rfl ?_
    refine Rn.hp hT rfl rfl (gR_hp (rp_gR R_3421 (T12_o t0) rfl)) ?_
    refine Rn.n hT 2 (pc' := 50) (L' := [some (.ref q0), none]) (st' := [.int (7 : Int32), .ref (q0 + 1), .int (7 : Int32), .ref (q0 + 1)]) rfl ?_
    obtain ⟨v_3423, e_3423, e⟩ := Option.bind_eq_some_iff.mp e
    obtain ⟨z_3423, g_3423, p_3423⟩ := rp_aI R_3421 (T12_1 t0) (T12_1l t0) L32_7 e_3423
    refine Rn.hp hT rfl rfl (aI_hp g_3423) ?_
    refine Rn.n hT 2 (pc' := 53) (L' := [some (.ref q0), none]) (st' := [.int (z_3423 - (1 : Int32)), .int (7 : Int32), .ref (q0 + 1)]) rfl ?_
    obtain ⟨s_3424, e_3425, e⟩ := Option.bind_eq_some_iff.mp e
    obtain ⟨h_3424, g_3425, R_3424⟩ := rp_wI R_3421 (T12_1 t0) (T12_1l t0) L32_7 (ti_sub p_3423 L32_1) e_3425
    refine Rn.hp hT rfl rfl (wI_hp g_3425) ?_
    exact Rn.weak (ll_s (ll_n ll_e)) (RX12_keepsNight_b54 hd R_3424 t0 hq e)
  · rw [if_neg c_3420] at e
    refine Rn.bt hT rfl rfl rfl (decide_eq_true (fun z => c_3420 ((ti_e p_3419 L32_20).mp z))) ?_
    exact Rn.weak (ll_s (ll_n ll_e)) (RX12_keepsNight_b54 hd hR t0 hq e)
set_option maxRecDepth 10000 in
theorem hX12_isWalk : iv_Tb 280 tX12_isWalk := iv_tb_of (m := mX12_isWalk) rfl
set_option maxRecDepth 10000 in
theorem gX12_isWalk : PG.2 280 = some mX12_isWalk := iv_pi_of (t := tX12_isWalk) rfl (by decide)
def FX12_isWalk_b64 (N : Nat) (s : iv_M)  (xs0 : Int) : Option (Int) := (if xs0 = 0 ∨ xs0 = 1 then some xs0 else none)
set_option maxRecDepth 10000 in
set_option maxHeartbeats 4000000 in
theorem RX12_isWalk_b64 {d N nc Ls : Nat} {Xs : Nat → Int32} (hd : 2 ≤ d) {h : iv_H} {s : iv_M} (hR : Rep nc Ls Xs h s)  {ms0 : Int32} {xs0 : Int} (ps0 : ms0.toInt = xs0) {r : Int} {Q : Option Value → iv_H → Prop} (hq : ∀ (z : Int32), z.toInt = r → Q (some (.int z)) h) (e : FX12_isWalk_b64 N s  xs0 = some r) : Rn d 280 (some .boolean) 64 [none, none, none, none] [.int ms0] h Q := by
  have hT := hX12_isWalk
  unfold FX12_isWalk_b64 at e
  by_cases c_3450 : xs0 = 0 ∨ xs0 = 1
  · rw [if_pos c_3450] at e
    obtain rfl := Option.some.inj e
    exact Rn.ret hT rfl rfl (if_pos (ti_b ps0 c_3450)) (hq ms0 ps0)
  · rw [if_neg c_3450] at e
    cases e
def FX12_isWalk_b63 (N : Nat) (s : iv_M)   : Option (Int) := (FX12_isWalk_b64 N s 0)
set_option maxRecDepth 10000 in
set_option maxHeartbeats 4000000 in
theorem RX12_isWalk_b63 {d N nc Ls : Nat} {Xs : Nat → Int32} (hd : 2 ≤ d) {h : iv_H} {s : iv_M} (hR : Rep nc Ls Xs h s)   {r : Int} {Q : Option Value → iv_H → Prop} (hq : ∀ (z : Int32), z.toInt = r → Q (some (.int z)) h) (e : FX12_isWalk_b63 N s   = some r) : Rn d 280 (some .boolean) 63 [none, none, none, none] [] h Q := by
  have hT := hX12_isWalk
  unfold FX12_isWalk_b63 at e
  refine Rn.n hT 1 (pc' := 64) (L' := [none, none, none, none]) (st' := [.int (0 : Int32)]) rfl ?_
  exact Rn.weak (ll_n (ll_n (ll_n (ll_n ll_e)))) (RX12_isWalk_b64 hd hR L32_0 hq e)
def FX12_isWalk_b74 (N : Nat) (s : iv_M)  (xs0 : Int) : Option (Int) := (if xs0 = 0 ∨ xs0 = 1 then some xs0 else none)
set_option maxRecDepth 10000 in
set_option maxHeartbeats 4000000 in
theorem RX12_isWalk_b74 {d N nc Ls : Nat} {Xs : Nat → Int32} (hd : 2 ≤ d) {h : iv_H} {s : iv_M} (hR : Rep nc Ls Xs h s)  {ms0 : Int32} {xs0 : Int} (ps0 : ms0.toInt = xs0) {r : Int} {Q : Option Value → iv_H → Prop} (hq : ∀ (z : Int32), z.toInt = r → Q (some (.int z)) h) (e : FX12_isWalk_b74 N s  xs0 = some r) : Rn d 280 (some .boolean) 74 [none, none, none, none] [.int ms0] h Q := by
  have hT := hX12_isWalk
  unfold FX12_isWalk_b74 at e
  by_cases c_3451 : xs0 = 0 ∨ xs0 = 1
  · rw [if_pos c_3451] at e
    obtain rfl := Option.some.inj e
    exact Rn.ret hT rfl rfl (if_pos (ti_b ps0 c_3451)) (hq ms0 ps0)
  · rw [if_neg c_3451] at e
    cases e
def FX12_isWalk (N : Nat) (s : iv_M) (q0 : Nat) (x1 : Int) (x2 : Int) (x3 : Int) : Option (Int) := ((FX12_isRoom N s q0 x2).bind fun v_3439 => (if v_3439 = 0 then (some 0) else (if x1 = 1 then ((FX12_in N s x3 0 3).bind fun v_3442 => (if v_3442 = 0 ∨ v_3442 = 1 then some v_3442 else none)) else (if x1 = 2 then ((FX12_isRoom N s q0 x3).bind fun v_3445 => (if v_3445 = 0 then (FX12_isWalk_b63 N s) else (if x3 = x2 then (FX12_isWalk_b63 N s) else (FX12_isWalk_b64 N s 1)))) else (if x1 = 3 then (if x3 = 0 then (FX12_isWalk_b74 N s 1) else (FX12_isWalk_b74 N s 0)) else (some 0))))))
set_option maxRecDepth 10000 in
set_option maxHeartbeats 4000000 in
theorem RX12_isWalk {d N nc Ls : Nat} {Xs : Nat → Int32} (hd : 3 ≤ d) {h : iv_H} {s : iv_M} (hR : Rep nc Ls Xs h s) {q0 : Nat} (t0 : T12 nc q0) {m1 : Int32} {x1 : Int} (p1 : m1.toInt = x1) {m2 : Int32} {x2 : Int} (p2 : m2.toInt = x2) {m3 : Int32} {x3 : Int} (p3 : m3.toInt = x3) {r : Int} {Q : Option Value → iv_H → Prop} (e : FX12_isWalk N s q0 x1 x2 x3 = some r) (hq : ∀ (z : Int32), z.toInt = r → Q (some (.int z)) h) : Cl d 280 [.ref q0, .int m1, .int m2, .int m3] h Q := by
  obtain ⟨d, rfl⟩ : ∃ k, d = k + 1 := ⟨d - 1, by omega⟩
  have hd : 2 ≤ d := by omega
  have hT := hX12_isWalk
  unfold FX12_isWalk at e
  refine Cl.into (by decide) gX12_isWalk rfl ?_
  show Rn d 280 (some .boolean) 0 [some (.ref q0), some (.int m1), some (.int m2), some (.int m3)] [] h Q
  refine Rn.n hT 2 (pc' := 2) (L' := [some (.ref q0), some (.int m1), some (.int m2), some (.int m3)]) (st' := [.int m2, .ref q0]) rfl ?_
  obtain ⟨v_3439, e_3439, e⟩ := Option.bind_eq_some_iff.mp e
  refine Rn.call hT rfl rfl rfl (Nat.le_of_ble_eq_true rfl) (rcv_v gX12_isRoom (by omega) (rp_ck hR (T12_o t0))) (RX12_isRoom (by omega) hR t0 p2 e_3439 (fun z_3439 p_3439 => ?_))
  show Rn d _ _ 5 [some (.ref q0), some (.int m1), some (.int m2), some (.int m3)] [.int z_3439] h Q
  by_cases c_3440 : v_3439 = 0
  · rw [if_pos c_3440] at e
    refine Rn.bf hT rfl rfl rfl (decide_eq_false (fun z => z ((ti_e p_3439 L32_0).mpr c_3440))) ?_
    refine Rn.n hT 1 (pc' := 9) (L' := [some (.ref q0), some (.int m1), some (.int m2), some (.int m3)]) (st' := [.int (0 : Int32)]) rfl ?_
    obtain rfl := Option.some.inj e
    exact Rn.ret hT rfl rfl rfl (hq (0 : Int32) L32_0)
  · rw [if_neg c_3440] at e
    refine Rn.bt hT rfl rfl rfl (decide_eq_true (fun z => c_3440 ((ti_e p_3439 L32_0).mp z))) ?_
    refine Rn.n hT 1 (pc' := 11) (L' := [some (.ref q0), some (.int m1), some (.int m2), some (.int m3)]) (st' := [.int m1]) rfl ?_
    by_cases c_3441 : x1 = 1
    · rw [if_pos c_3441] at e
      refine Rn.sw2 hT rfl rfl rfl (if_pos ((ti_e p1 L32_1).mpr c_3441)) ?_
      refine Rn.n hT 4 (pc' := 42) (L' := [some (.ref q0), some (.int m1), some (.int m2), some (.int m3)]) (st' := [.long (3 : Int64), .long (0 : Int64), .long ((m3).toInt64)]) rfl ?_
      obtain ⟨v_3442, e_3442, e⟩ := Option.bind_eq_some_iff.mp e
      refine Rn.call hT rfl rfl rfl (Nat.le_of_ble_eq_true rfl) rfl (RX12_in (by omega) hR (ti_j p3) L64_0 L64_3 e_3442 (fun z_3442 p_3442 => ?_))
      show Rn d _ _ 45 [some (.ref q0), some (.int m1), some (.int m2), some (.int m3)] [.int z_3442] h Q
      by_cases c_3443 : v_3442 = 0 ∨ v_3442 = 1
      · rw [if_pos c_3443] at e
        obtain rfl := Option.some.inj e
        exact Rn.ret hT rfl rfl (if_pos (ti_b p_3442 c_3443)) (hq z_3442 p_3442)
      · rw [if_neg c_3443] at e
        cases e
    · rw [if_neg c_3441] at e
      by_cases c_3444 : x1 = 2
      · rw [if_pos c_3444] at e
        refine Rn.sw2 hT rfl rfl rfl ((if_neg (fun z => c_3441 ((ti_e p1 L32_1).mp z))).trans (if_pos ((ti_e p1 L32_2).mpr c_3444))) ?_
        refine Rn.n hT 2 (pc' := 48) (L' := [some (.ref q0), some (.int m1), some (.int m2), some (.int m3)]) (st' := [.int m3, .ref q0]) rfl ?_
        obtain ⟨v_3445, e_3445, e⟩ := Option.bind_eq_some_iff.mp e
        refine Rn.call hT rfl rfl rfl (Nat.le_of_ble_eq_true rfl) (rcv_v gX12_isRoom (by omega) (rp_ck hR (T12_o t0))) (RX12_isRoom (by omega) hR t0 p3 e_3445 (fun z_3445 p_3445 => ?_))
        show Rn d _ _ 51 [some (.ref q0), some (.int m1), some (.int m2), some (.int m3)] [.int z_3445] h Q
        by_cases c_3446 : v_3445 = 0
        · rw [if_pos c_3446] at e
          refine Rn.bt hT rfl rfl rfl (decide_eq_true ((ti_e p_3445 L32_0).mpr c_3446)) ?_
          exact Rn.weak (ll_n (ll_n (ll_n (ll_n ll_e)))) (RX12_isWalk_b63 hd hR hq e)
        · rw [if_neg c_3446] at e
          refine Rn.bf hT rfl rfl rfl (decide_eq_false (fun z => c_3446 ((ti_e p_3445 L32_0).mp z))) ?_
          refine Rn.n hT 2 (pc' := 56) (L' := [some (.ref q0), some (.int m1), some (.int m2), some (.int m3)]) (st' := [.int m2, .int m3]) rfl ?_
          by_cases c_3447 : x3 = x2
          · rw [if_pos c_3447] at e
            refine Rn.bt hT rfl rfl rfl (decide_eq_true ((ti_e p3 p2).mpr c_3447)) ?_
            exact Rn.weak (ll_n (ll_n (ll_n (ll_n ll_e)))) (RX12_isWalk_b63 hd hR hq e)
          · rw [if_neg c_3447] at e
            refine Rn.bf hT rfl rfl rfl (decide_eq_false (fun z => c_3447 ((ti_e p3 p2).mp z))) ?_
            refine Rn.n hT 2 (pc' := 64) (L' := [some (.ref q0), some (.int m1), some (.int m2), some (.int m3)]) (st' := [.int (1 : Int32)]) rfl ?_
            exact Rn.weak (ll_n (ll_n (ll_n (ll_n ll_e)))) (RX12_isWalk_b64 hd hR L32_1 hq e)
      · rw [if_neg c_3444] at e
        by_cases c_3448 : x1 = 3
        · rw [if_pos c_3448] at e
          refine Rn.sw2 hT rfl rfl rfl ((if_neg (fun z => c_3441 ((ti_e p1 L32_1).mp z))).trans ((if_neg (fun z => c_3444 ((ti_e p1 L32_2).mp z))).trans (if_pos ((ti_e p1 L32_3).mpr c_3448)))) ?_
          refine Rn.n hT 1 (pc' := 66) (L' := [some (.ref q0), some (.int m1), some (.int m2), some (.int m3)]) (st' := [.int m3]) rfl ?_
          by_cases c_3449 : x3 = 0
          · rw [if_pos c_3449] at e
            refine Rn.bf hT rfl rfl rfl (decide_eq_false (fun z => z ((ti_e p3 L32_0).mpr c_3449))) ?_
            refine Rn.n hT 2 (pc' := 74) (L' := [some (.ref q0), some (.int m1), some (.int m2), some (.int m3)]) (st' := [.int (1 : Int32)]) rfl ?_
            exact Rn.weak (ll_n (ll_n (ll_n (ll_n ll_e)))) (RX12_isWalk_b74 hd hR L32_1 hq e)
          · rw [if_neg c_3449] at e
            refine Rn.bt hT rfl rfl rfl (decide_eq_true (fun z => c_3449 ((ti_e p3 L32_0).mp z))) ?_
            refine Rn.n hT 1 (pc' := 74) (L' := [some (.ref q0), some (.int m1), some (.int m2), some (.int m3)]) (st' := [.int (0 : Int32)]) rfl ?_
            exact Rn.weak (ll_n (ll_n (ll_n (ll_n ll_e)))) (RX12_isWalk_b74 hd hR L32_0 hq e)
        · rw [if_neg c_3448] at e
          refine Rn.sw2 hT rfl rfl rfl ((if_neg (fun z => c_3441 ((ti_e p1 L32_1).mp z))).trans ((if_neg (fun z => c_3444 ((ti_e p1 L32_2).mp z))).trans ((if_neg (fun z => c_3448 ((ti_e p1 L32_3).mp z))).trans rfl))) ?_
          refine Rn.n hT 1 (pc' := 76) (L' := [some (.ref q0), some (.int m1), some (.int m2), some (.int m3)]) (st' := [.int (0 : Int32)]) rfl ?_
          obtain rfl := Option.some.inj e
          exact Rn.ret hT rfl rfl rfl (hq (0 : Int32) L32_0)
set_option maxRecDepth 10000 in
theorem hX12_least : iv_Tb 281 tX12_least := iv_tb_of (m := mX12_least) rfl
set_option maxRecDepth 10000 in
theorem gX12_least : PG.2 281 = some mX12_least := iv_pi_of (t := tX12_least) rfl (by decide)
def FX12_least_b15 (N : Nat) (s : iv_M)  (xs0 : Int) : Option (Int) := (some xs0)
set_option maxRecDepth 10000 in
set_option maxHeartbeats 4000000 in
theorem RX12_least_b15 {d N nc Ls : Nat} {Xs : Nat → Int32} (hd : 0 ≤ d) {h : iv_H} {s : iv_M} (hR : Rep nc Ls Xs h s)  {ms0 : Int32} {xs0 : Int} (ps0 : ms0.toInt = xs0) {r : Int} {Q : Option Value → iv_H → Prop} (hq : ∀ (z : Int32), z.toInt = r → Q (some (.int z)) h) (e : FX12_least_b15 N s  xs0 = some r) : Rn d 281 (some .int) 15 [none, none, none] [.int ms0] h Q := by
  have hT := hX12_least
  unfold FX12_least_b15 at e
  obtain rfl := Option.some.inj e
  exact Rn.ret hT rfl rfl rfl (hq ms0 ps0)
def FX12_least_b14 (N : Nat) (s : iv_M) (x1 : Int)  : Option (Int) := (FX12_least_b15 N s x1)
set_option maxRecDepth 10000 in
set_option maxHeartbeats 4000000 in
theorem RX12_least_b14 {d N nc Ls : Nat} {Xs : Nat → Int32} (hd : 0 ≤ d) {h : iv_H} {s : iv_M} (hR : Rep nc Ls Xs h s) {m1 : Int32} {x1 : Int} (p1 : m1.toInt = x1)  {r : Int} {Q : Option Value → iv_H → Prop} (hq : ∀ (z : Int32), z.toInt = r → Q (some (.int z)) h) (e : FX12_least_b14 N s x1  = some r) : Rn d 281 (some .int) 14 [none, some (.int m1), none] [] h Q := by
  have hT := hX12_least
  unfold FX12_least_b14 at e
  refine Rn.n hT 1 (pc' := 15) (L' := [none, some (.int m1), none]) (st' := [.int m1]) rfl ?_
  exact Rn.weak (ll_n (ll_n (ll_n ll_e))) (RX12_least_b15 hd hR p1 hq e)
def FX12_least (N : Nat) (s : iv_M) (x0 : Int) (x1 : Int) (x2 : Int) : Option (Int) := (if x0 = 2 then (if x1 ≤ x2 then (FX12_least_b14 N s x1) else (FX12_least_b15 N s x2)) else (FX12_least_b14 N s x1))
set_option maxRecDepth 10000 in
set_option maxHeartbeats 4000000 in
theorem RX12_least {d N nc Ls : Nat} {Xs : Nat → Int32} (hd : 1 ≤ d) {h : iv_H} {s : iv_M} (hR : Rep nc Ls Xs h s) {m0 : Int32} {x0 : Int} (p0 : m0.toInt = x0) {m1 : Int32} {x1 : Int} (p1 : m1.toInt = x1) {m2 : Int32} {x2 : Int} (p2 : m2.toInt = x2) {r : Int} {Q : Option Value → iv_H → Prop} (e : FX12_least N s x0 x1 x2 = some r) (hq : ∀ (z : Int32), z.toInt = r → Q (some (.int z)) h) : Cl d 281 [.int m0, .int m1, .int m2] h Q := by
  obtain ⟨d, rfl⟩ : ∃ k, d = k + 1 := ⟨d - 1, by omega⟩
  have hd : 0 ≤ d := by omega
  have hT := hX12_least
  unfold FX12_least at e
  refine Cl.into (by decide) gX12_least rfl ?_
  show Rn d 281 (some .int) 0 [some (.int m0), some (.int m1), some (.int m2)] [] h Q
  refine Rn.n hT 2 (pc' := 2) (L' := [some (.int m0), some (.int m1), some (.int m2)]) (st' := [.int (2 : Int32), .int m0]) rfl ?_
  by_cases c_3452 : x0 = 2
  · rw [if_pos c_3452] at e
    refine Rn.bf hT rfl rfl rfl (decide_eq_false (fun z => z ((ti_e p0 L32_2).mpr c_3452))) ?_
    refine Rn.n hT 2 (pc' := 7) (L' := [some (.int m0), some (.int m1), some (.int m2)]) (st' := [.int m1, .int m2]) rfl ?_
    by_cases c_3453 : x1 ≤ x2
    · rw [if_pos c_3453] at e
      refine Rn.bt hT rfl rfl rfl (decide_eq_true ((ti_le p1 p2).mpr c_3453)) ?_
      exact Rn.weak (ll_n (ll_s (ll_n ll_e))) (RX12_least_b14 hd hR p1 hq e)
    · rw [if_neg c_3453] at e
      refine Rn.bf hT rfl rfl rfl (decide_eq_false (fun z => c_3453 ((ti_le p1 p2).mp z))) ?_
      refine Rn.n hT 2 (pc' := 15) (L' := [some (.int m0), some (.int m1), some (.int m2)]) (st' := [.int m2]) rfl ?_
      exact Rn.weak (ll_n (ll_n (ll_n ll_e))) (RX12_least_b15 hd hR p2 hq e)
  · rw [if_neg c_3452] at e
    refine Rn.bt hT rfl rfl rfl (decide_eq_true (fun z => c_3452 ((ti_e p0 L32_2).mp z))) ?_
    exact Rn.weak (ll_n (ll_s (ll_n ll_e))) (RX12_least_b14 hd hR p1 hq e)
set_option maxRecDepth 10000 in
theorem hX12_greatest : iv_Tb 282 tX12_greatest := iv_tb_of (m := mX12_greatest) rfl
set_option maxRecDepth 10000 in
theorem gX12_greatest : PG.2 282 = some mX12_greatest := iv_pi_of (t := tX12_greatest) rfl (by decide)
def FX12_greatest_b15 (N : Nat) (s : iv_M)  (xs0 : Int) : Option (Int) := (some xs0)
set_option maxRecDepth 10000 in
set_option maxHeartbeats 4000000 in
theorem RX12_greatest_b15 {d N nc Ls : Nat} {Xs : Nat → Int32} (hd : 0 ≤ d) {h : iv_H} {s : iv_M} (hR : Rep nc Ls Xs h s)  {ms0 : Int32} {xs0 : Int} (ps0 : ms0.toInt = xs0) {r : Int} {Q : Option Value → iv_H → Prop} (hq : ∀ (z : Int32), z.toInt = r → Q (some (.int z)) h) (e : FX12_greatest_b15 N s  xs0 = some r) : Rn d 282 (some .int) 15 [none, none, none] [.int ms0] h Q := by
  have hT := hX12_greatest
  unfold FX12_greatest_b15 at e
  obtain rfl := Option.some.inj e
  exact Rn.ret hT rfl rfl rfl (hq ms0 ps0)
def FX12_greatest_b14 (N : Nat) (s : iv_M) (x2 : Int)  : Option (Int) := (FX12_greatest_b15 N s x2)
set_option maxRecDepth 10000 in
set_option maxHeartbeats 4000000 in
theorem RX12_greatest_b14 {d N nc Ls : Nat} {Xs : Nat → Int32} (hd : 0 ≤ d) {h : iv_H} {s : iv_M} (hR : Rep nc Ls Xs h s) {m2 : Int32} {x2 : Int} (p2 : m2.toInt = x2)  {r : Int} {Q : Option Value → iv_H → Prop} (hq : ∀ (z : Int32), z.toInt = r → Q (some (.int z)) h) (e : FX12_greatest_b14 N s x2  = some r) : Rn d 282 (some .int) 14 [none, none, some (.int m2)] [] h Q := by
  have hT := hX12_greatest
  unfold FX12_greatest_b14 at e
  refine Rn.n hT 1 (pc' := 15) (L' := [none, none, some (.int m2)]) (st' := [.int m2]) rfl ?_
  exact Rn.weak (ll_n (ll_n (ll_n ll_e))) (RX12_greatest_b15 hd hR p2 hq e)
def FX12_greatest (N : Nat) (s : iv_M) (x0 : Int) (x1 : Int) (x2 : Int) : Option (Int) := (if x0 = 2 then (if x1 ≤ x2 then (FX12_greatest_b14 N s x2) else (FX12_greatest_b15 N s x1)) else (FX12_greatest_b14 N s x2))
set_option maxRecDepth 10000 in
set_option maxHeartbeats 4000000 in
theorem RX12_greatest {d N nc Ls : Nat} {Xs : Nat → Int32} (hd : 1 ≤ d) {h : iv_H} {s : iv_M} (hR : Rep nc Ls Xs h s) {m0 : Int32} {x0 : Int} (p0 : m0.toInt = x0) {m1 : Int32} {x1 : Int} (p1 : m1.toInt = x1) {m2 : Int32} {x2 : Int} (p2 : m2.toInt = x2) {r : Int} {Q : Option Value → iv_H → Prop} (e : FX12_greatest N s x0 x1 x2 = some r) (hq : ∀ (z : Int32), z.toInt = r → Q (some (.int z)) h) : Cl d 282 [.int m0, .int m1, .int m2] h Q := by
  obtain ⟨d, rfl⟩ : ∃ k, d = k + 1 := ⟨d - 1, by omega⟩
  have hd : 0 ≤ d := by omega
  have hT := hX12_greatest
  unfold FX12_greatest at e
  refine Cl.into (by decide) gX12_greatest rfl ?_
  show Rn d 282 (some .int) 0 [some (.int m0), some (.int m1), some (.int m2)] [] h Q
  refine Rn.n hT 2 (pc' := 2) (L' := [some (.int m0), some (.int m1), some (.int m2)]) (st' := [.int (2 : Int32), .int m0]) rfl ?_
  by_cases c_3454 : x0 = 2
  · rw [if_pos c_3454] at e
    refine Rn.bf hT rfl rfl rfl (decide_eq_false (fun z => z ((ti_e p0 L32_2).mpr c_3454))) ?_
    refine Rn.n hT 2 (pc' := 7) (L' := [some (.int m0), some (.int m1), some (.int m2)]) (st' := [.int m1, .int m2]) rfl ?_
    by_cases c_3455 : x1 ≤ x2
    · rw [if_pos c_3455] at e
      refine Rn.bt hT rfl rfl rfl (decide_eq_true ((ti_le p1 p2).mpr c_3455)) ?_
      exact Rn.weak (ll_n (ll_n (ll_s ll_e))) (RX12_greatest_b14 hd hR p2 hq e)
    · rw [if_neg c_3455] at e
      refine Rn.bf hT rfl rfl rfl (decide_eq_false (fun z => c_3455 ((ti_le p1 p2).mp z))) ?_
      refine Rn.n hT 2 (pc' := 15) (L' := [some (.int m0), some (.int m1), some (.int m2)]) (st' := [.int m1]) rfl ?_
      exact Rn.weak (ll_n (ll_n (ll_n ll_e))) (RX12_greatest_b15 hd hR p1 hq e)
  · rw [if_neg c_3454] at e
    refine Rn.bt hT rfl rfl rfl (decide_eq_true (fun z => c_3454 ((ti_e p0 L32_2).mp z))) ?_
    exact Rn.weak (ll_n (ll_n (ll_s ll_e))) (RX12_greatest_b14 hd hR p2 hq e)
set_option maxRecDepth 10000 in
theorem hX12_walk : iv_Tb 283 tX12_walk := iv_tb_of (m := mX12_walk) rfl
set_option maxRecDepth 10000 in
theorem gX12_walk : PG.2 283 = some mX12_walk := iv_pi_of (t := tX12_walk) rfl (by decide)
def FX12_walk (N : Nat) (s : iv_M) (q0 : Nat) (x1 : Int) (x2 : Int) (x3 : Int) : Option (Int × iv_M) := ((FX12_isWalk N s q0 x1 x2 x3).bind fun v_3456 => (if v_3456 = 0 then (some ((-1), s)) else ((FX12_least N s x1 x2 x3).bind fun v_3458 => ((FX12_greatest N s x1 x2 x3).bind fun v_3459 => ((FX12_lawOf N s q0 x1 v_3458 v_3459).bind fun r_3460 => (fun (v_3460 : Int) (s_3461 : iv_M) => (if v_3460 ≤ 0 then ((FX12_keepsNight N s_3461 q0).bind fun s_3464 => ((FX12_walks N s_3464 q0 x1 v_3458 v_3459).bind fun s_3466 => ((rd s_3466 (q0 + 1) 14 6).bind fun v_3467 => (some (v_3467, s_3466))))) else (some ((w32 ((-2) - v_3460)), s_3461)))) r_3460.1 r_3460.2)))))
set_option maxRecDepth 10000 in
set_option maxHeartbeats 4000000 in
theorem RX12_walk {d N nc Ls : Nat} {Xs : Nat → Int32} (hd : 8 ≤ d) {h : iv_H} {s : iv_M} (hR : Rep nc Ls Xs h s) {q0 : Nat} (t0 : T12 nc q0) {m1 : Int32} {x1 : Int} (p1 : m1.toInt = x1) {m2 : Int32} {x2 : Int} (p2 : m2.toInt = x2) {m3 : Int32} {x3 : Int} (p3 : m3.toInt = x3) {r : Int × iv_M} {Q : Option Value → iv_H → Prop} (e : FX12_walk N s q0 x1 x2 x3 = some r) (hq : ∀ (z : Int32) (h1 : iv_H), z.toInt = r.1 → Rep nc Ls Xs h1 r.2 → Q (some (.int z)) h1) : Cl d 283 [.ref q0, .int m1, .int m2, .int m3] h Q := by
  obtain ⟨d, rfl⟩ : ∃ k, d = k + 1 := ⟨d - 1, by omega⟩
  have hd : 7 ≤ d := by omega
  have hT := hX12_walk
  unfold FX12_walk at e
  refine Cl.into (by decide) gX12_walk rfl ?_
  show Rn d 283 (some .int) 0 [some (.ref q0), some (.int m1), some (.int m2), some (.int m3), none, none, none] [] h Q
  refine Rn.n hT 4 (pc' := 4) (L' := [some (.ref q0), some (.int m1), some (.int m2), some (.int m3), none, none, none]) (st' := [.int m3, .int m2, .int m1, .ref q0]) rfl ?_
  obtain ⟨v_3456, e_3456, e⟩ := Option.bind_eq_some_iff.mp e
  refine Rn.call hT rfl rfl rfl (Nat.le_of_ble_eq_true rfl) (rcv_v gX12_isWalk (by omega) (rp_ck hR (T12_o t0))) (RX12_isWalk (by omega) hR t0 p1 p2 p3 e_3456 (fun z_3456 p_3456 => ?_))
  show Rn d _ _ 7 [some (.ref q0), some (.int m1), some (.int m2), some (.int m3), none, none, none] [.int z_3456] h Q
  by_cases c_3457 : v_3456 = 0
  · rw [if_pos c_3457] at e
    refine Rn.bf hT rfl rfl rfl (decide_eq_false (fun z => z ((ti_e p_3456 L32_0).mpr c_3457))) ?_
    refine Rn.n hT 1 (pc' := 11) (L' := [some (.ref q0), some (.int m1), some (.int m2), some (.int m3), none, none, none]) (st' := [.int (-1 : Int32)]) rfl ?_
    obtain rfl := Option.some.inj e
    exact Rn.ret hT rfl rfl rfl (hq (-1 : Int32) h L32_m1 hR)
  · rw [if_neg c_3457] at e
    refine Rn.bt hT rfl rfl rfl (decide_eq_true (fun z => c_3457 ((ti_e p_3456 L32_0).mp z))) ?_
    refine Rn.n hT 3 (pc' := 15) (L' := [some (.ref q0), some (.int m1), some (.int m2), some (.int m3), none, none, none]) (st' := [.int m3, .int m2, .int m1]) rfl ?_
    obtain ⟨v_3458, e_3458, e⟩ := Option.bind_eq_some_iff.mp e
    refine Rn.call hT rfl rfl rfl (Nat.le_of_ble_eq_true rfl) rfl (RX12_least (by omega) hR p1 p2 p3 e_3458 (fun z_3458 p_3458 => ?_))
    show Rn d _ _ 18 [some (.ref q0), some (.int m1), some (.int m2), some (.int m3), none, none, none] [.int z_3458] h Q
    refine Rn.n hT 4 (pc' := 23) (L' := [some (.ref q0), some (.int m1), some (.int m2), some (.int m3), some (.int z_3458), none, none]) (st' := [.int m3, .int m2, .int m1]) rfl ?_
    obtain ⟨v_3459, e_3459, e⟩ := Option.bind_eq_some_iff.mp e
    refine Rn.call hT rfl rfl rfl (Nat.le_of_ble_eq_true rfl) rfl (RX12_greatest (by omega) hR p1 p2 p3 e_3459 (fun z_3459 p_3459 => ?_))
    show Rn d _ _ 26 [some (.ref q0), some (.int m1), some (.int m2), some (.int m3), some (.int z_3458), none, none] [.int z_3459] h Q
    refine Rn.n hT 5 (pc' := 34) (L' := [some (.ref q0), some (.int m1), some (.int m2), some (.int m3), some (.int z_3458), some (.int z_3459), none]) (st' := [.int z_3459, .int z_3458, .int m1, .ref q0]) rfl ?_
    obtain ⟨⟨v_3460, s_3461⟩, e_3460, e⟩ := Option.bind_eq_some_iff.mp e
    try dsimp only at e
    try dsimp only at e
    refine Rn.call hT rfl rfl rfl (Nat.le_of_ble_eq_true rfl) (rcv_v gX12_lawOf (by omega) (rp_ck hR (T12_o t0))) (RX12_lawOf (by omega) hR t0 p1 p_3458 p_3459 e_3460 (fun z_3460 h_3461 p_3460 R_3461 => ?_))
    show Rn d _ _ 37 [some (.ref q0), some (.int m1), some (.int m2), some (.int m3), some (.int z_3458), some (.int z_3459), none] [.int z_3460] h_3461 Q
    refine Rn.n hT 2 (pc' := 41) (L' := [some (.ref q0), some (.int m1), some (.int m2), some (.int m3), some (.int z_3458), some (.int z_3459), some (.int z_3460)]) (st' := [.int z_3460]) rfl ?_
    by_cases c_3462 : v_3460 ≤ 0
    · rw [if_pos c_3462] at e
      refine Rn.bt hT rfl rfl rfl (decide_eq_true ((ti_le p_3460 L32_0).mpr c_3462)) ?_
      refine Rn.n hT 1 (pc' := 51) (L' := [some (.ref q0), some (.int m1), some (.int m2), some (.int m3), some (.int z_3458), some (.int z_3459), some (.int z_3460)]) (st' := [.ref q0]) rfl ?_
      obtain ⟨s_3464, e_3463, e⟩ := Option.bind_eq_some_iff.mp e
      refine Rn.call hT rfl rfl rfl (Nat.le_of_ble_eq_true rfl) (rcv_v gX12_keepsNight (by omega) (rp_ck R_3461 (T12_o t0))) (RX12_keepsNight (by omega) R_3461 t0 e_3463 (fun h_3464 R_3464 => ?_))
      show Rn d _ _ 54 [some (.ref q0), some (.int m1), some (.int m2), some (.int m3), some (.int z_3458), some (.int z_3459), some (.int z_3460)] [] h_3464 Q
      refine Rn.n hT 4 (pc' := 60) (L' := [some (.ref q0), some (.int m1), some (.int m2), some (.int m3), some (.int z_3458), some (.int z_3459), some (.int z_3460)]) (st' := [.int z_3459, .int z_3458, .int m1, .ref q0]) rfl ?_
      obtain ⟨s_3466, e_3465, e⟩ := Option.bind_eq_some_iff.mp e
      refine Rn.call hT rfl rfl rfl (Nat.le_of_ble_eq_true rfl) (rcv_v gX12_walks (by omega) (rp_ck R_3464 (T12_o t0))) (RX12_walks (by omega) R_3464 t0 p1 p_3458 p_3459 e_3465 (fun h_3466 R_3466 => ?_))
      show Rn d _ _ 63 [some (.ref q0), some (.int m1), some (.int m2), some (.int m3), some (.int z_3458), some (.int z_3459), some (.int z_3460)] [] h_3466 Q
      refine Rn.n hT 1 (pc' := 64) (L' := [some (.ref q0), some (.int m1), some (.int m2), some (.int m3), some (.int z_3458), some (.int z_3459), some (.int z_3460)]) (st' := [.ref q0]) rfl ?_
      refine Rn.hp hT rfl rfl (gR_hp (rp_gR R_3466 (T12_o t0) rfl)) ?_
      refine Rn.n hT 1 (pc' := 69) (L' := [some (.ref q0), some (.int m1), some (.int m2), some (.int m3), some (.int z_3458), some (.int z_3459), some (.int z_3460)]) (st' := [.int (6 : Int32), .ref (q0 + 1)]) rfl ?_
      obtain ⟨v_3467, e_3467, e⟩ := Option.bind_eq_some_iff.mp e
      obtain ⟨z_3467, g_3467, p_3467⟩ := rp_aI R_3466 (T12_1 t0) (T12_1l t0) L32_6 e_3467
      refine Rn.hp hT rfl rfl (aI_hp g_3467) ?_
      obtain rfl := Option.some.inj e
      exact Rn.ret hT rfl rfl rfl (hq z_3467 h_3466 p_3467 R_3466)
    · rw [if_neg c_3462] at e
      refine Rn.bf hT rfl rfl rfl (decide_eq_false (fun z => c_3462 ((ti_le p_3460 L32_0).mp z))) ?_
      refine Rn.n hT 3 (pc' := 49) (L' := [some (.ref q0), some (.int m1), some (.int m2), some (.int m3), some (.int z_3458), some (.int z_3459), some (.int z_3460)]) (st' := [.int ((-2 : Int32) - z_3460)]) rfl ?_
      obtain rfl := Option.some.inj e
      exact Rn.ret hT rfl rfl rfl (hq ((-2 : Int32) - z_3460) h_3461 (ti_sub L32_m2 p_3460) R_3461)
set_option maxRecDepth 10000 in
theorem hX12_rest : iv_Tb 284 tX12_rest := iv_tb_of (m := mX12_rest) rfl
set_option maxRecDepth 10000 in
theorem gX12_rest : PG.2 284 = some mX12_rest := iv_pi_of (t := tX12_rest) rfl (by decide)
def FX12_rest (N : Nat) (s : iv_M) (q0 : Nat) : Option (Int × iv_M) := ((FX12_isPalace N s q0).bind fun v_3468 => (if v_3468 = 0 then (some ((-1), s)) else ((FX12_keepsNight N s q0).bind fun s_3471 => ((rd s_3471 (q0 + 1) 14 6).bind fun v_3472 => (some (v_3472, s_3471))))))
set_option maxRecDepth 10000 in
set_option maxHeartbeats 4000000 in
theorem RX12_rest {d N nc Ls : Nat} {Xs : Nat → Int32} (hd : 3 ≤ d) {h : iv_H} {s : iv_M} (hR : Rep nc Ls Xs h s) {q0 : Nat} (t0 : T12 nc q0) {r : Int × iv_M} {Q : Option Value → iv_H → Prop} (e : FX12_rest N s q0 = some r) (hq : ∀ (z : Int32) (h1 : iv_H), z.toInt = r.1 → Rep nc Ls Xs h1 r.2 → Q (some (.int z)) h1) : Cl d 284 [.ref q0] h Q := by
  obtain ⟨d, rfl⟩ : ∃ k, d = k + 1 := ⟨d - 1, by omega⟩
  have hd : 2 ≤ d := by omega
  have hT := hX12_rest
  unfold FX12_rest at e
  refine Cl.into (by decide) gX12_rest rfl ?_
  show Rn d 284 (some .int) 0 [some (.ref q0)] [] h Q
  refine Rn.n hT 1 (pc' := 1) (L' := [some (.ref q0)]) (st' := [.ref q0]) rfl ?_
  obtain ⟨v_3468, e_3468, e⟩ := Option.bind_eq_some_iff.mp e
  refine Rn.call hT rfl rfl rfl (Nat.le_of_ble_eq_true rfl) (rcv_v gX12_isPalace (by omega) (rp_ck hR (T12_o t0))) (RX12_isPalace (by omega) hR t0 e_3468 (fun z_3468 p_3468 => ?_))
  show Rn d _ _ 4 [some (.ref q0)] [.int z_3468] h Q
  by_cases c_3469 : v_3468 = 0
  · rw [if_pos c_3469] at e
    refine Rn.bf hT rfl rfl rfl (decide_eq_false (fun z => z ((ti_e p_3468 L32_0).mpr c_3469))) ?_
    refine Rn.n hT 1 (pc' := 8) (L' := [some (.ref q0)]) (st' := [.int (-1 : Int32)]) rfl ?_
    obtain rfl := Option.some.inj e
    exact Rn.ret hT rfl rfl rfl (hq (-1 : Int32) h L32_m1 hR)
  · rw [if_neg c_3469] at e
    refine Rn.bt hT rfl rfl rfl (decide_eq_true (fun z => c_3469 ((ti_e p_3468 L32_0).mp z))) ?_
    refine Rn.n hT 1 (pc' := 10) (L' := [some (.ref q0)]) (st' := [.ref q0]) rfl ?_
    obtain ⟨s_3471, e_3470, e⟩ := Option.bind_eq_some_iff.mp e
    refine Rn.call hT rfl rfl rfl (Nat.le_of_ble_eq_true rfl) (rcv_v gX12_keepsNight (by omega) (rp_ck hR (T12_o t0))) (RX12_keepsNight (by omega) hR t0 e_3470 (fun h_3471 R_3471 => ?_))
    show Rn d _ _ 13 [some (.ref q0)] [] h_3471 Q
    refine Rn.n hT 1 (pc' := 14) (L' := [some (.ref q0)]) (st' := [.ref q0]) rfl ?_
    refine Rn.hp hT rfl rfl (gR_hp (rp_gR R_3471 (T12_o t0) rfl)) ?_
    refine Rn.n hT 1 (pc' := 19) (L' := [some (.ref q0)]) (st' := [.int (6 : Int32), .ref (q0 + 1)]) rfl ?_
    obtain ⟨v_3472, e_3472, e⟩ := Option.bind_eq_some_iff.mp e
    obtain ⟨z_3472, g_3472, p_3472⟩ := rp_aI R_3471 (T12_1 t0) (T12_1l t0) L32_6 e_3472
    refine Rn.hp hT rfl rfl (aI_hp g_3472) ?_
    obtain rfl := Option.some.inj e
    exact Rn.ret hT rfl rfl rfl (hq z_3472 h_3471 p_3472 R_3471)
set_option maxRecDepth 10000 in
theorem hX12_undo : iv_Tb 285 tX12_undo := iv_tb_of (m := mX12_undo) rfl
set_option maxRecDepth 10000 in
theorem gX12_undo : PG.2 285 = some mX12_undo := iv_pi_of (t := tX12_undo) rfl (by decide)
def FX12_undo (N : Nat) (s : iv_M) (q0 : Nat) : Option (Int × iv_M) := ((rd s (q0 + 1) 14 7).bind fun v_3473 => (if v_3473 = 0 then (some ((-2), s)) else ((rd s (q0 + 1) 14 7).bind fun v_3475 => ((wr s (q0 + 1) 14 7 (w32 (v_3475 - 1))).bind fun s_3476 => ((rd s_3476 (q0 + 1) 14 6).bind fun v_3478 => ((wr s_3476 (q0 + 1) 14 6 (w32 (v_3478 - 1))).bind fun s_3479 => ((rd s_3479 (q0 + 1) 14 7).bind fun v_3481 => ((FX12_laysFloor N s_3479 q0 (q0 + 9) (w32 (24 * v_3481))).bind fun s_3483 => ((rd s_3483 (q0 + 1) 14 7).bind fun v_3484 => (some (v_3484, s_3483)))))))))))
set_option maxRecDepth 10000 in
set_option maxHeartbeats 4000000 in
theorem RX12_undo {d N nc Ls : Nat} {Xs : Nat → Int32} (hd : 2 ≤ d) {h : iv_H} {s : iv_M} (hR : Rep nc Ls Xs h s) {q0 : Nat} (t0 : T12 nc q0) {r : Int × iv_M} {Q : Option Value → iv_H → Prop} (e : FX12_undo N s q0 = some r) (hq : ∀ (z : Int32) (h1 : iv_H), z.toInt = r.1 → Rep nc Ls Xs h1 r.2 → Q (some (.int z)) h1) : Cl d 285 [.ref q0] h Q := by
  obtain ⟨d, rfl⟩ : ∃ k, d = k + 1 := ⟨d - 1, by omega⟩
  have hd : 1 ≤ d := by omega
  have hT := hX12_undo
  unfold FX12_undo at e
  refine Cl.into (by decide) gX12_undo rfl ?_
  show Rn d 285 (some .int) 0 [some (.ref q0)] [] h Q
  refine Rn.n hT 1 (pc' := 1) (L' := [some (.ref q0)]) (st' := [.ref q0]) rfl ?_
  refine Rn.hp hT rfl rfl (gR_hp (rp_gR hR (T12_o t0) rfl)) ?_
  refine Rn.n hT 1 (pc' := 6) (L' := [some (.ref q0)]) (st' := [.int (7 : Int32), .ref (q0 + 1)]) rfl ?_
  obtain ⟨v_3473, e_3473, e⟩ := Option.bind_eq_some_iff.mp e
  obtain ⟨z_3473, g_3473, p_3473⟩ := rp_aI hR (T12_1 t0) (T12_1l t0) L32_7 e_3473
  refine Rn.hp hT rfl rfl (aI_hp g_3473) ?_
  by_cases c_3474 : v_3473 = 0
  · rw [if_pos c_3474] at e
    refine Rn.bf hT rfl rfl rfl (decide_eq_false (fun z => z ((ti_e p_3473 L32_0).mpr c_3474))) ?_
    refine Rn.n hT 1 (pc' := 12) (L' := [some (.ref q0)]) (st' := [.int (-2 : Int32)]) rfl ?_
    obtain rfl := Option.some.inj e
    exact Rn.ret hT rfl rfl rfl (hq (-2 : Int32) h L32_m2 hR)
  · rw [if_neg c_3474] at e
    refine Rn.bt hT rfl rfl rfl (decide_eq_true (fun z => c_3474 ((ti_e p_3473 L32_0).mp z))) ?_
    refine Rn.n hT 1 (pc' := 14) (L' := [some (.ref q0)]) (st' := [.ref q0]) rfl ?_
    refine Rn.hp hT rfl rfl (gR_hp (rp_gR hR (T12_o t0) rfl)) ?_
    refine Rn.n hT 2 (pc' := 20) (L' := [some (.ref q0)]) (st' := [.int (7 : Int32), .ref (q0 + 1), .int (7 : Int32), .ref (q0 + 1)]) rfl ?_
    obtain ⟨v_3475, e_3475, e⟩ := Option.bind_eq_some_iff.mp e
    obtain ⟨z_3475, g_3475, p_3475⟩ := rp_aI hR (T12_1 t0) (T12_1l t0) L32_7 e_3475
    refine Rn.hp hT rfl rfl (aI_hp g_3475) ?_
    refine Rn.n hT 2 (pc' := 23) (L' := [some (.ref q0)]) (st' := [.int (z_3475 - (1 : Int32)), .int (7 : Int32), .ref (q0 + 1)]) rfl ?_
    obtain ⟨s_3476, e_3477, e⟩ := Option.bind_eq_some_iff.mp e
    obtain ⟨h_3476, g_3477, R_3476⟩ := rp_wI hR (T12_1 t0) (T12_1l t0) L32_7 (ti_sub p_3475 L32_1) e_3477
    refine Rn.hp hT rfl rfl (wI_hp g_3477) ?_
    refine Rn.n hT 1 (pc' := 25) (L' := [some (.ref q0)]) (st' := [.ref q0]) rfl ?_
    refine Rn.hp hT rfl rfl (gR_hp (rp_gR R_3476 (T12_o t0) rfl)) ?_
    refine Rn.n hT 2 (pc' := 31) (L' := [some (.ref q0)]) (st' := [.int (6 : Int32), .ref (q0 + 1), .int (6 : Int32), .ref (q0 + 1)]) rfl ?_
    obtain ⟨v_3478, e_3478, e⟩ := Option.bind_eq_some_iff.mp e
    obtain ⟨z_3478, g_3478, p_3478⟩ := rp_aI R_3476 (T12_1 t0) (T12_1l t0) L32_6 e_3478
    refine Rn.hp hT rfl rfl (aI_hp g_3478) ?_
    refine Rn.n hT 2 (pc' := 34) (L' := [some (.ref q0)]) (st' := [.int (z_3478 - (1 : Int32)), .int (6 : Int32), .ref (q0 + 1)]) rfl ?_
    obtain ⟨s_3479, e_3480, e⟩ := Option.bind_eq_some_iff.mp e
    obtain ⟨h_3479, g_3480, R_3479⟩ := rp_wI R_3476 (T12_1 t0) (T12_1l t0) L32_6 (ti_sub p_3478 L32_1) e_3480
    refine Rn.hp hT rfl rfl (wI_hp g_3480) ?_
    refine Rn.n hT 2 (pc' := 37) (L' := [some (.ref q0)]) (st' := [.ref q0, .ref q0]) rfl ?_
    refine Rn.hp hT rfl rfl (gR_hp (rp_gR R_3479 (T12_o t0) rfl)) ?_
    refine Rn.n hT 2 (pc' := 43) (L' := [some (.ref q0)]) (st' := [.ref q0, .int (24 : Int32), .ref (q0 + 9), .ref q0]) rfl ?_
    refine Rn.hp hT rfl rfl (gR_hp (rp_gR R_3479 (T12_o t0) rfl)) ?_
    refine Rn.n hT 1 (pc' := 48) (L' := [some (.ref q0)]) (st' := [.int (7 : Int32), .ref (q0 + 1), .int (24 : Int32), .ref (q0 + 9), .ref q0]) rfl ?_
    obtain ⟨v_3481, e_3481, e⟩ := Option.bind_eq_some_iff.mp e
    obtain ⟨z_3481, g_3481, p_3481⟩ := rp_aI R_3479 (T12_1 t0) (T12_1l t0) L32_7 e_3481
    refine Rn.hp hT rfl rfl (aI_hp g_3481) ?_
    refine Rn.n hT 1 (pc' := 50) (L' := [some (.ref q0)]) (st' := [.int ((24 : Int32) * z_3481), .ref (q0 + 9), .ref q0]) rfl ?_
    obtain ⟨s_3483, e_3482, e⟩ := Option.bind_eq_some_iff.mp e
    refine Rn.call hT rfl rfl rfl (Nat.le_of_ble_eq_true rfl) (rcv_v gX12_laysFloor (by omega) (rp_ck R_3479 (T12_o t0))) (RX12_laysFloor (by omega) R_3479 t0 (T12_9 t0) (ti_mul L32_24 p_3481) e_3482 (fun h_3483 R_3483 => ?_))
    show Rn d _ _ 53 [some (.ref q0)] [] h_3483 Q
    refine Rn.n hT 1 (pc' := 54) (L' := [some (.ref q0)]) (st' := [.ref q0]) rfl ?_
    refine Rn.hp hT rfl rfl (gR_hp (rp_gR R_3483 (T12_o t0) rfl)) ?_
    refine Rn.n hT 1 (pc' := 59) (L' := [some (.ref q0)]) (st' := [.int (7 : Int32), .ref (q0 + 1)]) rfl ?_
    obtain ⟨v_3484, e_3484, e⟩ := Option.bind_eq_some_iff.mp e
    obtain ⟨z_3484, g_3484, p_3484⟩ := rp_aI R_3483 (T12_1 t0) (T12_1l t0) L32_7 e_3484
    refine Rn.hp hT rfl rfl (aI_hp g_3484) ?_
    obtain rfl := Option.some.inj e
    exact Rn.ret hT rfl rfl rfl (hq z_3484 h_3483 p_3484 R_3483)
set_option maxRecDepth 10000 in
theorem hX12_isDraft : iv_Tb 286 tX12_isDraft := iv_tb_of (m := mX12_isDraft) rfl
set_option maxRecDepth 10000 in
theorem gX12_isDraft : PG.2 286 = some mX12_isDraft := iv_pi_of (t := tX12_isDraft) rfl (by decide)
def FX12_isDraft_b32 (N : Nat) (s : iv_M)  (xs0 : Int) : Option (Int) := (if xs0 = 0 ∨ xs0 = 1 then some xs0 else none)
set_option maxRecDepth 10000 in
set_option maxHeartbeats 4000000 in
theorem RX12_isDraft_b32 {d N nc Ls : Nat} {Xs : Nat → Int32} (hd : 1 ≤ d) {h : iv_H} {s : iv_M} (hR : Rep nc Ls Xs h s)  {ms0 : Int32} {xs0 : Int} (ps0 : ms0.toInt = xs0) {r : Int} {Q : Option Value → iv_H → Prop} (hq : ∀ (z : Int32), z.toInt = r → Q (some (.int z)) h) (e : FX12_isDraft_b32 N s  xs0 = some r) : Rn d 286 (some .boolean) 32 [none, none] [.int ms0] h Q := by
  have hT := hX12_isDraft
  unfold FX12_isDraft_b32 at e
  by_cases c_3489 : xs0 = 0 ∨ xs0 = 1
  · rw [if_pos c_3489] at e
    obtain rfl := Option.some.inj e
    exact Rn.ret hT rfl rfl (if_pos (ti_b ps0 c_3489)) (hq ms0 ps0)
  · rw [if_neg c_3489] at e
    cases e
def FX12_isDraft_b31 (N : Nat) (s : iv_M)   : Option (Int) := (FX12_isDraft_b32 N s 0)
set_option maxRecDepth 10000 in
set_option maxHeartbeats 4000000 in
theorem RX12_isDraft_b31 {d N nc Ls : Nat} {Xs : Nat → Int32} (hd : 1 ≤ d) {h : iv_H} {s : iv_M} (hR : Rep nc Ls Xs h s)   {r : Int} {Q : Option Value → iv_H → Prop} (hq : ∀ (z : Int32), z.toInt = r → Q (some (.int z)) h) (e : FX12_isDraft_b31 N s   = some r) : Rn d 286 (some .boolean) 31 [none, none] [] h Q := by
  have hT := hX12_isDraft
  unfold FX12_isDraft_b31 at e
  refine Rn.n hT 1 (pc' := 32) (L' := [none, none]) (st' := [.int (0 : Int32)]) rfl ?_
  exact Rn.weak (ll_n (ll_n ll_e)) (RX12_isDraft_b32 hd hR L32_0 hq e)
def FX12_isDraft (N : Nat) (s : iv_M) (q0 : Nat) (x1 : Int) : Option (Int) := ((FX12_in N s x1 0 3).bind fun v_3485 => (if v_3485 = 0 then (FX12_isDraft_b31 N s) else ((rd s (q0 + 1) 14 11).bind fun v_3487 => (if (bAn (sr32 v_3487 x1) 1) = 1 then (FX12_isDraft_b32 N s 1) else (FX12_isDraft_b31 N s)))))
set_option maxRecDepth 10000 in
set_option maxHeartbeats 4000000 in
theorem RX12_isDraft {d N nc Ls : Nat} {Xs : Nat → Int32} (hd : 2 ≤ d) {h : iv_H} {s : iv_M} (hR : Rep nc Ls Xs h s) {q0 : Nat} (t0 : T12 nc q0) {m1 : Int32} {x1 : Int} (p1 : m1.toInt = x1) {r : Int} {Q : Option Value → iv_H → Prop} (e : FX12_isDraft N s q0 x1 = some r) (hq : ∀ (z : Int32), z.toInt = r → Q (some (.int z)) h) : Cl d 286 [.ref q0, .int m1] h Q := by
  obtain ⟨d, rfl⟩ : ∃ k, d = k + 1 := ⟨d - 1, by omega⟩
  have hd : 1 ≤ d := by omega
  have hT := hX12_isDraft
  unfold FX12_isDraft at e
  refine Cl.into (by decide) gX12_isDraft rfl ?_
  show Rn d 286 (some .boolean) 0 [some (.ref q0), some (.int m1)] [] h Q
  refine Rn.n hT 4 (pc' := 6) (L' := [some (.ref q0), some (.int m1)]) (st' := [.long (3 : Int64), .long (0 : Int64), .long ((m1).toInt64)]) rfl ?_
  obtain ⟨v_3485, e_3485, e⟩ := Option.bind_eq_some_iff.mp e
  refine Rn.call hT rfl rfl rfl (Nat.le_of_ble_eq_true rfl) rfl (RX12_in (by omega) hR (ti_j p1) L64_0 L64_3 e_3485 (fun z_3485 p_3485 => ?_))
  show Rn d _ _ 9 [some (.ref q0), some (.int m1)] [.int z_3485] h Q
  by_cases c_3486 : v_3485 = 0
  · rw [if_pos c_3486] at e
    refine Rn.bt hT rfl rfl rfl (decide_eq_true ((ti_e p_3485 L32_0).mpr c_3486)) ?_
    exact Rn.weak (ll_n (ll_n ll_e)) (RX12_isDraft_b31 hd hR hq e)
  · rw [if_neg c_3486] at e
    refine Rn.bf hT rfl rfl rfl (decide_eq_false (fun z => c_3486 ((ti_e p_3485 L32_0).mp z))) ?_
    refine Rn.n hT 1 (pc' := 13) (L' := [some (.ref q0), some (.int m1)]) (st' := [.ref q0]) rfl ?_
    refine Rn.hp hT rfl rfl (gR_hp (rp_gR hR (T12_o t0) rfl)) ?_
    refine Rn.n hT 1 (pc' := 18) (L' := [some (.ref q0), some (.int m1)]) (st' := [.int (11 : Int32), .ref (q0 + 1)]) rfl ?_
    obtain ⟨v_3487, e_3487, e⟩ := Option.bind_eq_some_iff.mp e
    obtain ⟨z_3487, g_3487, p_3487⟩ := rp_aI hR (T12_1 t0) (T12_1l t0) L32_11 e_3487
    refine Rn.hp hT rfl rfl (aI_hp g_3487) ?_
    refine Rn.n hT 5 (pc' := 24) (L' := [some (.ref q0), some (.int m1)]) (st' := [.int (1 : Int32), .int ((z_3487 >>> (m1 &&& 31)) &&& (1 : Int32))]) rfl ?_
    by_cases c_3488 : (bAn (sr32 v_3487 x1) 1) = 1
    · rw [if_pos c_3488] at e
      refine Rn.bf hT rfl rfl rfl (decide_eq_false (fun z => z ((ti_e (ti_and (ti_shr p_3487 p1) L32_1) L32_1).mpr c_3488))) ?_
      refine Rn.n hT 2 (pc' := 32) (L' := [some (.ref q0), some (.int m1)]) (st' := [.int (1 : Int32)]) rfl ?_
      exact Rn.weak (ll_n (ll_n ll_e)) (RX12_isDraft_b32 hd hR L32_1 hq e)
    · rw [if_neg c_3488] at e
      refine Rn.bt hT rfl rfl rfl (decide_eq_true (fun z => c_3488 ((ti_e (ti_and (ti_shr p_3487 p1) L32_1) L32_1).mp z))) ?_
      exact Rn.weak (ll_n (ll_n ll_e)) (RX12_isDraft_b31 hd hR hq e)
set_option maxRecDepth 10000 in
theorem hX12_draft : iv_Tb 287 tX12_draft := iv_tb_of (m := mX12_draft) rfl
set_option maxRecDepth 10000 in
theorem gX12_draft : PG.2 287 = some mX12_draft := iv_pi_of (t := tX12_draft) rfl (by decide)
def FX12_draft_b19 (N : Nat) (s : iv_M)   : Option (Int × iv_M) := (some ((-1), s))
set_option maxRecDepth 10000 in
set_option maxHeartbeats 4000000 in
theorem RX12_draft_b19 {d N nc Ls : Nat} {Xs : Nat → Int32} (hd : 6 ≤ d) {h : iv_H} {s : iv_M} (hR : Rep nc Ls Xs h s)   {r : Int × iv_M} {Q : Option Value → iv_H → Prop} (hq : ∀ (z : Int32) (h1 : iv_H), z.toInt = r.1 → Rep nc Ls Xs h1 r.2 → Q (some (.int z)) h1) (e : FX12_draft_b19 N s   = some r) : Rn d 287 (some .int) 19 [none, none] [] h Q := by
  have hT := hX12_draft
  unfold FX12_draft_b19 at e
  refine Rn.n hT 1 (pc' := 20) (L' := [none, none]) (st' := [.int (-1 : Int32)]) rfl ?_
  obtain rfl := Option.some.inj e
  exact Rn.ret hT rfl rfl rfl (hq (-1 : Int32) h L32_m1 hR)
def FX12_draft (N : Nat) (s : iv_M) (q0 : Nat) (x1 : Int) : Option (Int × iv_M) := ((FX12_isPalace N s q0).bind fun v_3490 => (if v_3490 = 0 then (FX12_draft_b19 N s) else ((FX12_in N s x1 0 3).bind fun v_3492 => (if v_3492 = 0 then (FX12_draft_b19 N s) else ((FX12_fillsFloor N s q0 (q0 + 10) (w32 (24 * x1))).bind fun s_3495 => ((rd s_3495 (q0 + 1) 14 11).bind fun v_3496 => ((wr s_3495 (q0 + 1) 14 11 (bOr v_3496 (sl32 1 x1))).bind fun s_3497 => ((FX12_mismatches N s_3497 q0).bind fun r_3499 => (fun (v_3499 : Int) (s_3500 : iv_M) => (some (v_3499, s_3500))) r_3499.1 r_3499.2))))))))
set_option maxRecDepth 10000 in
set_option maxHeartbeats 4000000 in
theorem RX12_draft {d N nc Ls : Nat} {Xs : Nat → Int32} (hd : 7 ≤ d) {h : iv_H} {s : iv_M} (hR : Rep nc Ls Xs h s) {q0 : Nat} (t0 : T12 nc q0) {m1 : Int32} {x1 : Int} (p1 : m1.toInt = x1) {r : Int × iv_M} {Q : Option Value → iv_H → Prop} (e : FX12_draft N s q0 x1 = some r) (hq : ∀ (z : Int32) (h1 : iv_H), z.toInt = r.1 → Rep nc Ls Xs h1 r.2 → Q (some (.int z)) h1) : Cl d 287 [.ref q0, .int m1] h Q := by
  obtain ⟨d, rfl⟩ : ∃ k, d = k + 1 := ⟨d - 1, by omega⟩
  have hd : 6 ≤ d := by omega
  have hT := hX12_draft
  unfold FX12_draft at e
  refine Cl.into (by decide) gX12_draft rfl ?_
  show Rn d 287 (some .int) 0 [some (.ref q0), some (.int m1)] [] h Q
  refine Rn.n hT 1 (pc' := 1) (L' := [some (.ref q0), some (.int m1)]) (st' := [.ref q0]) rfl ?_
  obtain ⟨v_3490, e_3490, e⟩ := Option.bind_eq_some_iff.mp e
  refine Rn.call hT rfl rfl rfl (Nat.le_of_ble_eq_true rfl) (rcv_v gX12_isPalace (by omega) (rp_ck hR (T12_o t0))) (RX12_isPalace (by omega) hR t0 e_3490 (fun z_3490 p_3490 => ?_))
  show Rn d _ _ 4 [some (.ref q0), some (.int m1)] [.int z_3490] h Q
  by_cases c_3491 : v_3490 = 0
  · rw [if_pos c_3491] at e
    refine Rn.bt hT rfl rfl rfl (decide_eq_true ((ti_e p_3490 L32_0).mpr c_3491)) ?_
    exact Rn.weak (ll_n (ll_n ll_e)) (RX12_draft_b19 hd hR hq e)
  · rw [if_neg c_3491] at e
    refine Rn.bf hT rfl rfl rfl (decide_eq_false (fun z => c_3491 ((ti_e p_3490 L32_0).mp z))) ?_
    refine Rn.n hT 4 (pc' := 13) (L' := [some (.ref q0), some (.int m1)]) (st' := [.long (3 : Int64), .long (0 : Int64), .long ((m1).toInt64)]) rfl ?_
    obtain ⟨v_3492, e_3492, e⟩ := Option.bind_eq_some_iff.mp e
    refine Rn.call hT rfl rfl rfl (Nat.le_of_ble_eq_true rfl) rfl (RX12_in (by omega) hR (ti_j p1) L64_0 L64_3 e_3492 (fun z_3492 p_3492 => ?_))
    show Rn d _ _ 16 [some (.ref q0), some (.int m1)] [.int z_3492] h Q
    by_cases c_3493 : v_3492 = 0
    · rw [if_pos c_3493] at e
      refine Rn.bf hT rfl rfl rfl (decide_eq_false (fun z => z ((ti_e p_3492 L32_0).mpr c_3493))) ?_
      exact Rn.weak (ll_n (ll_n ll_e)) (RX12_draft_b19 hd hR hq e)
    · rw [if_neg c_3493] at e
      refine Rn.bt hT rfl rfl rfl (decide_eq_true (fun z => c_3493 ((ti_e p_3492 L32_0).mp z))) ?_
      refine Rn.n hT 2 (pc' := 23) (L' := [some (.ref q0), some (.int m1)]) (st' := [.ref q0, .ref q0]) rfl ?_
      refine Rn.hp hT rfl rfl (gR_hp (rp_gR hR (T12_o t0) rfl)) ?_
      refine Rn.n hT 3 (pc' := 30) (L' := [some (.ref q0), some (.int m1)]) (st' := [.int ((24 : Int32) * m1), .ref (q0 + 10), .ref q0]) rfl ?_
      obtain ⟨s_3495, e_3494, e⟩ := Option.bind_eq_some_iff.mp e
      refine Rn.call hT rfl rfl rfl (Nat.le_of_ble_eq_true rfl) (rcv_v gX12_fillsFloor (by omega) (rp_ck hR (T12_o t0))) (RX12_fillsFloor (by omega) hR t0 (T12_10 t0) (ti_mul L32_24 p1) e_3494 (fun h_3495 R_3495 => ?_))
      show Rn d _ _ 33 [some (.ref q0), some (.int m1)] [] h_3495 Q
      refine Rn.n hT 1 (pc' := 34) (L' := [some (.ref q0), some (.int m1)]) (st' := [.ref q0]) rfl ?_
      refine Rn.hp hT rfl rfl (gR_hp (rp_gR R_3495 (T12_o t0) rfl)) ?_
      refine Rn.n hT 2 (pc' := 40) (L' := [some (.ref q0), some (.int m1)]) (st' := [.int (11 : Int32), .ref (q0 + 1), .int (11 : Int32), .ref (q0 + 1)]) rfl ?_
      obtain ⟨v_3496, e_3496, e⟩ := Option.bind_eq_some_iff.mp e
      obtain ⟨z_3496, g_3496, p_3496⟩ := rp_aI R_3495 (T12_1 t0) (T12_1l t0) L32_11 e_3496
      refine Rn.hp hT rfl rfl (aI_hp g_3496) ?_
      refine Rn.n hT 4 (pc' := 45) (L' := [some (.ref q0), some (.int m1)]) (st' := [.int (z_3496 ||| ((1 : Int32) <<< (m1 &&& 31))), .int (11 : Int32), .ref (q0 + 1)]) rfl ?_
      obtain ⟨s_3497, e_3498, e⟩ := Option.bind_eq_some_iff.mp e
      obtain ⟨h_3497, g_3498, R_3497⟩ := rp_wI R_3495 (T12_1 t0) (T12_1l t0) L32_11 (ti_or p_3496 (ti_shl L32_1 p1)) e_3498
      refine Rn.hp hT rfl rfl (wI_hp g_3498) ?_
      refine Rn.n hT 1 (pc' := 47) (L' := [some (.ref q0), some (.int m1)]) (st' := [.ref q0]) rfl ?_
      obtain ⟨⟨v_3499, s_3500⟩, e_3499, e⟩ := Option.bind_eq_some_iff.mp e
      try dsimp only at e
      try dsimp only at e
      refine Rn.call hT rfl rfl rfl (Nat.le_of_ble_eq_true rfl) (rcv_v gX12_mismatches (by omega) (rp_ck R_3497 (T12_o t0))) (RX12_mismatches (by omega) R_3497 t0 e_3499 (fun z_3499 h_3500 p_3499 R_3500 => ?_))
      show Rn d _ _ 50 [some (.ref q0), some (.int m1)] [.int z_3499] h_3500 Q
      obtain rfl := Option.some.inj e
      exact Rn.ret hT rfl rfl rfl (hq z_3499 h_3500 p_3499 R_3500)
set_option maxRecDepth 10000 in
theorem hX12_drafted : iv_Tb 288 tX12_drafted := iv_tb_of (m := mX12_drafted) rfl
set_option maxRecDepth 10000 in
theorem gX12_drafted : PG.2 288 = some mX12_drafted := iv_pi_of (t := tX12_drafted) rfl (by decide)
def FX12_drafted_b45 (N : Nat) (s : iv_M)  (xs0 : Int) : Option (Int) := (some xs0)
set_option maxRecDepth 10000 in
set_option maxHeartbeats 4000000 in
theorem RX12_drafted_b45 {d N nc Ls : Nat} {Xs : Nat → Int32} (hd : 2 ≤ d) {h : iv_H} {s : iv_M} (hR : Rep nc Ls Xs h s)  {ms0 : Int32} {xs0 : Int} (ps0 : ms0.toInt = xs0) {r : Int} {Q : Option Value → iv_H → Prop} (hq : ∀ (z : Int32), z.toInt = r → Q (some (.int z)) h) (e : FX12_drafted_b45 N s  xs0 = some r) : Rn d 288 (some .int) 45 [none, none, none, none] [.int ms0] h Q := by
  have hT := hX12_drafted
  unfold FX12_drafted_b45 at e
  obtain rfl := Option.some.inj e
  exact Rn.ret hT rfl rfl rfl (hq ms0 ps0)
def FX12_drafted_b44 (N : Nat) (s : iv_M)   : Option (Int) := (FX12_drafted_b45 N s (-1))
set_option maxRecDepth 10000 in
set_option maxHeartbeats 4000000 in
theorem RX12_drafted_b44 {d N nc Ls : Nat} {Xs : Nat → Int32} (hd : 2 ≤ d) {h : iv_H} {s : iv_M} (hR : Rep nc Ls Xs h s)   {r : Int} {Q : Option Value → iv_H → Prop} (hq : ∀ (z : Int32), z.toInt = r → Q (some (.int z)) h) (e : FX12_drafted_b44 N s   = some r) : Rn d 288 (some .int) 44 [none, none, none, none] [] h Q := by
  have hT := hX12_drafted
  unfold FX12_drafted_b44 at e
  refine Rn.n hT 1 (pc' := 45) (L' := [none, none, none, none]) (st' := [.int (-1 : Int32)]) rfl ?_
  exact Rn.weak (ll_n (ll_n (ll_n (ll_n ll_e)))) (RX12_drafted_b45 hd hR L32_m1 hq e)
def FX12_drafted (N : Nat) (s : iv_M) (q0 : Nat) (x1 : Int) (x2 : Int) (x3 : Int) : Option (Int) := ((FX12_isDraft N s q0 x1).bind fun v_3501 => (if v_3501 = 0 then (FX12_drafted_b44 N s) else ((FX12_isRoom N s q0 x2).bind fun v_3503 => (if v_3503 = 0 then (FX12_drafted_b44 N s) else ((FX12_in N s x3 0 1).bind fun v_3505 => (if v_3505 = 0 then (FX12_drafted_b44 N s) else ((rd s (q0 + 10) 96 (w32 ((w32 ((w32 (24 * x1)) + (w32 (2 * x2)))) + x3))).bind fun v_3507 => (FX12_drafted_b45 N s v_3507))))))))
set_option maxRecDepth 10000 in
set_option maxHeartbeats 4000000 in
theorem RX12_drafted {d N nc Ls : Nat} {Xs : Nat → Int32} (hd : 3 ≤ d) {h : iv_H} {s : iv_M} (hR : Rep nc Ls Xs h s) {q0 : Nat} (t0 : T12 nc q0) {m1 : Int32} {x1 : Int} (p1 : m1.toInt = x1) {m2 : Int32} {x2 : Int} (p2 : m2.toInt = x2) {m3 : Int32} {x3 : Int} (p3 : m3.toInt = x3) {r : Int} {Q : Option Value → iv_H → Prop} (e : FX12_drafted N s q0 x1 x2 x3 = some r) (hq : ∀ (z : Int32), z.toInt = r → Q (some (.int z)) h) : Cl d 288 [.ref q0, .int m1, .int m2, .int m3] h Q := by
  obtain ⟨d, rfl⟩ : ∃ k, d = k + 1 := ⟨d - 1, by omega⟩
  have hd : 2 ≤ d := by omega
  have hT := hX12_drafted
  unfold FX12_drafted at e
  refine Cl.into (by decide) gX12_drafted rfl ?_
  show Rn d 288 (some .int) 0 [some (.ref q0), some (.int m1), some (.int m2), some (.int m3)] [] h Q
  refine Rn.n hT 2 (pc' := 2) (L' := [some (.ref q0), some (.int m1), some (.int m2), some (.int m3)]) (st' := [.int m1, .ref q0]) rfl ?_
  obtain ⟨v_3501, e_3501, e⟩ := Option.bind_eq_some_iff.mp e
  refine Rn.call hT rfl rfl rfl (Nat.le_of_ble_eq_true rfl) (rcv_v gX12_isDraft (by omega) (rp_ck hR (T12_o t0))) (RX12_isDraft (by omega) hR t0 p1 e_3501 (fun z_3501 p_3501 => ?_))
  show Rn d _ _ 5 [some (.ref q0), some (.int m1), some (.int m2), some (.int m3)] [.int z_3501] h Q
  by_cases c_3502 : v_3501 = 0
  · rw [if_pos c_3502] at e
    refine Rn.bt hT rfl rfl rfl (decide_eq_true ((ti_e p_3501 L32_0).mpr c_3502)) ?_
    exact Rn.weak (ll_n (ll_n (ll_n (ll_n ll_e)))) (RX12_drafted_b44 hd hR hq e)
  · rw [if_neg c_3502] at e
    refine Rn.bf hT rfl rfl rfl (decide_eq_false (fun z => c_3502 ((ti_e p_3501 L32_0).mp z))) ?_
    refine Rn.n hT 2 (pc' := 10) (L' := [some (.ref q0), some (.int m1), some (.int m2), some (.int m3)]) (st' := [.int m2, .ref q0]) rfl ?_
    obtain ⟨v_3503, e_3503, e⟩ := Option.bind_eq_some_iff.mp e
    refine Rn.call hT rfl rfl rfl (Nat.le_of_ble_eq_true rfl) (rcv_v gX12_isRoom (by omega) (rp_ck hR (T12_o t0))) (RX12_isRoom (by omega) hR t0 p2 e_3503 (fun z_3503 p_3503 => ?_))
    show Rn d _ _ 13 [some (.ref q0), some (.int m1), some (.int m2), some (.int m3)] [.int z_3503] h Q
    by_cases c_3504 : v_3503 = 0
    · rw [if_pos c_3504] at e
      refine Rn.bt hT rfl rfl rfl (decide_eq_true ((ti_e p_3503 L32_0).mpr c_3504)) ?_
      exact Rn.weak (ll_n (ll_n (ll_n (ll_n ll_e)))) (RX12_drafted_b44 hd hR hq e)
    · rw [if_neg c_3504] at e
      refine Rn.bf hT rfl rfl rfl (decide_eq_false (fun z => c_3504 ((ti_e p_3503 L32_0).mp z))) ?_
      refine Rn.n hT 4 (pc' := 20) (L' := [some (.ref q0), some (.int m1), some (.int m2), some (.int m3)]) (st' := [.long (1 : Int64), .long (0 : Int64), .long ((m3).toInt64)]) rfl ?_
      obtain ⟨v_3505, e_3505, e⟩ := Option.bind_eq_some_iff.mp e
      refine Rn.call hT rfl rfl rfl (Nat.le_of_ble_eq_true rfl) rfl (RX12_in (by omega) hR (ti_j p3) L64_0 L64_1 e_3505 (fun z_3505 p_3505 => ?_))
      show Rn d _ _ 23 [some (.ref q0), some (.int m1), some (.int m2), some (.int m3)] [.int z_3505] h Q
      by_cases c_3506 : v_3505 = 0
      · rw [if_pos c_3506] at e
        refine Rn.bt hT rfl rfl rfl (decide_eq_true ((ti_e p_3505 L32_0).mpr c_3506)) ?_
        exact Rn.weak (ll_n (ll_n (ll_n (ll_n ll_e)))) (RX12_drafted_b44 hd hR hq e)
      · rw [if_neg c_3506] at e
        refine Rn.bf hT rfl rfl rfl (decide_eq_false (fun z => c_3506 ((ti_e p_3505 L32_0).mp z))) ?_
        refine Rn.n hT 1 (pc' := 27) (L' := [some (.ref q0), some (.int m1), some (.int m2), some (.int m3)]) (st' := [.ref q0]) rfl ?_
        refine Rn.hp hT rfl rfl (gR_hp (rp_gR hR (T12_o t0) rfl)) ?_
        refine Rn.n hT 9 (pc' := 40) (L' := [some (.ref q0), some (.int m1), some (.int m2), some (.int m3)]) (st' := [.int ((((24 : Int32) * m1) + ((2 : Int32) * m2)) + m3), .ref (q0 + 10)]) rfl ?_
        obtain ⟨v_3507, e_3507, e⟩ := Option.bind_eq_some_iff.mp e
        obtain ⟨z_3507, g_3507, p_3507⟩ := rp_aI hR (T12_10 t0) (T12_10l t0) (ti_add (ti_add (ti_mul L32_24 p1) (ti_mul L32_2 p2)) p3) e_3507
        refine Rn.hp hT rfl rfl (aI_hp g_3507) ?_
        refine Rn.n hT 1 (pc' := 45) (L' := [some (.ref q0), some (.int m1), some (.int m2), some (.int m3)]) (st' := [.int z_3507]) rfl ?_
        exact Rn.weak (ll_n (ll_n (ll_n (ll_n ll_e)))) (RX12_drafted_b45 hd hR p_3507 hq e)
set_option maxRecDepth 10000 in
theorem hX12_isEmptyInDraft : iv_Tb 289 tX12_isEmptyInDraft := iv_tb_of (m := mX12_isEmptyInDraft) rfl
set_option maxRecDepth 10000 in
theorem gX12_isEmptyInDraft : PG.2 289 = some mX12_isEmptyInDraft := iv_pi_of (t := tX12_isEmptyInDraft) rfl (by decide)
def FX12_isEmptyInDraft_b49 (N : Nat) (s : iv_M) (q0 : Nat) (x1 : Int) (x2 : Int) (x4 : Int) (xs0 : Int) (kb : Int → Int → Option (Int)) (kx : Int → Option (Int)) : Option (Int) := (kb xs0 (w32 (x4 + 1)))
set_option maxRecDepth 10000 in
set_option maxHeartbeats 4000000 in
theorem RX12_isEmptyInDraft_b49 {d N nc Ls : Nat} {Xs : Nat → Int32} (hd : 0 ≤ d) {h : iv_H} {s : iv_M} (hR : Rep nc Ls Xs h s) {q0 : Nat} (t0 : T12 nc q0) {m1 : Int32} {x1 : Int} (p1 : m1.toInt = x1) {m2 : Int32} {x2 : Int} (p2 : m2.toInt = x2) {m4 : Int32} {x4 : Int} (p4 : m4.toInt = x4) {ms0 : Int32} {xs0 : Int} (ps0 : ms0.toInt = xs0) {kb : Int → Int → Option (Int)} {kx : Int → Option (Int)} {r : Int} {Q : Option Value → iv_H → Prop} (hb : ∀ (mw3 : Int32) (xw3 : Int) (pw3 : mw3.toInt = xw3) (mw4 : Int32) (xw4 : Int) (pw4 : mw4.toInt = xw4), kb xw3 xw4 = some r → Rn d 289 (some .boolean) 14 [some (.ref q0), some (.int m1), some (.int m2), some (.int mw3), some (.int mw4)] [] h Q) (hk : ∀ (mw3 : Int32) (xw3 : Int) (pw3 : mw3.toInt = xw3), kx xw3 = some r → Rn d 289 (some .boolean) 56 [none, none, none, some (.int mw3), none] [] h Q) (hq : ∀ (z : Int32), z.toInt = r → Q (some (.int z)) h) (e : FX12_isEmptyInDraft_b49 N s q0 x1 x2 x4 xs0 kb kx = some r) : Rn d 289 (some .boolean) 49 [some (.ref q0), some (.int m1), some (.int m2), none, some (.int m4)] [.int ms0] h Q := by
  have hT := hX12_isEmptyInDraft
  unfold FX12_isEmptyInDraft_b49 at e
  refine Rn.n hT 3 (pc' := 14) (L' := [some (.ref q0), some (.int m1), some (.int m2), some (.int ms0), some (.int (m4 + (1 : Int32)))]) (st' := []) rfl ?_
  exact Rn.weak (ll_s (ll_s (ll_s (ll_s (ll_s ll_e))))) (hb ms0 xs0 ps0 (m4 + (1 : Int32)) (w32 (x4 + 1)) (ti_add p4 L32_1) e)
def FX12_isEmptyInDraft_b48 (N : Nat) (s : iv_M) (q0 : Nat) (x1 : Int) (x2 : Int) (x4 : Int)  (kb : Int → Int → Option (Int)) (kx : Int → Option (Int)) : Option (Int) := (FX12_isEmptyInDraft_b49 N s q0 x1 x2 x4 0 kb kx)
set_option maxRecDepth 10000 in
set_option maxHeartbeats 4000000 in
theorem RX12_isEmptyInDraft_b48 {d N nc Ls : Nat} {Xs : Nat → Int32} (hd : 0 ≤ d) {h : iv_H} {s : iv_M} (hR : Rep nc Ls Xs h s) {q0 : Nat} (t0 : T12 nc q0) {m1 : Int32} {x1 : Int} (p1 : m1.toInt = x1) {m2 : Int32} {x2 : Int} (p2 : m2.toInt = x2) {m4 : Int32} {x4 : Int} (p4 : m4.toInt = x4)  {kb : Int → Int → Option (Int)} {kx : Int → Option (Int)} {r : Int} {Q : Option Value → iv_H → Prop} (hb : ∀ (mw3 : Int32) (xw3 : Int) (pw3 : mw3.toInt = xw3) (mw4 : Int32) (xw4 : Int) (pw4 : mw4.toInt = xw4), kb xw3 xw4 = some r → Rn d 289 (some .boolean) 14 [some (.ref q0), some (.int m1), some (.int m2), some (.int mw3), some (.int mw4)] [] h Q) (hk : ∀ (mw3 : Int32) (xw3 : Int) (pw3 : mw3.toInt = xw3), kx xw3 = some r → Rn d 289 (some .boolean) 56 [none, none, none, some (.int mw3), none] [] h Q) (hq : ∀ (z : Int32), z.toInt = r → Q (some (.int z)) h) (e : FX12_isEmptyInDraft_b48 N s q0 x1 x2 x4  kb kx = some r) : Rn d 289 (some .boolean) 48 [some (.ref q0), some (.int m1), some (.int m2), none, some (.int m4)] [] h Q := by
  have hT := hX12_isEmptyInDraft
  unfold FX12_isEmptyInDraft_b48 at e
  refine Rn.n hT 1 (pc' := 49) (L' := [some (.ref q0), some (.int m1), some (.int m2), none, some (.int m4)]) (st' := [.int (0 : Int32)]) rfl ?_
  exact Rn.weak (ll_s (ll_s (ll_s (ll_n (ll_s ll_e))))) (RX12_isEmptyInDraft_b49 hd hR t0 p1 p2 p4 L32_0 hb hk hq e)
def FX12_isEmptyInDraft_l14 (N : Nat) (s : iv_M) (q0 : Nat) (x1 : Int) (x2 : Int) (kx : Int → Option (Int)) : Nat → Int → Int → Option (Int)
  | 0, _, _ => none
  | n + 1, x3, x4 => ((rd s (q0 + 1) 14 2).bind fun v_3511 => (if v_3511 ≤ x4 then (kx x3) else (if x3 = 0 then (FX12_isEmptyInDraft_b48 N s q0 x1 x2 x4 (FX12_isEmptyInDraft_l14 N s q0 x1 x2 kx n) kx) else ((rd s (q0 + 10) 96 (w32 (x1 + (w32 (2 * x4))))).bind fun v_3514 => (if v_3514 = x2 then (FX12_isEmptyInDraft_b48 N s q0 x1 x2 x4 (FX12_isEmptyInDraft_l14 N s q0 x1 x2 kx n) kx) else (FX12_isEmptyInDraft_b49 N s q0 x1 x2 x4 1 (FX12_isEmptyInDraft_l14 N s q0 x1 x2 kx n) kx))))))
set_option maxRecDepth 10000 in
set_option maxHeartbeats 4000000 in
theorem RX12_isEmptyInDraft_l14 {d N nc Ls : Nat} {Xs : Nat → Int32} (hd : 0 ≤ d) {h : iv_H} {s : iv_M} (hR : Rep nc Ls Xs h s) {q0 : Nat} (t0 : T12 nc q0) {m1 : Int32} {x1 : Int} (p1 : m1.toInt = x1) {m2 : Int32} {x2 : Int} (p2 : m2.toInt = x2) {kx : Int → Option (Int)} {r : Int} {Q : Option Value → iv_H → Prop} (hk : ∀ (m3 : Int32) (x3 : Int) (p3 : m3.toInt = x3), kx x3 = some r → Rn d 289 (some .boolean) 56 [none, none, none, some (.int m3), none] [] h Q) (hq : ∀ (z : Int32), z.toInt = r → Q (some (.int z)) h) : ∀ (n : Nat) (m3 : Int32) (x3 : Int) (p3 : m3.toInt = x3) (m4 : Int32) (x4 : Int) (p4 : m4.toInt = x4), FX12_isEmptyInDraft_l14 N s q0 x1 x2 kx n x3 x4 = some r → Rn d 289 (some .boolean) 14 [some (.ref q0), some (.int m1), some (.int m2), some (.int m3), some (.int m4)] [] h Q := by
  have hT := hX12_isEmptyInDraft
  intro n
  induction n with
  | zero =>
    intro m3 x3 p3 m4 x4 p4 e
    rw [FX12_isEmptyInDraft_l14] at e
    cases e
  | succ n ih =>
    intro m3 x3 p3 m4 x4 p4 e
    rw [FX12_isEmptyInDraft_l14] at e
    refine Rn.n hT 2 (pc' := 17) (L' := [some (.ref q0), some (.int m1), some (.int m2), some (.int m3), some (.int m4)]) (st' := [.ref q0, .int m4]) rfl ?_
    refine Rn.hp hT rfl rfl (gR_hp (rp_gR hR (T12_o t0) rfl)) ?_
    refine Rn.n hT 1 (pc' := 21) (L' := [some (.ref q0), some (.int m1), some (.int m2), some (.int m3), some (.int m4)]) (st' := [.int (2 : Int32), .ref (q0 + 1), .int m4]) rfl ?_
    obtain ⟨v_3511, e_3511, e⟩ := Option.bind_eq_some_iff.mp e
    obtain ⟨z_3511, g_3511, p_3511⟩ := rp_aI hR (T12_1 t0) (T12_1l t0) L32_2 e_3511
    refine Rn.hp hT rfl rfl (aI_hp g_3511) ?_
    by_cases c_3512 : v_3511 ≤ x4
    · rw [if_pos c_3512] at e
      refine Rn.bt hT rfl rfl rfl (decide_eq_true ((ti_le p_3511 p4).mpr c_3512)) ?_
      exact Rn.weak (ll_n (ll_n (ll_n (ll_s (ll_n ll_e))))) (hk m3 x3 p3 e)
    · rw [if_neg c_3512] at e
      refine Rn.bf hT rfl rfl rfl (decide_eq_false (fun z => c_3512 ((ti_le p_3511 p4).mp z))) ?_
      refine Rn.n hT 1 (pc' := 26) (L' := [some (.ref q0), some (.int m1), some (.int m2), some (.int m3), some (.int m4)]) (st' := [.int m3]) rfl ?_
      by_cases c_3513 : x3 = 0
      · rw [if_pos c_3513] at e
        refine Rn.bt hT rfl rfl rfl (decide_eq_true ((ti_e p3 L32_0).mpr c_3513)) ?_
        exact Rn.weak (ll_s (ll_s (ll_s (ll_n (ll_s ll_e))))) (RX12_isEmptyInDraft_b48 hd hR t0 p1 p2 p4 ih hk hq e)
      · rw [if_neg c_3513] at e
        refine Rn.bf hT rfl rfl rfl (decide_eq_false (fun z => c_3513 ((ti_e p3 L32_0).mp z))) ?_
        refine Rn.n hT 1 (pc' := 30) (L' := [some (.ref q0), some (.int m1), some (.int m2), some (.int m3), some (.int m4)]) (st' := [.ref q0]) rfl ?_
        refine Rn.hp hT rfl rfl (gR_hp (rp_gR hR (T12_o t0) rfl)) ?_
        refine Rn.n hT 5 (pc' := 39) (L' := [some (.ref q0), some (.int m1), some (.int m2), some (.int m3), some (.int m4)]) (st' := [.int (m1 + ((2 : Int32) * m4)), .ref (q0 + 10)]) rfl ?_
        obtain ⟨v_3514, e_3514, e⟩ := Option.bind_eq_some_iff.mp e
        obtain ⟨z_3514, g_3514, p_3514⟩ := rp_aI hR (T12_10 t0) (T12_10l t0) (ti_add p1 (ti_mul L32_2 p4)) e_3514
        refine Rn.hp hT rfl rfl (aI_hp g_3514) ?_
        refine Rn.n hT 1 (pc' := 41) (L' := [some (.ref q0), some (.int m1), some (.int m2), some (.int m3), some (.int m4)]) (st' := [.int m2, .int z_3514]) rfl ?_
        by_cases c_3515 : v_3514 = x2
        · rw [if_pos c_3515] at e
          refine Rn.bt hT rfl rfl rfl (decide_eq_true ((ti_e p_3514 p2).mpr c_3515)) ?_
          exact Rn.weak (ll_s (ll_s (ll_s (ll_n (ll_s ll_e))))) (RX12_isEmptyInDraft_b48 hd hR t0 p1 p2 p4 ih hk hq e)
        · rw [if_neg c_3515] at e
          refine Rn.bf hT rfl rfl rfl (decide_eq_false (fun z => c_3515 ((ti_e p_3514 p2).mp z))) ?_
          refine Rn.n hT 2 (pc' := 49) (L' := [some (.ref q0), some (.int m1), some (.int m2), some (.int m3), some (.int m4)]) (st' := [.int (1 : Int32)]) rfl ?_
          exact Rn.weak (ll_s (ll_s (ll_s (ll_n (ll_s ll_e))))) (RX12_isEmptyInDraft_b49 hd hR t0 p1 p2 p4 L32_1 ih hk hq e)
def FX12_isEmptyInDraft_b10 (N : Nat) (s : iv_M) (q0 : Nat) (x1 : Int) (x2 : Int) (xs0 : Int) : Option (Int) := (FX12_isEmptyInDraft_l14 N s q0 x1 x2 (fun (x3509_3 : Int) => (if x3509_3 = 0 ∨ x3509_3 = 1 then some x3509_3 else none)) N xs0 0)
set_option maxRecDepth 10000 in
set_option maxHeartbeats 4000000 in
theorem RX12_isEmptyInDraft_b10 {d N nc Ls : Nat} {Xs : Nat → Int32} (hd : 0 ≤ d) {h : iv_H} {s : iv_M} (hR : Rep nc Ls Xs h s) {q0 : Nat} (t0 : T12 nc q0) {m1 : Int32} {x1 : Int} (p1 : m1.toInt = x1) {m2 : Int32} {x2 : Int} (p2 : m2.toInt = x2) {ms0 : Int32} {xs0 : Int} (ps0 : ms0.toInt = xs0) {r : Int} {Q : Option Value → iv_H → Prop} (hq : ∀ (z : Int32), z.toInt = r → Q (some (.int z)) h) (e : FX12_isEmptyInDraft_b10 N s q0 x1 x2 xs0 = some r) : Rn d 289 (some .boolean) 10 [some (.ref q0), some (.int m1), some (.int m2), none, none] [.int ms0] h Q := by
  have hT := hX12_isEmptyInDraft
  unfold FX12_isEmptyInDraft_b10 at e
  refine Rn.n hT 3 (pc' := 14) (L' := [some (.ref q0), some (.int m1), some (.int m2), some (.int ms0), some (.int (0 : Int32))]) (st' := []) rfl ?_
  refine Rn.weak (ll_s (ll_s (ll_s (ll_s (ll_s ll_e))))) (RX12_isEmptyInDraft_l14 hd hR t0 p1 p2 (fun m3509_3 x3509_3 p3509_3 e => ?_) hq N ms0 xs0 ps0 (0 : Int32) 0 L32_0 e)
  try dsimp only at e
  refine Rn.n hT 1 (pc' := 57) (L' := [none, none, none, some (.int m3509_3), none]) (st' := [.int m3509_3]) rfl ?_
  by_cases c_3510 : x3509_3 = 0 ∨ x3509_3 = 1
  · rw [if_pos c_3510] at e
    obtain rfl := Option.some.inj e
    exact Rn.ret hT rfl rfl (if_pos (ti_b p3509_3 c_3510)) (hq m3509_3 p3509_3)
  · rw [if_neg c_3510] at e
    cases e
def FX12_isEmptyInDraft (N : Nat) (s : iv_M) (q0 : Nat) (x1 : Int) (x2 : Int) : Option (Int) := (if x2 = (-1) then (FX12_isEmptyInDraft_b10 N s q0 x1 x2 0) else (FX12_isEmptyInDraft_b10 N s q0 x1 x2 1))
set_option maxRecDepth 10000 in
set_option maxHeartbeats 4000000 in
theorem RX12_isEmptyInDraft {d N nc Ls : Nat} {Xs : Nat → Int32} (hd : 1 ≤ d) {h : iv_H} {s : iv_M} (hR : Rep nc Ls Xs h s) {q0 : Nat} (t0 : T12 nc q0) {m1 : Int32} {x1 : Int} (p1 : m1.toInt = x1) {m2 : Int32} {x2 : Int} (p2 : m2.toInt = x2) {r : Int} {Q : Option Value → iv_H → Prop} (e : FX12_isEmptyInDraft N s q0 x1 x2 = some r) (hq : ∀ (z : Int32), z.toInt = r → Q (some (.int z)) h) : Cl d 289 [.ref q0, .int m1, .int m2] h Q := by
  obtain ⟨d, rfl⟩ : ∃ k, d = k + 1 := ⟨d - 1, by omega⟩
  have hd : 0 ≤ d := by omega
  have hT := hX12_isEmptyInDraft
  unfold FX12_isEmptyInDraft at e
  refine Cl.into (by decide) gX12_isEmptyInDraft rfl ?_
  show Rn d 289 (some .boolean) 0 [some (.ref q0), some (.int m1), some (.int m2), none, none] [] h Q
  refine Rn.n hT 2 (pc' := 2) (L' := [some (.ref q0), some (.int m1), some (.int m2), none, none]) (st' := [.int (-1 : Int32), .int m2]) rfl ?_
  by_cases c_3508 : x2 = (-1)
  · rw [if_pos c_3508] at e
    refine Rn.bt hT rfl rfl rfl (decide_eq_true ((ti_e p2 L32_m1).mpr c_3508)) ?_
    refine Rn.n hT 1 (pc' := 10) (L' := [some (.ref q0), some (.int m1), some (.int m2), none, none]) (st' := [.int (0 : Int32)]) rfl ?_
    exact Rn.weak (ll_s (ll_s (ll_s (ll_n (ll_n ll_e))))) (RX12_isEmptyInDraft_b10 hd hR t0 p1 p2 L32_0 hq e)
  · rw [if_neg c_3508] at e
    refine Rn.bf hT rfl rfl rfl (decide_eq_false (fun z => c_3508 ((ti_e p2 L32_m1).mp z))) ?_
    refine Rn.n hT 2 (pc' := 10) (L' := [some (.ref q0), some (.int m1), some (.int m2), none, none]) (st' := [.int (1 : Int32)]) rfl ?_
    exact Rn.weak (ll_s (ll_s (ll_s (ll_n (ll_n ll_e))))) (RX12_isEmptyInDraft_b10 hd hR t0 p1 p2 L32_1 hq e)
set_option maxRecDepth 10000 in
theorem hX12_redraw : iv_Tb 290 tX12_redraw := iv_tb_of (m := mX12_redraw) rfl
set_option maxRecDepth 10000 in
theorem gX12_redraw : PG.2 290 = some mX12_redraw := iv_pi_of (t := tX12_redraw) rfl (by decide)
def FX12_redraw_b19 (N : Nat) (s : iv_M)   : Option (Int × iv_M) := (some (0, s))
set_option maxRecDepth 10000 in
set_option maxHeartbeats 4000000 in
theorem RX12_redraw_b19 {d N nc Ls : Nat} {Xs : Nat → Int32} (hd : 3 ≤ d) {h : iv_H} {s : iv_M} (hR : Rep nc Ls Xs h s)   {r : Int × iv_M} {Q : Option Value → iv_H → Prop} (hq : ∀ (z : Int32) (h1 : iv_H), z.toInt = r.1 → Rep nc Ls Xs h1 r.2 → Q (some (.int z)) h1) (e : FX12_redraw_b19 N s   = some r) : Rn d 290 (some .boolean) 19 [none, none, none, none, none, none, none, none, none] [] h Q := by
  have hT := hX12_redraw
  unfold FX12_redraw_b19 at e
  refine Rn.n hT 1 (pc' := 20) (L' := [none, none, none, none, none, none, none, none, none]) (st' := [.int (0 : Int32)]) rfl ?_
  obtain rfl := Option.some.inj e
  exact Rn.ret hT rfl rfl rfl (hq (0 : Int32) h L32_0 hR)
def FX12_redraw_b88 (N : Nat) (s : iv_M) (x8 : Int) (xs0 : Int) (xs1 : Int) (qs2 : Nat) : Option (Int × iv_M) := ((wr s qs2 ((sh qs2).2 : Int) xs1 xs0).bind fun s_3536 => (if x8 = 0 ∨ x8 = 1 then some (x8, s_3536) else none))
set_option maxRecDepth 10000 in
set_option maxHeartbeats 4000000 in
theorem RX12_redraw_b88 {d N nc Ls : Nat} {Xs : Nat → Int32} (hd : 3 ≤ d) {h : iv_H} {s : iv_M} (hR : Rep nc Ls Xs h s) {m8 : Int32} {x8 : Int} (p8 : m8.toInt = x8) {ms0 : Int32} {xs0 : Int} (ps0 : ms0.toInt = xs0) {ms1 : Int32} {xs1 : Int} (ps1 : ms1.toInt = xs1) {qs2 : Nat} (ts2 : TA 0 nc qs2) {r : Int × iv_M} {Q : Option Value → iv_H → Prop} (hq : ∀ (z : Int32) (h1 : iv_H), z.toInt = r.1 → Rep nc Ls Xs h1 r.2 → Q (some (.int z)) h1) (e : FX12_redraw_b88 N s x8 xs0 xs1 qs2 = some r) : Rn d 290 (some .boolean) 88 [none, none, none, none, none, none, none, none, some (.int m8)] [.int ms0, .int ms1, .ref qs2] h Q := by
  have hT := hX12_redraw
  unfold FX12_redraw_b88 at e
  obtain ⟨s_3536, e_3537, e⟩ := Option.bind_eq_some_iff.mp e
  obtain ⟨h_3536, g_3537, R_3536⟩ := rp_wI hR ts2 rfl ps1 ps0 e_3537
  refine Rn.hp hT rfl rfl (wI_hp g_3537) ?_
  refine Rn.n hT 1 (pc' := 91) (L' := [none, none, none, none, none, none, none, none, some (.int m8)]) (st' := [.int m8]) rfl ?_
  by_cases c_3538 : x8 = 0 ∨ x8 = 1
  · rw [if_pos c_3538] at e
    obtain rfl := Option.some.inj e
    exact Rn.ret hT rfl rfl (if_pos (ti_b p8 c_3538)) (hq m8 h_3536 p8 R_3536)
  · rw [if_neg c_3538] at e
    cases e
def FX12_redraw_b164 (N : Nat) (s : iv_M)   : Option (Int × iv_M) := (some (1, s))
set_option maxRecDepth 10000 in
set_option maxHeartbeats 4000000 in
theorem RX12_redraw_b164 {d N nc Ls : Nat} {Xs : Nat → Int32} (hd : 3 ≤ d) {h : iv_H} {s : iv_M} (hR : Rep nc Ls Xs h s)   {r : Int × iv_M} {Q : Option Value → iv_H → Prop} (hq : ∀ (z : Int32) (h1 : iv_H), z.toInt = r.1 → Rep nc Ls Xs h1 r.2 → Q (some (.int z)) h1) (e : FX12_redraw_b164 N s   = some r) : Rn d 290 (some .boolean) 164 [none, none, none, none, none, none, none, none, none] [] h Q := by
  have hT := hX12_redraw
  unfold FX12_redraw_b164 at e
  refine Rn.n hT 1 (pc' := 165) (L' := [none, none, none, none, none, none, none, none, none]) (st' := [.int (1 : Int32)]) rfl ?_
  obtain rfl := Option.some.inj e
  exact Rn.ret hT rfl rfl rfl (hq (1 : Int32) h L32_1 hR)
def FX12_redraw (N : Nat) (s : iv_M) (q0 : Nat) (x1 : Int) (x2 : Int) (x3 : Int) (x4 : Int) : Option (Int × iv_M) := ((FX12_isDraft N s q0 x1).bind fun v_3516 => (if v_3516 = 0 then (FX12_redraw_b19 N s) else ((FX12_isWalk N s q0 x2 x3 x4).bind fun v_3518 => (if v_3518 = 0 then (FX12_redraw_b19 N s) else (if x2 = 1 then ((rd s (q0 + 10) 96 (w32 ((w32 (24 * x1)) + (w32 (2 * x3))))).bind fun v_3531 => ((FX12_by N s q0 v_3531 x4).bind fun v_3532 => ((FX12_isEmptyInDraft N s q0 (w32 (24 * x1)) v_3532).bind fun v_3533 => (if v_3533 = 0 then ((rd s (q0 + 10) 96 (w32 ((w32 (24 * x1)) + (w32 (2 * x3))))).bind fun v_3535 => (FX12_redraw_b88 N s v_3533 v_3535 (w32 ((w32 (24 * x1)) + (w32 (2 * x3)))) (q0 + 10))) else (FX12_redraw_b88 N s v_3533 v_3532 (w32 ((w32 (24 * x1)) + (w32 (2 * x3)))) (q0 + 10)))))) else (if x2 = 2 then ((rd s (q0 + 10) 96 (w32 ((w32 (24 * x1)) + (w32 (2 * x3))))).bind fun v_3525 => ((rd s (q0 + 10) 96 (w32 ((w32 (24 * x1)) + (w32 (2 * x4))))).bind fun v_3526 => ((wr s (q0 + 10) 96 (w32 ((w32 (24 * x1)) + (w32 (2 * x3)))) v_3526).bind fun s_3527 => ((wr s_3527 (q0 + 10) 96 (w32 ((w32 (24 * x1)) + (w32 (2 * x4)))) v_3525).bind fun s_3529 => (FX12_redraw_b164 N s_3529))))) else ((rd s (q0 + 10) 96 (w32 ((w32 ((w32 (24 * x1)) + (w32 (2 * x3)))) + 1))).bind fun v_3522 => ((wr s (q0 + 10) 96 (w32 ((w32 ((w32 (24 * x1)) + (w32 (2 * x3)))) + 1)) (bAn (w32 (v_3522 + 1)) 3)).bind fun s_3523 => (FX12_redraw_b164 N s_3523)))))))))
set_option maxRecDepth 10000 in
set_option maxHeartbeats 4000000 in
theorem RX12_redraw {d N nc Ls : Nat} {Xs : Nat → Int32} (hd : 4 ≤ d) {h : iv_H} {s : iv_M} (hR : Rep nc Ls Xs h s) {q0 : Nat} (t0 : T12 nc q0) {m1 : Int32} {x1 : Int} (p1 : m1.toInt = x1) {m2 : Int32} {x2 : Int} (p2 : m2.toInt = x2) {m3 : Int32} {x3 : Int} (p3 : m3.toInt = x3) {m4 : Int32} {x4 : Int} (p4 : m4.toInt = x4) {r : Int × iv_M} {Q : Option Value → iv_H → Prop} (e : FX12_redraw N s q0 x1 x2 x3 x4 = some r) (hq : ∀ (z : Int32) (h1 : iv_H), z.toInt = r.1 → Rep nc Ls Xs h1 r.2 → Q (some (.int z)) h1) : Cl d 290 [.ref q0, .int m1, .int m2, .int m3, .int m4] h Q := by
  obtain ⟨d, rfl⟩ : ∃ k, d = k + 1 := ⟨d - 1, by omega⟩
  have hd : 3 ≤ d := by omega
  have hT := hX12_redraw
  unfold FX12_redraw at e
  refine Cl.into (by decide) gX12_redraw rfl ?_
  show Rn d 290 (some .boolean) 0 [some (.ref q0), some (.int m1), some (.int m2), some (.int m3), some (.int m4), none, none, none, none] [] h Q
  refine Rn.n hT 2 (pc' := 2) (L' := [some (.ref q0), some (.int m1), some (.int m2), some (.int m3), some (.int m4), none, none, none, none]) (st' := [.int m1, .ref q0]) rfl ?_
  obtain ⟨v_3516, e_3516, e⟩ := Option.bind_eq_some_iff.mp e
  refine Rn.call hT rfl rfl rfl (Nat.le_of_ble_eq_true rfl) (rcv_v gX12_isDraft (by omega) (rp_ck hR (T12_o t0))) (RX12_isDraft (by omega) hR t0 p1 e_3516 (fun z_3516 p_3516 => ?_))
  show Rn d _ _ 5 [some (.ref q0), some (.int m1), some (.int m2), some (.int m3), some (.int m4), none, none, none, none] [.int z_3516] h Q
  by_cases c_3517 : v_3516 = 0
  · rw [if_pos c_3517] at e
    refine Rn.bt hT rfl rfl rfl (decide_eq_true ((ti_e p_3516 L32_0).mpr c_3517)) ?_
    exact Rn.weak (ll_n (ll_n (ll_n (ll_n (ll_n (ll_n (ll_n (ll_n (ll_n ll_e))))))))) (RX12_redraw_b19 hd hR hq e)
  · rw [if_neg c_3517] at e
    refine Rn.bf hT rfl rfl rfl (decide_eq_false (fun z => c_3517 ((ti_e p_3516 L32_0).mp z))) ?_
    refine Rn.n hT 4 (pc' := 13) (L' := [some (.ref q0), some (.int m1), some (.int m2), some (.int m3), some (.int m4), none, none, none, none]) (st' := [.int m4, .int m3, .int m2, .ref q0]) rfl ?_
    obtain ⟨v_3518, e_3518, e⟩ := Option.bind_eq_some_iff.mp e
    refine Rn.call hT rfl rfl rfl (Nat.le_of_ble_eq_true rfl) (rcv_v gX12_isWalk (by omega) (rp_ck hR (T12_o t0))) (RX12_isWalk (by omega) hR t0 p2 p3 p4 e_3518 (fun z_3518 p_3518 => ?_))
    show Rn d _ _ 16 [some (.ref q0), some (.int m1), some (.int m2), some (.int m3), some (.int m4), none, none, none, none] [.int z_3518] h Q
    by_cases c_3519 : v_3518 = 0
    · rw [if_pos c_3519] at e
      refine Rn.bf hT rfl rfl rfl (decide_eq_false (fun z => z ((ti_e p_3518 L32_0).mpr c_3519))) ?_
      exact Rn.weak (ll_n (ll_n (ll_n (ll_n (ll_n (ll_n (ll_n (ll_n (ll_n ll_e))))))))) (RX12_redraw_b19 hd hR hq e)
    · rw [if_neg c_3519] at e
      refine Rn.bt hT rfl rfl rfl (decide_eq_true (fun z => c_3519 ((ti_e p_3518 L32_0).mp z))) ?_
      refine Rn.n hT 12 (pc' := 37) (L' := [some (.ref q0), some (.int m1), some (.int m2), some (.int m3), some (.int m4), some (.int ((24 : Int32) * m1)), some (.int (((24 : Int32) * m1) + ((2 : Int32) * m3))), none, none]) (st' := [.int (1 : Int32), .int m2]) rfl ?_
      by_cases c_3520 : x2 = 1
      · rw [if_pos c_3520] at e
        refine Rn.bf hT rfl rfl rfl (decide_eq_false (fun z => z ((ti_e p2 L32_1).mpr c_3520))) ?_
        refine Rn.n hT 2 (pc' := 42) (L' := [some (.ref q0), some (.int m1), some (.int m2), some (.int m3), some (.int m4), some (.int ((24 : Int32) * m1)), some (.int (((24 : Int32) * m1) + ((2 : Int32) * m3))), none, none]) (st' := [.ref q0, .ref q0]) rfl ?_
        refine Rn.hp hT rfl rfl (gR_hp (rp_gR hR (T12_o t0) rfl)) ?_
        refine Rn.n hT 1 (pc' := 47) (L' := [some (.ref q0), some (.int m1), some (.int m2), some (.int m3), some (.int m4), some (.int ((24 : Int32) * m1)), some (.int (((24 : Int32) * m1) + ((2 : Int32) * m3))), none, none]) (st' := [.int (((24 : Int32) * m1) + ((2 : Int32) * m3)), .ref (q0 + 10), .ref q0]) rfl ?_
        obtain ⟨v_3531, e_3531, e⟩ := Option.bind_eq_some_iff.mp e
        obtain ⟨z_3531, g_3531, p_3531⟩ := rp_aI hR (T12_10 t0) (T12_10l t0) (ti_add (ti_mul L32_24 p1) (ti_mul L32_2 p3)) e_3531
        refine Rn.hp hT rfl rfl (aI_hp g_3531) ?_
        refine Rn.n hT 1 (pc' := 50) (L' := [some (.ref q0), some (.int m1), some (.int m2), some (.int m3), some (.int m4), some (.int ((24 : Int32) * m1)), some (.int (((24 : Int32) * m1) + ((2 : Int32) * m3))), none, none]) (st' := [.int m4, .int z_3531, .ref q0]) rfl ?_
        obtain ⟨v_3532, e_3532, e⟩ := Option.bind_eq_some_iff.mp e
        refine Rn.call hT rfl rfl rfl (Nat.le_of_ble_eq_true rfl) (rcv_v gX12_by (by omega) (rp_ck hR (T12_o t0))) (RX12_by (by omega) hR t0 p_3531 p4 e_3532 (fun z_3532 p_3532 => ?_))
        show Rn d _ _ 53 [some (.ref q0), some (.int m1), some (.int m2), some (.int m3), some (.int m4), some (.int ((24 : Int32) * m1)), some (.int (((24 : Int32) * m1) + ((2 : Int32) * m3))), none, none] [.int z_3532] h Q
        refine Rn.n hT 4 (pc' := 60) (L' := [some (.ref q0), some (.int m1), some (.int m2), some (.int m3), some (.int m4), some (.int ((24 : Int32) * m1)), some (.int (((24 : Int32) * m1) + ((2 : Int32) * m3))), some (.int z_3532), none]) (st' := [.int z_3532, .int ((24 : Int32) * m1), .ref q0]) rfl ?_
        obtain ⟨v_3533, e_3533, e⟩ := Option.bind_eq_some_iff.mp e
        refine Rn.call hT rfl rfl rfl (Nat.le_of_ble_eq_true rfl) (rcv_v gX12_isEmptyInDraft (by omega) (rp_ck hR (T12_o t0))) (RX12_isEmptyInDraft (by omega) hR t0 (ti_mul L32_24 p1) p_3532 e_3533 (fun z_3533 p_3533 => ?_))
        show Rn d _ _ 63 [some (.ref q0), some (.int m1), some (.int m2), some (.int m3), some (.int m4), some (.int ((24 : Int32) * m1)), some (.int (((24 : Int32) * m1) + ((2 : Int32) * m3))), some (.int z_3532), none] [.int z_3533] h Q
        refine Rn.n hT 2 (pc' := 66) (L' := [some (.ref q0), some (.int m1), some (.int m2), some (.int m3), some (.int m4), some (.int ((24 : Int32) * m1)), some (.int (((24 : Int32) * m1) + ((2 : Int32) * m3))), some (.int z_3532), some (.int z_3533)]) (st' := [.ref q0]) rfl ?_
        refine Rn.hp hT rfl rfl (gR_hp (rp_gR hR (T12_o t0) rfl)) ?_
        refine Rn.n hT 2 (pc' := 73) (L' := [some (.ref q0), some (.int m1), some (.int m2), some (.int m3), some (.int m4), some (.int ((24 : Int32) * m1)), some (.int (((24 : Int32) * m1) + ((2 : Int32) * m3))), some (.int z_3532), some (.int z_3533)]) (st' := [.int z_3533, .int (((24 : Int32) * m1) + ((2 : Int32) * m3)), .ref (q0 + 10)]) rfl ?_
        by_cases c_3534 : v_3533 = 0
        · rw [if_pos c_3534] at e
          refine Rn.bt hT rfl rfl rfl (decide_eq_true ((ti_e p_3533 L32_0).mpr c_3534)) ?_
          refine Rn.n hT 1 (pc' := 82) (L' := [some (.ref q0), some (.int m1), some (.int m2), some (.int m3), some (.int m4), some (.int ((24 : Int32) * m1)), some (.int (((24 : Int32) * m1) + ((2 : Int32) * m3))), some (.int z_3532), some (.int z_3533)]) (st' := [.ref q0, .int (((24 : Int32) * m1) + ((2 : Int32) * m3)), .ref (q0 + 10)]) rfl ?_
          refine Rn.hp hT rfl rfl (gR_hp (rp_gR hR (T12_o t0) rfl)) ?_
          refine Rn.n hT 1 (pc' := 87) (L' := [some (.ref q0), some (.int m1), some (.int m2), some (.int m3), some (.int m4), some (.int ((24 : Int32) * m1)), some (.int (((24 : Int32) * m1) + ((2 : Int32) * m3))), some (.int z_3532), some (.int z_3533)]) (st' := [.int (((24 : Int32) * m1) + ((2 : Int32) * m3)), .ref (q0 + 10), .int (((24 : Int32) * m1) + ((2 : Int32) * m3)), .ref (q0 + 10)]) rfl ?_
          obtain ⟨v_3535, e_3535, e⟩ := Option.bind_eq_some_iff.mp e
          obtain ⟨z_3535, g_3535, p_3535⟩ := rp_aI hR (T12_10 t0) (T12_10l t0) (ti_add (ti_mul L32_24 p1) (ti_mul L32_2 p3)) e_3535
          refine Rn.hp hT rfl rfl (aI_hp g_3535) ?_
          exact Rn.weak (ll_n (ll_n (ll_n (ll_n (ll_n (ll_n (ll_n (ll_n (ll_s ll_e))))))))) (RX12_redraw_b88 hd hR p_3533 p_3535 (ti_add (ti_mul L32_24 p1) (ti_mul L32_2 p3)) (T12_10 t0) hq e)
        · rw [if_neg c_3534] at e
          refine Rn.bf hT rfl rfl rfl (decide_eq_false (fun z => c_3534 ((ti_e p_3533 L32_0).mp z))) ?_
          refine Rn.n hT 2 (pc' := 88) (L' := [some (.ref q0), some (.int m1), some (.int m2), some (.int m3), some (.int m4), some (.int ((24 : Int32) * m1)), some (.int (((24 : Int32) * m1) + ((2 : Int32) * m3))), some (.int z_3532), some (.int z_3533)]) (st' := [.int z_3532, .int (((24 : Int32) * m1) + ((2 : Int32) * m3)), .ref (q0 + 10)]) rfl ?_
          exact Rn.weak (ll_n (ll_n (ll_n (ll_n (ll_n (ll_n (ll_n (ll_n (ll_s ll_e))))))))) (RX12_redraw_b88 hd hR p_3533 p_3532 (ti_add (ti_mul L32_24 p1) (ti_mul L32_2 p3)) (T12_10 t0) hq e)
      · rw [if_neg c_3520] at e
        refine Rn.bt hT rfl rfl rfl (decide_eq_true (fun z => c_3520 ((ti_e p2 L32_1).mp z))) ?_
        refine Rn.n hT 2 (pc' := 94) (L' := [some (.ref q0), some (.int m1), some (.int m2), some (.int m3), some (.int m4), some (.int ((24 : Int32) * m1)), some (.int (((24 : Int32) * m1) + ((2 : Int32) * m3))), none, none]) (st' := [.int (2 : Int32), .int m2]) rfl ?_
        by_cases c_3521 : x2 = 2
        · rw [if_pos c_3521] at e
          refine Rn.bf hT rfl rfl rfl (decide_eq_false (fun z => z ((ti_e p2 L32_2).mpr c_3521))) ?_
          refine Rn.n hT 1 (pc' := 98) (L' := [some (.ref q0), some (.int m1), some (.int m2), some (.int m3), some (.int m4), some (.int ((24 : Int32) * m1)), some (.int (((24 : Int32) * m1) + ((2 : Int32) * m3))), none, none]) (st' := [.ref q0]) rfl ?_
          refine Rn.hp hT rfl rfl (gR_hp (rp_gR hR (T12_o t0) rfl)) ?_
          refine Rn.n hT 1 (pc' := 103) (L' := [some (.ref q0), some (.int m1), some (.int m2), some (.int m3), some (.int m4), some (.int ((24 : Int32) * m1)), some (.int (((24 : Int32) * m1) + ((2 : Int32) * m3))), none, none]) (st' := [.int (((24 : Int32) * m1) + ((2 : Int32) * m3)), .ref (q0 + 10)]) rfl ?_
          obtain ⟨v_3525, e_3525, e⟩ := Option.bind_eq_some_iff.mp e
          obtain ⟨z_3525, g_3525, p_3525⟩ := rp_aI hR (T12_10 t0) (T12_10l t0) (ti_add (ti_mul L32_24 p1) (ti_mul L32_2 p3)) e_3525
          refine Rn.hp hT rfl rfl (aI_hp g_3525) ?_
          refine Rn.n hT 2 (pc' := 107) (L' := [some (.ref q0), some (.int m1), some (.int m2), some (.int m3), some (.int m4), some (.int ((24 : Int32) * m1)), some (.int (((24 : Int32) * m1) + ((2 : Int32) * m3))), some (.int z_3525), none]) (st' := [.ref q0]) rfl ?_
          refine Rn.hp hT rfl rfl (gR_hp (rp_gR hR (T12_o t0) rfl)) ?_
          refine Rn.n hT 2 (pc' := 113) (L' := [some (.ref q0), some (.int m1), some (.int m2), some (.int m3), some (.int m4), some (.int ((24 : Int32) * m1)), some (.int (((24 : Int32) * m1) + ((2 : Int32) * m3))), some (.int z_3525), none]) (st' := [.ref q0, .int (((24 : Int32) * m1) + ((2 : Int32) * m3)), .ref (q0 + 10)]) rfl ?_
          refine Rn.hp hT rfl rfl (gR_hp (rp_gR hR (T12_o t0) rfl)) ?_
          refine Rn.n hT 5 (pc' := 123) (L' := [some (.ref q0), some (.int m1), some (.int m2), some (.int m3), some (.int m4), some (.int ((24 : Int32) * m1)), some (.int (((24 : Int32) * m1) + ((2 : Int32) * m3))), some (.int z_3525), none]) (st' := [.int (((24 : Int32) * m1) + ((2 : Int32) * m4)), .ref (q0 + 10), .int (((24 : Int32) * m1) + ((2 : Int32) * m3)), .ref (q0 + 10)]) rfl ?_
          obtain ⟨v_3526, e_3526, e⟩ := Option.bind_eq_some_iff.mp e
          obtain ⟨z_3526, g_3526, p_3526⟩ := rp_aI hR (T12_10 t0) (T12_10l t0) (ti_add (ti_mul L32_24 p1) (ti_mul L32_2 p4)) e_3526
          refine Rn.hp hT rfl rfl (aI_hp g_3526) ?_
          obtain ⟨s_3527, e_3528, e⟩ := Option.bind_eq_some_iff.mp e
          obtain ⟨h_3527, g_3528, R_3527⟩ := rp_wI hR (T12_10 t0) (T12_10l t0) (ti_add (ti_mul L32_24 p1) (ti_mul L32_2 p3)) p_3526 e_3528
          refine Rn.hp hT rfl rfl (wI_hp g_3528) ?_
          refine Rn.n hT 1 (pc' := 126) (L' := [some (.ref q0), some (.int m1), some (.int m2), some (.int m3), some (.int m4), some (.int ((24 : Int32) * m1)), some (.int (((24 : Int32) * m1) + ((2 : Int32) * m3))), some (.int z_3525), none]) (st' := [.ref q0]) rfl ?_
          refine Rn.hp hT rfl rfl (gR_hp (rp_gR R_3527 (T12_o t0) rfl)) ?_
          refine Rn.n hT 6 (pc' := 138) (L' := [some (.ref q0), some (.int m1), some (.int m2), some (.int m3), some (.int m4), some (.int ((24 : Int32) * m1)), some (.int (((24 : Int32) * m1) + ((2 : Int32) * m3))), some (.int z_3525), none]) (st' := [.int z_3525, .int (((24 : Int32) * m1) + ((2 : Int32) * m4)), .ref (q0 + 10)]) rfl ?_
          obtain ⟨s_3529, e_3530, e⟩ := Option.bind_eq_some_iff.mp e
          obtain ⟨h_3529, g_3530, R_3529⟩ := rp_wI R_3527 (T12_10 t0) (T12_10l t0) (ti_add (ti_mul L32_24 p1) (ti_mul L32_2 p4)) p_3525 e_3530
          refine Rn.hp hT rfl rfl (wI_hp g_3530) ?_
          refine Rn.n hT 1 (pc' := 164) (L' := [some (.ref q0), some (.int m1), some (.int m2), some (.int m3), some (.int m4), some (.int ((24 : Int32) * m1)), some (.int (((24 : Int32) * m1) + ((2 : Int32) * m3))), some (.int z_3525), none]) (st' := []) rfl ?_
          exact Rn.weak (ll_n (ll_n (ll_n (ll_n (ll_n (ll_n (ll_n (ll_n (ll_n ll_e))))))))) (RX12_redraw_b164 hd R_3529 hq e)
        · rw [if_neg c_3521] at e
          refine Rn.bt hT rfl rfl rfl (decide_eq_true (fun z => c_3521 ((ti_e p2 L32_2).mp z))) ?_
          refine Rn.n hT 1 (pc' := 143) (L' := [some (.ref q0), some (.int m1), some (.int m2), some (.int m3), some (.int m4), some (.int ((24 : Int32) * m1)), some (.int (((24 : Int32) * m1) + ((2 : Int32) * m3))), none, none]) (st' := [.ref q0]) rfl ?_
          refine Rn.hp hT rfl rfl (gR_hp (rp_gR hR (T12_o t0) rfl)) ?_
          refine Rn.n hT 4 (pc' := 151) (L' := [some (.ref q0), some (.int m1), some (.int m2), some (.int m3), some (.int m4), some (.int ((24 : Int32) * m1)), some (.int (((24 : Int32) * m1) + ((2 : Int32) * m3))), none, none]) (st' := [.ref q0, .int ((((24 : Int32) * m1) + ((2 : Int32) * m3)) + (1 : Int32)), .ref (q0 + 10)]) rfl ?_
          refine Rn.hp hT rfl rfl (gR_hp (rp_gR hR (T12_o t0) rfl)) ?_
          refine Rn.n hT 3 (pc' := 158) (L' := [some (.ref q0), some (.int m1), some (.int m2), some (.int m3), some (.int m4), some (.int ((24 : Int32) * m1)), some (.int (((24 : Int32) * m1) + ((2 : Int32) * m3))), none, none]) (st' := [.int ((((24 : Int32) * m1) + ((2 : Int32) * m3)) + (1 : Int32)), .ref (q0 + 10), .int ((((24 : Int32) * m1) + ((2 : Int32) * m3)) + (1 : Int32)), .ref (q0 + 10)]) rfl ?_
          obtain ⟨v_3522, e_3522, e⟩ := Option.bind_eq_some_iff.mp e
          obtain ⟨z_3522, g_3522, p_3522⟩ := rp_aI hR (T12_10 t0) (T12_10l t0) (ti_add (ti_add (ti_mul L32_24 p1) (ti_mul L32_2 p3)) L32_1) e_3522
          refine Rn.hp hT rfl rfl (aI_hp g_3522) ?_
          refine Rn.n hT 4 (pc' := 163) (L' := [some (.ref q0), some (.int m1), some (.int m2), some (.int m3), some (.int m4), some (.int ((24 : Int32) * m1)), some (.int (((24 : Int32) * m1) + ((2 : Int32) * m3))), none, none]) (st' := [.int ((z_3522 + (1 : Int32)) &&& (3 : Int32)), .int ((((24 : Int32) * m1) + ((2 : Int32) * m3)) + (1 : Int32)), .ref (q0 + 10)]) rfl ?_
          obtain ⟨s_3523, e_3524, e⟩ := Option.bind_eq_some_iff.mp e
          obtain ⟨h_3523, g_3524, R_3523⟩ := rp_wI hR (T12_10 t0) (T12_10l t0) (ti_add (ti_add (ti_mul L32_24 p1) (ti_mul L32_2 p3)) L32_1) (ti_and (ti_add p_3522 L32_1) L32_3) e_3524
          refine Rn.hp hT rfl rfl (wI_hp g_3524) ?_
          exact Rn.weak (ll_n (ll_n (ll_n (ll_n (ll_n (ll_n (ll_n (ll_n (ll_n ll_e))))))))) (RX12_redraw_b164 hd R_3523 hq e)
set_option maxRecDepth 10000 in
theorem hX12_whereNow : iv_Tb 291 tX12_whereNow := iv_tb_of (m := mX12_whereNow) rfl
set_option maxRecDepth 10000 in
theorem gX12_whereNow : PG.2 291 = some mX12_whereNow := iv_pi_of (t := tX12_whereNow) rfl (by decide)
def FX12_whereNow_l4 (N : Nat) (s : iv_M) (q0 : Nat) (kx : Int → Option (Int)) : Nat → Int → Int → Option (Int)
  | 0, _, _ => none
  | n + 1, y1, x3 => ((rd s (q0 + 1) 14 2).bind fun v_3540 => (if v_3540 ≤ x3 then (kx y1) else ((rd s (q0 + 3) 12 x3).bind fun v_3542 => (FX12_whereNow_l4 N s q0 kx n (w64 ((w64 (y1 * 16)) + v_3542)) (w32 (x3 + 1))))))
set_option maxRecDepth 10000 in
set_option maxHeartbeats 4000000 in
theorem RX12_whereNow_l4 {d N nc Ls : Nat} {Xs : Nat → Int32} (hd : 0 ≤ d) {h : iv_H} {s : iv_M} (hR : Rep nc Ls Xs h s) {q0 : Nat} (t0 : T12 nc q0) {kx : Int → Option (Int)} {r : Int} {Q : Option Value → iv_H → Prop} (hk : ∀ (j1 : Int64) (y1 : Int) (p1 : j1.toInt = y1), kx y1 = some r → Rn d 291 (some .long) 34 [none, some (.long j1), none, none] [] h Q) (hq : ∀ (z : Int64), z.toInt = r → Q (some (.long z)) h) : ∀ (n : Nat) (j1 : Int64) (y1 : Int) (p1 : j1.toInt = y1) (m3 : Int32) (x3 : Int) (p3 : m3.toInt = x3), FX12_whereNow_l4 N s q0 kx n y1 x3 = some r → Rn d 291 (some .long) 4 [some (.ref q0), some (.long j1), none, some (.int m3)] [] h Q := by
  have hT := hX12_whereNow
  intro n
  induction n with
  | zero =>
    intro j1 y1 p1 m3 x3 p3 e
    rw [FX12_whereNow_l4] at e
    cases e
  | succ n ih =>
    intro j1 y1 p1 m3 x3 p3 e
    rw [FX12_whereNow_l4] at e
    refine Rn.n hT 2 (pc' := 6) (L' := [some (.ref q0), some (.long j1), none, some (.int m3)]) (st' := [.ref q0, .int m3]) rfl ?_
    refine Rn.hp hT rfl rfl (gR_hp (rp_gR hR (T12_o t0) rfl)) ?_
    refine Rn.n hT 1 (pc' := 10) (L' := [some (.ref q0), some (.long j1), none, some (.int m3)]) (st' := [.int (2 : Int32), .ref (q0 + 1), .int m3]) rfl ?_
    obtain ⟨v_3540, e_3540, e⟩ := Option.bind_eq_some_iff.mp e
    obtain ⟨z_3540, g_3540, p_3540⟩ := rp_aI hR (T12_1 t0) (T12_1l t0) L32_2 e_3540
    refine Rn.hp hT rfl rfl (aI_hp g_3540) ?_
    by_cases c_3541 : v_3540 ≤ x3
    · rw [if_pos c_3541] at e
      refine Rn.bt hT rfl rfl rfl (decide_eq_true ((ti_le p_3540 p3).mpr c_3541)) ?_
      exact Rn.weak (ll_n (ll_s (ll_n (ll_n ll_e)))) (hk j1 y1 p1 e)
    · rw [if_neg c_3541] at e
      refine Rn.bf hT rfl rfl rfl (decide_eq_false (fun z => c_3541 ((ti_le p_3540 p3).mp z))) ?_
      refine Rn.n hT 4 (pc' := 20) (L' := [some (.ref q0), some (.long j1), none, some (.int m3)]) (st' := [.ref q0, .long (j1 * (16 : Int64))]) rfl ?_
      refine Rn.hp hT rfl rfl (gR_hp (rp_gR hR (T12_o t0) rfl)) ?_
      refine Rn.n hT 1 (pc' := 24) (L' := [some (.ref q0), some (.long j1), none, some (.int m3)]) (st' := [.int m3, .ref (q0 + 3), .long (j1 * (16 : Int64))]) rfl ?_
      obtain ⟨v_3542, e_3542, e⟩ := Option.bind_eq_some_iff.mp e
      obtain ⟨z_3542, g_3542, p_3542⟩ := rp_aI hR (T12_3 t0) (T12_3l t0) p3 e_3542
      refine Rn.hp hT rfl rfl (aI_hp g_3542) ?_
      refine Rn.n hT 5 (pc' := 4) (L' := [some (.ref q0), some (.long ((j1 * (16 : Int64)) + (z_3542).toInt64)), none, some (.int (m3 + (1 : Int32)))]) (st' := []) rfl ?_
      exact Rn.weak (ll_s (ll_s (ll_n (ll_s ll_e)))) (ih ((j1 * (16 : Int64)) + (z_3542).toInt64) (w64 ((w64 (y1 * 16)) + v_3542)) (tj_add (tj_mul p1 L64_16) (ti_j p_3542)) (m3 + (1 : Int32)) (w32 (x3 + 1)) (ti_add p3 L32_1) e)
def FX12_whereNow (N : Nat) (s : iv_M) (q0 : Nat) : Option (Int) := (FX12_whereNow_l4 N s q0 (fun (y3539_1 : Int) => (some y3539_1)) N 0 0)
set_option maxRecDepth 10000 in
set_option maxHeartbeats 4000000 in
theorem RX12_whereNow {d N nc Ls : Nat} {Xs : Nat → Int32} (hd : 1 ≤ d) {h : iv_H} {s : iv_M} (hR : Rep nc Ls Xs h s) {q0 : Nat} (t0 : T12 nc q0) {r : Int} {Q : Option Value → iv_H → Prop} (e : FX12_whereNow N s q0 = some r) (hq : ∀ (z : Int64), z.toInt = r → Q (some (.long z)) h) : Cl d 291 [.ref q0] h Q := by
  obtain ⟨d, rfl⟩ : ∃ k, d = k + 1 := ⟨d - 1, by omega⟩
  have hd : 0 ≤ d := by omega
  have hT := hX12_whereNow
  unfold FX12_whereNow at e
  refine Cl.into (by decide) gX12_whereNow rfl ?_
  show Rn d 291 (some .long) 0 [some (.ref q0), none, none, none] [] h Q
  refine Rn.n hT 4 (pc' := 4) (L' := [some (.ref q0), some (.long (0 : Int64)), none, some (.int (0 : Int32))]) (st' := []) rfl ?_
  refine Rn.weak (ll_s (ll_s (ll_n (ll_s ll_e)))) (RX12_whereNow_l4 hd hR t0 (fun j3539_1 y3539_1 p3539_1 e => ?_) hq N (0 : Int64) 0 L64_0 (0 : Int32) 0 L32_0 e)
  try dsimp only at e
  refine Rn.n hT 1 (pc' := 35) (L' := [none, some (.long j3539_1), none, none]) (st' := [.long j3539_1]) rfl ?_
  obtain rfl := Option.some.inj e
  exact Rn.ret hT rfl rfl rfl (hq j3539_1 p3539_1)
set_option maxRecDepth 10000 in
theorem hX12_howNow : iv_Tb 292 tX12_howNow := iv_tb_of (m := mX12_howNow) rfl
set_option maxRecDepth 10000 in
theorem gX12_howNow : PG.2 292 = some mX12_howNow := iv_pi_of (t := tX12_howNow) rfl (by decide)
def FX12_howNow_l4 (N : Nat) (s : iv_M) (q0 : Nat) (kx : Int → Option (Int)) : Nat → Int → Int → Option (Int)
  | 0, _, _ => none
  | n + 1, x1, x2 => ((rd s (q0 + 1) 14 2).bind fun v_3544 => (if v_3544 ≤ x2 then (kx x1) else ((rd s (q0 + 4) 12 x2).bind fun v_3546 => (FX12_howNow_l4 N s q0 kx n (w32 ((w32 (4 * x1)) + v_3546)) (w32 (x2 + 1))))))
set_option maxRecDepth 10000 in
set_option maxHeartbeats 4000000 in
theorem RX12_howNow_l4 {d N nc Ls : Nat} {Xs : Nat → Int32} (hd : 0 ≤ d) {h : iv_H} {s : iv_M} (hR : Rep nc Ls Xs h s) {q0 : Nat} (t0 : T12 nc q0) {kx : Int → Option (Int)} {r : Int} {Q : Option Value → iv_H → Prop} (hk : ∀ (m1 : Int32) (x1 : Int) (p1 : m1.toInt = x1), kx x1 = some r → Rn d 292 (some .int) 31 [none, some (.int m1), none] [] h Q) (hq : ∀ (z : Int32), z.toInt = r → Q (some (.int z)) h) : ∀ (n : Nat) (m1 : Int32) (x1 : Int) (p1 : m1.toInt = x1) (m2 : Int32) (x2 : Int) (p2 : m2.toInt = x2), FX12_howNow_l4 N s q0 kx n x1 x2 = some r → Rn d 292 (some .int) 4 [some (.ref q0), some (.int m1), some (.int m2)] [] h Q := by
  have hT := hX12_howNow
  intro n
  induction n with
  | zero =>
    intro m1 x1 p1 m2 x2 p2 e
    rw [FX12_howNow_l4] at e
    cases e
  | succ n ih =>
    intro m1 x1 p1 m2 x2 p2 e
    rw [FX12_howNow_l4] at e
    refine Rn.n hT 2 (pc' := 6) (L' := [some (.ref q0), some (.int m1), some (.int m2)]) (st' := [.ref q0, .int m2]) rfl ?_
    refine Rn.hp hT rfl rfl (gR_hp (rp_gR hR (T12_o t0) rfl)) ?_
    refine Rn.n hT 1 (pc' := 10) (L' := [some (.ref q0), some (.int m1), some (.int m2)]) (st' := [.int (2 : Int32), .ref (q0 + 1), .int m2]) rfl ?_
    obtain ⟨v_3544, e_3544, e⟩ := Option.bind_eq_some_iff.mp e
    obtain ⟨z_3544, g_3544, p_3544⟩ := rp_aI hR (T12_1 t0) (T12_1l t0) L32_2 e_3544
    refine Rn.hp hT rfl rfl (aI_hp g_3544) ?_
    by_cases c_3545 : v_3544 ≤ x2
    · rw [if_pos c_3545] at e
      refine Rn.bt hT rfl rfl rfl (decide_eq_true ((ti_le p_3544 p2).mpr c_3545)) ?_
      exact Rn.weak (ll_n (ll_s (ll_n ll_e))) (hk m1 x1 p1 e)
    · rw [if_neg c_3545] at e
      refine Rn.bf hT rfl rfl rfl (decide_eq_false (fun z => c_3545 ((ti_le p_3544 p2).mp z))) ?_
      refine Rn.n hT 4 (pc' := 18) (L' := [some (.ref q0), some (.int m1), some (.int m2)]) (st' := [.ref q0, .int ((4 : Int32) * m1)]) rfl ?_
      refine Rn.hp hT rfl rfl (gR_hp (rp_gR hR (T12_o t0) rfl)) ?_
      refine Rn.n hT 1 (pc' := 22) (L' := [some (.ref q0), some (.int m1), some (.int m2)]) (st' := [.int m2, .ref (q0 + 4), .int ((4 : Int32) * m1)]) rfl ?_
      obtain ⟨v_3546, e_3546, e⟩ := Option.bind_eq_some_iff.mp e
      obtain ⟨z_3546, g_3546, p_3546⟩ := rp_aI hR (T12_4 t0) (T12_4l t0) p2 e_3546
      refine Rn.hp hT rfl rfl (aI_hp g_3546) ?_
      refine Rn.n hT 4 (pc' := 4) (L' := [some (.ref q0), some (.int (((4 : Int32) * m1) + z_3546)), some (.int (m2 + (1 : Int32)))]) (st' := []) rfl ?_
      exact Rn.weak (ll_s (ll_s (ll_s ll_e))) (ih (((4 : Int32) * m1) + z_3546) (w32 ((w32 (4 * x1)) + v_3546)) (ti_add (ti_mul L32_4 p1) p_3546) (m2 + (1 : Int32)) (w32 (x2 + 1)) (ti_add p2 L32_1) e)
def FX12_howNow (N : Nat) (s : iv_M) (q0 : Nat) : Option (Int) := (FX12_howNow_l4 N s q0 (fun (x3543_1 : Int) => (some x3543_1)) N 0 0)
set_option maxRecDepth 10000 in
set_option maxHeartbeats 4000000 in
theorem RX12_howNow {d N nc Ls : Nat} {Xs : Nat → Int32} (hd : 1 ≤ d) {h : iv_H} {s : iv_M} (hR : Rep nc Ls Xs h s) {q0 : Nat} (t0 : T12 nc q0) {r : Int} {Q : Option Value → iv_H → Prop} (e : FX12_howNow N s q0 = some r) (hq : ∀ (z : Int32), z.toInt = r → Q (some (.int z)) h) : Cl d 292 [.ref q0] h Q := by
  obtain ⟨d, rfl⟩ : ∃ k, d = k + 1 := ⟨d - 1, by omega⟩
  have hd : 0 ≤ d := by omega
  have hT := hX12_howNow
  unfold FX12_howNow at e
  refine Cl.into (by decide) gX12_howNow rfl ?_
  show Rn d 292 (some .int) 0 [some (.ref q0), none, none] [] h Q
  refine Rn.n hT 4 (pc' := 4) (L' := [some (.ref q0), some (.int (0 : Int32)), some (.int (0 : Int32))]) (st' := []) rfl ?_
  refine Rn.weak (ll_s (ll_s (ll_s ll_e))) (RX12_howNow_l4 hd hR t0 (fun m3543_1 x3543_1 p3543_1 e => ?_) hq N (0 : Int32) 0 L32_0 (0 : Int32) 0 L32_0 e)
  try dsimp only at e
  refine Rn.n hT 1 (pc' := 32) (L' := [none, some (.int m3543_1), none]) (st' := [.int m3543_1]) rfl ?_
  obtain rfl := Option.some.inj e
  exact Rn.ret hT rfl rfl rfl (hq m3543_1 p3543_1)
set_option maxRecDepth 10000 in
theorem hX12_laysSituation : iv_Tb 293 tX12_laysSituation := iv_tb_of (m := mX12_laysSituation) rfl
set_option maxRecDepth 10000 in
theorem gX12_laysSituation : PG.2 293 = some mX12_laysSituation := iv_pi_of (t := tX12_laysSituation) rfl (by decide)
def FX12_laysSituation_l18 (N : Nat) (q0 : Nat) (y2 : Int) (x4 : Int) (kx : iv_M → Option (iv_M)) : Nat → iv_M → Int → Option (iv_M)
  | 0, _, _ => none
  | n + 1, s, x5 => (if 16 ≤ x5 then (kx s) else ((wr s (q0 + 8) 16 x5 (-1)).bind fun s_3555 => (FX12_laysSituation_l18 N q0 y2 x4 kx n s_3555 (w32 (x5 + 1)))))
set_option maxRecDepth 10000 in
set_option maxHeartbeats 4000000 in
theorem RX12_laysSituation_l18 {d N nc Ls : Nat} {Xs : Nat → Int32} (hd : 0 ≤ d) {q0 : Nat} (t0 : T12 nc q0) {j2 : Int64} {y2 : Int} (p2 : j2.toInt = y2) {m4 : Int32} {x4 : Int} (p4 : m4.toInt = x4) {kx : iv_M → Option (iv_M)} {r : iv_M} {Q : Option Value → iv_H → Prop} (hk : ∀ (h : iv_H) (s : iv_M) (hR : Rep nc Ls Xs h s), kx s = some r → Rn d 293 none 39 [some (.ref q0), none, some (.long j2), none, some (.int m4), none] [] h Q) (hq : ∀ h1, Rep nc Ls Xs h1 r → Q none h1) : ∀ (n : Nat) (h : iv_H) (s : iv_M) (hR : Rep nc Ls Xs h s) (m5 : Int32) (x5 : Int) (p5 : m5.toInt = x5), FX12_laysSituation_l18 N q0 y2 x4 kx n s x5 = some r → Rn d 293 none 18 [some (.ref q0), none, some (.long j2), none, some (.int m4), some (.int m5)] [] h Q := by
  have hT := hX12_laysSituation
  intro n
  induction n with
  | zero =>
    intro h s hR m5 x5 p5 e
    rw [FX12_laysSituation_l18] at e
    cases e
  | succ n ih =>
    intro h s hR m5 x5 p5 e
    rw [FX12_laysSituation_l18] at e
    refine Rn.n hT 2 (pc' := 22) (L' := [some (.ref q0), none, some (.long j2), none, some (.int m4), some (.int m5)]) (st' := [.int (16 : Int32), .int m5]) rfl ?_
    by_cases c_3554 : 16 ≤ x5
    · rw [if_pos c_3554] at e
      refine Rn.bt hT rfl rfl rfl (decide_eq_true ((ti_le L32_16 p5).mpr c_3554)) ?_
      exact Rn.weak (ll_s (ll_n (ll_s (ll_n (ll_s (ll_n ll_e)))))) (hk h s hR e)
    · rw [if_neg c_3554] at e
      refine Rn.bf hT rfl rfl rfl (decide_eq_false (fun z => c_3554 ((ti_le L32_16 p5).mp z))) ?_
      refine Rn.n hT 1 (pc' := 26) (L' := [some (.ref q0), none, some (.long j2), none, some (.int m4), some (.int m5)]) (st' := [.ref q0]) rfl ?_
      refine Rn.hp hT rfl rfl (gR_hp (rp_gR hR (T12_o t0) rfl)) ?_
      refine Rn.n hT 2 (pc' := 32) (L' := [some (.ref q0), none, some (.long j2), none, some (.int m4), some (.int m5)]) (st' := [.int (-1 : Int32), .int m5, .ref (q0 + 8)]) rfl ?_
      obtain ⟨s_3555, e_3556, e⟩ := Option.bind_eq_some_iff.mp e
      obtain ⟨h_3555, g_3556, R_3555⟩ := rp_wI hR (T12_8 t0) (T12_8l t0) p5 L32_m1 e_3556
      refine Rn.hp hT rfl rfl (wI_hp g_3556) ?_
      refine Rn.n hT 2 (pc' := 18) (L' := [some (.ref q0), none, some (.long j2), none, some (.int m4), some (.int (m5 + (1 : Int32)))]) (st' := []) rfl ?_
      exact Rn.weak (ll_s (ll_n (ll_s (ll_n (ll_s (ll_s ll_e)))))) (ih h_3555 s_3555 R_3555 (m5 + (1 : Int32)) (w32 (x5 + 1)) (ti_add p5 L32_1) e)
def FX12_laysSituation_l49 (N : Nat) (q0 : Nat) (kx : iv_M → Option (iv_M)) : Nat → iv_M → Int → Int → Int → Option (iv_M)
  | 0, _, _, _, _ => none
  | n + 1, s, y2, x4, x5 => (if x5 < 0 then (kx s) else ((wr s (q0 + 3) 12 x5 (w32 (Int.tmod y2 16))).bind fun s_3558 => ((wr s_3558 (q0 + 4) 12 x5 (Int.tmod x4 4)).bind fun s_3560 => ((rd s_3560 (q0 + 3) 12 x5).bind fun v_3562 => ((wr s_3560 (q0 + 8) 16 v_3562 x5).bind fun s_3563 => (FX12_laysSituation_l49 N q0 kx n s_3563 (dv64 y2 16) (dv32 x4 4) (w32 (x5 + (-1)))))))))
set_option maxRecDepth 10000 in
set_option maxHeartbeats 4000000 in
theorem RX12_laysSituation_l49 {d N nc Ls : Nat} {Xs : Nat → Int32} (hd : 0 ≤ d) {q0 : Nat} (t0 : T12 nc q0) {kx : iv_M → Option (iv_M)} {r : iv_M} {Q : Option Value → iv_H → Prop} (hk : ∀ (h : iv_H) (s : iv_M) (hR : Rep nc Ls Xs h s), kx s = some r → Rn d 293 none 110 [none, none, none, none, none, none] [] h Q) (hq : ∀ h1, Rep nc Ls Xs h1 r → Q none h1) : ∀ (n : Nat) (h : iv_H) (s : iv_M) (hR : Rep nc Ls Xs h s) (j2 : Int64) (y2 : Int) (p2 : j2.toInt = y2) (m4 : Int32) (x4 : Int) (p4 : m4.toInt = x4) (m5 : Int32) (x5 : Int) (p5 : m5.toInt = x5), FX12_laysSituation_l49 N q0 kx n s y2 x4 x5 = some r → Rn d 293 none 49 [some (.ref q0), none, some (.long j2), none, some (.int m4), some (.int m5)] [] h Q := by
  have hT := hX12_laysSituation
  intro n
  induction n with
  | zero =>
    intro h s hR j2 y2 p2 m4 x4 p4 m5 x5 p5 e
    rw [FX12_laysSituation_l49] at e
    cases e
  | succ n ih =>
    intro h s hR j2 y2 p2 m4 x4 p4 m5 x5 p5 e
    rw [FX12_laysSituation_l49] at e
    refine Rn.n hT 1 (pc' := 51) (L' := [some (.ref q0), none, some (.long j2), none, some (.int m4), some (.int m5)]) (st' := [.int m5]) rfl ?_
    by_cases c_3557 : x5 < 0
    · rw [if_pos c_3557] at e
      refine Rn.bt hT rfl rfl rfl (decide_eq_true ((ti_l p5 L32_0).mpr c_3557)) ?_
      exact Rn.weak (ll_n (ll_n (ll_n (ll_n (ll_n (ll_n ll_e)))))) (hk h s hR e)
    · rw [if_neg c_3557] at e
      refine Rn.bf hT rfl rfl rfl (decide_eq_false (fun z => c_3557 ((ti_l p5 L32_0).mp z))) ?_
      refine Rn.n hT 1 (pc' := 55) (L' := [some (.ref q0), none, some (.long j2), none, some (.int m4), some (.int m5)]) (st' := [.ref q0]) rfl ?_
      refine Rn.hp hT rfl rfl (gR_hp (rp_gR hR (T12_o t0) rfl)) ?_
      refine Rn.n hT 5 (pc' := 66) (L' := [some (.ref q0), none, some (.long j2), none, some (.int m4), some (.int m5)]) (st' := [.int (((j2 - j2 / (16 : Int64) * (16 : Int64))).toInt32), .int m5, .ref (q0 + 3)]) rfl ?_
      obtain ⟨s_3558, e_3559, e⟩ := Option.bind_eq_some_iff.mp e
      obtain ⟨h_3558, g_3559, R_3558⟩ := rp_wI hR (T12_3 t0) (T12_3l t0) p5 (tj_i (tj_rem p2 L64_16)) e_3559
      refine Rn.hp hT rfl rfl (wI_hp g_3559) ?_
      refine Rn.n hT 1 (pc' := 68) (L' := [some (.ref q0), none, some (.long j2), none, some (.int m4), some (.int m5)]) (st' := [.ref q0]) rfl ?_
      refine Rn.hp hT rfl rfl (gR_hp (rp_gR R_3558 (T12_o t0) rfl)) ?_
      refine Rn.n hT 4 (pc' := 77) (L' := [some (.ref q0), none, some (.long j2), none, some (.int m4), some (.int m5)]) (st' := [.int (m4 - m4 / (4 : Int32) * (4 : Int32)), .int m5, .ref (q0 + 4)]) rfl ?_
      obtain ⟨s_3560, e_3561, e⟩ := Option.bind_eq_some_iff.mp e
      obtain ⟨h_3560, g_3561, R_3560⟩ := rp_wI R_3558 (T12_4 t0) (T12_4l t0) p5 (ti_rem p4 L32_4) e_3561
      refine Rn.hp hT rfl rfl (wI_hp g_3561) ?_
      refine Rn.n hT 1 (pc' := 79) (L' := [some (.ref q0), none, some (.long j2), none, some (.int m4), some (.int m5)]) (st' := [.ref q0]) rfl ?_
      refine Rn.hp hT rfl rfl (gR_hp (rp_gR R_3560 (T12_o t0) rfl)) ?_
      refine Rn.n hT 1 (pc' := 83) (L' := [some (.ref q0), none, some (.long j2), none, some (.int m4), some (.int m5)]) (st' := [.ref q0, .ref (q0 + 8)]) rfl ?_
      refine Rn.hp hT rfl rfl (gR_hp (rp_gR R_3560 (T12_o t0) rfl)) ?_
      refine Rn.n hT 1 (pc' := 88) (L' := [some (.ref q0), none, some (.long j2), none, some (.int m4), some (.int m5)]) (st' := [.int m5, .ref (q0 + 3), .ref (q0 + 8)]) rfl ?_
      obtain ⟨v_3562, e_3562, e⟩ := Option.bind_eq_some_iff.mp e
      obtain ⟨z_3562, g_3562, p_3562⟩ := rp_aI R_3560 (T12_3 t0) (T12_3l t0) p5 e_3562
      refine Rn.hp hT rfl rfl (aI_hp g_3562) ?_
      refine Rn.n hT 1 (pc' := 91) (L' := [some (.ref q0), none, some (.long j2), none, some (.int m4), some (.int m5)]) (st' := [.int m5, .int z_3562, .ref (q0 + 8)]) rfl ?_
      obtain ⟨s_3563, e_3564, e⟩ := Option.bind_eq_some_iff.mp e
      obtain ⟨h_3563, g_3564, R_3563⟩ := rp_wI R_3560 (T12_8 t0) (T12_8l t0) p_3562 p5 e_3564
      refine Rn.hp hT rfl rfl (wI_hp g_3564) ?_
      refine Rn.n hT 10 (pc' := 49) (L' := [some (.ref q0), none, some (.long (j2 / (16 : Int64))), none, some (.int (m4 / (4 : Int32))), some (.int (m5 + (-1 : Int32)))]) (st' := []) rfl ?_
      exact Rn.weak (ll_s (ll_n (ll_s (ll_n (ll_s (ll_s ll_e)))))) (ih h_3563 s_3563 R_3563 (j2 / (16 : Int64)) (dv64 y2 16) (tj_div p2 L64_16) (m4 / (4 : Int32)) (dv32 x4 4) (ti_div p4 L32_4) (m5 + (-1 : Int32)) (w32 (x5 + (-1))) (ti_add p5 L32_m1) e)
def FX12_laysSituation (N : Nat) (s : iv_M) (q0 : Nat) (x1 : Int) : Option (iv_M) := ((rd s (q0 + 35) 1501 x1).bind fun v_3547 => ((rd s (q0 + 36) 1501 x1).bind fun v_3548 => (FX12_laysSituation_l18 N q0 v_3547 v_3548 (fun (s_3549 : iv_M) => ((rd s_3549 (q0 + 1) 14 2).bind fun v_3551 => (FX12_laysSituation_l49 N q0 (fun (s_3552 : iv_M) => some s_3552) N s_3549 v_3547 v_3548 (w32 (v_3551 - 1))))) N s 0)))
set_option maxRecDepth 10000 in
set_option maxHeartbeats 4000000 in
theorem RX12_laysSituation {d N nc Ls : Nat} {Xs : Nat → Int32} (hd : 1 ≤ d) {h : iv_H} {s : iv_M} (hR : Rep nc Ls Xs h s) {q0 : Nat} (t0 : T12 nc q0) {m1 : Int32} {x1 : Int} (p1 : m1.toInt = x1) {r : iv_M} {Q : Option Value → iv_H → Prop} (e : FX12_laysSituation N s q0 x1 = some r) (hq : ∀ h1, Rep nc Ls Xs h1 r → Q none h1) : Cl d 293 [.ref q0, .int m1] h Q := by
  obtain ⟨d, rfl⟩ : ∃ k, d = k + 1 := ⟨d - 1, by omega⟩
  have hd : 0 ≤ d := by omega
  have hT := hX12_laysSituation
  unfold FX12_laysSituation at e
  refine Cl.into (by decide) gX12_laysSituation rfl ?_
  show Rn d 293 none 0 [some (.ref q0), some (.int m1), none, none, none, none] [] h Q
  refine Rn.n hT 1 (pc' := 1) (L' := [some (.ref q0), some (.int m1), none, none, none, none]) (st' := [.ref q0]) rfl ?_
  refine Rn.hp hT rfl rfl (gR_hp (rp_gR hR (T12_o t0) rfl)) ?_
  refine Rn.n hT 1 (pc' := 5) (L' := [some (.ref q0), some (.int m1), none, none, none, none]) (st' := [.int m1, .ref (q0 + 35)]) rfl ?_
  obtain ⟨v_3547, e_3547, e⟩ := Option.bind_eq_some_iff.mp e
  obtain ⟨z_3547, g_3547, p_3547⟩ := rp_aJ hR (T12_49 t0) (T12_49l t0) p1 e_3547
  refine Rn.hp hT rfl rfl (aJ_hp g_3547) ?_
  refine Rn.n hT 2 (pc' := 8) (L' := [some (.ref q0), some (.int m1), some (.long z_3547), none, none, none]) (st' := [.ref q0]) rfl ?_
  refine Rn.hp hT rfl rfl (gR_hp (rp_gR hR (T12_o t0) rfl)) ?_
  refine Rn.n hT 1 (pc' := 12) (L' := [some (.ref q0), some (.int m1), some (.long z_3547), none, none, none]) (st' := [.int m1, .ref (q0 + 36)]) rfl ?_
  obtain ⟨v_3548, e_3548, e⟩ := Option.bind_eq_some_iff.mp e
  obtain ⟨z_3548, g_3548, p_3548⟩ := rp_aI hR (T12_50 t0) (T12_50l t0) p1 e_3548
  refine Rn.hp hT rfl rfl (aI_hp g_3548) ?_
  refine Rn.n hT 3 (pc' := 18) (L' := [some (.ref q0), some (.int m1), some (.long z_3547), none, some (.int z_3548), some (.int (0 : Int32))]) (st' := []) rfl ?_
  refine Rn.weak (ll_s (ll_n (ll_s (ll_n (ll_s (ll_s ll_e)))))) (RX12_laysSituation_l18 hd t0 p_3547 p_3548 (fun h_3549 s_3549 R_3549 e => ?_) hq N h s hR (0 : Int32) 0 L32_0 e)
  try dsimp only at e
  refine Rn.n hT 1 (pc' := 40) (L' := [some (.ref q0), none, some (.long z_3547), none, some (.int z_3548), none]) (st' := [.ref q0]) rfl ?_
  refine Rn.hp hT rfl rfl (gR_hp (rp_gR R_3549 (T12_o t0) rfl)) ?_
  refine Rn.n hT 1 (pc' := 44) (L' := [some (.ref q0), none, some (.long z_3547), none, some (.int z_3548), none]) (st' := [.int (2 : Int32), .ref (q0 + 1)]) rfl ?_
  obtain ⟨v_3551, e_3551, e⟩ := Option.bind_eq_some_iff.mp e
  obtain ⟨z_3551, g_3551, p_3551⟩ := rp_aI R_3549 (T12_1 t0) (T12_1l t0) L32_2 e_3551
  refine Rn.hp hT rfl rfl (aI_hp g_3551) ?_
  refine Rn.n hT 3 (pc' := 49) (L' := [some (.ref q0), none, some (.long z_3547), none, some (.int z_3548), some (.int (z_3551 - (1 : Int32)))]) (st' := []) rfl ?_
  refine Rn.weak (ll_s (ll_n (ll_s (ll_n (ll_s (ll_s ll_e)))))) (RX12_laysSituation_l49 hd t0 (fun h_3552 s_3552 R_3552 e => ?_) hq N h_3549 s_3549 R_3549 z_3547 v_3547 p_3547 z_3548 v_3548 p_3548 (z_3551 - (1 : Int32)) (w32 (v_3551 - 1)) (ti_sub p_3551 L32_1) e)
  try dsimp only at e
  obtain rfl := Option.some.inj e
  exact Rn.ret hT rfl rfl rfl (hq h_3552 R_3552)
set_option maxRecDepth 10000 in
theorem hX12_placeOf : iv_Tb 294 tX12_placeOf := iv_tb_of (m := mX12_placeOf) rfl
set_option maxRecDepth 10000 in
theorem gX12_placeOf : PG.2 294 = some mX12_placeOf := iv_pi_of (t := tX12_placeOf) rfl (by decide)
def FX12_placeOf_b65 (N : Nat) (s : iv_M) (q0 : Nat) (y1 : Int) (x3 : Int) (x4 : Int)  (kb : Int → Option (Int)) (kx : Int → Option (Int)) : Option (Int) := (kb (Int.tmod (w32 (x4 + 1)) 4096))
set_option maxRecDepth 10000 in
set_option maxHeartbeats 4000000 in
theorem RX12_placeOf_b65 {d N nc Ls : Nat} {Xs : Nat → Int32} (hd : 0 ≤ d) {h : iv_H} {s : iv_M} (hR : Rep nc Ls Xs h s) {q0 : Nat} (t0 : T12 nc q0) {j1 : Int64} {y1 : Int} (p1 : j1.toInt = y1) {m3 : Int32} {x3 : Int} (p3 : m3.toInt = x3) {m4 : Int32} {x4 : Int} (p4 : m4.toInt = x4)  {kb : Int → Option (Int)} {kx : Int → Option (Int)} {r : Int} {Q : Option Value → iv_H → Prop} (hb : ∀ (mw4 : Int32) (xw4 : Int) (pw4 : mw4.toInt = xw4), kb xw4 = some r → Rn d 294 (some .int) 18 [some (.ref q0), some (.long j1), none, some (.int m3), some (.int mw4)] [] h Q) (hk : ∀ (mw4 : Int32) (xw4 : Int) (pw4 : mw4.toInt = xw4), kx xw4 = some r → Rn d 294 (some .int) 78 [none, none, none, none, some (.int mw4)] [] h Q) (hq : ∀ (z : Int32), z.toInt = r → Q (some (.int z)) h) (e : FX12_placeOf_b65 N s q0 y1 x3 x4  kb kx = some r) : Rn d 294 (some .int) 65 [some (.ref q0), some (.long j1), none, some (.int m3), some (.int m4)] [] h Q := by
  have hT := hX12_placeOf
  unfold FX12_placeOf_b65 at e
  refine Rn.n hT 7 (pc' := 18) (L' := [some (.ref q0), some (.long j1), none, some (.int m3), some (.int ((m4 + (1 : Int32)) - (m4 + (1 : Int32)) / (4096 : Int32) * (4096 : Int32)))]) (st' := []) rfl ?_
  exact Rn.weak (ll_s (ll_s (ll_n (ll_s (ll_s ll_e))))) (hb ((m4 + (1 : Int32)) - (m4 + (1 : Int32)) / (4096 : Int32) * (4096 : Int32)) (Int.tmod (w32 (x4 + 1)) 4096) (ti_rem (ti_add p4 L32_1) L32_4096) e)
def FX12_placeOf_l18 (N : Nat) (s : iv_M) (q0 : Nat) (y1 : Int) (x3 : Int) (kx : Int → Option (Int)) : Nat → Int → Option (Int)
  | 0, _ => none
  | n + 1, x4 => ((rd s (q0 + 40) 4096 x4).bind fun v_3566 => (if v_3566 = (s q0 56) then ((rd s (q0 + 39) 4096 x4).bind fun v_3569 => ((rd s (q0 + 35) 1501 v_3569).bind fun v_3570 => (if v_3570 = y1 then ((rd s (q0 + 39) 4096 x4).bind fun v_3572 => ((rd s (q0 + 36) 1501 v_3572).bind fun v_3573 => (if v_3573 = x3 then (kx x4) else (FX12_placeOf_b65 N s q0 y1 x3 x4 (FX12_placeOf_l18 N s q0 y1 x3 kx n) kx)))) else (FX12_placeOf_b65 N s q0 y1 x3 x4 (FX12_placeOf_l18 N s q0 y1 x3 kx n) kx)))) else (kx x4)))
set_option maxRecDepth 10000 in
set_option maxHeartbeats 4000000 in
theorem RX12_placeOf_l18 {d N nc Ls : Nat} {Xs : Nat → Int32} (hd : 0 ≤ d) {h : iv_H} {s : iv_M} (hR : Rep nc Ls Xs h s) {q0 : Nat} (t0 : T12 nc q0) {j1 : Int64} {y1 : Int} (p1 : j1.toInt = y1) {m3 : Int32} {x3 : Int} (p3 : m3.toInt = x3) {kx : Int → Option (Int)} {r : Int} {Q : Option Value → iv_H → Prop} (hk : ∀ (m4 : Int32) (x4 : Int) (p4 : m4.toInt = x4), kx x4 = some r → Rn d 294 (some .int) 78 [none, none, none, none, some (.int m4)] [] h Q) (hq : ∀ (z : Int32), z.toInt = r → Q (some (.int z)) h) : ∀ (n : Nat) (m4 : Int32) (x4 : Int) (p4 : m4.toInt = x4), FX12_placeOf_l18 N s q0 y1 x3 kx n x4 = some r → Rn d 294 (some .int) 18 [some (.ref q0), some (.long j1), none, some (.int m3), some (.int m4)] [] h Q := by
  have hT := hX12_placeOf
  intro n
  induction n with
  | zero =>
    intro m4 x4 p4 e
    rw [FX12_placeOf_l18] at e
    cases e
  | succ n ih =>
    intro m4 x4 p4 e
    rw [FX12_placeOf_l18] at e
    refine Rn.n hT 1 (pc' := 19) (L' := [some (.ref q0), some (.long j1), none, some (.int m3), some (.int m4)]) (st' := [.ref q0]) rfl ?_
    refine Rn.hp hT rfl rfl (gR_hp (rp_gR hR (T12_o t0) rfl)) ?_
    refine Rn.n hT 1 (pc' := 24) (L' := [some (.ref q0), some (.long j1), none, some (.int m3), some (.int m4)]) (st' := [.int m4, .ref (q0 + 40)]) rfl ?_
    obtain ⟨v_3566, e_3566, e⟩ := Option.bind_eq_some_iff.mp e
    obtain ⟨z_3566, g_3566, p_3566⟩ := rp_aI hR (T12_54 t0) (T12_54l t0) p4 e_3566
    refine Rn.hp hT rfl rfl (aI_hp g_3566) ?_
    refine Rn.n hT 1 (pc' := 26) (L' := [some (.ref q0), some (.long j1), none, some (.int m3), some (.int m4)]) (st' := [.ref q0, .int z_3566]) rfl ?_
    obtain ⟨z_3567, g_3567, p_3567⟩ : ∃ z : Int32, gI h 12 56 q0 = some z ∧ z.toInt = s q0 56 := rp_gI (k := 56) hR (T12_o t0) rfl
    refine Rn.hp hT rfl rfl (gI_hp g_3567) ?_
    by_cases c_3568 : v_3566 = (s q0 56)
    · rw [if_pos c_3568] at e
      refine Rn.bf hT rfl rfl rfl (decide_eq_false (fun z => z ((ti_e p_3566 p_3567).mpr c_3568))) ?_
      refine Rn.n hT 1 (pc' := 33) (L' := [some (.ref q0), some (.long j1), none, some (.int m3), some (.int m4)]) (st' := [.ref q0]) rfl ?_
      refine Rn.hp hT rfl rfl (gR_hp (rp_gR hR (T12_o t0) rfl)) ?_
      refine Rn.n hT 1 (pc' := 37) (L' := [some (.ref q0), some (.long j1), none, some (.int m3), some (.int m4)]) (st' := [.ref q0, .ref (q0 + 35)]) rfl ?_
      refine Rn.hp hT rfl rfl (gR_hp (rp_gR hR (T12_o t0) rfl)) ?_
      refine Rn.n hT 1 (pc' := 42) (L' := [some (.ref q0), some (.long j1), none, some (.int m3), some (.int m4)]) (st' := [.int m4, .ref (q0 + 39), .ref (q0 + 35)]) rfl ?_
      obtain ⟨v_3569, e_3569, e⟩ := Option.bind_eq_some_iff.mp e
      obtain ⟨z_3569, g_3569, p_3569⟩ := rp_aI hR (T12_53 t0) (T12_53l t0) p4 e_3569
      refine Rn.hp hT rfl rfl (aI_hp g_3569) ?_
      obtain ⟨v_3570, e_3570, e⟩ := Option.bind_eq_some_iff.mp e
      obtain ⟨z_3570, g_3570, p_3570⟩ := rp_aJ hR (T12_49 t0) (T12_49l t0) p_3569 e_3570
      refine Rn.hp hT rfl rfl (aJ_hp g_3570) ?_
      refine Rn.n hT 2 (pc' := 46) (L' := [some (.ref q0), some (.long j1), none, some (.int m3), some (.int m4)]) (st' := [.int (lg_cmp z_3570 j1)]) rfl ?_
      by_cases c_3571 : v_3570 = y1
      · rw [if_pos c_3571] at e
        refine Rn.bf hT rfl rfl rfl (decide_eq_false (fun z => z ((lc_e p_3570 p1).mpr c_3571))) ?_
        refine Rn.n hT 1 (pc' := 50) (L' := [some (.ref q0), some (.long j1), none, some (.int m3), some (.int m4)]) (st' := [.ref q0]) rfl ?_
        refine Rn.hp hT rfl rfl (gR_hp (rp_gR hR (T12_o t0) rfl)) ?_
        refine Rn.n hT 1 (pc' := 54) (L' := [some (.ref q0), some (.long j1), none, some (.int m3), some (.int m4)]) (st' := [.ref q0, .ref (q0 + 36)]) rfl ?_
        refine Rn.hp hT rfl rfl (gR_hp (rp_gR hR (T12_o t0) rfl)) ?_
        refine Rn.n hT 1 (pc' := 59) (L' := [some (.ref q0), some (.long j1), none, some (.int m3), some (.int m4)]) (st' := [.int m4, .ref (q0 + 39), .ref (q0 + 36)]) rfl ?_
        obtain ⟨v_3572, e_3572, e⟩ := Option.bind_eq_some_iff.mp e
        obtain ⟨z_3572, g_3572, p_3572⟩ := rp_aI hR (T12_53 t0) (T12_53l t0) p4 e_3572
        refine Rn.hp hT rfl rfl (aI_hp g_3572) ?_
        obtain ⟨v_3573, e_3573, e⟩ := Option.bind_eq_some_iff.mp e
        obtain ⟨z_3573, g_3573, p_3573⟩ := rp_aI hR (T12_50 t0) (T12_50l t0) p_3572 e_3573
        refine Rn.hp hT rfl rfl (aI_hp g_3573) ?_
        refine Rn.n hT 1 (pc' := 62) (L' := [some (.ref q0), some (.long j1), none, some (.int m3), some (.int m4)]) (st' := [.int m3, .int z_3573]) rfl ?_
        by_cases c_3574 : v_3573 = x3
        · rw [if_pos c_3574] at e
          refine Rn.bt hT rfl rfl rfl (decide_eq_true ((ti_e p_3573 p3).mpr c_3574)) ?_
          exact Rn.weak (ll_n (ll_n (ll_n (ll_n (ll_s ll_e))))) (hk m4 x4 p4 e)
        · rw [if_neg c_3574] at e
          refine Rn.bf hT rfl rfl rfl (decide_eq_false (fun z => c_3574 ((ti_e p_3573 p3).mp z))) ?_
          exact Rn.weak (ll_s (ll_s (ll_n (ll_s (ll_s ll_e))))) (RX12_placeOf_b65 hd hR t0 p1 p3 p4 ih hk hq e)
      · rw [if_neg c_3571] at e
        refine Rn.bt hT rfl rfl rfl (decide_eq_true (fun z => c_3571 ((lc_e p_3570 p1).mp z))) ?_
        exact Rn.weak (ll_s (ll_s (ll_n (ll_s (ll_s ll_e))))) (RX12_placeOf_b65 hd hR t0 p1 p3 p4 ih hk hq e)
    · rw [if_neg c_3568] at e
      refine Rn.bt hT rfl rfl rfl (decide_eq_true (fun z => c_3568 ((ti_e p_3566 p_3567).mp z))) ?_
      exact Rn.weak (ll_n (ll_n (ll_n (ll_n (ll_s ll_e))))) (hk m4 x4 p4 e)
def FX12_placeOf_b78 (N : Nat) (s : iv_M) (x4 : Int)  : Option (Int) := (some x4)
set_option maxRecDepth 10000 in
set_option maxHeartbeats 4000000 in
theorem RX12_placeOf_b78 {d N nc Ls : Nat} {Xs : Nat → Int32} (hd : 0 ≤ d) {h : iv_H} {s : iv_M} (hR : Rep nc Ls Xs h s) {m4 : Int32} {x4 : Int} (p4 : m4.toInt = x4)  {r : Int} {Q : Option Value → iv_H → Prop} (hq : ∀ (z : Int32), z.toInt = r → Q (some (.int z)) h) (e : FX12_placeOf_b78 N s x4  = some r) : Rn d 294 (some .int) 78 [none, none, none, none, some (.int m4)] [] h Q := by
  have hT := hX12_placeOf
  unfold FX12_placeOf_b78 at e
  refine Rn.n hT 1 (pc' := 80) (L' := [none, none, none, none, some (.int m4)]) (st' := [.int m4]) rfl ?_
  obtain rfl := Option.some.inj e
  exact Rn.ret hT rfl rfl rfl (hq m4 p4)
def FX12_placeOf (N : Nat) (s : iv_M) (q0 : Nat) (y1 : Int) (x3 : Int) : Option (Int) := (FX12_placeOf_l18 N s q0 y1 x3 (fun (x3565_4 : Int) => (FX12_placeOf_b78 N s x3565_4)) N (w32 (us64 (w64 ((w64 ((w64 (y1 * 31)) + x3)) * (-7046029254386353131))) 52)))
set_option maxRecDepth 10000 in
set_option maxHeartbeats 4000000 in
theorem RX12_placeOf {d N nc Ls : Nat} {Xs : Nat → Int32} (hd : 1 ≤ d) {h : iv_H} {s : iv_M} (hR : Rep nc Ls Xs h s) {q0 : Nat} (t0 : T12 nc q0) {j1 : Int64} {y1 : Int} (p1 : j1.toInt = y1) {m3 : Int32} {x3 : Int} (p3 : m3.toInt = x3) {r : Int} {Q : Option Value → iv_H → Prop} (e : FX12_placeOf N s q0 y1 x3 = some r) (hq : ∀ (z : Int32), z.toInt = r → Q (some (.int z)) h) : Cl d 294 [.ref q0, .long j1, .int m3] h Q := by
  obtain ⟨d, rfl⟩ : ∃ k, d = k + 1 := ⟨d - 1, by omega⟩
  have hd : 0 ≤ d := by omega
  have hT := hX12_placeOf
  unfold FX12_placeOf at e
  refine Cl.into (by decide) gX12_placeOf rfl ?_
  show Rn d 294 (some .int) 0 [some (.ref q0), some (.long j1), none, some (.int m3), none] [] h Q
  refine Rn.n hT 12 (pc' := 18) (L' := [some (.ref q0), some (.long j1), none, some (.int m3), some (.int ((((((((j1 * (31 : Int64)) + (m3).toInt64) * (-7046029254386353131 : Int64))).toUInt64 >>> (((52 : Int32)).toInt64.toUInt64 &&& Int64.toUInt64 63)).toInt64)).toInt32))]) (st' := []) rfl ?_
  refine Rn.weak (ll_s (ll_s (ll_n (ll_s (ll_s ll_e))))) (RX12_placeOf_l18 hd hR t0 p1 p3 (fun m3565_4 x3565_4 p3565_4 e => ?_) hq N ((((((((j1 * (31 : Int64)) + (m3).toInt64) * (-7046029254386353131 : Int64))).toUInt64 >>> (((52 : Int32)).toInt64.toUInt64 &&& Int64.toUInt64 63)).toInt64)).toInt32) (w32 (us64 (w64 ((w64 ((w64 (y1 * 31)) + x3)) * (-7046029254386353131))) 52)) (tj_i (tj_ushr (tj_mul (tj_add (tj_mul p1 L64_31) (ti_j p3)) L64_m7046029254386353131) L32_52)) e)
  try dsimp only at e
  exact Rn.weak (ll_n (ll_n (ll_n (ll_n (ll_s ll_e))))) (RX12_placeOf_b78 hd hR p3565_4 hq e)
