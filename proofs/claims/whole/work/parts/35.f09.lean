-- FLAT MIRRORS, 9 (written by wip/whole/mir2.py)
set_option maxRecDepth 10000 in
theorem hX12_codeAt : iv_Tb 262 tX12_codeAt := iv_tb_of (m := mX12_codeAt) rfl
set_option maxRecDepth 10000 in
theorem gX12_codeAt : PG.2 262 = some mX12_codeAt := iv_pi_of (t := tX12_codeAt) rfl (by decide)
def FX12_codeAt_b29 (N : Nat) (s : iv_M) (q0 : Nat) (x1 : Int) (x2 : Int) (x3 : Int)  (kb : iv_M → Int → Int → Option (Int × iv_M)) (kx : iv_M → Option (Int × iv_M)) : Option (Int × iv_M) := (kb s x2 (w32 (x3 + 1)))
set_option maxRecDepth 10000 in
set_option maxHeartbeats 4000000 in
theorem RX12_codeAt_b29 {d N nc Ls : Nat} {Xs : Nat → Int32} (hd : 8 ≤ d) {h : iv_H} {s : iv_M} (hR : Rep nc Ls Xs h s) {q0 : Nat} (t0 : T12 nc q0) {m1 : Int32} {x1 : Int} (p1 : m1.toInt = x1) {m2 : Int32} {x2 : Int} (p2 : m2.toInt = x2) {m3 : Int32} {x3 : Int} (p3 : m3.toInt = x3)  {kb : iv_M → Int → Int → Option (Int × iv_M)} {kx : iv_M → Option (Int × iv_M)} {r : Int × iv_M} {Q : Option Value → iv_H → Prop} (hb : ∀ (h : iv_H) (s : iv_M) (hR : Rep nc Ls Xs h s) (mw2 : Int32) (xw2 : Int) (pw2 : mw2.toInt = xw2) (mw3 : Int32) (xw3 : Int) (pw3 : mw3.toInt = xw3), kb s xw2 xw3 = some r → Rn d 262 (some .int) 4 [some (.ref q0), some (.int m1), some (.int mw2), some (.int mw3)] [] h Q) (hk : ∀ (h : iv_H) (s : iv_M) (hR : Rep nc Ls Xs h s), kx s = some r → Rn d 262 (some .int) 35 [none, none, none, none] [] h Q) (hq : ∀ (z : Int32) (h1 : iv_H), z.toInt = r.1 → Rep nc Ls Xs h1 r.2 → Q (some (.int z)) h1) (e : FX12_codeAt_b29 N s q0 x1 x2 x3  kb kx = some r) : Rn d 262 (some .int) 29 [some (.ref q0), some (.int m1), some (.int m2), some (.int m3)] [] h Q := by
  have hT := hX12_codeAt
  unfold FX12_codeAt_b29 at e
  refine Rn.n hT 2 (pc' := 4) (L' := [some (.ref q0), some (.int m1), some (.int m2), some (.int (m3 + (1 : Int32)))]) (st' := []) rfl ?_
  exact Rn.weak (ll_s (ll_s (ll_s (ll_s ll_e)))) (hb h s hR m2 x2 p2 (m3 + (1 : Int32)) (w32 (x3 + 1)) (ti_add p3 L32_1) e)
def FX12_codeAt_l4 (N : Nat) (q0 : Nat) (x1 : Int) (kx : iv_M → Option (Int × iv_M)) : Nat → iv_M → Int → Int → Option (Int × iv_M)
  | 0, _, _, _ => none
  | n + 1, s, x2, x3 => (if 204 ≤ x3 then (kx s) else ((FX12_mayBe N s q0 x3).bind fun r_3259 => (fun (v_3259 : Int) (s_3260 : iv_M) => (if v_3259 = 0 then (FX12_codeAt_b29 N s_3260 q0 x1 x2 x3 (FX12_codeAt_l4 N q0 x1 kx n) kx) else (if x2 = x1 then (some (x3, s_3260)) else (FX12_codeAt_b29 N s_3260 q0 x1 (w32 (x2 + 1)) x3 (FX12_codeAt_l4 N q0 x1 kx n) kx)))) r_3259.1 r_3259.2))
set_option maxRecDepth 10000 in
set_option maxHeartbeats 4000000 in
theorem RX12_codeAt_l4 {d N nc Ls : Nat} {Xs : Nat → Int32} (hd : 8 ≤ d) {q0 : Nat} (t0 : T12 nc q0) {m1 : Int32} {x1 : Int} (p1 : m1.toInt = x1) {kx : iv_M → Option (Int × iv_M)} {r : Int × iv_M} {Q : Option Value → iv_H → Prop} (hk : ∀ (h : iv_H) (s : iv_M) (hR : Rep nc Ls Xs h s), kx s = some r → Rn d 262 (some .int) 35 [none, none, none, none] [] h Q) (hq : ∀ (z : Int32) (h1 : iv_H), z.toInt = r.1 → Rep nc Ls Xs h1 r.2 → Q (some (.int z)) h1) : ∀ (n : Nat) (h : iv_H) (s : iv_M) (hR : Rep nc Ls Xs h s) (m2 : Int32) (x2 : Int) (p2 : m2.toInt = x2) (m3 : Int32) (x3 : Int) (p3 : m3.toInt = x3), FX12_codeAt_l4 N q0 x1 kx n s x2 x3 = some r → Rn d 262 (some .int) 4 [some (.ref q0), some (.int m1), some (.int m2), some (.int m3)] [] h Q := by
  have hT := hX12_codeAt
  intro n
  induction n with
  | zero =>
    intro h s hR m2 x2 p2 m3 x3 p3 e
    rw [FX12_codeAt_l4] at e
    cases e
  | succ n ih =>
    intro h s hR m2 x2 p2 m3 x3 p3 e
    rw [FX12_codeAt_l4] at e
    refine Rn.n hT 2 (pc' := 8) (L' := [some (.ref q0), some (.int m1), some (.int m2), some (.int m3)]) (st' := [.int (204 : Int32), .int m3]) rfl ?_
    by_cases c_3258 : 204 ≤ x3
    · rw [if_pos c_3258] at e
      refine Rn.bt hT rfl rfl rfl (decide_eq_true ((ti_le L32_204 p3).mpr c_3258)) ?_
      exact Rn.weak (ll_n (ll_n (ll_n (ll_n ll_e)))) (hk h s hR e)
    · rw [if_neg c_3258] at e
      refine Rn.bf hT rfl rfl rfl (decide_eq_false (fun z => c_3258 ((ti_le L32_204 p3).mp z))) ?_
      refine Rn.n hT 2 (pc' := 13) (L' := [some (.ref q0), some (.int m1), some (.int m2), some (.int m3)]) (st' := [.int m3, .ref q0]) rfl ?_
      obtain ⟨⟨v_3259, s_3260⟩, e_3259, e⟩ := Option.bind_eq_some_iff.mp e
      try dsimp only at e
      try dsimp only at e
      refine Rn.call hT rfl rfl rfl (Nat.le_of_ble_eq_true rfl) (rcv_v gX12_mayBe (by omega) (rp_ck hR (T12_o t0))) (RX12_mayBe (by omega) hR t0 p3 e_3259 (fun z_3259 h_3260 p_3259 R_3260 => ?_))
      show Rn d _ _ 16 [some (.ref q0), some (.int m1), some (.int m2), some (.int m3)] [.int z_3259] h_3260 Q
      by_cases c_3261 : v_3259 = 0
      · rw [if_pos c_3261] at e
        refine Rn.bt hT rfl rfl rfl (decide_eq_true ((ti_e p_3259 L32_0).mpr c_3261)) ?_
        exact Rn.weak (ll_s (ll_s (ll_s (ll_s ll_e)))) (RX12_codeAt_b29 hd R_3260 t0 p1 p2 p3 ih hk hq e)
      · rw [if_neg c_3261] at e
        refine Rn.bf hT rfl rfl rfl (decide_eq_false (fun z => c_3261 ((ti_e p_3259 L32_0).mp z))) ?_
        refine Rn.n hT 2 (pc' := 21) (L' := [some (.ref q0), some (.int m1), some (.int m2), some (.int m3)]) (st' := [.int m1, .int m2]) rfl ?_
        by_cases c_3262 : x2 = x1
        · rw [if_pos c_3262] at e
          refine Rn.bf hT rfl rfl rfl (decide_eq_false (fun z => z ((ti_e p2 p1).mpr c_3262))) ?_
          refine Rn.n hT 1 (pc' := 25) (L' := [some (.ref q0), some (.int m1), some (.int m2), some (.int m3)]) (st' := [.int m3]) rfl ?_
          obtain rfl := Option.some.inj e
          exact Rn.ret hT rfl rfl rfl (hq m3 h_3260 p3 R_3260)
        · rw [if_neg c_3262] at e
          refine Rn.bt hT rfl rfl rfl (decide_eq_true (fun z => c_3262 ((ti_e p2 p1).mp z))) ?_
          refine Rn.n hT 1 (pc' := 29) (L' := [some (.ref q0), some (.int m1), some (.int (m2 + (1 : Int32))), some (.int m3)]) (st' := []) rfl ?_
          exact Rn.weak (ll_s (ll_s (ll_s (ll_s ll_e)))) (RX12_codeAt_b29 hd R_3260 t0 p1 (ti_add p2 L32_1) p3 ih hk hq e)
def FX12_codeAt (N : Nat) (s : iv_M) (q0 : Nat) (x1 : Int) : Option (Int × iv_M) := (FX12_codeAt_l4 N q0 x1 (fun (s_3256 : iv_M) => (some ((-1), s_3256))) N s 0 0)
set_option maxRecDepth 10000 in
set_option maxHeartbeats 4000000 in
theorem RX12_codeAt {d N nc Ls : Nat} {Xs : Nat → Int32} (hd : 9 ≤ d) {h : iv_H} {s : iv_M} (hR : Rep nc Ls Xs h s) {q0 : Nat} (t0 : T12 nc q0) {m1 : Int32} {x1 : Int} (p1 : m1.toInt = x1) {r : Int × iv_M} {Q : Option Value → iv_H → Prop} (e : FX12_codeAt N s q0 x1 = some r) (hq : ∀ (z : Int32) (h1 : iv_H), z.toInt = r.1 → Rep nc Ls Xs h1 r.2 → Q (some (.int z)) h1) : Cl d 262 [.ref q0, .int m1] h Q := by
  obtain ⟨d, rfl⟩ : ∃ k, d = k + 1 := ⟨d - 1, by omega⟩
  have hd : 8 ≤ d := by omega
  have hT := hX12_codeAt
  unfold FX12_codeAt at e
  refine Cl.into (by decide) gX12_codeAt rfl ?_
  show Rn d 262 (some .int) 0 [some (.ref q0), some (.int m1), none, none] [] h Q
  refine Rn.n hT 4 (pc' := 4) (L' := [some (.ref q0), some (.int m1), some (.int (0 : Int32)), some (.int (0 : Int32))]) (st' := []) rfl ?_
  refine Rn.weak (ll_s (ll_s (ll_s (ll_s ll_e)))) (RX12_codeAt_l4 hd t0 p1 (fun h_3256 s_3256 R_3256 e => ?_) hq N h s hR (0 : Int32) 0 L32_0 (0 : Int32) 0 L32_0 e)
  try dsimp only at e
  refine Rn.n hT 1 (pc' := 36) (L' := [none, none, none, none]) (st' := [.int (-1 : Int32)]) rfl ?_
  obtain rfl := Option.some.inj e
  exact Rn.ret hT rfl rfl rfl (hq (-1 : Int32) h_3256 L32_m1 R_3256)
set_option maxRecDepth 10000 in
theorem hX12_does : iv_Tb 263 tX12_does := iv_tb_of (m := mX12_does) rfl
set_option maxRecDepth 10000 in
theorem gX12_does : PG.2 263 = some mX12_does := iv_pi_of (t := tX12_does) rfl (by decide)
def FX12_does (N : Nat) (s : iv_M) (q0 : Nat) (x1 : Int) : Option (iv_M) := ((FX12_kindOf N s x1).bind fun v_3263 => ((FX12_roomOf N s x1).bind fun v_3264 => ((FX12_otherOf N s x1).bind fun v_3265 => ((FX12_walks N s q0 v_3263 v_3264 v_3265).bind fun s_3267 => some s_3267))))
set_option maxRecDepth 10000 in
set_option maxHeartbeats 4000000 in
theorem RX12_does {d N nc Ls : Nat} {Xs : Nat → Int32} (hd : 5 ≤ d) {h : iv_H} {s : iv_M} (hR : Rep nc Ls Xs h s) {q0 : Nat} (t0 : T12 nc q0) {m1 : Int32} {x1 : Int} (p1 : m1.toInt = x1) {r : iv_M} {Q : Option Value → iv_H → Prop} (e : FX12_does N s q0 x1 = some r) (hq : ∀ h1, Rep nc Ls Xs h1 r → Q none h1) : Cl d 263 [.ref q0, .int m1] h Q := by
  obtain ⟨d, rfl⟩ : ∃ k, d = k + 1 := ⟨d - 1, by omega⟩
  have hd : 4 ≤ d := by omega
  have hT := hX12_does
  unfold FX12_does at e
  refine Cl.into (by decide) gX12_does rfl ?_
  show Rn d 263 none 0 [some (.ref q0), some (.int m1)] [] h Q
  refine Rn.n hT 2 (pc' := 2) (L' := [some (.ref q0), some (.int m1)]) (st' := [.int m1, .ref q0]) rfl ?_
  obtain ⟨v_3263, e_3263, e⟩ := Option.bind_eq_some_iff.mp e
  refine Rn.call hT rfl rfl rfl (Nat.le_of_ble_eq_true rfl) rfl (RX12_kindOf (by omega) hR p1 e_3263 (fun z_3263 p_3263 => ?_))
  show Rn d _ _ 5 [some (.ref q0), some (.int m1)] [.int z_3263, .ref q0] h Q
  refine Rn.n hT 1 (pc' := 6) (L' := [some (.ref q0), some (.int m1)]) (st' := [.int m1, .int z_3263, .ref q0]) rfl ?_
  obtain ⟨v_3264, e_3264, e⟩ := Option.bind_eq_some_iff.mp e
  refine Rn.call hT rfl rfl rfl (Nat.le_of_ble_eq_true rfl) rfl (RX12_roomOf (by omega) hR p1 e_3264 (fun z_3264 p_3264 => ?_))
  show Rn d _ _ 9 [some (.ref q0), some (.int m1)] [.int z_3264, .int z_3263, .ref q0] h Q
  refine Rn.n hT 1 (pc' := 10) (L' := [some (.ref q0), some (.int m1)]) (st' := [.int m1, .int z_3264, .int z_3263, .ref q0]) rfl ?_
  obtain ⟨v_3265, e_3265, e⟩ := Option.bind_eq_some_iff.mp e
  refine Rn.call hT rfl rfl rfl (Nat.le_of_ble_eq_true rfl) rfl (RX12_otherOf (by omega) hR p1 e_3265 (fun z_3265 p_3265 => ?_))
  show Rn d _ _ 13 [some (.ref q0), some (.int m1)] [.int z_3265, .int z_3264, .int z_3263, .ref q0] h Q
  obtain ⟨s_3267, e_3266, e⟩ := Option.bind_eq_some_iff.mp e
  refine Rn.call hT rfl rfl rfl (Nat.le_of_ble_eq_true rfl) (rcv_v gX12_walks (by omega) (rp_ck hR (T12_o t0))) (RX12_walks (by omega) hR t0 p_3263 p_3264 p_3265 e_3266 (fun h_3267 R_3267 => ?_))
  show Rn d _ _ 16 [some (.ref q0), some (.int m1)] [] h_3267 Q
  obtain rfl := Option.some.inj e
  exact Rn.ret hT rfl rfl rfl (hq h_3267 R_3267)
set_option maxRecDepth 10000 in
theorem hX12_doesBack : iv_Tb 264 tX12_doesBack := iv_tb_of (m := mX12_doesBack) rfl
set_option maxRecDepth 10000 in
theorem gX12_doesBack : PG.2 264 = some mX12_doesBack := iv_pi_of (t := tX12_doesBack) rfl (by decide)
def FX12_doesBack (N : Nat) (s : iv_M) (q0 : Nat) (x1 : Int) : Option (iv_M) := ((FX12_kindOf N s x1).bind fun v_3268 => ((FX12_roomOf N s x1).bind fun v_3269 => ((FX12_otherOf N s x1).bind fun v_3270 => ((FX12_walksBack N s q0 v_3268 v_3269 v_3270).bind fun s_3272 => some s_3272))))
set_option maxRecDepth 10000 in
set_option maxHeartbeats 4000000 in
theorem RX12_doesBack {d N nc Ls : Nat} {Xs : Nat → Int32} (hd : 5 ≤ d) {h : iv_H} {s : iv_M} (hR : Rep nc Ls Xs h s) {q0 : Nat} (t0 : T12 nc q0) {m1 : Int32} {x1 : Int} (p1 : m1.toInt = x1) {r : iv_M} {Q : Option Value → iv_H → Prop} (e : FX12_doesBack N s q0 x1 = some r) (hq : ∀ h1, Rep nc Ls Xs h1 r → Q none h1) : Cl d 264 [.ref q0, .int m1] h Q := by
  obtain ⟨d, rfl⟩ : ∃ k, d = k + 1 := ⟨d - 1, by omega⟩
  have hd : 4 ≤ d := by omega
  have hT := hX12_doesBack
  unfold FX12_doesBack at e
  refine Cl.into (by decide) gX12_doesBack rfl ?_
  show Rn d 264 none 0 [some (.ref q0), some (.int m1)] [] h Q
  refine Rn.n hT 2 (pc' := 2) (L' := [some (.ref q0), some (.int m1)]) (st' := [.int m1, .ref q0]) rfl ?_
  obtain ⟨v_3268, e_3268, e⟩ := Option.bind_eq_some_iff.mp e
  refine Rn.call hT rfl rfl rfl (Nat.le_of_ble_eq_true rfl) rfl (RX12_kindOf (by omega) hR p1 e_3268 (fun z_3268 p_3268 => ?_))
  show Rn d _ _ 5 [some (.ref q0), some (.int m1)] [.int z_3268, .ref q0] h Q
  refine Rn.n hT 1 (pc' := 6) (L' := [some (.ref q0), some (.int m1)]) (st' := [.int m1, .int z_3268, .ref q0]) rfl ?_
  obtain ⟨v_3269, e_3269, e⟩ := Option.bind_eq_some_iff.mp e
  refine Rn.call hT rfl rfl rfl (Nat.le_of_ble_eq_true rfl) rfl (RX12_roomOf (by omega) hR p1 e_3269 (fun z_3269 p_3269 => ?_))
  show Rn d _ _ 9 [some (.ref q0), some (.int m1)] [.int z_3269, .int z_3268, .ref q0] h Q
  refine Rn.n hT 1 (pc' := 10) (L' := [some (.ref q0), some (.int m1)]) (st' := [.int m1, .int z_3269, .int z_3268, .ref q0]) rfl ?_
  obtain ⟨v_3270, e_3270, e⟩ := Option.bind_eq_some_iff.mp e
  refine Rn.call hT rfl rfl rfl (Nat.le_of_ble_eq_true rfl) rfl (RX12_otherOf (by omega) hR p1 e_3270 (fun z_3270 p_3270 => ?_))
  show Rn d _ _ 13 [some (.ref q0), some (.int m1)] [.int z_3270, .int z_3269, .int z_3268, .ref q0] h Q
  obtain ⟨s_3272, e_3271, e⟩ := Option.bind_eq_some_iff.mp e
  refine Rn.call hT rfl rfl rfl (Nat.le_of_ble_eq_true rfl) (rcv_v gX12_walksBack (by omega) (rp_ck hR (T12_o t0))) (RX12_walksBack (by omega) hR t0 p_3268 p_3269 p_3270 e_3271 (fun h_3272 R_3272 => ?_))
  show Rn d _ _ 16 [some (.ref q0), some (.int m1)] [] h_3272 Q
  obtain rfl := Option.some.inj e
  exact Rn.ret hT rfl rfl rfl (hq h_3272 R_3272)
set_option maxRecDepth 10000 in
theorem hX12_part : iv_Tb 265 tX12_part := iv_tb_of (m := mX12_part) rfl
set_option maxRecDepth 10000 in
theorem gX12_part : PG.2 265 = some mX12_part := iv_pi_of (t := tX12_part) rfl (by decide)
def FX12_part_b27 (N : Nat) (s : iv_M)  (xs0 : Int) : Option (Int) := (some xs0)
set_option maxRecDepth 10000 in
set_option maxHeartbeats 4000000 in
theorem RX12_part_b27 {d N nc Ls : Nat} {Xs : Nat → Int32} (hd : 1 ≤ d) {h : iv_H} {s : iv_M} (hR : Rep nc Ls Xs h s)  {ms0 : Int32} {xs0 : Int} (ps0 : ms0.toInt = xs0) {r : Int} {Q : Option Value → iv_H → Prop} (hq : ∀ (z : Int32), z.toInt = r → Q (some (.int z)) h) (e : FX12_part_b27 N s  xs0 = some r) : Rn d 265 (some .int) 27 [none, none] [.int ms0] h Q := by
  have hT := hX12_part
  unfold FX12_part_b27 at e
  obtain rfl := Option.some.inj e
  exact Rn.ret hT rfl rfl rfl (hq ms0 ps0)
def FX12_part (N : Nat) (s : iv_M) (x0 : Int) (x1 : Int) : Option (Int) := (if x1 = 0 then ((FX12_kindOf N s x0).bind fun v_3277 => (FX12_part_b27 N s v_3277)) else (if x1 = 1 then ((FX12_roomOf N s x0).bind fun v_3276 => (FX12_part_b27 N s v_3276)) else ((FX12_otherOf N s x0).bind fun v_3275 => (FX12_part_b27 N s v_3275))))
set_option maxRecDepth 10000 in
set_option maxHeartbeats 4000000 in
theorem RX12_part {d N nc Ls : Nat} {Xs : Nat → Int32} (hd : 2 ≤ d) {h : iv_H} {s : iv_M} (hR : Rep nc Ls Xs h s) {m0 : Int32} {x0 : Int} (p0 : m0.toInt = x0) {m1 : Int32} {x1 : Int} (p1 : m1.toInt = x1) {r : Int} {Q : Option Value → iv_H → Prop} (e : FX12_part N s x0 x1 = some r) (hq : ∀ (z : Int32), z.toInt = r → Q (some (.int z)) h) : Cl d 265 [.int m0, .int m1] h Q := by
  obtain ⟨d, rfl⟩ : ∃ k, d = k + 1 := ⟨d - 1, by omega⟩
  have hd : 1 ≤ d := by omega
  have hT := hX12_part
  unfold FX12_part at e
  refine Cl.into (by decide) gX12_part rfl ?_
  show Rn d 265 (some .int) 0 [some (.int m0), some (.int m1)] [] h Q
  refine Rn.n hT 1 (pc' := 1) (L' := [some (.int m0), some (.int m1)]) (st' := [.int m1]) rfl ?_
  by_cases c_3273 : x1 = 0
  · rw [if_pos c_3273] at e
    refine Rn.bf hT rfl rfl rfl (decide_eq_false (fun z => z ((ti_e p1 L32_0).mpr c_3273))) ?_
    refine Rn.n hT 1 (pc' := 5) (L' := [some (.int m0), some (.int m1)]) (st' := [.int m0]) rfl ?_
    obtain ⟨v_3277, e_3277, e⟩ := Option.bind_eq_some_iff.mp e
    refine Rn.call hT rfl rfl rfl (Nat.le_of_ble_eq_true rfl) rfl (RX12_kindOf (by omega) hR p0 e_3277 (fun z_3277 p_3277 => ?_))
    show Rn d _ _ 8 [some (.int m0), some (.int m1)] [.int z_3277] h Q
    refine Rn.n hT 1 (pc' := 27) (L' := [some (.int m0), some (.int m1)]) (st' := [.int z_3277]) rfl ?_
    exact Rn.weak (ll_n (ll_n ll_e)) (RX12_part_b27 hd hR p_3277 hq e)
  · rw [if_neg c_3273] at e
    refine Rn.bt hT rfl rfl rfl (decide_eq_true (fun z => c_3273 ((ti_e p1 L32_0).mp z))) ?_
    refine Rn.n hT 2 (pc' := 13) (L' := [some (.int m0), some (.int m1)]) (st' := [.int (1 : Int32), .int m1]) rfl ?_
    by_cases c_3274 : x1 = 1
    · rw [if_pos c_3274] at e
      refine Rn.bf hT rfl rfl rfl (decide_eq_false (fun z => z ((ti_e p1 L32_1).mpr c_3274))) ?_
      refine Rn.n hT 1 (pc' := 17) (L' := [some (.int m0), some (.int m1)]) (st' := [.int m0]) rfl ?_
      obtain ⟨v_3276, e_3276, e⟩ := Option.bind_eq_some_iff.mp e
      refine Rn.call hT rfl rfl rfl (Nat.le_of_ble_eq_true rfl) rfl (RX12_roomOf (by omega) hR p0 e_3276 (fun z_3276 p_3276 => ?_))
      show Rn d _ _ 20 [some (.int m0), some (.int m1)] [.int z_3276] h Q
      refine Rn.n hT 1 (pc' := 27) (L' := [some (.int m0), some (.int m1)]) (st' := [.int z_3276]) rfl ?_
      exact Rn.weak (ll_n (ll_n ll_e)) (RX12_part_b27 hd hR p_3276 hq e)
    · rw [if_neg c_3274] at e
      refine Rn.bt hT rfl rfl rfl (decide_eq_true (fun z => c_3274 ((ti_e p1 L32_1).mp z))) ?_
      refine Rn.n hT 1 (pc' := 24) (L' := [some (.int m0), some (.int m1)]) (st' := [.int m0]) rfl ?_
      obtain ⟨v_3275, e_3275, e⟩ := Option.bind_eq_some_iff.mp e
      refine Rn.call hT rfl rfl rfl (Nat.le_of_ble_eq_true rfl) rfl (RX12_otherOf (by omega) hR p0 e_3275 (fun z_3275 p_3275 => ?_))
      show Rn d _ _ 27 [some (.int m0), some (.int m1)] [.int z_3275] h Q
      exact Rn.weak (ll_n (ll_n ll_e)) (RX12_part_b27 hd hR p_3275 hq e)
set_option maxRecDepth 10000 in
theorem hX12_keysIn : iv_Tb 266 tX12_keysIn := iv_tb_of (m := mX12_keysIn) rfl
set_option maxRecDepth 10000 in
theorem gX12_keysIn : PG.2 266 = some mX12_keysIn := iv_pi_of (t := tX12_keysIn) rfl (by decide)
def FX12_keysIn_b27 (N : Nat) (s : iv_M) (q0 : Nat) (x1 : Int) (x3 : Int) (xs0 : Int) (xs1 : Int) (kb : Int → Int → Option (Int)) (kx : Int → Option (Int)) : Option (Int) := (kb (bOr xs1 xs0) (w32 (x3 + 1)))
set_option maxRecDepth 10000 in
set_option maxHeartbeats 4000000 in
theorem RX12_keysIn_b27 {d N nc Ls : Nat} {Xs : Nat → Int32} (hd : 0 ≤ d) {h : iv_H} {s : iv_M} (hR : Rep nc Ls Xs h s) {q0 : Nat} (t0 : T12 nc q0) {m1 : Int32} {x1 : Int} (p1 : m1.toInt = x1) {m3 : Int32} {x3 : Int} (p3 : m3.toInt = x3) {ms0 : Int32} {xs0 : Int} (ps0 : ms0.toInt = xs0) {ms1 : Int32} {xs1 : Int} (ps1 : ms1.toInt = xs1) {kb : Int → Int → Option (Int)} {kx : Int → Option (Int)} {r : Int} {Q : Option Value → iv_H → Prop} (hb : ∀ (mw2 : Int32) (xw2 : Int) (pw2 : mw2.toInt = xw2) (mw3 : Int32) (xw3 : Int) (pw3 : mw3.toInt = xw3), kb xw2 xw3 = some r → Rn d 266 (some .int) 4 [some (.ref q0), some (.int m1), some (.int mw2), some (.int mw3)] [] h Q) (hk : ∀ (mw2 : Int32) (xw2 : Int) (pw2 : mw2.toInt = xw2), kx xw2 = some r → Rn d 266 (some .int) 35 [none, none, some (.int mw2), none] [] h Q) (hq : ∀ (z : Int32), z.toInt = r → Q (some (.int z)) h) (e : FX12_keysIn_b27 N s q0 x1 x3 xs0 xs1 kb kx = some r) : Rn d 266 (some .int) 27 [some (.ref q0), some (.int m1), none, some (.int m3)] [.int ms0, .int ms1] h Q := by
  have hT := hX12_keysIn
  unfold FX12_keysIn_b27 at e
  refine Rn.n hT 4 (pc' := 4) (L' := [some (.ref q0), some (.int m1), some (.int (ms1 ||| ms0)), some (.int (m3 + (1 : Int32)))]) (st' := []) rfl ?_
  exact Rn.weak (ll_s (ll_s (ll_s (ll_s ll_e)))) (hb (ms1 ||| ms0) (bOr xs1 xs0) (ti_or ps1 ps0) (m3 + (1 : Int32)) (w32 (x3 + 1)) (ti_add p3 L32_1) e)
def FX12_keysIn_l4 (N : Nat) (s : iv_M) (q0 : Nat) (x1 : Int) (kx : Int → Option (Int)) : Nat → Int → Int → Option (Int)
  | 0, _, _ => none
  | n + 1, x2, x3 => (if 4 ≤ x3 then (kx x2) else ((rd s (q0 + 6) 4 x3).bind fun v_3280 => (if v_3280 = x1 then (FX12_keysIn_b27 N s q0 x1 x3 (sl32 2 x3) x2 (FX12_keysIn_l4 N s q0 x1 kx n) kx) else (FX12_keysIn_b27 N s q0 x1 x3 0 x2 (FX12_keysIn_l4 N s q0 x1 kx n) kx))))
set_option maxRecDepth 10000 in
set_option maxHeartbeats 4000000 in
theorem RX12_keysIn_l4 {d N nc Ls : Nat} {Xs : Nat → Int32} (hd : 0 ≤ d) {h : iv_H} {s : iv_M} (hR : Rep nc Ls Xs h s) {q0 : Nat} (t0 : T12 nc q0) {m1 : Int32} {x1 : Int} (p1 : m1.toInt = x1) {kx : Int → Option (Int)} {r : Int} {Q : Option Value → iv_H → Prop} (hk : ∀ (m2 : Int32) (x2 : Int) (p2 : m2.toInt = x2), kx x2 = some r → Rn d 266 (some .int) 35 [none, none, some (.int m2), none] [] h Q) (hq : ∀ (z : Int32), z.toInt = r → Q (some (.int z)) h) : ∀ (n : Nat) (m2 : Int32) (x2 : Int) (p2 : m2.toInt = x2) (m3 : Int32) (x3 : Int) (p3 : m3.toInt = x3), FX12_keysIn_l4 N s q0 x1 kx n x2 x3 = some r → Rn d 266 (some .int) 4 [some (.ref q0), some (.int m1), some (.int m2), some (.int m3)] [] h Q := by
  have hT := hX12_keysIn
  intro n
  induction n with
  | zero =>
    intro m2 x2 p2 m3 x3 p3 e
    rw [FX12_keysIn_l4] at e
    cases e
  | succ n ih =>
    intro m2 x2 p2 m3 x3 p3 e
    rw [FX12_keysIn_l4] at e
    refine Rn.n hT 2 (pc' := 6) (L' := [some (.ref q0), some (.int m1), some (.int m2), some (.int m3)]) (st' := [.int (4 : Int32), .int m3]) rfl ?_
    by_cases c_3279 : 4 ≤ x3
    · rw [if_pos c_3279] at e
      refine Rn.bt hT rfl rfl rfl (decide_eq_true ((ti_le L32_4 p3).mpr c_3279)) ?_
      exact Rn.weak (ll_n (ll_n (ll_s (ll_n ll_e)))) (hk m2 x2 p2 e)
    · rw [if_neg c_3279] at e
      refine Rn.bf hT rfl rfl rfl (decide_eq_false (fun z => c_3279 ((ti_le L32_4 p3).mp z))) ?_
      refine Rn.n hT 2 (pc' := 11) (L' := [some (.ref q0), some (.int m1), some (.int m2), some (.int m3)]) (st' := [.ref q0, .int m2]) rfl ?_
      refine Rn.hp hT rfl rfl (gR_hp (rp_gR hR (T12_o t0) rfl)) ?_
      refine Rn.n hT 1 (pc' := 15) (L' := [some (.ref q0), some (.int m1), some (.int m2), some (.int m3)]) (st' := [.int m3, .ref (q0 + 6), .int m2]) rfl ?_
      obtain ⟨v_3280, e_3280, e⟩ := Option.bind_eq_some_iff.mp e
      obtain ⟨z_3280, g_3280, p_3280⟩ := rp_aI hR (T12_6 t0) (T12_6l t0) p3 e_3280
      refine Rn.hp hT rfl rfl (aI_hp g_3280) ?_
      refine Rn.n hT 1 (pc' := 17) (L' := [some (.ref q0), some (.int m1), some (.int m2), some (.int m3)]) (st' := [.int m1, .int z_3280, .int m2]) rfl ?_
      by_cases c_3281 : v_3280 = x1
      · rw [if_pos c_3281] at e
        refine Rn.bf hT rfl rfl rfl (decide_eq_false (fun z => z ((ti_e p_3280 p1).mpr c_3281))) ?_
        refine Rn.n hT 4 (pc' := 27) (L' := [some (.ref q0), some (.int m1), some (.int m2), some (.int m3)]) (st' := [.int ((2 : Int32) <<< (m3 &&& 31)), .int m2]) rfl ?_
        exact Rn.weak (ll_s (ll_s (ll_n (ll_s ll_e)))) (RX12_keysIn_b27 hd hR t0 p1 p3 (ti_shl L32_2 p3) p2 ih hk hq e)
      · rw [if_neg c_3281] at e
        refine Rn.bt hT rfl rfl rfl (decide_eq_true (fun z => c_3281 ((ti_e p_3280 p1).mp z))) ?_
        refine Rn.n hT 1 (pc' := 27) (L' := [some (.ref q0), some (.int m1), some (.int m2), some (.int m3)]) (st' := [.int (0 : Int32), .int m2]) rfl ?_
        exact Rn.weak (ll_s (ll_s (ll_n (ll_s ll_e)))) (RX12_keysIn_b27 hd hR t0 p1 p3 L32_0 p2 ih hk hq e)
def FX12_keysIn (N : Nat) (s : iv_M) (q0 : Nat) (x1 : Int) : Option (Int) := (FX12_keysIn_l4 N s q0 x1 (fun (x3278_2 : Int) => (some x3278_2)) N 0 0)
set_option maxRecDepth 10000 in
set_option maxHeartbeats 4000000 in
theorem RX12_keysIn {d N nc Ls : Nat} {Xs : Nat → Int32} (hd : 1 ≤ d) {h : iv_H} {s : iv_M} (hR : Rep nc Ls Xs h s) {q0 : Nat} (t0 : T12 nc q0) {m1 : Int32} {x1 : Int} (p1 : m1.toInt = x1) {r : Int} {Q : Option Value → iv_H → Prop} (e : FX12_keysIn N s q0 x1 = some r) (hq : ∀ (z : Int32), z.toInt = r → Q (some (.int z)) h) : Cl d 266 [.ref q0, .int m1] h Q := by
  obtain ⟨d, rfl⟩ : ∃ k, d = k + 1 := ⟨d - 1, by omega⟩
  have hd : 0 ≤ d := by omega
  have hT := hX12_keysIn
  unfold FX12_keysIn at e
  refine Cl.into (by decide) gX12_keysIn rfl ?_
  show Rn d 266 (some .int) 0 [some (.ref q0), some (.int m1), none, none] [] h Q
  refine Rn.n hT 4 (pc' := 4) (L' := [some (.ref q0), some (.int m1), some (.int (0 : Int32)), some (.int (0 : Int32))]) (st' := []) rfl ?_
  refine Rn.weak (ll_s (ll_s (ll_s (ll_s ll_e)))) (RX12_keysIn_l4 hd hR t0 p1 (fun m3278_2 x3278_2 p3278_2 e => ?_) hq N (0 : Int32) 0 L32_0 (0 : Int32) 0 L32_0 e)
  try dsimp only at e
  refine Rn.n hT 1 (pc' := 36) (L' := [none, none, some (.int m3278_2), none]) (st' := [.int m3278_2]) rfl ?_
  obtain rfl := Option.some.inj e
  exact Rn.ret hT rfl rfl rfl (hq m3278_2 p3278_2)
set_option maxRecDepth 10000 in
theorem hX12_room : iv_Tb 267 tX12_room := iv_tb_of (m := mX12_room) rfl
set_option maxRecDepth 10000 in
theorem gX12_room : PG.2 267 = some mX12_room := iv_pi_of (t := tX12_room) rfl (by decide)
def FX12_room (N : Nat) (s : iv_M) (q0 : Nat) (x1 : Int) (x2 : Int) : Option (Int) := ((FX12_isRoom N s q0 x1).bind fun v_3282 => (if v_3282 = 0 then (some (-1)) else (if x2 = 0 then ((rd s (q0 + 3) 12 x1).bind fun v_3285 => (some v_3285)) else (if x2 = 1 then ((rd s (q0 + 4) 12 x1).bind fun v_3287 => (some v_3287)) else (if x2 = 2 then ((FX12_sideOf N s q0 x1 (w32 (x2 - 2))).bind fun v_3289 => (some v_3289)) else (if x2 = 3 then ((FX12_sideOf N s q0 x1 (w32 (x2 - 2))).bind fun v_3291 => (some v_3291)) else (if x2 = 4 then ((FX12_sideOf N s q0 x1 (w32 (x2 - 2))).bind fun v_3293 => (some v_3293)) else (if x2 = 5 then ((FX12_sideOf N s q0 x1 (w32 (x2 - 2))).bind fun v_3295 => (some v_3295)) else (if x2 = 6 then ((rd s (q0 + 5) 12 x1).bind fun v_3297 => (some v_3297)) else (if x2 = 7 then ((FX12_keysIn N s q0 x1).bind fun v_3299 => (some v_3299)) else (if x2 = 8 then ((FX12_sleepers N s q0 x1).bind fun v_3301 => (some v_3301)) else (some (-1)))))))))))))
set_option maxRecDepth 10000 in
set_option maxHeartbeats 4000000 in
theorem RX12_room {d N nc Ls : Nat} {Xs : Nat → Int32} (hd : 3 ≤ d) {h : iv_H} {s : iv_M} (hR : Rep nc Ls Xs h s) {q0 : Nat} (t0 : T12 nc q0) {m1 : Int32} {x1 : Int} (p1 : m1.toInt = x1) {m2 : Int32} {x2 : Int} (p2 : m2.toInt = x2) {r : Int} {Q : Option Value → iv_H → Prop} (e : FX12_room N s q0 x1 x2 = some r) (hq : ∀ (z : Int32), z.toInt = r → Q (some (.int z)) h) : Cl d 267 [.ref q0, .int m1, .int m2] h Q := by
  obtain ⟨d, rfl⟩ : ∃ k, d = k + 1 := ⟨d - 1, by omega⟩
  have hd : 2 ≤ d := by omega
  have hT := hX12_room
  unfold FX12_room at e
  refine Cl.into (by decide) gX12_room rfl ?_
  show Rn d 267 (some .int) 0 [some (.ref q0), some (.int m1), some (.int m2)] [] h Q
  refine Rn.n hT 2 (pc' := 2) (L' := [some (.ref q0), some (.int m1), some (.int m2)]) (st' := [.int m1, .ref q0]) rfl ?_
  obtain ⟨v_3282, e_3282, e⟩ := Option.bind_eq_some_iff.mp e
  refine Rn.call hT rfl rfl rfl (Nat.le_of_ble_eq_true rfl) (rcv_v gX12_isRoom (by omega) (rp_ck hR (T12_o t0))) (RX12_isRoom (by omega) hR t0 p1 e_3282 (fun z_3282 p_3282 => ?_))
  show Rn d _ _ 5 [some (.ref q0), some (.int m1), some (.int m2)] [.int z_3282] h Q
  by_cases c_3283 : v_3282 = 0
  · rw [if_pos c_3283] at e
    refine Rn.bf hT rfl rfl rfl (decide_eq_false (fun z => z ((ti_e p_3282 L32_0).mpr c_3283))) ?_
    refine Rn.n hT 1 (pc' := 9) (L' := [some (.ref q0), some (.int m1), some (.int m2)]) (st' := [.int (-1 : Int32)]) rfl ?_
    obtain rfl := Option.some.inj e
    exact Rn.ret hT rfl rfl rfl (hq (-1 : Int32) L32_m1)
  · rw [if_neg c_3283] at e
    refine Rn.bt hT rfl rfl rfl (decide_eq_true (fun z => c_3283 ((ti_e p_3282 L32_0).mp z))) ?_
    refine Rn.n hT 1 (pc' := 11) (L' := [some (.ref q0), some (.int m1), some (.int m2)]) (st' := [.int m2]) rfl ?_
    by_cases c_3284 : x2 = 0
    · rw [if_pos c_3284] at e
      refine Rn.sw2 hT rfl rfl rfl (if_pos ((ti_e p2 L32_0).mpr c_3284)) ?_
      refine Rn.n hT 1 (pc' := 61) (L' := [some (.ref q0), some (.int m1), some (.int m2)]) (st' := [.ref q0]) rfl ?_
      refine Rn.hp hT rfl rfl (gR_hp (rp_gR hR (T12_o t0) rfl)) ?_
      refine Rn.n hT 1 (pc' := 65) (L' := [some (.ref q0), some (.int m1), some (.int m2)]) (st' := [.int m1, .ref (q0 + 3)]) rfl ?_
      obtain ⟨v_3285, e_3285, e⟩ := Option.bind_eq_some_iff.mp e
      obtain ⟨z_3285, g_3285, p_3285⟩ := rp_aI hR (T12_3 t0) (T12_3l t0) p1 e_3285
      refine Rn.hp hT rfl rfl (aI_hp g_3285) ?_
      obtain rfl := Option.some.inj e
      exact Rn.ret hT rfl rfl rfl (hq z_3285 p_3285)
    · rw [if_neg c_3284] at e
      by_cases c_3286 : x2 = 1
      · rw [if_pos c_3286] at e
        refine Rn.sw2 hT rfl rfl rfl ((if_neg (fun z => c_3284 ((ti_e p2 L32_0).mp z))).trans (if_pos ((ti_e p2 L32_1).mpr c_3286))) ?_
        refine Rn.n hT 1 (pc' := 68) (L' := [some (.ref q0), some (.int m1), some (.int m2)]) (st' := [.ref q0]) rfl ?_
        refine Rn.hp hT rfl rfl (gR_hp (rp_gR hR (T12_o t0) rfl)) ?_
        refine Rn.n hT 1 (pc' := 72) (L' := [some (.ref q0), some (.int m1), some (.int m2)]) (st' := [.int m1, .ref (q0 + 4)]) rfl ?_
        obtain ⟨v_3287, e_3287, e⟩ := Option.bind_eq_some_iff.mp e
        obtain ⟨z_3287, g_3287, p_3287⟩ := rp_aI hR (T12_4 t0) (T12_4l t0) p1 e_3287
        refine Rn.hp hT rfl rfl (aI_hp g_3287) ?_
        obtain rfl := Option.some.inj e
        exact Rn.ret hT rfl rfl rfl (hq z_3287 p_3287)
      · rw [if_neg c_3286] at e
        by_cases c_3288 : x2 = 2
        · rw [if_pos c_3288] at e
          refine Rn.sw2 hT rfl rfl rfl ((if_neg (fun z => c_3284 ((ti_e p2 L32_0).mp z))).trans ((if_neg (fun z => c_3286 ((ti_e p2 L32_1).mp z))).trans (if_pos ((ti_e p2 L32_2).mpr c_3288)))) ?_
          refine Rn.n hT 5 (pc' := 79) (L' := [some (.ref q0), some (.int m1), some (.int m2)]) (st' := [.int (m2 - (2 : Int32)), .int m1, .ref q0]) rfl ?_
          obtain ⟨v_3289, e_3289, e⟩ := Option.bind_eq_some_iff.mp e
          refine Rn.call hT rfl rfl rfl (Nat.le_of_ble_eq_true rfl) (rcv_v gX12_sideOf (by omega) (rp_ck hR (T12_o t0))) (RX12_sideOf (by omega) hR t0 p1 (ti_sub p2 L32_2) e_3289 (fun z_3289 p_3289 => ?_))
          show Rn d _ _ 82 [some (.ref q0), some (.int m1), some (.int m2)] [.int z_3289] h Q
          obtain rfl := Option.some.inj e
          exact Rn.ret hT rfl rfl rfl (hq z_3289 p_3289)
        · rw [if_neg c_3288] at e
          by_cases c_3290 : x2 = 3
          · rw [if_pos c_3290] at e
            refine Rn.sw2 hT rfl rfl rfl ((if_neg (fun z => c_3284 ((ti_e p2 L32_0).mp z))).trans ((if_neg (fun z => c_3286 ((ti_e p2 L32_1).mp z))).trans ((if_neg (fun z => c_3288 ((ti_e p2 L32_2).mp z))).trans (if_pos ((ti_e p2 L32_3).mpr c_3290))))) ?_
            refine Rn.n hT 5 (pc' := 79) (L' := [some (.ref q0), some (.int m1), some (.int m2)]) (st' := [.int (m2 - (2 : Int32)), .int m1, .ref q0]) rfl ?_
            obtain ⟨v_3291, e_3291, e⟩ := Option.bind_eq_some_iff.mp e
            refine Rn.call hT rfl rfl rfl (Nat.le_of_ble_eq_true rfl) (rcv_v gX12_sideOf (by omega) (rp_ck hR (T12_o t0))) (RX12_sideOf (by omega) hR t0 p1 (ti_sub p2 L32_2) e_3291 (fun z_3291 p_3291 => ?_))
            show Rn d _ _ 82 [some (.ref q0), some (.int m1), some (.int m2)] [.int z_3291] h Q
            obtain rfl := Option.some.inj e
            exact Rn.ret hT rfl rfl rfl (hq z_3291 p_3291)
          · rw [if_neg c_3290] at e
            by_cases c_3292 : x2 = 4
            · rw [if_pos c_3292] at e
              refine Rn.sw2 hT rfl rfl rfl ((if_neg (fun z => c_3284 ((ti_e p2 L32_0).mp z))).trans ((if_neg (fun z => c_3286 ((ti_e p2 L32_1).mp z))).trans ((if_neg (fun z => c_3288 ((ti_e p2 L32_2).mp z))).trans ((if_neg (fun z => c_3290 ((ti_e p2 L32_3).mp z))).trans (if_pos ((ti_e p2 L32_4).mpr c_3292)))))) ?_
              refine Rn.n hT 5 (pc' := 79) (L' := [some (.ref q0), some (.int m1), some (.int m2)]) (st' := [.int (m2 - (2 : Int32)), .int m1, .ref q0]) rfl ?_
              obtain ⟨v_3293, e_3293, e⟩ := Option.bind_eq_some_iff.mp e
              refine Rn.call hT rfl rfl rfl (Nat.le_of_ble_eq_true rfl) (rcv_v gX12_sideOf (by omega) (rp_ck hR (T12_o t0))) (RX12_sideOf (by omega) hR t0 p1 (ti_sub p2 L32_2) e_3293 (fun z_3293 p_3293 => ?_))
              show Rn d _ _ 82 [some (.ref q0), some (.int m1), some (.int m2)] [.int z_3293] h Q
              obtain rfl := Option.some.inj e
              exact Rn.ret hT rfl rfl rfl (hq z_3293 p_3293)
            · rw [if_neg c_3292] at e
              by_cases c_3294 : x2 = 5
              · rw [if_pos c_3294] at e
                refine Rn.sw2 hT rfl rfl rfl ((if_neg (fun z => c_3284 ((ti_e p2 L32_0).mp z))).trans ((if_neg (fun z => c_3286 ((ti_e p2 L32_1).mp z))).trans ((if_neg (fun z => c_3288 ((ti_e p2 L32_2).mp z))).trans ((if_neg (fun z => c_3290 ((ti_e p2 L32_3).mp z))).trans ((if_neg (fun z => c_3292 ((ti_e p2 L32_4).mp z))).trans (if_pos ((ti_e p2 L32_5).mpr c_3294))))))) ?_
                refine Rn.n hT 5 (pc' := 79) (L' := [some (.ref q0), some (.int m1), some (.int m2)]) (st' := [.int (m2 - (2 : Int32)), .int m1, .ref q0]) rfl ?_
                obtain ⟨v_3295, e_3295, e⟩ := Option.bind_eq_some_iff.mp e
                refine Rn.call hT rfl rfl rfl (Nat.le_of_ble_eq_true rfl) (rcv_v gX12_sideOf (by omega) (rp_ck hR (T12_o t0))) (RX12_sideOf (by omega) hR t0 p1 (ti_sub p2 L32_2) e_3295 (fun z_3295 p_3295 => ?_))
                show Rn d _ _ 82 [some (.ref q0), some (.int m1), some (.int m2)] [.int z_3295] h Q
                obtain rfl := Option.some.inj e
                exact Rn.ret hT rfl rfl rfl (hq z_3295 p_3295)
              · rw [if_neg c_3294] at e
                by_cases c_3296 : x2 = 6
                · rw [if_pos c_3296] at e
                  refine Rn.sw2 hT rfl rfl rfl ((if_neg (fun z => c_3284 ((ti_e p2 L32_0).mp z))).trans ((if_neg (fun z => c_3286 ((ti_e p2 L32_1).mp z))).trans ((if_neg (fun z => c_3288 ((ti_e p2 L32_2).mp z))).trans ((if_neg (fun z => c_3290 ((ti_e p2 L32_3).mp z))).trans ((if_neg (fun z => c_3292 ((ti_e p2 L32_4).mp z))).trans ((if_neg (fun z => c_3294 ((ti_e p2 L32_5).mp z))).trans (if_pos ((ti_e p2 L32_6).mpr c_3296)))))))) ?_
                  refine Rn.n hT 1 (pc' := 84) (L' := [some (.ref q0), some (.int m1), some (.int m2)]) (st' := [.ref q0]) rfl ?_
                  refine Rn.hp hT rfl rfl (gR_hp (rp_gR hR (T12_o t0) rfl)) ?_
                  refine Rn.n hT 1 (pc' := 88) (L' := [some (.ref q0), some (.int m1), some (.int m2)]) (st' := [.int m1, .ref (q0 + 5)]) rfl ?_
                  obtain ⟨v_3297, e_3297, e⟩ := Option.bind_eq_some_iff.mp e
                  obtain ⟨z_3297, g_3297, p_3297⟩ := rp_aI hR (T12_5 t0) (T12_5l t0) p1 e_3297
                  refine Rn.hp hT rfl rfl (aI_hp g_3297) ?_
                  obtain rfl := Option.some.inj e
                  exact Rn.ret hT rfl rfl rfl (hq z_3297 p_3297)
                · rw [if_neg c_3296] at e
                  by_cases c_3298 : x2 = 7
                  · rw [if_pos c_3298] at e
                    refine Rn.sw2 hT rfl rfl rfl ((if_neg (fun z => c_3284 ((ti_e p2 L32_0).mp z))).trans ((if_neg (fun z => c_3286 ((ti_e p2 L32_1).mp z))).trans ((if_neg (fun z => c_3288 ((ti_e p2 L32_2).mp z))).trans ((if_neg (fun z => c_3290 ((ti_e p2 L32_3).mp z))).trans ((if_neg (fun z => c_3292 ((ti_e p2 L32_4).mp z))).trans ((if_neg (fun z => c_3294 ((ti_e p2 L32_5).mp z))).trans ((if_neg (fun z => c_3296 ((ti_e p2 L32_6).mp z))).trans (if_pos ((ti_e p2 L32_7).mpr c_3298))))))))) ?_
                    refine Rn.n hT 2 (pc' := 92) (L' := [some (.ref q0), some (.int m1), some (.int m2)]) (st' := [.int m1, .ref q0]) rfl ?_
                    obtain ⟨v_3299, e_3299, e⟩ := Option.bind_eq_some_iff.mp e
                    refine Rn.call hT rfl rfl rfl (Nat.le_of_ble_eq_true rfl) (rcv_v gX12_keysIn (by omega) (rp_ck hR (T12_o t0))) (RX12_keysIn (by omega) hR t0 p1 e_3299 (fun z_3299 p_3299 => ?_))
                    show Rn d _ _ 95 [some (.ref q0), some (.int m1), some (.int m2)] [.int z_3299] h Q
                    obtain rfl := Option.some.inj e
                    exact Rn.ret hT rfl rfl rfl (hq z_3299 p_3299)
                  · rw [if_neg c_3298] at e
                    by_cases c_3300 : x2 = 8
                    · rw [if_pos c_3300] at e
                      refine Rn.sw2 hT rfl rfl rfl ((if_neg (fun z => c_3284 ((ti_e p2 L32_0).mp z))).trans ((if_neg (fun z => c_3286 ((ti_e p2 L32_1).mp z))).trans ((if_neg (fun z => c_3288 ((ti_e p2 L32_2).mp z))).trans ((if_neg (fun z => c_3290 ((ti_e p2 L32_3).mp z))).trans ((if_neg (fun z => c_3292 ((ti_e p2 L32_4).mp z))).trans ((if_neg (fun z => c_3294 ((ti_e p2 L32_5).mp z))).trans ((if_neg (fun z => c_3296 ((ti_e p2 L32_6).mp z))).trans ((if_neg (fun z => c_3298 ((ti_e p2 L32_7).mp z))).trans (if_pos ((ti_e p2 L32_8).mpr c_3300)))))))))) ?_
                      refine Rn.n hT 2 (pc' := 98) (L' := [some (.ref q0), some (.int m1), some (.int m2)]) (st' := [.int m1, .ref q0]) rfl ?_
                      obtain ⟨v_3301, e_3301, e⟩ := Option.bind_eq_some_iff.mp e
                      refine Rn.call hT rfl rfl rfl (Nat.le_of_ble_eq_true rfl) (rcv_v gX12_sleepers (by omega) (rp_ck hR (T12_o t0))) (RX12_sleepers (by omega) hR t0 p1 e_3301 (fun z_3301 p_3301 => ?_))
                      show Rn d _ _ 101 [some (.ref q0), some (.int m1), some (.int m2)] [.int z_3301] h Q
                      obtain rfl := Option.some.inj e
                      exact Rn.ret hT rfl rfl rfl (hq z_3301 p_3301)
                    · rw [if_neg c_3300] at e
                      refine Rn.sw2 hT rfl rfl rfl ((if_neg (fun z => c_3284 ((ti_e p2 L32_0).mp z))).trans ((if_neg (fun z => c_3286 ((ti_e p2 L32_1).mp z))).trans ((if_neg (fun z => c_3288 ((ti_e p2 L32_2).mp z))).trans ((if_neg (fun z => c_3290 ((ti_e p2 L32_3).mp z))).trans ((if_neg (fun z => c_3292 ((ti_e p2 L32_4).mp z))).trans ((if_neg (fun z => c_3294 ((ti_e p2 L32_5).mp z))).trans ((if_neg (fun z => c_3296 ((ti_e p2 L32_6).mp z))).trans ((if_neg (fun z => c_3298 ((ti_e p2 L32_7).mp z))).trans ((if_neg (fun z => c_3300 ((ti_e p2 L32_8).mp z))).trans rfl))))))))) ?_
                      refine Rn.n hT 1 (pc' := 103) (L' := [some (.ref q0), some (.int m1), some (.int m2)]) (st' := [.int (-1 : Int32)]) rfl ?_
                      obtain rfl := Option.some.inj e
                      exact Rn.ret hT rfl rfl rfl (hq (-1 : Int32) L32_m1)
set_option maxRecDepth 10000 in
theorem hX12_at : iv_Tb 268 tX12_at := iv_tb_of (m := mX12_at) rfl
set_option maxRecDepth 10000 in
theorem gX12_at : PG.2 268 = some mX12_at := iv_pi_of (t := tX12_at) rfl (by decide)
def FX12_at_b24 (N : Nat) (s : iv_M)  (xs0 : Int) : Option (Int) := (some xs0)
set_option maxRecDepth 10000 in
set_option maxHeartbeats 4000000 in
theorem RX12_at_b24 {d N nc Ls : Nat} {Xs : Nat → Int32} (hd : 2 ≤ d) {h : iv_H} {s : iv_M} (hR : Rep nc Ls Xs h s)  {ms0 : Int32} {xs0 : Int} (ps0 : ms0.toInt = xs0) {r : Int} {Q : Option Value → iv_H → Prop} (hq : ∀ (z : Int32), z.toInt = r → Q (some (.int z)) h) (e : FX12_at_b24 N s  xs0 = some r) : Rn d 268 (some .int) 24 [none, none, none] [.int ms0] h Q := by
  have hT := hX12_at
  unfold FX12_at_b24 at e
  obtain rfl := Option.some.inj e
  exact Rn.ret hT rfl rfl rfl (hq ms0 ps0)
def FX12_at (N : Nat) (s : iv_M) (q0 : Nat) (x1 : Int) (x2 : Int) : Option (Int) := ((FX12_isCell N s q0 x1 x2).bind fun v_3302 => (if v_3302 = 0 then (FX12_at_b24 N s (-2)) else ((rd s (q0 + 8) 16 (w32 ((w32 (4 * x2)) + x1))).bind fun v_3304 => (FX12_at_b24 N s v_3304))))
set_option maxRecDepth 10000 in
set_option maxHeartbeats 4000000 in
theorem RX12_at {d N nc Ls : Nat} {Xs : Nat → Int32} (hd : 3 ≤ d) {h : iv_H} {s : iv_M} (hR : Rep nc Ls Xs h s) {q0 : Nat} (t0 : T12 nc q0) {m1 : Int32} {x1 : Int} (p1 : m1.toInt = x1) {m2 : Int32} {x2 : Int} (p2 : m2.toInt = x2) {r : Int} {Q : Option Value → iv_H → Prop} (e : FX12_at N s q0 x1 x2 = some r) (hq : ∀ (z : Int32), z.toInt = r → Q (some (.int z)) h) : Cl d 268 [.ref q0, .int m1, .int m2] h Q := by
  obtain ⟨d, rfl⟩ : ∃ k, d = k + 1 := ⟨d - 1, by omega⟩
  have hd : 2 ≤ d := by omega
  have hT := hX12_at
  unfold FX12_at at e
  refine Cl.into (by decide) gX12_at rfl ?_
  show Rn d 268 (some .int) 0 [some (.ref q0), some (.int m1), some (.int m2)] [] h Q
  refine Rn.n hT 3 (pc' := 3) (L' := [some (.ref q0), some (.int m1), some (.int m2)]) (st' := [.int m2, .int m1, .ref q0]) rfl ?_
  obtain ⟨v_3302, e_3302, e⟩ := Option.bind_eq_some_iff.mp e
  refine Rn.call hT rfl rfl rfl (Nat.le_of_ble_eq_true rfl) (rcv_v gX12_isCell (by omega) (rp_ck hR (T12_o t0))) (RX12_isCell (by omega) hR t0 p1 p2 e_3302 (fun z_3302 p_3302 => ?_))
  show Rn d _ _ 6 [some (.ref q0), some (.int m1), some (.int m2)] [.int z_3302] h Q
  by_cases c_3303 : v_3302 = 0
  · rw [if_pos c_3303] at e
    refine Rn.bt hT rfl rfl rfl (decide_eq_true ((ti_e p_3302 L32_0).mpr c_3303)) ?_
    refine Rn.n hT 1 (pc' := 24) (L' := [some (.ref q0), some (.int m1), some (.int m2)]) (st' := [.int (-2 : Int32)]) rfl ?_
    exact Rn.weak (ll_n (ll_n (ll_n ll_e))) (RX12_at_b24 hd hR L32_m2 hq e)
  · rw [if_neg c_3303] at e
    refine Rn.bf hT rfl rfl rfl (decide_eq_false (fun z => c_3303 ((ti_e p_3302 L32_0).mp z))) ?_
    refine Rn.n hT 1 (pc' := 10) (L' := [some (.ref q0), some (.int m1), some (.int m2)]) (st' := [.ref q0]) rfl ?_
    refine Rn.hp hT rfl rfl (gR_hp (rp_gR hR (T12_o t0) rfl)) ?_
    refine Rn.n hT 5 (pc' := 18) (L' := [some (.ref q0), some (.int m1), some (.int m2)]) (st' := [.int (((4 : Int32) * m2) + m1), .ref (q0 + 8)]) rfl ?_
    obtain ⟨v_3304, e_3304, e⟩ := Option.bind_eq_some_iff.mp e
    obtain ⟨z_3304, g_3304, p_3304⟩ := rp_aI hR (T12_8 t0) (T12_8l t0) (ti_add (ti_mul L32_4 p2) p1) e_3304
    refine Rn.hp hT rfl rfl (aI_hp g_3304) ?_
    refine Rn.n hT 1 (pc' := 24) (L' := [some (.ref q0), some (.int m1), some (.int m2)]) (st' := [.int z_3304]) rfl ?_
    exact Rn.weak (ll_n (ll_n (ll_n ll_e))) (RX12_at_b24 hd hR p_3304 hq e)
set_option maxRecDepth 10000 in
theorem hX12_sleeps : iv_Tb 269 tX12_sleeps := iv_tb_of (m := mX12_sleeps) rfl
set_option maxRecDepth 10000 in
theorem gX12_sleeps : PG.2 269 = some mX12_sleeps := iv_pi_of (t := tX12_sleeps) rfl (by decide)
def FX12_sleeps_b18 (N : Nat) (s : iv_M)  (xs0 : Int) : Option (Int) := (some xs0)
set_option maxRecDepth 10000 in
set_option maxHeartbeats 4000000 in
theorem RX12_sleeps_b18 {d N nc Ls : Nat} {Xs : Nat → Int32} (hd : 2 ≤ d) {h : iv_H} {s : iv_M} (hR : Rep nc Ls Xs h s)  {ms0 : Int32} {xs0 : Int} (ps0 : ms0.toInt = xs0) {r : Int} {Q : Option Value → iv_H → Prop} (hq : ∀ (z : Int32), z.toInt = r → Q (some (.int z)) h) (e : FX12_sleeps_b18 N s  xs0 = some r) : Rn d 269 (some .int) 18 [none, none] [.int ms0] h Q := by
  have hT := hX12_sleeps
  unfold FX12_sleeps_b18 at e
  obtain rfl := Option.some.inj e
  exact Rn.ret hT rfl rfl rfl (hq ms0 ps0)
def FX12_sleeps (N : Nat) (s : iv_M) (q0 : Nat) (x1 : Int) : Option (Int) := ((FX12_isPerson N s q0 x1).bind fun v_3305 => (if v_3305 = 0 then (FX12_sleeps_b18 N s (-1)) else ((rd s (q0 + 7) 6 x1).bind fun v_3307 => (FX12_sleeps_b18 N s v_3307))))
set_option maxRecDepth 10000 in
set_option maxHeartbeats 4000000 in
theorem RX12_sleeps {d N nc Ls : Nat} {Xs : Nat → Int32} (hd : 3 ≤ d) {h : iv_H} {s : iv_M} (hR : Rep nc Ls Xs h s) {q0 : Nat} (t0 : T12 nc q0) {m1 : Int32} {x1 : Int} (p1 : m1.toInt = x1) {r : Int} {Q : Option Value → iv_H → Prop} (e : FX12_sleeps N s q0 x1 = some r) (hq : ∀ (z : Int32), z.toInt = r → Q (some (.int z)) h) : Cl d 269 [.ref q0, .int m1] h Q := by
  obtain ⟨d, rfl⟩ : ∃ k, d = k + 1 := ⟨d - 1, by omega⟩
  have hd : 2 ≤ d := by omega
  have hT := hX12_sleeps
  unfold FX12_sleeps at e
  refine Cl.into (by decide) gX12_sleeps rfl ?_
  show Rn d 269 (some .int) 0 [some (.ref q0), some (.int m1)] [] h Q
  refine Rn.n hT 2 (pc' := 2) (L' := [some (.ref q0), some (.int m1)]) (st' := [.int m1, .ref q0]) rfl ?_
  obtain ⟨v_3305, e_3305, e⟩ := Option.bind_eq_some_iff.mp e
  refine Rn.call hT rfl rfl rfl (Nat.le_of_ble_eq_true rfl) (rcv_v gX12_isPerson (by omega) (rp_ck hR (T12_o t0))) (RX12_isPerson (by omega) hR t0 p1 e_3305 (fun z_3305 p_3305 => ?_))
  show Rn d _ _ 5 [some (.ref q0), some (.int m1)] [.int z_3305] h Q
  by_cases c_3306 : v_3305 = 0
  · rw [if_pos c_3306] at e
    refine Rn.bt hT rfl rfl rfl (decide_eq_true ((ti_e p_3305 L32_0).mpr c_3306)) ?_
    refine Rn.n hT 1 (pc' := 18) (L' := [some (.ref q0), some (.int m1)]) (st' := [.int (-1 : Int32)]) rfl ?_
    exact Rn.weak (ll_n (ll_n ll_e)) (RX12_sleeps_b18 hd hR L32_m1 hq e)
  · rw [if_neg c_3306] at e
    refine Rn.bf hT rfl rfl rfl (decide_eq_false (fun z => c_3306 ((ti_e p_3305 L32_0).mp z))) ?_
    refine Rn.n hT 1 (pc' := 9) (L' := [some (.ref q0), some (.int m1)]) (st' := [.ref q0]) rfl ?_
    refine Rn.hp hT rfl rfl (gR_hp (rp_gR hR (T12_o t0) rfl)) ?_
    refine Rn.n hT 1 (pc' := 13) (L' := [some (.ref q0), some (.int m1)]) (st' := [.int m1, .ref (q0 + 7)]) rfl ?_
    obtain ⟨v_3307, e_3307, e⟩ := Option.bind_eq_some_iff.mp e
    obtain ⟨z_3307, g_3307, p_3307⟩ := rp_aI hR (T12_7 t0) (T12_7l t0) p1 e_3307
    refine Rn.hp hT rfl rfl (aI_hp g_3307) ?_
    refine Rn.n hT 1 (pc' := 18) (L' := [some (.ref q0), some (.int m1)]) (st' := [.int z_3307]) rfl ?_
    exact Rn.weak (ll_n (ll_n ll_e)) (RX12_sleeps_b18 hd hR p_3307 hq e)
set_option maxRecDepth 10000 in
theorem hX12_mismatch : iv_Tb 270 tX12_mismatch := iv_tb_of (m := mX12_mismatch) rfl
set_option maxRecDepth 10000 in
theorem gX12_mismatch : PG.2 270 = some mX12_mismatch := iv_pi_of (t := tX12_mismatch) rfl (by decide)
def FX12_mismatch_b19 (N : Nat) (s : iv_M)   : Option (Int × iv_M) := (some ((-1), s))
set_option maxRecDepth 10000 in
set_option maxHeartbeats 4000000 in
theorem RX12_mismatch_b19 {d N nc Ls : Nat} {Xs : Nat → Int32} (hd : 6 ≤ d) {h : iv_H} {s : iv_M} (hR : Rep nc Ls Xs h s)   {r : Int × iv_M} {Q : Option Value → iv_H → Prop} (hq : ∀ (z : Int32) (h1 : iv_H), z.toInt = r.1 → Rep nc Ls Xs h1 r.2 → Q (some (.int z)) h1) (e : FX12_mismatch_b19 N s   = some r) : Rn d 270 (some .int) 19 [none, none, none] [] h Q := by
  have hT := hX12_mismatch
  unfold FX12_mismatch_b19 at e
  refine Rn.n hT 1 (pc' := 20) (L' := [none, none, none]) (st' := [.int (-1 : Int32)]) rfl ?_
  obtain rfl := Option.some.inj e
  exact Rn.ret hT rfl rfl rfl (hq (-1 : Int32) h L32_m1 hR)
def FX12_mismatch_b48 (N : Nat) (s : iv_M)  (xs0 : Int) : Option (Int × iv_M) := (some (xs0, s))
set_option maxRecDepth 10000 in
set_option maxHeartbeats 4000000 in
theorem RX12_mismatch_b48 {d N nc Ls : Nat} {Xs : Nat → Int32} (hd : 6 ≤ d) {h : iv_H} {s : iv_M} (hR : Rep nc Ls Xs h s)  {ms0 : Int32} {xs0 : Int} (ps0 : ms0.toInt = xs0) {r : Int × iv_M} {Q : Option Value → iv_H → Prop} (hq : ∀ (z : Int32) (h1 : iv_H), z.toInt = r.1 → Rep nc Ls Xs h1 r.2 → Q (some (.int z)) h1) (e : FX12_mismatch_b48 N s  xs0 = some r) : Rn d 270 (some .int) 48 [none, none, none] [.int ms0] h Q := by
  have hT := hX12_mismatch
  unfold FX12_mismatch_b48 at e
  obtain rfl := Option.some.inj e
  exact Rn.ret hT rfl rfl rfl (hq ms0 h ps0 hR)
def FX12_mismatch_b47 (N : Nat) (s : iv_M) (x2 : Int)  : Option (Int × iv_M) := (FX12_mismatch_b48 N s x2)
set_option maxRecDepth 10000 in
set_option maxHeartbeats 4000000 in
theorem RX12_mismatch_b47 {d N nc Ls : Nat} {Xs : Nat → Int32} (hd : 6 ≤ d) {h : iv_H} {s : iv_M} (hR : Rep nc Ls Xs h s) {m2 : Int32} {x2 : Int} (p2 : m2.toInt = x2)  {r : Int × iv_M} {Q : Option Value → iv_H → Prop} (hq : ∀ (z : Int32) (h1 : iv_H), z.toInt = r.1 → Rep nc Ls Xs h1 r.2 → Q (some (.int z)) h1) (e : FX12_mismatch_b47 N s x2  = some r) : Rn d 270 (some .int) 47 [none, none, some (.int m2)] [] h Q := by
  have hT := hX12_mismatch
  unfold FX12_mismatch_b47 at e
  refine Rn.n hT 1 (pc' := 48) (L' := [none, none, some (.int m2)]) (st' := [.int m2]) rfl ?_
  exact Rn.weak (ll_n (ll_n (ll_n ll_e))) (RX12_mismatch_b48 hd hR p2 hq e)
def FX12_mismatch_b34 (N : Nat) (s : iv_M) (x1 : Int) (x2 : Int)  : Option (Int × iv_M) := (if x2 = 0 then (if x1 ≤ 0 then (FX12_mismatch_b47 N s x2) else (FX12_mismatch_b48 N s (-2))) else (FX12_mismatch_b47 N s x2))
set_option maxRecDepth 10000 in
set_option maxHeartbeats 4000000 in
theorem RX12_mismatch_b34 {d N nc Ls : Nat} {Xs : Nat → Int32} (hd : 6 ≤ d) {h : iv_H} {s : iv_M} (hR : Rep nc Ls Xs h s) {m1 : Int32} {x1 : Int} (p1 : m1.toInt = x1) {m2 : Int32} {x2 : Int} (p2 : m2.toInt = x2)  {r : Int × iv_M} {Q : Option Value → iv_H → Prop} (hq : ∀ (z : Int32) (h1 : iv_H), z.toInt = r.1 → Rep nc Ls Xs h1 r.2 → Q (some (.int z)) h1) (e : FX12_mismatch_b34 N s x1 x2  = some r) : Rn d 270 (some .int) 34 [none, some (.int m1), some (.int m2)] [] h Q := by
  have hT := hX12_mismatch
  unfold FX12_mismatch_b34 at e
  refine Rn.n hT 1 (pc' := 35) (L' := [none, some (.int m1), some (.int m2)]) (st' := [.int m2]) rfl ?_
  by_cases c_3321 : x2 = 0
  · rw [if_pos c_3321] at e
    refine Rn.bf hT rfl rfl rfl (decide_eq_false (fun z => z ((ti_e p2 L32_0).mpr c_3321))) ?_
    refine Rn.n hT 1 (pc' := 39) (L' := [none, some (.int m1), some (.int m2)]) (st' := [.int m1]) rfl ?_
    by_cases c_3322 : x1 ≤ 0
    · rw [if_pos c_3322] at e
      refine Rn.bt hT rfl rfl rfl (decide_eq_true ((ti_le p1 L32_0).mpr c_3322)) ?_
      exact Rn.weak (ll_n (ll_n (ll_s ll_e))) (RX12_mismatch_b47 hd hR p2 hq e)
    · rw [if_neg c_3322] at e
      refine Rn.bf hT rfl rfl rfl (decide_eq_false (fun z => c_3322 ((ti_le p1 L32_0).mp z))) ?_
      refine Rn.n hT 2 (pc' := 48) (L' := [none, some (.int m1), some (.int m2)]) (st' := [.int (-2 : Int32)]) rfl ?_
      exact Rn.weak (ll_n (ll_n (ll_n ll_e))) (RX12_mismatch_b48 hd hR L32_m2 hq e)
  · rw [if_neg c_3321] at e
    refine Rn.bt hT rfl rfl rfl (decide_eq_true (fun z => c_3321 ((ti_e p2 L32_0).mp z))) ?_
    exact Rn.weak (ll_n (ll_n (ll_s ll_e))) (RX12_mismatch_b47 hd hR p2 hq e)
def FX12_mismatch_b81 (N : Nat) (s : iv_M)  (xs0 : Int) : Option (Int × iv_M) := (some (xs0, s))
set_option maxRecDepth 10000 in
set_option maxHeartbeats 4000000 in
theorem RX12_mismatch_b81 {d N nc Ls : Nat} {Xs : Nat → Int32} (hd : 6 ≤ d) {h : iv_H} {s : iv_M} (hR : Rep nc Ls Xs h s)  {ms0 : Int32} {xs0 : Int} (ps0 : ms0.toInt = xs0) {r : Int × iv_M} {Q : Option Value → iv_H → Prop} (hq : ∀ (z : Int32) (h1 : iv_H), z.toInt = r.1 → Rep nc Ls Xs h1 r.2 → Q (some (.int z)) h1) (e : FX12_mismatch_b81 N s  xs0 = some r) : Rn d 270 (some .int) 81 [none, none, none] [.int ms0] h Q := by
  have hT := hX12_mismatch
  unfold FX12_mismatch_b81 at e
  obtain rfl := Option.some.inj e
  exact Rn.ret hT rfl rfl rfl (hq ms0 h ps0 hR)
def FX12_mismatch (N : Nat) (s : iv_M) (q0 : Nat) (x1 : Int) : Option (Int × iv_M) := ((FX12_isPalace N s q0).bind fun v_3308 => (if v_3308 = 0 then (FX12_mismatch_b19 N s) else ((FX12_in N s x1 0 3).bind fun v_3310 => (if v_3310 = 0 then (FX12_mismatch_b19 N s) else ((FX12_mismatches N s q0).bind fun r_3312 => (fun (v_3312 : Int) (s_3313 : iv_M) => (if x1 = 0 then (FX12_mismatch_b34 N s_3313 x1 v_3312) else (if v_3312 = 0 then (FX12_mismatch_b34 N s_3313 x1 v_3312) else (if x1 = 1 then (FX12_mismatch_b81 N s_3313 (Int.tmod (s_3313 q0 26) 4)) else (if x1 = 2 then (FX12_mismatch_b81 N s_3313 (dv32 (s_3313 q0 26) 4)) else (FX12_mismatch_b81 N s_3313 (s_3313 q0 27))))))) r_3312.1 r_3312.2)))))
set_option maxRecDepth 10000 in
set_option maxHeartbeats 4000000 in
theorem RX12_mismatch {d N nc Ls : Nat} {Xs : Nat → Int32} (hd : 7 ≤ d) {h : iv_H} {s : iv_M} (hR : Rep nc Ls Xs h s) {q0 : Nat} (t0 : T12 nc q0) {m1 : Int32} {x1 : Int} (p1 : m1.toInt = x1) {r : Int × iv_M} {Q : Option Value → iv_H → Prop} (e : FX12_mismatch N s q0 x1 = some r) (hq : ∀ (z : Int32) (h1 : iv_H), z.toInt = r.1 → Rep nc Ls Xs h1 r.2 → Q (some (.int z)) h1) : Cl d 270 [.ref q0, .int m1] h Q := by
  obtain ⟨d, rfl⟩ : ∃ k, d = k + 1 := ⟨d - 1, by omega⟩
  have hd : 6 ≤ d := by omega
  have hT := hX12_mismatch
  unfold FX12_mismatch at e
  refine Cl.into (by decide) gX12_mismatch rfl ?_
  show Rn d 270 (some .int) 0 [some (.ref q0), some (.int m1), none] [] h Q
  refine Rn.n hT 1 (pc' := 1) (L' := [some (.ref q0), some (.int m1), none]) (st' := [.ref q0]) rfl ?_
  obtain ⟨v_3308, e_3308, e⟩ := Option.bind_eq_some_iff.mp e
  refine Rn.call hT rfl rfl rfl (Nat.le_of_ble_eq_true rfl) (rcv_v gX12_isPalace (by omega) (rp_ck hR (T12_o t0))) (RX12_isPalace (by omega) hR t0 e_3308 (fun z_3308 p_3308 => ?_))
  show Rn d _ _ 4 [some (.ref q0), some (.int m1), none] [.int z_3308] h Q
  by_cases c_3309 : v_3308 = 0
  · rw [if_pos c_3309] at e
    refine Rn.bt hT rfl rfl rfl (decide_eq_true ((ti_e p_3308 L32_0).mpr c_3309)) ?_
    exact Rn.weak (ll_n (ll_n (ll_n ll_e))) (RX12_mismatch_b19 hd hR hq e)
  · rw [if_neg c_3309] at e
    refine Rn.bf hT rfl rfl rfl (decide_eq_false (fun z => c_3309 ((ti_e p_3308 L32_0).mp z))) ?_
    refine Rn.n hT 4 (pc' := 13) (L' := [some (.ref q0), some (.int m1), none]) (st' := [.long (3 : Int64), .long (0 : Int64), .long ((m1).toInt64)]) rfl ?_
    obtain ⟨v_3310, e_3310, e⟩ := Option.bind_eq_some_iff.mp e
    refine Rn.call hT rfl rfl rfl (Nat.le_of_ble_eq_true rfl) rfl (RX12_in (by omega) hR (ti_j p1) L64_0 L64_3 e_3310 (fun z_3310 p_3310 => ?_))
    show Rn d _ _ 16 [some (.ref q0), some (.int m1), none] [.int z_3310] h Q
    by_cases c_3311 : v_3310 = 0
    · rw [if_pos c_3311] at e
      refine Rn.bf hT rfl rfl rfl (decide_eq_false (fun z => z ((ti_e p_3310 L32_0).mpr c_3311))) ?_
      exact Rn.weak (ll_n (ll_n (ll_n ll_e))) (RX12_mismatch_b19 hd hR hq e)
    · rw [if_neg c_3311] at e
      refine Rn.bt hT rfl rfl rfl (decide_eq_true (fun z => c_3311 ((ti_e p_3310 L32_0).mp z))) ?_
      refine Rn.n hT 1 (pc' := 22) (L' := [some (.ref q0), some (.int m1), none]) (st' := [.ref q0]) rfl ?_
      obtain ⟨⟨v_3312, s_3313⟩, e_3312, e⟩ := Option.bind_eq_some_iff.mp e
      try dsimp only at e
      try dsimp only at e
      refine Rn.call hT rfl rfl rfl (Nat.le_of_ble_eq_true rfl) (rcv_v gX12_mismatches (by omega) (rp_ck hR (T12_o t0))) (RX12_mismatches (by omega) hR t0 e_3312 (fun z_3312 h_3313 p_3312 R_3313 => ?_))
      show Rn d _ _ 25 [some (.ref q0), some (.int m1), none] [.int z_3312] h_3313 Q
      refine Rn.n hT 2 (pc' := 27) (L' := [some (.ref q0), some (.int m1), some (.int z_3312)]) (st' := [.int m1]) rfl ?_
      by_cases c_3314 : x1 = 0
      · rw [if_pos c_3314] at e
        refine Rn.bt hT rfl rfl rfl (decide_eq_true ((ti_e p1 L32_0).mpr c_3314)) ?_
        exact Rn.weak (ll_n (ll_s (ll_s ll_e))) (RX12_mismatch_b34 hd R_3313 p1 p_3312 hq e)
      · rw [if_neg c_3314] at e
        refine Rn.bf hT rfl rfl rfl (decide_eq_false (fun z => c_3314 ((ti_e p1 L32_0).mp z))) ?_
        refine Rn.n hT 1 (pc' := 31) (L' := [some (.ref q0), some (.int m1), some (.int z_3312)]) (st' := [.int z_3312]) rfl ?_
        by_cases c_3315 : v_3312 = 0
        · rw [if_pos c_3315] at e
          refine Rn.bf hT rfl rfl rfl (decide_eq_false (fun z => z ((ti_e p_3312 L32_0).mpr c_3315))) ?_
          exact Rn.weak (ll_n (ll_s (ll_s ll_e))) (RX12_mismatch_b34 hd R_3313 p1 p_3312 hq e)
        · rw [if_neg c_3315] at e
          refine Rn.bt hT rfl rfl rfl (decide_eq_true (fun z => c_3315 ((ti_e p_3312 L32_0).mp z))) ?_
          refine Rn.n hT 2 (pc' := 51) (L' := [some (.ref q0), some (.int m1), some (.int z_3312)]) (st' := [.int (1 : Int32), .int m1]) rfl ?_
          by_cases c_3316 : x1 = 1
          · rw [if_pos c_3316] at e
            refine Rn.bf hT rfl rfl rfl (decide_eq_false (fun z => z ((ti_e p1 L32_1).mpr c_3316))) ?_
            refine Rn.n hT 1 (pc' := 55) (L' := [some (.ref q0), some (.int m1), some (.int z_3312)]) (st' := [.ref q0]) rfl ?_
            obtain ⟨z_3320, g_3320, p_3320⟩ : ∃ z : Int32, gI h_3313 12 26 q0 = some z ∧ z.toInt = s_3313 q0 26 := rp_gI (k := 26) R_3313 (T12_o t0) rfl
            refine Rn.hp hT rfl rfl (gI_hp g_3320) ?_
            refine Rn.n hT 3 (pc' := 81) (L' := [some (.ref q0), some (.int m1), some (.int z_3312)]) (st' := [.int (z_3320 - z_3320 / (4 : Int32) * (4 : Int32))]) rfl ?_
            exact Rn.weak (ll_n (ll_n (ll_n ll_e))) (RX12_mismatch_b81 hd R_3313 (ti_rem p_3320 L32_4) hq e)
          · rw [if_neg c_3316] at e
            refine Rn.bt hT rfl rfl rfl (decide_eq_true (fun z => c_3316 ((ti_e p1 L32_1).mp z))) ?_
            refine Rn.n hT 2 (pc' := 65) (L' := [some (.ref q0), some (.int m1), some (.int z_3312)]) (st' := [.int (2 : Int32), .int m1]) rfl ?_
            by_cases c_3317 : x1 = 2
            · rw [if_pos c_3317] at e
              refine Rn.bf hT rfl rfl rfl (decide_eq_false (fun z => z ((ti_e p1 L32_2).mpr c_3317))) ?_
              refine Rn.n hT 1 (pc' := 69) (L' := [some (.ref q0), some (.int m1), some (.int z_3312)]) (st' := [.ref q0]) rfl ?_
              obtain ⟨z_3319, g_3319, p_3319⟩ : ∃ z : Int32, gI h_3313 12 26 q0 = some z ∧ z.toInt = s_3313 q0 26 := rp_gI (k := 26) R_3313 (T12_o t0) rfl
              refine Rn.hp hT rfl rfl (gI_hp g_3319) ?_
              refine Rn.n hT 3 (pc' := 81) (L' := [some (.ref q0), some (.int m1), some (.int z_3312)]) (st' := [.int (z_3319 / (4 : Int32))]) rfl ?_
              exact Rn.weak (ll_n (ll_n (ll_n ll_e))) (RX12_mismatch_b81 hd R_3313 (ti_div p_3319 L32_4) hq e)
            · rw [if_neg c_3317] at e
              refine Rn.bt hT rfl rfl rfl (decide_eq_true (fun z => c_3317 ((ti_e p1 L32_2).mp z))) ?_
              refine Rn.n hT 1 (pc' := 78) (L' := [some (.ref q0), some (.int m1), some (.int z_3312)]) (st' := [.ref q0]) rfl ?_
              obtain ⟨z_3318, g_3318, p_3318⟩ : ∃ z : Int32, gI h_3313 12 27 q0 = some z ∧ z.toInt = s_3313 q0 27 := rp_gI (k := 27) R_3313 (T12_o t0) rfl
              refine Rn.hp hT rfl rfl (gI_hp g_3318) ?_
              exact Rn.weak (ll_n (ll_n (ll_n ll_e))) (RX12_mismatch_b81 hd R_3313 p_3318 hq e)
set_option maxRecDepth 10000 in
theorem hX12_can : iv_Tb 271 tX12_can := iv_tb_of (m := mX12_can) rfl
set_option maxRecDepth 10000 in
theorem gX12_can : PG.2 271 = some mX12_can := iv_pi_of (t := tX12_can) rfl (by decide)
def FX12_can_b15 (N : Nat) (s : iv_M)  (xs0 : Int) : Option (Int × iv_M) := (some (xs0, s))
set_option maxRecDepth 10000 in
set_option maxHeartbeats 4000000 in
theorem RX12_can_b15 {d N nc Ls : Nat} {Xs : Nat → Int32} (hd : 9 ≤ d) {h : iv_H} {s : iv_M} (hR : Rep nc Ls Xs h s)  {ms0 : Int32} {xs0 : Int} (ps0 : ms0.toInt = xs0) {r : Int × iv_M} {Q : Option Value → iv_H → Prop} (hq : ∀ (z : Int32) (h1 : iv_H), z.toInt = r.1 → Rep nc Ls Xs h1 r.2 → Q (some (.int z)) h1) (e : FX12_can_b15 N s  xs0 = some r) : Rn d 271 (some .int) 15 [none] [.int ms0] h Q := by
  have hT := hX12_can
  unfold FX12_can_b15 at e
  obtain rfl := Option.some.inj e
  exact Rn.ret hT rfl rfl rfl (hq ms0 h ps0 hR)
def FX12_can (N : Nat) (s : iv_M) (q0 : Nat) : Option (Int × iv_M) := ((FX12_isPalace N s q0).bind fun v_3323 => (if v_3323 = 0 then (FX12_can_b15 N s (-1)) else ((FX12_canNow N s q0).bind fun r_3325 => (fun (v_3325 : Int) (s_3326 : iv_M) => (FX12_can_b15 N s_3326 v_3325)) r_3325.1 r_3325.2)))
set_option maxRecDepth 10000 in
set_option maxHeartbeats 4000000 in
theorem RX12_can {d N nc Ls : Nat} {Xs : Nat → Int32} (hd : 10 ≤ d) {h : iv_H} {s : iv_M} (hR : Rep nc Ls Xs h s) {q0 : Nat} (t0 : T12 nc q0) {r : Int × iv_M} {Q : Option Value → iv_H → Prop} (e : FX12_can N s q0 = some r) (hq : ∀ (z : Int32) (h1 : iv_H), z.toInt = r.1 → Rep nc Ls Xs h1 r.2 → Q (some (.int z)) h1) : Cl d 271 [.ref q0] h Q := by
  obtain ⟨d, rfl⟩ : ∃ k, d = k + 1 := ⟨d - 1, by omega⟩
  have hd : 9 ≤ d := by omega
  have hT := hX12_can
  unfold FX12_can at e
  refine Cl.into (by decide) gX12_can rfl ?_
  show Rn d 271 (some .int) 0 [some (.ref q0)] [] h Q
  refine Rn.n hT 1 (pc' := 1) (L' := [some (.ref q0)]) (st' := [.ref q0]) rfl ?_
  obtain ⟨v_3323, e_3323, e⟩ := Option.bind_eq_some_iff.mp e
  refine Rn.call hT rfl rfl rfl (Nat.le_of_ble_eq_true rfl) (rcv_v gX12_isPalace (by omega) (rp_ck hR (T12_o t0))) (RX12_isPalace (by omega) hR t0 e_3323 (fun z_3323 p_3323 => ?_))
  show Rn d _ _ 4 [some (.ref q0)] [.int z_3323] h Q
  by_cases c_3324 : v_3323 = 0
  · rw [if_pos c_3324] at e
    refine Rn.bt hT rfl rfl rfl (decide_eq_true ((ti_e p_3323 L32_0).mpr c_3324)) ?_
    refine Rn.n hT 1 (pc' := 15) (L' := [some (.ref q0)]) (st' := [.int (-1 : Int32)]) rfl ?_
    exact Rn.weak (ll_n ll_e) (RX12_can_b15 hd hR L32_m1 hq e)
  · rw [if_neg c_3324] at e
    refine Rn.bf hT rfl rfl rfl (decide_eq_false (fun z => c_3324 ((ti_e p_3323 L32_0).mp z))) ?_
    refine Rn.n hT 1 (pc' := 8) (L' := [some (.ref q0)]) (st' := [.ref q0]) rfl ?_
    obtain ⟨⟨v_3325, s_3326⟩, e_3325, e⟩ := Option.bind_eq_some_iff.mp e
    try dsimp only at e
    try dsimp only at e
    refine Rn.call hT rfl rfl rfl (Nat.le_of_ble_eq_true rfl) (rcv_v gX12_canNow (by omega) (rp_ck hR (T12_o t0))) (RX12_canNow (by omega) hR t0 e_3325 (fun z_3325 h_3326 p_3325 R_3326 => ?_))
    show Rn d _ _ 11 [some (.ref q0)] [.int z_3325] h_3326 Q
    refine Rn.n hT 1 (pc' := 15) (L' := [some (.ref q0)]) (st' := [.int z_3325]) rfl ?_
    exact Rn.weak (ll_n ll_e) (RX12_can_b15 hd R_3326 p_3325 hq e)
set_option maxRecDepth 10000 in
theorem hX12_choice : iv_Tb 272 tX12_choice := iv_tb_of (m := mX12_choice) rfl
set_option maxRecDepth 10000 in
theorem gX12_choice : PG.2 272 = some mX12_choice := iv_pi_of (t := tX12_choice) rfl (by decide)
def FX12_choice_b23 (N : Nat) (s : iv_M)   : Option (Int × iv_M) := (some ((-1), s))
set_option maxRecDepth 10000 in
set_option maxHeartbeats 4000000 in
theorem RX12_choice_b23 {d N nc Ls : Nat} {Xs : Nat → Int32} (hd : 9 ≤ d) {h : iv_H} {s : iv_M} (hR : Rep nc Ls Xs h s)   {r : Int × iv_M} {Q : Option Value → iv_H → Prop} (hq : ∀ (z : Int32) (h1 : iv_H), z.toInt = r.1 → Rep nc Ls Xs h1 r.2 → Q (some (.int z)) h1) (e : FX12_choice_b23 N s   = some r) : Rn d 272 (some .int) 23 [none, none, none, none] [] h Q := by
  have hT := hX12_choice
  unfold FX12_choice_b23 at e
  refine Rn.n hT 1 (pc' := 24) (L' := [none, none, none, none]) (st' := [.int (-1 : Int32)]) rfl ?_
  obtain rfl := Option.some.inj e
  exact Rn.ret hT rfl rfl rfl (hq (-1 : Int32) h L32_m1 hR)
def FX12_choice_b55 (N : Nat) (s : iv_M)  (xs0 : Int) : Option (Int × iv_M) := (some (xs0, s))
set_option maxRecDepth 10000 in
set_option maxHeartbeats 4000000 in
theorem RX12_choice_b55 {d N nc Ls : Nat} {Xs : Nat → Int32} (hd : 9 ≤ d) {h : iv_H} {s : iv_M} (hR : Rep nc Ls Xs h s)  {ms0 : Int32} {xs0 : Int} (ps0 : ms0.toInt = xs0) {r : Int × iv_M} {Q : Option Value → iv_H → Prop} (hq : ∀ (z : Int32) (h1 : iv_H), z.toInt = r.1 → Rep nc Ls Xs h1 r.2 → Q (some (.int z)) h1) (e : FX12_choice_b55 N s  xs0 = some r) : Rn d 272 (some .int) 55 [none, none, none, none] [.int ms0] h Q := by
  have hT := hX12_choice
  unfold FX12_choice_b55 at e
  obtain rfl := Option.some.inj e
  exact Rn.ret hT rfl rfl rfl (hq ms0 h ps0 hR)
def FX12_choice (N : Nat) (s : iv_M) (q0 : Nat) (x1 : Int) (x2 : Int) : Option (Int × iv_M) := ((FX12_isPalace N s q0).bind fun v_3327 => (if v_3327 = 0 then (FX12_choice_b23 N s) else (if x1 < 0 then (FX12_choice_b23 N s) else ((FX12_in N s x2 0 3).bind fun v_3330 => (if v_3330 = 0 then (FX12_choice_b23 N s) else ((FX12_codeAt N s q0 x1).bind fun r_3332 => (fun (v_3332 : Int) (s_3333 : iv_M) => (if v_3332 = (-1) then (some ((-1), s_3333)) else (if x2 = 3 then (FX12_choice_b55 N s_3333 (s_3333 q0 48)) else ((FX12_part N s_3333 v_3332 x2).bind fun v_3336 => (FX12_choice_b55 N s_3333 v_3336))))) r_3332.1 r_3332.2))))))
set_option maxRecDepth 10000 in
set_option maxHeartbeats 4000000 in
theorem RX12_choice {d N nc Ls : Nat} {Xs : Nat → Int32} (hd : 10 ≤ d) {h : iv_H} {s : iv_M} (hR : Rep nc Ls Xs h s) {q0 : Nat} (t0 : T12 nc q0) {m1 : Int32} {x1 : Int} (p1 : m1.toInt = x1) {m2 : Int32} {x2 : Int} (p2 : m2.toInt = x2) {r : Int × iv_M} {Q : Option Value → iv_H → Prop} (e : FX12_choice N s q0 x1 x2 = some r) (hq : ∀ (z : Int32) (h1 : iv_H), z.toInt = r.1 → Rep nc Ls Xs h1 r.2 → Q (some (.int z)) h1) : Cl d 272 [.ref q0, .int m1, .int m2] h Q := by
  obtain ⟨d, rfl⟩ : ∃ k, d = k + 1 := ⟨d - 1, by omega⟩
  have hd : 9 ≤ d := by omega
  have hT := hX12_choice
  unfold FX12_choice at e
  refine Cl.into (by decide) gX12_choice rfl ?_
  show Rn d 272 (some .int) 0 [some (.ref q0), some (.int m1), some (.int m2), none] [] h Q
  refine Rn.n hT 1 (pc' := 1) (L' := [some (.ref q0), some (.int m1), some (.int m2), none]) (st' := [.ref q0]) rfl ?_
  obtain ⟨v_3327, e_3327, e⟩ := Option.bind_eq_some_iff.mp e
  refine Rn.call hT rfl rfl rfl (Nat.le_of_ble_eq_true rfl) (rcv_v gX12_isPalace (by omega) (rp_ck hR (T12_o t0))) (RX12_isPalace (by omega) hR t0 e_3327 (fun z_3327 p_3327 => ?_))
  show Rn d _ _ 4 [some (.ref q0), some (.int m1), some (.int m2), none] [.int z_3327] h Q
  by_cases c_3328 : v_3327 = 0
  · rw [if_pos c_3328] at e
    refine Rn.bt hT rfl rfl rfl (decide_eq_true ((ti_e p_3327 L32_0).mpr c_3328)) ?_
    exact Rn.weak (ll_n (ll_n (ll_n (ll_n ll_e)))) (RX12_choice_b23 hd hR hq e)
  · rw [if_neg c_3328] at e
    refine Rn.bf hT rfl rfl rfl (decide_eq_false (fun z => c_3328 ((ti_e p_3327 L32_0).mp z))) ?_
    refine Rn.n hT 1 (pc' := 8) (L' := [some (.ref q0), some (.int m1), some (.int m2), none]) (st' := [.int m1]) rfl ?_
    by_cases c_3329 : x1 < 0
    · rw [if_pos c_3329] at e
      refine Rn.bt hT rfl rfl rfl (decide_eq_true ((ti_l p1 L32_0).mpr c_3329)) ?_
      exact Rn.weak (ll_n (ll_n (ll_n (ll_n ll_e)))) (RX12_choice_b23 hd hR hq e)
    · rw [if_neg c_3329] at e
      refine Rn.bf hT rfl rfl rfl (decide_eq_false (fun z => c_3329 ((ti_l p1 L32_0).mp z))) ?_
      refine Rn.n hT 4 (pc' := 17) (L' := [some (.ref q0), some (.int m1), some (.int m2), none]) (st' := [.long (3 : Int64), .long (0 : Int64), .long ((m2).toInt64)]) rfl ?_
      obtain ⟨v_3330, e_3330, e⟩ := Option.bind_eq_some_iff.mp e
      refine Rn.call hT rfl rfl rfl (Nat.le_of_ble_eq_true rfl) rfl (RX12_in (by omega) hR (ti_j p2) L64_0 L64_3 e_3330 (fun z_3330 p_3330 => ?_))
      show Rn d _ _ 20 [some (.ref q0), some (.int m1), some (.int m2), none] [.int z_3330] h Q
      by_cases c_3331 : v_3330 = 0
      · rw [if_pos c_3331] at e
        refine Rn.bf hT rfl rfl rfl (decide_eq_false (fun z => z ((ti_e p_3330 L32_0).mpr c_3331))) ?_
        exact Rn.weak (ll_n (ll_n (ll_n (ll_n ll_e)))) (RX12_choice_b23 hd hR hq e)
      · rw [if_neg c_3331] at e
        refine Rn.bt hT rfl rfl rfl (decide_eq_true (fun z => c_3331 ((ti_e p_3330 L32_0).mp z))) ?_
        refine Rn.n hT 2 (pc' := 27) (L' := [some (.ref q0), some (.int m1), some (.int m2), none]) (st' := [.int m1, .ref q0]) rfl ?_
        obtain ⟨⟨v_3332, s_3333⟩, e_3332, e⟩ := Option.bind_eq_some_iff.mp e
        try dsimp only at e
        try dsimp only at e
        refine Rn.call hT rfl rfl rfl (Nat.le_of_ble_eq_true rfl) (rcv_v gX12_codeAt (by omega) (rp_ck hR (T12_o t0))) (RX12_codeAt (by omega) hR t0 p1 e_3332 (fun z_3332 h_3333 p_3332 R_3333 => ?_))
        show Rn d _ _ 30 [some (.ref q0), some (.int m1), some (.int m2), none] [.int z_3332] h_3333 Q
        refine Rn.n hT 3 (pc' := 33) (L' := [some (.ref q0), some (.int m1), some (.int m2), some (.int z_3332)]) (st' := [.int (-1 : Int32), .int z_3332]) rfl ?_
        by_cases c_3334 : v_3332 = (-1)
        · rw [if_pos c_3334] at e
          refine Rn.bf hT rfl rfl rfl (decide_eq_false (fun z => z ((ti_e p_3332 L32_m1).mpr c_3334))) ?_
          refine Rn.n hT 1 (pc' := 37) (L' := [some (.ref q0), some (.int m1), some (.int m2), some (.int z_3332)]) (st' := [.int (-1 : Int32)]) rfl ?_
          obtain rfl := Option.some.inj e
          exact Rn.ret hT rfl rfl rfl (hq (-1 : Int32) h_3333 L32_m1 R_3333)
        · rw [if_neg c_3334] at e
          refine Rn.bt hT rfl rfl rfl (decide_eq_true (fun z => c_3334 ((ti_e p_3332 L32_m1).mp z))) ?_
          refine Rn.n hT 2 (pc' := 40) (L' := [some (.ref q0), some (.int m1), some (.int m2), some (.int z_3332)]) (st' := [.int (3 : Int32), .int m2]) rfl ?_
          by_cases c_3335 : x2 = 3
          · rw [if_pos c_3335] at e
            refine Rn.bf hT rfl rfl rfl (decide_eq_false (fun z => z ((ti_e p2 L32_3).mpr c_3335))) ?_
            refine Rn.n hT 1 (pc' := 44) (L' := [some (.ref q0), some (.int m1), some (.int m2), some (.int z_3332)]) (st' := [.ref q0]) rfl ?_
            obtain ⟨z_3337, g_3337, p_3337⟩ : ∃ z : Int32, gI h_3333 12 48 q0 = some z ∧ z.toInt = s_3333 q0 48 := rp_gI (k := 48) R_3333 (T12_o t0) rfl
            refine Rn.hp hT rfl rfl (gI_hp g_3337) ?_
            refine Rn.n hT 1 (pc' := 55) (L' := [some (.ref q0), some (.int m1), some (.int m2), some (.int z_3332)]) (st' := [.int z_3337]) rfl ?_
            exact Rn.weak (ll_n (ll_n (ll_n (ll_n ll_e)))) (RX12_choice_b55 hd R_3333 p_3337 hq e)
          · rw [if_neg c_3335] at e
            refine Rn.bt hT rfl rfl rfl (decide_eq_true (fun z => c_3335 ((ti_e p2 L32_3).mp z))) ?_
            refine Rn.n hT 2 (pc' := 52) (L' := [some (.ref q0), some (.int m1), some (.int m2), some (.int z_3332)]) (st' := [.int m2, .int z_3332]) rfl ?_
            obtain ⟨v_3336, e_3336, e⟩ := Option.bind_eq_some_iff.mp e
            refine Rn.call hT rfl rfl rfl (Nat.le_of_ble_eq_true rfl) rfl (RX12_part (by omega) R_3333 p_3332 p2 e_3336 (fun z_3336 p_3336 => ?_))
            show Rn d _ _ 55 [some (.ref q0), some (.int m1), some (.int m2), some (.int z_3332)] [.int z_3336] h_3333 Q
            exact Rn.weak (ll_n (ll_n (ll_n (ll_n ll_e)))) (RX12_choice_b55 hd R_3333 p_3336 hq e)
set_option maxRecDepth 10000 in
theorem hX12_brick : iv_Tb 273 tX12_brick := iv_tb_of (m := mX12_brick) rfl
set_option maxRecDepth 10000 in
theorem gX12_brick : PG.2 273 = some mX12_brick := iv_pi_of (t := tX12_brick) rfl (by decide)
def FX12_brick_b42 (N : Nat) (s : iv_M)   : Option (Int × iv_M) := (some ((-2), s))
set_option maxRecDepth 10000 in
set_option maxHeartbeats 4000000 in
theorem RX12_brick_b42 {d N nc Ls : Nat} {Xs : Nat → Int32} (hd : 2 ≤ d) {h : iv_H} {s : iv_M} (hR : Rep nc Ls Xs h s)   {r : Int × iv_M} {Q : Option Value → iv_H → Prop} (hq : ∀ (z : Int32) (h1 : iv_H), z.toInt = r.1 → Rep nc Ls Xs h1 r.2 → Q (some (.int z)) h1) (e : FX12_brick_b42 N s   = some r) : Rn d 273 (some .int) 42 [none, none, none, none, none] [] h Q := by
  have hT := hX12_brick
  unfold FX12_brick_b42 at e
  refine Rn.n hT 1 (pc' := 44) (L' := [none, none, none, none, none]) (st' := [.int (-2 : Int32)]) rfl ?_
  obtain rfl := Option.some.inj e
  exact Rn.ret hT rfl rfl rfl (hq (-2 : Int32) h L32_m2 hR)
def FX12_brick (N : Nat) (s : iv_M) (q0 : Nat) (x1 : Int) (x2 : Int) (x3 : Int) : Option (Int × iv_M) := ((FX12_isRoom N s q0 x1).bind fun v_3338 => (if v_3338 = 0 then (FX12_brick_b42 N s) else ((FX12_in N s x2 0 3).bind fun v_3340 => (if v_3340 = 0 then (FX12_brick_b42 N s) else ((FX12_in N s x3 0 6).bind fun v_3342 => (if v_3342 = 0 then (FX12_brick_b42 N s) else ((FX12_sideOf N s q0 x1 x2).bind fun v_3344 => (if v_3344 = x3 then (FX12_brick_b42 N s) else ((FX12_sideOf N s q0 x1 x2).bind fun v_3346 => ((FX12_spotOf N s q0 x1 x2).bind fun v_3347 => ((wr s (q0 + 2) 48 v_3347 x3).bind fun s_3348 => ((wr s_3348 (q0 + 1) 14 7 0).bind fun s_3350 => (some (v_3346, s_3350))))))))))))))
set_option maxRecDepth 10000 in
set_option maxHeartbeats 4000000 in
theorem RX12_brick {d N nc Ls : Nat} {Xs : Nat → Int32} (hd : 3 ≤ d) {h : iv_H} {s : iv_M} (hR : Rep nc Ls Xs h s) {q0 : Nat} (t0 : T12 nc q0) {m1 : Int32} {x1 : Int} (p1 : m1.toInt = x1) {m2 : Int32} {x2 : Int} (p2 : m2.toInt = x2) {m3 : Int32} {x3 : Int} (p3 : m3.toInt = x3) {r : Int × iv_M} {Q : Option Value → iv_H → Prop} (e : FX12_brick N s q0 x1 x2 x3 = some r) (hq : ∀ (z : Int32) (h1 : iv_H), z.toInt = r.1 → Rep nc Ls Xs h1 r.2 → Q (some (.int z)) h1) : Cl d 273 [.ref q0, .int m1, .int m2, .int m3] h Q := by
  obtain ⟨d, rfl⟩ : ∃ k, d = k + 1 := ⟨d - 1, by omega⟩
  have hd : 2 ≤ d := by omega
  have hT := hX12_brick
  unfold FX12_brick at e
  refine Cl.into (by decide) gX12_brick rfl ?_
  show Rn d 273 (some .int) 0 [some (.ref q0), some (.int m1), some (.int m2), some (.int m3), none] [] h Q
  refine Rn.n hT 2 (pc' := 2) (L' := [some (.ref q0), some (.int m1), some (.int m2), some (.int m3), none]) (st' := [.int m1, .ref q0]) rfl ?_
  obtain ⟨v_3338, e_3338, e⟩ := Option.bind_eq_some_iff.mp e
  refine Rn.call hT rfl rfl rfl (Nat.le_of_ble_eq_true rfl) (rcv_v gX12_isRoom (by omega) (rp_ck hR (T12_o t0))) (RX12_isRoom (by omega) hR t0 p1 e_3338 (fun z_3338 p_3338 => ?_))
  show Rn d _ _ 5 [some (.ref q0), some (.int m1), some (.int m2), some (.int m3), none] [.int z_3338] h Q
  by_cases c_3339 : v_3338 = 0
  · rw [if_pos c_3339] at e
    refine Rn.bt hT rfl rfl rfl (decide_eq_true ((ti_e p_3338 L32_0).mpr c_3339)) ?_
    exact Rn.weak (ll_n (ll_n (ll_n (ll_n (ll_n ll_e))))) (RX12_brick_b42 hd hR hq e)
  · rw [if_neg c_3339] at e
    refine Rn.bf hT rfl rfl rfl (decide_eq_false (fun z => c_3339 ((ti_e p_3338 L32_0).mp z))) ?_
    refine Rn.n hT 4 (pc' := 14) (L' := [some (.ref q0), some (.int m1), some (.int m2), some (.int m3), none]) (st' := [.long (3 : Int64), .long (0 : Int64), .long ((m2).toInt64)]) rfl ?_
    obtain ⟨v_3340, e_3340, e⟩ := Option.bind_eq_some_iff.mp e
    refine Rn.call hT rfl rfl rfl (Nat.le_of_ble_eq_true rfl) rfl (RX12_in (by omega) hR (ti_j p2) L64_0 L64_3 e_3340 (fun z_3340 p_3340 => ?_))
    show Rn d _ _ 17 [some (.ref q0), some (.int m1), some (.int m2), some (.int m3), none] [.int z_3340] h Q
    by_cases c_3341 : v_3340 = 0
    · rw [if_pos c_3341] at e
      refine Rn.bt hT rfl rfl rfl (decide_eq_true ((ti_e p_3340 L32_0).mpr c_3341)) ?_
      exact Rn.weak (ll_n (ll_n (ll_n (ll_n (ll_n ll_e))))) (RX12_brick_b42 hd hR hq e)
    · rw [if_neg c_3341] at e
      refine Rn.bf hT rfl rfl rfl (decide_eq_false (fun z => c_3341 ((ti_e p_3340 L32_0).mp z))) ?_
      refine Rn.n hT 4 (pc' := 26) (L' := [some (.ref q0), some (.int m1), some (.int m2), some (.int m3), none]) (st' := [.long (6 : Int64), .long (0 : Int64), .long ((m3).toInt64)]) rfl ?_
      obtain ⟨v_3342, e_3342, e⟩ := Option.bind_eq_some_iff.mp e
      refine Rn.call hT rfl rfl rfl (Nat.le_of_ble_eq_true rfl) rfl (RX12_in (by omega) hR (ti_j p3) L64_0 L64_6 e_3342 (fun z_3342 p_3342 => ?_))
      show Rn d _ _ 29 [some (.ref q0), some (.int m1), some (.int m2), some (.int m3), none] [.int z_3342] h Q
      by_cases c_3343 : v_3342 = 0
      · rw [if_pos c_3343] at e
        refine Rn.bt hT rfl rfl rfl (decide_eq_true ((ti_e p_3342 L32_0).mpr c_3343)) ?_
        exact Rn.weak (ll_n (ll_n (ll_n (ll_n (ll_n ll_e))))) (RX12_brick_b42 hd hR hq e)
      · rw [if_neg c_3343] at e
        refine Rn.bf hT rfl rfl rfl (decide_eq_false (fun z => c_3343 ((ti_e p_3342 L32_0).mp z))) ?_
        refine Rn.n hT 3 (pc' := 35) (L' := [some (.ref q0), some (.int m1), some (.int m2), some (.int m3), none]) (st' := [.int m2, .int m1, .ref q0]) rfl ?_
        obtain ⟨v_3344, e_3344, e⟩ := Option.bind_eq_some_iff.mp e
        refine Rn.call hT rfl rfl rfl (Nat.le_of_ble_eq_true rfl) (rcv_v gX12_sideOf (by omega) (rp_ck hR (T12_o t0))) (RX12_sideOf (by omega) hR t0 p1 p2 e_3344 (fun z_3344 p_3344 => ?_))
        show Rn d _ _ 38 [some (.ref q0), some (.int m1), some (.int m2), some (.int m3), none] [.int z_3344] h Q
        refine Rn.n hT 1 (pc' := 39) (L' := [some (.ref q0), some (.int m1), some (.int m2), some (.int m3), none]) (st' := [.int m3, .int z_3344]) rfl ?_
        by_cases c_3345 : v_3344 = x3
        · rw [if_pos c_3345] at e
          refine Rn.bf hT rfl rfl rfl (decide_eq_false (fun z => z ((ti_e p_3344 p3).mpr c_3345))) ?_
          exact Rn.weak (ll_n (ll_n (ll_n (ll_n (ll_n ll_e))))) (RX12_brick_b42 hd hR hq e)
        · rw [if_neg c_3345] at e
          refine Rn.bt hT rfl rfl rfl (decide_eq_true (fun z => c_3345 ((ti_e p_3344 p3).mp z))) ?_
          refine Rn.n hT 3 (pc' := 48) (L' := [some (.ref q0), some (.int m1), some (.int m2), some (.int m3), none]) (st' := [.int m2, .int m1, .ref q0]) rfl ?_
          obtain ⟨v_3346, e_3346, e⟩ := Option.bind_eq_some_iff.mp e
          refine Rn.call hT rfl rfl rfl (Nat.le_of_ble_eq_true rfl) (rcv_v gX12_sideOf (by omega) (rp_ck hR (T12_o t0))) (RX12_sideOf (by omega) hR t0 p1 p2 e_3346 (fun z_3346 p_3346 => ?_))
          show Rn d _ _ 51 [some (.ref q0), some (.int m1), some (.int m2), some (.int m3), none] [.int z_3346] h Q
          refine Rn.n hT 2 (pc' := 54) (L' := [some (.ref q0), some (.int m1), some (.int m2), some (.int m3), some (.int z_3346)]) (st' := [.ref q0]) rfl ?_
          refine Rn.hp hT rfl rfl (gR_hp (rp_gR hR (T12_o t0) rfl)) ?_
          refine Rn.n hT 3 (pc' := 60) (L' := [some (.ref q0), some (.int m1), some (.int m2), some (.int m3), some (.int z_3346)]) (st' := [.int m2, .int m1, .ref q0, .ref (q0 + 2)]) rfl ?_
          obtain ⟨v_3347, e_3347, e⟩ := Option.bind_eq_some_iff.mp e
          refine Rn.call hT rfl rfl rfl (Nat.le_of_ble_eq_true rfl) (rcv_v gX12_spotOf (by omega) (rp_ck hR (T12_o t0))) (RX12_spotOf (by omega) hR t0 p1 p2 e_3347 (fun z_3347 p_3347 => ?_))
          show Rn d _ _ 63 [some (.ref q0), some (.int m1), some (.int m2), some (.int m3), some (.int z_3346)] [.int z_3347, .ref (q0 + 2)] h Q
          refine Rn.n hT 1 (pc' := 64) (L' := [some (.ref q0), some (.int m1), some (.int m2), some (.int m3), some (.int z_3346)]) (st' := [.int m3, .int z_3347, .ref (q0 + 2)]) rfl ?_
          obtain ⟨s_3348, e_3349, e⟩ := Option.bind_eq_some_iff.mp e
          obtain ⟨h_3348, g_3349, R_3348⟩ := rp_wI hR (T12_2 t0) (T12_2l t0) p_3347 p3 e_3349
          refine Rn.hp hT rfl rfl (wI_hp g_3349) ?_
          refine Rn.n hT 1 (pc' := 66) (L' := [some (.ref q0), some (.int m1), some (.int m2), some (.int m3), some (.int z_3346)]) (st' := [.ref q0]) rfl ?_
          refine Rn.hp hT rfl rfl (gR_hp (rp_gR R_3348 (T12_o t0) rfl)) ?_
          refine Rn.n hT 2 (pc' := 72) (L' := [some (.ref q0), some (.int m1), some (.int m2), some (.int m3), some (.int z_3346)]) (st' := [.int (0 : Int32), .int (7 : Int32), .ref (q0 + 1)]) rfl ?_
          obtain ⟨s_3350, e_3351, e⟩ := Option.bind_eq_some_iff.mp e
          obtain ⟨h_3350, g_3351, R_3350⟩ := rp_wI R_3348 (T12_1 t0) (T12_1l t0) L32_7 L32_0 e_3351
          refine Rn.hp hT rfl rfl (wI_hp g_3351) ?_
          refine Rn.n hT 1 (pc' := 75) (L' := [some (.ref q0), some (.int m1), some (.int m2), some (.int m3), some (.int z_3346)]) (st' := [.int z_3346]) rfl ?_
          obtain rfl := Option.some.inj e
          exact Rn.ret hT rfl rfl rfl (hq z_3346 h_3350 p_3346 R_3350)
set_option maxRecDepth 10000 in
theorem hX12_lay : iv_Tb 274 tX12_lay := iv_tb_of (m := mX12_lay) rfl
set_option maxRecDepth 10000 in
theorem gX12_lay : PG.2 274 = some mX12_lay := iv_pi_of (t := tX12_lay) rfl (by decide)
def FX12_lay_b44 (N : Nat) (s : iv_M)   : Option (Int × iv_M) := (some ((-2), s))
set_option maxRecDepth 10000 in
set_option maxHeartbeats 4000000 in
theorem RX12_lay_b44 {d N nc Ls : Nat} {Xs : Nat → Int32} (hd : 2 ≤ d) {h : iv_H} {s : iv_M} (hR : Rep nc Ls Xs h s)   {r : Int × iv_M} {Q : Option Value → iv_H → Prop} (hq : ∀ (z : Int32) (h1 : iv_H), z.toInt = r.1 → Rep nc Ls Xs h1 r.2 → Q (some (.int z)) h1) (e : FX12_lay_b44 N s   = some r) : Rn d 274 (some .int) 44 [none, none, none, none] [] h Q := by
  have hT := hX12_lay
  unfold FX12_lay_b44 at e
  refine Rn.n hT 1 (pc' := 46) (L' := [none, none, none, none]) (st' := [.int (-2 : Int32)]) rfl ?_
  obtain rfl := Option.some.inj e
  exact Rn.ret hT rfl rfl rfl (hq (-2 : Int32) h L32_m2 hR)
def FX12_lay_b32 (N : Nat) (s : iv_M) (q0 : Nat) (x1 : Int) (x2 : Int)  : Option (Int × iv_M) := ((rd s (q0 + 6) 4 (w32 (x1 - 1))).bind fun v_3359 => (if v_3359 = x2 then (FX12_lay_b44 N s) else ((rd s (q0 + 6) 4 (w32 (x1 - 1))).bind fun v_3361 => ((wr s (q0 + 6) 4 (w32 (x1 - 1)) x2).bind fun s_3362 => ((wr s_3362 (q0 + 1) 14 7 0).bind fun s_3364 => (some (v_3361, s_3364)))))))
set_option maxRecDepth 10000 in
set_option maxHeartbeats 4000000 in
theorem RX12_lay_b32 {d N nc Ls : Nat} {Xs : Nat → Int32} (hd : 2 ≤ d) {h : iv_H} {s : iv_M} (hR : Rep nc Ls Xs h s) {q0 : Nat} (t0 : T12 nc q0) {m1 : Int32} {x1 : Int} (p1 : m1.toInt = x1) {m2 : Int32} {x2 : Int} (p2 : m2.toInt = x2)  {r : Int × iv_M} {Q : Option Value → iv_H → Prop} (hq : ∀ (z : Int32) (h1 : iv_H), z.toInt = r.1 → Rep nc Ls Xs h1 r.2 → Q (some (.int z)) h1) (e : FX12_lay_b32 N s q0 x1 x2  = some r) : Rn d 274 (some .int) 32 [some (.ref q0), some (.int m1), some (.int m2), none] [] h Q := by
  have hT := hX12_lay
  unfold FX12_lay_b32 at e
  refine Rn.n hT 1 (pc' := 33) (L' := [some (.ref q0), some (.int m1), some (.int m2), none]) (st' := [.ref q0]) rfl ?_
  refine Rn.hp hT rfl rfl (gR_hp (rp_gR hR (T12_o t0) rfl)) ?_
  refine Rn.n hT 3 (pc' := 39) (L' := [some (.ref q0), some (.int m1), some (.int m2), none]) (st' := [.int (m1 - (1 : Int32)), .ref (q0 + 6)]) rfl ?_
  obtain ⟨v_3359, e_3359, e⟩ := Option.bind_eq_some_iff.mp e
  obtain ⟨z_3359, g_3359, p_3359⟩ := rp_aI hR (T12_6 t0) (T12_6l t0) (ti_sub p1 L32_1) e_3359
  refine Rn.hp hT rfl rfl (aI_hp g_3359) ?_
  refine Rn.n hT 1 (pc' := 41) (L' := [some (.ref q0), some (.int m1), some (.int m2), none]) (st' := [.int m2, .int z_3359]) rfl ?_
  by_cases c_3360 : v_3359 = x2
  · rw [if_pos c_3360] at e
    refine Rn.bf hT rfl rfl rfl (decide_eq_false (fun z => z ((ti_e p_3359 p2).mpr c_3360))) ?_
    exact Rn.weak (ll_n (ll_n (ll_n (ll_n ll_e)))) (RX12_lay_b44 hd hR hq e)
  · rw [if_neg c_3360] at e
    refine Rn.bt hT rfl rfl rfl (decide_eq_true (fun z => c_3360 ((ti_e p_3359 p2).mp z))) ?_
    refine Rn.n hT 1 (pc' := 48) (L' := [some (.ref q0), some (.int m1), some (.int m2), none]) (st' := [.ref q0]) rfl ?_
    refine Rn.hp hT rfl rfl (gR_hp (rp_gR hR (T12_o t0) rfl)) ?_
    refine Rn.n hT 3 (pc' := 54) (L' := [some (.ref q0), some (.int m1), some (.int m2), none]) (st' := [.int (m1 - (1 : Int32)), .ref (q0 + 6)]) rfl ?_
    obtain ⟨v_3361, e_3361, e⟩ := Option.bind_eq_some_iff.mp e
    obtain ⟨z_3361, g_3361, p_3361⟩ := rp_aI hR (T12_6 t0) (T12_6l t0) (ti_sub p1 L32_1) e_3361
    refine Rn.hp hT rfl rfl (aI_hp g_3361) ?_
    refine Rn.n hT 2 (pc' := 57) (L' := [some (.ref q0), some (.int m1), some (.int m2), some (.int z_3361)]) (st' := [.ref q0]) rfl ?_
    refine Rn.hp hT rfl rfl (gR_hp (rp_gR hR (T12_o t0) rfl)) ?_
    refine Rn.n hT 4 (pc' := 64) (L' := [some (.ref q0), some (.int m1), some (.int m2), some (.int z_3361)]) (st' := [.int m2, .int (m1 - (1 : Int32)), .ref (q0 + 6)]) rfl ?_
    obtain ⟨s_3362, e_3363, e⟩ := Option.bind_eq_some_iff.mp e
    obtain ⟨h_3362, g_3363, R_3362⟩ := rp_wI hR (T12_6 t0) (T12_6l t0) (ti_sub p1 L32_1) p2 e_3363
    refine Rn.hp hT rfl rfl (wI_hp g_3363) ?_
    refine Rn.n hT 1 (pc' := 66) (L' := [some (.ref q0), some (.int m1), some (.int m2), some (.int z_3361)]) (st' := [.ref q0]) rfl ?_
    refine Rn.hp hT rfl rfl (gR_hp (rp_gR R_3362 (T12_o t0) rfl)) ?_
    refine Rn.n hT 2 (pc' := 72) (L' := [some (.ref q0), some (.int m1), some (.int m2), some (.int z_3361)]) (st' := [.int (0 : Int32), .int (7 : Int32), .ref (q0 + 1)]) rfl ?_
    obtain ⟨s_3364, e_3365, e⟩ := Option.bind_eq_some_iff.mp e
    obtain ⟨h_3364, g_3365, R_3364⟩ := rp_wI R_3362 (T12_1 t0) (T12_1l t0) L32_7 L32_0 e_3365
    refine Rn.hp hT rfl rfl (wI_hp g_3365) ?_
    refine Rn.n hT 1 (pc' := 74) (L' := [some (.ref q0), some (.int m1), some (.int m2), some (.int z_3361)]) (st' := [.int z_3361]) rfl ?_
    obtain rfl := Option.some.inj e
    exact Rn.ret hT rfl rfl rfl (hq z_3361 h_3364 p_3361 R_3364)
def FX12_lay (N : Nat) (s : iv_M) (q0 : Nat) (x1 : Int) (x2 : Int) : Option (Int × iv_M) := ((FX12_isPalace N s q0).bind fun v_3352 => (if v_3352 = 0 then (FX12_lay_b44 N s) else ((FX12_in N s x1 1 4).bind fun v_3354 => (if v_3354 = 0 then (FX12_lay_b44 N s) else (if x2 = (-1) then (FX12_lay_b32 N s q0 x1 x2) else ((FX12_isRoom N s q0 x2).bind fun v_3357 => (if v_3357 = 0 then (FX12_lay_b44 N s) else (FX12_lay_b32 N s q0 x1 x2))))))))
set_option maxRecDepth 10000 in
set_option maxHeartbeats 4000000 in
theorem RX12_lay {d N nc Ls : Nat} {Xs : Nat → Int32} (hd : 3 ≤ d) {h : iv_H} {s : iv_M} (hR : Rep nc Ls Xs h s) {q0 : Nat} (t0 : T12 nc q0) {m1 : Int32} {x1 : Int} (p1 : m1.toInt = x1) {m2 : Int32} {x2 : Int} (p2 : m2.toInt = x2) {r : Int × iv_M} {Q : Option Value → iv_H → Prop} (e : FX12_lay N s q0 x1 x2 = some r) (hq : ∀ (z : Int32) (h1 : iv_H), z.toInt = r.1 → Rep nc Ls Xs h1 r.2 → Q (some (.int z)) h1) : Cl d 274 [.ref q0, .int m1, .int m2] h Q := by
  obtain ⟨d, rfl⟩ : ∃ k, d = k + 1 := ⟨d - 1, by omega⟩
  have hd : 2 ≤ d := by omega
  have hT := hX12_lay
  unfold FX12_lay at e
  refine Cl.into (by decide) gX12_lay rfl ?_
  show Rn d 274 (some .int) 0 [some (.ref q0), some (.int m1), some (.int m2), none] [] h Q
  refine Rn.n hT 1 (pc' := 1) (L' := [some (.ref q0), some (.int m1), some (.int m2), none]) (st' := [.ref q0]) rfl ?_
  obtain ⟨v_3352, e_3352, e⟩ := Option.bind_eq_some_iff.mp e
  refine Rn.call hT rfl rfl rfl (Nat.le_of_ble_eq_true rfl) (rcv_v gX12_isPalace (by omega) (rp_ck hR (T12_o t0))) (RX12_isPalace (by omega) hR t0 e_3352 (fun z_3352 p_3352 => ?_))
  show Rn d _ _ 4 [some (.ref q0), some (.int m1), some (.int m2), none] [.int z_3352] h Q
  by_cases c_3353 : v_3352 = 0
  · rw [if_pos c_3353] at e
    refine Rn.bt hT rfl rfl rfl (decide_eq_true ((ti_e p_3352 L32_0).mpr c_3353)) ?_
    exact Rn.weak (ll_n (ll_n (ll_n (ll_n ll_e)))) (RX12_lay_b44 hd hR hq e)
  · rw [if_neg c_3353] at e
    refine Rn.bf hT rfl rfl rfl (decide_eq_false (fun z => c_3353 ((ti_e p_3352 L32_0).mp z))) ?_
    refine Rn.n hT 4 (pc' := 13) (L' := [some (.ref q0), some (.int m1), some (.int m2), none]) (st' := [.long (4 : Int64), .long (1 : Int64), .long ((m1).toInt64)]) rfl ?_
    obtain ⟨v_3354, e_3354, e⟩ := Option.bind_eq_some_iff.mp e
    refine Rn.call hT rfl rfl rfl (Nat.le_of_ble_eq_true rfl) rfl (RX12_in (by omega) hR (ti_j p1) L64_1 L64_4 e_3354 (fun z_3354 p_3354 => ?_))
    show Rn d _ _ 16 [some (.ref q0), some (.int m1), some (.int m2), none] [.int z_3354] h Q
    by_cases c_3355 : v_3354 = 0
    · rw [if_pos c_3355] at e
      refine Rn.bt hT rfl rfl rfl (decide_eq_true ((ti_e p_3354 L32_0).mpr c_3355)) ?_
      exact Rn.weak (ll_n (ll_n (ll_n (ll_n ll_e)))) (RX12_lay_b44 hd hR hq e)
    · rw [if_neg c_3355] at e
      refine Rn.bf hT rfl rfl rfl (decide_eq_false (fun z => c_3355 ((ti_e p_3354 L32_0).mp z))) ?_
      refine Rn.n hT 2 (pc' := 21) (L' := [some (.ref q0), some (.int m1), some (.int m2), none]) (st' := [.int (-1 : Int32), .int m2]) rfl ?_
      by_cases c_3356 : x2 = (-1)
      · rw [if_pos c_3356] at e
        refine Rn.bt hT rfl rfl rfl (decide_eq_true ((ti_e p2 L32_m1).mpr c_3356)) ?_
        exact Rn.weak (ll_s (ll_s (ll_s (ll_n ll_e)))) (RX12_lay_b32 hd hR t0 p1 p2 hq e)
      · rw [if_neg c_3356] at e
        refine Rn.bf hT rfl rfl rfl (decide_eq_false (fun z => c_3356 ((ti_e p2 L32_m1).mp z))) ?_
        refine Rn.n hT 2 (pc' := 26) (L' := [some (.ref q0), some (.int m1), some (.int m2), none]) (st' := [.int m2, .ref q0]) rfl ?_
        obtain ⟨v_3357, e_3357, e⟩ := Option.bind_eq_some_iff.mp e
        refine Rn.call hT rfl rfl rfl (Nat.le_of_ble_eq_true rfl) (rcv_v gX12_isRoom (by omega) (rp_ck hR (T12_o t0))) (RX12_isRoom (by omega) hR t0 p2 e_3357 (fun z_3357 p_3357 => ?_))
        show Rn d _ _ 29 [some (.ref q0), some (.int m1), some (.int m2), none] [.int z_3357] h Q
        by_cases c_3358 : v_3357 = 0
        · rw [if_pos c_3358] at e
          refine Rn.bt hT rfl rfl rfl (decide_eq_true ((ti_e p_3357 L32_0).mpr c_3358)) ?_
          exact Rn.weak (ll_n (ll_n (ll_n (ll_n ll_e)))) (RX12_lay_b44 hd hR hq e)
        · rw [if_neg c_3358] at e
          refine Rn.bf hT rfl rfl rfl (decide_eq_false (fun z => c_3358 ((ti_e p_3357 L32_0).mp z))) ?_
          exact Rn.weak (ll_s (ll_s (ll_s (ll_n ll_e)))) (RX12_lay_b32 hd hR t0 p1 p2 hq e)
set_option maxRecDepth 10000 in
theorem hX12_bed : iv_Tb 275 tX12_bed := iv_tb_of (m := mX12_bed) rfl
set_option maxRecDepth 10000 in
theorem gX12_bed : PG.2 275 = some mX12_bed := iv_pi_of (t := tX12_bed) rfl (by decide)
def FX12_bed_b26 (N : Nat) (s : iv_M)   : Option (Int × iv_M) := (some ((-2), s))
set_option maxRecDepth 10000 in
set_option maxHeartbeats 4000000 in
theorem RX12_bed_b26 {d N nc Ls : Nat} {Xs : Nat → Int32} (hd : 2 ≤ d) {h : iv_H} {s : iv_M} (hR : Rep nc Ls Xs h s)   {r : Int × iv_M} {Q : Option Value → iv_H → Prop} (hq : ∀ (z : Int32) (h1 : iv_H), z.toInt = r.1 → Rep nc Ls Xs h1 r.2 → Q (some (.int z)) h1) (e : FX12_bed_b26 N s   = some r) : Rn d 275 (some .int) 26 [none, none, none, none] [] h Q := by
  have hT := hX12_bed
  unfold FX12_bed_b26 at e
  refine Rn.n hT 1 (pc' := 28) (L' := [none, none, none, none]) (st' := [.int (-2 : Int32)]) rfl ?_
  obtain rfl := Option.some.inj e
  exact Rn.ret hT rfl rfl rfl (hq (-2 : Int32) h L32_m2 hR)
def FX12_bed (N : Nat) (s : iv_M) (q0 : Nat) (x1 : Int) (x2 : Int) : Option (Int × iv_M) := ((FX12_isPerson N s q0 x1).bind fun v_3366 => (if v_3366 = 0 then (FX12_bed_b26 N s) else ((FX12_isRoom N s q0 x2).bind fun v_3368 => (if v_3368 = 0 then (FX12_bed_b26 N s) else ((rd s (q0 + 7) 6 x1).bind fun v_3370 => (if v_3370 = x2 then (FX12_bed_b26 N s) else ((rd s (q0 + 7) 6 x1).bind fun v_3372 => ((wr s (q0 + 7) 6 x1 x2).bind fun s_3373 => ((wr s_3373 (q0 + 1) 14 7 0).bind fun s_3375 => (some (v_3372, s_3375)))))))))))
set_option maxRecDepth 10000 in
set_option maxHeartbeats 4000000 in
theorem RX12_bed {d N nc Ls : Nat} {Xs : Nat → Int32} (hd : 3 ≤ d) {h : iv_H} {s : iv_M} (hR : Rep nc Ls Xs h s) {q0 : Nat} (t0 : T12 nc q0) {m1 : Int32} {x1 : Int} (p1 : m1.toInt = x1) {m2 : Int32} {x2 : Int} (p2 : m2.toInt = x2) {r : Int × iv_M} {Q : Option Value → iv_H → Prop} (e : FX12_bed N s q0 x1 x2 = some r) (hq : ∀ (z : Int32) (h1 : iv_H), z.toInt = r.1 → Rep nc Ls Xs h1 r.2 → Q (some (.int z)) h1) : Cl d 275 [.ref q0, .int m1, .int m2] h Q := by
  obtain ⟨d, rfl⟩ : ∃ k, d = k + 1 := ⟨d - 1, by omega⟩
  have hd : 2 ≤ d := by omega
  have hT := hX12_bed
  unfold FX12_bed at e
  refine Cl.into (by decide) gX12_bed rfl ?_
  show Rn d 275 (some .int) 0 [some (.ref q0), some (.int m1), some (.int m2), none] [] h Q
  refine Rn.n hT 2 (pc' := 2) (L' := [some (.ref q0), some (.int m1), some (.int m2), none]) (st' := [.int m1, .ref q0]) rfl ?_
  obtain ⟨v_3366, e_3366, e⟩ := Option.bind_eq_some_iff.mp e
  refine Rn.call hT rfl rfl rfl (Nat.le_of_ble_eq_true rfl) (rcv_v gX12_isPerson (by omega) (rp_ck hR (T12_o t0))) (RX12_isPerson (by omega) hR t0 p1 e_3366 (fun z_3366 p_3366 => ?_))
  show Rn d _ _ 5 [some (.ref q0), some (.int m1), some (.int m2), none] [.int z_3366] h Q
  by_cases c_3367 : v_3366 = 0
  · rw [if_pos c_3367] at e
    refine Rn.bt hT rfl rfl rfl (decide_eq_true ((ti_e p_3366 L32_0).mpr c_3367)) ?_
    exact Rn.weak (ll_n (ll_n (ll_n (ll_n ll_e)))) (RX12_bed_b26 hd hR hq e)
  · rw [if_neg c_3367] at e
    refine Rn.bf hT rfl rfl rfl (decide_eq_false (fun z => c_3367 ((ti_e p_3366 L32_0).mp z))) ?_
    refine Rn.n hT 2 (pc' := 10) (L' := [some (.ref q0), some (.int m1), some (.int m2), none]) (st' := [.int m2, .ref q0]) rfl ?_
    obtain ⟨v_3368, e_3368, e⟩ := Option.bind_eq_some_iff.mp e
    refine Rn.call hT rfl rfl rfl (Nat.le_of_ble_eq_true rfl) (rcv_v gX12_isRoom (by omega) (rp_ck hR (T12_o t0))) (RX12_isRoom (by omega) hR t0 p2 e_3368 (fun z_3368 p_3368 => ?_))
    show Rn d _ _ 13 [some (.ref q0), some (.int m1), some (.int m2), none] [.int z_3368] h Q
    by_cases c_3369 : v_3368 = 0
    · rw [if_pos c_3369] at e
      refine Rn.bt hT rfl rfl rfl (decide_eq_true ((ti_e p_3368 L32_0).mpr c_3369)) ?_
      exact Rn.weak (ll_n (ll_n (ll_n (ll_n ll_e)))) (RX12_bed_b26 hd hR hq e)
    · rw [if_neg c_3369] at e
      refine Rn.bf hT rfl rfl rfl (decide_eq_false (fun z => c_3369 ((ti_e p_3368 L32_0).mp z))) ?_
      refine Rn.n hT 1 (pc' := 17) (L' := [some (.ref q0), some (.int m1), some (.int m2), none]) (st' := [.ref q0]) rfl ?_
      refine Rn.hp hT rfl rfl (gR_hp (rp_gR hR (T12_o t0) rfl)) ?_
      refine Rn.n hT 1 (pc' := 21) (L' := [some (.ref q0), some (.int m1), some (.int m2), none]) (st' := [.int m1, .ref (q0 + 7)]) rfl ?_
      obtain ⟨v_3370, e_3370, e⟩ := Option.bind_eq_some_iff.mp e
      obtain ⟨z_3370, g_3370, p_3370⟩ := rp_aI hR (T12_7 t0) (T12_7l t0) p1 e_3370
      refine Rn.hp hT rfl rfl (aI_hp g_3370) ?_
      refine Rn.n hT 1 (pc' := 23) (L' := [some (.ref q0), some (.int m1), some (.int m2), none]) (st' := [.int m2, .int z_3370]) rfl ?_
      by_cases c_3371 : v_3370 = x2
      · rw [if_pos c_3371] at e
        refine Rn.bf hT rfl rfl rfl (decide_eq_false (fun z => z ((ti_e p_3370 p2).mpr c_3371))) ?_
        exact Rn.weak (ll_n (ll_n (ll_n (ll_n ll_e)))) (RX12_bed_b26 hd hR hq e)
      · rw [if_neg c_3371] at e
        refine Rn.bt hT rfl rfl rfl (decide_eq_true (fun z => c_3371 ((ti_e p_3370 p2).mp z))) ?_
        refine Rn.n hT 1 (pc' := 30) (L' := [some (.ref q0), some (.int m1), some (.int m2), none]) (st' := [.ref q0]) rfl ?_
        refine Rn.hp hT rfl rfl (gR_hp (rp_gR hR (T12_o t0) rfl)) ?_
        refine Rn.n hT 1 (pc' := 34) (L' := [some (.ref q0), some (.int m1), some (.int m2), none]) (st' := [.int m1, .ref (q0 + 7)]) rfl ?_
        obtain ⟨v_3372, e_3372, e⟩ := Option.bind_eq_some_iff.mp e
        obtain ⟨z_3372, g_3372, p_3372⟩ := rp_aI hR (T12_7 t0) (T12_7l t0) p1 e_3372
        refine Rn.hp hT rfl rfl (aI_hp g_3372) ?_
        refine Rn.n hT 2 (pc' := 37) (L' := [some (.ref q0), some (.int m1), some (.int m2), some (.int z_3372)]) (st' := [.ref q0]) rfl ?_
        refine Rn.hp hT rfl rfl (gR_hp (rp_gR hR (T12_o t0) rfl)) ?_
        refine Rn.n hT 2 (pc' := 42) (L' := [some (.ref q0), some (.int m1), some (.int m2), some (.int z_3372)]) (st' := [.int m2, .int m1, .ref (q0 + 7)]) rfl ?_
        obtain ⟨s_3373, e_3374, e⟩ := Option.bind_eq_some_iff.mp e
        obtain ⟨h_3373, g_3374, R_3373⟩ := rp_wI hR (T12_7 t0) (T12_7l t0) p1 p2 e_3374
        refine Rn.hp hT rfl rfl (wI_hp g_3374) ?_
        refine Rn.n hT 1 (pc' := 44) (L' := [some (.ref q0), some (.int m1), some (.int m2), some (.int z_3372)]) (st' := [.ref q0]) rfl ?_
        refine Rn.hp hT rfl rfl (gR_hp (rp_gR R_3373 (T12_o t0) rfl)) ?_
        refine Rn.n hT 2 (pc' := 50) (L' := [some (.ref q0), some (.int m1), some (.int m2), some (.int z_3372)]) (st' := [.int (0 : Int32), .int (7 : Int32), .ref (q0 + 1)]) rfl ?_
        obtain ⟨s_3375, e_3376, e⟩ := Option.bind_eq_some_iff.mp e
        obtain ⟨h_3375, g_3376, R_3375⟩ := rp_wI R_3373 (T12_1 t0) (T12_1l t0) L32_7 L32_0 e_3376
        refine Rn.hp hT rfl rfl (wI_hp g_3376) ?_
        refine Rn.n hT 1 (pc' := 52) (L' := [some (.ref q0), some (.int m1), some (.int m2), some (.int z_3372)]) (st' := [.int z_3372]) rfl ?_
        obtain rfl := Option.some.inj e
        exact Rn.ret hT rfl rfl rfl (hq z_3372 h_3375 p_3372 R_3375)
set_option maxRecDepth 10000 in
theorem hX12_fix : iv_Tb 276 tX12_fix := iv_tb_of (m := mX12_fix) rfl
set_option maxRecDepth 10000 in
theorem gX12_fix : PG.2 276 = some mX12_fix := iv_pi_of (t := tX12_fix) rfl (by decide)
def FX12_fix_b59 (N : Nat) (s : iv_M) (x3 : Int)  : Option (Int × iv_M) := (if x3 = 0 ∨ x3 = 1 then some (x3, s) else none)
set_option maxRecDepth 10000 in
set_option maxHeartbeats 4000000 in
theorem RX12_fix_b59 {d N nc Ls : Nat} {Xs : Nat → Int32} (hd : 2 ≤ d) {h : iv_H} {s : iv_M} (hR : Rep nc Ls Xs h s) {m3 : Int32} {x3 : Int} (p3 : m3.toInt = x3)  {r : Int × iv_M} {Q : Option Value → iv_H → Prop} (hq : ∀ (z : Int32) (h1 : iv_H), z.toInt = r.1 → Rep nc Ls Xs h1 r.2 → Q (some (.int z)) h1) (e : FX12_fix_b59 N s x3  = some r) : Rn d 276 (some .boolean) 59 [none, none, none, some (.int m3)] [] h Q := by
  have hT := hX12_fix
  unfold FX12_fix_b59 at e
  refine Rn.n hT 1 (pc' := 60) (L' := [none, none, none, some (.int m3)]) (st' := [.int m3]) rfl ?_
  by_cases c_3388 : x3 = 0 ∨ x3 = 1
  · rw [if_pos c_3388] at e
    obtain rfl := Option.some.inj e
    exact Rn.ret hT rfl rfl (if_pos (ti_b p3 c_3388)) (hq m3 h p3 hR)
  · rw [if_neg c_3388] at e
    cases e
def FX12_fix_b50 (N : Nat) (s : iv_M) (q0 : Nat) (x3 : Int) (xs0 : Int) (xs1 : Int) (qs2 : Nat) : Option (Int × iv_M) := ((wr s qs2 ((sh qs2).2 : Int) xs1 xs0).bind fun s_3384 => ((wr s_3384 (q0 + 1) 14 7 0).bind fun s_3386 => (FX12_fix_b59 N s_3386 x3)))
set_option maxRecDepth 10000 in
set_option maxHeartbeats 4000000 in
theorem RX12_fix_b50 {d N nc Ls : Nat} {Xs : Nat → Int32} (hd : 2 ≤ d) {h : iv_H} {s : iv_M} (hR : Rep nc Ls Xs h s) {q0 : Nat} (t0 : T12 nc q0) {m3 : Int32} {x3 : Int} (p3 : m3.toInt = x3) {ms0 : Int32} {xs0 : Int} (ps0 : ms0.toInt = xs0) {ms1 : Int32} {xs1 : Int} (ps1 : ms1.toInt = xs1) {qs2 : Nat} (ts2 : TA 0 nc qs2) {r : Int × iv_M} {Q : Option Value → iv_H → Prop} (hq : ∀ (z : Int32) (h1 : iv_H), z.toInt = r.1 → Rep nc Ls Xs h1 r.2 → Q (some (.int z)) h1) (e : FX12_fix_b50 N s q0 x3 xs0 xs1 qs2 = some r) : Rn d 276 (some .boolean) 50 [some (.ref q0), none, none, some (.int m3)] [.int ms0, .int ms1, .ref qs2] h Q := by
  have hT := hX12_fix
  unfold FX12_fix_b50 at e
  obtain ⟨s_3384, e_3385, e⟩ := Option.bind_eq_some_iff.mp e
  obtain ⟨h_3384, g_3385, R_3384⟩ := rp_wI hR ts2 rfl ps1 ps0 e_3385
  refine Rn.hp hT rfl rfl (wI_hp g_3385) ?_
  refine Rn.n hT 1 (pc' := 52) (L' := [some (.ref q0), none, none, some (.int m3)]) (st' := [.ref q0]) rfl ?_
  refine Rn.hp hT rfl rfl (gR_hp (rp_gR R_3384 (T12_o t0) rfl)) ?_
  refine Rn.n hT 2 (pc' := 58) (L' := [some (.ref q0), none, none, some (.int m3)]) (st' := [.int (0 : Int32), .int (7 : Int32), .ref (q0 + 1)]) rfl ?_
  obtain ⟨s_3386, e_3387, e⟩ := Option.bind_eq_some_iff.mp e
  obtain ⟨h_3386, g_3387, R_3386⟩ := rp_wI R_3384 (T12_1 t0) (T12_1l t0) L32_7 L32_0 e_3387
  refine Rn.hp hT rfl rfl (wI_hp g_3387) ?_
  exact Rn.weak (ll_n (ll_n (ll_n (ll_s ll_e)))) (RX12_fix_b59 hd R_3386 p3 hq e)
def FX12_fix_b31 (N : Nat) (s : iv_M) (q0 : Nat) (x1 : Int) (x2 : Int) (xs0 : Int) : Option (Int × iv_M) := (if xs0 = 0 then (FX12_fix_b59 N s xs0) else (if x2 = 0 then (FX12_fix_b50 N s q0 xs0 0 x1 (q0 + 5)) else (FX12_fix_b50 N s q0 xs0 1 x1 (q0 + 5))))
set_option maxRecDepth 10000 in
set_option maxHeartbeats 4000000 in
theorem RX12_fix_b31 {d N nc Ls : Nat} {Xs : Nat → Int32} (hd : 2 ≤ d) {h : iv_H} {s : iv_M} (hR : Rep nc Ls Xs h s) {q0 : Nat} (t0 : T12 nc q0) {m1 : Int32} {x1 : Int} (p1 : m1.toInt = x1) {m2 : Int32} {x2 : Int} (p2 : m2.toInt = x2) {ms0 : Int32} {xs0 : Int} (ps0 : ms0.toInt = xs0) {r : Int × iv_M} {Q : Option Value → iv_H → Prop} (hq : ∀ (z : Int32) (h1 : iv_H), z.toInt = r.1 → Rep nc Ls Xs h1 r.2 → Q (some (.int z)) h1) (e : FX12_fix_b31 N s q0 x1 x2 xs0 = some r) : Rn d 276 (some .boolean) 31 [some (.ref q0), some (.int m1), some (.int m2), none] [.int ms0] h Q := by
  have hT := hX12_fix
  unfold FX12_fix_b31 at e
  refine Rn.n hT 2 (pc' := 33) (L' := [some (.ref q0), some (.int m1), some (.int m2), some (.int ms0)]) (st' := [.int ms0]) rfl ?_
  by_cases c_3382 : xs0 = 0
  · rw [if_pos c_3382] at e
    refine Rn.bt hT rfl rfl rfl (decide_eq_true ((ti_e ps0 L32_0).mpr c_3382)) ?_
    exact Rn.weak (ll_n (ll_n (ll_n (ll_s ll_e)))) (RX12_fix_b59 hd hR ps0 hq e)
  · rw [if_neg c_3382] at e
    refine Rn.bf hT rfl rfl rfl (decide_eq_false (fun z => c_3382 ((ti_e ps0 L32_0).mp z))) ?_
    refine Rn.n hT 1 (pc' := 37) (L' := [some (.ref q0), some (.int m1), some (.int m2), some (.int ms0)]) (st' := [.ref q0]) rfl ?_
    refine Rn.hp hT rfl rfl (gR_hp (rp_gR hR (T12_o t0) rfl)) ?_
    refine Rn.n hT 2 (pc' := 42) (L' := [some (.ref q0), some (.int m1), some (.int m2), some (.int ms0)]) (st' := [.int m2, .int m1, .ref (q0 + 5)]) rfl ?_
    by_cases c_3383 : x2 = 0
    · rw [if_pos c_3383] at e
      refine Rn.bt hT rfl rfl rfl (decide_eq_true ((ti_e p2 L32_0).mpr c_3383)) ?_
      refine Rn.n hT 1 (pc' := 50) (L' := [some (.ref q0), some (.int m1), some (.int m2), some (.int ms0)]) (st' := [.int (0 : Int32), .int m1, .ref (q0 + 5)]) rfl ?_
      exact Rn.weak (ll_s (ll_n (ll_n (ll_s ll_e)))) (RX12_fix_b50 hd hR t0 ps0 L32_0 p1 (T12_5 t0) hq e)
    · rw [if_neg c_3383] at e
      refine Rn.bf hT rfl rfl rfl (decide_eq_false (fun z => c_3383 ((ti_e p2 L32_0).mp z))) ?_
      refine Rn.n hT 2 (pc' := 50) (L' := [some (.ref q0), some (.int m1), some (.int m2), some (.int ms0)]) (st' := [.int (1 : Int32), .int m1, .ref (q0 + 5)]) rfl ?_
      exact Rn.weak (ll_s (ll_n (ll_n (ll_s ll_e)))) (RX12_fix_b50 hd hR t0 ps0 L32_1 p1 (T12_5 t0) hq e)
def FX12_fix_b30 (N : Nat) (s : iv_M) (q0 : Nat) (x1 : Int) (x2 : Int)  : Option (Int × iv_M) := (FX12_fix_b31 N s q0 x1 x2 0)
set_option maxRecDepth 10000 in
set_option maxHeartbeats 4000000 in
theorem RX12_fix_b30 {d N nc Ls : Nat} {Xs : Nat → Int32} (hd : 2 ≤ d) {h : iv_H} {s : iv_M} (hR : Rep nc Ls Xs h s) {q0 : Nat} (t0 : T12 nc q0) {m1 : Int32} {x1 : Int} (p1 : m1.toInt = x1) {m2 : Int32} {x2 : Int} (p2 : m2.toInt = x2)  {r : Int × iv_M} {Q : Option Value → iv_H → Prop} (hq : ∀ (z : Int32) (h1 : iv_H), z.toInt = r.1 → Rep nc Ls Xs h1 r.2 → Q (some (.int z)) h1) (e : FX12_fix_b30 N s q0 x1 x2  = some r) : Rn d 276 (some .boolean) 30 [some (.ref q0), some (.int m1), some (.int m2), none] [] h Q := by
  have hT := hX12_fix
  unfold FX12_fix_b30 at e
  refine Rn.n hT 1 (pc' := 31) (L' := [some (.ref q0), some (.int m1), some (.int m2), none]) (st' := [.int (0 : Int32)]) rfl ?_
  exact Rn.weak (ll_s (ll_s (ll_s (ll_n ll_e)))) (RX12_fix_b31 hd hR t0 p1 p2 L32_0 hq e)
def FX12_fix_b23 (N : Nat) (s : iv_M) (q0 : Nat) (x1 : Int) (x2 : Int) (xs0 : Int) (xs1 : Int) : Option (Int × iv_M) := (if xs1 = xs0 then (FX12_fix_b31 N s q0 x1 x2 1) else (FX12_fix_b30 N s q0 x1 x2))
set_option maxRecDepth 10000 in
set_option maxHeartbeats 4000000 in
theorem RX12_fix_b23 {d N nc Ls : Nat} {Xs : Nat → Int32} (hd : 2 ≤ d) {h : iv_H} {s : iv_M} (hR : Rep nc Ls Xs h s) {q0 : Nat} (t0 : T12 nc q0) {m1 : Int32} {x1 : Int} (p1 : m1.toInt = x1) {m2 : Int32} {x2 : Int} (p2 : m2.toInt = x2) {ms0 : Int32} {xs0 : Int} (ps0 : ms0.toInt = xs0) {ms1 : Int32} {xs1 : Int} (ps1 : ms1.toInt = xs1) {r : Int × iv_M} {Q : Option Value → iv_H → Prop} (hq : ∀ (z : Int32) (h1 : iv_H), z.toInt = r.1 → Rep nc Ls Xs h1 r.2 → Q (some (.int z)) h1) (e : FX12_fix_b23 N s q0 x1 x2 xs0 xs1 = some r) : Rn d 276 (some .boolean) 23 [some (.ref q0), some (.int m1), some (.int m2), none] [.int ms0, .int ms1] h Q := by
  have hT := hX12_fix
  unfold FX12_fix_b23 at e
  by_cases c_3381 : xs1 = xs0
  · rw [if_pos c_3381] at e
    refine Rn.bf hT rfl rfl rfl (decide_eq_false (fun z => z ((ti_e ps1 ps0).mpr c_3381))) ?_
    refine Rn.n hT 2 (pc' := 31) (L' := [some (.ref q0), some (.int m1), some (.int m2), none]) (st' := [.int (1 : Int32)]) rfl ?_
    exact Rn.weak (ll_s (ll_s (ll_s (ll_n ll_e)))) (RX12_fix_b31 hd hR t0 p1 p2 L32_1 hq e)
  · rw [if_neg c_3381] at e
    refine Rn.bt hT rfl rfl rfl (decide_eq_true (fun z => c_3381 ((ti_e ps1 ps0).mp z))) ?_
    exact Rn.weak (ll_s (ll_s (ll_s (ll_n ll_e)))) (RX12_fix_b30 hd hR t0 p1 p2 hq e)
def FX12_fix (N : Nat) (s : iv_M) (q0 : Nat) (x1 : Int) (x2 : Int) : Option (Int × iv_M) := ((FX12_isRoom N s q0 x1).bind fun v_3377 => (if v_3377 = 0 then (FX12_fix_b30 N s q0 x1 x2) else ((rd s (q0 + 5) 12 x1).bind fun v_3379 => (if x2 = 0 then (FX12_fix_b23 N s q0 x1 x2 1 v_3379) else (FX12_fix_b23 N s q0 x1 x2 0 v_3379)))))
set_option maxRecDepth 10000 in
set_option maxHeartbeats 4000000 in
theorem RX12_fix {d N nc Ls : Nat} {Xs : Nat → Int32} (hd : 3 ≤ d) {h : iv_H} {s : iv_M} (hR : Rep nc Ls Xs h s) {q0 : Nat} (t0 : T12 nc q0) {m1 : Int32} {x1 : Int} (p1 : m1.toInt = x1) {m2 : Int32} {x2 : Int} (p2 : m2.toInt = x2) {r : Int × iv_M} {Q : Option Value → iv_H → Prop} (e : FX12_fix N s q0 x1 x2 = some r) (hq : ∀ (z : Int32) (h1 : iv_H), z.toInt = r.1 → Rep nc Ls Xs h1 r.2 → Q (some (.int z)) h1) : Cl d 276 [.ref q0, .int m1, .int m2] h Q := by
  obtain ⟨d, rfl⟩ : ∃ k, d = k + 1 := ⟨d - 1, by omega⟩
  have hd : 2 ≤ d := by omega
  have hT := hX12_fix
  unfold FX12_fix at e
  refine Cl.into (by decide) gX12_fix rfl ?_
  show Rn d 276 (some .boolean) 0 [some (.ref q0), some (.int m1), some (.int m2), none] [] h Q
  refine Rn.n hT 2 (pc' := 2) (L' := [some (.ref q0), some (.int m1), some (.int m2), none]) (st' := [.int m1, .ref q0]) rfl ?_
  obtain ⟨v_3377, e_3377, e⟩ := Option.bind_eq_some_iff.mp e
  refine Rn.call hT rfl rfl rfl (Nat.le_of_ble_eq_true rfl) (rcv_v gX12_isRoom (by omega) (rp_ck hR (T12_o t0))) (RX12_isRoom (by omega) hR t0 p1 e_3377 (fun z_3377 p_3377 => ?_))
  show Rn d _ _ 5 [some (.ref q0), some (.int m1), some (.int m2), none] [.int z_3377] h Q
  by_cases c_3378 : v_3377 = 0
  · rw [if_pos c_3378] at e
    refine Rn.bt hT rfl rfl rfl (decide_eq_true ((ti_e p_3377 L32_0).mpr c_3378)) ?_
    exact Rn.weak (ll_s (ll_s (ll_s (ll_n ll_e)))) (RX12_fix_b30 hd hR t0 p1 p2 hq e)
  · rw [if_neg c_3378] at e
    refine Rn.bf hT rfl rfl rfl (decide_eq_false (fun z => c_3378 ((ti_e p_3377 L32_0).mp z))) ?_
    refine Rn.n hT 1 (pc' := 9) (L' := [some (.ref q0), some (.int m1), some (.int m2), none]) (st' := [.ref q0]) rfl ?_
    refine Rn.hp hT rfl rfl (gR_hp (rp_gR hR (T12_o t0) rfl)) ?_
    refine Rn.n hT 1 (pc' := 13) (L' := [some (.ref q0), some (.int m1), some (.int m2), none]) (st' := [.int m1, .ref (q0 + 5)]) rfl ?_
    obtain ⟨v_3379, e_3379, e⟩ := Option.bind_eq_some_iff.mp e
    obtain ⟨z_3379, g_3379, p_3379⟩ := rp_aI hR (T12_5 t0) (T12_5l t0) p1 e_3379
    refine Rn.hp hT rfl rfl (aI_hp g_3379) ?_
    refine Rn.n hT 1 (pc' := 15) (L' := [some (.ref q0), some (.int m1), some (.int m2), none]) (st' := [.int m2, .int z_3379]) rfl ?_
    by_cases c_3380 : x2 = 0
    · rw [if_pos c_3380] at e
      refine Rn.bt hT rfl rfl rfl (decide_eq_true ((ti_e p2 L32_0).mpr c_3380)) ?_
      refine Rn.n hT 1 (pc' := 23) (L' := [some (.ref q0), some (.int m1), some (.int m2), none]) (st' := [.int (1 : Int32), .int z_3379]) rfl ?_
      exact Rn.weak (ll_s (ll_s (ll_s (ll_n ll_e)))) (RX12_fix_b23 hd hR t0 p1 p2 L32_1 p_3379 hq e)
    · rw [if_neg c_3380] at e
      refine Rn.bf hT rfl rfl rfl (decide_eq_false (fun z => c_3380 ((ti_e p2 L32_0).mp z))) ?_
      refine Rn.n hT 2 (pc' := 23) (L' := [some (.ref q0), some (.int m1), some (.int m2), none]) (st' := [.int (0 : Int32), .int z_3379]) rfl ?_
      exact Rn.weak (ll_s (ll_s (ll_s (ll_n ll_e)))) (RX12_fix_b23 hd hR t0 p1 p2 L32_0 p_3379 hq e)
set_option maxRecDepth 10000 in
theorem hX12_fillsFloor : iv_Tb 277 tX12_fillsFloor := iv_tb_of (m := mX12_fillsFloor) rfl
set_option maxRecDepth 10000 in
theorem gX12_fillsFloor : PG.2 277 = some mX12_fillsFloor := iv_pi_of (t := tX12_fillsFloor) rfl (by decide)
def FX12_fillsFloor_l2 (N : Nat) (q0 : Nat) (q1 : Nat) (x2 : Int) (kx : iv_M → Option (iv_M)) : Nat → iv_M → Int → Option (iv_M)
  | 0, _, _ => none
  | n + 1, s, x3 => (if 12 ≤ x3 then (kx s) else ((rd s (q0 + 3) 12 x3).bind fun v_3392 => ((wr s q1 ((sh q1).2 : Int) (w32 (x2 + (w32 (2 * x3)))) v_3392).bind fun s_3393 => ((rd s_3393 (q0 + 4) 12 x3).bind fun v_3395 => ((wr s_3393 q1 ((sh q1).2 : Int) (w32 ((w32 (x2 + (w32 (2 * x3)))) + 1)) v_3395).bind fun s_3396 => (FX12_fillsFloor_l2 N q0 q1 x2 kx n s_3396 (w32 (x3 + 1))))))))
set_option maxRecDepth 10000 in
set_option maxHeartbeats 4000000 in
theorem RX12_fillsFloor_l2 {d N nc Ls : Nat} {Xs : Nat → Int32} (hd : 0 ≤ d) {q0 : Nat} (t0 : T12 nc q0) {q1 : Nat} (t1 : TA 0 nc q1) {m2 : Int32} {x2 : Int} (p2 : m2.toInt = x2) {kx : iv_M → Option (iv_M)} {r : iv_M} {Q : Option Value → iv_H → Prop} (hk : ∀ (h : iv_H) (s : iv_M) (hR : Rep nc Ls Xs h s), kx s = some r → Rn d 277 none 42 [none, none, none, none] [] h Q) (hq : ∀ h1, Rep nc Ls Xs h1 r → Q none h1) : ∀ (n : Nat) (h : iv_H) (s : iv_M) (hR : Rep nc Ls Xs h s) (m3 : Int32) (x3 : Int) (p3 : m3.toInt = x3), FX12_fillsFloor_l2 N q0 q1 x2 kx n s x3 = some r → Rn d 277 none 2 [some (.ref q0), some (.ref q1), some (.int m2), some (.int m3)] [] h Q := by
  have hT := hX12_fillsFloor
  intro n
  induction n with
  | zero =>
    intro h s hR m3 x3 p3 e
    rw [FX12_fillsFloor_l2] at e
    cases e
  | succ n ih =>
    intro h s hR m3 x3 p3 e
    rw [FX12_fillsFloor_l2] at e
    refine Rn.n hT 2 (pc' := 5) (L' := [some (.ref q0), some (.ref q1), some (.int m2), some (.int m3)]) (st' := [.int (12 : Int32), .int m3]) rfl ?_
    by_cases c_3391 : 12 ≤ x3
    · rw [if_pos c_3391] at e
      refine Rn.bt hT rfl rfl rfl (decide_eq_true ((ti_le L32_12 p3).mpr c_3391)) ?_
      exact Rn.weak (ll_n (ll_n (ll_n (ll_n ll_e)))) (hk h s hR e)
    · rw [if_neg c_3391] at e
      refine Rn.bf hT rfl rfl rfl (decide_eq_false (fun z => c_3391 ((ti_le L32_12 p3).mp z))) ?_
      refine Rn.n hT 7 (pc' := 15) (L' := [some (.ref q0), some (.ref q1), some (.int m2), some (.int m3)]) (st' := [.ref q0, .int (m2 + ((2 : Int32) * m3)), .ref q1]) rfl ?_
      refine Rn.hp hT rfl rfl (gR_hp (rp_gR hR (T12_o t0) rfl)) ?_
      refine Rn.n hT 1 (pc' := 19) (L' := [some (.ref q0), some (.ref q1), some (.int m2), some (.int m3)]) (st' := [.int m3, .ref (q0 + 3), .int (m2 + ((2 : Int32) * m3)), .ref q1]) rfl ?_
      obtain ⟨v_3392, e_3392, e⟩ := Option.bind_eq_some_iff.mp e
      obtain ⟨z_3392, g_3392, p_3392⟩ := rp_aI hR (T12_3 t0) (T12_3l t0) p3 e_3392
      refine Rn.hp hT rfl rfl (aI_hp g_3392) ?_
      obtain ⟨s_3393, e_3394, e⟩ := Option.bind_eq_some_iff.mp e
      obtain ⟨h_3393, g_3394, R_3393⟩ := rp_wI hR t1 rfl (ti_add p2 (ti_mul L32_2 p3)) p_3392 e_3394
      refine Rn.hp hT rfl rfl (wI_hp g_3394) ?_
      refine Rn.n hT 9 (pc' := 30) (L' := [some (.ref q0), some (.ref q1), some (.int m2), some (.int m3)]) (st' := [.ref q0, .int ((m2 + ((2 : Int32) * m3)) + (1 : Int32)), .ref q1]) rfl ?_
      refine Rn.hp hT rfl rfl (gR_hp (rp_gR R_3393 (T12_o t0) rfl)) ?_
      refine Rn.n hT 1 (pc' := 34) (L' := [some (.ref q0), some (.ref q1), some (.int m2), some (.int m3)]) (st' := [.int m3, .ref (q0 + 4), .int ((m2 + ((2 : Int32) * m3)) + (1 : Int32)), .ref q1]) rfl ?_
      obtain ⟨v_3395, e_3395, e⟩ := Option.bind_eq_some_iff.mp e
      obtain ⟨z_3395, g_3395, p_3395⟩ := rp_aI R_3393 (T12_4 t0) (T12_4l t0) p3 e_3395
      refine Rn.hp hT rfl rfl (aI_hp g_3395) ?_
      obtain ⟨s_3396, e_3397, e⟩ := Option.bind_eq_some_iff.mp e
      obtain ⟨h_3396, g_3397, R_3396⟩ := rp_wI R_3393 t1 rfl (ti_add (ti_add p2 (ti_mul L32_2 p3)) L32_1) p_3395 e_3397
      refine Rn.hp hT rfl rfl (wI_hp g_3397) ?_
      refine Rn.n hT 2 (pc' := 2) (L' := [some (.ref q0), some (.ref q1), some (.int m2), some (.int (m3 + (1 : Int32)))]) (st' := []) rfl ?_
      exact Rn.weak (ll_s (ll_s (ll_s (ll_s ll_e)))) (ih h_3396 s_3396 R_3396 (m3 + (1 : Int32)) (w32 (x3 + 1)) (ti_add p3 L32_1) e)
def FX12_fillsFloor (N : Nat) (s : iv_M) (q0 : Nat) (q1 : Nat) (x2 : Int) : Option (iv_M) := (FX12_fillsFloor_l2 N q0 q1 x2 (fun (s_3389 : iv_M) => some s_3389) N s 0)
set_option maxRecDepth 10000 in
set_option maxHeartbeats 4000000 in
theorem RX12_fillsFloor {d N nc Ls : Nat} {Xs : Nat → Int32} (hd : 1 ≤ d) {h : iv_H} {s : iv_M} (hR : Rep nc Ls Xs h s) {q0 : Nat} (t0 : T12 nc q0) {q1 : Nat} (t1 : TA 0 nc q1) {m2 : Int32} {x2 : Int} (p2 : m2.toInt = x2) {r : iv_M} {Q : Option Value → iv_H → Prop} (e : FX12_fillsFloor N s q0 q1 x2 = some r) (hq : ∀ h1, Rep nc Ls Xs h1 r → Q none h1) : Cl d 277 [.ref q0, .ref q1, .int m2] h Q := by
  obtain ⟨d, rfl⟩ : ∃ k, d = k + 1 := ⟨d - 1, by omega⟩
  have hd : 0 ≤ d := by omega
  have hT := hX12_fillsFloor
  unfold FX12_fillsFloor at e
  refine Cl.into (by decide) gX12_fillsFloor rfl ?_
  show Rn d 277 none 0 [some (.ref q0), some (.ref q1), some (.int m2), none] [] h Q
  refine Rn.n hT 2 (pc' := 2) (L' := [some (.ref q0), some (.ref q1), some (.int m2), some (.int (0 : Int32))]) (st' := []) rfl ?_
  refine Rn.weak (ll_s (ll_s (ll_s (ll_s ll_e)))) (RX12_fillsFloor_l2 hd t0 t1 p2 (fun h_3389 s_3389 R_3389 e => ?_) hq N h s hR (0 : Int32) 0 L32_0 e)
  try dsimp only at e
  obtain rfl := Option.some.inj e
  exact Rn.ret hT rfl rfl rfl (hq h_3389 R_3389)
set_option maxRecDepth 10000 in
theorem hX12_laysFloor : iv_Tb 278 tX12_laysFloor := iv_tb_of (m := mX12_laysFloor) rfl
set_option maxRecDepth 10000 in
theorem gX12_laysFloor : PG.2 278 = some mX12_laysFloor := iv_pi_of (t := tX12_laysFloor) rfl (by decide)
def FX12_laysFloor_l2 (N : Nat) (q0 : Nat) (q1 : Nat) (x2 : Int) (kx : iv_M → Option (iv_M)) : Nat → iv_M → Int → Option (iv_M)
  | 0, _, _ => none
  | n + 1, s, x3 => (if 16 ≤ x3 then (kx s) else ((wr s (q0 + 8) 16 x3 (-1)).bind fun s_3403 => (FX12_laysFloor_l2 N q0 q1 x2 kx n s_3403 (w32 (x3 + 1)))))
set_option maxRecDepth 10000 in
set_option maxHeartbeats 4000000 in
theorem RX12_laysFloor_l2 {d N nc Ls : Nat} {Xs : Nat → Int32} (hd : 0 ≤ d) {q0 : Nat} (t0 : T12 nc q0) {q1 : Nat} (t1 : TA 0 nc q1) {m2 : Int32} {x2 : Int} (p2 : m2.toInt = x2) {kx : iv_M → Option (iv_M)} {r : iv_M} {Q : Option Value → iv_H → Prop} (hk : ∀ (h : iv_H) (s : iv_M) (hR : Rep nc Ls Xs h s), kx s = some r → Rn d 278 none 21 [some (.ref q0), some (.ref q1), some (.int m2), none] [] h Q) (hq : ∀ h1, Rep nc Ls Xs h1 r → Q none h1) : ∀ (n : Nat) (h : iv_H) (s : iv_M) (hR : Rep nc Ls Xs h s) (m3 : Int32) (x3 : Int) (p3 : m3.toInt = x3), FX12_laysFloor_l2 N q0 q1 x2 kx n s x3 = some r → Rn d 278 none 2 [some (.ref q0), some (.ref q1), some (.int m2), some (.int m3)] [] h Q := by
  have hT := hX12_laysFloor
  intro n
  induction n with
  | zero =>
    intro h s hR m3 x3 p3 e
    rw [FX12_laysFloor_l2] at e
    cases e
  | succ n ih =>
    intro h s hR m3 x3 p3 e
    rw [FX12_laysFloor_l2] at e
    refine Rn.n hT 2 (pc' := 5) (L' := [some (.ref q0), some (.ref q1), some (.int m2), some (.int m3)]) (st' := [.int (16 : Int32), .int m3]) rfl ?_
    by_cases c_3402 : 16 ≤ x3
    · rw [if_pos c_3402] at e
      refine Rn.bt hT rfl rfl rfl (decide_eq_true ((ti_le L32_16 p3).mpr c_3402)) ?_
      exact Rn.weak (ll_s (ll_s (ll_s (ll_n ll_e)))) (hk h s hR e)
    · rw [if_neg c_3402] at e
      refine Rn.bf hT rfl rfl rfl (decide_eq_false (fun z => c_3402 ((ti_le L32_16 p3).mp z))) ?_
      refine Rn.n hT 1 (pc' := 9) (L' := [some (.ref q0), some (.ref q1), some (.int m2), some (.int m3)]) (st' := [.ref q0]) rfl ?_
      refine Rn.hp hT rfl rfl (gR_hp (rp_gR hR (T12_o t0) rfl)) ?_
      refine Rn.n hT 2 (pc' := 14) (L' := [some (.ref q0), some (.ref q1), some (.int m2), some (.int m3)]) (st' := [.int (-1 : Int32), .int m3, .ref (q0 + 8)]) rfl ?_
      obtain ⟨s_3403, e_3404, e⟩ := Option.bind_eq_some_iff.mp e
      obtain ⟨h_3403, g_3404, R_3403⟩ := rp_wI hR (T12_8 t0) (T12_8l t0) p3 L32_m1 e_3404
      refine Rn.hp hT rfl rfl (wI_hp g_3404) ?_
      refine Rn.n hT 2 (pc' := 2) (L' := [some (.ref q0), some (.ref q1), some (.int m2), some (.int (m3 + (1 : Int32)))]) (st' := []) rfl ?_
      exact Rn.weak (ll_s (ll_s (ll_s (ll_s ll_e)))) (ih h_3403 s_3403 R_3403 (m3 + (1 : Int32)) (w32 (x3 + 1)) (ti_add p3 L32_1) e)
def FX12_laysFloor_l23 (N : Nat) (q0 : Nat) (q1 : Nat) (x2 : Int) (kx : iv_M → Option (iv_M)) : Nat → iv_M → Int → Option (iv_M)
  | 0, _, _ => none
  | n + 1, s, x3 => ((rd s (q0 + 1) 14 2).bind fun v_3405 => (if v_3405 ≤ x3 then (kx s) else ((rd s q1 ((sh q1).2 : Int) (w32 (x2 + (w32 (2 * x3))))).bind fun v_3407 => ((wr s (q0 + 3) 12 x3 v_3407).bind fun s_3408 => ((rd s_3408 q1 ((sh q1).2 : Int) (w32 ((w32 (x2 + (w32 (2 * x3)))) + 1))).bind fun v_3410 => ((wr s_3408 (q0 + 4) 12 x3 v_3410).bind fun s_3411 => ((rd s_3411 (q0 + 3) 12 x3).bind fun v_3413 => ((wr s_3411 (q0 + 8) 16 v_3413 x3).bind fun s_3414 => (FX12_laysFloor_l23 N q0 q1 x2 kx n s_3414 (w32 (x3 + 1)))))))))))
set_option maxRecDepth 10000 in
set_option maxHeartbeats 4000000 in
theorem RX12_laysFloor_l23 {d N nc Ls : Nat} {Xs : Nat → Int32} (hd : 0 ≤ d) {q0 : Nat} (t0 : T12 nc q0) {q1 : Nat} (t1 : TA 0 nc q1) {m2 : Int32} {x2 : Int} (p2 : m2.toInt = x2) {kx : iv_M → Option (iv_M)} {r : iv_M} {Q : Option Value → iv_H → Prop} (hk : ∀ (h : iv_H) (s : iv_M) (hR : Rep nc Ls Xs h s), kx s = some r → Rn d 278 none 79 [none, none, none, none] [] h Q) (hq : ∀ h1, Rep nc Ls Xs h1 r → Q none h1) : ∀ (n : Nat) (h : iv_H) (s : iv_M) (hR : Rep nc Ls Xs h s) (m3 : Int32) (x3 : Int) (p3 : m3.toInt = x3), FX12_laysFloor_l23 N q0 q1 x2 kx n s x3 = some r → Rn d 278 none 23 [some (.ref q0), some (.ref q1), some (.int m2), some (.int m3)] [] h Q := by
  have hT := hX12_laysFloor
  intro n
  induction n with
  | zero =>
    intro h s hR m3 x3 p3 e
    rw [FX12_laysFloor_l23] at e
    cases e
  | succ n ih =>
    intro h s hR m3 x3 p3 e
    rw [FX12_laysFloor_l23] at e
    refine Rn.n hT 2 (pc' := 25) (L' := [some (.ref q0), some (.ref q1), some (.int m2), some (.int m3)]) (st' := [.ref q0, .int m3]) rfl ?_
    refine Rn.hp hT rfl rfl (gR_hp (rp_gR hR (T12_o t0) rfl)) ?_
    refine Rn.n hT 1 (pc' := 29) (L' := [some (.ref q0), some (.ref q1), some (.int m2), some (.int m3)]) (st' := [.int (2 : Int32), .ref (q0 + 1), .int m3]) rfl ?_
    obtain ⟨v_3405, e_3405, e⟩ := Option.bind_eq_some_iff.mp e
    obtain ⟨z_3405, g_3405, p_3405⟩ := rp_aI hR (T12_1 t0) (T12_1l t0) L32_2 e_3405
    refine Rn.hp hT rfl rfl (aI_hp g_3405) ?_
    by_cases c_3406 : v_3405 ≤ x3
    · rw [if_pos c_3406] at e
      refine Rn.bt hT rfl rfl rfl (decide_eq_true ((ti_le p_3405 p3).mpr c_3406)) ?_
      exact Rn.weak (ll_n (ll_n (ll_n (ll_n ll_e)))) (hk h s hR e)
    · rw [if_neg c_3406] at e
      refine Rn.bf hT rfl rfl rfl (decide_eq_false (fun z => c_3406 ((ti_le p_3405 p3).mp z))) ?_
      refine Rn.n hT 1 (pc' := 34) (L' := [some (.ref q0), some (.ref q1), some (.int m2), some (.int m3)]) (st' := [.ref q0]) rfl ?_
      refine Rn.hp hT rfl rfl (gR_hp (rp_gR hR (T12_o t0) rfl)) ?_
      refine Rn.n hT 7 (pc' := 44) (L' := [some (.ref q0), some (.ref q1), some (.int m2), some (.int m3)]) (st' := [.int (m2 + ((2 : Int32) * m3)), .ref q1, .int m3, .ref (q0 + 3)]) rfl ?_
      obtain ⟨v_3407, e_3407, e⟩ := Option.bind_eq_some_iff.mp e
      obtain ⟨z_3407, g_3407, p_3407⟩ := rp_aI hR t1 rfl (ti_add p2 (ti_mul L32_2 p3)) e_3407
      refine Rn.hp hT rfl rfl (aI_hp g_3407) ?_
      obtain ⟨s_3408, e_3409, e⟩ := Option.bind_eq_some_iff.mp e
      obtain ⟨h_3408, g_3409, R_3408⟩ := rp_wI hR (T12_3 t0) (T12_3l t0) p3 p_3407 e_3409
      refine Rn.hp hT rfl rfl (wI_hp g_3409) ?_
      refine Rn.n hT 1 (pc' := 47) (L' := [some (.ref q0), some (.ref q1), some (.int m2), some (.int m3)]) (st' := [.ref q0]) rfl ?_
      refine Rn.hp hT rfl rfl (gR_hp (rp_gR R_3408 (T12_o t0) rfl)) ?_
      refine Rn.n hT 9 (pc' := 59) (L' := [some (.ref q0), some (.ref q1), some (.int m2), some (.int m3)]) (st' := [.int ((m2 + ((2 : Int32) * m3)) + (1 : Int32)), .ref q1, .int m3, .ref (q0 + 4)]) rfl ?_
      obtain ⟨v_3410, e_3410, e⟩ := Option.bind_eq_some_iff.mp e
      obtain ⟨z_3410, g_3410, p_3410⟩ := rp_aI R_3408 t1 rfl (ti_add (ti_add p2 (ti_mul L32_2 p3)) L32_1) e_3410
      refine Rn.hp hT rfl rfl (aI_hp g_3410) ?_
      obtain ⟨s_3411, e_3412, e⟩ := Option.bind_eq_some_iff.mp e
      obtain ⟨h_3411, g_3412, R_3411⟩ := rp_wI R_3408 (T12_4 t0) (T12_4l t0) p3 p_3410 e_3412
      refine Rn.hp hT rfl rfl (wI_hp g_3412) ?_
      refine Rn.n hT 1 (pc' := 62) (L' := [some (.ref q0), some (.ref q1), some (.int m2), some (.int m3)]) (st' := [.ref q0]) rfl ?_
      refine Rn.hp hT rfl rfl (gR_hp (rp_gR R_3411 (T12_o t0) rfl)) ?_
      refine Rn.n hT 1 (pc' := 66) (L' := [some (.ref q0), some (.ref q1), some (.int m2), some (.int m3)]) (st' := [.ref q0, .ref (q0 + 8)]) rfl ?_
      refine Rn.hp hT rfl rfl (gR_hp (rp_gR R_3411 (T12_o t0) rfl)) ?_
      refine Rn.n hT 1 (pc' := 70) (L' := [some (.ref q0), some (.ref q1), some (.int m2), some (.int m3)]) (st' := [.int m3, .ref (q0 + 3), .ref (q0 + 8)]) rfl ?_
      obtain ⟨v_3413, e_3413, e⟩ := Option.bind_eq_some_iff.mp e
      obtain ⟨z_3413, g_3413, p_3413⟩ := rp_aI R_3411 (T12_3 t0) (T12_3l t0) p3 e_3413
      refine Rn.hp hT rfl rfl (aI_hp g_3413) ?_
      refine Rn.n hT 1 (pc' := 72) (L' := [some (.ref q0), some (.ref q1), some (.int m2), some (.int m3)]) (st' := [.int m3, .int z_3413, .ref (q0 + 8)]) rfl ?_
      obtain ⟨s_3414, e_3415, e⟩ := Option.bind_eq_some_iff.mp e
      obtain ⟨h_3414, g_3415, R_3414⟩ := rp_wI R_3411 (T12_8 t0) (T12_8l t0) p_3413 p3 e_3415
      refine Rn.hp hT rfl rfl (wI_hp g_3415) ?_
      refine Rn.n hT 2 (pc' := 23) (L' := [some (.ref q0), some (.ref q1), some (.int m2), some (.int (m3 + (1 : Int32)))]) (st' := []) rfl ?_
      exact Rn.weak (ll_s (ll_s (ll_s (ll_s ll_e)))) (ih h_3414 s_3414 R_3414 (m3 + (1 : Int32)) (w32 (x3 + 1)) (ti_add p3 L32_1) e)
def FX12_laysFloor (N : Nat) (s : iv_M) (q0 : Nat) (q1 : Nat) (x2 : Int) : Option (iv_M) := (FX12_laysFloor_l2 N q0 q1 x2 (fun (s_3398 : iv_M) => (FX12_laysFloor_l23 N q0 q1 x2 (fun (s_3400 : iv_M) => some s_3400) N s_3398 0)) N s 0)
set_option maxRecDepth 10000 in
set_option maxHeartbeats 4000000 in
theorem RX12_laysFloor {d N nc Ls : Nat} {Xs : Nat → Int32} (hd : 1 ≤ d) {h : iv_H} {s : iv_M} (hR : Rep nc Ls Xs h s) {q0 : Nat} (t0 : T12 nc q0) {q1 : Nat} (t1 : TA 0 nc q1) {m2 : Int32} {x2 : Int} (p2 : m2.toInt = x2) {r : iv_M} {Q : Option Value → iv_H → Prop} (e : FX12_laysFloor N s q0 q1 x2 = some r) (hq : ∀ h1, Rep nc Ls Xs h1 r → Q none h1) : Cl d 278 [.ref q0, .ref q1, .int m2] h Q := by
  obtain ⟨d, rfl⟩ : ∃ k, d = k + 1 := ⟨d - 1, by omega⟩
  have hd : 0 ≤ d := by omega
  have hT := hX12_laysFloor
  unfold FX12_laysFloor at e
  refine Cl.into (by decide) gX12_laysFloor rfl ?_
  show Rn d 278 none 0 [some (.ref q0), some (.ref q1), some (.int m2), none] [] h Q
  refine Rn.n hT 2 (pc' := 2) (L' := [some (.ref q0), some (.ref q1), some (.int m2), some (.int (0 : Int32))]) (st' := []) rfl ?_
  refine Rn.weak (ll_s (ll_s (ll_s (ll_s ll_e)))) (RX12_laysFloor_l2 hd t0 t1 p2 (fun h_3398 s_3398 R_3398 e => ?_) hq N h s hR (0 : Int32) 0 L32_0 e)
  try dsimp only at e
  refine Rn.n hT 2 (pc' := 23) (L' := [some (.ref q0), some (.ref q1), some (.int m2), some (.int (0 : Int32))]) (st' := []) rfl ?_
  refine Rn.weak (ll_s (ll_s (ll_s (ll_s ll_e)))) (RX12_laysFloor_l23 hd t0 t1 p2 (fun h_3400 s_3400 R_3400 e => ?_) hq N h_3398 s_3398 R_3398 (0 : Int32) 0 L32_0 e)
  try dsimp only at e
  obtain rfl := Option.some.inj e
  exact Rn.ret hT rfl rfl rfl (hq h_3400 R_3400)
set_option maxRecDepth 10000 in
theorem hX12_keepsNight : iv_Tb 279 tX12_keepsNight := iv_tb_of (m := mX12_keepsNight) rfl
set_option maxRecDepth 10000 in
theorem gX12_keepsNight : PG.2 279 = some mX12_keepsNight := iv_pi_of (t := tX12_keepsNight) rfl (by decide)
def FX12_keepsNight_l15 (N : Nat) (q0 : Nat) (kx : iv_M → Option (iv_M)) : Nat → iv_M → Int → Option (iv_M)
  | 0, _, _ => none
  | n + 1, s, x1 => (if 480 ≤ x1 then (kx s) else ((rd s (q0 + 9) 480 x1).bind fun v_3424 => ((wr s (q0 + 9) 480 (w32 (x1 - 24)) v_3424).bind fun s_3425 => (FX12_keepsNight_l15 N q0 kx n s_3425 (w32 (x1 + 1))))))
set_option maxRecDepth 10000 in
set_option maxHeartbeats 4000000 in
theorem RX12_keepsNight_l15 {d N nc Ls : Nat} {Xs : Nat → Int32} (hd : 1 ≤ d) {q0 : Nat} (t0 : T12 nc q0) {kx : iv_M → Option (iv_M)} {r : iv_M} {Q : Option Value → iv_H → Prop} (hk : ∀ (h : iv_H) (s : iv_M) (hR : Rep nc Ls Xs h s), kx s = some r → Rn d 279 none 43 [some (.ref q0), none] [] h Q) (hq : ∀ h1, Rep nc Ls Xs h1 r → Q none h1) : ∀ (n : Nat) (h : iv_H) (s : iv_M) (hR : Rep nc Ls Xs h s) (m1 : Int32) (x1 : Int) (p1 : m1.toInt = x1), FX12_keepsNight_l15 N q0 kx n s x1 = some r → Rn d 279 none 15 [some (.ref q0), some (.int m1)] [] h Q := by
  have hT := hX12_keepsNight
  intro n
  induction n with
  | zero =>
    intro h s hR m1 x1 p1 e
    rw [FX12_keepsNight_l15] at e
    cases e
  | succ n ih =>
    intro h s hR m1 x1 p1 e
    rw [FX12_keepsNight_l15] at e
    refine Rn.n hT 2 (pc' := 19) (L' := [some (.ref q0), some (.int m1)]) (st' := [.int (480 : Int32), .int m1]) rfl ?_
    by_cases c_3423 : 480 ≤ x1
    · rw [if_pos c_3423] at e
      refine Rn.bt hT rfl rfl rfl (decide_eq_true ((ti_le L32_480 p1).mpr c_3423)) ?_
      exact Rn.weak (ll_s (ll_n ll_e)) (hk h s hR e)
    · rw [if_neg c_3423] at e
      refine Rn.bf hT rfl rfl rfl (decide_eq_false (fun z => c_3423 ((ti_le L32_480 p1).mp z))) ?_
      refine Rn.n hT 1 (pc' := 23) (L' := [some (.ref q0), some (.int m1)]) (st' := [.ref q0]) rfl ?_
      refine Rn.hp hT rfl rfl (gR_hp (rp_gR hR (T12_o t0) rfl)) ?_
      refine Rn.n hT 4 (pc' := 31) (L' := [some (.ref q0), some (.int m1)]) (st' := [.ref q0, .int (m1 - (24 : Int32)), .ref (q0 + 9)]) rfl ?_
      refine Rn.hp hT rfl rfl (gR_hp (rp_gR hR (T12_o t0) rfl)) ?_
      refine Rn.n hT 1 (pc' := 35) (L' := [some (.ref q0), some (.int m1)]) (st' := [.int m1, .ref (q0 + 9), .int (m1 - (24 : Int32)), .ref (q0 + 9)]) rfl ?_
      obtain ⟨v_3424, e_3424, e⟩ := Option.bind_eq_some_iff.mp e
      obtain ⟨z_3424, g_3424, p_3424⟩ := rp_aI hR (T12_9 t0) (T12_9l t0) p1 e_3424
      refine Rn.hp hT rfl rfl (aI_hp g_3424) ?_
      obtain ⟨s_3425, e_3426, e⟩ := Option.bind_eq_some_iff.mp e
      obtain ⟨h_3425, g_3426, R_3425⟩ := rp_wI hR (T12_9 t0) (T12_9l t0) (ti_sub p1 L32_24) p_3424 e_3426
      refine Rn.hp hT rfl rfl (wI_hp g_3426) ?_
      refine Rn.n hT 2 (pc' := 15) (L' := [some (.ref q0), some (.int (m1 + (1 : Int32)))]) (st' := []) rfl ?_
      exact Rn.weak (ll_s (ll_s ll_e)) (ih h_3425 s_3425 R_3425 (m1 + (1 : Int32)) (w32 (x1 + 1)) (ti_add p1 L32_1) e)
def FX12_keepsNight_b54 (N : Nat) (s : iv_M) (q0 : Nat)  : Option (iv_M) := ((rd s (q0 + 1) 14 7).bind fun v_3427 => ((FX12_fillsFloor N s q0 (q0 + 9) (w32 (24 * v_3427))).bind fun s_3429 => ((rd s_3429 (q0 + 1) 14 7).bind fun v_3430 => ((wr s_3429 (q0 + 1) 14 7 (w32 (v_3430 + 1))).bind fun s_3431 => ((rd s_3431 (q0 + 1) 14 6).bind fun v_3433 => ((wr s_3431 (q0 + 1) 14 6 (w32 (v_3433 + 1))).bind fun s_3434 => some s_3434))))))
set_option maxRecDepth 10000 in
set_option maxHeartbeats 4000000 in
theorem RX12_keepsNight_b54 {d N nc Ls : Nat} {Xs : Nat → Int32} (hd : 1 ≤ d) {h : iv_H} {s : iv_M} (hR : Rep nc Ls Xs h s) {q0 : Nat} (t0 : T12 nc q0)  {r : iv_M} {Q : Option Value → iv_H → Prop} (hq : ∀ h1, Rep nc Ls Xs h1 r → Q none h1) (e : FX12_keepsNight_b54 N s q0  = some r) : Rn d 279 none 54 [some (.ref q0), none] [] h Q := by
  have hT := hX12_keepsNight
  unfold FX12_keepsNight_b54 at e
  refine Rn.n hT 2 (pc' := 56) (L' := [some (.ref q0), none]) (st' := [.ref q0, .ref q0]) rfl ?_
  refine Rn.hp hT rfl rfl (gR_hp (rp_gR hR (T12_o t0) rfl)) ?_
  refine Rn.n hT 2 (pc' := 62) (L' := [some (.ref q0), none]) (st' := [.ref q0, .int (24 : Int32), .ref (q0 + 9), .ref q0]) rfl ?_
  refine Rn.hp hT rfl rfl (gR_hp (rp_gR hR (T12_o t0) rfl)) ?_
  refine Rn.n hT 1 (pc' := 67) (L' := [some (.ref q0), none]) (st' := [.int (7 : Int32), .ref (q0 + 1), .int (24 : Int32), .ref (q0 + 9), .ref q0]) rfl ?_
  obtain ⟨v_3427, e_3427, e⟩ := Option.bind_eq_some_iff.mp e
  obtain ⟨z_3427, g_3427, p_3427⟩ := rp_aI hR (T12_1 t0) (T12_1l t0) L32_7 e_3427
  refine Rn.hp hT rfl rfl (aI_hp g_3427) ?_
  refine Rn.n hT 1 (pc' := 69) (L' := [some (.ref q0), none]) (st' := [.int ((24 : Int32) * z_3427), .ref (q0 + 9), .ref q0]) rfl ?_
  obtain ⟨s_3429, e_3428, e⟩ := Option.bind_eq_some_iff.mp e
  refine Rn.call hT rfl rfl rfl (Nat.le_of_ble_eq_true rfl) (rcv_v gX12_fillsFloor (by omega) (rp_ck hR (T12_o t0))) (RX12_fillsFloor (by omega) hR t0 (T12_9 t0) (ti_mul L32_24 p_3427) e_3428 (fun h_3429 R_3429 => ?_))
  show Rn d _ _ 72 [some (.ref q0), none] [] h_3429 Q
  refine Rn.n hT 1 (pc' := 73) (L' := [some (.ref q0), none]) (st' := [.ref q0]) rfl ?_
  refine Rn.hp hT rfl rfl (gR_hp (rp_gR R_3429 (T12_o t0) rfl)) ?_
  refine Rn.n hT 2 (pc' := 79) (L' := [some (.ref q0), none]) (st' := [.int (7 : Int32), .ref (q0 + 1), .int (7 : Int32), .ref (q0 + 1)]) rfl ?_
  obtain ⟨v_3430, e_3430, e⟩ := Option.bind_eq_some_iff.mp e
  obtain ⟨z_3430, g_3430, p_3430⟩ := rp_aI R_3429 (T12_1 t0) (T12_1l t0) L32_7 e_3430
  refine Rn.hp hT rfl rfl (aI_hp g_3430) ?_
  refine Rn.n hT 2 (pc' := 82) (L' := [some (.ref q0), none]) (st' := [.int (z_3430 + (1 : Int32)), .int (7 : Int32), .ref (q0 + 1)]) rfl ?_
  obtain ⟨s_3431, e_3432, e⟩ := Option.bind_eq_some_iff.mp e
  obtain ⟨h_3431, g_3432, R_3431⟩ := rp_wI R_3429 (T12_1 t0) (T12_1l t0) L32_7 (ti_add p_3430 L32_1) e_3432
  refine Rn.hp hT rfl rfl (wI_hp g_3432) ?_
  refine Rn.n hT 1 (pc' := 84) (L' := [some (.ref q0), none]) (st' := [.ref q0]) rfl ?_
  refine Rn.hp hT rfl rfl (gR_hp (rp_gR R_3431 (T12_o t0) rfl)) ?_
  refine Rn.n hT 2 (pc' := 90) (L' := [some (.ref q0), none]) (st' := [.int (6 : Int32), .ref (q0 + 1), .int (6 : Int32), .ref (q0 + 1)]) rfl ?_
  obtain ⟨v_3433, e_3433, e⟩ := Option.bind_eq_some_iff.mp e
  obtain ⟨z_3433, g_3433, p_3433⟩ := rp_aI R_3431 (T12_1 t0) (T12_1l t0) L32_6 e_3433
  refine Rn.hp hT rfl rfl (aI_hp g_3433) ?_
  refine Rn.n hT 2 (pc' := 93) (L' := [some (.ref q0), none]) (st' := [.int (z_3433 + (1 : Int32)), .int (6 : Int32), .ref (q0 + 1)]) rfl ?_
  obtain ⟨s_3434, e_3435, e⟩ := Option.bind_eq_some_iff.mp e
  obtain ⟨h_3434, g_3435, R_3434⟩ := rp_wI R_3431 (T12_1 t0) (T12_1l t0) L32_6 (ti_add p_3433 L32_1) e_3435
  refine Rn.hp hT rfl rfl (wI_hp g_3435) ?_
  obtain rfl := Option.some.inj e
  exact Rn.ret hT rfl rfl rfl (hq h_3434 R_3434)
def FX12_keepsNight (N : Nat) (s : iv_M) (q0 : Nat) : Option (iv_M) := ((rd s (q0 + 1) 14 7).bind fun v_3416 => (if v_3416 = 20 then (FX12_keepsNight_l15 N q0 (fun (s_3418 : iv_M) => ((rd s_3418 (q0 + 1) 14 7).bind fun v_3420 => ((wr s_3418 (q0 + 1) 14 7 (w32 (v_3420 - 1))).bind fun s_3421 => (FX12_keepsNight_b54 N s_3421 q0)))) N s 24) else (FX12_keepsNight_b54 N s q0)))
set_option maxRecDepth 10000 in
set_option maxHeartbeats 4000000 in
theorem RX12_keepsNight {d N nc Ls : Nat} {Xs : Nat → Int32} (hd : 2 ≤ d) {h : iv_H} {s : iv_M} (hR : Rep nc Ls Xs h s) {q0 : Nat} (t0 : T12 nc q0) {r : iv_M} {Q : Option Value → iv_H → Prop} (e : FX12_keepsNight N s q0 = some r) (hq : ∀ h1, Rep nc Ls Xs h1 r → Q none h1) : Cl d 279 [.ref q0] h Q := by
  obtain ⟨d, rfl⟩ : ∃ k, d = k + 1 := ⟨d - 1, by omega⟩
  have hd : 1 ≤ d := by omega
  have hT := hX12_keepsNight
  unfold FX12_keepsNight at e
  refine Cl.into (by decide) gX12_keepsNight rfl ?_
  show Rn d 279 none 0 [some (.ref q0), none] [] h Q
  refine Rn.n hT 1 (pc' := 1) (L' := [some (.ref q0), none]) (st' := [.ref q0]) rfl ?_
  refine Rn.hp hT rfl rfl (gR_hp (rp_gR hR (T12_o t0) rfl)) ?_
  refine Rn.n hT 1 (pc' := 6) (L' := [some (.ref q0), none]) (st' := [.int (7 : Int32), .ref (q0 + 1)]) rfl ?_
  obtain ⟨v_3416, e_3416, e⟩ := Option.bind_eq_some_iff.mp e
  obtain ⟨z_3416, g_3416, p_3416⟩ := rp_aI hR (T12_1 t0) (T12_1l t0) L32_7 e_3416
  refine Rn.hp hT rfl rfl (aI_hp g_3416) ?_
  refine Rn.n hT 1 (pc' := 9) (L' := [some (.ref q0), none]) (st' := [.int (20 : Int32), .int z_3416]) rfl ?_
  by_cases c_3417 : v_3416 = 20
  · rw [if_pos c_3417] at e
    refine Rn.bf hT rfl rfl rfl (decide_eq_false (fun z => z ((ti_e p_3416 L32_20).mpr c_3417))) ?_
    refine Rn.n hT 2 (pc' := 15) (L' := [some (.ref q0), some (.int (24 : Int32))]) (st' := []) rfl ?_
    refine Rn.weak (ll_s (ll_s ll_e)) (RX12_keepsNight_l15 hd t0 (fun h_3418 s_3418 R_3418 e => ?_) hq N h s hR (24 : Int32) 24 L32_24 e)
    try dsimp only at e
    refine Rn.n hT 1 (pc' := 44) (L' := [some (.ref q0), none]) (st' := [.ref q0]) rfl ?_
    refine Rn.hp hT rfl rfl (gR_hp (rp_gR R_3418 (T12_o t0) rfl)) ?_
    refine Rn.n hT 2 (pc' := 50) (L' := [some (.ref q0), none]) (st' := [.int (7 : Int32), .ref (q0 + 1), .int (7 : Int32), .ref (q0 + 1)]) rfl ?_
    obtain ⟨v_3420, e_3420, e⟩ := Option.bind_eq_some_iff.mp e
    obtain ⟨z_3420, g_3420, p_3420⟩ := rp_aI R_3418 (T12_1 t0) (T12_1l t0) L32_7 e_3420
    refine Rn.hp hT rfl rfl (aI_hp g_3420) ?_
    refine Rn.n hT 2 (pc' := 53) (L' := [some (.ref q0), none]) (st' := [.int (z_3420 - (1 : Int32)), .int (7 : Int32), .ref (q0 + 1)]) rfl ?_
    obtain ⟨s_3421, e_3422, e⟩ := Option.bind_eq_some_iff.mp e
    obtain ⟨h_3421, g_3422, R_3421⟩ := rp_wI R_3418 (T12_1 t0) (T12_1l t0) L32_7 (ti_sub p_3420 L32_1) e_3422
    refine Rn.hp hT rfl rfl (wI_hp g_3422) ?_
    exact Rn.weak (ll_s (ll_n ll_e)) (RX12_keepsNight_b54 hd R_3421 t0 hq e)
  · rw [if_neg c_3417] at e
    refine Rn.bt hT rfl rfl rfl (decide_eq_true (fun z => c_3417 ((ti_e p_3416 L32_20).mp z))) ?_
    exact Rn.weak (ll_s (ll_n ll_e)) (RX12_keepsNight_b54 hd hR t0 hq e)
set_option maxRecDepth 10000 in
theorem hX12_isWalk : iv_Tb 280 tX12_isWalk := iv_tb_of (m := mX12_isWalk) rfl
set_option maxRecDepth 10000 in
theorem gX12_isWalk : PG.2 280 = some mX12_isWalk := iv_pi_of (t := tX12_isWalk) rfl (by decide)
def FX12_isWalk_b64 (N : Nat) (s : iv_M)  (xs0 : Int) : Option (Int) := (if xs0 = 0 ∨ xs0 = 1 then some xs0 else none)
set_option maxRecDepth 10000 in
set_option maxHeartbeats 4000000 in
theorem RX12_isWalk_b64 {d N nc Ls : Nat} {Xs : Nat → Int32} (hd : 2 ≤ d) {h : iv_H} {s : iv_M} (hR : Rep nc Ls Xs h s)  {ms0 : Int32} {xs0 : Int} (ps0 : ms0.toInt = xs0) {r : Int} {Q : Option Value → iv_H → Prop} (hq : ∀ (z : Int32), z.toInt = r → Q (some (.int z)) h) (e : FX12_isWalk_b64 N s  xs0 = some r) : Rn d 280 (some .boolean) 64 [none, none, none, none] [.int ms0] h Q := by
  have hT := hX12_isWalk
  unfold FX12_isWalk_b64 at e
  by_cases c_3447 : xs0 = 0 ∨ xs0 = 1
  · rw [if_pos c_3447] at e
    obtain rfl := Option.some.inj e
    exact Rn.ret hT rfl rfl (if_pos (ti_b ps0 c_3447)) (hq ms0 ps0)
  · rw [if_neg c_3447] at e
    cases e
def FX12_isWalk_b63 (N : Nat) (s : iv_M)   : Option (Int) := (FX12_isWalk_b64 N s 0)
set_option maxRecDepth 10000 in
set_option maxHeartbeats 4000000 in
theorem RX12_isWalk_b63 {d N nc Ls : Nat} {Xs : Nat → Int32} (hd : 2 ≤ d) {h : iv_H} {s : iv_M} (hR : Rep nc Ls Xs h s)   {r : Int} {Q : Option Value → iv_H → Prop} (hq : ∀ (z : Int32), z.toInt = r → Q (some (.int z)) h) (e : FX12_isWalk_b63 N s   = some r) : Rn d 280 (some .boolean) 63 [none, none, none, none] [] h Q := by
  have hT := hX12_isWalk
  unfold FX12_isWalk_b63 at e
  refine Rn.n hT 1 (pc' := 64) (L' := [none, none, none, none]) (st' := [.int (0 : Int32)]) rfl ?_
  exact Rn.weak (ll_n (ll_n (ll_n (ll_n ll_e)))) (RX12_isWalk_b64 hd hR L32_0 hq e)
def FX12_isWalk_b74 (N : Nat) (s : iv_M)  (xs0 : Int) : Option (Int) := (if xs0 = 0 ∨ xs0 = 1 then some xs0 else none)
set_option maxRecDepth 10000 in
set_option maxHeartbeats 4000000 in
theorem RX12_isWalk_b74 {d N nc Ls : Nat} {Xs : Nat → Int32} (hd : 2 ≤ d) {h : iv_H} {s : iv_M} (hR : Rep nc Ls Xs h s)  {ms0 : Int32} {xs0 : Int} (ps0 : ms0.toInt = xs0) {r : Int} {Q : Option Value → iv_H → Prop} (hq : ∀ (z : Int32), z.toInt = r → Q (some (.int z)) h) (e : FX12_isWalk_b74 N s  xs0 = some r) : Rn d 280 (some .boolean) 74 [none, none, none, none] [.int ms0] h Q := by
  have hT := hX12_isWalk
  unfold FX12_isWalk_b74 at e
  by_cases c_3448 : xs0 = 0 ∨ xs0 = 1
  · rw [if_pos c_3448] at e
    obtain rfl := Option.some.inj e
    exact Rn.ret hT rfl rfl (if_pos (ti_b ps0 c_3448)) (hq ms0 ps0)
  · rw [if_neg c_3448] at e
    cases e
def FX12_isWalk (N : Nat) (s : iv_M) (q0 : Nat) (x1 : Int) (x2 : Int) (x3 : Int) : Option (Int) := ((FX12_isRoom N s q0 x2).bind fun v_3436 => (if v_3436 = 0 then (some 0) else (if x1 = 1 then ((FX12_in N s x3 0 3).bind fun v_3439 => (if v_3439 = 0 ∨ v_3439 = 1 then some v_3439 else none)) else (if x1 = 2 then ((FX12_isRoom N s q0 x3).bind fun v_3442 => (if v_3442 = 0 then (FX12_isWalk_b63 N s) else (if x3 = x2 then (FX12_isWalk_b63 N s) else (FX12_isWalk_b64 N s 1)))) else (if x1 = 3 then (if x3 = 0 then (FX12_isWalk_b74 N s 1) else (FX12_isWalk_b74 N s 0)) else (some 0))))))
set_option maxRecDepth 10000 in
set_option maxHeartbeats 4000000 in
theorem RX12_isWalk {d N nc Ls : Nat} {Xs : Nat → Int32} (hd : 3 ≤ d) {h : iv_H} {s : iv_M} (hR : Rep nc Ls Xs h s) {q0 : Nat} (t0 : T12 nc q0) {m1 : Int32} {x1 : Int} (p1 : m1.toInt = x1) {m2 : Int32} {x2 : Int} (p2 : m2.toInt = x2) {m3 : Int32} {x3 : Int} (p3 : m3.toInt = x3) {r : Int} {Q : Option Value → iv_H → Prop} (e : FX12_isWalk N s q0 x1 x2 x3 = some r) (hq : ∀ (z : Int32), z.toInt = r → Q (some (.int z)) h) : Cl d 280 [.ref q0, .int m1, .int m2, .int m3] h Q := by
  obtain ⟨d, rfl⟩ : ∃ k, d = k + 1 := ⟨d - 1, by omega⟩
  have hd : 2 ≤ d := by omega
  have hT := hX12_isWalk
  unfold FX12_isWalk at e
  refine Cl.into (by decide) gX12_isWalk rfl ?_
  show Rn d 280 (some .boolean) 0 [some (.ref q0), some (.int m1), some (.int m2), some (.int m3)] [] h Q
  refine Rn.n hT 2 (pc' := 2) (L' := [some (.ref q0), some (.int m1), some (.int m2), some (.int m3)]) (st' := [.int m2, .ref q0]) rfl ?_
  obtain ⟨v_3436, e_3436, e⟩ := Option.bind_eq_some_iff.mp e
  refine Rn.call hT rfl rfl rfl (Nat.le_of_ble_eq_true rfl) (rcv_v gX12_isRoom (by omega) (rp_ck hR (T12_o t0))) (RX12_isRoom (by omega) hR t0 p2 e_3436 (fun z_3436 p_3436 => ?_))
  show Rn d _ _ 5 [some (.ref q0), some (.int m1), some (.int m2), some (.int m3)] [.int z_3436] h Q
  by_cases c_3437 : v_3436 = 0
  · rw [if_pos c_3437] at e
    refine Rn.bf hT rfl rfl rfl (decide_eq_false (fun z => z ((ti_e p_3436 L32_0).mpr c_3437))) ?_
    refine Rn.n hT 1 (pc' := 9) (L' := [some (.ref q0), some (.int m1), some (.int m2), some (.int m3)]) (st' := [.int (0 : Int32)]) rfl ?_
    obtain rfl := Option.some.inj e
    exact Rn.ret hT rfl rfl rfl (hq (0 : Int32) L32_0)
  · rw [if_neg c_3437] at e
    refine Rn.bt hT rfl rfl rfl (decide_eq_true (fun z => c_3437 ((ti_e p_3436 L32_0).mp z))) ?_
    refine Rn.n hT 1 (pc' := 11) (L' := [some (.ref q0), some (.int m1), some (.int m2), some (.int m3)]) (st' := [.int m1]) rfl ?_
    by_cases c_3438 : x1 = 1
    · rw [if_pos c_3438] at e
      refine Rn.sw2 hT rfl rfl rfl (if_pos ((ti_e p1 L32_1).mpr c_3438)) ?_
      refine Rn.n hT 4 (pc' := 42) (L' := [some (.ref q0), some (.int m1), some (.int m2), some (.int m3)]) (st' := [.long (3 : Int64), .long (0 : Int64), .long ((m3).toInt64)]) rfl ?_
      obtain ⟨v_3439, e_3439, e⟩ := Option.bind_eq_some_iff.mp e
      refine Rn.call hT rfl rfl rfl (Nat.le_of_ble_eq_true rfl) rfl (RX12_in (by omega) hR (ti_j p3) L64_0 L64_3 e_3439 (fun z_3439 p_3439 => ?_))
      show Rn d _ _ 45 [some (.ref q0), some (.int m1), some (.int m2), some (.int m3)] [.int z_3439] h Q
      by_cases c_3440 : v_3439 = 0 ∨ v_3439 = 1
      · rw [if_pos c_3440] at e
        obtain rfl := Option.some.inj e
        exact Rn.ret hT rfl rfl (if_pos (ti_b p_3439 c_3440)) (hq z_3439 p_3439)
      · rw [if_neg c_3440] at e
        cases e
    · rw [if_neg c_3438] at e
      by_cases c_3441 : x1 = 2
      · rw [if_pos c_3441] at e
        refine Rn.sw2 hT rfl rfl rfl ((if_neg (fun z => c_3438 ((ti_e p1 L32_1).mp z))).trans (if_pos ((ti_e p1 L32_2).mpr c_3441))) ?_
        refine Rn.n hT 2 (pc' := 48) (L' := [some (.ref q0), some (.int m1), some (.int m2), some (.int m3)]) (st' := [.int m3, .ref q0]) rfl ?_
        obtain ⟨v_3442, e_3442, e⟩ := Option.bind_eq_some_iff.mp e
        refine Rn.call hT rfl rfl rfl (Nat.le_of_ble_eq_true rfl) (rcv_v gX12_isRoom (by omega) (rp_ck hR (T12_o t0))) (RX12_isRoom (by omega) hR t0 p3 e_3442 (fun z_3442 p_3442 => ?_))
        show Rn d _ _ 51 [some (.ref q0), some (.int m1), some (.int m2), some (.int m3)] [.int z_3442] h Q
        by_cases c_3443 : v_3442 = 0
        · rw [if_pos c_3443] at e
          refine Rn.bt hT rfl rfl rfl (decide_eq_true ((ti_e p_3442 L32_0).mpr c_3443)) ?_
          exact Rn.weak (ll_n (ll_n (ll_n (ll_n ll_e)))) (RX12_isWalk_b63 hd hR hq e)
        · rw [if_neg c_3443] at e
          refine Rn.bf hT rfl rfl rfl (decide_eq_false (fun z => c_3443 ((ti_e p_3442 L32_0).mp z))) ?_
          refine Rn.n hT 2 (pc' := 56) (L' := [some (.ref q0), some (.int m1), some (.int m2), some (.int m3)]) (st' := [.int m2, .int m3]) rfl ?_
          by_cases c_3444 : x3 = x2
          · rw [if_pos c_3444] at e
            refine Rn.bt hT rfl rfl rfl (decide_eq_true ((ti_e p3 p2).mpr c_3444)) ?_
            exact Rn.weak (ll_n (ll_n (ll_n (ll_n ll_e)))) (RX12_isWalk_b63 hd hR hq e)
          · rw [if_neg c_3444] at e
            refine Rn.bf hT rfl rfl rfl (decide_eq_false (fun z => c_3444 ((ti_e p3 p2).mp z))) ?_
            refine Rn.n hT 2 (pc' := 64) (L' := [some (.ref q0), some (.int m1), some (.int m2), some (.int m3)]) (st' := [.int (1 : Int32)]) rfl ?_
            exact Rn.weak (ll_n (ll_n (ll_n (ll_n ll_e)))) (RX12_isWalk_b64 hd hR L32_1 hq e)
      · rw [if_neg c_3441] at e
        by_cases c_3445 : x1 = 3
        · rw [if_pos c_3445] at e
          refine Rn.sw2 hT rfl rfl rfl ((if_neg (fun z => c_3438 ((ti_e p1 L32_1).mp z))).trans ((if_neg (fun z => c_3441 ((ti_e p1 L32_2).mp z))).trans (if_pos ((ti_e p1 L32_3).mpr c_3445)))) ?_
          refine Rn.n hT 1 (pc' := 66) (L' := [some (.ref q0), some (.int m1), some (.int m2), some (.int m3)]) (st' := [.int m3]) rfl ?_
          by_cases c_3446 : x3 = 0
          · rw [if_pos c_3446] at e
            refine Rn.bf hT rfl rfl rfl (decide_eq_false (fun z => z ((ti_e p3 L32_0).mpr c_3446))) ?_
            refine Rn.n hT 2 (pc' := 74) (L' := [some (.ref q0), some (.int m1), some (.int m2), some (.int m3)]) (st' := [.int (1 : Int32)]) rfl ?_
            exact Rn.weak (ll_n (ll_n (ll_n (ll_n ll_e)))) (RX12_isWalk_b74 hd hR L32_1 hq e)
          · rw [if_neg c_3446] at e
            refine Rn.bt hT rfl rfl rfl (decide_eq_true (fun z => c_3446 ((ti_e p3 L32_0).mp z))) ?_
            refine Rn.n hT 1 (pc' := 74) (L' := [some (.ref q0), some (.int m1), some (.int m2), some (.int m3)]) (st' := [.int (0 : Int32)]) rfl ?_
            exact Rn.weak (ll_n (ll_n (ll_n (ll_n ll_e)))) (RX12_isWalk_b74 hd hR L32_0 hq e)
        · rw [if_neg c_3445] at e
          refine Rn.sw2 hT rfl rfl rfl ((if_neg (fun z => c_3438 ((ti_e p1 L32_1).mp z))).trans ((if_neg (fun z => c_3441 ((ti_e p1 L32_2).mp z))).trans ((if_neg (fun z => c_3445 ((ti_e p1 L32_3).mp z))).trans rfl))) ?_
          refine Rn.n hT 1 (pc' := 76) (L' := [some (.ref q0), some (.int m1), some (.int m2), some (.int m3)]) (st' := [.int (0 : Int32)]) rfl ?_
          obtain rfl := Option.some.inj e
          exact Rn.ret hT rfl rfl rfl (hq (0 : Int32) L32_0)
set_option maxRecDepth 10000 in
theorem hX12_least : iv_Tb 281 tX12_least := iv_tb_of (m := mX12_least) rfl
set_option maxRecDepth 10000 in
theorem gX12_least : PG.2 281 = some mX12_least := iv_pi_of (t := tX12_least) rfl (by decide)
def FX12_least_b15 (N : Nat) (s : iv_M)  (xs0 : Int) : Option (Int) := (some xs0)
set_option maxRecDepth 10000 in
set_option maxHeartbeats 4000000 in
theorem RX12_least_b15 {d N nc Ls : Nat} {Xs : Nat → Int32} (hd : 0 ≤ d) {h : iv_H} {s : iv_M} (hR : Rep nc Ls Xs h s)  {ms0 : Int32} {xs0 : Int} (ps0 : ms0.toInt = xs0) {r : Int} {Q : Option Value → iv_H → Prop} (hq : ∀ (z : Int32), z.toInt = r → Q (some (.int z)) h) (e : FX12_least_b15 N s  xs0 = some r) : Rn d 281 (some .int) 15 [none, none, none] [.int ms0] h Q := by
  have hT := hX12_least
  unfold FX12_least_b15 at e
  obtain rfl := Option.some.inj e
  exact Rn.ret hT rfl rfl rfl (hq ms0 ps0)
def FX12_least_b14 (N : Nat) (s : iv_M) (x1 : Int)  : Option (Int) := (FX12_least_b15 N s x1)
set_option maxRecDepth 10000 in
set_option maxHeartbeats 4000000 in
theorem RX12_least_b14 {d N nc Ls : Nat} {Xs : Nat → Int32} (hd : 0 ≤ d) {h : iv_H} {s : iv_M} (hR : Rep nc Ls Xs h s) {m1 : Int32} {x1 : Int} (p1 : m1.toInt = x1)  {r : Int} {Q : Option Value → iv_H → Prop} (hq : ∀ (z : Int32), z.toInt = r → Q (some (.int z)) h) (e : FX12_least_b14 N s x1  = some r) : Rn d 281 (some .int) 14 [none, some (.int m1), none] [] h Q := by
  have hT := hX12_least
  unfold FX12_least_b14 at e
  refine Rn.n hT 1 (pc' := 15) (L' := [none, some (.int m1), none]) (st' := [.int m1]) rfl ?_
  exact Rn.weak (ll_n (ll_n (ll_n ll_e))) (RX12_least_b15 hd hR p1 hq e)
def FX12_least (N : Nat) (s : iv_M) (x0 : Int) (x1 : Int) (x2 : Int) : Option (Int) := (if x0 = 2 then (if x1 ≤ x2 then (FX12_least_b14 N s x1) else (FX12_least_b15 N s x2)) else (FX12_least_b14 N s x1))
set_option maxRecDepth 10000 in
set_option maxHeartbeats 4000000 in
theorem RX12_least {d N nc Ls : Nat} {Xs : Nat → Int32} (hd : 1 ≤ d) {h : iv_H} {s : iv_M} (hR : Rep nc Ls Xs h s) {m0 : Int32} {x0 : Int} (p0 : m0.toInt = x0) {m1 : Int32} {x1 : Int} (p1 : m1.toInt = x1) {m2 : Int32} {x2 : Int} (p2 : m2.toInt = x2) {r : Int} {Q : Option Value → iv_H → Prop} (e : FX12_least N s x0 x1 x2 = some r) (hq : ∀ (z : Int32), z.toInt = r → Q (some (.int z)) h) : Cl d 281 [.int m0, .int m1, .int m2] h Q := by
  obtain ⟨d, rfl⟩ : ∃ k, d = k + 1 := ⟨d - 1, by omega⟩
  have hd : 0 ≤ d := by omega
  have hT := hX12_least
  unfold FX12_least at e
  refine Cl.into (by decide) gX12_least rfl ?_
  show Rn d 281 (some .int) 0 [some (.int m0), some (.int m1), some (.int m2)] [] h Q
  refine Rn.n hT 2 (pc' := 2) (L' := [some (.int m0), some (.int m1), some (.int m2)]) (st' := [.int (2 : Int32), .int m0]) rfl ?_
  by_cases c_3449 : x0 = 2
  · rw [if_pos c_3449] at e
    refine Rn.bf hT rfl rfl rfl (decide_eq_false (fun z => z ((ti_e p0 L32_2).mpr c_3449))) ?_
    refine Rn.n hT 2 (pc' := 7) (L' := [some (.int m0), some (.int m1), some (.int m2)]) (st' := [.int m1, .int m2]) rfl ?_
    by_cases c_3450 : x1 ≤ x2
    · rw [if_pos c_3450] at e
      refine Rn.bt hT rfl rfl rfl (decide_eq_true ((ti_le p1 p2).mpr c_3450)) ?_
      exact Rn.weak (ll_n (ll_s (ll_n ll_e))) (RX12_least_b14 hd hR p1 hq e)
    · rw [if_neg c_3450] at e
      refine Rn.bf hT rfl rfl rfl (decide_eq_false (fun z => c_3450 ((ti_le p1 p2).mp z))) ?_
      refine Rn.n hT 2 (pc' := 15) (L' := [some (.int m0), some (.int m1), some (.int m2)]) (st' := [.int m2]) rfl ?_
      exact Rn.weak (ll_n (ll_n (ll_n ll_e))) (RX12_least_b15 hd hR p2 hq e)
  · rw [if_neg c_3449] at e
    refine Rn.bt hT rfl rfl rfl (decide_eq_true (fun z => c_3449 ((ti_e p0 L32_2).mp z))) ?_
    exact Rn.weak (ll_n (ll_s (ll_n ll_e))) (RX12_least_b14 hd hR p1 hq e)
set_option maxRecDepth 10000 in
theorem hX12_greatest : iv_Tb 282 tX12_greatest := iv_tb_of (m := mX12_greatest) rfl
set_option maxRecDepth 10000 in
theorem gX12_greatest : PG.2 282 = some mX12_greatest := iv_pi_of (t := tX12_greatest) rfl (by decide)
def FX12_greatest_b15 (N : Nat) (s : iv_M)  (xs0 : Int) : Option (Int) := (some xs0)
set_option maxRecDepth 10000 in
set_option maxHeartbeats 4000000 in
theorem RX12_greatest_b15 {d N nc Ls : Nat} {Xs : Nat → Int32} (hd : 0 ≤ d) {h : iv_H} {s : iv_M} (hR : Rep nc Ls Xs h s)  {ms0 : Int32} {xs0 : Int} (ps0 : ms0.toInt = xs0) {r : Int} {Q : Option Value → iv_H → Prop} (hq : ∀ (z : Int32), z.toInt = r → Q (some (.int z)) h) (e : FX12_greatest_b15 N s  xs0 = some r) : Rn d 282 (some .int) 15 [none, none, none] [.int ms0] h Q := by
  have hT := hX12_greatest
  unfold FX12_greatest_b15 at e
  obtain rfl := Option.some.inj e
  exact Rn.ret hT rfl rfl rfl (hq ms0 ps0)
def FX12_greatest_b14 (N : Nat) (s : iv_M) (x2 : Int)  : Option (Int) := (FX12_greatest_b15 N s x2)
set_option maxRecDepth 10000 in
set_option maxHeartbeats 4000000 in
theorem RX12_greatest_b14 {d N nc Ls : Nat} {Xs : Nat → Int32} (hd : 0 ≤ d) {h : iv_H} {s : iv_M} (hR : Rep nc Ls Xs h s) {m2 : Int32} {x2 : Int} (p2 : m2.toInt = x2)  {r : Int} {Q : Option Value → iv_H → Prop} (hq : ∀ (z : Int32), z.toInt = r → Q (some (.int z)) h) (e : FX12_greatest_b14 N s x2  = some r) : Rn d 282 (some .int) 14 [none, none, some (.int m2)] [] h Q := by
  have hT := hX12_greatest
  unfold FX12_greatest_b14 at e
  refine Rn.n hT 1 (pc' := 15) (L' := [none, none, some (.int m2)]) (st' := [.int m2]) rfl ?_
  exact Rn.weak (ll_n (ll_n (ll_n ll_e))) (RX12_greatest_b15 hd hR p2 hq e)
def FX12_greatest (N : Nat) (s : iv_M) (x0 : Int) (x1 : Int) (x2 : Int) : Option (Int) := (if x0 = 2 then (if x1 ≤ x2 then (FX12_greatest_b14 N s x2) else (FX12_greatest_b15 N s x1)) else (FX12_greatest_b14 N s x2))
set_option maxRecDepth 10000 in
set_option maxHeartbeats 4000000 in
theorem RX12_greatest {d N nc Ls : Nat} {Xs : Nat → Int32} (hd : 1 ≤ d) {h : iv_H} {s : iv_M} (hR : Rep nc Ls Xs h s) {m0 : Int32} {x0 : Int} (p0 : m0.toInt = x0) {m1 : Int32} {x1 : Int} (p1 : m1.toInt = x1) {m2 : Int32} {x2 : Int} (p2 : m2.toInt = x2) {r : Int} {Q : Option Value → iv_H → Prop} (e : FX12_greatest N s x0 x1 x2 = some r) (hq : ∀ (z : Int32), z.toInt = r → Q (some (.int z)) h) : Cl d 282 [.int m0, .int m1, .int m2] h Q := by
  obtain ⟨d, rfl⟩ : ∃ k, d = k + 1 := ⟨d - 1, by omega⟩
  have hd : 0 ≤ d := by omega
  have hT := hX12_greatest
  unfold FX12_greatest at e
  refine Cl.into (by decide) gX12_greatest rfl ?_
  show Rn d 282 (some .int) 0 [some (.int m0), some (.int m1), some (.int m2)] [] h Q
  refine Rn.n hT 2 (pc' := 2) (L' := [some (.int m0), some (.int m1), some (.int m2)]) (st' := [.int (2 : Int32), .int m0]) rfl ?_
  by_cases c_3451 : x0 = 2
  · rw [if_pos c_3451] at e
    refine Rn.bf hT rfl rfl rfl (decide_eq_false (fun z => z ((ti_e p0 L32_2).mpr c_3451))) ?_
    refine Rn.n hT 2 (pc' := 7) (L' := [some (.int m0), some (.int m1), some (.int m2)]) (st' := [.int m1, .int m2]) rfl ?_
    by_cases c_3452 : x1 ≤ x2
    · rw [if_pos c_3452] at e
      refine Rn.bt hT rfl rfl rfl (decide_eq_true ((ti_le p1 p2).mpr c_3452)) ?_
      exact Rn.weak (ll_n (ll_n (ll_s ll_e))) (RX12_greatest_b14 hd hR p2 hq e)
    · rw [if_neg c_3452] at e
      refine Rn.bf hT rfl rfl rfl (decide_eq_false (fun z => c_3452 ((ti_le p1 p2).mp z))) ?_
      refine Rn.n hT 2 (pc' := 15) (L' := [some (.int m0), some (.int m1), some (.int m2)]) (st' := [.int m1]) rfl ?_
      exact Rn.weak (ll_n (ll_n (ll_n ll_e))) (RX12_greatest_b15 hd hR p1 hq e)
  · rw [if_neg c_3451] at e
    refine Rn.bt hT rfl rfl rfl (decide_eq_true (fun z => c_3451 ((ti_e p0 L32_2).mp z))) ?_
    exact Rn.weak (ll_n (ll_n (ll_s ll_e))) (RX12_greatest_b14 hd hR p2 hq e)
set_option maxRecDepth 10000 in
theorem hX12_walk : iv_Tb 283 tX12_walk := iv_tb_of (m := mX12_walk) rfl
set_option maxRecDepth 10000 in
theorem gX12_walk : PG.2 283 = some mX12_walk := iv_pi_of (t := tX12_walk) rfl (by decide)
def FX12_walk (N : Nat) (s : iv_M) (q0 : Nat) (x1 : Int) (x2 : Int) (x3 : Int) : Option (Int × iv_M) := ((FX12_isWalk N s q0 x1 x2 x3).bind fun v_3453 => (if v_3453 = 0 then (some ((-1), s)) else ((FX12_least N s x1 x2 x3).bind fun v_3455 => ((FX12_greatest N s x1 x2 x3).bind fun v_3456 => ((FX12_lawOf N s q0 x1 v_3455 v_3456).bind fun r_3457 => (fun (v_3457 : Int) (s_3458 : iv_M) => (if v_3457 ≤ 0 then ((FX12_keepsNight N s_3458 q0).bind fun s_3461 => ((FX12_walks N s_3461 q0 x1 v_3455 v_3456).bind fun s_3463 => ((rd s_3463 (q0 + 1) 14 6).bind fun v_3464 => (some (v_3464, s_3463))))) else (some ((w32 ((-2) - v_3457)), s_3458)))) r_3457.1 r_3457.2)))))
set_option maxRecDepth 10000 in
set_option maxHeartbeats 4000000 in
theorem RX12_walk {d N nc Ls : Nat} {Xs : Nat → Int32} (hd : 8 ≤ d) {h : iv_H} {s : iv_M} (hR : Rep nc Ls Xs h s) {q0 : Nat} (t0 : T12 nc q0) {m1 : Int32} {x1 : Int} (p1 : m1.toInt = x1) {m2 : Int32} {x2 : Int} (p2 : m2.toInt = x2) {m3 : Int32} {x3 : Int} (p3 : m3.toInt = x3) {r : Int × iv_M} {Q : Option Value → iv_H → Prop} (e : FX12_walk N s q0 x1 x2 x3 = some r) (hq : ∀ (z : Int32) (h1 : iv_H), z.toInt = r.1 → Rep nc Ls Xs h1 r.2 → Q (some (.int z)) h1) : Cl d 283 [.ref q0, .int m1, .int m2, .int m3] h Q := by
  obtain ⟨d, rfl⟩ : ∃ k, d = k + 1 := ⟨d - 1, by omega⟩
  have hd : 7 ≤ d := by omega
  have hT := hX12_walk
  unfold FX12_walk at e
  refine Cl.into (by decide) gX12_walk rfl ?_
  show Rn d 283 (some .int) 0 [some (.ref q0), some (.int m1), some (.int m2), some (.int m3), none, none, none] [] h Q
  refine Rn.n hT 4 (pc' := 4) (L' := [some (.ref q0), some (.int m1), some (.int m2), some (.int m3), none, none, none]) (st' := [.int m3, .int m2, .int m1, .ref q0]) rfl ?_
  obtain ⟨v_3453, e_3453, e⟩ := Option.bind_eq_some_iff.mp e
  refine Rn.call hT rfl rfl rfl (Nat.le_of_ble_eq_true rfl) (rcv_v gX12_isWalk (by omega) (rp_ck hR (T12_o t0))) (RX12_isWalk (by omega) hR t0 p1 p2 p3 e_3453 (fun z_3453 p_3453 => ?_))
  show Rn d _ _ 7 [some (.ref q0), some (.int m1), some (.int m2), some (.int m3), none, none, none] [.int z_3453] h Q
  by_cases c_3454 : v_3453 = 0
  · rw [if_pos c_3454] at e
    refine Rn.bf hT rfl rfl rfl (decide_eq_false (fun z => z ((ti_e p_3453 L32_0).mpr c_3454))) ?_
    refine Rn.n hT 1 (pc' := 11) (L' := [some (.ref q0), some (.int m1), some (.int m2), some (.int m3), none, none, none]) (st' := [.int (-1 : Int32)]) rfl ?_
    obtain rfl := Option.some.inj e
    exact Rn.ret hT rfl rfl rfl (hq (-1 : Int32) h L32_m1 hR)
  · rw [if_neg c_3454] at e
    refine Rn.bt hT rfl rfl rfl (decide_eq_true (fun z => c_3454 ((ti_e p_3453 L32_0).mp z))) ?_
    refine Rn.n hT 3 (pc' := 15) (L' := [some (.ref q0), some (.int m1), some (.int m2), some (.int m3), none, none, none]) (st' := [.int m3, .int m2, .int m1]) rfl ?_
    obtain ⟨v_3455, e_3455, e⟩ := Option.bind_eq_some_iff.mp e
    refine Rn.call hT rfl rfl rfl (Nat.le_of_ble_eq_true rfl) rfl (RX12_least (by omega) hR p1 p2 p3 e_3455 (fun z_3455 p_3455 => ?_))
    show Rn d _ _ 18 [some (.ref q0), some (.int m1), some (.int m2), some (.int m3), none, none, none] [.int z_3455] h Q
    refine Rn.n hT 4 (pc' := 23) (L' := [some (.ref q0), some (.int m1), some (.int m2), some (.int m3), some (.int z_3455), none, none]) (st' := [.int m3, .int m2, .int m1]) rfl ?_
    obtain ⟨v_3456, e_3456, e⟩ := Option.bind_eq_some_iff.mp e
    refine Rn.call hT rfl rfl rfl (Nat.le_of_ble_eq_true rfl) rfl (RX12_greatest (by omega) hR p1 p2 p3 e_3456 (fun z_3456 p_3456 => ?_))
    show Rn d _ _ 26 [some (.ref q0), some (.int m1), some (.int m2), some (.int m3), some (.int z_3455), none, none] [.int z_3456] h Q
    refine Rn.n hT 5 (pc' := 34) (L' := [some (.ref q0), some (.int m1), some (.int m2), some (.int m3), some (.int z_3455), some (.int z_3456), none]) (st' := [.int z_3456, .int z_3455, .int m1, .ref q0]) rfl ?_
    obtain ⟨⟨v_3457, s_3458⟩, e_3457, e⟩ := Option.bind_eq_some_iff.mp e
    try dsimp only at e
    try dsimp only at e
    refine Rn.call hT rfl rfl rfl (Nat.le_of_ble_eq_true rfl) (rcv_v gX12_lawOf (by omega) (rp_ck hR (T12_o t0))) (RX12_lawOf (by omega) hR t0 p1 p_3455 p_3456 e_3457 (fun z_3457 h_3458 p_3457 R_3458 => ?_))
    show Rn d _ _ 37 [some (.ref q0), some (.int m1), some (.int m2), some (.int m3), some (.int z_3455), some (.int z_3456), none] [.int z_3457] h_3458 Q
    refine Rn.n hT 2 (pc' := 41) (L' := [some (.ref q0), some (.int m1), some (.int m2), some (.int m3), some (.int z_3455), some (.int z_3456), some (.int z_3457)]) (st' := [.int z_3457]) rfl ?_
    by_cases c_3459 : v_3457 ≤ 0
    · rw [if_pos c_3459] at e
      refine Rn.bt hT rfl rfl rfl (decide_eq_true ((ti_le p_3457 L32_0).mpr c_3459)) ?_
      refine Rn.n hT 1 (pc' := 51) (L' := [some (.ref q0), some (.int m1), some (.int m2), some (.int m3), some (.int z_3455), some (.int z_3456), some (.int z_3457)]) (st' := [.ref q0]) rfl ?_
      obtain ⟨s_3461, e_3460, e⟩ := Option.bind_eq_some_iff.mp e
      refine Rn.call hT rfl rfl rfl (Nat.le_of_ble_eq_true rfl) (rcv_v gX12_keepsNight (by omega) (rp_ck R_3458 (T12_o t0))) (RX12_keepsNight (by omega) R_3458 t0 e_3460 (fun h_3461 R_3461 => ?_))
      show Rn d _ _ 54 [some (.ref q0), some (.int m1), some (.int m2), some (.int m3), some (.int z_3455), some (.int z_3456), some (.int z_3457)] [] h_3461 Q
      refine Rn.n hT 4 (pc' := 60) (L' := [some (.ref q0), some (.int m1), some (.int m2), some (.int m3), some (.int z_3455), some (.int z_3456), some (.int z_3457)]) (st' := [.int z_3456, .int z_3455, .int m1, .ref q0]) rfl ?_
      obtain ⟨s_3463, e_3462, e⟩ := Option.bind_eq_some_iff.mp e
      refine Rn.call hT rfl rfl rfl (Nat.le_of_ble_eq_true rfl) (rcv_v gX12_walks (by omega) (rp_ck R_3461 (T12_o t0))) (RX12_walks (by omega) R_3461 t0 p1 p_3455 p_3456 e_3462 (fun h_3463 R_3463 => ?_))
      show Rn d _ _ 63 [some (.ref q0), some (.int m1), some (.int m2), some (.int m3), some (.int z_3455), some (.int z_3456), some (.int z_3457)] [] h_3463 Q
      refine Rn.n hT 1 (pc' := 64) (L' := [some (.ref q0), some (.int m1), some (.int m2), some (.int m3), some (.int z_3455), some (.int z_3456), some (.int z_3457)]) (st' := [.ref q0]) rfl ?_
      refine Rn.hp hT rfl rfl (gR_hp (rp_gR R_3463 (T12_o t0) rfl)) ?_
      refine Rn.n hT 1 (pc' := 69) (L' := [some (.ref q0), some (.int m1), some (.int m2), some (.int m3), some (.int z_3455), some (.int z_3456), some (.int z_3457)]) (st' := [.int (6 : Int32), .ref (q0 + 1)]) rfl ?_
      obtain ⟨v_3464, e_3464, e⟩ := Option.bind_eq_some_iff.mp e
      obtain ⟨z_3464, g_3464, p_3464⟩ := rp_aI R_3463 (T12_1 t0) (T12_1l t0) L32_6 e_3464
      refine Rn.hp hT rfl rfl (aI_hp g_3464) ?_
      obtain rfl := Option.some.inj e
      exact Rn.ret hT rfl rfl rfl (hq z_3464 h_3463 p_3464 R_3463)
    · rw [if_neg c_3459] at e
      refine Rn.bf hT rfl rfl rfl (decide_eq_false (fun z => c_3459 ((ti_le p_3457 L32_0).mp z))) ?_
      refine Rn.n hT 3 (pc' := 49) (L' := [some (.ref q0), some (.int m1), some (.int m2), some (.int m3), some (.int z_3455), some (.int z_3456), some (.int z_3457)]) (st' := [.int ((-2 : Int32) - z_3457)]) rfl ?_
      obtain rfl := Option.some.inj e
      exact Rn.ret hT rfl rfl rfl (hq ((-2 : Int32) - z_3457) h_3458 (ti_sub L32_m2 p_3457) R_3458)
set_option maxRecDepth 10000 in
theorem hX12_rest : iv_Tb 284 tX12_rest := iv_tb_of (m := mX12_rest) rfl
set_option maxRecDepth 10000 in
theorem gX12_rest : PG.2 284 = some mX12_rest := iv_pi_of (t := tX12_rest) rfl (by decide)
def FX12_rest (N : Nat) (s : iv_M) (q0 : Nat) : Option (Int × iv_M) := ((FX12_isPalace N s q0).bind fun v_3465 => (if v_3465 = 0 then (some ((-1), s)) else ((FX12_keepsNight N s q0).bind fun s_3468 => ((rd s_3468 (q0 + 1) 14 6).bind fun v_3469 => (some (v_3469, s_3468))))))
set_option maxRecDepth 10000 in
set_option maxHeartbeats 4000000 in
theorem RX12_rest {d N nc Ls : Nat} {Xs : Nat → Int32} (hd : 3 ≤ d) {h : iv_H} {s : iv_M} (hR : Rep nc Ls Xs h s) {q0 : Nat} (t0 : T12 nc q0) {r : Int × iv_M} {Q : Option Value → iv_H → Prop} (e : FX12_rest N s q0 = some r) (hq : ∀ (z : Int32) (h1 : iv_H), z.toInt = r.1 → Rep nc Ls Xs h1 r.2 → Q (some (.int z)) h1) : Cl d 284 [.ref q0] h Q := by
  obtain ⟨d, rfl⟩ : ∃ k, d = k + 1 := ⟨d - 1, by omega⟩
  have hd : 2 ≤ d := by omega
  have hT := hX12_rest
  unfold FX12_rest at e
  refine Cl.into (by decide) gX12_rest rfl ?_
  show Rn d 284 (some .int) 0 [some (.ref q0)] [] h Q
  refine Rn.n hT 1 (pc' := 1) (L' := [some (.ref q0)]) (st' := [.ref q0]) rfl ?_
  obtain ⟨v_3465, e_3465, e⟩ := Option.bind_eq_some_iff.mp e
  refine Rn.call hT rfl rfl rfl (Nat.le_of_ble_eq_true rfl) (rcv_v gX12_isPalace (by omega) (rp_ck hR (T12_o t0))) (RX12_isPalace (by omega) hR t0 e_3465 (fun z_3465 p_3465 => ?_))
  show Rn d _ _ 4 [some (.ref q0)] [.int z_3465] h Q
  by_cases c_3466 : v_3465 = 0
  · rw [if_pos c_3466] at e
    refine Rn.bf hT rfl rfl rfl (decide_eq_false (fun z => z ((ti_e p_3465 L32_0).mpr c_3466))) ?_
    refine Rn.n hT 1 (pc' := 8) (L' := [some (.ref q0)]) (st' := [.int (-1 : Int32)]) rfl ?_
    obtain rfl := Option.some.inj e
    exact Rn.ret hT rfl rfl rfl (hq (-1 : Int32) h L32_m1 hR)
  · rw [if_neg c_3466] at e
    refine Rn.bt hT rfl rfl rfl (decide_eq_true (fun z => c_3466 ((ti_e p_3465 L32_0).mp z))) ?_
    refine Rn.n hT 1 (pc' := 10) (L' := [some (.ref q0)]) (st' := [.ref q0]) rfl ?_
    obtain ⟨s_3468, e_3467, e⟩ := Option.bind_eq_some_iff.mp e
    refine Rn.call hT rfl rfl rfl (Nat.le_of_ble_eq_true rfl) (rcv_v gX12_keepsNight (by omega) (rp_ck hR (T12_o t0))) (RX12_keepsNight (by omega) hR t0 e_3467 (fun h_3468 R_3468 => ?_))
    show Rn d _ _ 13 [some (.ref q0)] [] h_3468 Q
    refine Rn.n hT 1 (pc' := 14) (L' := [some (.ref q0)]) (st' := [.ref q0]) rfl ?_
    refine Rn.hp hT rfl rfl (gR_hp (rp_gR R_3468 (T12_o t0) rfl)) ?_
    refine Rn.n hT 1 (pc' := 19) (L' := [some (.ref q0)]) (st' := [.int (6 : Int32), .ref (q0 + 1)]) rfl ?_
    obtain ⟨v_3469, e_3469, e⟩ := Option.bind_eq_some_iff.mp e
    obtain ⟨z_3469, g_3469, p_3469⟩ := rp_aI R_3468 (T12_1 t0) (T12_1l t0) L32_6 e_3469
    refine Rn.hp hT rfl rfl (aI_hp g_3469) ?_
    obtain rfl := Option.some.inj e
    exact Rn.ret hT rfl rfl rfl (hq z_3469 h_3468 p_3469 R_3468)
set_option maxRecDepth 10000 in
theorem hX12_undo : iv_Tb 285 tX12_undo := iv_tb_of (m := mX12_undo) rfl
set_option maxRecDepth 10000 in
theorem gX12_undo : PG.2 285 = some mX12_undo := iv_pi_of (t := tX12_undo) rfl (by decide)
def FX12_undo (N : Nat) (s : iv_M) (q0 : Nat) : Option (Int × iv_M) := ((rd s (q0 + 1) 14 7).bind fun v_3470 => (if v_3470 = 0 then (some ((-2), s)) else ((rd s (q0 + 1) 14 7).bind fun v_3472 => ((wr s (q0 + 1) 14 7 (w32 (v_3472 - 1))).bind fun s_3473 => ((rd s_3473 (q0 + 1) 14 6).bind fun v_3475 => ((wr s_3473 (q0 + 1) 14 6 (w32 (v_3475 - 1))).bind fun s_3476 => ((rd s_3476 (q0 + 1) 14 7).bind fun v_3478 => ((FX12_laysFloor N s_3476 q0 (q0 + 9) (w32 (24 * v_3478))).bind fun s_3480 => ((rd s_3480 (q0 + 1) 14 7).bind fun v_3481 => (some (v_3481, s_3480)))))))))))
set_option maxRecDepth 10000 in
set_option maxHeartbeats 4000000 in
theorem RX12_undo {d N nc Ls : Nat} {Xs : Nat → Int32} (hd : 2 ≤ d) {h : iv_H} {s : iv_M} (hR : Rep nc Ls Xs h s) {q0 : Nat} (t0 : T12 nc q0) {r : Int × iv_M} {Q : Option Value → iv_H → Prop} (e : FX12_undo N s q0 = some r) (hq : ∀ (z : Int32) (h1 : iv_H), z.toInt = r.1 → Rep nc Ls Xs h1 r.2 → Q (some (.int z)) h1) : Cl d 285 [.ref q0] h Q := by
  obtain ⟨d, rfl⟩ : ∃ k, d = k + 1 := ⟨d - 1, by omega⟩
  have hd : 1 ≤ d := by omega
  have hT := hX12_undo
  unfold FX12_undo at e
  refine Cl.into (by decide) gX12_undo rfl ?_
  show Rn d 285 (some .int) 0 [some (.ref q0)] [] h Q
  refine Rn.n hT 1 (pc' := 1) (L' := [some (.ref q0)]) (st' := [.ref q0]) rfl ?_
  refine Rn.hp hT rfl rfl (gR_hp (rp_gR hR (T12_o t0) rfl)) ?_
  refine Rn.n hT 1 (pc' := 6) (L' := [some (.ref q0)]) (st' := [.int (7 : Int32), .ref (q0 + 1)]) rfl ?_
  obtain ⟨v_3470, e_3470, e⟩ := Option.bind_eq_some_iff.mp e
  obtain ⟨z_3470, g_3470, p_3470⟩ := rp_aI hR (T12_1 t0) (T12_1l t0) L32_7 e_3470
  refine Rn.hp hT rfl rfl (aI_hp g_3470) ?_
  by_cases c_3471 : v_3470 = 0
  · rw [if_pos c_3471] at e
    refine Rn.bf hT rfl rfl rfl (decide_eq_false (fun z => z ((ti_e p_3470 L32_0).mpr c_3471))) ?_
    refine Rn.n hT 1 (pc' := 12) (L' := [some (.ref q0)]) (st' := [.int (-2 : Int32)]) rfl ?_
    obtain rfl := Option.some.inj e
    exact Rn.ret hT rfl rfl rfl (hq (-2 : Int32) h L32_m2 hR)
  · rw [if_neg c_3471] at e
    refine Rn.bt hT rfl rfl rfl (decide_eq_true (fun z => c_3471 ((ti_e p_3470 L32_0).mp z))) ?_
    refine Rn.n hT 1 (pc' := 14) (L' := [some (.ref q0)]) (st' := [.ref q0]) rfl ?_
    refine Rn.hp hT rfl rfl (gR_hp (rp_gR hR (T12_o t0) rfl)) ?_
    refine Rn.n hT 2 (pc' := 20) (L' := [some (.ref q0)]) (st' := [.int (7 : Int32), .ref (q0 + 1), .int (7 : Int32), .ref (q0 + 1)]) rfl ?_
    obtain ⟨v_3472, e_3472, e⟩ := Option.bind_eq_some_iff.mp e
    obtain ⟨z_3472, g_3472, p_3472⟩ := rp_aI hR (T12_1 t0) (T12_1l t0) L32_7 e_3472
    refine Rn.hp hT rfl rfl (aI_hp g_3472) ?_
    refine Rn.n hT 2 (pc' := 23) (L' := [some (.ref q0)]) (st' := [.int (z_3472 - (1 : Int32)), .int (7 : Int32), .ref (q0 + 1)]) rfl ?_
    obtain ⟨s_3473, e_3474, e⟩ := Option.bind_eq_some_iff.mp e
    obtain ⟨h_3473, g_3474, R_3473⟩ := rp_wI hR (T12_1 t0) (T12_1l t0) L32_7 (ti_sub p_3472 L32_1) e_3474
    refine Rn.hp hT rfl rfl (wI_hp g_3474) ?_
    refine Rn.n hT 1 (pc' := 25) (L' := [some (.ref q0)]) (st' := [.ref q0]) rfl ?_
    refine Rn.hp hT rfl rfl (gR_hp (rp_gR R_3473 (T12_o t0) rfl)) ?_
    refine Rn.n hT 2 (pc' := 31) (L' := [some (.ref q0)]) (st' := [.int (6 : Int32), .ref (q0 + 1), .int (6 : Int32), .ref (q0 + 1)]) rfl ?_
    obtain ⟨v_3475, e_3475, e⟩ := Option.bind_eq_some_iff.mp e
    obtain ⟨z_3475, g_3475, p_3475⟩ := rp_aI R_3473 (T12_1 t0) (T12_1l t0) L32_6 e_3475
    refine Rn.hp hT rfl rfl (aI_hp g_3475) ?_
    refine Rn.n hT 2 (pc' := 34) (L' := [some (.ref q0)]) (st' := [.int (z_3475 - (1 : Int32)), .int (6 : Int32), .ref (q0 + 1)]) rfl ?_
    obtain ⟨s_3476, e_3477, e⟩ := Option.bind_eq_some_iff.mp e
    obtain ⟨h_3476, g_3477, R_3476⟩ := rp_wI R_3473 (T12_1 t0) (T12_1l t0) L32_6 (ti_sub p_3475 L32_1) e_3477
    refine Rn.hp hT rfl rfl (wI_hp g_3477) ?_
    refine Rn.n hT 2 (pc' := 37) (L' := [some (.ref q0)]) (st' := [.ref q0, .ref q0]) rfl ?_
    refine Rn.hp hT rfl rfl (gR_hp (rp_gR R_3476 (T12_o t0) rfl)) ?_
    refine Rn.n hT 2 (pc' := 43) (L' := [some (.ref q0)]) (st' := [.ref q0, .int (24 : Int32), .ref (q0 + 9), .ref q0]) rfl ?_
    refine Rn.hp hT rfl rfl (gR_hp (rp_gR R_3476 (T12_o t0) rfl)) ?_
    refine Rn.n hT 1 (pc' := 48) (L' := [some (.ref q0)]) (st' := [.int (7 : Int32), .ref (q0 + 1), .int (24 : Int32), .ref (q0 + 9), .ref q0]) rfl ?_
    obtain ⟨v_3478, e_3478, e⟩ := Option.bind_eq_some_iff.mp e
    obtain ⟨z_3478, g_3478, p_3478⟩ := rp_aI R_3476 (T12_1 t0) (T12_1l t0) L32_7 e_3478
    refine Rn.hp hT rfl rfl (aI_hp g_3478) ?_
    refine Rn.n hT 1 (pc' := 50) (L' := [some (.ref q0)]) (st' := [.int ((24 : Int32) * z_3478), .ref (q0 + 9), .ref q0]) rfl ?_
    obtain ⟨s_3480, e_3479, e⟩ := Option.bind_eq_some_iff.mp e
    refine Rn.call hT rfl rfl rfl (Nat.le_of_ble_eq_true rfl) (rcv_v gX12_laysFloor (by omega) (rp_ck R_3476 (T12_o t0))) (RX12_laysFloor (by omega) R_3476 t0 (T12_9 t0) (ti_mul L32_24 p_3478) e_3479 (fun h_3480 R_3480 => ?_))
    show Rn d _ _ 53 [some (.ref q0)] [] h_3480 Q
    refine Rn.n hT 1 (pc' := 54) (L' := [some (.ref q0)]) (st' := [.ref q0]) rfl ?_
    refine Rn.hp hT rfl rfl (gR_hp (rp_gR R_3480 (T12_o t0) rfl)) ?_
    refine Rn.n hT 1 (pc' := 59) (L' := [some (.ref q0)]) (st' := [.int (7 : Int32), .ref (q0 + 1)]) rfl ?_
    obtain ⟨v_3481, e_3481, e⟩ := Option.bind_eq_some_iff.mp e
    obtain ⟨z_3481, g_3481, p_3481⟩ := rp_aI R_3480 (T12_1 t0) (T12_1l t0) L32_7 e_3481
    refine Rn.hp hT rfl rfl (aI_hp g_3481) ?_
    obtain rfl := Option.some.inj e
    exact Rn.ret hT rfl rfl rfl (hq z_3481 h_3480 p_3481 R_3480)
set_option maxRecDepth 10000 in
theorem hX12_isDraft : iv_Tb 286 tX12_isDraft := iv_tb_of (m := mX12_isDraft) rfl
set_option maxRecDepth 10000 in
theorem gX12_isDraft : PG.2 286 = some mX12_isDraft := iv_pi_of (t := tX12_isDraft) rfl (by decide)
def FX12_isDraft_b32 (N : Nat) (s : iv_M)  (xs0 : Int) : Option (Int) := (if xs0 = 0 ∨ xs0 = 1 then some xs0 else none)
set_option maxRecDepth 10000 in
set_option maxHeartbeats 4000000 in
theorem RX12_isDraft_b32 {d N nc Ls : Nat} {Xs : Nat → Int32} (hd : 1 ≤ d) {h : iv_H} {s : iv_M} (hR : Rep nc Ls Xs h s)  {ms0 : Int32} {xs0 : Int} (ps0 : ms0.toInt = xs0) {r : Int} {Q : Option Value → iv_H → Prop} (hq : ∀ (z : Int32), z.toInt = r → Q (some (.int z)) h) (e : FX12_isDraft_b32 N s  xs0 = some r) : Rn d 286 (some .boolean) 32 [none, none] [.int ms0] h Q := by
  have hT := hX12_isDraft
  unfold FX12_isDraft_b32 at e
  by_cases c_3486 : xs0 = 0 ∨ xs0 = 1
  · rw [if_pos c_3486] at e
    obtain rfl := Option.some.inj e
    exact Rn.ret hT rfl rfl (if_pos (ti_b ps0 c_3486)) (hq ms0 ps0)
  · rw [if_neg c_3486] at e
    cases e
def FX12_isDraft_b31 (N : Nat) (s : iv_M)   : Option (Int) := (FX12_isDraft_b32 N s 0)
set_option maxRecDepth 10000 in
set_option maxHeartbeats 4000000 in
theorem RX12_isDraft_b31 {d N nc Ls : Nat} {Xs : Nat → Int32} (hd : 1 ≤ d) {h : iv_H} {s : iv_M} (hR : Rep nc Ls Xs h s)   {r : Int} {Q : Option Value → iv_H → Prop} (hq : ∀ (z : Int32), z.toInt = r → Q (some (.int z)) h) (e : FX12_isDraft_b31 N s   = some r) : Rn d 286 (some .boolean) 31 [none, none] [] h Q := by
  have hT := hX12_isDraft
  unfold FX12_isDraft_b31 at e
  refine Rn.n hT 1 (pc' := 32) (L' := [none, none]) (st' := [.int (0 : Int32)]) rfl ?_
  exact Rn.weak (ll_n (ll_n ll_e)) (RX12_isDraft_b32 hd hR L32_0 hq e)
def FX12_isDraft (N : Nat) (s : iv_M) (q0 : Nat) (x1 : Int) : Option (Int) := ((FX12_in N s x1 0 3).bind fun v_3482 => (if v_3482 = 0 then (FX12_isDraft_b31 N s) else ((rd s (q0 + 1) 14 11).bind fun v_3484 => (if (bAn (sr32 v_3484 x1) 1) = 1 then (FX12_isDraft_b32 N s 1) else (FX12_isDraft_b31 N s)))))
set_option maxRecDepth 10000 in
set_option maxHeartbeats 4000000 in
theorem RX12_isDraft {d N nc Ls : Nat} {Xs : Nat → Int32} (hd : 2 ≤ d) {h : iv_H} {s : iv_M} (hR : Rep nc Ls Xs h s) {q0 : Nat} (t0 : T12 nc q0) {m1 : Int32} {x1 : Int} (p1 : m1.toInt = x1) {r : Int} {Q : Option Value → iv_H → Prop} (e : FX12_isDraft N s q0 x1 = some r) (hq : ∀ (z : Int32), z.toInt = r → Q (some (.int z)) h) : Cl d 286 [.ref q0, .int m1] h Q := by
  obtain ⟨d, rfl⟩ : ∃ k, d = k + 1 := ⟨d - 1, by omega⟩
  have hd : 1 ≤ d := by omega
  have hT := hX12_isDraft
  unfold FX12_isDraft at e
  refine Cl.into (by decide) gX12_isDraft rfl ?_
  show Rn d 286 (some .boolean) 0 [some (.ref q0), some (.int m1)] [] h Q
  refine Rn.n hT 4 (pc' := 6) (L' := [some (.ref q0), some (.int m1)]) (st' := [.long (3 : Int64), .long (0 : Int64), .long ((m1).toInt64)]) rfl ?_
  obtain ⟨v_3482, e_3482, e⟩ := Option.bind_eq_some_iff.mp e
  refine Rn.call hT rfl rfl rfl (Nat.le_of_ble_eq_true rfl) rfl (RX12_in (by omega) hR (ti_j p1) L64_0 L64_3 e_3482 (fun z_3482 p_3482 => ?_))
  show Rn d _ _ 9 [some (.ref q0), some (.int m1)] [.int z_3482] h Q
  by_cases c_3483 : v_3482 = 0
  · rw [if_pos c_3483] at e
    refine Rn.bt hT rfl rfl rfl (decide_eq_true ((ti_e p_3482 L32_0).mpr c_3483)) ?_
    exact Rn.weak (ll_n (ll_n ll_e)) (RX12_isDraft_b31 hd hR hq e)
  · rw [if_neg c_3483] at e
    refine Rn.bf hT rfl rfl rfl (decide_eq_false (fun z => c_3483 ((ti_e p_3482 L32_0).mp z))) ?_
    refine Rn.n hT 1 (pc' := 13) (L' := [some (.ref q0), some (.int m1)]) (st' := [.ref q0]) rfl ?_
    refine Rn.hp hT rfl rfl (gR_hp (rp_gR hR (T12_o t0) rfl)) ?_
    refine Rn.n hT 1 (pc' := 18) (L' := [some (.ref q0), some (.int m1)]) (st' := [.int (11 : Int32), .ref (q0 + 1)]) rfl ?_
    obtain ⟨v_3484, e_3484, e⟩ := Option.bind_eq_some_iff.mp e
    obtain ⟨z_3484, g_3484, p_3484⟩ := rp_aI hR (T12_1 t0) (T12_1l t0) L32_11 e_3484
    refine Rn.hp hT rfl rfl (aI_hp g_3484) ?_
    refine Rn.n hT 5 (pc' := 24) (L' := [some (.ref q0), some (.int m1)]) (st' := [.int (1 : Int32), .int ((z_3484 >>> (m1 &&& 31)) &&& (1 : Int32))]) rfl ?_
    by_cases c_3485 : (bAn (sr32 v_3484 x1) 1) = 1
    · rw [if_pos c_3485] at e
      refine Rn.bf hT rfl rfl rfl (decide_eq_false (fun z => z ((ti_e (ti_and (ti_shr p_3484 p1) L32_1) L32_1).mpr c_3485))) ?_
      refine Rn.n hT 2 (pc' := 32) (L' := [some (.ref q0), some (.int m1)]) (st' := [.int (1 : Int32)]) rfl ?_
      exact Rn.weak (ll_n (ll_n ll_e)) (RX12_isDraft_b32 hd hR L32_1 hq e)
    · rw [if_neg c_3485] at e
      refine Rn.bt hT rfl rfl rfl (decide_eq_true (fun z => c_3485 ((ti_e (ti_and (ti_shr p_3484 p1) L32_1) L32_1).mp z))) ?_
      exact Rn.weak (ll_n (ll_n ll_e)) (RX12_isDraft_b31 hd hR hq e)
set_option maxRecDepth 10000 in
theorem hX12_draft : iv_Tb 287 tX12_draft := iv_tb_of (m := mX12_draft) rfl
set_option maxRecDepth 10000 in
theorem gX12_draft : PG.2 287 = some mX12_draft := iv_pi_of (t := tX12_draft) rfl (by decide)
def FX12_draft_b19 (N : Nat) (s : iv_M)   : Option (Int × iv_M) := (some ((-1), s))
set_option maxRecDepth 10000 in
set_option maxHeartbeats 4000000 in
theorem RX12_draft_b19 {d N nc Ls : Nat} {Xs : Nat → Int32} (hd : 6 ≤ d) {h : iv_H} {s : iv_M} (hR : Rep nc Ls Xs h s)   {r : Int × iv_M} {Q : Option Value → iv_H → Prop} (hq : ∀ (z : Int32) (h1 : iv_H), z.toInt = r.1 → Rep nc Ls Xs h1 r.2 → Q (some (.int z)) h1) (e : FX12_draft_b19 N s   = some r) : Rn d 287 (some .int) 19 [none, none] [] h Q := by
  have hT := hX12_draft
  unfold FX12_draft_b19 at e
  refine Rn.n hT 1 (pc' := 20) (L' := [none, none]) (st' := [.int (-1 : Int32)]) rfl ?_
  obtain rfl := Option.some.inj e
  exact Rn.ret hT rfl rfl rfl (hq (-1 : Int32) h L32_m1 hR)
def FX12_draft (N : Nat) (s : iv_M) (q0 : Nat) (x1 : Int) : Option (Int × iv_M) := ((FX12_isPalace N s q0).bind fun v_3487 => (if v_3487 = 0 then (FX12_draft_b19 N s) else ((FX12_in N s x1 0 3).bind fun v_3489 => (if v_3489 = 0 then (FX12_draft_b19 N s) else ((FX12_fillsFloor N s q0 (q0 + 10) (w32 (24 * x1))).bind fun s_3492 => ((rd s_3492 (q0 + 1) 14 11).bind fun v_3493 => ((wr s_3492 (q0 + 1) 14 11 (bOr v_3493 (sl32 1 x1))).bind fun s_3494 => ((FX12_mismatches N s_3494 q0).bind fun r_3496 => (fun (v_3496 : Int) (s_3497 : iv_M) => (some (v_3496, s_3497))) r_3496.1 r_3496.2))))))))
set_option maxRecDepth 10000 in
set_option maxHeartbeats 4000000 in
theorem RX12_draft {d N nc Ls : Nat} {Xs : Nat → Int32} (hd : 7 ≤ d) {h : iv_H} {s : iv_M} (hR : Rep nc Ls Xs h s) {q0 : Nat} (t0 : T12 nc q0) {m1 : Int32} {x1 : Int} (p1 : m1.toInt = x1) {r : Int × iv_M} {Q : Option Value → iv_H → Prop} (e : FX12_draft N s q0 x1 = some r) (hq : ∀ (z : Int32) (h1 : iv_H), z.toInt = r.1 → Rep nc Ls Xs h1 r.2 → Q (some (.int z)) h1) : Cl d 287 [.ref q0, .int m1] h Q := by
  obtain ⟨d, rfl⟩ : ∃ k, d = k + 1 := ⟨d - 1, by omega⟩
  have hd : 6 ≤ d := by omega
  have hT := hX12_draft
  unfold FX12_draft at e
  refine Cl.into (by decide) gX12_draft rfl ?_
  show Rn d 287 (some .int) 0 [some (.ref q0), some (.int m1)] [] h Q
  refine Rn.n hT 1 (pc' := 1) (L' := [some (.ref q0), some (.int m1)]) (st' := [.ref q0]) rfl ?_
  obtain ⟨v_3487, e_3487, e⟩ := Option.bind_eq_some_iff.mp e
  refine Rn.call hT rfl rfl rfl (Nat.le_of_ble_eq_true rfl) (rcv_v gX12_isPalace (by omega) (rp_ck hR (T12_o t0))) (RX12_isPalace (by omega) hR t0 e_3487 (fun z_3487 p_3487 => ?_))
  show Rn d _ _ 4 [some (.ref q0), some (.int m1)] [.int z_3487] h Q
  by_cases c_3488 : v_3487 = 0
  · rw [if_pos c_3488] at e
    refine Rn.bt hT rfl rfl rfl (decide_eq_true ((ti_e p_3487 L32_0).mpr c_3488)) ?_
    exact Rn.weak (ll_n (ll_n ll_e)) (RX12_draft_b19 hd hR hq e)
  · rw [if_neg c_3488] at e
    refine Rn.bf hT rfl rfl rfl (decide_eq_false (fun z => c_3488 ((ti_e p_3487 L32_0).mp z))) ?_
    refine Rn.n hT 4 (pc' := 13) (L' := [some (.ref q0), some (.int m1)]) (st' := [.long (3 : Int64), .long (0 : Int64), .long ((m1).toInt64)]) rfl ?_
    obtain ⟨v_3489, e_3489, e⟩ := Option.bind_eq_some_iff.mp e
    refine Rn.call hT rfl rfl rfl (Nat.le_of_ble_eq_true rfl) rfl (RX12_in (by omega) hR (ti_j p1) L64_0 L64_3 e_3489 (fun z_3489 p_3489 => ?_))
    show Rn d _ _ 16 [some (.ref q0), some (.int m1)] [.int z_3489] h Q
    by_cases c_3490 : v_3489 = 0
    · rw [if_pos c_3490] at e
      refine Rn.bf hT rfl rfl rfl (decide_eq_false (fun z => z ((ti_e p_3489 L32_0).mpr c_3490))) ?_
      exact Rn.weak (ll_n (ll_n ll_e)) (RX12_draft_b19 hd hR hq e)
    · rw [if_neg c_3490] at e
      refine Rn.bt hT rfl rfl rfl (decide_eq_true (fun z => c_3490 ((ti_e p_3489 L32_0).mp z))) ?_
      refine Rn.n hT 2 (pc' := 23) (L' := [some (.ref q0), some (.int m1)]) (st' := [.ref q0, .ref q0]) rfl ?_
      refine Rn.hp hT rfl rfl (gR_hp (rp_gR hR (T12_o t0) rfl)) ?_
      refine Rn.n hT 3 (pc' := 30) (L' := [some (.ref q0), some (.int m1)]) (st' := [.int ((24 : Int32) * m1), .ref (q0 + 10), .ref q0]) rfl ?_
      obtain ⟨s_3492, e_3491, e⟩ := Option.bind_eq_some_iff.mp e
      refine Rn.call hT rfl rfl rfl (Nat.le_of_ble_eq_true rfl) (rcv_v gX12_fillsFloor (by omega) (rp_ck hR (T12_o t0))) (RX12_fillsFloor (by omega) hR t0 (T12_10 t0) (ti_mul L32_24 p1) e_3491 (fun h_3492 R_3492 => ?_))
      show Rn d _ _ 33 [some (.ref q0), some (.int m1)] [] h_3492 Q
      refine Rn.n hT 1 (pc' := 34) (L' := [some (.ref q0), some (.int m1)]) (st' := [.ref q0]) rfl ?_
      refine Rn.hp hT rfl rfl (gR_hp (rp_gR R_3492 (T12_o t0) rfl)) ?_
      refine Rn.n hT 2 (pc' := 40) (L' := [some (.ref q0), some (.int m1)]) (st' := [.int (11 : Int32), .ref (q0 + 1), .int (11 : Int32), .ref (q0 + 1)]) rfl ?_
      obtain ⟨v_3493, e_3493, e⟩ := Option.bind_eq_some_iff.mp e
      obtain ⟨z_3493, g_3493, p_3493⟩ := rp_aI R_3492 (T12_1 t0) (T12_1l t0) L32_11 e_3493
      refine Rn.hp hT rfl rfl (aI_hp g_3493) ?_
      refine Rn.n hT 4 (pc' := 45) (L' := [some (.ref q0), some (.int m1)]) (st' := [.int (z_3493 ||| ((1 : Int32) <<< (m1 &&& 31))), .int (11 : Int32), .ref (q0 + 1)]) rfl ?_
      obtain ⟨s_3494, e_3495, e⟩ := Option.bind_eq_some_iff.mp e
      obtain ⟨h_3494, g_3495, R_3494⟩ := rp_wI R_3492 (T12_1 t0) (T12_1l t0) L32_11 (ti_or p_3493 (ti_shl L32_1 p1)) e_3495
      refine Rn.hp hT rfl rfl (wI_hp g_3495) ?_
      refine Rn.n hT 1 (pc' := 47) (L' := [some (.ref q0), some (.int m1)]) (st' := [.ref q0]) rfl ?_
      obtain ⟨⟨v_3496, s_3497⟩, e_3496, e⟩ := Option.bind_eq_some_iff.mp e
      try dsimp only at e
      try dsimp only at e
      refine Rn.call hT rfl rfl rfl (Nat.le_of_ble_eq_true rfl) (rcv_v gX12_mismatches (by omega) (rp_ck R_3494 (T12_o t0))) (RX12_mismatches (by omega) R_3494 t0 e_3496 (fun z_3496 h_3497 p_3496 R_3497 => ?_))
      show Rn d _ _ 50 [some (.ref q0), some (.int m1)] [.int z_3496] h_3497 Q
      obtain rfl := Option.some.inj e
      exact Rn.ret hT rfl rfl rfl (hq z_3496 h_3497 p_3496 R_3497)
set_option maxRecDepth 10000 in
theorem hX12_drafted : iv_Tb 288 tX12_drafted := iv_tb_of (m := mX12_drafted) rfl
set_option maxRecDepth 10000 in
theorem gX12_drafted : PG.2 288 = some mX12_drafted := iv_pi_of (t := tX12_drafted) rfl (by decide)
def FX12_drafted_b45 (N : Nat) (s : iv_M)  (xs0 : Int) : Option (Int) := (some xs0)
set_option maxRecDepth 10000 in
set_option maxHeartbeats 4000000 in
theorem RX12_drafted_b45 {d N nc Ls : Nat} {Xs : Nat → Int32} (hd : 2 ≤ d) {h : iv_H} {s : iv_M} (hR : Rep nc Ls Xs h s)  {ms0 : Int32} {xs0 : Int} (ps0 : ms0.toInt = xs0) {r : Int} {Q : Option Value → iv_H → Prop} (hq : ∀ (z : Int32), z.toInt = r → Q (some (.int z)) h) (e : FX12_drafted_b45 N s  xs0 = some r) : Rn d 288 (some .int) 45 [none, none, none, none] [.int ms0] h Q := by
  have hT := hX12_drafted
  unfold FX12_drafted_b45 at e
  obtain rfl := Option.some.inj e
  exact Rn.ret hT rfl rfl rfl (hq ms0 ps0)
def FX12_drafted_b44 (N : Nat) (s : iv_M)   : Option (Int) := (FX12_drafted_b45 N s (-1))
set_option maxRecDepth 10000 in
set_option maxHeartbeats 4000000 in
theorem RX12_drafted_b44 {d N nc Ls : Nat} {Xs : Nat → Int32} (hd : 2 ≤ d) {h : iv_H} {s : iv_M} (hR : Rep nc Ls Xs h s)   {r : Int} {Q : Option Value → iv_H → Prop} (hq : ∀ (z : Int32), z.toInt = r → Q (some (.int z)) h) (e : FX12_drafted_b44 N s   = some r) : Rn d 288 (some .int) 44 [none, none, none, none] [] h Q := by
  have hT := hX12_drafted
  unfold FX12_drafted_b44 at e
  refine Rn.n hT 1 (pc' := 45) (L' := [none, none, none, none]) (st' := [.int (-1 : Int32)]) rfl ?_
  exact Rn.weak (ll_n (ll_n (ll_n (ll_n ll_e)))) (RX12_drafted_b45 hd hR L32_m1 hq e)
def FX12_drafted (N : Nat) (s : iv_M) (q0 : Nat) (x1 : Int) (x2 : Int) (x3 : Int) : Option (Int) := ((FX12_isDraft N s q0 x1).bind fun v_3498 => (if v_3498 = 0 then (FX12_drafted_b44 N s) else ((FX12_isRoom N s q0 x2).bind fun v_3500 => (if v_3500 = 0 then (FX12_drafted_b44 N s) else ((FX12_in N s x3 0 1).bind fun v_3502 => (if v_3502 = 0 then (FX12_drafted_b44 N s) else ((rd s (q0 + 10) 96 (w32 ((w32 ((w32 (24 * x1)) + (w32 (2 * x2)))) + x3))).bind fun v_3504 => (FX12_drafted_b45 N s v_3504))))))))
set_option maxRecDepth 10000 in
set_option maxHeartbeats 4000000 in
theorem RX12_drafted {d N nc Ls : Nat} {Xs : Nat → Int32} (hd : 3 ≤ d) {h : iv_H} {s : iv_M} (hR : Rep nc Ls Xs h s) {q0 : Nat} (t0 : T12 nc q0) {m1 : Int32} {x1 : Int} (p1 : m1.toInt = x1) {m2 : Int32} {x2 : Int} (p2 : m2.toInt = x2) {m3 : Int32} {x3 : Int} (p3 : m3.toInt = x3) {r : Int} {Q : Option Value → iv_H → Prop} (e : FX12_drafted N s q0 x1 x2 x3 = some r) (hq : ∀ (z : Int32), z.toInt = r → Q (some (.int z)) h) : Cl d 288 [.ref q0, .int m1, .int m2, .int m3] h Q := by
  obtain ⟨d, rfl⟩ : ∃ k, d = k + 1 := ⟨d - 1, by omega⟩
  have hd : 2 ≤ d := by omega
  have hT := hX12_drafted
  unfold FX12_drafted at e
  refine Cl.into (by decide) gX12_drafted rfl ?_
  show Rn d 288 (some .int) 0 [some (.ref q0), some (.int m1), some (.int m2), some (.int m3)] [] h Q
  refine Rn.n hT 2 (pc' := 2) (L' := [some (.ref q0), some (.int m1), some (.int m2), some (.int m3)]) (st' := [.int m1, .ref q0]) rfl ?_
  obtain ⟨v_3498, e_3498, e⟩ := Option.bind_eq_some_iff.mp e
  refine Rn.call hT rfl rfl rfl (Nat.le_of_ble_eq_true rfl) (rcv_v gX12_isDraft (by omega) (rp_ck hR (T12_o t0))) (RX12_isDraft (by omega) hR t0 p1 e_3498 (fun z_3498 p_3498 => ?_))
  show Rn d _ _ 5 [some (.ref q0), some (.int m1), some (.int m2), some (.int m3)] [.int z_3498] h Q
  by_cases c_3499 : v_3498 = 0
  · rw [if_pos c_3499] at e
    refine Rn.bt hT rfl rfl rfl (decide_eq_true ((ti_e p_3498 L32_0).mpr c_3499)) ?_
    exact Rn.weak (ll_n (ll_n (ll_n (ll_n ll_e)))) (RX12_drafted_b44 hd hR hq e)
  · rw [if_neg c_3499] at e
    refine Rn.bf hT rfl rfl rfl (decide_eq_false (fun z => c_3499 ((ti_e p_3498 L32_0).mp z))) ?_
    refine Rn.n hT 2 (pc' := 10) (L' := [some (.ref q0), some (.int m1), some (.int m2), some (.int m3)]) (st' := [.int m2, .ref q0]) rfl ?_
    obtain ⟨v_3500, e_3500, e⟩ := Option.bind_eq_some_iff.mp e
    refine Rn.call hT rfl rfl rfl (Nat.le_of_ble_eq_true rfl) (rcv_v gX12_isRoom (by omega) (rp_ck hR (T12_o t0))) (RX12_isRoom (by omega) hR t0 p2 e_3500 (fun z_3500 p_3500 => ?_))
    show Rn d _ _ 13 [some (.ref q0), some (.int m1), some (.int m2), some (.int m3)] [.int z_3500] h Q
    by_cases c_3501 : v_3500 = 0
    · rw [if_pos c_3501] at e
      refine Rn.bt hT rfl rfl rfl (decide_eq_true ((ti_e p_3500 L32_0).mpr c_3501)) ?_
      exact Rn.weak (ll_n (ll_n (ll_n (ll_n ll_e)))) (RX12_drafted_b44 hd hR hq e)
    · rw [if_neg c_3501] at e
      refine Rn.bf hT rfl rfl rfl (decide_eq_false (fun z => c_3501 ((ti_e p_3500 L32_0).mp z))) ?_
      refine Rn.n hT 4 (pc' := 20) (L' := [some (.ref q0), some (.int m1), some (.int m2), some (.int m3)]) (st' := [.long (1 : Int64), .long (0 : Int64), .long ((m3).toInt64)]) rfl ?_
      obtain ⟨v_3502, e_3502, e⟩ := Option.bind_eq_some_iff.mp e
      refine Rn.call hT rfl rfl rfl (Nat.le_of_ble_eq_true rfl) rfl (RX12_in (by omega) hR (ti_j p3) L64_0 L64_1 e_3502 (fun z_3502 p_3502 => ?_))
      show Rn d _ _ 23 [some (.ref q0), some (.int m1), some (.int m2), some (.int m3)] [.int z_3502] h Q
      by_cases c_3503 : v_3502 = 0
      · rw [if_pos c_3503] at e
        refine Rn.bt hT rfl rfl rfl (decide_eq_true ((ti_e p_3502 L32_0).mpr c_3503)) ?_
        exact Rn.weak (ll_n (ll_n (ll_n (ll_n ll_e)))) (RX12_drafted_b44 hd hR hq e)
      · rw [if_neg c_3503] at e
        refine Rn.bf hT rfl rfl rfl (decide_eq_false (fun z => c_3503 ((ti_e p_3502 L32_0).mp z))) ?_
        refine Rn.n hT 1 (pc' := 27) (L' := [some (.ref q0), some (.int m1), some (.int m2), some (.int m3)]) (st' := [.ref q0]) rfl ?_
        refine Rn.hp hT rfl rfl (gR_hp (rp_gR hR (T12_o t0) rfl)) ?_
        refine Rn.n hT 9 (pc' := 40) (L' := [some (.ref q0), some (.int m1), some (.int m2), some (.int m3)]) (st' := [.int ((((24 : Int32) * m1) + ((2 : Int32) * m2)) + m3), .ref (q0 + 10)]) rfl ?_
        obtain ⟨v_3504, e_3504, e⟩ := Option.bind_eq_some_iff.mp e
        obtain ⟨z_3504, g_3504, p_3504⟩ := rp_aI hR (T12_10 t0) (T12_10l t0) (ti_add (ti_add (ti_mul L32_24 p1) (ti_mul L32_2 p2)) p3) e_3504
        refine Rn.hp hT rfl rfl (aI_hp g_3504) ?_
        refine Rn.n hT 1 (pc' := 45) (L' := [some (.ref q0), some (.int m1), some (.int m2), some (.int m3)]) (st' := [.int z_3504]) rfl ?_
        exact Rn.weak (ll_n (ll_n (ll_n (ll_n ll_e)))) (RX12_drafted_b45 hd hR p_3504 hq e)
set_option maxRecDepth 10000 in
theorem hX12_isEmptyInDraft : iv_Tb 289 tX12_isEmptyInDraft := iv_tb_of (m := mX12_isEmptyInDraft) rfl
set_option maxRecDepth 10000 in
theorem gX12_isEmptyInDraft : PG.2 289 = some mX12_isEmptyInDraft := iv_pi_of (t := tX12_isEmptyInDraft) rfl (by decide)
def FX12_isEmptyInDraft_b49 (N : Nat) (s : iv_M) (q0 : Nat) (x1 : Int) (x2 : Int) (x4 : Int) (xs0 : Int) (kb : Int → Int → Option (Int)) (kx : Int → Option (Int)) : Option (Int) := (kb xs0 (w32 (x4 + 1)))
set_option maxRecDepth 10000 in
set_option maxHeartbeats 4000000 in
theorem RX12_isEmptyInDraft_b49 {d N nc Ls : Nat} {Xs : Nat → Int32} (hd : 0 ≤ d) {h : iv_H} {s : iv_M} (hR : Rep nc Ls Xs h s) {q0 : Nat} (t0 : T12 nc q0) {m1 : Int32} {x1 : Int} (p1 : m1.toInt = x1) {m2 : Int32} {x2 : Int} (p2 : m2.toInt = x2) {m4 : Int32} {x4 : Int} (p4 : m4.toInt = x4) {ms0 : Int32} {xs0 : Int} (ps0 : ms0.toInt = xs0) {kb : Int → Int → Option (Int)} {kx : Int → Option (Int)} {r : Int} {Q : Option Value → iv_H → Prop} (hb : ∀ (mw3 : Int32) (xw3 : Int) (pw3 : mw3.toInt = xw3) (mw4 : Int32) (xw4 : Int) (pw4 : mw4.toInt = xw4), kb xw3 xw4 = some r → Rn d 289 (some .boolean) 14 [some (.ref q0), some (.int m1), some (.int m2), some (.int mw3), some (.int mw4)] [] h Q) (hk : ∀ (mw3 : Int32) (xw3 : Int) (pw3 : mw3.toInt = xw3), kx xw3 = some r → Rn d 289 (some .boolean) 56 [none, none, none, some (.int mw3), none] [] h Q) (hq : ∀ (z : Int32), z.toInt = r → Q (some (.int z)) h) (e : FX12_isEmptyInDraft_b49 N s q0 x1 x2 x4 xs0 kb kx = some r) : Rn d 289 (some .boolean) 49 [some (.ref q0), some (.int m1), some (.int m2), none, some (.int m4)] [.int ms0] h Q := by
  have hT := hX12_isEmptyInDraft
  unfold FX12_isEmptyInDraft_b49 at e
  refine Rn.n hT 3 (pc' := 14) (L' := [some (.ref q0), some (.int m1), some (.int m2), some (.int ms0), some (.int (m4 + (1 : Int32)))]) (st' := []) rfl ?_
  exact Rn.weak (ll_s (ll_s (ll_s (ll_s (ll_s ll_e))))) (hb ms0 xs0 ps0 (m4 + (1 : Int32)) (w32 (x4 + 1)) (ti_add p4 L32_1) e)
def FX12_isEmptyInDraft_b48 (N : Nat) (s : iv_M) (q0 : Nat) (x1 : Int) (x2 : Int) (x4 : Int)  (kb : Int → Int → Option (Int)) (kx : Int → Option (Int)) : Option (Int) := (FX12_isEmptyInDraft_b49 N s q0 x1 x2 x4 0 kb kx)
set_option maxRecDepth 10000 in
set_option maxHeartbeats 4000000 in
theorem RX12_isEmptyInDraft_b48 {d N nc Ls : Nat} {Xs : Nat → Int32} (hd : 0 ≤ d) {h : iv_H} {s : iv_M} (hR : Rep nc Ls Xs h s) {q0 : Nat} (t0 : T12 nc q0) {m1 : Int32} {x1 : Int} (p1 : m1.toInt = x1) {m2 : Int32} {x2 : Int} (p2 : m2.toInt = x2) {m4 : Int32} {x4 : Int} (p4 : m4.toInt = x4)  {kb : Int → Int → Option (Int)} {kx : Int → Option (Int)} {r : Int} {Q : Option Value → iv_H → Prop} (hb : ∀ (mw3 : Int32) (xw3 : Int) (pw3 : mw3.toInt = xw3) (mw4 : Int32) (xw4 : Int) (pw4 : mw4.toInt = xw4), kb xw3 xw4 = some r → Rn d 289 (some .boolean) 14 [some (.ref q0), some (.int m1), some (.int m2), some (.int mw3), some (.int mw4)] [] h Q) (hk : ∀ (mw3 : Int32) (xw3 : Int) (pw3 : mw3.toInt = xw3), kx xw3 = some r → Rn d 289 (some .boolean) 56 [none, none, none, some (.int mw3), none] [] h Q) (hq : ∀ (z : Int32), z.toInt = r → Q (some (.int z)) h) (e : FX12_isEmptyInDraft_b48 N s q0 x1 x2 x4  kb kx = some r) : Rn d 289 (some .boolean) 48 [some (.ref q0), some (.int m1), some (.int m2), none, some (.int m4)] [] h Q := by
  have hT := hX12_isEmptyInDraft
  unfold FX12_isEmptyInDraft_b48 at e
  refine Rn.n hT 1 (pc' := 49) (L' := [some (.ref q0), some (.int m1), some (.int m2), none, some (.int m4)]) (st' := [.int (0 : Int32)]) rfl ?_
  exact Rn.weak (ll_s (ll_s (ll_s (ll_n (ll_s ll_e))))) (RX12_isEmptyInDraft_b49 hd hR t0 p1 p2 p4 L32_0 hb hk hq e)
def FX12_isEmptyInDraft_l14 (N : Nat) (s : iv_M) (q0 : Nat) (x1 : Int) (x2 : Int) (kx : Int → Option (Int)) : Nat → Int → Int → Option (Int)
  | 0, _, _ => none
  | n + 1, x3, x4 => ((rd s (q0 + 1) 14 2).bind fun v_3508 => (if v_3508 ≤ x4 then (kx x3) else (if x3 = 0 then (FX12_isEmptyInDraft_b48 N s q0 x1 x2 x4 (FX12_isEmptyInDraft_l14 N s q0 x1 x2 kx n) kx) else ((rd s (q0 + 10) 96 (w32 (x1 + (w32 (2 * x4))))).bind fun v_3511 => (if v_3511 = x2 then (FX12_isEmptyInDraft_b48 N s q0 x1 x2 x4 (FX12_isEmptyInDraft_l14 N s q0 x1 x2 kx n) kx) else (FX12_isEmptyInDraft_b49 N s q0 x1 x2 x4 1 (FX12_isEmptyInDraft_l14 N s q0 x1 x2 kx n) kx))))))
set_option maxRecDepth 10000 in
set_option maxHeartbeats 4000000 in
theorem RX12_isEmptyInDraft_l14 {d N nc Ls : Nat} {Xs : Nat → Int32} (hd : 0 ≤ d) {h : iv_H} {s : iv_M} (hR : Rep nc Ls Xs h s) {q0 : Nat} (t0 : T12 nc q0) {m1 : Int32} {x1 : Int} (p1 : m1.toInt = x1) {m2 : Int32} {x2 : Int} (p2 : m2.toInt = x2) {kx : Int → Option (Int)} {r : Int} {Q : Option Value → iv_H → Prop} (hk : ∀ (m3 : Int32) (x3 : Int) (p3 : m3.toInt = x3), kx x3 = some r → Rn d 289 (some .boolean) 56 [none, none, none, some (.int m3), none] [] h Q) (hq : ∀ (z : Int32), z.toInt = r → Q (some (.int z)) h) : ∀ (n : Nat) (m3 : Int32) (x3 : Int) (p3 : m3.toInt = x3) (m4 : Int32) (x4 : Int) (p4 : m4.toInt = x4), FX12_isEmptyInDraft_l14 N s q0 x1 x2 kx n x3 x4 = some r → Rn d 289 (some .boolean) 14 [some (.ref q0), some (.int m1), some (.int m2), some (.int m3), some (.int m4)] [] h Q := by
  have hT := hX12_isEmptyInDraft
  intro n
  induction n with
  | zero =>
    intro m3 x3 p3 m4 x4 p4 e
    rw [FX12_isEmptyInDraft_l14] at e
    cases e
  | succ n ih =>
    intro m3 x3 p3 m4 x4 p4 e
    rw [FX12_isEmptyInDraft_l14] at e
    refine Rn.n hT 2 (pc' := 17) (L' := [some (.ref q0), some (.int m1), some (.int m2), some (.int m3), some (.int m4)]) (st' := [.ref q0, .int m4]) rfl ?_
    refine Rn.hp hT rfl rfl (gR_hp (rp_gR hR (T12_o t0) rfl)) ?_
    refine Rn.n hT 1 (pc' := 21) (L' := [some (.ref q0), some (.int m1), some (.int m2), some (.int m3), some (.int m4)]) (st' := [.int (2 : Int32), .ref (q0 + 1), .int m4]) rfl ?_
    obtain ⟨v_3508, e_3508, e⟩ := Option.bind_eq_some_iff.mp e
    obtain ⟨z_3508, g_3508, p_3508⟩ := rp_aI hR (T12_1 t0) (T12_1l t0) L32_2 e_3508
    refine Rn.hp hT rfl rfl (aI_hp g_3508) ?_
    by_cases c_3509 : v_3508 ≤ x4
    · rw [if_pos c_3509] at e
      refine Rn.bt hT rfl rfl rfl (decide_eq_true ((ti_le p_3508 p4).mpr c_3509)) ?_
      exact Rn.weak (ll_n (ll_n (ll_n (ll_s (ll_n ll_e))))) (hk m3 x3 p3 e)
    · rw [if_neg c_3509] at e
      refine Rn.bf hT rfl rfl rfl (decide_eq_false (fun z => c_3509 ((ti_le p_3508 p4).mp z))) ?_
      refine Rn.n hT 1 (pc' := 26) (L' := [some (.ref q0), some (.int m1), some (.int m2), some (.int m3), some (.int m4)]) (st' := [.int m3]) rfl ?_
      by_cases c_3510 : x3 = 0
      · rw [if_pos c_3510] at e
        refine Rn.bt hT rfl rfl rfl (decide_eq_true ((ti_e p3 L32_0).mpr c_3510)) ?_
        exact Rn.weak (ll_s (ll_s (ll_s (ll_n (ll_s ll_e))))) (RX12_isEmptyInDraft_b48 hd hR t0 p1 p2 p4 ih hk hq e)
      · rw [if_neg c_3510] at e
        refine Rn.bf hT rfl rfl rfl (decide_eq_false (fun z => c_3510 ((ti_e p3 L32_0).mp z))) ?_
        refine Rn.n hT 1 (pc' := 30) (L' := [some (.ref q0), some (.int m1), some (.int m2), some (.int m3), some (.int m4)]) (st' := [.ref q0]) rfl ?_
        refine Rn.hp hT rfl rfl (gR_hp (rp_gR hR (T12_o t0) rfl)) ?_
        refine Rn.n hT 5 (pc' := 39) (L' := [some (.ref q0), some (.int m1), some (.int m2), some (.int m3), some (.int m4)]) (st' := [.int (m1 + ((2 : Int32) * m4)), .ref (q0 + 10)]) rfl ?_
        obtain ⟨v_3511, e_3511, e⟩ := Option.bind_eq_some_iff.mp e
        obtain ⟨z_3511, g_3511, p_3511⟩ := rp_aI hR (T12_10 t0) (T12_10l t0) (ti_add p1 (ti_mul L32_2 p4)) e_3511
        refine Rn.hp hT rfl rfl (aI_hp g_3511) ?_
        refine Rn.n hT 1 (pc' := 41) (L' := [some (.ref q0), some (.int m1), some (.int m2), some (.int m3), some (.int m4)]) (st' := [.int m2, .int z_3511]) rfl ?_
        by_cases c_3512 : v_3511 = x2
        · rw [if_pos c_3512] at e
          refine Rn.bt hT rfl rfl rfl (decide_eq_true ((ti_e p_3511 p2).mpr c_3512)) ?_
          exact Rn.weak (ll_s (ll_s (ll_s (ll_n (ll_s ll_e))))) (RX12_isEmptyInDraft_b48 hd hR t0 p1 p2 p4 ih hk hq e)
        · rw [if_neg c_3512] at e
          refine Rn.bf hT rfl rfl rfl (decide_eq_false (fun z => c_3512 ((ti_e p_3511 p2).mp z))) ?_
          refine Rn.n hT 2 (pc' := 49) (L' := [some (.ref q0), some (.int m1), some (.int m2), some (.int m3), some (.int m4)]) (st' := [.int (1 : Int32)]) rfl ?_
          exact Rn.weak (ll_s (ll_s (ll_s (ll_n (ll_s ll_e))))) (RX12_isEmptyInDraft_b49 hd hR t0 p1 p2 p4 L32_1 ih hk hq e)
def FX12_isEmptyInDraft_b10 (N : Nat) (s : iv_M) (q0 : Nat) (x1 : Int) (x2 : Int) (xs0 : Int) : Option (Int) := (FX12_isEmptyInDraft_l14 N s q0 x1 x2 (fun (x3506_3 : Int) => (if x3506_3 = 0 ∨ x3506_3 = 1 then some x3506_3 else none)) N xs0 0)
set_option maxRecDepth 10000 in
set_option maxHeartbeats 4000000 in
theorem RX12_isEmptyInDraft_b10 {d N nc Ls : Nat} {Xs : Nat → Int32} (hd : 0 ≤ d) {h : iv_H} {s : iv_M} (hR : Rep nc Ls Xs h s) {q0 : Nat} (t0 : T12 nc q0) {m1 : Int32} {x1 : Int} (p1 : m1.toInt = x1) {m2 : Int32} {x2 : Int} (p2 : m2.toInt = x2) {ms0 : Int32} {xs0 : Int} (ps0 : ms0.toInt = xs0) {r : Int} {Q : Option Value → iv_H → Prop} (hq : ∀ (z : Int32), z.toInt = r → Q (some (.int z)) h) (e : FX12_isEmptyInDraft_b10 N s q0 x1 x2 xs0 = some r) : Rn d 289 (some .boolean) 10 [some (.ref q0), some (.int m1), some (.int m2), none, none] [.int ms0] h Q := by
  have hT := hX12_isEmptyInDraft
  unfold FX12_isEmptyInDraft_b10 at e
  refine Rn.n hT 3 (pc' := 14) (L' := [some (.ref q0), some (.int m1), some (.int m2), some (.int ms0), some (.int (0 : Int32))]) (st' := []) rfl ?_
  refine Rn.weak (ll_s (ll_s (ll_s (ll_s (ll_s ll_e))))) (RX12_isEmptyInDraft_l14 hd hR t0 p1 p2 (fun m3506_3 x3506_3 p3506_3 e => ?_) hq N ms0 xs0 ps0 (0 : Int32) 0 L32_0 e)
  try dsimp only at e
  refine Rn.n hT 1 (pc' := 57) (L' := [none, none, none, some (.int m3506_3), none]) (st' := [.int m3506_3]) rfl ?_
  by_cases c_3507 : x3506_3 = 0 ∨ x3506_3 = 1
  · rw [if_pos c_3507] at e
    obtain rfl := Option.some.inj e
    exact Rn.ret hT rfl rfl (if_pos (ti_b p3506_3 c_3507)) (hq m3506_3 p3506_3)
  · rw [if_neg c_3507] at e
    cases e
def FX12_isEmptyInDraft (N : Nat) (s : iv_M) (q0 : Nat) (x1 : Int) (x2 : Int) : Option (Int) := (if x2 = (-1) then (FX12_isEmptyInDraft_b10 N s q0 x1 x2 0) else (FX12_isEmptyInDraft_b10 N s q0 x1 x2 1))
set_option maxRecDepth 10000 in
set_option maxHeartbeats 4000000 in
theorem RX12_isEmptyInDraft {d N nc Ls : Nat} {Xs : Nat → Int32} (hd : 1 ≤ d) {h : iv_H} {s : iv_M} (hR : Rep nc Ls Xs h s) {q0 : Nat} (t0 : T12 nc q0) {m1 : Int32} {x1 : Int} (p1 : m1.toInt = x1) {m2 : Int32} {x2 : Int} (p2 : m2.toInt = x2) {r : Int} {Q : Option Value → iv_H → Prop} (e : FX12_isEmptyInDraft N s q0 x1 x2 = some r) (hq : ∀ (z : Int32), z.toInt = r → Q (some (.int z)) h) : Cl d 289 [.ref q0, .int m1, .int m2] h Q := by
  obtain ⟨d, rfl⟩ : ∃ k, d = k + 1 := ⟨d - 1, by omega⟩
  have hd : 0 ≤ d := by omega
  have hT := hX12_isEmptyInDraft
  unfold FX12_isEmptyInDraft at e
  refine Cl.into (by decide) gX12_isEmptyInDraft rfl ?_
  show Rn d 289 (some .boolean) 0 [some (.ref q0), some (.int m1), some (.int m2), none, none] [] h Q
  refine Rn.n hT 2 (pc' := 2) (L' := [some (.ref q0), some (.int m1), some (.int m2), none, none]) (st' := [.int (-1 : Int32), .int m2]) rfl ?_
  by_cases c_3505 : x2 = (-1)
  · rw [if_pos c_3505] at e
    refine Rn.bt hT rfl rfl rfl (decide_eq_true ((ti_e p2 L32_m1).mpr c_3505)) ?_
    refine Rn.n hT 1 (pc' := 10) (L' := [some (.ref q0), some (.int m1), some (.int m2), none, none]) (st' := [.int (0 : Int32)]) rfl ?_
    exact Rn.weak (ll_s (ll_s (ll_s (ll_n (ll_n ll_e))))) (RX12_isEmptyInDraft_b10 hd hR t0 p1 p2 L32_0 hq e)
  · rw [if_neg c_3505] at e
    refine Rn.bf hT rfl rfl rfl (decide_eq_false (fun z => c_3505 ((ti_e p2 L32_m1).mp z))) ?_
    refine Rn.n hT 2 (pc' := 10) (L' := [some (.ref q0), some (.int m1), some (.int m2), none, none]) (st' := [.int (1 : Int32)]) rfl ?_
    exact Rn.weak (ll_s (ll_s (ll_s (ll_n (ll_n ll_e))))) (RX12_isEmptyInDraft_b10 hd hR t0 p1 p2 L32_1 hq e)
set_option maxRecDepth 10000 in
theorem hX12_redraw : iv_Tb 290 tX12_redraw := iv_tb_of (m := mX12_redraw) rfl
set_option maxRecDepth 10000 in
theorem gX12_redraw : PG.2 290 = some mX12_redraw := iv_pi_of (t := tX12_redraw) rfl (by decide)
def FX12_redraw_b19 (N : Nat) (s : iv_M)   : Option (Int × iv_M) := (some (0, s))
set_option maxRecDepth 10000 in
set_option maxHeartbeats 4000000 in
theorem RX12_redraw_b19 {d N nc Ls : Nat} {Xs : Nat → Int32} (hd : 3 ≤ d) {h : iv_H} {s : iv_M} (hR : Rep nc Ls Xs h s)   {r : Int × iv_M} {Q : Option Value → iv_H → Prop} (hq : ∀ (z : Int32) (h1 : iv_H), z.toInt = r.1 → Rep nc Ls Xs h1 r.2 → Q (some (.int z)) h1) (e : FX12_redraw_b19 N s   = some r) : Rn d 290 (some .boolean) 19 [none, none, none, none, none, none, none, none, none] [] h Q := by
  have hT := hX12_redraw
  unfold FX12_redraw_b19 at e
  refine Rn.n hT 1 (pc' := 20) (L' := [none, none, none, none, none, none, none, none, none]) (st' := [.int (0 : Int32)]) rfl ?_
  obtain rfl := Option.some.inj e
  exact Rn.ret hT rfl rfl rfl (hq (0 : Int32) h L32_0 hR)
def FX12_redraw_b88 (N : Nat) (s : iv_M) (x8 : Int) (xs0 : Int) (xs1 : Int) (qs2 : Nat) : Option (Int × iv_M) := ((wr s qs2 ((sh qs2).2 : Int) xs1 xs0).bind fun s_3533 => (if x8 = 0 ∨ x8 = 1 then some (x8, s_3533) else none))
set_option maxRecDepth 10000 in
set_option maxHeartbeats 4000000 in
theorem RX12_redraw_b88 {d N nc Ls : Nat} {Xs : Nat → Int32} (hd : 3 ≤ d) {h : iv_H} {s : iv_M} (hR : Rep nc Ls Xs h s) {m8 : Int32} {x8 : Int} (p8 : m8.toInt = x8) {ms0 : Int32} {xs0 : Int} (ps0 : ms0.toInt = xs0) {ms1 : Int32} {xs1 : Int} (ps1 : ms1.toInt = xs1) {qs2 : Nat} (ts2 : TA 0 nc qs2) {r : Int × iv_M} {Q : Option Value → iv_H → Prop} (hq : ∀ (z : Int32) (h1 : iv_H), z.toInt = r.1 → Rep nc Ls Xs h1 r.2 → Q (some (.int z)) h1) (e : FX12_redraw_b88 N s x8 xs0 xs1 qs2 = some r) : Rn d 290 (some .boolean) 88 [none, none, none, none, none, none, none, none, some (.int m8)] [.int ms0, .int ms1, .ref qs2] h Q := by
  have hT := hX12_redraw
  unfold FX12_redraw_b88 at e
  obtain ⟨s_3533, e_3534, e⟩ := Option.bind_eq_some_iff.mp e
  obtain ⟨h_3533, g_3534, R_3533⟩ := rp_wI hR ts2 rfl ps1 ps0 e_3534
  refine Rn.hp hT rfl rfl (wI_hp g_3534) ?_
  refine Rn.n hT 1 (pc' := 91) (L' := [none, none, none, none, none, none, none, none, some (.int m8)]) (st' := [.int m8]) rfl ?_
  by_cases c_3535 : x8 = 0 ∨ x8 = 1
  · rw [if_pos c_3535] at e
    obtain rfl := Option.some.inj e
    exact Rn.ret hT rfl rfl (if_pos (ti_b p8 c_3535)) (hq m8 h_3533 p8 R_3533)
  · rw [if_neg c_3535] at e
    cases e
def FX12_redraw_b164 (N : Nat) (s : iv_M)   : Option (Int × iv_M) := (some (1, s))
set_option maxRecDepth 10000 in
set_option maxHeartbeats 4000000 in
theorem RX12_redraw_b164 {d N nc Ls : Nat} {Xs : Nat → Int32} (hd : 3 ≤ d) {h : iv_H} {s : iv_M} (hR : Rep nc Ls Xs h s)   {r : Int × iv_M} {Q : Option Value → iv_H → Prop} (hq : ∀ (z : Int32) (h1 : iv_H), z.toInt = r.1 → Rep nc Ls Xs h1 r.2 → Q (some (.int z)) h1) (e : FX12_redraw_b164 N s   = some r) : Rn d 290 (some .boolean) 164 [none, none, none, none, none, none, none, none, none] [] h Q := by
  have hT := hX12_redraw
  unfold FX12_redraw_b164 at e
  refine Rn.n hT 1 (pc' := 165) (L' := [none, none, none, none, none, none, none, none, none]) (st' := [.int (1 : Int32)]) rfl ?_
  obtain rfl := Option.some.inj e
  exact Rn.ret hT rfl rfl rfl (hq (1 : Int32) h L32_1 hR)
def FX12_redraw (N : Nat) (s : iv_M) (q0 : Nat) (x1 : Int) (x2 : Int) (x3 : Int) (x4 : Int) : Option (Int × iv_M) := ((FX12_isDraft N s q0 x1).bind fun v_3513 => (if v_3513 = 0 then (FX12_redraw_b19 N s) else ((FX12_isWalk N s q0 x2 x3 x4).bind fun v_3515 => (if v_3515 = 0 then (FX12_redraw_b19 N s) else (if x2 = 1 then ((rd s (q0 + 10) 96 (w32 ((w32 (24 * x1)) + (w32 (2 * x3))))).bind fun v_3528 => ((FX12_by N s q0 v_3528 x4).bind fun v_3529 => ((FX12_isEmptyInDraft N s q0 (w32 (24 * x1)) v_3529).bind fun v_3530 => (if v_3530 = 0 then ((rd s (q0 + 10) 96 (w32 ((w32 (24 * x1)) + (w32 (2 * x3))))).bind fun v_3532 => (FX12_redraw_b88 N s v_3530 v_3532 (w32 ((w32 (24 * x1)) + (w32 (2 * x3)))) (q0 + 10))) else (FX12_redraw_b88 N s v_3530 v_3529 (w32 ((w32 (24 * x1)) + (w32 (2 * x3)))) (q0 + 10)))))) else (if x2 = 2 then ((rd s (q0 + 10) 96 (w32 ((w32 (24 * x1)) + (w32 (2 * x3))))).bind fun v_3522 => ((rd s (q0 + 10) 96 (w32 ((w32 (24 * x1)) + (w32 (2 * x4))))).bind fun v_3523 => ((wr s (q0 + 10) 96 (w32 ((w32 (24 * x1)) + (w32 (2 * x3)))) v_3523).bind fun s_3524 => ((wr s_3524 (q0 + 10) 96 (w32 ((w32 (24 * x1)) + (w32 (2 * x4)))) v_3522).bind fun s_3526 => (FX12_redraw_b164 N s_3526))))) else ((rd s (q0 + 10) 96 (w32 ((w32 ((w32 (24 * x1)) + (w32 (2 * x3)))) + 1))).bind fun v_3519 => ((wr s (q0 + 10) 96 (w32 ((w32 ((w32 (24 * x1)) + (w32 (2 * x3)))) + 1)) (bAn (w32 (v_3519 + 1)) 3)).bind fun s_3520 => (FX12_redraw_b164 N s_3520)))))))))
set_option maxRecDepth 10000 in
set_option maxHeartbeats 4000000 in
theorem RX12_redraw {d N nc Ls : Nat} {Xs : Nat → Int32} (hd : 4 ≤ d) {h : iv_H} {s : iv_M} (hR : Rep nc Ls Xs h s) {q0 : Nat} (t0 : T12 nc q0) {m1 : Int32} {x1 : Int} (p1 : m1.toInt = x1) {m2 : Int32} {x2 : Int} (p2 : m2.toInt = x2) {m3 : Int32} {x3 : Int} (p3 : m3.toInt = x3) {m4 : Int32} {x4 : Int} (p4 : m4.toInt = x4) {r : Int × iv_M} {Q : Option Value → iv_H → Prop} (e : FX12_redraw N s q0 x1 x2 x3 x4 = some r) (hq : ∀ (z : Int32) (h1 : iv_H), z.toInt = r.1 → Rep nc Ls Xs h1 r.2 → Q (some (.int z)) h1) : Cl d 290 [.ref q0, .int m1, .int m2, .int m3, .int m4] h Q := by
  obtain ⟨d, rfl⟩ : ∃ k, d = k + 1 := ⟨d - 1, by omega⟩
  have hd : 3 ≤ d := by omega
  have hT := hX12_redraw
  unfold FX12_redraw at e
  refine Cl.into (by decide) gX12_redraw rfl ?_
  show Rn d 290 (some .boolean) 0 [some (.ref q0), some (.int m1), some (.int m2), some (.int m3), some (.int m4), none, none, none, none] [] h Q
  refine Rn.n hT 2 (pc' := 2) (L' := [some (.ref q0), some (.int m1), some (.int m2), some (.int m3), some (.int m4), none, none, none, none]) (st' := [.int m1, .ref q0]) rfl ?_
  obtain ⟨v_3513, e_3513, e⟩ := Option.bind_eq_some_iff.mp e
  refine Rn.call hT rfl rfl rfl (Nat.le_of_ble_eq_true rfl) (rcv_v gX12_isDraft (by omega) (rp_ck hR (T12_o t0))) (RX12_isDraft (by omega) hR t0 p1 e_3513 (fun z_3513 p_3513 => ?_))
  show Rn d _ _ 5 [some (.ref q0), some (.int m1), some (.int m2), some (.int m3), some (.int m4), none, none, none, none] [.int z_3513] h Q
  by_cases c_3514 : v_3513 = 0
  · rw [if_pos c_3514] at e
    refine Rn.bt hT rfl rfl rfl (decide_eq_true ((ti_e p_3513 L32_0).mpr c_3514)) ?_
    exact Rn.weak (ll_n (ll_n (ll_n (ll_n (ll_n (ll_n (ll_n (ll_n (ll_n ll_e))))))))) (RX12_redraw_b19 hd hR hq e)
  · rw [if_neg c_3514] at e
    refine Rn.bf hT rfl rfl rfl (decide_eq_false (fun z => c_3514 ((ti_e p_3513 L32_0).mp z))) ?_
    refine Rn.n hT 4 (pc' := 13) (L' := [some (.ref q0), some (.int m1), some (.int m2), some (.int m3), some (.int m4), none, none, none, none]) (st' := [.int m4, .int m3, .int m2, .ref q0]) rfl ?_
    obtain ⟨v_3515, e_3515, e⟩ := Option.bind_eq_some_iff.mp e
    refine Rn.call hT rfl rfl rfl (Nat.le_of_ble_eq_true rfl) (rcv_v gX12_isWalk (by omega) (rp_ck hR (T12_o t0))) (RX12_isWalk (by omega) hR t0 p2 p3 p4 e_3515 (fun z_3515 p_3515 => ?_))
    show Rn d _ _ 16 [some (.ref q0), some (.int m1), some (.int m2), some (.int m3), some (.int m4), none, none, none, none] [.int z_3515] h Q
    by_cases c_3516 : v_3515 = 0
    · rw [if_pos c_3516] at e
      refine Rn.bf hT rfl rfl rfl (decide_eq_false (fun z => z ((ti_e p_3515 L32_0).mpr c_3516))) ?_
      exact Rn.weak (ll_n (ll_n (ll_n (ll_n (ll_n (ll_n (ll_n (ll_n (ll_n ll_e))))))))) (RX12_redraw_b19 hd hR hq e)
    · rw [if_neg c_3516] at e
      refine Rn.bt hT rfl rfl rfl (decide_eq_true (fun z => c_3516 ((ti_e p_3515 L32_0).mp z))) ?_
      refine Rn.n hT 12 (pc' := 37) (L' := [some (.ref q0), some (.int m1), some (.int m2), some (.int m3), some (.int m4), some (.int ((24 : Int32) * m1)), some (.int (((24 : Int32) * m1) + ((2 : Int32) * m3))), none, none]) (st' := [.int (1 : Int32), .int m2]) rfl ?_
      by_cases c_3517 : x2 = 1
      · rw [if_pos c_3517] at e
        refine Rn.bf hT rfl rfl rfl (decide_eq_false (fun z => z ((ti_e p2 L32_1).mpr c_3517))) ?_
        refine Rn.n hT 2 (pc' := 42) (L' := [some (.ref q0), some (.int m1), some (.int m2), some (.int m3), some (.int m4), some (.int ((24 : Int32) * m1)), some (.int (((24 : Int32) * m1) + ((2 : Int32) * m3))), none, none]) (st' := [.ref q0, .ref q0]) rfl ?_
        refine Rn.hp hT rfl rfl (gR_hp (rp_gR hR (T12_o t0) rfl)) ?_
        refine Rn.n hT 1 (pc' := 47) (L' := [some (.ref q0), some (.int m1), some (.int m2), some (.int m3), some (.int m4), some (.int ((24 : Int32) * m1)), some (.int (((24 : Int32) * m1) + ((2 : Int32) * m3))), none, none]) (st' := [.int (((24 : Int32) * m1) + ((2 : Int32) * m3)), .ref (q0 + 10), .ref q0]) rfl ?_
        obtain ⟨v_3528, e_3528, e⟩ := Option.bind_eq_some_iff.mp e
        obtain ⟨z_3528, g_3528, p_3528⟩ := rp_aI hR (T12_10 t0) (T12_10l t0) (ti_add (ti_mul L32_24 p1) (ti_mul L32_2 p3)) e_3528
        refine Rn.hp hT rfl rfl (aI_hp g_3528) ?_
        refine Rn.n hT 1 (pc' := 50) (L' := [some (.ref q0), some (.int m1), some (.int m2), some (.int m3), some (.int m4), some (.int ((24 : Int32) * m1)), some (.int (((24 : Int32) * m1) + ((2 : Int32) * m3))), none, none]) (st' := [.int m4, .int z_3528, .ref q0]) rfl ?_
        obtain ⟨v_3529, e_3529, e⟩ := Option.bind_eq_some_iff.mp e
        refine Rn.call hT rfl rfl rfl (Nat.le_of_ble_eq_true rfl) (rcv_v gX12_by (by omega) (rp_ck hR (T12_o t0))) (RX12_by (by omega) hR t0 p_3528 p4 e_3529 (fun z_3529 p_3529 => ?_))
        show Rn d _ _ 53 [some (.ref q0), some (.int m1), some (.int m2), some (.int m3), some (.int m4), some (.int ((24 : Int32) * m1)), some (.int (((24 : Int32) * m1) + ((2 : Int32) * m3))), none, none] [.int z_3529] h Q
        refine Rn.n hT 4 (pc' := 60) (L' := [some (.ref q0), some (.int m1), some (.int m2), some (.int m3), some (.int m4), some (.int ((24 : Int32) * m1)), some (.int (((24 : Int32) * m1) + ((2 : Int32) * m3))), some (.int z_3529), none]) (st' := [.int z_3529, .int ((24 : Int32) * m1), .ref q0]) rfl ?_
        obtain ⟨v_3530, e_3530, e⟩ := Option.bind_eq_some_iff.mp e
        refine Rn.call hT rfl rfl rfl (Nat.le_of_ble_eq_true rfl) (rcv_v gX12_isEmptyInDraft (by omega) (rp_ck hR (T12_o t0))) (RX12_isEmptyInDraft (by omega) hR t0 (ti_mul L32_24 p1) p_3529 e_3530 (fun z_3530 p_3530 => ?_))
        show Rn d _ _ 63 [some (.ref q0), some (.int m1), some (.int m2), some (.int m3), some (.int m4), some (.int ((24 : Int32) * m1)), some (.int (((24 : Int32) * m1) + ((2 : Int32) * m3))), some (.int z_3529), none] [.int z_3530] h Q
        refine Rn.n hT 2 (pc' := 66) (L' := [some (.ref q0), some (.int m1), some (.int m2), some (.int m3), some (.int m4), some (.int ((24 : Int32) * m1)), some (.int (((24 : Int32) * m1) + ((2 : Int32) * m3))), some (.int z_3529), some (.int z_3530)]) (st' := [.ref q0]) rfl ?_
        refine Rn.hp hT rfl rfl (gR_hp (rp_gR hR (T12_o t0) rfl)) ?_
        refine Rn.n hT 2 (pc' := 73) (L' := [some (.ref q0), some (.int m1), some (.int m2), some (.int m3), some (.int m4), some (.int ((24 : Int32) * m1)), some (.int (((24 : Int32) * m1) + ((2 : Int32) * m3))), some (.int z_3529), some (.int z_3530)]) (st' := [.int z_3530, .int (((24 : Int32) * m1) + ((2 : Int32) * m3)), .ref (q0 + 10)]) rfl ?_
        by_cases c_3531 : v_3530 = 0
        · rw [if_pos c_3531] at e
          refine Rn.bt hT rfl rfl rfl (decide_eq_true ((ti_e p_3530 L32_0).mpr c_3531)) ?_
          refine Rn.n hT 1 (pc' := 82) (L' := [some (.ref q0), some (.int m1), some (.int m2), some (.int m3), some (.int m4), some (.int ((24 : Int32) * m1)), some (.int (((24 : Int32) * m1) + ((2 : Int32) * m3))), some (.int z_3529), some (.int z_3530)]) (st' := [.ref q0, .int (((24 : Int32) * m1) + ((2 : Int32) * m3)), .ref (q0 + 10)]) rfl ?_
          refine Rn.hp hT rfl rfl (gR_hp (rp_gR hR (T12_o t0) rfl)) ?_
          refine Rn.n hT 1 (pc' := 87) (L' := [some (.ref q0), some (.int m1), some (.int m2), some (.int m3), some (.int m4), some (.int ((24 : Int32) * m1)), some (.int (((24 : Int32) * m1) + ((2 : Int32) * m3))), some (.int z_3529), some (.int z_3530)]) (st' := [.int (((24 : Int32) * m1) + ((2 : Int32) * m3)), .ref (q0 + 10), .int (((24 : Int32) * m1) + ((2 : Int32) * m3)), .ref (q0 + 10)]) rfl ?_
          obtain ⟨v_3532, e_3532, e⟩ := Option.bind_eq_some_iff.mp e
          obtain ⟨z_3532, g_3532, p_3532⟩ := rp_aI hR (T12_10 t0) (T12_10l t0) (ti_add (ti_mul L32_24 p1) (ti_mul L32_2 p3)) e_3532
          refine Rn.hp hT rfl rfl (aI_hp g_3532) ?_
          exact Rn.weak (ll_n (ll_n (ll_n (ll_n (ll_n (ll_n (ll_n (ll_n (ll_s ll_e))))))))) (RX12_redraw_b88 hd hR p_3530 p_3532 (ti_add (ti_mul L32_24 p1) (ti_mul L32_2 p3)) (T12_10 t0) hq e)
        · rw [if_neg c_3531] at e
          refine Rn.bf hT rfl rfl rfl (decide_eq_false (fun z => c_3531 ((ti_e p_3530 L32_0).mp z))) ?_
          refine Rn.n hT 2 (pc' := 88) (L' := [some (.ref q0), some (.int m1), some (.int m2), some (.int m3), some (.int m4), some (.int ((24 : Int32) * m1)), some (.int (((24 : Int32) * m1) + ((2 : Int32) * m3))), some (.int z_3529), some (.int z_3530)]) (st' := [.int z_3529, .int (((24 : Int32) * m1) + ((2 : Int32) * m3)), .ref (q0 + 10)]) rfl ?_
          exact Rn.weak (ll_n (ll_n (ll_n (ll_n (ll_n (ll_n (ll_n (ll_n (ll_s ll_e))))))))) (RX12_redraw_b88 hd hR p_3530 p_3529 (ti_add (ti_mul L32_24 p1) (ti_mul L32_2 p3)) (T12_10 t0) hq e)
      · rw [if_neg c_3517] at e
        refine Rn.bt hT rfl rfl rfl (decide_eq_true (fun z => c_3517 ((ti_e p2 L32_1).mp z))) ?_
        refine Rn.n hT 2 (pc' := 94) (L' := [some (.ref q0), some (.int m1), some (.int m2), some (.int m3), some (.int m4), some (.int ((24 : Int32) * m1)), some (.int (((24 : Int32) * m1) + ((2 : Int32) * m3))), none, none]) (st' := [.int (2 : Int32), .int m2]) rfl ?_
        by_cases c_3518 : x2 = 2
        · rw [if_pos c_3518] at e
          refine Rn.bf hT rfl rfl rfl (decide_eq_false (fun z => z ((ti_e p2 L32_2).mpr c_3518))) ?_
          refine Rn.n hT 1 (pc' := 98) (L' := [some (.ref q0), some (.int m1), some (.int m2), some (.int m3), some (.int m4), some (.int ((24 : Int32) * m1)), some (.int (((24 : Int32) * m1) + ((2 : Int32) * m3))), none, none]) (st' := [.ref q0]) rfl ?_
          refine Rn.hp hT rfl rfl (gR_hp (rp_gR hR (T12_o t0) rfl)) ?_
          refine Rn.n hT 1 (pc' := 103) (L' := [some (.ref q0), some (.int m1), some (.int m2), some (.int m3), some (.int m4), some (.int ((24 : Int32) * m1)), some (.int (((24 : Int32) * m1) + ((2 : Int32) * m3))), none, none]) (st' := [.int (((24 : Int32) * m1) + ((2 : Int32) * m3)), .ref (q0 + 10)]) rfl ?_
          obtain ⟨v_3522, e_3522, e⟩ := Option.bind_eq_some_iff.mp e
          obtain ⟨z_3522, g_3522, p_3522⟩ := rp_aI hR (T12_10 t0) (T12_10l t0) (ti_add (ti_mul L32_24 p1) (ti_mul L32_2 p3)) e_3522
          refine Rn.hp hT rfl rfl (aI_hp g_3522) ?_
          refine Rn.n hT 2 (pc' := 107) (L' := [some (.ref q0), some (.int m1), some (.int m2), some (.int m3), some (.int m4), some (.int ((24 : Int32) * m1)), some (.int (((24 : Int32) * m1) + ((2 : Int32) * m3))), some (.int z_3522), none]) (st' := [.ref q0]) rfl ?_
          refine Rn.hp hT rfl rfl (gR_hp (rp_gR hR (T12_o t0) rfl)) ?_
          refine Rn.n hT 2 (pc' := 113) (L' := [some (.ref q0), some (.int m1), some (.int m2), some (.int m3), some (.int m4), some (.int ((24 : Int32) * m1)), some (.int (((24 : Int32) * m1) + ((2 : Int32) * m3))), some (.int z_3522), none]) (st' := [.ref q0, .int (((24 : Int32) * m1) + ((2 : Int32) * m3)), .ref (q0 + 10)]) rfl ?_
          refine Rn.hp hT rfl rfl (gR_hp (rp_gR hR (T12_o t0) rfl)) ?_
          refine Rn.n hT 5 (pc' := 123) (L' := [some (.ref q0), some (.int m1), some (.int m2), some (.int m3), some (.int m4), some (.int ((24 : Int32) * m1)), some (.int (((24 : Int32) * m1) + ((2 : Int32) * m3))), some (.int z_3522), none]) (st' := [.int (((24 : Int32) * m1) + ((2 : Int32) * m4)), .ref (q0 + 10), .int (((24 : Int32) * m1) + ((2 : Int32) * m3)), .ref (q0 + 10)]) rfl ?_
          obtain ⟨v_3523, e_3523, e⟩ := Option.bind_eq_some_iff.mp e
          obtain ⟨z_3523, g_3523, p_3523⟩ := rp_aI hR (T12_10 t0) (T12_10l t0) (ti_add (ti_mul L32_24 p1) (ti_mul L32_2 p4)) e_3523
          refine Rn.hp hT rfl rfl (aI_hp g_3523) ?_
          obtain ⟨s_3524, e_3525, e⟩ := Option.bind_eq_some_iff.mp e
          obtain ⟨h_3524, g_3525, R_3524⟩ := rp_wI hR (T12_10 t0) (T12_10l t0) (ti_add (ti_mul L32_24 p1) (ti_mul L32_2 p3)) p_3523 e_3525
          refine Rn.hp hT rfl rfl (wI_hp g_3525) ?_
          refine Rn.n hT 1 (pc' := 126) (L' := [some (.ref q0), some (.int m1), some (.int m2), some (.int m3), some (.int m4), some (.int ((24 : Int32) * m1)), some (.int (((24 : Int32) * m1) + ((2 : Int32) * m3))), some (.int z_3522), none]) (st' := [.ref q0]) rfl ?_
          refine Rn.hp hT rfl rfl (gR_hp (rp_gR R_3524 (T12_o t0) rfl)) ?_
          refine Rn.n hT 6 (pc' := 138) (L' := [some (.ref q0), some (.int m1), some (.int m2), some (.int m3), some (.int m4), some (.int ((24 : Int32) * m1)), some (.int (((24 : Int32) * m1) + ((2 : Int32) * m3))), some (.int z_3522), none]) (st' := [.int z_3522, .int (((24 : Int32) * m1) + ((2 : Int32) * m4)), .ref (q0 + 10)]) rfl ?_
          obtain ⟨s_3526, e_3527, e⟩ := Option.bind_eq_some_iff.mp e
          obtain ⟨h_3526, g_3527, R_3526⟩ := rp_wI R_3524 (T12_10 t0) (T12_10l t0) (ti_add (ti_mul L32_24 p1) (ti_mul L32_2 p4)) p_3522 e_3527
          refine Rn.hp hT rfl rfl (wI_hp g_3527) ?_
          refine Rn.n hT 1 (pc' := 164) (L' := [some (.ref q0), some (.int m1), some (.int m2), some (.int m3), some (.int m4), some (.int ((24 : Int32) * m1)), some (.int (((24 : Int32) * m1) + ((2 : Int32) * m3))), some (.int z_3522), none]) (st' := []) rfl ?_
          exact Rn.weak (ll_n (ll_n (ll_n (ll_n (ll_n (ll_n (ll_n (ll_n (ll_n ll_e))))))))) (RX12_redraw_b164 hd R_3526 hq e)
        · rw [if_neg c_3518] at e
          refine Rn.bt hT rfl rfl rfl (decide_eq_true (fun z => c_3518 ((ti_e p2 L32_2).mp z))) ?_
          refine Rn.n hT 1 (pc' := 143) (L' := [some (.ref q0), some (.int m1), some (.int m2), some (.int m3), some (.int m4), some (.int ((24 : Int32) * m1)), some (.int (((24 : Int32) * m1) + ((2 : Int32) * m3))), none, none]) (st' := [.ref q0]) rfl ?_
          refine Rn.hp hT rfl rfl (gR_hp (rp_gR hR (T12_o t0) rfl)) ?_
          refine Rn.n hT 4 (pc' := 151) (L' := [some (.ref q0), some (.int m1), some (.int m2), some (.int m3), some (.int m4), some (.int ((24 : Int32) * m1)), some (.int (((24 : Int32) * m1) + ((2 : Int32) * m3))), none, none]) (st' := [.ref q0, .int ((((24 : Int32) * m1) + ((2 : Int32) * m3)) + (1 : Int32)), .ref (q0 + 10)]) rfl ?_
          refine Rn.hp hT rfl rfl (gR_hp (rp_gR hR (T12_o t0) rfl)) ?_
          refine Rn.n hT 3 (pc' := 158) (L' := [some (.ref q0), some (.int m1), some (.int m2), some (.int m3), some (.int m4), some (.int ((24 : Int32) * m1)), some (.int (((24 : Int32) * m1) + ((2 : Int32) * m3))), none, none]) (st' := [.int ((((24 : Int32) * m1) + ((2 : Int32) * m3)) + (1 : Int32)), .ref (q0 + 10), .int ((((24 : Int32) * m1) + ((2 : Int32) * m3)) + (1 : Int32)), .ref (q0 + 10)]) rfl ?_
          obtain ⟨v_3519, e_3519, e⟩ := Option.bind_eq_some_iff.mp e
          obtain ⟨z_3519, g_3519, p_3519⟩ := rp_aI hR (T12_10 t0) (T12_10l t0) (ti_add (ti_add (ti_mul L32_24 p1) (ti_mul L32_2 p3)) L32_1) e_3519
          refine Rn.hp hT rfl rfl (aI_hp g_3519) ?_
          refine Rn.n hT 4 (pc' := 163) (L' := [some (.ref q0), some (.int m1), some (.int m2), some (.int m3), some (.int m4), some (.int ((24 : Int32) * m1)), some (.int (((24 : Int32) * m1) + ((2 : Int32) * m3))), none, none]) (st' := [.int ((z_3519 + (1 : Int32)) &&& (3 : Int32)), .int ((((24 : Int32) * m1) + ((2 : Int32) * m3)) + (1 : Int32)), .ref (q0 + 10)]) rfl ?_
          obtain ⟨s_3520, e_3521, e⟩ := Option.bind_eq_some_iff.mp e
          obtain ⟨h_3520, g_3521, R_3520⟩ := rp_wI hR (T12_10 t0) (T12_10l t0) (ti_add (ti_add (ti_mul L32_24 p1) (ti_mul L32_2 p3)) L32_1) (ti_and (ti_add p_3519 L32_1) L32_3) e_3521
          refine Rn.hp hT rfl rfl (wI_hp g_3521) ?_
          exact Rn.weak (ll_n (ll_n (ll_n (ll_n (ll_n (ll_n (ll_n (ll_n (ll_n ll_e))))))))) (RX12_redraw_b164 hd R_3520 hq e)
set_option maxRecDepth 10000 in
theorem hX12_whereNow : iv_Tb 291 tX12_whereNow := iv_tb_of (m := mX12_whereNow) rfl
set_option maxRecDepth 10000 in
theorem gX12_whereNow : PG.2 291 = some mX12_whereNow := iv_pi_of (t := tX12_whereNow) rfl (by decide)
def FX12_whereNow_l4 (N : Nat) (s : iv_M) (q0 : Nat) (kx : Int → Option (Int)) : Nat → Int → Int → Option (Int)
  | 0, _, _ => none
  | n + 1, y1, x3 => ((rd s (q0 + 1) 14 2).bind fun v_3537 => (if v_3537 ≤ x3 then (kx y1) else ((rd s (q0 + 3) 12 x3).bind fun v_3539 => (FX12_whereNow_l4 N s q0 kx n (w64 ((w64 (y1 * 16)) + v_3539)) (w32 (x3 + 1))))))
set_option maxRecDepth 10000 in
set_option maxHeartbeats 4000000 in
theorem RX12_whereNow_l4 {d N nc Ls : Nat} {Xs : Nat → Int32} (hd : 0 ≤ d) {h : iv_H} {s : iv_M} (hR : Rep nc Ls Xs h s) {q0 : Nat} (t0 : T12 nc q0) {kx : Int → Option (Int)} {r : Int} {Q : Option Value → iv_H → Prop} (hk : ∀ (j1 : Int64) (y1 : Int) (p1 : j1.toInt = y1), kx y1 = some r → Rn d 291 (some .long) 34 [none, some (.long j1), none, none] [] h Q) (hq : ∀ (z : Int64), z.toInt = r → Q (some (.long z)) h) : ∀ (n : Nat) (j1 : Int64) (y1 : Int) (p1 : j1.toInt = y1) (m3 : Int32) (x3 : Int) (p3 : m3.toInt = x3), FX12_whereNow_l4 N s q0 kx n y1 x3 = some r → Rn d 291 (some .long) 4 [some (.ref q0), some (.long j1), none, some (.int m3)] [] h Q := by
  have hT := hX12_whereNow
  intro n
  induction n with
  | zero =>
    intro j1 y1 p1 m3 x3 p3 e
    rw [FX12_whereNow_l4] at e
    cases e
  | succ n ih =>
    intro j1 y1 p1 m3 x3 p3 e
    rw [FX12_whereNow_l4] at e
    refine Rn.n hT 2 (pc' := 6) (L' := [some (.ref q0), some (.long j1), none, some (.int m3)]) (st' := [.ref q0, .int m3]) rfl ?_
    refine Rn.hp hT rfl rfl (gR_hp (rp_gR hR (T12_o t0) rfl)) ?_
    refine Rn.n hT 1 (pc' := 10) (L' := [some (.ref q0), some (.long j1), none, some (.int m3)]) (st' := [.int (2 : Int32), .ref (q0 + 1), .int m3]) rfl ?_
    obtain ⟨v_3537, e_3537, e⟩ := Option.bind_eq_some_iff.mp e
    obtain ⟨z_3537, g_3537, p_3537⟩ := rp_aI hR (T12_1 t0) (T12_1l t0) L32_2 e_3537
    refine Rn.hp hT rfl rfl (aI_hp g_3537) ?_
    by_cases c_3538 : v_3537 ≤ x3
    · rw [if_pos c_3538] at e
      refine Rn.bt hT rfl rfl rfl (decide_eq_true ((ti_le p_3537 p3).mpr c_3538)) ?_
      exact Rn.weak (ll_n (ll_s (ll_n (ll_n ll_e)))) (hk j1 y1 p1 e)
    · rw [if_neg c_3538] at e
      refine Rn.bf hT rfl rfl rfl (decide_eq_false (fun z => c_3538 ((ti_le p_3537 p3).mp z))) ?_
      refine Rn.n hT 4 (pc' := 20) (L' := [some (.ref q0), some (.long j1), none, some (.int m3)]) (st' := [.ref q0, .long (j1 * (16 : Int64))]) rfl ?_
      refine Rn.hp hT rfl rfl (gR_hp (rp_gR hR (T12_o t0) rfl)) ?_
      refine Rn.n hT 1 (pc' := 24) (L' := [some (.ref q0), some (.long j1), none, some (.int m3)]) (st' := [.int m3, .ref (q0 + 3), .long (j1 * (16 : Int64))]) rfl ?_
      obtain ⟨v_3539, e_3539, e⟩ := Option.bind_eq_some_iff.mp e
      obtain ⟨z_3539, g_3539, p_3539⟩ := rp_aI hR (T12_3 t0) (T12_3l t0) p3 e_3539
      refine Rn.hp hT rfl rfl (aI_hp g_3539) ?_
      refine Rn.n hT 5 (pc' := 4) (L' := [some (.ref q0), some (.long ((j1 * (16 : Int64)) + (z_3539).toInt64)), none, some (.int (m3 + (1 : Int32)))]) (st' := []) rfl ?_
      exact Rn.weak (ll_s (ll_s (ll_n (ll_s ll_e)))) (ih ((j1 * (16 : Int64)) + (z_3539).toInt64) (w64 ((w64 (y1 * 16)) + v_3539)) (tj_add (tj_mul p1 L64_16) (ti_j p_3539)) (m3 + (1 : Int32)) (w32 (x3 + 1)) (ti_add p3 L32_1) e)
def FX12_whereNow (N : Nat) (s : iv_M) (q0 : Nat) : Option (Int) := (FX12_whereNow_l4 N s q0 (fun (y3536_1 : Int) => (some y3536_1)) N 0 0)
set_option maxRecDepth 10000 in
set_option maxHeartbeats 4000000 in
theorem RX12_whereNow {d N nc Ls : Nat} {Xs : Nat → Int32} (hd : 1 ≤ d) {h : iv_H} {s : iv_M} (hR : Rep nc Ls Xs h s) {q0 : Nat} (t0 : T12 nc q0) {r : Int} {Q : Option Value → iv_H → Prop} (e : FX12_whereNow N s q0 = some r) (hq : ∀ (z : Int64), z.toInt = r → Q (some (.long z)) h) : Cl d 291 [.ref q0] h Q := by
  obtain ⟨d, rfl⟩ : ∃ k, d = k + 1 := ⟨d - 1, by omega⟩
  have hd : 0 ≤ d := by omega
  have hT := hX12_whereNow
  unfold FX12_whereNow at e
  refine Cl.into (by decide) gX12_whereNow rfl ?_
  show Rn d 291 (some .long) 0 [some (.ref q0), none, none, none] [] h Q
  refine Rn.n hT 4 (pc' := 4) (L' := [some (.ref q0), some (.long (0 : Int64)), none, some (.int (0 : Int32))]) (st' := []) rfl ?_
  refine Rn.weak (ll_s (ll_s (ll_n (ll_s ll_e)))) (RX12_whereNow_l4 hd hR t0 (fun j3536_1 y3536_1 p3536_1 e => ?_) hq N (0 : Int64) 0 L64_0 (0 : Int32) 0 L32_0 e)
  try dsimp only at e
  refine Rn.n hT 1 (pc' := 35) (L' := [none, some (.long j3536_1), none, none]) (st' := [.long j3536_1]) rfl ?_
  obtain rfl := Option.some.inj e
  exact Rn.ret hT rfl rfl rfl (hq j3536_1 p3536_1)
set_option maxRecDepth 10000 in
theorem hX12_howNow : iv_Tb 292 tX12_howNow := iv_tb_of (m := mX12_howNow) rfl
set_option maxRecDepth 10000 in
theorem gX12_howNow : PG.2 292 = some mX12_howNow := iv_pi_of (t := tX12_howNow) rfl (by decide)
def FX12_howNow_l4 (N : Nat) (s : iv_M) (q0 : Nat) (kx : Int → Option (Int)) : Nat → Int → Int → Option (Int)
  | 0, _, _ => none
  | n + 1, x1, x2 => ((rd s (q0 + 1) 14 2).bind fun v_3541 => (if v_3541 ≤ x2 then (kx x1) else ((rd s (q0 + 4) 12 x2).bind fun v_3543 => (FX12_howNow_l4 N s q0 kx n (w32 ((w32 (4 * x1)) + v_3543)) (w32 (x2 + 1))))))
set_option maxRecDepth 10000 in
set_option maxHeartbeats 4000000 in
theorem RX12_howNow_l4 {d N nc Ls : Nat} {Xs : Nat → Int32} (hd : 0 ≤ d) {h : iv_H} {s : iv_M} (hR : Rep nc Ls Xs h s) {q0 : Nat} (t0 : T12 nc q0) {kx : Int → Option (Int)} {r : Int} {Q : Option Value → iv_H → Prop} (hk : ∀ (m1 : Int32) (x1 : Int) (p1 : m1.toInt = x1), kx x1 = some r → Rn d 292 (some .int) 31 [none, some (.int m1), none] [] h Q) (hq : ∀ (z : Int32), z.toInt = r → Q (some (.int z)) h) : ∀ (n : Nat) (m1 : Int32) (x1 : Int) (p1 : m1.toInt = x1) (m2 : Int32) (x2 : Int) (p2 : m2.toInt = x2), FX12_howNow_l4 N s q0 kx n x1 x2 = some r → Rn d 292 (some .int) 4 [some (.ref q0), some (.int m1), some (.int m2)] [] h Q := by
  have hT := hX12_howNow
  intro n
  induction n with
  | zero =>
    intro m1 x1 p1 m2 x2 p2 e
    rw [FX12_howNow_l4] at e
    cases e
  | succ n ih =>
    intro m1 x1 p1 m2 x2 p2 e
    rw [FX12_howNow_l4] at e
    refine Rn.n hT 2 (pc' := 6) (L' := [some (.ref q0), some (.int m1), some (.int m2)]) (st' := [.ref q0, .int m2]) rfl ?_
    refine Rn.hp hT rfl rfl (gR_hp (rp_gR hR (T12_o t0) rfl)) ?_
    refine Rn.n hT 1 (pc' := 10) (L' := [some (.ref q0), some (.int m1), some (.int m2)]) (st' := [.int (2 : Int32), .ref (q0 + 1), .int m2]) rfl ?_
    obtain ⟨v_3541, e_3541, e⟩ := Option.bind_eq_some_iff.mp e
    obtain ⟨z_3541, g_3541, p_3541⟩ := rp_aI hR (T12_1 t0) (T12_1l t0) L32_2 e_3541
    refine Rn.hp hT rfl rfl (aI_hp g_3541) ?_
    by_cases c_3542 : v_3541 ≤ x2
    · rw [if_pos c_3542] at e
      refine Rn.bt hT rfl rfl rfl (decide_eq_true ((ti_le p_3541 p2).mpr c_3542)) ?_
      exact Rn.weak (ll_n (ll_s (ll_n ll_e))) (hk m1 x1 p1 e)
    · rw [if_neg c_3542] at e
      refine Rn.bf hT rfl rfl rfl (decide_eq_false (fun z => c_3542 ((ti_le p_3541 p2).mp z))) ?_
      refine Rn.n hT 4 (pc' := 18) (L' := [some (.ref q0), some (.int m1), some (.int m2)]) (st' := [.ref q0, .int ((4 : Int32) * m1)]) rfl ?_
      refine Rn.hp hT rfl rfl (gR_hp (rp_gR hR (T12_o t0) rfl)) ?_
      refine Rn.n hT 1 (pc' := 22) (L' := [some (.ref q0), some (.int m1), some (.int m2)]) (st' := [.int m2, .ref (q0 + 4), .int ((4 : Int32) * m1)]) rfl ?_
      obtain ⟨v_3543, e_3543, e⟩ := Option.bind_eq_some_iff.mp e
      obtain ⟨z_3543, g_3543, p_3543⟩ := rp_aI hR (T12_4 t0) (T12_4l t0) p2 e_3543
      refine Rn.hp hT rfl rfl (aI_hp g_3543) ?_
      refine Rn.n hT 4 (pc' := 4) (L' := [some (.ref q0), some (.int (((4 : Int32) * m1) + z_3543)), some (.int (m2 + (1 : Int32)))]) (st' := []) rfl ?_
      exact Rn.weak (ll_s (ll_s (ll_s ll_e))) (ih (((4 : Int32) * m1) + z_3543) (w32 ((w32 (4 * x1)) + v_3543)) (ti_add (ti_mul L32_4 p1) p_3543) (m2 + (1 : Int32)) (w32 (x2 + 1)) (ti_add p2 L32_1) e)
def FX12_howNow (N : Nat) (s : iv_M) (q0 : Nat) : Option (Int) := (FX12_howNow_l4 N s q0 (fun (x3540_1 : Int) => (some x3540_1)) N 0 0)
set_option maxRecDepth 10000 in
set_option maxHeartbeats 4000000 in
theorem RX12_howNow {d N nc Ls : Nat} {Xs : Nat → Int32} (hd : 1 ≤ d) {h : iv_H} {s : iv_M} (hR : Rep nc Ls Xs h s) {q0 : Nat} (t0 : T12 nc q0) {r : Int} {Q : Option Value → iv_H → Prop} (e : FX12_howNow N s q0 = some r) (hq : ∀ (z : Int32), z.toInt = r → Q (some (.int z)) h) : Cl d 292 [.ref q0] h Q := by
  obtain ⟨d, rfl⟩ : ∃ k, d = k + 1 := ⟨d - 1, by omega⟩
  have hd : 0 ≤ d := by omega
  have hT := hX12_howNow
  unfold FX12_howNow at e
  refine Cl.into (by decide) gX12_howNow rfl ?_
  show Rn d 292 (some .int) 0 [some (.ref q0), none, none] [] h Q
  refine Rn.n hT 4 (pc' := 4) (L' := [some (.ref q0), some (.int (0 : Int32)), some (.int (0 : Int32))]) (st' := []) rfl ?_
  refine Rn.weak (ll_s (ll_s (ll_s ll_e))) (RX12_howNow_l4 hd hR t0 (fun m3540_1 x3540_1 p3540_1 e => ?_) hq N (0 : Int32) 0 L32_0 (0 : Int32) 0 L32_0 e)
  try dsimp only at e
  refine Rn.n hT 1 (pc' := 32) (L' := [none, some (.int m3540_1), none]) (st' := [.int m3540_1]) rfl ?_
  obtain rfl := Option.some.inj e
  exact Rn.ret hT rfl rfl rfl (hq m3540_1 p3540_1)
set_option maxRecDepth 10000 in
theorem hX12_laysSituation : iv_Tb 293 tX12_laysSituation := iv_tb_of (m := mX12_laysSituation) rfl
set_option maxRecDepth 10000 in
theorem gX12_laysSituation : PG.2 293 = some mX12_laysSituation := iv_pi_of (t := tX12_laysSituation) rfl (by decide)
def FX12_laysSituation_l18 (N : Nat) (q0 : Nat) (y2 : Int) (x4 : Int) (kx : iv_M → Option (iv_M)) : Nat → iv_M → Int → Option (iv_M)
  | 0, _, _ => none
  | n + 1, s, x5 => (if 16 ≤ x5 then (kx s) else ((wr s (q0 + 8) 16 x5 (-1)).bind fun s_3552 => (FX12_laysSituation_l18 N q0 y2 x4 kx n s_3552 (w32 (x5 + 1)))))
set_option maxRecDepth 10000 in
set_option maxHeartbeats 4000000 in
theorem RX12_laysSituation_l18 {d N nc Ls : Nat} {Xs : Nat → Int32} (hd : 0 ≤ d) {q0 : Nat} (t0 : T12 nc q0) {j2 : Int64} {y2 : Int} (p2 : j2.toInt = y2) {m4 : Int32} {x4 : Int} (p4 : m4.toInt = x4) {kx : iv_M → Option (iv_M)} {r : iv_M} {Q : Option Value → iv_H → Prop} (hk : ∀ (h : iv_H) (s : iv_M) (hR : Rep nc Ls Xs h s), kx s = some r → Rn d 293 none 39 [some (.ref q0), none, some (.long j2), none, some (.int m4), none] [] h Q) (hq : ∀ h1, Rep nc Ls Xs h1 r → Q none h1) : ∀ (n : Nat) (h : iv_H) (s : iv_M) (hR : Rep nc Ls Xs h s) (m5 : Int32) (x5 : Int) (p5 : m5.toInt = x5), FX12_laysSituation_l18 N q0 y2 x4 kx n s x5 = some r → Rn d 293 none 18 [some (.ref q0), none, some (.long j2), none, some (.int m4), some (.int m5)] [] h Q := by
  have hT := hX12_laysSituation
  intro n
  induction n with
  | zero =>
    intro h s hR m5 x5 p5 e
    rw [FX12_laysSituation_l18] at e
    cases e
  | succ n ih =>
    intro h s hR m5 x5 p5 e
    rw [FX12_laysSituation_l18] at e
    refine Rn.n hT 2 (pc' := 22) (L' := [some (.ref q0), none, some (.long j2), none, some (.int m4), some (.int m5)]) (st' := [.int (16 : Int32), .int m5]) rfl ?_
    by_cases c_3551 : 16 ≤ x5
    · rw [if_pos c_3551] at e
      refine Rn.bt hT rfl rfl rfl (decide_eq_true ((ti_le L32_16 p5).mpr c_3551)) ?_
      exact Rn.weak (ll_s (ll_n (ll_s (ll_n (ll_s (ll_n ll_e)))))) (hk h s hR e)
    · rw [if_neg c_3551] at e
      refine Rn.bf hT rfl rfl rfl (decide_eq_false (fun z => c_3551 ((ti_le L32_16 p5).mp z))) ?_
      refine Rn.n hT 1 (pc' := 26) (L' := [some (.ref q0), none, some (.long j2), none, some (.int m4), some (.int m5)]) (st' := [.ref q0]) rfl ?_
      refine Rn.hp hT rfl rfl (gR_hp (rp_gR hR (T12_o t0) rfl)) ?_
      refine Rn.n hT 2 (pc' := 32) (L' := [some (.ref q0), none, some (.long j2), none, some (.int m4), some (.int m5)]) (st' := [.int (-1 : Int32), .int m5, .ref (q0 + 8)]) rfl ?_
      obtain ⟨s_3552, e_3553, e⟩ := Option.bind_eq_some_iff.mp e
      obtain ⟨h_3552, g_3553, R_3552⟩ := rp_wI hR (T12_8 t0) (T12_8l t0) p5 L32_m1 e_3553
      refine Rn.hp hT rfl rfl (wI_hp g_3553) ?_
      refine Rn.n hT 2 (pc' := 18) (L' := [some (.ref q0), none, some (.long j2), none, some (.int m4), some (.int (m5 + (1 : Int32)))]) (st' := []) rfl ?_
      exact Rn.weak (ll_s (ll_n (ll_s (ll_n (ll_s (ll_s ll_e)))))) (ih h_3552 s_3552 R_3552 (m5 + (1 : Int32)) (w32 (x5 + 1)) (ti_add p5 L32_1) e)
def FX12_laysSituation_l49 (N : Nat) (q0 : Nat) (kx : iv_M → Option (iv_M)) : Nat → iv_M → Int → Int → Int → Option (iv_M)
  | 0, _, _, _, _ => none
  | n + 1, s, y2, x4, x5 => (if x5 < 0 then (kx s) else ((wr s (q0 + 3) 12 x5 (w32 (Int.tmod y2 16))).bind fun s_3555 => ((wr s_3555 (q0 + 4) 12 x5 (Int.tmod x4 4)).bind fun s_3557 => ((rd s_3557 (q0 + 3) 12 x5).bind fun v_3559 => ((wr s_3557 (q0 + 8) 16 v_3559 x5).bind fun s_3560 => (FX12_laysSituation_l49 N q0 kx n s_3560 (dv64 y2 16) (dv32 x4 4) (w32 (x5 + (-1)))))))))
set_option maxRecDepth 10000 in
set_option maxHeartbeats 4000000 in
theorem RX12_laysSituation_l49 {d N nc Ls : Nat} {Xs : Nat → Int32} (hd : 0 ≤ d) {q0 : Nat} (t0 : T12 nc q0) {kx : iv_M → Option (iv_M)} {r : iv_M} {Q : Option Value → iv_H → Prop} (hk : ∀ (h : iv_H) (s : iv_M) (hR : Rep nc Ls Xs h s), kx s = some r → Rn d 293 none 110 [none, none, none, none, none, none] [] h Q) (hq : ∀ h1, Rep nc Ls Xs h1 r → Q none h1) : ∀ (n : Nat) (h : iv_H) (s : iv_M) (hR : Rep nc Ls Xs h s) (j2 : Int64) (y2 : Int) (p2 : j2.toInt = y2) (m4 : Int32) (x4 : Int) (p4 : m4.toInt = x4) (m5 : Int32) (x5 : Int) (p5 : m5.toInt = x5), FX12_laysSituation_l49 N q0 kx n s y2 x4 x5 = some r → Rn d 293 none 49 [some (.ref q0), none, some (.long j2), none, some (.int m4), some (.int m5)] [] h Q := by
  have hT := hX12_laysSituation
  intro n
  induction n with
  | zero =>
    intro h s hR j2 y2 p2 m4 x4 p4 m5 x5 p5 e
    rw [FX12_laysSituation_l49] at e
    cases e
  | succ n ih =>
    intro h s hR j2 y2 p2 m4 x4 p4 m5 x5 p5 e
    rw [FX12_laysSituation_l49] at e
    refine Rn.n hT 1 (pc' := 51) (L' := [some (.ref q0), none, some (.long j2), none, some (.int m4), some (.int m5)]) (st' := [.int m5]) rfl ?_
    by_cases c_3554 : x5 < 0
    · rw [if_pos c_3554] at e
      refine Rn.bt hT rfl rfl rfl (decide_eq_true ((ti_l p5 L32_0).mpr c_3554)) ?_
      exact Rn.weak (ll_n (ll_n (ll_n (ll_n (ll_n (ll_n ll_e)))))) (hk h s hR e)
    · rw [if_neg c_3554] at e
      refine Rn.bf hT rfl rfl rfl (decide_eq_false (fun z => c_3554 ((ti_l p5 L32_0).mp z))) ?_
      refine Rn.n hT 1 (pc' := 55) (L' := [some (.ref q0), none, some (.long j2), none, some (.int m4), some (.int m5)]) (st' := [.ref q0]) rfl ?_
      refine Rn.hp hT rfl rfl (gR_hp (rp_gR hR (T12_o t0) rfl)) ?_
      refine Rn.n hT 5 (pc' := 66) (L' := [some (.ref q0), none, some (.long j2), none, some (.int m4), some (.int m5)]) (st' := [.int (((j2 - j2 / (16 : Int64) * (16 : Int64))).toInt32), .int m5, .ref (q0 + 3)]) rfl ?_
      obtain ⟨s_3555, e_3556, e⟩ := Option.bind_eq_some_iff.mp e
      obtain ⟨h_3555, g_3556, R_3555⟩ := rp_wI hR (T12_3 t0) (T12_3l t0) p5 (tj_i (tj_rem p2 L64_16)) e_3556
      refine Rn.hp hT rfl rfl (wI_hp g_3556) ?_
      refine Rn.n hT 1 (pc' := 68) (L' := [some (.ref q0), none, some (.long j2), none, some (.int m4), some (.int m5)]) (st' := [.ref q0]) rfl ?_
      refine Rn.hp hT rfl rfl (gR_hp (rp_gR R_3555 (T12_o t0) rfl)) ?_
      refine Rn.n hT 4 (pc' := 77) (L' := [some (.ref q0), none, some (.long j2), none, some (.int m4), some (.int m5)]) (st' := [.int (m4 - m4 / (4 : Int32) * (4 : Int32)), .int m5, .ref (q0 + 4)]) rfl ?_
      obtain ⟨s_3557, e_3558, e⟩ := Option.bind_eq_some_iff.mp e
      obtain ⟨h_3557, g_3558, R_3557⟩ := rp_wI R_3555 (T12_4 t0) (T12_4l t0) p5 (ti_rem p4 L32_4) e_3558
      refine Rn.hp hT rfl rfl (wI_hp g_3558) ?_
      refine Rn.n hT 1 (pc' := 79) (L' := [some (.ref q0), none, some (.long j2), none, some (.int m4), some (.int m5)]) (st' := [.ref q0]) rfl ?_
      refine Rn.hp hT rfl rfl (gR_hp (rp_gR R_3557 (T12_o t0) rfl)) ?_
      refine Rn.n hT 1 (pc' := 83) (L' := [some (.ref q0), none, some (.long j2), none, some (.int m4), some (.int m5)]) (st' := [.ref q0, .ref (q0 + 8)]) rfl ?_
      refine Rn.hp hT rfl rfl (gR_hp (rp_gR R_3557 (T12_o t0) rfl)) ?_
      refine Rn.n hT 1 (pc' := 88) (L' := [some (.ref q0), none, some (.long j2), none, some (.int m4), some (.int m5)]) (st' := [.int m5, .ref (q0 + 3), .ref (q0 + 8)]) rfl ?_
      obtain ⟨v_3559, e_3559, e⟩ := Option.bind_eq_some_iff.mp e
      obtain ⟨z_3559, g_3559, p_3559⟩ := rp_aI R_3557 (T12_3 t0) (T12_3l t0) p5 e_3559
      refine Rn.hp hT rfl rfl (aI_hp g_3559) ?_
      refine Rn.n hT 1 (pc' := 91) (L' := [some (.ref q0), none, some (.long j2), none, some (.int m4), some (.int m5)]) (st' := [.int m5, .int z_3559, .ref (q0 + 8)]) rfl ?_
      obtain ⟨s_3560, e_3561, e⟩ := Option.bind_eq_some_iff.mp e
      obtain ⟨h_3560, g_3561, R_3560⟩ := rp_wI R_3557 (T12_8 t0) (T12_8l t0) p_3559 p5 e_3561
      refine Rn.hp hT rfl rfl (wI_hp g_3561) ?_
      refine Rn.n hT 10 (pc' := 49) (L' := [some (.ref q0), none, some (.long (j2 / (16 : Int64))), none, some (.int (m4 / (4 : Int32))), some (.int (m5 + (-1 : Int32)))]) (st' := []) rfl ?_
      exact Rn.weak (ll_s (ll_n (ll_s (ll_n (ll_s (ll_s ll_e)))))) (ih h_3560 s_3560 R_3560 (j2 / (16 : Int64)) (dv64 y2 16) (tj_div p2 L64_16) (m4 / (4 : Int32)) (dv32 x4 4) (ti_div p4 L32_4) (m5 + (-1 : Int32)) (w32 (x5 + (-1))) (ti_add p5 L32_m1) e)
def FX12_laysSituation (N : Nat) (s : iv_M) (q0 : Nat) (x1 : Int) : Option (iv_M) := ((rd s (q0 + 35) 1501 x1).bind fun v_3544 => ((rd s (q0 + 36) 1501 x1).bind fun v_3545 => (FX12_laysSituation_l18 N q0 v_3544 v_3545 (fun (s_3546 : iv_M) => ((rd s_3546 (q0 + 1) 14 2).bind fun v_3548 => (FX12_laysSituation_l49 N q0 (fun (s_3549 : iv_M) => some s_3549) N s_3546 v_3544 v_3545 (w32 (v_3548 - 1))))) N s 0)))
set_option maxRecDepth 10000 in
set_option maxHeartbeats 4000000 in
theorem RX12_laysSituation {d N nc Ls : Nat} {Xs : Nat → Int32} (hd : 1 ≤ d) {h : iv_H} {s : iv_M} (hR : Rep nc Ls Xs h s) {q0 : Nat} (t0 : T12 nc q0) {m1 : Int32} {x1 : Int} (p1 : m1.toInt = x1) {r : iv_M} {Q : Option Value → iv_H → Prop} (e : FX12_laysSituation N s q0 x1 = some r) (hq : ∀ h1, Rep nc Ls Xs h1 r → Q none h1) : Cl d 293 [.ref q0, .int m1] h Q := by
  obtain ⟨d, rfl⟩ : ∃ k, d = k + 1 := ⟨d - 1, by omega⟩
  have hd : 0 ≤ d := by omega
  have hT := hX12_laysSituation
  unfold FX12_laysSituation at e
  refine Cl.into (by decide) gX12_laysSituation rfl ?_
  show Rn d 293 none 0 [some (.ref q0), some (.int m1), none, none, none, none] [] h Q
  refine Rn.n hT 1 (pc' := 1) (L' := [some (.ref q0), some (.int m1), none, none, none, none]) (st' := [.ref q0]) rfl ?_
  refine Rn.hp hT rfl rfl (gR_hp (rp_gR hR (T12_o t0) rfl)) ?_
  refine Rn.n hT 1 (pc' := 5) (L' := [some (.ref q0), some (.int m1), none, none, none, none]) (st' := [.int m1, .ref (q0 + 35)]) rfl ?_
  obtain ⟨v_3544, e_3544, e⟩ := Option.bind_eq_some_iff.mp e
  obtain ⟨z_3544, g_3544, p_3544⟩ := rp_aJ hR (T12_49 t0) (T12_49l t0) p1 e_3544
  refine Rn.hp hT rfl rfl (aJ_hp g_3544) ?_
  refine Rn.n hT 2 (pc' := 8) (L' := [some (.ref q0), some (.int m1), some (.long z_3544), none, none, none]) (st' := [.ref q0]) rfl ?_
  refine Rn.hp hT rfl rfl (gR_hp (rp_gR hR (T12_o t0) rfl)) ?_
  refine Rn.n hT 1 (pc' := 12) (L' := [some (.ref q0), some (.int m1), some (.long z_3544), none, none, none]) (st' := [.int m1, .ref (q0 + 36)]) rfl ?_
  obtain ⟨v_3545, e_3545, e⟩ := Option.bind_eq_some_iff.mp e
  obtain ⟨z_3545, g_3545, p_3545⟩ := rp_aI hR (T12_50 t0) (T12_50l t0) p1 e_3545
  refine Rn.hp hT rfl rfl (aI_hp g_3545) ?_
  refine Rn.n hT 3 (pc' := 18) (L' := [some (.ref q0), some (.int m1), some (.long z_3544), none, some (.int z_3545), some (.int (0 : Int32))]) (st' := []) rfl ?_
  refine Rn.weak (ll_s (ll_n (ll_s (ll_n (ll_s (ll_s ll_e)))))) (RX12_laysSituation_l18 hd t0 p_3544 p_3545 (fun h_3546 s_3546 R_3546 e => ?_) hq N h s hR (0 : Int32) 0 L32_0 e)
  try dsimp only at e
  refine Rn.n hT 1 (pc' := 40) (L' := [some (.ref q0), none, some (.long z_3544), none, some (.int z_3545), none]) (st' := [.ref q0]) rfl ?_
  refine Rn.hp hT rfl rfl (gR_hp (rp_gR R_3546 (T12_o t0) rfl)) ?_
  refine Rn.n hT 1 (pc' := 44) (L' := [some (.ref q0), none, some (.long z_3544), none, some (.int z_3545), none]) (st' := [.int (2 : Int32), .ref (q0 + 1)]) rfl ?_
  obtain ⟨v_3548, e_3548, e⟩ := Option.bind_eq_some_iff.mp e
  obtain ⟨z_3548, g_3548, p_3548⟩ := rp_aI R_3546 (T12_1 t0) (T12_1l t0) L32_2 e_3548
  refine Rn.hp hT rfl rfl (aI_hp g_3548) ?_
  refine Rn.n hT 3 (pc' := 49) (L' := [some (.ref q0), none, some (.long z_3544), none, some (.int z_3545), some (.int (z_3548 - (1 : Int32)))]) (st' := []) rfl ?_
  refine Rn.weak (ll_s (ll_n (ll_s (ll_n (ll_s (ll_s ll_e)))))) (RX12_laysSituation_l49 hd t0 (fun h_3549 s_3549 R_3549 e => ?_) hq N h_3546 s_3546 R_3546 z_3544 v_3544 p_3544 z_3545 v_3545 p_3545 (z_3548 - (1 : Int32)) (w32 (v_3548 - 1)) (ti_sub p_3548 L32_1) e)
  try dsimp only at e
  obtain rfl := Option.some.inj e
  exact Rn.ret hT rfl rfl rfl (hq h_3549 R_3549)
set_option maxRecDepth 10000 in
theorem hX12_placeOf : iv_Tb 294 tX12_placeOf := iv_tb_of (m := mX12_placeOf) rfl
set_option maxRecDepth 10000 in
theorem gX12_placeOf : PG.2 294 = some mX12_placeOf := iv_pi_of (t := tX12_placeOf) rfl (by decide)
def FX12_placeOf_b65 (N : Nat) (s : iv_M) (q0 : Nat) (y1 : Int) (x3 : Int) (x4 : Int)  (kb : Int → Option (Int)) (kx : Int → Option (Int)) : Option (Int) := (kb (Int.tmod (w32 (x4 + 1)) 4096))
set_option maxRecDepth 10000 in
set_option maxHeartbeats 4000000 in
theorem RX12_placeOf_b65 {d N nc Ls : Nat} {Xs : Nat → Int32} (hd : 0 ≤ d) {h : iv_H} {s : iv_M} (hR : Rep nc Ls Xs h s) {q0 : Nat} (t0 : T12 nc q0) {j1 : Int64} {y1 : Int} (p1 : j1.toInt = y1) {m3 : Int32} {x3 : Int} (p3 : m3.toInt = x3) {m4 : Int32} {x4 : Int} (p4 : m4.toInt = x4)  {kb : Int → Option (Int)} {kx : Int → Option (Int)} {r : Int} {Q : Option Value → iv_H → Prop} (hb : ∀ (mw4 : Int32) (xw4 : Int) (pw4 : mw4.toInt = xw4), kb xw4 = some r → Rn d 294 (some .int) 18 [some (.ref q0), some (.long j1), none, some (.int m3), some (.int mw4)] [] h Q) (hk : ∀ (mw4 : Int32) (xw4 : Int) (pw4 : mw4.toInt = xw4), kx xw4 = some r → Rn d 294 (some .int) 78 [none, none, none, none, some (.int mw4)] [] h Q) (hq : ∀ (z : Int32), z.toInt = r → Q (some (.int z)) h) (e : FX12_placeOf_b65 N s q0 y1 x3 x4  kb kx = some r) : Rn d 294 (some .int) 65 [some (.ref q0), some (.long j1), none, some (.int m3), some (.int m4)] [] h Q := by
  have hT := hX12_placeOf
  unfold FX12_placeOf_b65 at e
  refine Rn.n hT 7 (pc' := 18) (L' := [some (.ref q0), some (.long j1), none, some (.int m3), some (.int ((m4 + (1 : Int32)) - (m4 + (1 : Int32)) / (4096 : Int32) * (4096 : Int32)))]) (st' := []) rfl ?_
  exact Rn.weak (ll_s (ll_s (ll_n (ll_s (ll_s ll_e))))) (hb ((m4 + (1 : Int32)) - (m4 + (1 : Int32)) / (4096 : Int32) * (4096 : Int32)) (Int.tmod (w32 (x4 + 1)) 4096) (ti_rem (ti_add p4 L32_1) L32_4096) e)
def FX12_placeOf_l18 (N : Nat) (s : iv_M) (q0 : Nat) (y1 : Int) (x3 : Int) (kx : Int → Option (Int)) : Nat → Int → Option (Int)
  | 0, _ => none
  | n + 1, x4 => ((rd s (q0 + 40) 4096 x4).bind fun v_3563 => (if v_3563 = (s q0 56) then ((rd s (q0 + 39) 4096 x4).bind fun v_3566 => ((rd s (q0 + 35) 1501 v_3566).bind fun v_3567 => (if v_3567 = y1 then ((rd s (q0 + 39) 4096 x4).bind fun v_3569 => ((rd s (q0 + 36) 1501 v_3569).bind fun v_3570 => (if v_3570 = x3 then (kx x4) else (FX12_placeOf_b65 N s q0 y1 x3 x4 (FX12_placeOf_l18 N s q0 y1 x3 kx n) kx)))) else (FX12_placeOf_b65 N s q0 y1 x3 x4 (FX12_placeOf_l18 N s q0 y1 x3 kx n) kx)))) else (kx x4)))
set_option maxRecDepth 10000 in
set_option maxHeartbeats 4000000 in
theorem RX12_placeOf_l18 {d N nc Ls : Nat} {Xs : Nat → Int32} (hd : 0 ≤ d) {h : iv_H} {s : iv_M} (hR : Rep nc Ls Xs h s) {q0 : Nat} (t0 : T12 nc q0) {j1 : Int64} {y1 : Int} (p1 : j1.toInt = y1) {m3 : Int32} {x3 : Int} (p3 : m3.toInt = x3) {kx : Int → Option (Int)} {r : Int} {Q : Option Value → iv_H → Prop} (hk : ∀ (m4 : Int32) (x4 : Int) (p4 : m4.toInt = x4), kx x4 = some r → Rn d 294 (some .int) 78 [none, none, none, none, some (.int m4)] [] h Q) (hq : ∀ (z : Int32), z.toInt = r → Q (some (.int z)) h) : ∀ (n : Nat) (m4 : Int32) (x4 : Int) (p4 : m4.toInt = x4), FX12_placeOf_l18 N s q0 y1 x3 kx n x4 = some r → Rn d 294 (some .int) 18 [some (.ref q0), some (.long j1), none, some (.int m3), some (.int m4)] [] h Q := by
  have hT := hX12_placeOf
  intro n
  induction n with
  | zero =>
    intro m4 x4 p4 e
    rw [FX12_placeOf_l18] at e
    cases e
  | succ n ih =>
    intro m4 x4 p4 e
    rw [FX12_placeOf_l18] at e
    refine Rn.n hT 1 (pc' := 19) (L' := [some (.ref q0), some (.long j1), none, some (.int m3), some (.int m4)]) (st' := [.ref q0]) rfl ?_
    refine Rn.hp hT rfl rfl (gR_hp (rp_gR hR (T12_o t0) rfl)) ?_
    refine Rn.n hT 1 (pc' := 24) (L' := [some (.ref q0), some (.long j1), none, some (.int m3), some (.int m4)]) (st' := [.int m4, .ref (q0 + 40)]) rfl ?_
    obtain ⟨v_3563, e_3563, e⟩ := Option.bind_eq_some_iff.mp e
    obtain ⟨z_3563, g_3563, p_3563⟩ := rp_aI hR (T12_54 t0) (T12_54l t0) p4 e_3563
    refine Rn.hp hT rfl rfl (aI_hp g_3563) ?_
    refine Rn.n hT 1 (pc' := 26) (L' := [some (.ref q0), some (.long j1), none, some (.int m3), some (.int m4)]) (st' := [.ref q0, .int z_3563]) rfl ?_
    obtain ⟨z_3564, g_3564, p_3564⟩ : ∃ z : Int32, gI h 12 56 q0 = some z ∧ z.toInt = s q0 56 := rp_gI (k := 56) hR (T12_o t0) rfl
    refine Rn.hp hT rfl rfl (gI_hp g_3564) ?_
    by_cases c_3565 : v_3563 = (s q0 56)
    · rw [if_pos c_3565] at e
      refine Rn.bf hT rfl rfl rfl (decide_eq_false (fun z => z ((ti_e p_3563 p_3564).mpr c_3565))) ?_
      refine Rn.n hT 1 (pc' := 33) (L' := [some (.ref q0), some (.long j1), none, some (.int m3), some (.int m4)]) (st' := [.ref q0]) rfl ?_
      refine Rn.hp hT rfl rfl (gR_hp (rp_gR hR (T12_o t0) rfl)) ?_
      refine Rn.n hT 1 (pc' := 37) (L' := [some (.ref q0), some (.long j1), none, some (.int m3), some (.int m4)]) (st' := [.ref q0, .ref (q0 + 35)]) rfl ?_
      refine Rn.hp hT rfl rfl (gR_hp (rp_gR hR (T12_o t0) rfl)) ?_
      refine Rn.n hT 1 (pc' := 42) (L' := [some (.ref q0), some (.long j1), none, some (.int m3), some (.int m4)]) (st' := [.int m4, .ref (q0 + 39), .ref (q0 + 35)]) rfl ?_
      obtain ⟨v_3566, e_3566, e⟩ := Option.bind_eq_some_iff.mp e
      obtain ⟨z_3566, g_3566, p_3566⟩ := rp_aI hR (T12_53 t0) (T12_53l t0) p4 e_3566
      refine Rn.hp hT rfl rfl (aI_hp g_3566) ?_
      obtain ⟨v_3567, e_3567, e⟩ := Option.bind_eq_some_iff.mp e
      obtain ⟨z_3567, g_3567, p_3567⟩ := rp_aJ hR (T12_49 t0) (T12_49l t0) p_3566 e_3567
      refine Rn.hp hT rfl rfl (aJ_hp g_3567) ?_
      refine Rn.n hT 2 (pc' := 46) (L' := [some (.ref q0), some (.long j1), none, some (.int m3), some (.int m4)]) (st' := [.int (lg_cmp z_3567 j1)]) rfl ?_
      by_cases c_3568 : v_3567 = y1
      · rw [if_pos c_3568] at e
        refine Rn.bf hT rfl rfl rfl (decide_eq_false (fun z => z ((lc_e p_3567 p1).mpr c_3568))) ?_
        refine Rn.n hT 1 (pc' := 50) (L' := [some (.ref q0), some (.long j1), none, some (.int m3), some (.int m4)]) (st' := [.ref q0]) rfl ?_
        refine Rn.hp hT rfl rfl (gR_hp (rp_gR hR (T12_o t0) rfl)) ?_
        refine Rn.n hT 1 (pc' := 54) (L' := [some (.ref q0), some (.long j1), none, some (.int m3), some (.int m4)]) (st' := [.ref q0, .ref (q0 + 36)]) rfl ?_
        refine Rn.hp hT rfl rfl (gR_hp (rp_gR hR (T12_o t0) rfl)) ?_
        refine Rn.n hT 1 (pc' := 59) (L' := [some (.ref q0), some (.long j1), none, some (.int m3), some (.int m4)]) (st' := [.int m4, .ref (q0 + 39), .ref (q0 + 36)]) rfl ?_
        obtain ⟨v_3569, e_3569, e⟩ := Option.bind_eq_some_iff.mp e
        obtain ⟨z_3569, g_3569, p_3569⟩ := rp_aI hR (T12_53 t0) (T12_53l t0) p4 e_3569
        refine Rn.hp hT rfl rfl (aI_hp g_3569) ?_
        obtain ⟨v_3570, e_3570, e⟩ := Option.bind_eq_some_iff.mp e
        obtain ⟨z_3570, g_3570, p_3570⟩ := rp_aI hR (T12_50 t0) (T12_50l t0) p_3569 e_3570
        refine Rn.hp hT rfl rfl (aI_hp g_3570) ?_
        refine Rn.n hT 1 (pc' := 62) (L' := [some (.ref q0), some (.long j1), none, some (.int m3), some (.int m4)]) (st' := [.int m3, .int z_3570]) rfl ?_
        by_cases c_3571 : v_3570 = x3
        · rw [if_pos c_3571] at e
          refine Rn.bt hT rfl rfl rfl (decide_eq_true ((ti_e p_3570 p3).mpr c_3571)) ?_
          exact Rn.weak (ll_n (ll_n (ll_n (ll_n (ll_s ll_e))))) (hk m4 x4 p4 e)
        · rw [if_neg c_3571] at e
          refine Rn.bf hT rfl rfl rfl (decide_eq_false (fun z => c_3571 ((ti_e p_3570 p3).mp z))) ?_
          exact Rn.weak (ll_s (ll_s (ll_n (ll_s (ll_s ll_e))))) (RX12_placeOf_b65 hd hR t0 p1 p3 p4 ih hk hq e)
      · rw [if_neg c_3568] at e
        refine Rn.bt hT rfl rfl rfl (decide_eq_true (fun z => c_3568 ((lc_e p_3567 p1).mp z))) ?_
        exact Rn.weak (ll_s (ll_s (ll_n (ll_s (ll_s ll_e))))) (RX12_placeOf_b65 hd hR t0 p1 p3 p4 ih hk hq e)
    · rw [if_neg c_3565] at e
      refine Rn.bt hT rfl rfl rfl (decide_eq_true (fun z => c_3565 ((ti_e p_3563 p_3564).mp z))) ?_
      exact Rn.weak (ll_n (ll_n (ll_n (ll_n (ll_s ll_e))))) (hk m4 x4 p4 e)
def FX12_placeOf_b78 (N : Nat) (s : iv_M) (x4 : Int)  : Option (Int) := (some x4)
set_option maxRecDepth 10000 in
set_option maxHeartbeats 4000000 in
theorem RX12_placeOf_b78 {d N nc Ls : Nat} {Xs : Nat → Int32} (hd : 0 ≤ d) {h : iv_H} {s : iv_M} (hR : Rep nc Ls Xs h s) {m4 : Int32} {x4 : Int} (p4 : m4.toInt = x4)  {r : Int} {Q : Option Value → iv_H → Prop} (hq : ∀ (z : Int32), z.toInt = r → Q (some (.int z)) h) (e : FX12_placeOf_b78 N s x4  = some r) : Rn d 294 (some .int) 78 [none, none, none, none, some (.int m4)] [] h Q := by
  have hT := hX12_placeOf
  unfold FX12_placeOf_b78 at e
  refine Rn.n hT 1 (pc' := 80) (L' := [none, none, none, none, some (.int m4)]) (st' := [.int m4]) rfl ?_
  obtain rfl := Option.some.inj e
  exact Rn.ret hT rfl rfl rfl (hq m4 p4)
def FX12_placeOf (N : Nat) (s : iv_M) (q0 : Nat) (y1 : Int) (x3 : Int) : Option (Int) := (FX12_placeOf_l18 N s q0 y1 x3 (fun (x3562_4 : Int) => (FX12_placeOf_b78 N s x3562_4)) N (w32 (us64 (w64 ((w64 ((w64 (y1 * 31)) + x3)) * (-7046029254386353131))) 52)))
set_option maxRecDepth 10000 in
set_option maxHeartbeats 4000000 in
theorem RX12_placeOf {d N nc Ls : Nat} {Xs : Nat → Int32} (hd : 1 ≤ d) {h : iv_H} {s : iv_M} (hR : Rep nc Ls Xs h s) {q0 : Nat} (t0 : T12 nc q0) {j1 : Int64} {y1 : Int} (p1 : j1.toInt = y1) {m3 : Int32} {x3 : Int} (p3 : m3.toInt = x3) {r : Int} {Q : Option Value → iv_H → Prop} (e : FX12_placeOf N s q0 y1 x3 = some r) (hq : ∀ (z : Int32), z.toInt = r → Q (some (.int z)) h) : Cl d 294 [.ref q0, .long j1, .int m3] h Q := by
  obtain ⟨d, rfl⟩ : ∃ k, d = k + 1 := ⟨d - 1, by omega⟩
  have hd : 0 ≤ d := by omega
  have hT := hX12_placeOf
  unfold FX12_placeOf at e
  refine Cl.into (by decide) gX12_placeOf rfl ?_
  show Rn d 294 (some .int) 0 [some (.ref q0), some (.long j1), none, some (.int m3), none] [] h Q
  refine Rn.n hT 12 (pc' := 18) (L' := [some (.ref q0), some (.long j1), none, some (.int m3), some (.int ((((((((j1 * (31 : Int64)) + (m3).toInt64) * (-7046029254386353131 : Int64))).toUInt64 >>> (((52 : Int32)).toInt64.toUInt64 &&& Int64.toUInt64 63)).toInt64)).toInt32))]) (st' := []) rfl ?_
  refine Rn.weak (ll_s (ll_s (ll_n (ll_s (ll_s ll_e))))) (RX12_placeOf_l18 hd hR t0 p1 p3 (fun m3562_4 x3562_4 p3562_4 e => ?_) hq N ((((((((j1 * (31 : Int64)) + (m3).toInt64) * (-7046029254386353131 : Int64))).toUInt64 >>> (((52 : Int32)).toInt64.toUInt64 &&& Int64.toUInt64 63)).toInt64)).toInt32) (w32 (us64 (w64 ((w64 ((w64 (y1 * 31)) + x3)) * (-7046029254386353131))) 52)) (tj_i (tj_ushr (tj_mul (tj_add (tj_mul p1 L64_31) (ti_j p3)) L64_m7046029254386353131) L32_52)) e)
  try dsimp only at e
  exact Rn.weak (ll_n (ll_n (ll_n (ll_n (ll_s ll_e))))) (RX12_placeOf_b78 hd hR p3562_4 hq e)
