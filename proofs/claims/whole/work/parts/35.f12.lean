-- FLAT MIRRORS, 12 (written by wip/whole/mir2.py)
set_option maxRecDepth 10000 in
theorem hX12_fromEdge : iv_Tb 327 tX12_fromEdge := iv_tb_of (m := mX12_fromEdge) rfl
set_option maxRecDepth 10000 in
theorem gX12_fromEdge : PG.2 327 = some mX12_fromEdge := iv_pi_of (t := tX12_fromEdge) rfl (by decide)
def FX12_fromEdge_b82 (N : Nat) (s : iv_M)  (xs0 : Int) : Option (Int) := (some xs0)
set_option maxRecDepth 10000 in
set_option maxHeartbeats 4000000 in
theorem RX12_fromEdge_b82 {d N nc Ls : Nat} {Xs : Nat → Int32} (hd : 0 ≤ d) {h : iv_H} {s : iv_M} (hR : Rep nc Ls Xs h s)  {ms0 : Int32} {xs0 : Int} (ps0 : ms0.toInt = xs0) {r : Int} {Q : Option Value → iv_H → Prop} (hq : ∀ (z : Int32), z.toInt = r → Q (some (.int z)) h) (e : FX12_fromEdge_b82 N s  xs0 = some r) : Rn d 327 (some .int) 82 [none, none, none, none, none, none] [.int ms0] h Q := by
  have hT := hX12_fromEdge
  unfold FX12_fromEdge_b82 at e
  obtain rfl := Option.some.inj e
  exact Rn.ret hT rfl rfl rfl (hq ms0 ps0)
def FX12_fromEdge_b66 (N : Nat) (s : iv_M) (x4 : Int) (xs0 : Int) : Option (Int) := (if xs0 ≤ x4 then (FX12_fromEdge_b82 N s xs0) else (FX12_fromEdge_b82 N s x4))
set_option maxRecDepth 10000 in
set_option maxHeartbeats 4000000 in
theorem RX12_fromEdge_b66 {d N nc Ls : Nat} {Xs : Nat → Int32} (hd : 0 ≤ d) {h : iv_H} {s : iv_M} (hR : Rep nc Ls Xs h s) {m4 : Int32} {x4 : Int} (p4 : m4.toInt = x4) {ms0 : Int32} {xs0 : Int} (ps0 : ms0.toInt = xs0) {r : Int} {Q : Option Value → iv_H → Prop} (hq : ∀ (z : Int32), z.toInt = r → Q (some (.int z)) h) (e : FX12_fromEdge_b66 N s x4 xs0 = some r) : Rn d 327 (some .int) 66 [none, none, none, none, some (.int m4), none] [.int ms0] h Q := by
  have hT := hX12_fromEdge
  unfold FX12_fromEdge_b66 at e
  refine Rn.n hT 3 (pc' := 72) (L' := [none, none, none, none, some (.int m4), some (.int ms0)]) (st' := [.int ms0, .int m4]) rfl ?_
  by_cases c_4223 : xs0 ≤ x4
  · rw [if_pos c_4223] at e
    refine Rn.bt hT rfl rfl rfl (decide_eq_true ((ti_le ps0 p4).mpr c_4223)) ?_
    refine Rn.n hT 1 (pc' := 82) (L' := [none, none, none, none, some (.int m4), some (.int ms0)]) (st' := [.int ms0]) rfl ?_
    exact Rn.weak (ll_n (ll_n (ll_n (ll_n (ll_n (ll_n ll_e)))))) (RX12_fromEdge_b82 hd hR ps0 hq e)
  · rw [if_neg c_4223] at e
    refine Rn.bf hT rfl rfl rfl (decide_eq_false (fun z => c_4223 ((ti_le ps0 p4).mp z))) ?_
    refine Rn.n hT 2 (pc' := 82) (L' := [none, none, none, none, some (.int m4), some (.int ms0)]) (st' := [.int m4]) rfl ?_
    exact Rn.weak (ll_n (ll_n (ll_n (ll_n (ll_n (ll_n ll_e)))))) (RX12_fromEdge_b82 hd hR p4 hq e)
def FX12_fromEdge_b36 (N : Nat) (s : iv_M) (q0 : Nat) (x3 : Int) (xs0 : Int) : Option (Int) := ((rd s (q0 + 1) 14 1).bind fun v_4220 => (if x3 ≤ (w32 ((w32 (v_4220 - 1)) - x3)) then (FX12_fromEdge_b66 N s xs0 x3) else ((rd s (q0 + 1) 14 1).bind fun v_4222 => (FX12_fromEdge_b66 N s xs0 (w32 ((w32 (v_4222 - 1)) - x3))))))
set_option maxRecDepth 10000 in
set_option maxHeartbeats 4000000 in
theorem RX12_fromEdge_b36 {d N nc Ls : Nat} {Xs : Nat → Int32} (hd : 0 ≤ d) {h : iv_H} {s : iv_M} (hR : Rep nc Ls Xs h s) {q0 : Nat} (t0 : T12 nc q0) {m3 : Int32} {x3 : Int} (p3 : m3.toInt = x3) {ms0 : Int32} {xs0 : Int} (ps0 : ms0.toInt = xs0) {r : Int} {Q : Option Value → iv_H → Prop} (hq : ∀ (z : Int32), z.toInt = r → Q (some (.int z)) h) (e : FX12_fromEdge_b36 N s q0 x3 xs0 = some r) : Rn d 327 (some .int) 36 [some (.ref q0), none, none, some (.int m3), none, none] [.int ms0] h Q := by
  have hT := hX12_fromEdge
  unfold FX12_fromEdge_b36 at e
  refine Rn.n hT 2 (pc' := 39) (L' := [some (.ref q0), none, none, some (.int m3), some (.int ms0), none]) (st' := [.ref q0]) rfl ?_
  refine Rn.hp hT rfl rfl (gR_hp (rp_gR hR (T12_o t0) rfl)) ?_
  refine Rn.n hT 1 (pc' := 43) (L' := [some (.ref q0), none, none, some (.int m3), some (.int ms0), none]) (st' := [.int (1 : Int32), .ref (q0 + 1)]) rfl ?_
  obtain ⟨v_4220, e_4220, e⟩ := Option.bind_eq_some_iff.mp e
  obtain ⟨z_4220, g_4220, p_4220⟩ := rp_aI hR (T12_1 t0) (T12_1l t0) L32_1 e_4220
  refine Rn.hp hT rfl rfl (aI_hp g_4220) ?_
  refine Rn.n hT 5 (pc' := 49) (L' := [some (.ref q0), none, none, some (.int m3), some (.int ms0), none]) (st' := [.int m3, .int ((z_4220 - (1 : Int32)) - m3)]) rfl ?_
  by_cases c_4221 : x3 ≤ (w32 ((w32 (v_4220 - 1)) - x3))
  · rw [if_pos c_4221] at e
    refine Rn.bt hT rfl rfl rfl (decide_eq_true ((ti_le p3 (ti_sub (ti_sub p_4220 L32_1) p3)).mpr c_4221)) ?_
    refine Rn.n hT 1 (pc' := 66) (L' := [some (.ref q0), none, none, some (.int m3), some (.int ms0), none]) (st' := [.int m3]) rfl ?_
    exact Rn.weak (ll_n (ll_n (ll_n (ll_n (ll_s (ll_n ll_e)))))) (RX12_fromEdge_b66 hd hR ps0 p3 hq e)
  · rw [if_neg c_4221] at e
    refine Rn.bf hT rfl rfl rfl (decide_eq_false (fun z => c_4221 ((ti_le p3 (ti_sub (ti_sub p_4220 L32_1) p3)).mp z))) ?_
    refine Rn.n hT 1 (pc' := 53) (L' := [some (.ref q0), none, none, some (.int m3), some (.int ms0), none]) (st' := [.ref q0]) rfl ?_
    refine Rn.hp hT rfl rfl (gR_hp (rp_gR hR (T12_o t0) rfl)) ?_
    refine Rn.n hT 1 (pc' := 57) (L' := [some (.ref q0), none, none, some (.int m3), some (.int ms0), none]) (st' := [.int (1 : Int32), .ref (q0 + 1)]) rfl ?_
    obtain ⟨v_4222, e_4222, e⟩ := Option.bind_eq_some_iff.mp e
    obtain ⟨z_4222, g_4222, p_4222⟩ := rp_aI hR (T12_1 t0) (T12_1l t0) L32_1 e_4222
    refine Rn.hp hT rfl rfl (aI_hp g_4222) ?_
    refine Rn.n hT 5 (pc' := 66) (L' := [some (.ref q0), none, none, some (.int m3), some (.int ms0), none]) (st' := [.int ((z_4222 - (1 : Int32)) - m3)]) rfl ?_
    exact Rn.weak (ll_n (ll_n (ll_n (ll_n (ll_s (ll_n ll_e)))))) (RX12_fromEdge_b66 hd hR ps0 (ti_sub (ti_sub p_4222 L32_1) p3) hq e)
def FX12_fromEdge (N : Nat) (s : iv_M) (q0 : Nat) (x1 : Int) : Option (Int) := ((rd s (q0 + 1) 14 0).bind fun v_4217 => (if (Int.tmod x1 4) ≤ (w32 ((w32 (v_4217 - 1)) - (Int.tmod x1 4))) then (FX12_fromEdge_b36 N s q0 (dv32 x1 4) (Int.tmod x1 4)) else ((rd s (q0 + 1) 14 0).bind fun v_4219 => (FX12_fromEdge_b36 N s q0 (dv32 x1 4) (w32 ((w32 (v_4219 - 1)) - (Int.tmod x1 4)))))))
set_option maxRecDepth 10000 in
set_option maxHeartbeats 4000000 in
theorem RX12_fromEdge {d N nc Ls : Nat} {Xs : Nat → Int32} (hd : 1 ≤ d) {h : iv_H} {s : iv_M} (hR : Rep nc Ls Xs h s) {q0 : Nat} (t0 : T12 nc q0) {m1 : Int32} {x1 : Int} (p1 : m1.toInt = x1) {r : Int} {Q : Option Value → iv_H → Prop} (e : FX12_fromEdge N s q0 x1 = some r) (hq : ∀ (z : Int32), z.toInt = r → Q (some (.int z)) h) : Cl d 327 [.ref q0, .int m1] h Q := by
  obtain ⟨d, rfl⟩ : ∃ k, d = k + 1 := ⟨d - 1, by omega⟩
  have hd : 0 ≤ d := by omega
  have hT := hX12_fromEdge
  unfold FX12_fromEdge at e
  refine Cl.into (by decide) gX12_fromEdge rfl ?_
  show Rn d 327 (some .int) 0 [some (.ref q0), some (.int m1), none, none, none, none] [] h Q
  refine Rn.n hT 9 (pc' := 9) (L' := [some (.ref q0), some (.int m1), some (.int (m1 - m1 / (4 : Int32) * (4 : Int32))), some (.int (m1 / (4 : Int32))), none, none]) (st' := [.ref q0]) rfl ?_
  refine Rn.hp hT rfl rfl (gR_hp (rp_gR hR (T12_o t0) rfl)) ?_
  refine Rn.n hT 1 (pc' := 13) (L' := [some (.ref q0), some (.int m1), some (.int (m1 - m1 / (4 : Int32) * (4 : Int32))), some (.int (m1 / (4 : Int32))), none, none]) (st' := [.int (0 : Int32), .ref (q0 + 1)]) rfl ?_
  obtain ⟨v_4217, e_4217, e⟩ := Option.bind_eq_some_iff.mp e
  obtain ⟨z_4217, g_4217, p_4217⟩ := rp_aI hR (T12_1 t0) (T12_1l t0) L32_0 e_4217
  refine Rn.hp hT rfl rfl (aI_hp g_4217) ?_
  refine Rn.n hT 5 (pc' := 19) (L' := [some (.ref q0), some (.int m1), some (.int (m1 - m1 / (4 : Int32) * (4 : Int32))), some (.int (m1 / (4 : Int32))), none, none]) (st' := [.int (m1 - m1 / (4 : Int32) * (4 : Int32)), .int ((z_4217 - (1 : Int32)) - (m1 - m1 / (4 : Int32) * (4 : Int32)))]) rfl ?_
  by_cases c_4218 : (Int.tmod x1 4) ≤ (w32 ((w32 (v_4217 - 1)) - (Int.tmod x1 4)))
  · rw [if_pos c_4218] at e
    refine Rn.bt hT rfl rfl rfl (decide_eq_true ((ti_le (ti_rem p1 L32_4) (ti_sub (ti_sub p_4217 L32_1) (ti_rem p1 L32_4))).mpr c_4218)) ?_
    refine Rn.n hT 1 (pc' := 36) (L' := [some (.ref q0), some (.int m1), some (.int (m1 - m1 / (4 : Int32) * (4 : Int32))), some (.int (m1 / (4 : Int32))), none, none]) (st' := [.int (m1 - m1 / (4 : Int32) * (4 : Int32))]) rfl ?_
    exact Rn.weak (ll_s (ll_n (ll_n (ll_s (ll_n (ll_n ll_e)))))) (RX12_fromEdge_b36 hd hR t0 (ti_div p1 L32_4) (ti_rem p1 L32_4) hq e)
  · rw [if_neg c_4218] at e
    refine Rn.bf hT rfl rfl rfl (decide_eq_false (fun z => c_4218 ((ti_le (ti_rem p1 L32_4) (ti_sub (ti_sub p_4217 L32_1) (ti_rem p1 L32_4))).mp z))) ?_
    refine Rn.n hT 1 (pc' := 23) (L' := [some (.ref q0), some (.int m1), some (.int (m1 - m1 / (4 : Int32) * (4 : Int32))), some (.int (m1 / (4 : Int32))), none, none]) (st' := [.ref q0]) rfl ?_
    refine Rn.hp hT rfl rfl (gR_hp (rp_gR hR (T12_o t0) rfl)) ?_
    refine Rn.n hT 1 (pc' := 27) (L' := [some (.ref q0), some (.int m1), some (.int (m1 - m1 / (4 : Int32) * (4 : Int32))), some (.int (m1 / (4 : Int32))), none, none]) (st' := [.int (0 : Int32), .ref (q0 + 1)]) rfl ?_
    obtain ⟨v_4219, e_4219, e⟩ := Option.bind_eq_some_iff.mp e
    obtain ⟨z_4219, g_4219, p_4219⟩ := rp_aI hR (T12_1 t0) (T12_1l t0) L32_0 e_4219
    refine Rn.hp hT rfl rfl (aI_hp g_4219) ?_
    refine Rn.n hT 5 (pc' := 36) (L' := [some (.ref q0), some (.int m1), some (.int (m1 - m1 / (4 : Int32) * (4 : Int32))), some (.int (m1 / (4 : Int32))), none, none]) (st' := [.int ((z_4219 - (1 : Int32)) - (m1 - m1 / (4 : Int32) * (4 : Int32)))]) rfl ?_
    exact Rn.weak (ll_s (ll_n (ll_n (ll_s (ll_n (ll_n ll_e)))))) (RX12_fromEdge_b36 hd hR t0 (ti_div p1 L32_4) (ti_sub (ti_sub p_4219 L32_1) (ti_rem p1 L32_4)) hq e)
set_option maxRecDepth 10000 in
theorem hX12_drift : iv_Tb 328 tX12_drift := iv_tb_of (m := mX12_drift) rfl
set_option maxRecDepth 10000 in
theorem gX12_drift : PG.2 328 = some mX12_drift := iv_pi_of (t := tX12_drift) rfl (by decide)
def FX12_drift_b19 (N : Nat) (s : iv_M)   : Option (Int) := (some (-1))
set_option maxRecDepth 10000 in
set_option maxHeartbeats 4000000 in
theorem RX12_drift_b19 {d N nc Ls : Nat} {Xs : Nat → Int32} (hd : 5 ≤ d) {h : iv_H} {s : iv_M} (hR : Rep nc Ls Xs h s)   {r : Int} {Q : Option Value → iv_H → Prop} (hq : ∀ (z : Int32), z.toInt = r → Q (some (.int z)) h) (e : FX12_drift_b19 N s   = some r) : Rn d 328 (some .int) 19 [none, none, none, none, none, none] [] h Q := by
  have hT := hX12_drift
  unfold FX12_drift_b19 at e
  refine Rn.n hT 1 (pc' := 20) (L' := [none, none, none, none, none, none]) (st' := [.int (-1 : Int32)]) rfl ?_
  obtain rfl := Option.some.inj e
  exact Rn.ret hT rfl rfl rfl (hq (-1 : Int32) L32_m1)
def FX12_drift_b96 (N : Nat) (s : iv_M) (q0 : Nat) (x1 : Int) (x2 : Int) (x4 : Int) (xs0 : Int) (kb : Int → Int → Int → Option (Int)) (kx : Int → Int → Option (Int)) : Option (Int) := (kb x2 xs0 (w32 (x4 + 1)))
set_option maxRecDepth 10000 in
set_option maxHeartbeats 4000000 in
theorem RX12_drift_b96 {d N nc Ls : Nat} {Xs : Nat → Int32} (hd : 5 ≤ d) {h : iv_H} {s : iv_M} (hR : Rep nc Ls Xs h s) {q0 : Nat} (t0 : T12 nc q0) {m1 : Int32} {x1 : Int} (p1 : m1.toInt = x1) {m2 : Int32} {x2 : Int} (p2 : m2.toInt = x2) {m4 : Int32} {x4 : Int} (p4 : m4.toInt = x4) {ms0 : Int32} {xs0 : Int} (ps0 : ms0.toInt = xs0) {kb : Int → Int → Int → Option (Int)} {kx : Int → Int → Option (Int)} {r : Int} {Q : Option Value → iv_H → Prop} (hb : ∀ (mw2 : Int32) (xw2 : Int) (pw2 : mw2.toInt = xw2) (mw3 : Int32) (xw3 : Int) (pw3 : mw3.toInt = xw3) (mw4 : Int32) (xw4 : Int) (pw4 : mw4.toInt = xw4), kb xw2 xw3 xw4 = some r → Rn d 328 (some .int) 29 [some (.ref q0), some (.int m1), some (.int mw2), some (.int mw3), some (.int mw4), none] [] h Q) (hk : ∀ (mw2 : Int32) (xw2 : Int) (pw2 : mw2.toInt = xw2) (mw3 : Int32) (xw3 : Int) (pw3 : mw3.toInt = xw3), kx xw2 xw3 = some r → Rn d 328 (some .int) 103 [some (.ref q0), some (.int m1), some (.int mw2), some (.int mw3), none, none] [] h Q) (hq : ∀ (z : Int32), z.toInt = r → Q (some (.int z)) h) (e : FX12_drift_b96 N s q0 x1 x2 x4 xs0 kb kx = some r) : Rn d 328 (some .int) 96 [some (.ref q0), some (.int m1), some (.int m2), none, some (.int m4), none] [.int ms0] h Q := by
  have hT := hX12_drift
  unfold FX12_drift_b96 at e
  refine Rn.n hT 3 (pc' := 29) (L' := [some (.ref q0), some (.int m1), some (.int m2), some (.int ms0), some (.int (m4 + (1 : Int32))), none]) (st' := []) rfl ?_
  exact Rn.weak (ll_s (ll_s (ll_s (ll_s (ll_s (ll_n ll_e)))))) (hb m2 x2 p2 ms0 xs0 ps0 (m4 + (1 : Int32)) (w32 (x4 + 1)) (ti_add p4 L32_1) e)
def FX12_drift_b90 (N : Nat) (s : iv_M) (q0 : Nat) (x1 : Int) (x2 : Int) (x4 : Int)  (kb : Int → Int → Int → Option (Int)) (kx : Int → Int → Option (Int)) : Option (Int) := (FX12_drift_b96 N s q0 x1 x2 x4 x4 kb kx)
set_option maxRecDepth 10000 in
set_option maxHeartbeats 4000000 in
theorem RX12_drift_b90 {d N nc Ls : Nat} {Xs : Nat → Int32} (hd : 5 ≤ d) {h : iv_H} {s : iv_M} (hR : Rep nc Ls Xs h s) {q0 : Nat} (t0 : T12 nc q0) {m1 : Int32} {x1 : Int} (p1 : m1.toInt = x1) {m2 : Int32} {x2 : Int} (p2 : m2.toInt = x2) {m4 : Int32} {x4 : Int} (p4 : m4.toInt = x4)  {kb : Int → Int → Int → Option (Int)} {kx : Int → Int → Option (Int)} {r : Int} {Q : Option Value → iv_H → Prop} (hb : ∀ (mw2 : Int32) (xw2 : Int) (pw2 : mw2.toInt = xw2) (mw3 : Int32) (xw3 : Int) (pw3 : mw3.toInt = xw3) (mw4 : Int32) (xw4 : Int) (pw4 : mw4.toInt = xw4), kb xw2 xw3 xw4 = some r → Rn d 328 (some .int) 29 [some (.ref q0), some (.int m1), some (.int mw2), some (.int mw3), some (.int mw4), none] [] h Q) (hk : ∀ (mw2 : Int32) (xw2 : Int) (pw2 : mw2.toInt = xw2) (mw3 : Int32) (xw3 : Int) (pw3 : mw3.toInt = xw3), kx xw2 xw3 = some r → Rn d 328 (some .int) 103 [some (.ref q0), some (.int m1), some (.int mw2), some (.int mw3), none, none] [] h Q) (hq : ∀ (z : Int32), z.toInt = r → Q (some (.int z)) h) (e : FX12_drift_b90 N s q0 x1 x2 x4  kb kx = some r) : Rn d 328 (some .int) 90 [some (.ref q0), some (.int m1), some (.int m2), none, some (.int m4), none] [] h Q := by
  have hT := hX12_drift
  unfold FX12_drift_b90 at e
  refine Rn.n hT 2 (pc' := 96) (L' := [some (.ref q0), some (.int m1), some (.int m2), none, some (.int m4), none]) (st' := [.int m4]) rfl ?_
  exact Rn.weak (ll_s (ll_s (ll_s (ll_n (ll_s (ll_n ll_e)))))) (RX12_drift_b96 hd hR t0 p1 p2 p4 p4 hb hk hq e)
def FX12_drift_b66 (N : Nat) (s : iv_M) (q0 : Nat) (x1 : Int) (x3 : Int) (x4 : Int) (xs0 : Int) (xs1 : Int) (kb : Int → Int → Int → Option (Int)) (kx : Int → Int → Option (Int)) : Option (Int) := (if x3 = (-2) then (FX12_drift_b90 N s q0 x1 (w32 (xs1 + xs0)) x4 kb kx) else ((FX12_doorsOf N s q0 x4 0).bind fun v_4240 => ((FX12_doorsOf N s q0 x3 0).bind fun v_4241 => (if v_4240 ≤ v_4241 then (FX12_drift_b96 N s q0 x1 (w32 (xs1 + xs0)) x4 x3 kb kx) else (FX12_drift_b90 N s q0 x1 (w32 (xs1 + xs0)) x4 kb kx)))))
set_option maxRecDepth 10000 in
set_option maxHeartbeats 4000000 in
theorem RX12_drift_b66 {d N nc Ls : Nat} {Xs : Nat → Int32} (hd : 5 ≤ d) {h : iv_H} {s : iv_M} (hR : Rep nc Ls Xs h s) {q0 : Nat} (t0 : T12 nc q0) {m1 : Int32} {x1 : Int} (p1 : m1.toInt = x1) {m3 : Int32} {x3 : Int} (p3 : m3.toInt = x3) {m4 : Int32} {x4 : Int} (p4 : m4.toInt = x4) {ms0 : Int32} {xs0 : Int} (ps0 : ms0.toInt = xs0) {ms1 : Int32} {xs1 : Int} (ps1 : ms1.toInt = xs1) {kb : Int → Int → Int → Option (Int)} {kx : Int → Int → Option (Int)} {r : Int} {Q : Option Value → iv_H → Prop} (hb : ∀ (mw2 : Int32) (xw2 : Int) (pw2 : mw2.toInt = xw2) (mw3 : Int32) (xw3 : Int) (pw3 : mw3.toInt = xw3) (mw4 : Int32) (xw4 : Int) (pw4 : mw4.toInt = xw4), kb xw2 xw3 xw4 = some r → Rn d 328 (some .int) 29 [some (.ref q0), some (.int m1), some (.int mw2), some (.int mw3), some (.int mw4), none] [] h Q) (hk : ∀ (mw2 : Int32) (xw2 : Int) (pw2 : mw2.toInt = xw2) (mw3 : Int32) (xw3 : Int) (pw3 : mw3.toInt = xw3), kx xw2 xw3 = some r → Rn d 328 (some .int) 103 [some (.ref q0), some (.int m1), some (.int mw2), some (.int mw3), none, none] [] h Q) (hq : ∀ (z : Int32), z.toInt = r → Q (some (.int z)) h) (e : FX12_drift_b66 N s q0 x1 x3 x4 xs0 xs1 kb kx = some r) : Rn d 328 (some .int) 66 [some (.ref q0), some (.int m1), none, some (.int m3), some (.int m4), none] [.int ms0, .int ms1] h Q := by
  have hT := hX12_drift
  unfold FX12_drift_b66 at e
  refine Rn.n hT 4 (pc' := 71) (L' := [some (.ref q0), some (.int m1), some (.int (ms1 + ms0)), some (.int m3), some (.int m4), none]) (st' := [.int (-2 : Int32), .int m3]) rfl ?_
  by_cases c_4239 : x3 = (-2)
  · rw [if_pos c_4239] at e
    refine Rn.bt hT rfl rfl rfl (decide_eq_true ((ti_e p3 L32_m2).mpr c_4239)) ?_
    exact Rn.weak (ll_s (ll_s (ll_s (ll_n (ll_s (ll_n ll_e)))))) (RX12_drift_b90 hd hR t0 p1 (ti_add ps1 ps0) p4 hb hk hq e)
  · rw [if_neg c_4239] at e
    refine Rn.bf hT rfl rfl rfl (decide_eq_false (fun z => c_4239 ((ti_e p3 L32_m2).mp z))) ?_
    refine Rn.n hT 3 (pc' := 78) (L' := [some (.ref q0), some (.int m1), some (.int (ms1 + ms0)), some (.int m3), some (.int m4), none]) (st' := [.int (0 : Int32), .int m4, .ref q0]) rfl ?_
    obtain ⟨v_4240, e_4240, e⟩ := Option.bind_eq_some_iff.mp e
    refine Rn.call hT rfl rfl rfl (Nat.le_of_ble_eq_true rfl) (rcv_v gX12_doorsOf (by omega) (rp_ck hR (T12_o t0))) (RX12_doorsOf (by omega) hR t0 p4 L32_0 e_4240 (fun z_4240 p_4240 => ?_))
    show Rn d _ _ 81 [some (.ref q0), some (.int m1), some (.int (ms1 + ms0)), some (.int m3), some (.int m4), none] [.int z_4240] h Q
    refine Rn.n hT 3 (pc' := 84) (L' := [some (.ref q0), some (.int m1), some (.int (ms1 + ms0)), some (.int m3), some (.int m4), none]) (st' := [.int (0 : Int32), .int m3, .ref q0, .int z_4240]) rfl ?_
    obtain ⟨v_4241, e_4241, e⟩ := Option.bind_eq_some_iff.mp e
    refine Rn.call hT rfl rfl rfl (Nat.le_of_ble_eq_true rfl) (rcv_v gX12_doorsOf (by omega) (rp_ck hR (T12_o t0))) (RX12_doorsOf (by omega) hR t0 p3 L32_0 e_4241 (fun z_4241 p_4241 => ?_))
    show Rn d _ _ 87 [some (.ref q0), some (.int m1), some (.int (ms1 + ms0)), some (.int m3), some (.int m4), none] [.int z_4241, .int z_4240] h Q
    by_cases c_4242 : v_4240 ≤ v_4241
    · rw [if_pos c_4242] at e
      refine Rn.bt hT rfl rfl rfl (decide_eq_true ((ti_le p_4240 p_4241).mpr c_4242)) ?_
      refine Rn.n hT 1 (pc' := 96) (L' := [some (.ref q0), some (.int m1), some (.int (ms1 + ms0)), some (.int m3), some (.int m4), none]) (st' := [.int m3]) rfl ?_
      exact Rn.weak (ll_s (ll_s (ll_s (ll_n (ll_s (ll_n ll_e)))))) (RX12_drift_b96 hd hR t0 p1 (ti_add ps1 ps0) p4 p3 hb hk hq e)
    · rw [if_neg c_4242] at e
      refine Rn.bf hT rfl rfl rfl (decide_eq_false (fun z => c_4242 ((ti_le p_4240 p_4241).mp z))) ?_
      exact Rn.weak (ll_s (ll_s (ll_s (ll_n (ll_s (ll_n ll_e)))))) (RX12_drift_b90 hd hR t0 p1 (ti_add ps1 ps0) p4 hb hk hq e)
def FX12_drift_l29 (N : Nat) (s : iv_M) (q0 : Nat) (x1 : Int) (kx : Int → Int → Option (Int)) : Nat → Int → Int → Int → Option (Int)
  | 0, _, _, _ => none
  | n + 1, x2, x3, x4 => ((rd s (q0 + 1) 14 2).bind fun v_4233 => (if v_4233 ≤ x4 then (kx x2 x3) else ((FX12_doorsOf N s q0 x4 1).bind fun v_4235 => (if v_4235 ≤ 0 then (FX12_drift_b66 N s q0 x1 x3 x4 0 x2 (FX12_drift_l29 N s q0 x1 kx n) kx) else ((rd s (q0 + 3) 12 x4).bind fun v_4237 => ((FX12_fromEdge N s q0 v_4237).bind fun v_4238 => (FX12_drift_b66 N s q0 x1 x3 x4 v_4238 x2 (FX12_drift_l29 N s q0 x1 kx n) kx)))))))
set_option maxRecDepth 10000 in
set_option maxHeartbeats 4000000 in
theorem RX12_drift_l29 {d N nc Ls : Nat} {Xs : Nat → Int32} (hd : 5 ≤ d) {h : iv_H} {s : iv_M} (hR : Rep nc Ls Xs h s) {q0 : Nat} (t0 : T12 nc q0) {m1 : Int32} {x1 : Int} (p1 : m1.toInt = x1) {kx : Int → Int → Option (Int)} {r : Int} {Q : Option Value → iv_H → Prop} (hk : ∀ (m2 : Int32) (x2 : Int) (p2 : m2.toInt = x2) (m3 : Int32) (x3 : Int) (p3 : m3.toInt = x3), kx x2 x3 = some r → Rn d 328 (some .int) 103 [some (.ref q0), some (.int m1), some (.int m2), some (.int m3), none, none] [] h Q) (hq : ∀ (z : Int32), z.toInt = r → Q (some (.int z)) h) : ∀ (n : Nat) (m2 : Int32) (x2 : Int) (p2 : m2.toInt = x2) (m3 : Int32) (x3 : Int) (p3 : m3.toInt = x3) (m4 : Int32) (x4 : Int) (p4 : m4.toInt = x4), FX12_drift_l29 N s q0 x1 kx n x2 x3 x4 = some r → Rn d 328 (some .int) 29 [some (.ref q0), some (.int m1), some (.int m2), some (.int m3), some (.int m4), none] [] h Q := by
  have hT := hX12_drift
  intro n
  induction n with
  | zero =>
    intro m2 x2 p2 m3 x3 p3 m4 x4 p4 e
    rw [FX12_drift_l29] at e
    cases e
  | succ n ih =>
    intro m2 x2 p2 m3 x3 p3 m4 x4 p4 e
    rw [FX12_drift_l29] at e
    refine Rn.n hT 2 (pc' := 32) (L' := [some (.ref q0), some (.int m1), some (.int m2), some (.int m3), some (.int m4), none]) (st' := [.ref q0, .int m4]) rfl ?_
    refine Rn.hp hT rfl rfl (gR_hp (rp_gR hR (T12_o t0) rfl)) ?_
    refine Rn.n hT 1 (pc' := 36) (L' := [some (.ref q0), some (.int m1), some (.int m2), some (.int m3), some (.int m4), none]) (st' := [.int (2 : Int32), .ref (q0 + 1), .int m4]) rfl ?_
    obtain ⟨v_4233, e_4233, e⟩ := Option.bind_eq_some_iff.mp e
    obtain ⟨z_4233, g_4233, p_4233⟩ := rp_aI hR (T12_1 t0) (T12_1l t0) L32_2 e_4233
    refine Rn.hp hT rfl rfl (aI_hp g_4233) ?_
    by_cases c_4234 : v_4233 ≤ x4
    · rw [if_pos c_4234] at e
      refine Rn.bt hT rfl rfl rfl (decide_eq_true ((ti_le p_4233 p4).mpr c_4234)) ?_
      exact Rn.weak (ll_s (ll_s (ll_s (ll_s (ll_n (ll_n ll_e)))))) (hk m2 x2 p2 m3 x3 p3 e)
    · rw [if_neg c_4234] at e
      refine Rn.bf hT rfl rfl rfl (decide_eq_false (fun z => c_4234 ((ti_le p_4233 p4).mp z))) ?_
      refine Rn.n hT 4 (pc' := 45) (L' := [some (.ref q0), some (.int m1), some (.int m2), some (.int m3), some (.int m4), none]) (st' := [.int (1 : Int32), .int m4, .ref q0, .int m2]) rfl ?_
      obtain ⟨v_4235, e_4235, e⟩ := Option.bind_eq_some_iff.mp e
      refine Rn.call hT rfl rfl rfl (Nat.le_of_ble_eq_true rfl) (rcv_v gX12_doorsOf (by omega) (rp_ck hR (T12_o t0))) (RX12_doorsOf (by omega) hR t0 p4 L32_1 e_4235 (fun z_4235 p_4235 => ?_))
      show Rn d _ _ 48 [some (.ref q0), some (.int m1), some (.int m2), some (.int m3), some (.int m4), none] [.int z_4235, .int m2] h Q
      by_cases c_4236 : v_4235 ≤ 0
      · rw [if_pos c_4236] at e
        refine Rn.bt hT rfl rfl rfl (decide_eq_true ((ti_le p_4235 L32_0).mpr c_4236)) ?_
        refine Rn.n hT 1 (pc' := 66) (L' := [some (.ref q0), some (.int m1), some (.int m2), some (.int m3), some (.int m4), none]) (st' := [.int (0 : Int32), .int m2]) rfl ?_
        exact Rn.weak (ll_s (ll_s (ll_n (ll_s (ll_s (ll_n ll_e)))))) (RX12_drift_b66 hd hR t0 p1 p3 p4 L32_0 p2 ih hk hq e)
      · rw [if_neg c_4236] at e
        refine Rn.bf hT rfl rfl rfl (decide_eq_false (fun z => c_4236 ((ti_le p_4235 L32_0).mp z))) ?_
        refine Rn.n hT 2 (pc' := 53) (L' := [some (.ref q0), some (.int m1), some (.int m2), some (.int m3), some (.int m4), none]) (st' := [.ref q0, .ref q0, .int m2]) rfl ?_
        refine Rn.hp hT rfl rfl (gR_hp (rp_gR hR (T12_o t0) rfl)) ?_
        refine Rn.n hT 1 (pc' := 58) (L' := [some (.ref q0), some (.int m1), some (.int m2), some (.int m3), some (.int m4), none]) (st' := [.int m4, .ref (q0 + 3), .ref q0, .int m2]) rfl ?_
        obtain ⟨v_4237, e_4237, e⟩ := Option.bind_eq_some_iff.mp e
        obtain ⟨z_4237, g_4237, p_4237⟩ := rp_aI hR (T12_3 t0) (T12_3l t0) p4 e_4237
        refine Rn.hp hT rfl rfl (aI_hp g_4237) ?_
        obtain ⟨v_4238, e_4238, e⟩ := Option.bind_eq_some_iff.mp e
        refine Rn.call hT rfl rfl rfl (Nat.le_of_ble_eq_true rfl) (rcv_v gX12_fromEdge (by omega) (rp_ck hR (T12_o t0))) (RX12_fromEdge (by omega) hR t0 p_4237 e_4238 (fun z_4238 p_4238 => ?_))
        show Rn d _ _ 62 [some (.ref q0), some (.int m1), some (.int m2), some (.int m3), some (.int m4), none] [.int z_4238, .int m2] h Q
        refine Rn.n hT 1 (pc' := 66) (L' := [some (.ref q0), some (.int m1), some (.int m2), some (.int m3), some (.int m4), none]) (st' := [.int z_4238, .int m2]) rfl ?_
        exact Rn.weak (ll_s (ll_s (ll_n (ll_s (ll_s (ll_n ll_e)))))) (RX12_drift_b66 hd hR t0 p1 p3 p4 p_4238 p2 ih hk hq e)
def FX12_drift_b127 (N : Nat) (s : iv_M)  (xs0 : Int) : Option (Int) := (some xs0)
set_option maxRecDepth 10000 in
set_option maxHeartbeats 4000000 in
theorem RX12_drift_b127 {d N nc Ls : Nat} {Xs : Nat → Int32} (hd : 5 ≤ d) {h : iv_H} {s : iv_M} (hR : Rep nc Ls Xs h s)  {ms0 : Int32} {xs0 : Int} (ps0 : ms0.toInt = xs0) {r : Int} {Q : Option Value → iv_H → Prop} (hq : ∀ (z : Int32), z.toInt = r → Q (some (.int z)) h) (e : FX12_drift_b127 N s  xs0 = some r) : Rn d 328 (some .int) 127 [none, none, none, none, none, none] [.int ms0] h Q := by
  have hT := hX12_drift
  unfold FX12_drift_b127 at e
  obtain rfl := Option.some.inj e
  exact Rn.ret hT rfl rfl rfl (hq ms0 ps0)
def FX12_drift_b118 (N : Nat) (s : iv_M) (x1 : Int) (x2 : Int) (x3 : Int)  : Option (Int) := (if x1 = 0 then (FX12_drift_b127 N s x2) else (FX12_drift_b127 N s x3))
set_option maxRecDepth 10000 in
set_option maxHeartbeats 4000000 in
theorem RX12_drift_b118 {d N nc Ls : Nat} {Xs : Nat → Int32} (hd : 5 ≤ d) {h : iv_H} {s : iv_M} (hR : Rep nc Ls Xs h s) {m1 : Int32} {x1 : Int} (p1 : m1.toInt = x1) {m2 : Int32} {x2 : Int} (p2 : m2.toInt = x2) {m3 : Int32} {x3 : Int} (p3 : m3.toInt = x3)  {r : Int} {Q : Option Value → iv_H → Prop} (hq : ∀ (z : Int32), z.toInt = r → Q (some (.int z)) h) (e : FX12_drift_b118 N s x1 x2 x3  = some r) : Rn d 328 (some .int) 118 [none, some (.int m1), some (.int m2), some (.int m3), none, none] [] h Q := by
  have hT := hX12_drift
  unfold FX12_drift_b118 at e
  refine Rn.n hT 1 (pc' := 119) (L' := [none, some (.int m1), some (.int m2), some (.int m3), none, none]) (st' := [.int m1]) rfl ?_
  by_cases c_4243 : x1 = 0
  · rw [if_pos c_4243] at e
    refine Rn.bf hT rfl rfl rfl (decide_eq_false (fun z => z ((ti_e p1 L32_0).mpr c_4243))) ?_
    refine Rn.n hT 2 (pc' := 127) (L' := [none, some (.int m1), some (.int m2), some (.int m3), none, none]) (st' := [.int m2]) rfl ?_
    exact Rn.weak (ll_n (ll_n (ll_n (ll_n (ll_n (ll_n ll_e)))))) (RX12_drift_b127 hd hR p2 hq e)
  · rw [if_neg c_4243] at e
    refine Rn.bt hT rfl rfl rfl (decide_eq_true (fun z => c_4243 ((ti_e p1 L32_0).mp z))) ?_
    refine Rn.n hT 1 (pc' := 127) (L' := [none, some (.int m1), some (.int m2), some (.int m3), none, none]) (st' := [.int m3]) rfl ?_
    exact Rn.weak (ll_n (ll_n (ll_n (ll_n (ll_n (ll_n ll_e)))))) (RX12_drift_b127 hd hR p3 hq e)
def FX12_drift_b157 (N : Nat) (s : iv_M) (q0 : Nat) (x3 : Int) (x5 : Int) (xs0 : Int) (xs1 : Int) (kb : Int → Int → Option (Int)) (kx : Int → Option (Int)) : Option (Int) := (kb (w32 (xs1 + xs0)) (w32 (x5 + 1)))
set_option maxRecDepth 10000 in
set_option maxHeartbeats 4000000 in
theorem RX12_drift_b157 {d N nc Ls : Nat} {Xs : Nat → Int32} (hd : 5 ≤ d) {h : iv_H} {s : iv_M} (hR : Rep nc Ls Xs h s) {q0 : Nat} (t0 : T12 nc q0) {m3 : Int32} {x3 : Int} (p3 : m3.toInt = x3) {m5 : Int32} {x5 : Int} (p5 : m5.toInt = x5) {ms0 : Int32} {xs0 : Int} (ps0 : ms0.toInt = xs0) {ms1 : Int32} {xs1 : Int} (ps1 : ms1.toInt = xs1) {kb : Int → Int → Option (Int)} {kx : Int → Option (Int)} {r : Int} {Q : Option Value → iv_H → Prop} (hb : ∀ (mw4 : Int32) (xw4 : Int) (pw4 : mw4.toInt = xw4) (mw5 : Int32) (xw5 : Int) (pw5 : mw5.toInt = xw5), kb xw4 xw5 = some r → Rn d 328 (some .int) 134 [some (.ref q0), none, none, some (.int m3), some (.int mw4), some (.int mw5)] [] h Q) (hk : ∀ (mw4 : Int32) (xw4 : Int) (pw4 : mw4.toInt = xw4), kx xw4 = some r → Rn d 328 (some .int) 166 [none, none, none, none, some (.int mw4), none] [] h Q) (hq : ∀ (z : Int32), z.toInt = r → Q (some (.int z)) h) (e : FX12_drift_b157 N s q0 x3 x5 xs0 xs1 kb kx = some r) : Rn d 328 (some .int) 157 [some (.ref q0), none, none, some (.int m3), none, some (.int m5)] [.int ms0, .int ms1] h Q := by
  have hT := hX12_drift
  unfold FX12_drift_b157 at e
  refine Rn.n hT 4 (pc' := 134) (L' := [some (.ref q0), none, none, some (.int m3), some (.int (ms1 + ms0)), some (.int (m5 + (1 : Int32)))]) (st' := []) rfl ?_
  exact Rn.weak (ll_s (ll_n (ll_n (ll_s (ll_s (ll_s ll_e)))))) (hb (ms1 + ms0) (w32 (xs1 + xs0)) (ti_add ps1 ps0) (m5 + (1 : Int32)) (w32 (x5 + 1)) (ti_add p5 L32_1) e)
def FX12_drift_l134 (N : Nat) (s : iv_M) (q0 : Nat) (x3 : Int) (kx : Int → Option (Int)) : Nat → Int → Int → Option (Int)
  | 0, _, _ => none
  | n + 1, x4, x5 => (if 4 ≤ x5 then (kx x4) else ((FX12_isDoorToDoor N s q0 x3 x5).bind fun v_4245 => (if v_4245 = 0 then (FX12_drift_b157 N s q0 x3 x5 0 x4 (FX12_drift_l134 N s q0 x3 kx n) kx) else (FX12_drift_b157 N s q0 x3 x5 1 x4 (FX12_drift_l134 N s q0 x3 kx n) kx))))
set_option maxRecDepth 10000 in
set_option maxHeartbeats 4000000 in
theorem RX12_drift_l134 {d N nc Ls : Nat} {Xs : Nat → Int32} (hd : 5 ≤ d) {h : iv_H} {s : iv_M} (hR : Rep nc Ls Xs h s) {q0 : Nat} (t0 : T12 nc q0) {m3 : Int32} {x3 : Int} (p3 : m3.toInt = x3) {kx : Int → Option (Int)} {r : Int} {Q : Option Value → iv_H → Prop} (hk : ∀ (m4 : Int32) (x4 : Int) (p4 : m4.toInt = x4), kx x4 = some r → Rn d 328 (some .int) 166 [none, none, none, none, some (.int m4), none] [] h Q) (hq : ∀ (z : Int32), z.toInt = r → Q (some (.int z)) h) : ∀ (n : Nat) (m4 : Int32) (x4 : Int) (p4 : m4.toInt = x4) (m5 : Int32) (x5 : Int) (p5 : m5.toInt = x5), FX12_drift_l134 N s q0 x3 kx n x4 x5 = some r → Rn d 328 (some .int) 134 [some (.ref q0), none, none, some (.int m3), some (.int m4), some (.int m5)] [] h Q := by
  have hT := hX12_drift
  intro n
  induction n with
  | zero =>
    intro m4 x4 p4 m5 x5 p5 e
    rw [FX12_drift_l134] at e
    cases e
  | succ n ih =>
    intro m4 x4 p4 m5 x5 p5 e
    rw [FX12_drift_l134] at e
    refine Rn.n hT 2 (pc' := 137) (L' := [some (.ref q0), none, none, some (.int m3), some (.int m4), some (.int m5)]) (st' := [.int (4 : Int32), .int m5]) rfl ?_
    by_cases c_4244 : 4 ≤ x5
    · rw [if_pos c_4244] at e
      refine Rn.bt hT rfl rfl rfl (decide_eq_true ((ti_le L32_4 p5).mpr c_4244)) ?_
      exact Rn.weak (ll_n (ll_n (ll_n (ll_n (ll_s (ll_n ll_e)))))) (hk m4 x4 p4 e)
    · rw [if_neg c_4244] at e
      refine Rn.bf hT rfl rfl rfl (decide_eq_false (fun z => c_4244 ((ti_le L32_4 p5).mp z))) ?_
      refine Rn.n hT 4 (pc' := 146) (L' := [some (.ref q0), none, none, some (.int m3), some (.int m4), some (.int m5)]) (st' := [.int m5, .int m3, .ref q0, .int m4]) rfl ?_
      obtain ⟨v_4245, e_4245, e⟩ := Option.bind_eq_some_iff.mp e
      refine Rn.call hT rfl rfl rfl (Nat.le_of_ble_eq_true rfl) (rcv_v gX12_isDoorToDoor (by omega) (rp_ck hR (T12_o t0))) (RX12_isDoorToDoor (by omega) hR t0 p3 p5 e_4245 (fun z_4245 p_4245 => ?_))
      show Rn d _ _ 149 [some (.ref q0), none, none, some (.int m3), some (.int m4), some (.int m5)] [.int z_4245, .int m4] h Q
      by_cases c_4246 : v_4245 = 0
      · rw [if_pos c_4246] at e
        refine Rn.bt hT rfl rfl rfl (decide_eq_true ((ti_e p_4245 L32_0).mpr c_4246)) ?_
        refine Rn.n hT 1 (pc' := 157) (L' := [some (.ref q0), none, none, some (.int m3), some (.int m4), some (.int m5)]) (st' := [.int (0 : Int32), .int m4]) rfl ?_
        exact Rn.weak (ll_s (ll_n (ll_n (ll_s (ll_n (ll_s ll_e)))))) (RX12_drift_b157 hd hR t0 p3 p5 L32_0 p4 ih hk hq e)
      · rw [if_neg c_4246] at e
        refine Rn.bf hT rfl rfl rfl (decide_eq_false (fun z => c_4246 ((ti_e p_4245 L32_0).mp z))) ?_
        refine Rn.n hT 2 (pc' := 157) (L' := [some (.ref q0), none, none, some (.int m3), some (.int m4), some (.int m5)]) (st' := [.int (1 : Int32), .int m4]) rfl ?_
        exact Rn.weak (ll_s (ll_n (ll_n (ll_s (ll_n (ll_s ll_e)))))) (RX12_drift_b157 hd hR t0 p3 p5 L32_1 p4 ih hk hq e)
def FX12_drift (N : Nat) (s : iv_M) (q0 : Nat) (x1 : Int) : Option (Int) := ((FX12_isPalace N s q0).bind fun v_4224 => (if v_4224 = 0 then (FX12_drift_b19 N s) else ((FX12_in N s x1 0 2).bind fun v_4226 => (if v_4226 = 0 then (FX12_drift_b19 N s) else (FX12_drift_l29 N s q0 x1 (fun (x4228_2 : Int) (x4228_3 : Int) => (if x1 = 0 then (FX12_drift_b118 N s x1 x4228_2 x4228_3) else (if x1 = 1 then (FX12_drift_b118 N s x1 x4228_2 x4228_3) else (if x4228_3 = (-2) then (FX12_drift_b118 N s x1 x4228_2 x4228_3) else (FX12_drift_l134 N s q0 x4228_3 (fun (x4232_4 : Int) => (some x4232_4)) N 0 0))))) N 0 (-2) 0)))))
set_option maxRecDepth 10000 in
set_option maxHeartbeats 4000000 in
theorem RX12_drift {d N nc Ls : Nat} {Xs : Nat → Int32} (hd : 6 ≤ d) {h : iv_H} {s : iv_M} (hR : Rep nc Ls Xs h s) {q0 : Nat} (t0 : T12 nc q0) {m1 : Int32} {x1 : Int} (p1 : m1.toInt = x1) {r : Int} {Q : Option Value → iv_H → Prop} (e : FX12_drift N s q0 x1 = some r) (hq : ∀ (z : Int32), z.toInt = r → Q (some (.int z)) h) : Cl d 328 [.ref q0, .int m1] h Q := by
  obtain ⟨d, rfl⟩ : ∃ k, d = k + 1 := ⟨d - 1, by omega⟩
  have hd : 5 ≤ d := by omega
  have hT := hX12_drift
  unfold FX12_drift at e
  refine Cl.into (by decide) gX12_drift rfl ?_
  show Rn d 328 (some .int) 0 [some (.ref q0), some (.int m1), none, none, none, none] [] h Q
  refine Rn.n hT 1 (pc' := 1) (L' := [some (.ref q0), some (.int m1), none, none, none, none]) (st' := [.ref q0]) rfl ?_
  obtain ⟨v_4224, e_4224, e⟩ := Option.bind_eq_some_iff.mp e
  refine Rn.call hT rfl rfl rfl (Nat.le_of_ble_eq_true rfl) (rcv_v gX12_isPalace (by omega) (rp_ck hR (T12_o t0))) (RX12_isPalace (by omega) hR t0 e_4224 (fun z_4224 p_4224 => ?_))
  show Rn d _ _ 4 [some (.ref q0), some (.int m1), none, none, none, none] [.int z_4224] h Q
  by_cases c_4225 : v_4224 = 0
  · rw [if_pos c_4225] at e
    refine Rn.bt hT rfl rfl rfl (decide_eq_true ((ti_e p_4224 L32_0).mpr c_4225)) ?_
    exact Rn.weak (ll_n (ll_n (ll_n (ll_n (ll_n (ll_n ll_e)))))) (RX12_drift_b19 hd hR hq e)
  · rw [if_neg c_4225] at e
    refine Rn.bf hT rfl rfl rfl (decide_eq_false (fun z => c_4225 ((ti_e p_4224 L32_0).mp z))) ?_
    refine Rn.n hT 4 (pc' := 13) (L' := [some (.ref q0), some (.int m1), none, none, none, none]) (st' := [.long (2 : Int64), .long (0 : Int64), .long ((m1).toInt64)]) rfl ?_
    obtain ⟨v_4226, e_4226, e⟩ := Option.bind_eq_some_iff.mp e
    refine Rn.call hT rfl rfl rfl (Nat.le_of_ble_eq_true rfl) rfl (RX12_in (by omega) hR (ti_j p1) L64_0 L64_2 e_4226 (fun z_4226 p_4226 => ?_))
    show Rn d _ _ 16 [some (.ref q0), some (.int m1), none, none, none, none] [.int z_4226] h Q
    by_cases c_4227 : v_4226 = 0
    · rw [if_pos c_4227] at e
      refine Rn.bf hT rfl rfl rfl (decide_eq_false (fun z => z ((ti_e p_4226 L32_0).mpr c_4227))) ?_
      exact Rn.weak (ll_n (ll_n (ll_n (ll_n (ll_n (ll_n ll_e)))))) (RX12_drift_b19 hd hR hq e)
    · rw [if_neg c_4227] at e
      refine Rn.bt hT rfl rfl rfl (decide_eq_true (fun z => c_4227 ((ti_e p_4226 L32_0).mp z))) ?_
      refine Rn.n hT 6 (pc' := 29) (L' := [some (.ref q0), some (.int m1), some (.int (0 : Int32)), some (.int (-2 : Int32)), some (.int (0 : Int32)), none]) (st' := []) rfl ?_
      refine Rn.weak (ll_s (ll_s (ll_s (ll_s (ll_s (ll_n ll_e)))))) (RX12_drift_l29 hd hR t0 p1 (fun m4228_2 x4228_2 p4228_2 m4228_3 x4228_3 p4228_3 e => ?_) hq N (0 : Int32) 0 L32_0 (-2 : Int32) (-2) L32_m2 (0 : Int32) 0 L32_0 e)
      try dsimp only at e
      refine Rn.n hT 1 (pc' := 104) (L' := [some (.ref q0), some (.int m1), some (.int m4228_2), some (.int m4228_3), none, none]) (st' := [.int m1]) rfl ?_
      by_cases c_4229 : x1 = 0
      · rw [if_pos c_4229] at e
        refine Rn.bt hT rfl rfl rfl (decide_eq_true ((ti_e p1 L32_0).mpr c_4229)) ?_
        exact Rn.weak (ll_n (ll_s (ll_s (ll_s (ll_n (ll_n ll_e)))))) (RX12_drift_b118 hd hR p1 p4228_2 p4228_3 hq e)
      · rw [if_neg c_4229] at e
        refine Rn.bf hT rfl rfl rfl (decide_eq_false (fun z => c_4229 ((ti_e p1 L32_0).mp z))) ?_
        refine Rn.n hT 2 (pc' := 109) (L' := [some (.ref q0), some (.int m1), some (.int m4228_2), some (.int m4228_3), none, none]) (st' := [.int (1 : Int32), .int m1]) rfl ?_
        by_cases c_4230 : x1 = 1
        · rw [if_pos c_4230] at e
          refine Rn.bt hT rfl rfl rfl (decide_eq_true ((ti_e p1 L32_1).mpr c_4230)) ?_
          exact Rn.weak (ll_n (ll_s (ll_s (ll_s (ll_n (ll_n ll_e)))))) (RX12_drift_b118 hd hR p1 p4228_2 p4228_3 hq e)
        · rw [if_neg c_4230] at e
          refine Rn.bf hT rfl rfl rfl (decide_eq_false (fun z => c_4230 ((ti_e p1 L32_1).mp z))) ?_
          refine Rn.n hT 2 (pc' := 115) (L' := [some (.ref q0), some (.int m1), some (.int m4228_2), some (.int m4228_3), none, none]) (st' := [.int (-2 : Int32), .int m4228_3]) rfl ?_
          by_cases c_4231 : x4228_3 = (-2)
          · rw [if_pos c_4231] at e
            refine Rn.bf hT rfl rfl rfl (decide_eq_false (fun z => z ((ti_e p4228_3 L32_m2).mpr c_4231))) ?_
            exact Rn.weak (ll_n (ll_s (ll_s (ll_s (ll_n (ll_n ll_e)))))) (RX12_drift_b118 hd hR p1 p4228_2 p4228_3 hq e)
          · rw [if_neg c_4231] at e
            refine Rn.bt hT rfl rfl rfl (decide_eq_true (fun z => c_4231 ((ti_e p4228_3 L32_m2).mp z))) ?_
            refine Rn.n hT 4 (pc' := 134) (L' := [some (.ref q0), some (.int m1), some (.int m4228_2), some (.int m4228_3), some (.int (0 : Int32)), some (.int (0 : Int32))]) (st' := []) rfl ?_
            refine Rn.weak (ll_s (ll_n (ll_n (ll_s (ll_s (ll_s ll_e)))))) (RX12_drift_l134 hd hR t0 p4228_3 (fun m4232_4 x4232_4 p4232_4 e => ?_) hq N (0 : Int32) 0 L32_0 (0 : Int32) 0 L32_0 e)
            try dsimp only at e
            refine Rn.n hT 1 (pc' := 168) (L' := [none, none, none, none, some (.int m4232_4), none]) (st' := [.int m4232_4]) rfl ?_
            obtain rfl := Option.some.inj e
            exact Rn.ret hT rfl rfl rfl (hq m4232_4 p4232_4)
set_option maxRecDepth 10000 in
theorem hX12_woke : iv_Tb 329 tX12_woke := iv_tb_of (m := mX12_woke) rfl
set_option maxRecDepth 10000 in
theorem gX12_woke : PG.2 329 = some mX12_woke := iv_pi_of (t := tX12_woke) rfl (by decide)
def FX12_woke_b48 (N : Nat) (s : iv_M)   : Option (Int × iv_M) := (some ((-2), s))
set_option maxRecDepth 10000 in
set_option maxHeartbeats 4000000 in
theorem RX12_woke_b48 {d N nc Ls : Nat} {Xs : Nat → Int32} (hd : 2 ≤ d) {h : iv_H} {s : iv_M} (hR : Rep nc Ls Xs h s)   {r : Int × iv_M} {Q : Option Value → iv_H → Prop} (hq : ∀ (z : Int32) (h1 : iv_H), z.toInt = r.1 → Rep nc Ls Xs h1 r.2 → Q (some (.int z)) h1) (e : FX12_woke_b48 N s   = some r) : Rn d 329 (some .int) 48 [none, none, none, none, none] [] h Q := by
  have hT := hX12_woke
  unfold FX12_woke_b48 at e
  refine Rn.n hT 1 (pc' := 50) (L' := [none, none, none, none, none]) (st' := [.int (-2 : Int32)]) rfl ?_
  obtain rfl := Option.some.inj e
  exact Rn.ret hT rfl rfl rfl (hq (-2 : Int32) h L32_m2 hR)
def FX12_woke (N : Nat) (s : iv_M) (q0 : Nat) (x1 : Int) (x2 : Int) (x3 : Int) : Option (Int × iv_M) := (if x1 = (-1) then ((wr s (q0 + 1) 14 10 0).bind fun s_4261 => (some (0, s_4261))) else ((rd s (q0 + 1) 14 10).bind fun v_4248 => ((FX12_isRoom N s q0 x1).bind fun v_4249 => (if v_4249 = 0 then (FX12_woke_b48 N s) else ((FX12_isCell N s q0 x2 x3).bind fun v_4251 => (if v_4251 = 0 then (FX12_woke_b48 N s) else (if v_4248 = 8 then (FX12_woke_b48 N s) else ((wr s (q0 + 17) 8 v_4248 x1).bind fun s_4254 => ((wr s_4254 (q0 + 18) 8 v_4248 (w32 ((w32 (4 * x3)) + x2))).bind fun s_4256 => ((rd s_4256 (q0 + 1) 14 10).bind fun v_4258 => ((wr s_4256 (q0 + 1) 14 10 (w32 (v_4258 + 1))).bind fun s_4259 => (some ((w32 (v_4248 + 1)), s_4259)))))))))))))
set_option maxRecDepth 10000 in
set_option maxHeartbeats 4000000 in
theorem RX12_woke {d N nc Ls : Nat} {Xs : Nat → Int32} (hd : 3 ≤ d) {h : iv_H} {s : iv_M} (hR : Rep nc Ls Xs h s) {q0 : Nat} (t0 : T12 nc q0) {m1 : Int32} {x1 : Int} (p1 : m1.toInt = x1) {m2 : Int32} {x2 : Int} (p2 : m2.toInt = x2) {m3 : Int32} {x3 : Int} (p3 : m3.toInt = x3) {r : Int × iv_M} {Q : Option Value → iv_H → Prop} (e : FX12_woke N s q0 x1 x2 x3 = some r) (hq : ∀ (z : Int32) (h1 : iv_H), z.toInt = r.1 → Rep nc Ls Xs h1 r.2 → Q (some (.int z)) h1) : Cl d 329 [.ref q0, .int m1, .int m2, .int m3] h Q := by
  obtain ⟨d, rfl⟩ : ∃ k, d = k + 1 := ⟨d - 1, by omega⟩
  have hd : 2 ≤ d := by omega
  have hT := hX12_woke
  unfold FX12_woke at e
  refine Cl.into (by decide) gX12_woke rfl ?_
  show Rn d 329 (some .int) 0 [some (.ref q0), some (.int m1), some (.int m2), some (.int m3), none] [] h Q
  refine Rn.n hT 2 (pc' := 2) (L' := [some (.ref q0), some (.int m1), some (.int m2), some (.int m3), none]) (st' := [.int (-1 : Int32), .int m1]) rfl ?_
  by_cases c_4247 : x1 = (-1)
  · rw [if_pos c_4247] at e
    refine Rn.bf hT rfl rfl rfl (decide_eq_false (fun z => z ((ti_e p1 L32_m1).mpr c_4247))) ?_
    refine Rn.n hT 1 (pc' := 6) (L' := [some (.ref q0), some (.int m1), some (.int m2), some (.int m3), none]) (st' := [.ref q0]) rfl ?_
    refine Rn.hp hT rfl rfl (gR_hp (rp_gR hR (T12_o t0) rfl)) ?_
    refine Rn.n hT 2 (pc' := 12) (L' := [some (.ref q0), some (.int m1), some (.int m2), some (.int m3), none]) (st' := [.int (0 : Int32), .int (10 : Int32), .ref (q0 + 1)]) rfl ?_
    obtain ⟨s_4261, e_4262, e⟩ := Option.bind_eq_some_iff.mp e
    obtain ⟨h_4261, g_4262, R_4261⟩ := rp_wI hR (T12_1 t0) (T12_1l t0) L32_10 L32_0 e_4262
    refine Rn.hp hT rfl rfl (wI_hp g_4262) ?_
    refine Rn.n hT 1 (pc' := 14) (L' := [some (.ref q0), some (.int m1), some (.int m2), some (.int m3), none]) (st' := [.int (0 : Int32)]) rfl ?_
    obtain rfl := Option.some.inj e
    exact Rn.ret hT rfl rfl rfl (hq (0 : Int32) h_4261 L32_0 R_4261)
  · rw [if_neg c_4247] at e
    refine Rn.bt hT rfl rfl rfl (decide_eq_true (fun z => c_4247 ((ti_e p1 L32_m1).mp z))) ?_
    refine Rn.n hT 1 (pc' := 16) (L' := [some (.ref q0), some (.int m1), some (.int m2), some (.int m3), none]) (st' := [.ref q0]) rfl ?_
    refine Rn.hp hT rfl rfl (gR_hp (rp_gR hR (T12_o t0) rfl)) ?_
    refine Rn.n hT 1 (pc' := 21) (L' := [some (.ref q0), some (.int m1), some (.int m2), some (.int m3), none]) (st' := [.int (10 : Int32), .ref (q0 + 1)]) rfl ?_
    obtain ⟨v_4248, e_4248, e⟩ := Option.bind_eq_some_iff.mp e
    obtain ⟨z_4248, g_4248, p_4248⟩ := rp_aI hR (T12_1 t0) (T12_1l t0) L32_10 e_4248
    refine Rn.hp hT rfl rfl (aI_hp g_4248) ?_
    refine Rn.n hT 3 (pc' := 26) (L' := [some (.ref q0), some (.int m1), some (.int m2), some (.int m3), some (.int z_4248)]) (st' := [.int m1, .ref q0]) rfl ?_
    obtain ⟨v_4249, e_4249, e⟩ := Option.bind_eq_some_iff.mp e
    refine Rn.call hT rfl rfl rfl (Nat.le_of_ble_eq_true rfl) (rcv_v gX12_isRoom (by omega) (rp_ck hR (T12_o t0))) (RX12_isRoom (by omega) hR t0 p1 e_4249 (fun z_4249 p_4249 => ?_))
    show Rn d _ _ 29 [some (.ref q0), some (.int m1), some (.int m2), some (.int m3), some (.int z_4248)] [.int z_4249] h Q
    by_cases c_4250 : v_4249 = 0
    · rw [if_pos c_4250] at e
      refine Rn.bt hT rfl rfl rfl (decide_eq_true ((ti_e p_4249 L32_0).mpr c_4250)) ?_
      exact Rn.weak (ll_n (ll_n (ll_n (ll_n (ll_n ll_e))))) (RX12_woke_b48 hd hR hq e)
    · rw [if_neg c_4250] at e
      refine Rn.bf hT rfl rfl rfl (decide_eq_false (fun z => c_4250 ((ti_e p_4249 L32_0).mp z))) ?_
      refine Rn.n hT 3 (pc' := 35) (L' := [some (.ref q0), some (.int m1), some (.int m2), some (.int m3), some (.int z_4248)]) (st' := [.int m3, .int m2, .ref q0]) rfl ?_
      obtain ⟨v_4251, e_4251, e⟩ := Option.bind_eq_some_iff.mp e
      refine Rn.call hT rfl rfl rfl (Nat.le_of_ble_eq_true rfl) (rcv_v gX12_isCell (by omega) (rp_ck hR (T12_o t0))) (RX12_isCell (by omega) hR t0 p2 p3 e_4251 (fun z_4251 p_4251 => ?_))
      show Rn d _ _ 38 [some (.ref q0), some (.int m1), some (.int m2), some (.int m3), some (.int z_4248)] [.int z_4251] h Q
      by_cases c_4252 : v_4251 = 0
      · rw [if_pos c_4252] at e
        refine Rn.bt hT rfl rfl rfl (decide_eq_true ((ti_e p_4251 L32_0).mpr c_4252)) ?_
        exact Rn.weak (ll_n (ll_n (ll_n (ll_n (ll_n ll_e))))) (RX12_woke_b48 hd hR hq e)
      · rw [if_neg c_4252] at e
        refine Rn.bf hT rfl rfl rfl (decide_eq_false (fun z => c_4252 ((ti_e p_4251 L32_0).mp z))) ?_
        refine Rn.n hT 2 (pc' := 45) (L' := [some (.ref q0), some (.int m1), some (.int m2), some (.int m3), some (.int z_4248)]) (st' := [.int (8 : Int32), .int z_4248]) rfl ?_
        by_cases c_4253 : v_4248 = 8
        · rw [if_pos c_4253] at e
          refine Rn.bf hT rfl rfl rfl (decide_eq_false (fun z => z ((ti_e p_4248 L32_8).mpr c_4253))) ?_
          exact Rn.weak (ll_n (ll_n (ll_n (ll_n (ll_n ll_e))))) (RX12_woke_b48 hd hR hq e)
        · rw [if_neg c_4253] at e
          refine Rn.bt hT rfl rfl rfl (decide_eq_true (fun z => c_4253 ((ti_e p_4248 L32_8).mp z))) ?_
          refine Rn.n hT 1 (pc' := 52) (L' := [some (.ref q0), some (.int m1), some (.int m2), some (.int m3), some (.int z_4248)]) (st' := [.ref q0]) rfl ?_
          refine Rn.hp hT rfl rfl (gR_hp (rp_gR hR (T12_o t0) rfl)) ?_
          refine Rn.n hT 2 (pc' := 58) (L' := [some (.ref q0), some (.int m1), some (.int m2), some (.int m3), some (.int z_4248)]) (st' := [.int m1, .int z_4248, .ref (q0 + 17)]) rfl ?_
          obtain ⟨s_4254, e_4255, e⟩ := Option.bind_eq_some_iff.mp e
          obtain ⟨h_4254, g_4255, R_4254⟩ := rp_wI hR (T12_17 t0) (T12_17l t0) p_4248 p1 e_4255
          refine Rn.hp hT rfl rfl (wI_hp g_4255) ?_
          refine Rn.n hT 1 (pc' := 60) (L' := [some (.ref q0), some (.int m1), some (.int m2), some (.int m3), some (.int z_4248)]) (st' := [.ref q0]) rfl ?_
          refine Rn.hp hT rfl rfl (gR_hp (rp_gR R_4254 (T12_o t0) rfl)) ?_
          refine Rn.n hT 6 (pc' := 70) (L' := [some (.ref q0), some (.int m1), some (.int m2), some (.int m3), some (.int z_4248)]) (st' := [.int (((4 : Int32) * m3) + m2), .int z_4248, .ref (q0 + 18)]) rfl ?_
          obtain ⟨s_4256, e_4257, e⟩ := Option.bind_eq_some_iff.mp e
          obtain ⟨h_4256, g_4257, R_4256⟩ := rp_wI R_4254 (T12_18 t0) (T12_18l t0) p_4248 (ti_add (ti_mul L32_4 p3) p2) e_4257
          refine Rn.hp hT rfl rfl (wI_hp g_4257) ?_
          refine Rn.n hT 1 (pc' := 72) (L' := [some (.ref q0), some (.int m1), some (.int m2), some (.int m3), some (.int z_4248)]) (st' := [.ref q0]) rfl ?_
          refine Rn.hp hT rfl rfl (gR_hp (rp_gR R_4256 (T12_o t0) rfl)) ?_
          refine Rn.n hT 2 (pc' := 78) (L' := [some (.ref q0), some (.int m1), some (.int m2), some (.int m3), some (.int z_4248)]) (st' := [.int (10 : Int32), .ref (q0 + 1), .int (10 : Int32), .ref (q0 + 1)]) rfl ?_
          obtain ⟨v_4258, e_4258, e⟩ := Option.bind_eq_some_iff.mp e
          obtain ⟨z_4258, g_4258, p_4258⟩ := rp_aI R_4256 (T12_1 t0) (T12_1l t0) L32_10 e_4258
          refine Rn.hp hT rfl rfl (aI_hp g_4258) ?_
          refine Rn.n hT 2 (pc' := 81) (L' := [some (.ref q0), some (.int m1), some (.int m2), some (.int m3), some (.int z_4248)]) (st' := [.int (z_4258 + (1 : Int32)), .int (10 : Int32), .ref (q0 + 1)]) rfl ?_
          obtain ⟨s_4259, e_4260, e⟩ := Option.bind_eq_some_iff.mp e
          obtain ⟨h_4259, g_4260, R_4259⟩ := rp_wI R_4256 (T12_1 t0) (T12_1l t0) L32_10 (ti_add p_4258 L32_1) e_4260
          refine Rn.hp hT rfl rfl (wI_hp g_4260) ?_
          refine Rn.n hT 3 (pc' := 86) (L' := [some (.ref q0), some (.int m1), some (.int m2), some (.int m3), some (.int z_4248)]) (st' := [.int (z_4248 + (1 : Int32))]) rfl ?_
          obtain rfl := Option.some.inj e
          exact Rn.ret hT rfl rfl rfl (hq (z_4248 + (1 : Int32)) h_4259 (ti_add p_4248 L32_1) R_4259)
set_option maxRecDepth 10000 in
theorem hX12_isAsWoken : iv_Tb 330 tX12_isAsWoken := iv_tb_of (m := mX12_isAsWoken) rfl
set_option maxRecDepth 10000 in
theorem gX12_isAsWoken : PG.2 330 = some mX12_isAsWoken := iv_pi_of (t := tX12_isAsWoken) rfl (by decide)
def FX12_isAsWoken_b44 (N : Nat) (s : iv_M) (q0 : Nat) (x2 : Int) (xs0 : Int) (kb : Int → Int → Option (Int)) (kx : Int → Option (Int)) : Option (Int) := (kb xs0 (w32 (x2 + 1)))
set_option maxRecDepth 10000 in
set_option maxHeartbeats 4000000 in
theorem RX12_isAsWoken_b44 {d N nc Ls : Nat} {Xs : Nat → Int32} (hd : 0 ≤ d) {h : iv_H} {s : iv_M} (hR : Rep nc Ls Xs h s) {q0 : Nat} (t0 : T12 nc q0) {m2 : Int32} {x2 : Int} (p2 : m2.toInt = x2) {ms0 : Int32} {xs0 : Int} (ps0 : ms0.toInt = xs0) {kb : Int → Int → Option (Int)} {kx : Int → Option (Int)} {r : Int} {Q : Option Value → iv_H → Prop} (hb : ∀ (mw1 : Int32) (xw1 : Int) (pw1 : mw1.toInt = xw1) (mw2 : Int32) (xw2 : Int) (pw2 : mw2.toInt = xw2), kb xw1 xw2 = some r → Rn d 330 (some .boolean) 4 [some (.ref q0), some (.int mw1), some (.int mw2)] [] h Q) (hk : ∀ (mw1 : Int32) (xw1 : Int) (pw1 : mw1.toInt = xw1), kx xw1 = some r → Rn d 330 (some .boolean) 51 [none, some (.int mw1), none] [] h Q) (hq : ∀ (z : Int32), z.toInt = r → Q (some (.int z)) h) (e : FX12_isAsWoken_b44 N s q0 x2 xs0 kb kx = some r) : Rn d 330 (some .boolean) 44 [some (.ref q0), none, some (.int m2)] [.int ms0] h Q := by
  have hT := hX12_isAsWoken
  unfold FX12_isAsWoken_b44 at e
  refine Rn.n hT 3 (pc' := 4) (L' := [some (.ref q0), some (.int ms0), some (.int (m2 + (1 : Int32)))]) (st' := []) rfl ?_
  exact Rn.weak (ll_s (ll_s (ll_s ll_e))) (hb ms0 xs0 ps0 (m2 + (1 : Int32)) (w32 (x2 + 1)) (ti_add p2 L32_1) e)
def FX12_isAsWoken_b43 (N : Nat) (s : iv_M) (q0 : Nat) (x2 : Int)  (kb : Int → Int → Option (Int)) (kx : Int → Option (Int)) : Option (Int) := (FX12_isAsWoken_b44 N s q0 x2 0 kb kx)
set_option maxRecDepth 10000 in
set_option maxHeartbeats 4000000 in
theorem RX12_isAsWoken_b43 {d N nc Ls : Nat} {Xs : Nat → Int32} (hd : 0 ≤ d) {h : iv_H} {s : iv_M} (hR : Rep nc Ls Xs h s) {q0 : Nat} (t0 : T12 nc q0) {m2 : Int32} {x2 : Int} (p2 : m2.toInt = x2)  {kb : Int → Int → Option (Int)} {kx : Int → Option (Int)} {r : Int} {Q : Option Value → iv_H → Prop} (hb : ∀ (mw1 : Int32) (xw1 : Int) (pw1 : mw1.toInt = xw1) (mw2 : Int32) (xw2 : Int) (pw2 : mw2.toInt = xw2), kb xw1 xw2 = some r → Rn d 330 (some .boolean) 4 [some (.ref q0), some (.int mw1), some (.int mw2)] [] h Q) (hk : ∀ (mw1 : Int32) (xw1 : Int) (pw1 : mw1.toInt = xw1), kx xw1 = some r → Rn d 330 (some .boolean) 51 [none, some (.int mw1), none] [] h Q) (hq : ∀ (z : Int32), z.toInt = r → Q (some (.int z)) h) (e : FX12_isAsWoken_b43 N s q0 x2  kb kx = some r) : Rn d 330 (some .boolean) 43 [some (.ref q0), none, some (.int m2)] [] h Q := by
  have hT := hX12_isAsWoken
  unfold FX12_isAsWoken_b43 at e
  refine Rn.n hT 1 (pc' := 44) (L' := [some (.ref q0), none, some (.int m2)]) (st' := [.int (0 : Int32)]) rfl ?_
  exact Rn.weak (ll_s (ll_n (ll_s ll_e))) (RX12_isAsWoken_b44 hd hR t0 p2 L32_0 hb hk hq e)
def FX12_isAsWoken_l4 (N : Nat) (s : iv_M) (q0 : Nat) (kx : Int → Option (Int)) : Nat → Int → Int → Option (Int)
  | 0, _, _ => none
  | n + 1, x1, x2 => ((rd s (q0 + 1) 14 10).bind fun v_4265 => (if v_4265 ≤ x2 then (kx x1) else (if x1 = 0 then (FX12_isAsWoken_b43 N s q0 x2 (FX12_isAsWoken_l4 N s q0 kx n) kx) else ((rd s (q0 + 17) 8 x2).bind fun v_4268 => ((rd s (q0 + 3) 12 v_4268).bind fun v_4269 => ((rd s (q0 + 18) 8 x2).bind fun v_4270 => (if v_4269 = v_4270 then (FX12_isAsWoken_b44 N s q0 x2 1 (FX12_isAsWoken_l4 N s q0 kx n) kx) else (FX12_isAsWoken_b43 N s q0 x2 (FX12_isAsWoken_l4 N s q0 kx n) kx))))))))
set_option maxRecDepth 10000 in
set_option maxHeartbeats 4000000 in
theorem RX12_isAsWoken_l4 {d N nc Ls : Nat} {Xs : Nat → Int32} (hd : 0 ≤ d) {h : iv_H} {s : iv_M} (hR : Rep nc Ls Xs h s) {q0 : Nat} (t0 : T12 nc q0) {kx : Int → Option (Int)} {r : Int} {Q : Option Value → iv_H → Prop} (hk : ∀ (m1 : Int32) (x1 : Int) (p1 : m1.toInt = x1), kx x1 = some r → Rn d 330 (some .boolean) 51 [none, some (.int m1), none] [] h Q) (hq : ∀ (z : Int32), z.toInt = r → Q (some (.int z)) h) : ∀ (n : Nat) (m1 : Int32) (x1 : Int) (p1 : m1.toInt = x1) (m2 : Int32) (x2 : Int) (p2 : m2.toInt = x2), FX12_isAsWoken_l4 N s q0 kx n x1 x2 = some r → Rn d 330 (some .boolean) 4 [some (.ref q0), some (.int m1), some (.int m2)] [] h Q := by
  have hT := hX12_isAsWoken
  intro n
  induction n with
  | zero =>
    intro m1 x1 p1 m2 x2 p2 e
    rw [FX12_isAsWoken_l4] at e
    cases e
  | succ n ih =>
    intro m1 x1 p1 m2 x2 p2 e
    rw [FX12_isAsWoken_l4] at e
    refine Rn.n hT 2 (pc' := 6) (L' := [some (.ref q0), some (.int m1), some (.int m2)]) (st' := [.ref q0, .int m2]) rfl ?_
    refine Rn.hp hT rfl rfl (gR_hp (rp_gR hR (T12_o t0) rfl)) ?_
    refine Rn.n hT 1 (pc' := 11) (L' := [some (.ref q0), some (.int m1), some (.int m2)]) (st' := [.int (10 : Int32), .ref (q0 + 1), .int m2]) rfl ?_
    obtain ⟨v_4265, e_4265, e⟩ := Option.bind_eq_some_iff.mp e
    obtain ⟨z_4265, g_4265, p_4265⟩ := rp_aI hR (T12_1 t0) (T12_1l t0) L32_10 e_4265
    refine Rn.hp hT rfl rfl (aI_hp g_4265) ?_
    by_cases c_4266 : v_4265 ≤ x2
    · rw [if_pos c_4266] at e
      refine Rn.bt hT rfl rfl rfl (decide_eq_true ((ti_le p_4265 p2).mpr c_4266)) ?_
      exact Rn.weak (ll_n (ll_s (ll_n ll_e))) (hk m1 x1 p1 e)
    · rw [if_neg c_4266] at e
      refine Rn.bf hT rfl rfl rfl (decide_eq_false (fun z => c_4266 ((ti_le p_4265 p2).mp z))) ?_
      refine Rn.n hT 1 (pc' := 16) (L' := [some (.ref q0), some (.int m1), some (.int m2)]) (st' := [.int m1]) rfl ?_
      by_cases c_4267 : x1 = 0
      · rw [if_pos c_4267] at e
        refine Rn.bt hT rfl rfl rfl (decide_eq_true ((ti_e p1 L32_0).mpr c_4267)) ?_
        exact Rn.weak (ll_s (ll_n (ll_s ll_e))) (RX12_isAsWoken_b43 hd hR t0 p2 ih hk hq e)
      · rw [if_neg c_4267] at e
        refine Rn.bf hT rfl rfl rfl (decide_eq_false (fun z => c_4267 ((ti_e p1 L32_0).mp z))) ?_
        refine Rn.n hT 1 (pc' := 20) (L' := [some (.ref q0), some (.int m1), some (.int m2)]) (st' := [.ref q0]) rfl ?_
        refine Rn.hp hT rfl rfl (gR_hp (rp_gR hR (T12_o t0) rfl)) ?_
        refine Rn.n hT 1 (pc' := 24) (L' := [some (.ref q0), some (.int m1), some (.int m2)]) (st' := [.ref q0, .ref (q0 + 3)]) rfl ?_
        refine Rn.hp hT rfl rfl (gR_hp (rp_gR hR (T12_o t0) rfl)) ?_
        refine Rn.n hT 1 (pc' := 28) (L' := [some (.ref q0), some (.int m1), some (.int m2)]) (st' := [.int m2, .ref (q0 + 17), .ref (q0 + 3)]) rfl ?_
        obtain ⟨v_4268, e_4268, e⟩ := Option.bind_eq_some_iff.mp e
        obtain ⟨z_4268, g_4268, p_4268⟩ := rp_aI hR (T12_17 t0) (T12_17l t0) p2 e_4268
        refine Rn.hp hT rfl rfl (aI_hp g_4268) ?_
        obtain ⟨v_4269, e_4269, e⟩ := Option.bind_eq_some_iff.mp e
        obtain ⟨z_4269, g_4269, p_4269⟩ := rp_aI hR (T12_3 t0) (T12_3l t0) p_4268 e_4269
        refine Rn.hp hT rfl rfl (aI_hp g_4269) ?_
        refine Rn.n hT 1 (pc' := 31) (L' := [some (.ref q0), some (.int m1), some (.int m2)]) (st' := [.ref q0, .int z_4269]) rfl ?_
        refine Rn.hp hT rfl rfl (gR_hp (rp_gR hR (T12_o t0) rfl)) ?_
        refine Rn.n hT 1 (pc' := 35) (L' := [some (.ref q0), some (.int m1), some (.int m2)]) (st' := [.int m2, .ref (q0 + 18), .int z_4269]) rfl ?_
        obtain ⟨v_4270, e_4270, e⟩ := Option.bind_eq_some_iff.mp e
        obtain ⟨z_4270, g_4270, p_4270⟩ := rp_aI hR (T12_18 t0) (T12_18l t0) p2 e_4270
        refine Rn.hp hT rfl rfl (aI_hp g_4270) ?_
        by_cases c_4271 : v_4269 = v_4270
        · rw [if_pos c_4271] at e
          refine Rn.bf hT rfl rfl rfl (decide_eq_false (fun z => z ((ti_e p_4269 p_4270).mpr c_4271))) ?_
          refine Rn.n hT 2 (pc' := 44) (L' := [some (.ref q0), some (.int m1), some (.int m2)]) (st' := [.int (1 : Int32)]) rfl ?_
          exact Rn.weak (ll_s (ll_n (ll_s ll_e))) (RX12_isAsWoken_b44 hd hR t0 p2 L32_1 ih hk hq e)
        · rw [if_neg c_4271] at e
          refine Rn.bt hT rfl rfl rfl (decide_eq_true (fun z => c_4271 ((ti_e p_4269 p_4270).mp z))) ?_
          exact Rn.weak (ll_s (ll_n (ll_s ll_e))) (RX12_isAsWoken_b43 hd hR t0 p2 ih hk hq e)
def FX12_isAsWoken (N : Nat) (s : iv_M) (q0 : Nat) : Option (Int) := (FX12_isAsWoken_l4 N s q0 (fun (x4263_1 : Int) => (if x4263_1 = 0 ∨ x4263_1 = 1 then some x4263_1 else none)) N 1 0)
set_option maxRecDepth 10000 in
set_option maxHeartbeats 4000000 in
theorem RX12_isAsWoken {d N nc Ls : Nat} {Xs : Nat → Int32} (hd : 1 ≤ d) {h : iv_H} {s : iv_M} (hR : Rep nc Ls Xs h s) {q0 : Nat} (t0 : T12 nc q0) {r : Int} {Q : Option Value → iv_H → Prop} (e : FX12_isAsWoken N s q0 = some r) (hq : ∀ (z : Int32), z.toInt = r → Q (some (.int z)) h) : Cl d 330 [.ref q0] h Q := by
  obtain ⟨d, rfl⟩ : ∃ k, d = k + 1 := ⟨d - 1, by omega⟩
  have hd : 0 ≤ d := by omega
  have hT := hX12_isAsWoken
  unfold FX12_isAsWoken at e
  refine Cl.into (by decide) gX12_isAsWoken rfl ?_
  show Rn d 330 (some .boolean) 0 [some (.ref q0), none, none] [] h Q
  refine Rn.n hT 4 (pc' := 4) (L' := [some (.ref q0), some (.int (1 : Int32)), some (.int (0 : Int32))]) (st' := []) rfl ?_
  refine Rn.weak (ll_s (ll_s (ll_s ll_e))) (RX12_isAsWoken_l4 hd hR t0 (fun m4263_1 x4263_1 p4263_1 e => ?_) hq N (1 : Int32) 1 L32_1 (0 : Int32) 0 L32_0 e)
  try dsimp only at e
  refine Rn.n hT 1 (pc' := 52) (L' := [none, some (.int m4263_1), none]) (st' := [.int m4263_1]) rfl ?_
  by_cases c_4264 : x4263_1 = 0 ∨ x4263_1 = 1
  · rw [if_pos c_4264] at e
    obtain rfl := Option.some.inj e
    exact Rn.ret hT rfl rfl (if_pos (ti_b p4263_1 c_4264)) (hq m4263_1 p4263_1)
  · rw [if_neg c_4264] at e
    cases e
set_option maxRecDepth 10000 in
theorem hX12_notesRow : iv_Tb 331 tX12_notesRow := iv_tb_of (m := mX12_notesRow) rfl
set_option maxRecDepth 10000 in
theorem gX12_notesRow : PG.2 331 = some mX12_notesRow := iv_pi_of (t := tX12_notesRow) rfl (by decide)
def FX12_notesRow_b34 (N : Nat) (s : iv_M) (q0 : Nat) (x1 : Int) (x2 : Int) (xs0 : Int) (xs1 : Int) (qs2 : Nat) (kb : iv_M → Int → Option (iv_M)) (kx : iv_M → Option (iv_M)) : Option (iv_M) := ((wr s qs2 ((sh qs2).2 : Int) xs1 xs0).bind fun s_4282 => ((rd s_4282 (q0 + 55) 4 x2).bind fun v_4284 => ((FX12_kindOf N s_4282 v_4284).bind fun v_4285 => ((rd s_4282 (q0 + 58) 4 v_4285).bind fun v_4286 => ((wr s_4282 (q0 + 58) 4 v_4285 (w32 (v_4286 + 1))).bind fun s_4287 => (kb s_4287 (w32 (x2 + 1))))))))
set_option maxRecDepth 10000 in
set_option maxHeartbeats 4000000 in
theorem RX12_notesRow_b34 {d N nc Ls : Nat} {Xs : Nat → Int32} (hd : 1 ≤ d) {h : iv_H} {s : iv_M} (hR : Rep nc Ls Xs h s) {q0 : Nat} (t0 : T12 nc q0) {m1 : Int32} {x1 : Int} (p1 : m1.toInt = x1) {m2 : Int32} {x2 : Int} (p2 : m2.toInt = x2) {ms0 : Int32} {xs0 : Int} (ps0 : ms0.toInt = xs0) {ms1 : Int32} {xs1 : Int} (ps1 : ms1.toInt = xs1) {qs2 : Nat} (ts2 : TA 0 nc qs2) {kb : iv_M → Int → Option (iv_M)} {kx : iv_M → Option (iv_M)} {r : iv_M} {Q : Option Value → iv_H → Prop} (hb : ∀ (h : iv_H) (s : iv_M) (hR : Rep nc Ls Xs h s) (mw2 : Int32) (xw2 : Int) (pw2 : mw2.toInt = xw2), kb s xw2 = some r → Rn d 331 none 2 [some (.ref q0), some (.int m1), some (.int mw2)] [] h Q) (hk : ∀ (h : iv_H) (s : iv_M) (hR : Rep nc Ls Xs h s), kx s = some r → Rn d 331 none 59 [some (.ref q0), none, none] [] h Q) (hq : ∀ h1, Rep nc Ls Xs h1 r → Q none h1) (e : FX12_notesRow_b34 N s q0 x1 x2 xs0 xs1 qs2 kb kx = some r) : Rn d 331 none 34 [some (.ref q0), some (.int m1), some (.int m2)] [.int ms0, .int ms1, .ref qs2] h Q := by
  have hT := hX12_notesRow
  unfold FX12_notesRow_b34 at e
  obtain ⟨s_4282, e_4283, e⟩ := Option.bind_eq_some_iff.mp e
  obtain ⟨h_4282, g_4283, R_4282⟩ := rp_wI hR ts2 rfl ps1 ps0 e_4283
  refine Rn.hp hT rfl rfl (wI_hp g_4283) ?_
  refine Rn.n hT 1 (pc' := 36) (L' := [some (.ref q0), some (.int m1), some (.int m2)]) (st' := [.ref q0]) rfl ?_
  refine Rn.hp hT rfl rfl (gR_hp (rp_gR R_4282 (T12_o t0) rfl)) ?_
  refine Rn.n hT 1 (pc' := 40) (L' := [some (.ref q0), some (.int m1), some (.int m2)]) (st' := [.ref q0, .ref (q0 + 58)]) rfl ?_
  refine Rn.hp hT rfl rfl (gR_hp (rp_gR R_4282 (T12_o t0) rfl)) ?_
  refine Rn.n hT 1 (pc' := 44) (L' := [some (.ref q0), some (.int m1), some (.int m2)]) (st' := [.int m2, .ref (q0 + 55), .ref (q0 + 58)]) rfl ?_
  obtain ⟨v_4284, e_4284, e⟩ := Option.bind_eq_some_iff.mp e
  obtain ⟨z_4284, g_4284, p_4284⟩ := rp_aI R_4282 (T12_74 t0) (T12_74l t0) p2 e_4284
  refine Rn.hp hT rfl rfl (aI_hp g_4284) ?_
  obtain ⟨v_4285, e_4285, e⟩ := Option.bind_eq_some_iff.mp e
  refine Rn.call hT rfl rfl rfl (Nat.le_of_ble_eq_true rfl) rfl (RX12_kindOf (by omega) R_4282 p_4284 e_4285 (fun z_4285 p_4285 => ?_))
  show Rn d _ _ 48 [some (.ref q0), some (.int m1), some (.int m2)] [.int z_4285, .ref (q0 + 58)] h_4282 Q
  refine Rn.n hT 1 (pc' := 49) (L' := [some (.ref q0), some (.int m1), some (.int m2)]) (st' := [.int z_4285, .ref (q0 + 58), .int z_4285, .ref (q0 + 58)]) rfl ?_
  obtain ⟨v_4286, e_4286, e⟩ := Option.bind_eq_some_iff.mp e
  obtain ⟨z_4286, g_4286, p_4286⟩ := rp_aI R_4282 (T12_77 t0) (T12_77l t0) p_4285 e_4286
  refine Rn.hp hT rfl rfl (aI_hp g_4286) ?_
  refine Rn.n hT 2 (pc' := 52) (L' := [some (.ref q0), some (.int m1), some (.int m2)]) (st' := [.int (z_4286 + (1 : Int32)), .int z_4285, .ref (q0 + 58)]) rfl ?_
  obtain ⟨s_4287, e_4288, e⟩ := Option.bind_eq_some_iff.mp e
  obtain ⟨h_4287, g_4288, R_4287⟩ := rp_wI R_4282 (T12_77 t0) (T12_77l t0) p_4285 (ti_add p_4286 L32_1) e_4288
  refine Rn.hp hT rfl rfl (wI_hp g_4288) ?_
  refine Rn.n hT 2 (pc' := 2) (L' := [some (.ref q0), some (.int m1), some (.int (m2 + (1 : Int32)))]) (st' := []) rfl ?_
  exact Rn.weak (ll_s (ll_s (ll_s ll_e))) (hb h_4287 s_4287 R_4287 (m2 + (1 : Int32)) (w32 (x2 + 1)) (ti_add p2 L32_1) e)
def FX12_notesRow_l2 (N : Nat) (q0 : Nat) (x1 : Int) (kx : iv_M → Option (iv_M)) : Nat → iv_M → Int → Option (iv_M)
  | 0, _, _ => none
  | n + 1, s, x2 => (if x1 ≤ x2 then (kx s) else (if (s q0 78) = 0 then ((rd s (q0 + 56) 4 x2).bind fun v_4281 => (FX12_notesRow_b34 N s q0 x1 x2 v_4281 x2 (q0 + 57) (FX12_notesRow_l2 N q0 x1 kx n) kx)) else ((rd s (q0 + 57) 3 x2).bind fun v_4280 => (FX12_notesRow_b34 N s q0 x1 x2 v_4280 x2 (q0 + 57) (FX12_notesRow_l2 N q0 x1 kx n) kx))))
set_option maxRecDepth 10000 in
set_option maxHeartbeats 4000000 in
theorem RX12_notesRow_l2 {d N nc Ls : Nat} {Xs : Nat → Int32} (hd : 1 ≤ d) {q0 : Nat} (t0 : T12 nc q0) {m1 : Int32} {x1 : Int} (p1 : m1.toInt = x1) {kx : iv_M → Option (iv_M)} {r : iv_M} {Q : Option Value → iv_H → Prop} (hk : ∀ (h : iv_H) (s : iv_M) (hR : Rep nc Ls Xs h s), kx s = some r → Rn d 331 none 59 [some (.ref q0), none, none] [] h Q) (hq : ∀ h1, Rep nc Ls Xs h1 r → Q none h1) : ∀ (n : Nat) (h : iv_H) (s : iv_M) (hR : Rep nc Ls Xs h s) (m2 : Int32) (x2 : Int) (p2 : m2.toInt = x2), FX12_notesRow_l2 N q0 x1 kx n s x2 = some r → Rn d 331 none 2 [some (.ref q0), some (.int m1), some (.int m2)] [] h Q := by
  have hT := hX12_notesRow
  intro n
  induction n with
  | zero =>
    intro h s hR m2 x2 p2 e
    rw [FX12_notesRow_l2] at e
    cases e
  | succ n ih =>
    intro h s hR m2 x2 p2 e
    rw [FX12_notesRow_l2] at e
    refine Rn.n hT 2 (pc' := 4) (L' := [some (.ref q0), some (.int m1), some (.int m2)]) (st' := [.int m1, .int m2]) rfl ?_
    by_cases c_4277 : x1 ≤ x2
    · rw [if_pos c_4277] at e
      refine Rn.bt hT rfl rfl rfl (decide_eq_true ((ti_le p1 p2).mpr c_4277)) ?_
      exact Rn.weak (ll_s (ll_n (ll_n ll_e))) (hk h s hR e)
    · rw [if_neg c_4277] at e
      refine Rn.bf hT rfl rfl rfl (decide_eq_false (fun z => c_4277 ((ti_le p1 p2).mp z))) ?_
      refine Rn.n hT 1 (pc' := 8) (L' := [some (.ref q0), some (.int m1), some (.int m2)]) (st' := [.ref q0]) rfl ?_
      refine Rn.hp hT rfl rfl (gR_hp (rp_gR hR (T12_o t0) rfl)) ?_
      refine Rn.n hT 2 (pc' := 13) (L' := [some (.ref q0), some (.int m1), some (.int m2)]) (st' := [.ref q0, .int m2, .ref (q0 + 57)]) rfl ?_
      obtain ⟨z_4278, g_4278, p_4278⟩ : ∃ z : Int32, gI h 12 78 q0 = some z ∧ z.toInt = s q0 78 := rp_gI (k := 78) hR (T12_o t0) rfl
      refine Rn.hp hT rfl rfl (gI_hp g_4278) ?_
      by_cases c_4279 : (s q0 78) = 0
      · rw [if_pos c_4279] at e
        refine Rn.bf hT rfl rfl rfl (decide_eq_false (fun z => z ((ti_e p_4278 L32_0).mpr c_4279))) ?_
        refine Rn.n hT 1 (pc' := 20) (L' := [some (.ref q0), some (.int m1), some (.int m2)]) (st' := [.ref q0, .int m2, .ref (q0 + 57)]) rfl ?_
        refine Rn.hp hT rfl rfl (gR_hp (rp_gR hR (T12_o t0) rfl)) ?_
        refine Rn.n hT 1 (pc' := 24) (L' := [some (.ref q0), some (.int m1), some (.int m2)]) (st' := [.int m2, .ref (q0 + 56), .int m2, .ref (q0 + 57)]) rfl ?_
        obtain ⟨v_4281, e_4281, e⟩ := Option.bind_eq_some_iff.mp e
        obtain ⟨z_4281, g_4281, p_4281⟩ := rp_aI hR (T12_75 t0) (T12_75l t0) p2 e_4281
        refine Rn.hp hT rfl rfl (aI_hp g_4281) ?_
        refine Rn.n hT 1 (pc' := 34) (L' := [some (.ref q0), some (.int m1), some (.int m2)]) (st' := [.int z_4281, .int m2, .ref (q0 + 57)]) rfl ?_
        exact Rn.weak (ll_s (ll_s (ll_s ll_e))) (RX12_notesRow_b34 hd hR t0 p1 p2 p_4281 p2 (T12_76 t0) ih hk hq e)
      · rw [if_neg c_4279] at e
        refine Rn.bt hT rfl rfl rfl (decide_eq_true (fun z => c_4279 ((ti_e p_4278 L32_0).mp z))) ?_
        refine Rn.n hT 1 (pc' := 29) (L' := [some (.ref q0), some (.int m1), some (.int m2)]) (st' := [.ref q0, .int m2, .ref (q0 + 57)]) rfl ?_
        refine Rn.hp hT rfl rfl (gR_hp (rp_gR hR (T12_o t0) rfl)) ?_
        refine Rn.n hT 1 (pc' := 33) (L' := [some (.ref q0), some (.int m1), some (.int m2)]) (st' := [.int m2, .ref (q0 + 57), .int m2, .ref (q0 + 57)]) rfl ?_
        obtain ⟨v_4280, e_4280, e⟩ := Option.bind_eq_some_iff.mp e
        obtain ⟨z_4280, g_4280, p_4280⟩ := rp_aI hR (T12_76 t0) (T12_76l t0) p2 e_4280
        refine Rn.hp hT rfl rfl (aI_hp g_4280) ?_
        exact Rn.weak (ll_s (ll_s (ll_s ll_e))) (RX12_notesRow_b34 hd hR t0 p1 p2 p_4280 p2 (T12_76 t0) ih hk hq e)
def FX12_notesRow (N : Nat) (s : iv_M) (q0 : Nat) (x1 : Int) : Option (iv_M) := (FX12_notesRow_l2 N q0 x1 (fun (s_4272 : iv_M) => ((pt s_4272 q0 78 (w32 ((s_4272 q0 78) + 1))).bind fun s_4275 => some s_4275)) N s 0)
set_option maxRecDepth 10000 in
set_option maxHeartbeats 4000000 in
theorem RX12_notesRow {d N nc Ls : Nat} {Xs : Nat → Int32} (hd : 2 ≤ d) {h : iv_H} {s : iv_M} (hR : Rep nc Ls Xs h s) {q0 : Nat} (t0 : T12 nc q0) {m1 : Int32} {x1 : Int} (p1 : m1.toInt = x1) {r : iv_M} {Q : Option Value → iv_H → Prop} (e : FX12_notesRow N s q0 x1 = some r) (hq : ∀ h1, Rep nc Ls Xs h1 r → Q none h1) : Cl d 331 [.ref q0, .int m1] h Q := by
  obtain ⟨d, rfl⟩ : ∃ k, d = k + 1 := ⟨d - 1, by omega⟩
  have hd : 1 ≤ d := by omega
  have hT := hX12_notesRow
  unfold FX12_notesRow at e
  refine Cl.into (by decide) gX12_notesRow rfl ?_
  show Rn d 331 none 0 [some (.ref q0), some (.int m1), none] [] h Q
  refine Rn.n hT 2 (pc' := 2) (L' := [some (.ref q0), some (.int m1), some (.int (0 : Int32))]) (st' := []) rfl ?_
  refine Rn.weak (ll_s (ll_s (ll_s ll_e))) (RX12_notesRow_l2 hd t0 p1 (fun h_4272 s_4272 R_4272 e => ?_) hq N h s hR (0 : Int32) 0 L32_0 e)
  try dsimp only at e
  refine Rn.n hT 2 (pc' := 61) (L' := [some (.ref q0), none, none]) (st' := [.ref q0, .ref q0]) rfl ?_
  obtain ⟨z_4274, g_4274, p_4274⟩ : ∃ z : Int32, gI h_4272 12 78 q0 = some z ∧ z.toInt = s_4272 q0 78 := rp_gI (k := 78) R_4272 (T12_o t0) rfl
  refine Rn.hp hT rfl rfl (gI_hp g_4274) ?_
  refine Rn.n hT 2 (pc' := 66) (L' := [some (.ref q0), none, none]) (st' := [.int (z_4274 + (1 : Int32)), .ref q0]) rfl ?_
  obtain ⟨s_4275, e_4276, e⟩ := Option.bind_eq_some_iff.mp e
  obtain ⟨h_4275, g_4276, R_4275⟩ := rp_pI (ci := 12) (k := 78) R_4272 (T12_o t0) rfl rfl (ti_add p_4274 L32_1) e_4276
  refine Rn.hp hT rfl rfl (pV_hp rfl g_4276) ?_
  obtain rfl := Option.some.inj e
  exact Rn.ret hT rfl rfl rfl (hq h_4275 R_4275)
set_option maxRecDepth 10000 in
theorem hX12_stepsBack : iv_Tb 333 tX12_stepsBack := iv_tb_of (m := mX12_stepsBack) rfl
set_option maxRecDepth 10000 in
theorem gX12_stepsBack : PG.2 333 = some mX12_stepsBack := iv_pi_of (t := tX12_stepsBack) rfl (by decide)
def FX12_stepsBack_b16 (N : Nat) (s : iv_M) (x1 : Int)  : Option (Int × iv_M) := (some ((w32 (x1 - 1)), s))
set_option maxRecDepth 10000 in
set_option maxHeartbeats 4000000 in
theorem RX12_stepsBack_b16 {d N nc Ls : Nat} {Xs : Nat → Int32} (hd : 5 ≤ d) {h : iv_H} {s : iv_M} (hR : Rep nc Ls Xs h s) {m1 : Int32} {x1 : Int} (p1 : m1.toInt = x1)  {r : Int × iv_M} {Q : Option Value → iv_H → Prop} (hq : ∀ (z : Int32) (h1 : iv_H), z.toInt = r.1 → Rep nc Ls Xs h1 r.2 → Q (some (.int z)) h1) (e : FX12_stepsBack_b16 N s x1  = some r) : Rn d 333 (some .int) 16 [none, some (.int m1)] [] h Q := by
  have hT := hX12_stepsBack
  unfold FX12_stepsBack_b16 at e
  refine Rn.n hT 3 (pc' := 19) (L' := [none, some (.int m1)]) (st' := [.int (m1 - (1 : Int32))]) rfl ?_
  obtain rfl := Option.some.inj e
  exact Rn.ret hT rfl rfl rfl (hq (m1 - (1 : Int32)) h (ti_sub p1 L32_1) hR)
def FX12_stepsBack (N : Nat) (s : iv_M) (q0 : Nat) (x1 : Int) : Option (Int × iv_M) := (if x1 ≤ 0 then (FX12_stepsBack_b16 N s x1) else ((rd s (q0 + 55) 4 (w32 (x1 - 1))).bind fun v_4290 => ((FX12_doesBack N s q0 v_4290).bind fun s_4292 => (FX12_stepsBack_b16 N s_4292 x1))))
set_option maxRecDepth 10000 in
set_option maxHeartbeats 4000000 in
theorem RX12_stepsBack {d N nc Ls : Nat} {Xs : Nat → Int32} (hd : 6 ≤ d) {h : iv_H} {s : iv_M} (hR : Rep nc Ls Xs h s) {q0 : Nat} (t0 : T12 nc q0) {m1 : Int32} {x1 : Int} (p1 : m1.toInt = x1) {r : Int × iv_M} {Q : Option Value → iv_H → Prop} (e : FX12_stepsBack N s q0 x1 = some r) (hq : ∀ (z : Int32) (h1 : iv_H), z.toInt = r.1 → Rep nc Ls Xs h1 r.2 → Q (some (.int z)) h1) : Cl d 333 [.ref q0, .int m1] h Q := by
  obtain ⟨d, rfl⟩ : ∃ k, d = k + 1 := ⟨d - 1, by omega⟩
  have hd : 5 ≤ d := by omega
  have hT := hX12_stepsBack
  unfold FX12_stepsBack at e
  refine Cl.into (by decide) gX12_stepsBack rfl ?_
  show Rn d 333 (some .int) 0 [some (.ref q0), some (.int m1)] [] h Q
  refine Rn.n hT 1 (pc' := 1) (L' := [some (.ref q0), some (.int m1)]) (st' := [.int m1]) rfl ?_
  by_cases c_4289 : x1 ≤ 0
  · rw [if_pos c_4289] at e
    refine Rn.bt hT rfl rfl rfl (decide_eq_true ((ti_le p1 L32_0).mpr c_4289)) ?_
    exact Rn.weak (ll_n (ll_s ll_e)) (RX12_stepsBack_b16 hd hR p1 hq e)
  · rw [if_neg c_4289] at e
    refine Rn.bf hT rfl rfl rfl (decide_eq_false (fun z => c_4289 ((ti_le p1 L32_0).mp z))) ?_
    refine Rn.n hT 2 (pc' := 6) (L' := [some (.ref q0), some (.int m1)]) (st' := [.ref q0, .ref q0]) rfl ?_
    refine Rn.hp hT rfl rfl (gR_hp (rp_gR hR (T12_o t0) rfl)) ?_
    refine Rn.n hT 3 (pc' := 12) (L' := [some (.ref q0), some (.int m1)]) (st' := [.int (m1 - (1 : Int32)), .ref (q0 + 55), .ref q0]) rfl ?_
    obtain ⟨v_4290, e_4290, e⟩ := Option.bind_eq_some_iff.mp e
    obtain ⟨z_4290, g_4290, p_4290⟩ := rp_aI hR (T12_74 t0) (T12_74l t0) (ti_sub p1 L32_1) e_4290
    refine Rn.hp hT rfl rfl (aI_hp g_4290) ?_
    obtain ⟨s_4292, e_4291, e⟩ := Option.bind_eq_some_iff.mp e
    refine Rn.call hT rfl rfl rfl (Nat.le_of_ble_eq_true rfl) (rcv_v gX12_doesBack (by omega) (rp_ck hR (T12_o t0))) (RX12_doesBack (by omega) hR t0 p_4290 e_4291 (fun h_4292 R_4292 => ?_))
    show Rn d _ _ 16 [some (.ref q0), some (.int m1)] [] h_4292 Q
    exact Rn.weak (ll_n (ll_s ll_e)) (RX12_stepsBack_b16 hd R_4292 p1 hq e)
set_option maxRecDepth 10000 in
theorem hX12_findsRows : iv_Tb 332 tX12_findsRows := iv_tb_of (m := mX12_findsRows) rfl
set_option maxRecDepth 10000 in
theorem gX12_findsRows : PG.2 332 = some mX12_findsRows := iv_pi_of (t := tX12_findsRows) rfl (by decide)
def FX12_findsRows_l7 (N : Nat) (q0 : Nat) (x1 : Int) (kx : iv_M → Option (iv_M)) : Nat → iv_M → Int → Option (iv_M)
  | 0, _, _ => none
  | n + 1, s, x2 => (if 3 < x2 then (kx s) else ((wr s (q0 + 58) 4 x2 0).bind fun s_4304 => (FX12_findsRows_l7 N q0 x1 kx n s_4304 (w32 (x2 + 1)))))
set_option maxRecDepth 10000 in
set_option maxHeartbeats 4000000 in
theorem RX12_findsRows_l7 {d N nc Ls : Nat} {Xs : Nat → Int32} (hd : 8 ≤ d) {q0 : Nat} (t0 : T12 nc q0) {m1 : Int32} {x1 : Int} (p1 : m1.toInt = x1) {kx : iv_M → Option (iv_M)} {r : iv_M} {Q : Option Value → iv_H → Prop} (hk : ∀ (h : iv_H) (s : iv_M) (hR : Rep nc Ls Xs h s), kx s = some r → Rn d 332 none 25 [some (.ref q0), some (.int m1), none] [] h Q) (hq : ∀ h1, Rep nc Ls Xs h1 r → Q none h1) : ∀ (n : Nat) (h : iv_H) (s : iv_M) (hR : Rep nc Ls Xs h s) (m2 : Int32) (x2 : Int) (p2 : m2.toInt = x2), FX12_findsRows_l7 N q0 x1 kx n s x2 = some r → Rn d 332 none 7 [some (.ref q0), some (.int m1), some (.int m2)] [] h Q := by
  have hT := hX12_findsRows
  intro n
  induction n with
  | zero =>
    intro h s hR m2 x2 p2 e
    rw [FX12_findsRows_l7] at e
    cases e
  | succ n ih =>
    intro h s hR m2 x2 p2 e
    rw [FX12_findsRows_l7] at e
    refine Rn.n hT 2 (pc' := 9) (L' := [some (.ref q0), some (.int m1), some (.int m2)]) (st' := [.int (3 : Int32), .int m2]) rfl ?_
    by_cases c_4303 : 3 < x2
    · rw [if_pos c_4303] at e
      refine Rn.bt hT rfl rfl rfl (decide_eq_true ((ti_l L32_3 p2).mpr c_4303)) ?_
      exact Rn.weak (ll_s (ll_s (ll_n ll_e))) (hk h s hR e)
    · rw [if_neg c_4303] at e
      refine Rn.bf hT rfl rfl rfl (decide_eq_false (fun z => c_4303 ((ti_l L32_3 p2).mp z))) ?_
      refine Rn.n hT 1 (pc' := 13) (L' := [some (.ref q0), some (.int m1), some (.int m2)]) (st' := [.ref q0]) rfl ?_
      refine Rn.hp hT rfl rfl (gR_hp (rp_gR hR (T12_o t0) rfl)) ?_
      refine Rn.n hT 2 (pc' := 18) (L' := [some (.ref q0), some (.int m1), some (.int m2)]) (st' := [.int (0 : Int32), .int m2, .ref (q0 + 58)]) rfl ?_
      obtain ⟨s_4304, e_4305, e⟩ := Option.bind_eq_some_iff.mp e
      obtain ⟨h_4304, g_4305, R_4304⟩ := rp_wI hR (T12_77 t0) (T12_77l t0) p2 L32_0 e_4305
      refine Rn.hp hT rfl rfl (wI_hp g_4305) ?_
      refine Rn.n hT 2 (pc' := 7) (L' := [some (.ref q0), some (.int m1), some (.int (m2 + (1 : Int32)))]) (st' := []) rfl ?_
      exact Rn.weak (ll_s (ll_s (ll_s ll_e))) (ih h_4304 s_4304 R_4304 (m2 + (1 : Int32)) (w32 (x2 + 1)) (ti_add p2 L32_1) e)
def FX12_findsRows_b62 (N : Nat) (s : iv_M) (q0 : Nat) (x1 : Int) (x2 : Int)  (kb : iv_M → Int → Option (iv_M)) (kx : iv_M → Option (iv_M)) : Option (iv_M) := ((FX12_stepsBack N s q0 x2).bind fun r_4333 => (fun (v_4333 : Int) (s_4334 : iv_M) => (kb s_4334 v_4333)) r_4333.1 r_4333.2)
set_option maxRecDepth 10000 in
set_option maxHeartbeats 4000000 in
theorem RX12_findsRows_b62 {d N nc Ls : Nat} {Xs : Nat → Int32} (hd : 8 ≤ d) {h : iv_H} {s : iv_M} (hR : Rep nc Ls Xs h s) {q0 : Nat} (t0 : T12 nc q0) {m1 : Int32} {x1 : Int} (p1 : m1.toInt = x1) {m2 : Int32} {x2 : Int} (p2 : m2.toInt = x2)  {kb : iv_M → Int → Option (iv_M)} {kx : iv_M → Option (iv_M)} {r : iv_M} {Q : Option Value → iv_H → Prop} (hb : ∀ (h : iv_H) (s : iv_M) (hR : Rep nc Ls Xs h s) (mw2 : Int32) (xw2 : Int) (pw2 : mw2.toInt = xw2), kb s xw2 = some r → Rn d 332 none 41 [some (.ref q0), some (.int m1), some (.int mw2)] [] h Q) (hk : ∀ (h : iv_H) (s : iv_M) (hR : Rep nc Ls Xs h s), kx s = some r → Rn d 332 none 155 [none, none, none] [] h Q) (hq : ∀ h1, Rep nc Ls Xs h1 r → Q none h1) (e : FX12_findsRows_b62 N s q0 x1 x2  kb kx = some r) : Rn d 332 none 62 [some (.ref q0), some (.int m1), some (.int m2)] [] h Q := by
  have hT := hX12_findsRows
  unfold FX12_findsRows_b62 at e
  refine Rn.n hT 2 (pc' := 64) (L' := [some (.ref q0), some (.int m1), some (.int m2)]) (st' := [.int m2, .ref q0]) rfl ?_
  obtain ⟨⟨v_4333, s_4334⟩, e_4333, e⟩ := Option.bind_eq_some_iff.mp e
  try dsimp only at e
  try dsimp only at e
  refine Rn.call hT rfl rfl rfl (Nat.le_of_ble_eq_true rfl) (rcv_v gX12_stepsBack (by omega) (rp_ck hR (T12_o t0))) (RX12_stepsBack (by omega) hR t0 p2 e_4333 (fun z_4333 h_4334 p_4333 R_4334 => ?_))
  show Rn d _ _ 67 [some (.ref q0), some (.int m1), some (.int m2)] [.int z_4333] h_4334 Q
  refine Rn.n hT 2 (pc' := 41) (L' := [some (.ref q0), some (.int m1), some (.int z_4333)]) (st' := []) rfl ?_
  exact Rn.weak (ll_s (ll_s (ll_s ll_e))) (hb h_4334 s_4334 R_4334 z_4333 v_4333 p_4333 e)
def FX12_findsRows_l41 (N : Nat) (q0 : Nat) (x1 : Int) (kx : iv_M → Option (iv_M)) : Nat → iv_M → Int → Option (iv_M)
  | 0, _, _ => none
  | n + 1, s, x2 => (if x2 < 0 then (kx s) else (if x2 = x1 then ((FX12_isAsWoken N s q0).bind fun v_4329 => (if v_4329 = 0 then (FX12_findsRows_b62 N s q0 x1 x2 (FX12_findsRows_l41 N q0 x1 kx n) kx) else ((FX12_notesRow N s q0 x1).bind fun s_4332 => (FX12_findsRows_b62 N s_4332 q0 x1 x2 (FX12_findsRows_l41 N q0 x1 kx n) kx)))) else ((rd s (q0 + 55) 4 x2).bind fun v_4308 => ((wr s (q0 + 55) 4 x2 (w32 (v_4308 + 1))).bind fun s_4309 => ((rd s_4309 (q0 + 55) 4 x2).bind fun v_4311 => (if v_4311 = 204 then ((FX12_stepsBack N s_4309 q0 x2).bind fun r_4327 => (fun (v_4327 : Int) (s_4328 : iv_M) => (FX12_findsRows_l41 N q0 x1 kx n s_4328 v_4327)) r_4327.1 r_4327.2) else ((rd s_4309 (q0 + 55) 4 x2).bind fun v_4313 => ((FX12_mayBe N s_4309 q0 v_4313).bind fun r_4314 => (fun (v_4314 : Int) (s_4315 : iv_M) => (if v_4314 = 0 then (FX12_findsRows_l41 N q0 x1 kx n s_4315 x2) else ((rd s_4315 (q0 + 56) 4 x2).bind fun v_4317 => ((wr s_4315 (q0 + 56) 4 x2 (w32 (v_4317 + 1))).bind fun s_4318 => ((rd s_4318 (q0 + 55) 4 x2).bind fun v_4320 => ((FX12_does N s_4318 q0 v_4320).bind fun s_4322 => ((wr s_4322 (q0 + 55) 4 (w32 (x2 + 1)) (-1)).bind fun s_4323 => ((wr s_4323 (q0 + 56) 4 (w32 (x2 + 1)) (-1)).bind fun s_4325 => (FX12_findsRows_l41 N q0 x1 kx n s_4325 (w32 (x2 + 1))))))))))) r_4314.1 r_4314.2))))))))
set_option maxRecDepth 10000 in
set_option maxHeartbeats 4000000 in
theorem RX12_findsRows_l41 {d N nc Ls : Nat} {Xs : Nat → Int32} (hd : 8 ≤ d) {q0 : Nat} (t0 : T12 nc q0) {m1 : Int32} {x1 : Int} (p1 : m1.toInt = x1) {kx : iv_M → Option (iv_M)} {r : iv_M} {Q : Option Value → iv_H → Prop} (hk : ∀ (h : iv_H) (s : iv_M) (hR : Rep nc Ls Xs h s), kx s = some r → Rn d 332 none 155 [none, none, none] [] h Q) (hq : ∀ h1, Rep nc Ls Xs h1 r → Q none h1) : ∀ (n : Nat) (h : iv_H) (s : iv_M) (hR : Rep nc Ls Xs h s) (m2 : Int32) (x2 : Int) (p2 : m2.toInt = x2), FX12_findsRows_l41 N q0 x1 kx n s x2 = some r → Rn d 332 none 41 [some (.ref q0), some (.int m1), some (.int m2)] [] h Q := by
  have hT := hX12_findsRows
  intro n
  induction n with
  | zero =>
    intro h s hR m2 x2 p2 e
    rw [FX12_findsRows_l41] at e
    cases e
  | succ n ih =>
    intro h s hR m2 x2 p2 e
    rw [FX12_findsRows_l41] at e
    refine Rn.n hT 1 (pc' := 42) (L' := [some (.ref q0), some (.int m1), some (.int m2)]) (st' := [.int m2]) rfl ?_
    by_cases c_4306 : x2 < 0
    · rw [if_pos c_4306] at e
      refine Rn.bt hT rfl rfl rfl (decide_eq_true ((ti_l p2 L32_0).mpr c_4306)) ?_
      exact Rn.weak (ll_n (ll_n (ll_n ll_e))) (hk h s hR e)
    · rw [if_neg c_4306] at e
      refine Rn.bf hT rfl rfl rfl (decide_eq_false (fun z => c_4306 ((ti_l p2 L32_0).mp z))) ?_
      refine Rn.n hT 2 (pc' := 47) (L' := [some (.ref q0), some (.int m1), some (.int m2)]) (st' := [.int m1, .int m2]) rfl ?_
      by_cases c_4307 : x2 = x1
      · rw [if_pos c_4307] at e
        refine Rn.bf hT rfl rfl rfl (decide_eq_false (fun z => z ((ti_e p2 p1).mpr c_4307))) ?_
        refine Rn.n hT 1 (pc' := 51) (L' := [some (.ref q0), some (.int m1), some (.int m2)]) (st' := [.ref q0]) rfl ?_
        obtain ⟨v_4329, e_4329, e⟩ := Option.bind_eq_some_iff.mp e
        refine Rn.call hT rfl rfl rfl (Nat.le_of_ble_eq_true rfl) (rcv_v gX12_isAsWoken (by omega) (rp_ck hR (T12_o t0))) (RX12_isAsWoken (by omega) hR t0 e_4329 (fun z_4329 p_4329 => ?_))
        show Rn d _ _ 54 [some (.ref q0), some (.int m1), some (.int m2)] [.int z_4329] h Q
        by_cases c_4330 : v_4329 = 0
        · rw [if_pos c_4330] at e
          refine Rn.bt hT rfl rfl rfl (decide_eq_true ((ti_e p_4329 L32_0).mpr c_4330)) ?_
          exact Rn.weak (ll_s (ll_s (ll_s ll_e))) (RX12_findsRows_b62 hd hR t0 p1 p2 ih hk hq e)
        · rw [if_neg c_4330] at e
          refine Rn.bf hT rfl rfl rfl (decide_eq_false (fun z => c_4330 ((ti_e p_4329 L32_0).mp z))) ?_
          refine Rn.n hT 2 (pc' := 59) (L' := [some (.ref q0), some (.int m1), some (.int m2)]) (st' := [.int m1, .ref q0]) rfl ?_
          obtain ⟨s_4332, e_4331, e⟩ := Option.bind_eq_some_iff.mp e
          refine Rn.call hT rfl rfl rfl (Nat.le_of_ble_eq_true rfl) (rcv_v gX12_notesRow (by omega) (rp_ck hR (T12_o t0))) (RX12_notesRow (by omega) hR t0 p1 e_4331 (fun h_4332 R_4332 => ?_))
          show Rn d _ _ 62 [some (.ref q0), some (.int m1), some (.int m2)] [] h_4332 Q
          exact Rn.weak (ll_s (ll_s (ll_s ll_e))) (RX12_findsRows_b62 hd R_4332 t0 p1 p2 ih hk hq e)
      · rw [if_neg c_4307] at e
        refine Rn.bt hT rfl rfl rfl (decide_eq_true (fun z => c_4307 ((ti_e p2 p1).mp z))) ?_
        refine Rn.n hT 1 (pc' := 72) (L' := [some (.ref q0), some (.int m1), some (.int m2)]) (st' := [.ref q0]) rfl ?_
        refine Rn.hp hT rfl rfl (gR_hp (rp_gR hR (T12_o t0) rfl)) ?_
        refine Rn.n hT 2 (pc' := 77) (L' := [some (.ref q0), some (.int m1), some (.int m2)]) (st' := [.int m2, .ref (q0 + 55), .int m2, .ref (q0 + 55)]) rfl ?_
        obtain ⟨v_4308, e_4308, e⟩ := Option.bind_eq_some_iff.mp e
        obtain ⟨z_4308, g_4308, p_4308⟩ := rp_aI hR (T12_74 t0) (T12_74l t0) p2 e_4308
        refine Rn.hp hT rfl rfl (aI_hp g_4308) ?_
        refine Rn.n hT 2 (pc' := 80) (L' := [some (.ref q0), some (.int m1), some (.int m2)]) (st' := [.int (z_4308 + (1 : Int32)), .int m2, .ref (q0 + 55)]) rfl ?_
        obtain ⟨s_4309, e_4310, e⟩ := Option.bind_eq_some_iff.mp e
        obtain ⟨h_4309, g_4310, R_4309⟩ := rp_wI hR (T12_74 t0) (T12_74l t0) p2 (ti_add p_4308 L32_1) e_4310
        refine Rn.hp hT rfl rfl (wI_hp g_4310) ?_
        refine Rn.n hT 1 (pc' := 82) (L' := [some (.ref q0), some (.int m1), some (.int m2)]) (st' := [.ref q0]) rfl ?_
        refine Rn.hp hT rfl rfl (gR_hp (rp_gR R_4309 (T12_o t0) rfl)) ?_
        refine Rn.n hT 1 (pc' := 86) (L' := [some (.ref q0), some (.int m1), some (.int m2)]) (st' := [.int m2, .ref (q0 + 55)]) rfl ?_
        obtain ⟨v_4311, e_4311, e⟩ := Option.bind_eq_some_iff.mp e
        obtain ⟨z_4311, g_4311, p_4311⟩ := rp_aI R_4309 (T12_74 t0) (T12_74l t0) p2 e_4311
        refine Rn.hp hT rfl rfl (aI_hp g_4311) ?_
        refine Rn.n hT 1 (pc' := 90) (L' := [some (.ref q0), some (.int m1), some (.int m2)]) (st' := [.int (204 : Int32), .int z_4311]) rfl ?_
        by_cases c_4312 : v_4311 = 204
        · rw [if_pos c_4312] at e
          refine Rn.bf hT rfl rfl rfl (decide_eq_false (fun z => z ((ti_e p_4311 L32_204).mpr c_4312))) ?_
          refine Rn.n hT 2 (pc' := 95) (L' := [some (.ref q0), some (.int m1), some (.int m2)]) (st' := [.int m2, .ref q0]) rfl ?_
          obtain ⟨⟨v_4327, s_4328⟩, e_4327, e⟩ := Option.bind_eq_some_iff.mp e
          try dsimp only at e
          try dsimp only at e
          refine Rn.call hT rfl rfl rfl (Nat.le_of_ble_eq_true rfl) (rcv_v gX12_stepsBack (by omega) (rp_ck R_4309 (T12_o t0))) (RX12_stepsBack (by omega) R_4309 t0 p2 e_4327 (fun z_4327 h_4328 p_4327 R_4328 => ?_))
          show Rn d _ _ 98 [some (.ref q0), some (.int m1), some (.int m2)] [.int z_4327] h_4328 Q
          refine Rn.n hT 2 (pc' := 41) (L' := [some (.ref q0), some (.int m1), some (.int z_4327)]) (st' := []) rfl ?_
          exact Rn.weak (ll_s (ll_s (ll_s ll_e))) (ih h_4328 s_4328 R_4328 z_4327 v_4327 p_4327 e)
        · rw [if_neg c_4312] at e
          refine Rn.bt hT rfl rfl rfl (decide_eq_true (fun z => c_4312 ((ti_e p_4311 L32_204).mp z))) ?_
          refine Rn.n hT 2 (pc' := 104) (L' := [some (.ref q0), some (.int m1), some (.int m2)]) (st' := [.ref q0, .ref q0]) rfl ?_
          refine Rn.hp hT rfl rfl (gR_hp (rp_gR R_4309 (T12_o t0) rfl)) ?_
          refine Rn.n hT 1 (pc' := 108) (L' := [some (.ref q0), some (.int m1), some (.int m2)]) (st' := [.int m2, .ref (q0 + 55), .ref q0]) rfl ?_
          obtain ⟨v_4313, e_4313, e⟩ := Option.bind_eq_some_iff.mp e
          obtain ⟨z_4313, g_4313, p_4313⟩ := rp_aI R_4309 (T12_74 t0) (T12_74l t0) p2 e_4313
          refine Rn.hp hT rfl rfl (aI_hp g_4313) ?_
          obtain ⟨⟨v_4314, s_4315⟩, e_4314, e⟩ := Option.bind_eq_some_iff.mp e
          try dsimp only at e
          try dsimp only at e
          refine Rn.call hT rfl rfl rfl (Nat.le_of_ble_eq_true rfl) (rcv_v gX12_mayBe (by omega) (rp_ck R_4309 (T12_o t0))) (RX12_mayBe (by omega) R_4309 t0 p_4313 e_4314 (fun z_4314 h_4315 p_4314 R_4315 => ?_))
          show Rn d _ _ 112 [some (.ref q0), some (.int m1), some (.int m2)] [.int z_4314] h_4315 Q
          by_cases c_4316 : v_4314 = 0
          · rw [if_pos c_4316] at e
            refine Rn.bt hT rfl rfl rfl (decide_eq_true ((ti_e p_4314 L32_0).mpr c_4316)) ?_
            exact Rn.weak (ll_s (ll_s (ll_s ll_e))) (ih h_4315 s_4315 R_4315 m2 x2 p2 e)
          · rw [if_neg c_4316] at e
            refine Rn.bf hT rfl rfl rfl (decide_eq_false (fun z => c_4316 ((ti_e p_4314 L32_0).mp z))) ?_
            refine Rn.n hT 1 (pc' := 116) (L' := [some (.ref q0), some (.int m1), some (.int m2)]) (st' := [.ref q0]) rfl ?_
            refine Rn.hp hT rfl rfl (gR_hp (rp_gR R_4315 (T12_o t0) rfl)) ?_
            refine Rn.n hT 2 (pc' := 121) (L' := [some (.ref q0), some (.int m1), some (.int m2)]) (st' := [.int m2, .ref (q0 + 56), .int m2, .ref (q0 + 56)]) rfl ?_
            obtain ⟨v_4317, e_4317, e⟩ := Option.bind_eq_some_iff.mp e
            obtain ⟨z_4317, g_4317, p_4317⟩ := rp_aI R_4315 (T12_75 t0) (T12_75l t0) p2 e_4317
            refine Rn.hp hT rfl rfl (aI_hp g_4317) ?_
            refine Rn.n hT 2 (pc' := 124) (L' := [some (.ref q0), some (.int m1), some (.int m2)]) (st' := [.int (z_4317 + (1 : Int32)), .int m2, .ref (q0 + 56)]) rfl ?_
            obtain ⟨s_4318, e_4319, e⟩ := Option.bind_eq_some_iff.mp e
            obtain ⟨h_4318, g_4319, R_4318⟩ := rp_wI R_4315 (T12_75 t0) (T12_75l t0) p2 (ti_add p_4317 L32_1) e_4319
            refine Rn.hp hT rfl rfl (wI_hp g_4319) ?_
            refine Rn.n hT 2 (pc' := 127) (L' := [some (.ref q0), some (.int m1), some (.int m2)]) (st' := [.ref q0, .ref q0]) rfl ?_
            refine Rn.hp hT rfl rfl (gR_hp (rp_gR R_4318 (T12_o t0) rfl)) ?_
            refine Rn.n hT 1 (pc' := 131) (L' := [some (.ref q0), some (.int m1), some (.int m2)]) (st' := [.int m2, .ref (q0 + 55), .ref q0]) rfl ?_
            obtain ⟨v_4320, e_4320, e⟩ := Option.bind_eq_some_iff.mp e
            obtain ⟨z_4320, g_4320, p_4320⟩ := rp_aI R_4318 (T12_74 t0) (T12_74l t0) p2 e_4320
            refine Rn.hp hT rfl rfl (aI_hp g_4320) ?_
            obtain ⟨s_4322, e_4321, e⟩ := Option.bind_eq_some_iff.mp e
            refine Rn.call hT rfl rfl rfl (Nat.le_of_ble_eq_true rfl) (rcv_v gX12_does (by omega) (rp_ck R_4318 (T12_o t0))) (RX12_does (by omega) R_4318 t0 p_4320 e_4321 (fun h_4322 R_4322 => ?_))
            show Rn d _ _ 135 [some (.ref q0), some (.int m1), some (.int m2)] [] h_4322 Q
            refine Rn.n hT 2 (pc' := 139) (L' := [some (.ref q0), some (.int m1), some (.int (m2 + (1 : Int32)))]) (st' := [.ref q0]) rfl ?_
            refine Rn.hp hT rfl rfl (gR_hp (rp_gR R_4322 (T12_o t0) rfl)) ?_
            refine Rn.n hT 2 (pc' := 144) (L' := [some (.ref q0), some (.int m1), some (.int (m2 + (1 : Int32)))]) (st' := [.int (-1 : Int32), .int (m2 + (1 : Int32)), .ref (q0 + 55)]) rfl ?_
            obtain ⟨s_4323, e_4324, e⟩ := Option.bind_eq_some_iff.mp e
            obtain ⟨h_4323, g_4324, R_4323⟩ := rp_wI R_4322 (T12_74 t0) (T12_74l t0) (ti_add p2 L32_1) L32_m1 e_4324
            refine Rn.hp hT rfl rfl (wI_hp g_4324) ?_
            refine Rn.n hT 1 (pc' := 146) (L' := [some (.ref q0), some (.int m1), some (.int (m2 + (1 : Int32)))]) (st' := [.ref q0]) rfl ?_
            refine Rn.hp hT rfl rfl (gR_hp (rp_gR R_4323 (T12_o t0) rfl)) ?_
            refine Rn.n hT 2 (pc' := 151) (L' := [some (.ref q0), some (.int m1), some (.int (m2 + (1 : Int32)))]) (st' := [.int (-1 : Int32), .int (m2 + (1 : Int32)), .ref (q0 + 56)]) rfl ?_
            obtain ⟨s_4325, e_4326, e⟩ := Option.bind_eq_some_iff.mp e
            obtain ⟨h_4325, g_4326, R_4325⟩ := rp_wI R_4323 (T12_75 t0) (T12_75l t0) (ti_add p2 L32_1) L32_m1 e_4326
            refine Rn.hp hT rfl rfl (wI_hp g_4326) ?_
            refine Rn.n hT 1 (pc' := 41) (L' := [some (.ref q0), some (.int m1), some (.int (m2 + (1 : Int32)))]) (st' := []) rfl ?_
            exact Rn.weak (ll_s (ll_s (ll_s ll_e))) (ih h_4325 s_4325 R_4325 (m2 + (1 : Int32)) (w32 (x2 + 1)) (ti_add p2 L32_1) e)
def FX12_findsRows (N : Nat) (s : iv_M) (q0 : Nat) (x1 : Int) : Option (iv_M) := ((pt s q0 78 0).bind fun s_4293 => (FX12_findsRows_l7 N q0 x1 (fun (s_4295 : iv_M) => ((wr s_4295 (q0 + 55) 4 0 (-1)).bind fun s_4297 => ((wr s_4297 (q0 + 56) 4 0 (-1)).bind fun s_4299 => (FX12_findsRows_l41 N q0 x1 (fun (s_4301 : iv_M) => some s_4301) N s_4299 0)))) N s_4293 0))
set_option maxRecDepth 10000 in
set_option maxHeartbeats 4000000 in
theorem RX12_findsRows {d N nc Ls : Nat} {Xs : Nat → Int32} (hd : 9 ≤ d) {h : iv_H} {s : iv_M} (hR : Rep nc Ls Xs h s) {q0 : Nat} (t0 : T12 nc q0) {m1 : Int32} {x1 : Int} (p1 : m1.toInt = x1) {r : iv_M} {Q : Option Value → iv_H → Prop} (e : FX12_findsRows N s q0 x1 = some r) (hq : ∀ h1, Rep nc Ls Xs h1 r → Q none h1) : Cl d 332 [.ref q0, .int m1] h Q := by
  obtain ⟨d, rfl⟩ : ∃ k, d = k + 1 := ⟨d - 1, by omega⟩
  have hd : 8 ≤ d := by omega
  have hT := hX12_findsRows
  unfold FX12_findsRows at e
  refine Cl.into (by decide) gX12_findsRows rfl ?_
  show Rn d 332 none 0 [some (.ref q0), some (.int m1), none] [] h Q
  refine Rn.n hT 2 (pc' := 2) (L' := [some (.ref q0), some (.int m1), none]) (st' := [.int (0 : Int32), .ref q0]) rfl ?_
  obtain ⟨s_4293, e_4294, e⟩ := Option.bind_eq_some_iff.mp e
  obtain ⟨h_4293, g_4294, R_4293⟩ := rp_pI (ci := 12) (k := 78) hR (T12_o t0) rfl rfl L32_0 e_4294
  refine Rn.hp hT rfl rfl (pV_hp rfl g_4294) ?_
  refine Rn.n hT 2 (pc' := 7) (L' := [some (.ref q0), some (.int m1), some (.int (0 : Int32))]) (st' := []) rfl ?_
  refine Rn.weak (ll_s (ll_s (ll_s ll_e))) (RX12_findsRows_l7 hd t0 p1 (fun h_4295 s_4295 R_4295 e => ?_) hq N h_4293 s_4293 R_4293 (0 : Int32) 0 L32_0 e)
  try dsimp only at e
  refine Rn.n hT 3 (pc' := 28) (L' := [some (.ref q0), some (.int m1), some (.int (0 : Int32))]) (st' := [.ref q0]) rfl ?_
  refine Rn.hp hT rfl rfl (gR_hp (rp_gR R_4295 (T12_o t0) rfl)) ?_
  refine Rn.n hT 2 (pc' := 33) (L' := [some (.ref q0), some (.int m1), some (.int (0 : Int32))]) (st' := [.int (-1 : Int32), .int (0 : Int32), .ref (q0 + 55)]) rfl ?_
  obtain ⟨s_4297, e_4298, e⟩ := Option.bind_eq_some_iff.mp e
  obtain ⟨h_4297, g_4298, R_4297⟩ := rp_wI R_4295 (T12_74 t0) (T12_74l t0) L32_0 L32_m1 e_4298
  refine Rn.hp hT rfl rfl (wI_hp g_4298) ?_
  refine Rn.n hT 1 (pc' := 35) (L' := [some (.ref q0), some (.int m1), some (.int (0 : Int32))]) (st' := [.ref q0]) rfl ?_
  refine Rn.hp hT rfl rfl (gR_hp (rp_gR R_4297 (T12_o t0) rfl)) ?_
  refine Rn.n hT 2 (pc' := 40) (L' := [some (.ref q0), some (.int m1), some (.int (0 : Int32))]) (st' := [.int (-1 : Int32), .int (0 : Int32), .ref (q0 + 56)]) rfl ?_
  obtain ⟨s_4299, e_4300, e⟩ := Option.bind_eq_some_iff.mp e
  obtain ⟨h_4299, g_4300, R_4299⟩ := rp_wI R_4297 (T12_75 t0) (T12_75l t0) L32_0 L32_m1 e_4300
  refine Rn.hp hT rfl rfl (wI_hp g_4300) ?_
  refine Rn.weak (ll_s (ll_s (ll_s ll_e))) (RX12_findsRows_l41 hd t0 p1 (fun h_4301 s_4301 R_4301 e => ?_) hq N h_4299 s_4299 R_4299 (0 : Int32) 0 L32_0 e)
  try dsimp only at e
  obtain rfl := Option.some.inj e
  exact Rn.ret hT rfl rfl rfl (hq h_4301 R_4301)
set_option maxRecDepth 10000 in
theorem hX12_how : iv_Tb 334 tX12_how := iv_tb_of (m := mX12_how) rfl
set_option maxRecDepth 10000 in
theorem gX12_how : PG.2 334 = some mX12_how := iv_pi_of (t := tX12_how) rfl (by decide)
def FX12_how_b31 (N : Nat) (s : iv_M)   : Option (Int × iv_M) := (some ((-1), s))
set_option maxRecDepth 10000 in
set_option maxHeartbeats 4000000 in
theorem RX12_how_b31 {d N nc Ls : Nat} {Xs : Nat → Int32} (hd : 9 ≤ d) {h : iv_H} {s : iv_M} (hR : Rep nc Ls Xs h s)   {r : Int × iv_M} {Q : Option Value → iv_H → Prop} (hq : ∀ (z : Int32) (h1 : iv_H), z.toInt = r.1 → Rep nc Ls Xs h1 r.2 → Q (some (.int z)) h1) (e : FX12_how_b31 N s   = some r) : Rn d 334 (some .int) 31 [none, none, none] [] h Q := by
  have hT := hX12_how
  unfold FX12_how_b31 at e
  refine Rn.n hT 1 (pc' := 32) (L' := [none, none, none]) (st' := [.int (-1 : Int32)]) rfl ?_
  obtain rfl := Option.some.inj e
  exact Rn.ret hT rfl rfl rfl (hq (-1 : Int32) h L32_m1 hR)
def FX12_how_b86 (N : Nat) (s : iv_M)  (xs0 : Int) : Option (Int × iv_M) := (some (xs0, s))
set_option maxRecDepth 10000 in
set_option maxHeartbeats 4000000 in
theorem RX12_how_b86 {d N nc Ls : Nat} {Xs : Nat → Int32} (hd : 9 ≤ d) {h : iv_H} {s : iv_M} (hR : Rep nc Ls Xs h s)  {ms0 : Int32} {xs0 : Int} (ps0 : ms0.toInt = xs0) {r : Int × iv_M} {Q : Option Value → iv_H → Prop} (hq : ∀ (z : Int32) (h1 : iv_H), z.toInt = r.1 → Rep nc Ls Xs h1 r.2 → Q (some (.int z)) h1) (e : FX12_how_b86 N s  xs0 = some r) : Rn d 334 (some .int) 86 [none, none, none] [.int ms0] h Q := by
  have hT := hX12_how
  unfold FX12_how_b86 at e
  obtain rfl := Option.some.inj e
  exact Rn.ret hT rfl rfl rfl (hq ms0 h ps0 hR)
def FX12_how_b73 (N : Nat) (s : iv_M)   : Option (Int × iv_M) := (FX12_how_b86 N s (-2))
set_option maxRecDepth 10000 in
set_option maxHeartbeats 4000000 in
theorem RX12_how_b73 {d N nc Ls : Nat} {Xs : Nat → Int32} (hd : 9 ≤ d) {h : iv_H} {s : iv_M} (hR : Rep nc Ls Xs h s)   {r : Int × iv_M} {Q : Option Value → iv_H → Prop} (hq : ∀ (z : Int32) (h1 : iv_H), z.toInt = r.1 → Rep nc Ls Xs h1 r.2 → Q (some (.int z)) h1) (e : FX12_how_b73 N s   = some r) : Rn d 334 (some .int) 73 [none, none, none] [] h Q := by
  have hT := hX12_how
  unfold FX12_how_b73 at e
  refine Rn.n hT 2 (pc' := 86) (L' := [none, none, none]) (st' := [.int (-2 : Int32)]) rfl ?_
  exact Rn.weak (ll_n (ll_n (ll_n ll_e))) (RX12_how_b86 hd hR L32_m2 hq e)
def FX12_how (N : Nat) (s : iv_M) (q0 : Nat) (x1 : Int) (x2 : Int) : Option (Int × iv_M) := ((FX12_isPalace N s q0).bind fun v_4335 => (if v_4335 = 0 then (FX12_how_b31 N s) else ((FX12_in N s x1 0 3).bind fun v_4337 => (if v_4337 = 0 then (FX12_how_b31 N s) else ((FX12_in N s x2 0 6).bind fun v_4339 => (if v_4339 = 0 then (FX12_how_b31 N s) else ((FX12_findsRows N s q0 x1).bind fun s_4342 => (if x2 = 0 then (some ((s_4342 q0 78), s_4342)) else (if 3 < x2 then (if (s_4342 q0 78) = 0 then (FX12_how_b73 N s_4342) else (if (w32 (x2 - 4)) < x1 then ((rd s_4342 (q0 + 57) 3 (w32 (x2 - 4))).bind fun v_4348 => (FX12_how_b86 N s_4342 v_4348)) else (FX12_how_b73 N s_4342))) else ((rd s_4342 (q0 + 58) 4 x2).bind fun v_4349 => (some (v_4349, s_4342))))))))))))
set_option maxRecDepth 10000 in
set_option maxHeartbeats 4000000 in
theorem RX12_how {d N nc Ls : Nat} {Xs : Nat → Int32} (hd : 10 ≤ d) {h : iv_H} {s : iv_M} (hR : Rep nc Ls Xs h s) {q0 : Nat} (t0 : T12 nc q0) {m1 : Int32} {x1 : Int} (p1 : m1.toInt = x1) {m2 : Int32} {x2 : Int} (p2 : m2.toInt = x2) {r : Int × iv_M} {Q : Option Value → iv_H → Prop} (e : FX12_how N s q0 x1 x2 = some r) (hq : ∀ (z : Int32) (h1 : iv_H), z.toInt = r.1 → Rep nc Ls Xs h1 r.2 → Q (some (.int z)) h1) : Cl d 334 [.ref q0, .int m1, .int m2] h Q := by
  obtain ⟨d, rfl⟩ : ∃ k, d = k + 1 := ⟨d - 1, by omega⟩
  have hd : 9 ≤ d := by omega
  have hT := hX12_how
  unfold FX12_how at e
  refine Cl.into (by decide) gX12_how rfl ?_
  show Rn d 334 (some .int) 0 [some (.ref q0), some (.int m1), some (.int m2)] [] h Q
  refine Rn.n hT 1 (pc' := 1) (L' := [some (.ref q0), some (.int m1), some (.int m2)]) (st' := [.ref q0]) rfl ?_
  obtain ⟨v_4335, e_4335, e⟩ := Option.bind_eq_some_iff.mp e
  refine Rn.call hT rfl rfl rfl (Nat.le_of_ble_eq_true rfl) (rcv_v gX12_isPalace (by omega) (rp_ck hR (T12_o t0))) (RX12_isPalace (by omega) hR t0 e_4335 (fun z_4335 p_4335 => ?_))
  show Rn d _ _ 4 [some (.ref q0), some (.int m1), some (.int m2)] [.int z_4335] h Q
  by_cases c_4336 : v_4335 = 0
  · rw [if_pos c_4336] at e
    refine Rn.bt hT rfl rfl rfl (decide_eq_true ((ti_e p_4335 L32_0).mpr c_4336)) ?_
    exact Rn.weak (ll_n (ll_n (ll_n ll_e))) (RX12_how_b31 hd hR hq e)
  · rw [if_neg c_4336] at e
    refine Rn.bf hT rfl rfl rfl (decide_eq_false (fun z => c_4336 ((ti_e p_4335 L32_0).mp z))) ?_
    refine Rn.n hT 4 (pc' := 13) (L' := [some (.ref q0), some (.int m1), some (.int m2)]) (st' := [.long (3 : Int64), .long (0 : Int64), .long ((m1).toInt64)]) rfl ?_
    obtain ⟨v_4337, e_4337, e⟩ := Option.bind_eq_some_iff.mp e
    refine Rn.call hT rfl rfl rfl (Nat.le_of_ble_eq_true rfl) rfl (RX12_in (by omega) hR (ti_j p1) L64_0 L64_3 e_4337 (fun z_4337 p_4337 => ?_))
    show Rn d _ _ 16 [some (.ref q0), some (.int m1), some (.int m2)] [.int z_4337] h Q
    by_cases c_4338 : v_4337 = 0
    · rw [if_pos c_4338] at e
      refine Rn.bt hT rfl rfl rfl (decide_eq_true ((ti_e p_4337 L32_0).mpr c_4338)) ?_
      exact Rn.weak (ll_n (ll_n (ll_n ll_e))) (RX12_how_b31 hd hR hq e)
    · rw [if_neg c_4338] at e
      refine Rn.bf hT rfl rfl rfl (decide_eq_false (fun z => c_4338 ((ti_e p_4337 L32_0).mp z))) ?_
      refine Rn.n hT 4 (pc' := 25) (L' := [some (.ref q0), some (.int m1), some (.int m2)]) (st' := [.long (6 : Int64), .long (0 : Int64), .long ((m2).toInt64)]) rfl ?_
      obtain ⟨v_4339, e_4339, e⟩ := Option.bind_eq_some_iff.mp e
      refine Rn.call hT rfl rfl rfl (Nat.le_of_ble_eq_true rfl) rfl (RX12_in (by omega) hR (ti_j p2) L64_0 L64_6 e_4339 (fun z_4339 p_4339 => ?_))
      show Rn d _ _ 28 [some (.ref q0), some (.int m1), some (.int m2)] [.int z_4339] h Q
      by_cases c_4340 : v_4339 = 0
      · rw [if_pos c_4340] at e
        refine Rn.bf hT rfl rfl rfl (decide_eq_false (fun z => z ((ti_e p_4339 L32_0).mpr c_4340))) ?_
        exact Rn.weak (ll_n (ll_n (ll_n ll_e))) (RX12_how_b31 hd hR hq e)
      · rw [if_neg c_4340] at e
        refine Rn.bt hT rfl rfl rfl (decide_eq_true (fun z => c_4340 ((ti_e p_4339 L32_0).mp z))) ?_
        refine Rn.n hT 2 (pc' := 35) (L' := [some (.ref q0), some (.int m1), some (.int m2)]) (st' := [.int m1, .ref q0]) rfl ?_
        obtain ⟨s_4342, e_4341, e⟩ := Option.bind_eq_some_iff.mp e
        refine Rn.call hT rfl rfl rfl (Nat.le_of_ble_eq_true rfl) (rcv_v gX12_findsRows (by omega) (rp_ck hR (T12_o t0))) (RX12_findsRows (by omega) hR t0 p1 e_4341 (fun h_4342 R_4342 => ?_))
        show Rn d _ _ 38 [some (.ref q0), some (.int m1), some (.int m2)] [] h_4342 Q
        refine Rn.n hT 1 (pc' := 39) (L' := [some (.ref q0), some (.int m1), some (.int m2)]) (st' := [.int m2]) rfl ?_
        by_cases c_4343 : x2 = 0
        · rw [if_pos c_4343] at e
          refine Rn.bf hT rfl rfl rfl (decide_eq_false (fun z => z ((ti_e p2 L32_0).mpr c_4343))) ?_
          refine Rn.n hT 1 (pc' := 43) (L' := [some (.ref q0), some (.int m1), some (.int m2)]) (st' := [.ref q0]) rfl ?_
          obtain ⟨z_4350, g_4350, p_4350⟩ : ∃ z : Int32, gI h_4342 12 78 q0 = some z ∧ z.toInt = s_4342 q0 78 := rp_gI (k := 78) R_4342 (T12_o t0) rfl
          refine Rn.hp hT rfl rfl (gI_hp g_4350) ?_
          obtain rfl := Option.some.inj e
          exact Rn.ret hT rfl rfl rfl (hq z_4350 h_4342 p_4350 R_4342)
        · rw [if_neg c_4343] at e
          refine Rn.bt hT rfl rfl rfl (decide_eq_true (fun z => c_4343 ((ti_e p2 L32_0).mp z))) ?_
          refine Rn.n hT 2 (pc' := 49) (L' := [some (.ref q0), some (.int m1), some (.int m2)]) (st' := [.int (3 : Int32), .int m2]) rfl ?_
          by_cases c_4344 : 3 < x2
          · rw [if_pos c_4344] at e
            refine Rn.bt hT rfl rfl rfl (decide_eq_true ((ti_l L32_3 p2).mpr c_4344)) ?_
            refine Rn.n hT 1 (pc' := 60) (L' := [some (.ref q0), some (.int m1), some (.int m2)]) (st' := [.ref q0]) rfl ?_
            obtain ⟨z_4345, g_4345, p_4345⟩ : ∃ z : Int32, gI h_4342 12 78 q0 = some z ∧ z.toInt = s_4342 q0 78 := rp_gI (k := 78) R_4342 (T12_o t0) rfl
            refine Rn.hp hT rfl rfl (gI_hp g_4345) ?_
            by_cases c_4346 : (s_4342 q0 78) = 0
            · rw [if_pos c_4346] at e
              refine Rn.bt hT rfl rfl rfl (decide_eq_true ((ti_e p_4345 L32_0).mpr c_4346)) ?_
              exact Rn.weak (ll_n (ll_n (ll_n ll_e))) (RX12_how_b73 hd R_4342 hq e)
            · rw [if_neg c_4346] at e
              refine Rn.bf hT rfl rfl rfl (decide_eq_false (fun z => c_4346 ((ti_e p_4345 L32_0).mp z))) ?_
              refine Rn.n hT 4 (pc' := 70) (L' := [some (.ref q0), some (.int m1), some (.int m2)]) (st' := [.int m1, .int (m2 - (4 : Int32))]) rfl ?_
              by_cases c_4347 : (w32 (x2 - 4)) < x1
              · rw [if_pos c_4347] at e
                refine Rn.bt hT rfl rfl rfl (decide_eq_true ((ti_l (ti_sub p2 L32_4) p1).mpr c_4347)) ?_
                refine Rn.n hT 1 (pc' := 79) (L' := [some (.ref q0), some (.int m1), some (.int m2)]) (st' := [.ref q0]) rfl ?_
                refine Rn.hp hT rfl rfl (gR_hp (rp_gR R_4342 (T12_o t0) rfl)) ?_
                refine Rn.n hT 3 (pc' := 85) (L' := [some (.ref q0), some (.int m1), some (.int m2)]) (st' := [.int (m2 - (4 : Int32)), .ref (q0 + 57)]) rfl ?_
                obtain ⟨v_4348, e_4348, e⟩ := Option.bind_eq_some_iff.mp e
                obtain ⟨z_4348, g_4348, p_4348⟩ := rp_aI R_4342 (T12_76 t0) (T12_76l t0) (ti_sub p2 L32_4) e_4348
                refine Rn.hp hT rfl rfl (aI_hp g_4348) ?_
                exact Rn.weak (ll_n (ll_n (ll_n ll_e))) (RX12_how_b86 hd R_4342 p_4348 hq e)
              · rw [if_neg c_4347] at e
                refine Rn.bf hT rfl rfl rfl (decide_eq_false (fun z => c_4347 ((ti_l (ti_sub p2 L32_4) p1).mp z))) ?_
                exact Rn.weak (ll_n (ll_n (ll_n ll_e))) (RX12_how_b73 hd R_4342 hq e)
          · rw [if_neg c_4344] at e
            refine Rn.bf hT rfl rfl rfl (decide_eq_false (fun z => c_4344 ((ti_l L32_3 p2).mp z))) ?_
            refine Rn.n hT 1 (pc' := 53) (L' := [some (.ref q0), some (.int m1), some (.int m2)]) (st' := [.ref q0]) rfl ?_
            refine Rn.hp hT rfl rfl (gR_hp (rp_gR R_4342 (T12_o t0) rfl)) ?_
            refine Rn.n hT 1 (pc' := 57) (L' := [some (.ref q0), some (.int m1), some (.int m2)]) (st' := [.int m2, .ref (q0 + 58)]) rfl ?_
            obtain ⟨v_4349, e_4349, e⟩ := Option.bind_eq_some_iff.mp e
            obtain ⟨z_4349, g_4349, p_4349⟩ := rp_aI R_4342 (T12_77 t0) (T12_77l t0) p2 e_4349
            refine Rn.hp hT rfl rfl (aI_hp g_4349) ?_
            obtain rfl := Option.some.inj e
            exact Rn.ret hT rfl rfl rfl (hq z_4349 h_4342 p_4349 R_4342)
set_option maxRecDepth 10000 in
theorem hX12_builtSide : iv_Tb 335 tX12_builtSide := iv_tb_of (m := mX12_builtSide) rfl
set_option maxRecDepth 10000 in
theorem gX12_builtSide : PG.2 335 = some mX12_builtSide := iv_pi_of (t := tX12_builtSide) rfl (by decide)
def FX12_builtSide_b45 (N : Nat) (s : iv_M)  (xs0 : Int) : Option (Int) := (some xs0)
set_option maxRecDepth 10000 in
set_option maxHeartbeats 4000000 in
theorem RX12_builtSide_b45 {d N nc Ls : Nat} {Xs : Nat → Int32} (hd : 3 ≤ d) {h : iv_H} {s : iv_M} (hR : Rep nc Ls Xs h s)  {ms0 : Int32} {xs0 : Int} (ps0 : ms0.toInt = xs0) {r : Int} {Q : Option Value → iv_H → Prop} (hq : ∀ (z : Int32), z.toInt = r → Q (some (.int z)) h) (e : FX12_builtSide_b45 N s  xs0 = some r) : Rn d 335 (some .int) 45 [none, none, none, none, none] [.int ms0] h Q := by
  have hT := hX12_builtSide
  unfold FX12_builtSide_b45 at e
  obtain rfl := Option.some.inj e
  exact Rn.ret hT rfl rfl rfl (hq ms0 ps0)
def FX12_builtSide_b22 (N : Nat) (s : iv_M) (q0 : Nat) (x2 : Int) (xs0 : Int) : Option (Int) := (if xs0 = (-1) then (FX12_builtSide_b45 N s 0) else ((FX12_sortAt N s q0 xs0 (bAn (w32 (x2 + 2)) 3)).bind fun v_4355 => (FX12_builtSide_b45 N s v_4355)))
set_option maxRecDepth 10000 in
set_option maxHeartbeats 4000000 in
theorem RX12_builtSide_b22 {d N nc Ls : Nat} {Xs : Nat → Int32} (hd : 3 ≤ d) {h : iv_H} {s : iv_M} (hR : Rep nc Ls Xs h s) {q0 : Nat} (t0 : T12 nc q0) {m2 : Int32} {x2 : Int} (p2 : m2.toInt = x2) {ms0 : Int32} {xs0 : Int} (ps0 : ms0.toInt = xs0) {r : Int} {Q : Option Value → iv_H → Prop} (hq : ∀ (z : Int32), z.toInt = r → Q (some (.int z)) h) (e : FX12_builtSide_b22 N s q0 x2 xs0 = some r) : Rn d 335 (some .int) 22 [some (.ref q0), none, some (.int m2), none, none] [.int ms0] h Q := by
  have hT := hX12_builtSide
  unfold FX12_builtSide_b22 at e
  refine Rn.n hT 3 (pc' := 27) (L' := [some (.ref q0), none, some (.int m2), none, some (.int ms0)]) (st' := [.int (-1 : Int32), .int ms0]) rfl ?_
  by_cases c_4354 : xs0 = (-1)
  · rw [if_pos c_4354] at e
    refine Rn.bf hT rfl rfl rfl (decide_eq_false (fun z => z ((ti_e ps0 L32_m1).mpr c_4354))) ?_
    refine Rn.n hT 2 (pc' := 45) (L' := [some (.ref q0), none, some (.int m2), none, some (.int ms0)]) (st' := [.int (0 : Int32)]) rfl ?_
    exact Rn.weak (ll_n (ll_n (ll_n (ll_n (ll_n ll_e))))) (RX12_builtSide_b45 hd hR L32_0 hq e)
  · rw [if_neg c_4354] at e
    refine Rn.bt hT rfl rfl rfl (decide_eq_true (fun z => c_4354 ((ti_e ps0 L32_m1).mp z))) ?_
    refine Rn.n hT 7 (pc' := 42) (L' := [some (.ref q0), none, some (.int m2), none, some (.int ms0)]) (st' := [.int ((m2 + (2 : Int32)) &&& (3 : Int32)), .int ms0, .ref q0]) rfl ?_
    obtain ⟨v_4355, e_4355, e⟩ := Option.bind_eq_some_iff.mp e
    refine Rn.call hT rfl rfl rfl (Nat.le_of_ble_eq_true rfl) (rcv_v gX12_sortAt (by omega) (rp_ck hR (T12_o t0))) (RX12_sortAt (by omega) hR t0 ps0 (ti_and (ti_add p2 L32_2) L32_3) e_4355 (fun z_4355 p_4355 => ?_))
    show Rn d _ _ 45 [some (.ref q0), none, some (.int m2), none, some (.int ms0)] [.int z_4355] h Q
    exact Rn.weak (ll_n (ll_n (ll_n (ll_n (ll_n ll_e))))) (RX12_builtSide_b45 hd hR p_4355 hq e)
def FX12_builtSide (N : Nat) (s : iv_M) (q0 : Nat) (x1 : Int) (x2 : Int) : Option (Int) := ((FX12_by N s q0 x1 x2).bind fun v_4351 => (if v_4351 = (-1) then (FX12_builtSide_b22 N s q0 x2 (-1)) else ((rd s (q0 + 8) 16 v_4351).bind fun v_4353 => (FX12_builtSide_b22 N s q0 x2 v_4353))))
set_option maxRecDepth 10000 in
set_option maxHeartbeats 4000000 in
theorem RX12_builtSide {d N nc Ls : Nat} {Xs : Nat → Int32} (hd : 4 ≤ d) {h : iv_H} {s : iv_M} (hR : Rep nc Ls Xs h s) {q0 : Nat} (t0 : T12 nc q0) {m1 : Int32} {x1 : Int} (p1 : m1.toInt = x1) {m2 : Int32} {x2 : Int} (p2 : m2.toInt = x2) {r : Int} {Q : Option Value → iv_H → Prop} (e : FX12_builtSide N s q0 x1 x2 = some r) (hq : ∀ (z : Int32), z.toInt = r → Q (some (.int z)) h) : Cl d 335 [.ref q0, .int m1, .int m2] h Q := by
  obtain ⟨d, rfl⟩ : ∃ k, d = k + 1 := ⟨d - 1, by omega⟩
  have hd : 3 ≤ d := by omega
  have hT := hX12_builtSide
  unfold FX12_builtSide at e
  refine Cl.into (by decide) gX12_builtSide rfl ?_
  show Rn d 335 (some .int) 0 [some (.ref q0), some (.int m1), some (.int m2), none, none] [] h Q
  refine Rn.n hT 3 (pc' := 3) (L' := [some (.ref q0), some (.int m1), some (.int m2), none, none]) (st' := [.int m2, .int m1, .ref q0]) rfl ?_
  obtain ⟨v_4351, e_4351, e⟩ := Option.bind_eq_some_iff.mp e
  refine Rn.call hT rfl rfl rfl (Nat.le_of_ble_eq_true rfl) (rcv_v gX12_by (by omega) (rp_ck hR (T12_o t0))) (RX12_by (by omega) hR t0 p1 p2 e_4351 (fun z_4351 p_4351 => ?_))
  show Rn d _ _ 6 [some (.ref q0), some (.int m1), some (.int m2), none, none] [.int z_4351] h Q
  refine Rn.n hT 3 (pc' := 9) (L' := [some (.ref q0), some (.int m1), some (.int m2), some (.int z_4351), none]) (st' := [.int (-1 : Int32), .int z_4351]) rfl ?_
  by_cases c_4352 : v_4351 = (-1)
  · rw [if_pos c_4352] at e
    refine Rn.bf hT rfl rfl rfl (decide_eq_false (fun z => z ((ti_e p_4351 L32_m1).mpr c_4352))) ?_
    refine Rn.n hT 2 (pc' := 22) (L' := [some (.ref q0), some (.int m1), some (.int m2), some (.int z_4351), none]) (st' := [.int (-1 : Int32)]) rfl ?_
    exact Rn.weak (ll_s (ll_n (ll_s (ll_n (ll_n ll_e))))) (RX12_builtSide_b22 hd hR t0 p2 L32_m1 hq e)
  · rw [if_neg c_4352] at e
    refine Rn.bt hT rfl rfl rfl (decide_eq_true (fun z => c_4352 ((ti_e p_4351 L32_m1).mp z))) ?_
    refine Rn.n hT 1 (pc' := 17) (L' := [some (.ref q0), some (.int m1), some (.int m2), some (.int z_4351), none]) (st' := [.ref q0]) rfl ?_
    refine Rn.hp hT rfl rfl (gR_hp (rp_gR hR (T12_o t0) rfl)) ?_
    refine Rn.n hT 1 (pc' := 21) (L' := [some (.ref q0), some (.int m1), some (.int m2), some (.int z_4351), none]) (st' := [.int z_4351, .ref (q0 + 8)]) rfl ?_
    obtain ⟨v_4353, e_4353, e⟩ := Option.bind_eq_some_iff.mp e
    obtain ⟨z_4353, g_4353, p_4353⟩ := rp_aI hR (T12_8 t0) (T12_8l t0) p_4351 e_4353
    refine Rn.hp hT rfl rfl (aI_hp g_4353) ?_
    exact Rn.weak (ll_s (ll_n (ll_s (ll_n (ll_n ll_e))))) (RX12_builtSide_b22 hd hR t0 p2 p_4353 hq e)
set_option maxRecDepth 10000 in
theorem hX12_builtMismatches : iv_Tb 336 tX12_builtMismatches := iv_tb_of (m := mX12_builtMismatches) rfl
set_option maxRecDepth 10000 in
theorem gX12_builtMismatches : PG.2 336 = some mX12_builtMismatches := iv_pi_of (t := tX12_builtMismatches) rfl (by decide)
def FX12_builtMismatches_b63 (N : Nat) (s : iv_M) (q0 : Nat) (x1 : Int) (x3 : Int) (xs0 : Int) (xs1 : Int) (kb : iv_M → Int → Int → Option (Int × iv_M)) (kx : iv_M → Int → Option (Int × iv_M)) : Option (Int × iv_M) := (kb s (w32 (xs1 - xs0)) (w32 (x3 + 1)))
set_option maxRecDepth 10000 in
set_option maxHeartbeats 4000000 in
theorem RX12_builtMismatches_b63 {d N nc Ls : Nat} {Xs : Nat → Int32} (hd : 6 ≤ d) {h : iv_H} {s : iv_M} (hR : Rep nc Ls Xs h s) {q0 : Nat} (t0 : T12 nc q0) {m1 : Int32} {x1 : Int} (p1 : m1.toInt = x1) {m3 : Int32} {x3 : Int} (p3 : m3.toInt = x3) {ms0 : Int32} {xs0 : Int} (ps0 : ms0.toInt = xs0) {ms1 : Int32} {xs1 : Int} (ps1 : ms1.toInt = xs1) {kb : iv_M → Int → Int → Option (Int × iv_M)} {kx : iv_M → Int → Option (Int × iv_M)} {r : Int × iv_M} {Q : Option Value → iv_H → Prop} (hb : ∀ (h : iv_H) (s : iv_M) (hR : Rep nc Ls Xs h s) (mw2 : Int32) (xw2 : Int) (pw2 : mw2.toInt = xw2) (mw3 : Int32) (xw3 : Int) (pw3 : mw3.toInt = xw3), kb s xw2 xw3 = some r → Rn d 336 (some .int) 7 [some (.ref q0), some (.int m1), some (.int mw2), some (.int mw3), none] [] h Q) (hk : ∀ (h : iv_H) (s : iv_M) (hR : Rep nc Ls Xs h s) (mw2 : Int32) (xw2 : Int) (pw2 : mw2.toInt = xw2), kx s xw2 = some r → Rn d 336 (some .int) 71 [none, none, some (.int mw2), none, none] [] h Q) (hq : ∀ (z : Int32) (h1 : iv_H), z.toInt = r.1 → Rep nc Ls Xs h1 r.2 → Q (some (.int z)) h1) (e : FX12_builtMismatches_b63 N s q0 x1 x3 xs0 xs1 kb kx = some r) : Rn d 336 (some .int) 63 [some (.ref q0), some (.int m1), none, some (.int m3), none] [.int ms0, .int ms1] h Q := by
  have hT := hX12_builtMismatches
  unfold FX12_builtMismatches_b63 at e
  refine Rn.n hT 4 (pc' := 7) (L' := [some (.ref q0), some (.int m1), some (.int (ms1 - ms0)), some (.int (m3 + (1 : Int32))), none]) (st' := []) rfl ?_
  exact Rn.weak (ll_s (ll_s (ll_s (ll_s (ll_n ll_e))))) (hb h s hR (ms1 - ms0) (w32 (xs1 - xs0)) (ti_sub ps1 ps0) (m3 + (1 : Int32)) (w32 (x3 + 1)) (ti_add p3 L32_1) e)
def FX12_builtMismatches_b62 (N : Nat) (s : iv_M) (q0 : Nat) (x1 : Int) (x3 : Int) (xs0 : Int) (kb : iv_M → Int → Int → Option (Int × iv_M)) (kx : iv_M → Int → Option (Int × iv_M)) : Option (Int × iv_M) := (FX12_builtMismatches_b63 N s q0 x1 x3 0 xs0 kb kx)
set_option maxRecDepth 10000 in
set_option maxHeartbeats 4000000 in
theorem RX12_builtMismatches_b62 {d N nc Ls : Nat} {Xs : Nat → Int32} (hd : 6 ≤ d) {h : iv_H} {s : iv_M} (hR : Rep nc Ls Xs h s) {q0 : Nat} (t0 : T12 nc q0) {m1 : Int32} {x1 : Int} (p1 : m1.toInt = x1) {m3 : Int32} {x3 : Int} (p3 : m3.toInt = x3) {ms0 : Int32} {xs0 : Int} (ps0 : ms0.toInt = xs0) {kb : iv_M → Int → Int → Option (Int × iv_M)} {kx : iv_M → Int → Option (Int × iv_M)} {r : Int × iv_M} {Q : Option Value → iv_H → Prop} (hb : ∀ (h : iv_H) (s : iv_M) (hR : Rep nc Ls Xs h s) (mw2 : Int32) (xw2 : Int) (pw2 : mw2.toInt = xw2) (mw3 : Int32) (xw3 : Int) (pw3 : mw3.toInt = xw3), kb s xw2 xw3 = some r → Rn d 336 (some .int) 7 [some (.ref q0), some (.int m1), some (.int mw2), some (.int mw3), none] [] h Q) (hk : ∀ (h : iv_H) (s : iv_M) (hR : Rep nc Ls Xs h s) (mw2 : Int32) (xw2 : Int) (pw2 : mw2.toInt = xw2), kx s xw2 = some r → Rn d 336 (some .int) 71 [none, none, some (.int mw2), none, none] [] h Q) (hq : ∀ (z : Int32) (h1 : iv_H), z.toInt = r.1 → Rep nc Ls Xs h1 r.2 → Q (some (.int z)) h1) (e : FX12_builtMismatches_b62 N s q0 x1 x3 xs0 kb kx = some r) : Rn d 336 (some .int) 62 [some (.ref q0), some (.int m1), none, some (.int m3), none] [.int ms0] h Q := by
  have hT := hX12_builtMismatches
  unfold FX12_builtMismatches_b62 at e
  refine Rn.n hT 1 (pc' := 63) (L' := [some (.ref q0), some (.int m1), none, some (.int m3), none]) (st' := [.int (0 : Int32), .int ms0]) rfl ?_
  exact Rn.weak (ll_s (ll_s (ll_n (ll_s (ll_n ll_e))))) (RX12_builtMismatches_b63 hd hR t0 p1 p3 L32_0 ps0 hb hk hq e)
def FX12_builtMismatches_l7 (N : Nat) (q0 : Nat) (x1 : Int) (kx : iv_M → Int → Option (Int × iv_M)) : Nat → iv_M → Int → Int → Option (Int × iv_M)
  | 0, _, _, _ => none
  | n + 1, s, x2, x3 => (if 4 ≤ x3 then (kx s x2) else ((FX12_by N s q0 x1 x3).bind fun v_4361 => (if v_4361 = (-1) then (FX12_builtMismatches_b62 N s q0 x1 x3 x2 (FX12_builtMismatches_l7 N q0 x1 kx n) kx) else ((rd s (q0 + 8) 16 v_4361).bind fun v_4363 => (if v_4363 = (-1) then (FX12_builtMismatches_b62 N s q0 x1 x3 x2 (FX12_builtMismatches_l7 N q0 x1 kx n) kx) else ((rd s (q0 + 8) 16 v_4361).bind fun v_4365 => ((FX12_sortAt N s q0 v_4365 (bAn (w32 (x3 + 2)) 3)).bind fun v_4366 => (if v_4366 = 1 then (FX12_builtMismatches_b63 N s q0 x1 x3 1 x2 (FX12_builtMismatches_l7 N q0 x1 kx n) kx) else (FX12_builtMismatches_b62 N s q0 x1 x3 x2 (FX12_builtMismatches_l7 N q0 x1 kx n) kx)))))))))
set_option maxRecDepth 10000 in
set_option maxHeartbeats 4000000 in
theorem RX12_builtMismatches_l7 {d N nc Ls : Nat} {Xs : Nat → Int32} (hd : 6 ≤ d) {q0 : Nat} (t0 : T12 nc q0) {m1 : Int32} {x1 : Int} (p1 : m1.toInt = x1) {kx : iv_M → Int → Option (Int × iv_M)} {r : Int × iv_M} {Q : Option Value → iv_H → Prop} (hk : ∀ (h : iv_H) (s : iv_M) (hR : Rep nc Ls Xs h s) (m2 : Int32) (x2 : Int) (p2 : m2.toInt = x2), kx s x2 = some r → Rn d 336 (some .int) 71 [none, none, some (.int m2), none, none] [] h Q) (hq : ∀ (z : Int32) (h1 : iv_H), z.toInt = r.1 → Rep nc Ls Xs h1 r.2 → Q (some (.int z)) h1) : ∀ (n : Nat) (h : iv_H) (s : iv_M) (hR : Rep nc Ls Xs h s) (m2 : Int32) (x2 : Int) (p2 : m2.toInt = x2) (m3 : Int32) (x3 : Int) (p3 : m3.toInt = x3), FX12_builtMismatches_l7 N q0 x1 kx n s x2 x3 = some r → Rn d 336 (some .int) 7 [some (.ref q0), some (.int m1), some (.int m2), some (.int m3), none] [] h Q := by
  have hT := hX12_builtMismatches
  intro n
  induction n with
  | zero =>
    intro h s hR m2 x2 p2 m3 x3 p3 e
    rw [FX12_builtMismatches_l7] at e
    cases e
  | succ n ih =>
    intro h s hR m2 x2 p2 m3 x3 p3 e
    rw [FX12_builtMismatches_l7] at e
    refine Rn.n hT 2 (pc' := 9) (L' := [some (.ref q0), some (.int m1), some (.int m2), some (.int m3), none]) (st' := [.int (4 : Int32), .int m3]) rfl ?_
    by_cases c_4360 : 4 ≤ x3
    · rw [if_pos c_4360] at e
      refine Rn.bt hT rfl rfl rfl (decide_eq_true ((ti_le L32_4 p3).mpr c_4360)) ?_
      exact Rn.weak (ll_n (ll_n (ll_s (ll_n (ll_n ll_e))))) (hk h s hR m2 x2 p2 e)
    · rw [if_neg c_4360] at e
      refine Rn.bf hT rfl rfl rfl (decide_eq_false (fun z => c_4360 ((ti_le L32_4 p3).mp z))) ?_
      refine Rn.n hT 3 (pc' := 15) (L' := [some (.ref q0), some (.int m1), some (.int m2), some (.int m3), none]) (st' := [.int m3, .int m1, .ref q0]) rfl ?_
      obtain ⟨v_4361, e_4361, e⟩ := Option.bind_eq_some_iff.mp e
      refine Rn.call hT rfl rfl rfl (Nat.le_of_ble_eq_true rfl) (rcv_v gX12_by (by omega) (rp_ck hR (T12_o t0))) (RX12_by (by omega) hR t0 p1 p3 e_4361 (fun z_4361 p_4361 => ?_))
      show Rn d _ _ 18 [some (.ref q0), some (.int m1), some (.int m2), some (.int m3), none] [.int z_4361] h Q
      refine Rn.n hT 4 (pc' := 24) (L' := [some (.ref q0), some (.int m1), some (.int m2), some (.int m3), some (.int z_4361)]) (st' := [.int (-1 : Int32), .int z_4361, .int m2]) rfl ?_
      by_cases c_4362 : v_4361 = (-1)
      · rw [if_pos c_4362] at e
        refine Rn.bt hT rfl rfl rfl (decide_eq_true ((ti_e p_4361 L32_m1).mpr c_4362)) ?_
        exact Rn.weak (ll_s (ll_s (ll_n (ll_s (ll_n ll_e))))) (RX12_builtMismatches_b62 hd hR t0 p1 p3 p2 ih hk hq e)
      · rw [if_neg c_4362] at e
        refine Rn.bf hT rfl rfl rfl (decide_eq_false (fun z => c_4362 ((ti_e p_4361 L32_m1).mp z))) ?_
        refine Rn.n hT 1 (pc' := 28) (L' := [some (.ref q0), some (.int m1), some (.int m2), some (.int m3), some (.int z_4361)]) (st' := [.ref q0, .int m2]) rfl ?_
        refine Rn.hp hT rfl rfl (gR_hp (rp_gR hR (T12_o t0) rfl)) ?_
        refine Rn.n hT 1 (pc' := 33) (L' := [some (.ref q0), some (.int m1), some (.int m2), some (.int m3), some (.int z_4361)]) (st' := [.int z_4361, .ref (q0 + 8), .int m2]) rfl ?_
        obtain ⟨v_4363, e_4363, e⟩ := Option.bind_eq_some_iff.mp e
        obtain ⟨z_4363, g_4363, p_4363⟩ := rp_aI hR (T12_8 t0) (T12_8l t0) p_4361 e_4363
        refine Rn.hp hT rfl rfl (aI_hp g_4363) ?_
        refine Rn.n hT 1 (pc' := 35) (L' := [some (.ref q0), some (.int m1), some (.int m2), some (.int m3), some (.int z_4361)]) (st' := [.int (-1 : Int32), .int z_4363, .int m2]) rfl ?_
        by_cases c_4364 : v_4363 = (-1)
        · rw [if_pos c_4364] at e
          refine Rn.bt hT rfl rfl rfl (decide_eq_true ((ti_e p_4363 L32_m1).mpr c_4364)) ?_
          exact Rn.weak (ll_s (ll_s (ll_n (ll_s (ll_n ll_e))))) (RX12_builtMismatches_b62 hd hR t0 p1 p3 p2 ih hk hq e)
        · rw [if_neg c_4364] at e
          refine Rn.bf hT rfl rfl rfl (decide_eq_false (fun z => c_4364 ((ti_e p_4363 L32_m1).mp z))) ?_
          refine Rn.n hT 2 (pc' := 40) (L' := [some (.ref q0), some (.int m1), some (.int m2), some (.int m3), some (.int z_4361)]) (st' := [.ref q0, .ref q0, .int m2]) rfl ?_
          refine Rn.hp hT rfl rfl (gR_hp (rp_gR hR (T12_o t0) rfl)) ?_
          refine Rn.n hT 1 (pc' := 45) (L' := [some (.ref q0), some (.int m1), some (.int m2), some (.int m3), some (.int z_4361)]) (st' := [.int z_4361, .ref (q0 + 8), .ref q0, .int m2]) rfl ?_
          obtain ⟨v_4365, e_4365, e⟩ := Option.bind_eq_some_iff.mp e
          obtain ⟨z_4365, g_4365, p_4365⟩ := rp_aI hR (T12_8 t0) (T12_8l t0) p_4361 e_4365
          refine Rn.hp hT rfl rfl (aI_hp g_4365) ?_
          refine Rn.n hT 5 (pc' := 51) (L' := [some (.ref q0), some (.int m1), some (.int m2), some (.int m3), some (.int z_4361)]) (st' := [.int ((m3 + (2 : Int32)) &&& (3 : Int32)), .int z_4365, .ref q0, .int m2]) rfl ?_
          obtain ⟨v_4366, e_4366, e⟩ := Option.bind_eq_some_iff.mp e
          refine Rn.call hT rfl rfl rfl (Nat.le_of_ble_eq_true rfl) (rcv_v gX12_sortAt (by omega) (rp_ck hR (T12_o t0))) (RX12_sortAt (by omega) hR t0 p_4365 (ti_and (ti_add p3 L32_2) L32_3) e_4366 (fun z_4366 p_4366 => ?_))
          show Rn d _ _ 54 [some (.ref q0), some (.int m1), some (.int m2), some (.int m3), some (.int z_4361)] [.int z_4366, .int m2] h Q
          refine Rn.n hT 1 (pc' := 55) (L' := [some (.ref q0), some (.int m1), some (.int m2), some (.int m3), some (.int z_4361)]) (st' := [.int (1 : Int32), .int z_4366, .int m2]) rfl ?_
          by_cases c_4367 : v_4366 = 1
          · rw [if_pos c_4367] at e
            refine Rn.bf hT rfl rfl rfl (decide_eq_false (fun z => z ((ti_e p_4366 L32_1).mpr c_4367))) ?_
            refine Rn.n hT 2 (pc' := 63) (L' := [some (.ref q0), some (.int m1), some (.int m2), some (.int m3), some (.int z_4361)]) (st' := [.int (1 : Int32), .int m2]) rfl ?_
            exact Rn.weak (ll_s (ll_s (ll_n (ll_s (ll_n ll_e))))) (RX12_builtMismatches_b63 hd hR t0 p1 p3 L32_1 p2 ih hk hq e)
          · rw [if_neg c_4367] at e
            refine Rn.bt hT rfl rfl rfl (decide_eq_true (fun z => c_4367 ((ti_e p_4366 L32_1).mp z))) ?_
            exact Rn.weak (ll_s (ll_s (ll_n (ll_s (ll_n ll_e))))) (RX12_builtMismatches_b62 hd hR t0 p1 p3 p2 ih hk hq e)
def FX12_builtMismatches (N : Nat) (s : iv_M) (q0 : Nat) (x1 : Int) : Option (Int × iv_M) := ((FX12_mismatches N s q0).bind fun r_4356 => (fun (v_4356 : Int) (s_4357 : iv_M) => (FX12_builtMismatches_l7 N q0 x1 (fun (s_4358 : iv_M) (x4359_2 : Int) => (some (x4359_2, s_4358))) N s_4357 v_4356 0)) r_4356.1 r_4356.2)
set_option maxRecDepth 10000 in
set_option maxHeartbeats 4000000 in
theorem RX12_builtMismatches {d N nc Ls : Nat} {Xs : Nat → Int32} (hd : 7 ≤ d) {h : iv_H} {s : iv_M} (hR : Rep nc Ls Xs h s) {q0 : Nat} (t0 : T12 nc q0) {m1 : Int32} {x1 : Int} (p1 : m1.toInt = x1) {r : Int × iv_M} {Q : Option Value → iv_H → Prop} (e : FX12_builtMismatches N s q0 x1 = some r) (hq : ∀ (z : Int32) (h1 : iv_H), z.toInt = r.1 → Rep nc Ls Xs h1 r.2 → Q (some (.int z)) h1) : Cl d 336 [.ref q0, .int m1] h Q := by
  obtain ⟨d, rfl⟩ : ∃ k, d = k + 1 := ⟨d - 1, by omega⟩
  have hd : 6 ≤ d := by omega
  have hT := hX12_builtMismatches
  unfold FX12_builtMismatches at e
  refine Cl.into (by decide) gX12_builtMismatches rfl ?_
  show Rn d 336 (some .int) 0 [some (.ref q0), some (.int m1), none, none, none] [] h Q
  refine Rn.n hT 1 (pc' := 1) (L' := [some (.ref q0), some (.int m1), none, none, none]) (st' := [.ref q0]) rfl ?_
  obtain ⟨⟨v_4356, s_4357⟩, e_4356, e⟩ := Option.bind_eq_some_iff.mp e
  try dsimp only at e
  try dsimp only at e
  refine Rn.call hT rfl rfl rfl (Nat.le_of_ble_eq_true rfl) (rcv_v gX12_mismatches (by omega) (rp_ck hR (T12_o t0))) (RX12_mismatches (by omega) hR t0 e_4356 (fun z_4356 h_4357 p_4356 R_4357 => ?_))
  show Rn d _ _ 4 [some (.ref q0), some (.int m1), none, none, none] [.int z_4356] h_4357 Q
  refine Rn.n hT 3 (pc' := 7) (L' := [some (.ref q0), some (.int m1), some (.int z_4356), some (.int (0 : Int32)), none]) (st' := []) rfl ?_
  refine Rn.weak (ll_s (ll_s (ll_s (ll_s (ll_n ll_e))))) (RX12_builtMismatches_l7 hd t0 p1 (fun h_4358 s_4358 R_4358 m4359_2 x4359_2 p4359_2 e => ?_) hq N h_4357 s_4357 R_4357 z_4356 v_4356 p_4356 (0 : Int32) 0 L32_0 e)
  try dsimp only at e
  refine Rn.n hT 1 (pc' := 72) (L' := [none, none, some (.int m4359_2), none, none]) (st' := [.int m4359_2]) rfl ?_
  obtain rfl := Option.some.inj e
  exact Rn.ret hT rfl rfl rfl (hq m4359_2 h_4358 p4359_2 R_4358)
set_option maxRecDepth 10000 in
theorem hX12_built : iv_Tb 337 tX12_built := iv_tb_of (m := mX12_built) rfl
set_option maxRecDepth 10000 in
theorem gX12_built : PG.2 337 = some mX12_built := iv_pi_of (t := tX12_built) rfl (by decide)
def FX12_built_b35 (N : Nat) (s : iv_M)   : Option (Int × iv_M) := (some ((-1), s))
set_option maxRecDepth 10000 in
set_option maxHeartbeats 4000000 in
theorem RX12_built_b35 {d N nc Ls : Nat} {Xs : Nat → Int32} (hd : 7 ≤ d) {h : iv_H} {s : iv_M} (hR : Rep nc Ls Xs h s)   {r : Int × iv_M} {Q : Option Value → iv_H → Prop} (hq : ∀ (z : Int32) (h1 : iv_H), z.toInt = r.1 → Rep nc Ls Xs h1 r.2 → Q (some (.int z)) h1) (e : FX12_built_b35 N s   = some r) : Rn d 337 (some .int) 35 [none, none, none, none] [] h Q := by
  have hT := hX12_built
  unfold FX12_built_b35 at e
  refine Rn.n hT 1 (pc' := 36) (L' := [none, none, none, none]) (st' := [.int (-1 : Int32)]) rfl ?_
  obtain rfl := Option.some.inj e
  exact Rn.ret hT rfl rfl rfl (hq (-1 : Int32) h L32_m1 hR)
def FX12_built_b65 (N : Nat) (s : iv_M)  (xs0 : Int) : Option (Int × iv_M) := (some (xs0, s))
set_option maxRecDepth 10000 in
set_option maxHeartbeats 4000000 in
theorem RX12_built_b65 {d N nc Ls : Nat} {Xs : Nat → Int32} (hd : 7 ≤ d) {h : iv_H} {s : iv_M} (hR : Rep nc Ls Xs h s)  {ms0 : Int32} {xs0 : Int} (ps0 : ms0.toInt = xs0) {r : Int × iv_M} {Q : Option Value → iv_H → Prop} (hq : ∀ (z : Int32) (h1 : iv_H), z.toInt = r.1 → Rep nc Ls Xs h1 r.2 → Q (some (.int z)) h1) (e : FX12_built_b65 N s  xs0 = some r) : Rn d 337 (some .int) 65 [none, none, none, none] [.int ms0] h Q := by
  have hT := hX12_built
  unfold FX12_built_b65 at e
  obtain rfl := Option.some.inj e
  exact Rn.ret hT rfl rfl rfl (hq ms0 h ps0 hR)
def FX12_built (N : Nat) (s : iv_M) (q0 : Nat) (x1 : Int) (x2 : Int) (x3 : Int) : Option (Int × iv_M) := ((FX12_isCell N s q0 x1 x2).bind fun v_4368 => (if v_4368 = 0 then (FX12_built_b35 N s) else ((rd s (q0 + 8) 16 (w32 ((w32 (4 * x2)) + x1))).bind fun v_4370 => (if v_4370 = (-1) then ((FX12_in N s x3 0 4).bind fun v_4372 => (if v_4372 = 0 then (FX12_built_b35 N s) else (if x3 = 0 then ((FX12_builtMismatches N s q0 (w32 ((w32 (4 * x2)) + x1))).bind fun r_4376 => (fun (v_4376 : Int) (s_4377 : iv_M) => (FX12_built_b65 N s_4377 v_4376)) r_4376.1 r_4376.2) else ((FX12_builtSide N s q0 (w32 ((w32 (4 * x2)) + x1)) (w32 (x3 - 1))).bind fun v_4375 => (FX12_built_b65 N s v_4375))))) else (FX12_built_b35 N s)))))
set_option maxRecDepth 10000 in
set_option maxHeartbeats 4000000 in
theorem RX12_built {d N nc Ls : Nat} {Xs : Nat → Int32} (hd : 8 ≤ d) {h : iv_H} {s : iv_M} (hR : Rep nc Ls Xs h s) {q0 : Nat} (t0 : T12 nc q0) {m1 : Int32} {x1 : Int} (p1 : m1.toInt = x1) {m2 : Int32} {x2 : Int} (p2 : m2.toInt = x2) {m3 : Int32} {x3 : Int} (p3 : m3.toInt = x3) {r : Int × iv_M} {Q : Option Value → iv_H → Prop} (e : FX12_built N s q0 x1 x2 x3 = some r) (hq : ∀ (z : Int32) (h1 : iv_H), z.toInt = r.1 → Rep nc Ls Xs h1 r.2 → Q (some (.int z)) h1) : Cl d 337 [.ref q0, .int m1, .int m2, .int m3] h Q := by
  obtain ⟨d, rfl⟩ : ∃ k, d = k + 1 := ⟨d - 1, by omega⟩
  have hd : 7 ≤ d := by omega
  have hT := hX12_built
  unfold FX12_built at e
  refine Cl.into (by decide) gX12_built rfl ?_
  show Rn d 337 (some .int) 0 [some (.ref q0), some (.int m1), some (.int m2), some (.int m3)] [] h Q
  refine Rn.n hT 3 (pc' := 3) (L' := [some (.ref q0), some (.int m1), some (.int m2), some (.int m3)]) (st' := [.int m2, .int m1, .ref q0]) rfl ?_
  obtain ⟨v_4368, e_4368, e⟩ := Option.bind_eq_some_iff.mp e
  refine Rn.call hT rfl rfl rfl (Nat.le_of_ble_eq_true rfl) (rcv_v gX12_isCell (by omega) (rp_ck hR (T12_o t0))) (RX12_isCell (by omega) hR t0 p1 p2 e_4368 (fun z_4368 p_4368 => ?_))
  show Rn d _ _ 6 [some (.ref q0), some (.int m1), some (.int m2), some (.int m3)] [.int z_4368] h Q
  by_cases c_4369 : v_4368 = 0
  · rw [if_pos c_4369] at e
    refine Rn.bt hT rfl rfl rfl (decide_eq_true ((ti_e p_4368 L32_0).mpr c_4369)) ?_
    exact Rn.weak (ll_n (ll_n (ll_n (ll_n ll_e)))) (RX12_built_b35 hd hR hq e)
  · rw [if_neg c_4369] at e
    refine Rn.bf hT rfl rfl rfl (decide_eq_false (fun z => c_4369 ((ti_e p_4368 L32_0).mp z))) ?_
    refine Rn.n hT 1 (pc' := 10) (L' := [some (.ref q0), some (.int m1), some (.int m2), some (.int m3)]) (st' := [.ref q0]) rfl ?_
    refine Rn.hp hT rfl rfl (gR_hp (rp_gR hR (T12_o t0) rfl)) ?_
    refine Rn.n hT 5 (pc' := 18) (L' := [some (.ref q0), some (.int m1), some (.int m2), some (.int m3)]) (st' := [.int (((4 : Int32) * m2) + m1), .ref (q0 + 8)]) rfl ?_
    obtain ⟨v_4370, e_4370, e⟩ := Option.bind_eq_some_iff.mp e
    obtain ⟨z_4370, g_4370, p_4370⟩ := rp_aI hR (T12_8 t0) (T12_8l t0) (ti_add (ti_mul L32_4 p2) p1) e_4370
    refine Rn.hp hT rfl rfl (aI_hp g_4370) ?_
    refine Rn.n hT 1 (pc' := 20) (L' := [some (.ref q0), some (.int m1), some (.int m2), some (.int m3)]) (st' := [.int (-1 : Int32), .int z_4370]) rfl ?_
    by_cases c_4371 : v_4370 = (-1)
    · rw [if_pos c_4371] at e
      refine Rn.bf hT rfl rfl rfl (decide_eq_false (fun z => z ((ti_e p_4370 L32_m1).mpr c_4371))) ?_
      refine Rn.n hT 4 (pc' := 29) (L' := [some (.ref q0), some (.int m1), some (.int m2), some (.int m3)]) (st' := [.long (4 : Int64), .long (0 : Int64), .long ((m3).toInt64)]) rfl ?_
      obtain ⟨v_4372, e_4372, e⟩ := Option.bind_eq_some_iff.mp e
      refine Rn.call hT rfl rfl rfl (Nat.le_of_ble_eq_true rfl) rfl (RX12_in (by omega) hR (ti_j p3) L64_0 L64_4 e_4372 (fun z_4372 p_4372 => ?_))
      show Rn d _ _ 32 [some (.ref q0), some (.int m1), some (.int m2), some (.int m3)] [.int z_4372] h Q
      by_cases c_4373 : v_4372 = 0
      · rw [if_pos c_4373] at e
        refine Rn.bf hT rfl rfl rfl (decide_eq_false (fun z => z ((ti_e p_4372 L32_0).mpr c_4373))) ?_
        exact Rn.weak (ll_n (ll_n (ll_n (ll_n ll_e)))) (RX12_built_b35 hd hR hq e)
      · rw [if_neg c_4373] at e
        refine Rn.bt hT rfl rfl rfl (decide_eq_true (fun z => c_4373 ((ti_e p_4372 L32_0).mp z))) ?_
        refine Rn.n hT 1 (pc' := 38) (L' := [some (.ref q0), some (.int m1), some (.int m2), some (.int m3)]) (st' := [.int m3]) rfl ?_
        by_cases c_4374 : x3 = 0
        · rw [if_pos c_4374] at e
          refine Rn.bf hT rfl rfl rfl (decide_eq_false (fun z => z ((ti_e p3 L32_0).mpr c_4374))) ?_
          refine Rn.n hT 6 (pc' := 47) (L' := [some (.ref q0), some (.int m1), some (.int m2), some (.int m3)]) (st' := [.int (((4 : Int32) * m2) + m1), .ref q0]) rfl ?_
          obtain ⟨⟨v_4376, s_4377⟩, e_4376, e⟩ := Option.bind_eq_some_iff.mp e
          try dsimp only at e
          try dsimp only at e
          refine Rn.call hT rfl rfl rfl (Nat.le_of_ble_eq_true rfl) (rcv_v gX12_builtMismatches (by omega) (rp_ck hR (T12_o t0))) (RX12_builtMismatches (by omega) hR t0 (ti_add (ti_mul L32_4 p2) p1) e_4376 (fun z_4376 h_4377 p_4376 R_4377 => ?_))
          show Rn d _ _ 50 [some (.ref q0), some (.int m1), some (.int m2), some (.int m3)] [.int z_4376] h_4377 Q
          refine Rn.n hT 1 (pc' := 65) (L' := [some (.ref q0), some (.int m1), some (.int m2), some (.int m3)]) (st' := [.int z_4376]) rfl ?_
          exact Rn.weak (ll_n (ll_n (ll_n (ll_n ll_e)))) (RX12_built_b65 hd R_4377 p_4376 hq e)
        · rw [if_neg c_4374] at e
          refine Rn.bt hT rfl rfl rfl (decide_eq_true (fun z => c_4374 ((ti_e p3 L32_0).mp z))) ?_
          refine Rn.n hT 9 (pc' := 62) (L' := [some (.ref q0), some (.int m1), some (.int m2), some (.int m3)]) (st' := [.int (m3 - (1 : Int32)), .int (((4 : Int32) * m2) + m1), .ref q0]) rfl ?_
          obtain ⟨v_4375, e_4375, e⟩ := Option.bind_eq_some_iff.mp e
          refine Rn.call hT rfl rfl rfl (Nat.le_of_ble_eq_true rfl) (rcv_v gX12_builtSide (by omega) (rp_ck hR (T12_o t0))) (RX12_builtSide (by omega) hR t0 (ti_add (ti_mul L32_4 p2) p1) (ti_sub p3 L32_1) e_4375 (fun z_4375 p_4375 => ?_))
          show Rn d _ _ 65 [some (.ref q0), some (.int m1), some (.int m2), some (.int m3)] [.int z_4375] h Q
          exact Rn.weak (ll_n (ll_n (ll_n (ll_n ll_e)))) (RX12_built_b65 hd hR p_4375 hq e)
    · rw [if_neg c_4371] at e
      refine Rn.bt hT rfl rfl rfl (decide_eq_true (fun z => c_4371 ((ti_e p_4370 L32_m1).mp z))) ?_
      exact Rn.weak (ll_n (ll_n (ll_n (ll_n ll_e)))) (RX12_built_b35 hd hR hq e)
set_option maxRecDepth 10000 in
theorem hX12_best : iv_Tb 338 tX12_best := iv_tb_of (m := mX12_best) rfl
set_option maxRecDepth 10000 in
theorem gX12_best : PG.2 338 = some mX12_best := iv_pi_of (t := tX12_best) rfl (by decide)
def FX12_best_b59 (N : Nat) (s : iv_M) (q0 : Nat) (x1 : Int) (x2 : Int)  (kb : iv_M → Int → Int → Option (Int × iv_M)) (kx : iv_M → Int → Option (Int × iv_M)) : Option (Int × iv_M) := (kb s x1 (w32 (x2 + 1)))
set_option maxRecDepth 10000 in
set_option maxHeartbeats 4000000 in
theorem RX12_best_b59 {d N nc Ls : Nat} {Xs : Nat → Int32} (hd : 7 ≤ d) {h : iv_H} {s : iv_M} (hR : Rep nc Ls Xs h s) {q0 : Nat} (t0 : T12 nc q0) {m1 : Int32} {x1 : Int} (p1 : m1.toInt = x1) {m2 : Int32} {x2 : Int} (p2 : m2.toInt = x2)  {kb : iv_M → Int → Int → Option (Int × iv_M)} {kx : iv_M → Int → Option (Int × iv_M)} {r : Int × iv_M} {Q : Option Value → iv_H → Prop} (hb : ∀ (h : iv_H) (s : iv_M) (hR : Rep nc Ls Xs h s) (mw1 : Int32) (xw1 : Int) (pw1 : mw1.toInt = xw1) (mw2 : Int32) (xw2 : Int) (pw2 : mw2.toInt = xw2), kb s xw1 xw2 = some r → Rn d 338 (some .int) 14 [some (.ref q0), some (.int mw1), some (.int mw2)] [] h Q) (hk : ∀ (h : iv_H) (s : iv_M) (hR : Rep nc Ls Xs h s) (mw1 : Int32) (xw1 : Int) (pw1 : mw1.toInt = xw1), kx s xw1 = some r → Rn d 338 (some .int) 65 [none, some (.int mw1), none] [] h Q) (hq : ∀ (z : Int32) (h1 : iv_H), z.toInt = r.1 → Rep nc Ls Xs h1 r.2 → Q (some (.int z)) h1) (e : FX12_best_b59 N s q0 x1 x2  kb kx = some r) : Rn d 338 (some .int) 59 [some (.ref q0), some (.int m1), some (.int m2)] [] h Q := by
  have hT := hX12_best
  unfold FX12_best_b59 at e
  refine Rn.n hT 2 (pc' := 14) (L' := [some (.ref q0), some (.int m1), some (.int (m2 + (1 : Int32)))]) (st' := []) rfl ?_
  exact Rn.weak (ll_s (ll_s (ll_s ll_e))) (hb h s hR m1 x1 p1 (m2 + (1 : Int32)) (w32 (x2 + 1)) (ti_add p2 L32_1) e)
def FX12_best_b57 (N : Nat) (s : iv_M) (q0 : Nat) (x2 : Int)  (kb : iv_M → Int → Int → Option (Int × iv_M)) (kx : iv_M → Int → Option (Int × iv_M)) : Option (Int × iv_M) := (FX12_best_b59 N s q0 x2 x2 kb kx)
set_option maxRecDepth 10000 in
set_option maxHeartbeats 4000000 in
theorem RX12_best_b57 {d N nc Ls : Nat} {Xs : Nat → Int32} (hd : 7 ≤ d) {h : iv_H} {s : iv_M} (hR : Rep nc Ls Xs h s) {q0 : Nat} (t0 : T12 nc q0) {m2 : Int32} {x2 : Int} (p2 : m2.toInt = x2)  {kb : iv_M → Int → Int → Option (Int × iv_M)} {kx : iv_M → Int → Option (Int × iv_M)} {r : Int × iv_M} {Q : Option Value → iv_H → Prop} (hb : ∀ (h : iv_H) (s : iv_M) (hR : Rep nc Ls Xs h s) (mw1 : Int32) (xw1 : Int) (pw1 : mw1.toInt = xw1) (mw2 : Int32) (xw2 : Int) (pw2 : mw2.toInt = xw2), kb s xw1 xw2 = some r → Rn d 338 (some .int) 14 [some (.ref q0), some (.int mw1), some (.int mw2)] [] h Q) (hk : ∀ (h : iv_H) (s : iv_M) (hR : Rep nc Ls Xs h s) (mw1 : Int32) (xw1 : Int) (pw1 : mw1.toInt = xw1), kx s xw1 = some r → Rn d 338 (some .int) 65 [none, some (.int mw1), none] [] h Q) (hq : ∀ (z : Int32) (h1 : iv_H), z.toInt = r.1 → Rep nc Ls Xs h1 r.2 → Q (some (.int z)) h1) (e : FX12_best_b57 N s q0 x2  kb kx = some r) : Rn d 338 (some .int) 57 [some (.ref q0), none, some (.int m2)] [] h Q := by
  have hT := hX12_best
  unfold FX12_best_b57 at e
  refine Rn.n hT 2 (pc' := 59) (L' := [some (.ref q0), some (.int m2), some (.int m2)]) (st' := []) rfl ?_
  exact Rn.weak (ll_s (ll_s (ll_s ll_e))) (RX12_best_b59 hd hR t0 p2 p2 hb hk hq e)
def FX12_best_l14 (N : Nat) (q0 : Nat) (kx : iv_M → Int → Option (Int × iv_M)) : Nat → iv_M → Int → Int → Option (Int × iv_M)
  | 0, _, _, _ => none
  | n + 1, s, x1, x2 => (if 16 ≤ x2 then (kx s x1) else ((FX12_isFloor N s q0 x2).bind fun v_4383 => (if v_4383 = 0 then (FX12_best_b59 N s q0 x1 x2 (FX12_best_l14 N q0 kx n) kx) else ((rd s (q0 + 8) 16 x2).bind fun v_4385 => (if v_4385 = (-1) then (if x1 = (-2) then (FX12_best_b57 N s q0 x2 (FX12_best_l14 N q0 kx n) kx) else ((FX12_builtMismatches N s q0 x2).bind fun r_4388 => (fun (v_4388 : Int) (s_4389 : iv_M) => ((FX12_builtMismatches N s_4389 q0 x1).bind fun r_4390 => (fun (v_4390 : Int) (s_4391 : iv_M) => (if v_4390 ≤ v_4388 then (FX12_best_b59 N s_4391 q0 x1 x2 (FX12_best_l14 N q0 kx n) kx) else (FX12_best_b57 N s_4391 q0 x2 (FX12_best_l14 N q0 kx n) kx))) r_4390.1 r_4390.2)) r_4388.1 r_4388.2)) else (FX12_best_b59 N s q0 x1 x2 (FX12_best_l14 N q0 kx n) kx))))))
set_option maxRecDepth 10000 in
set_option maxHeartbeats 4000000 in
theorem RX12_best_l14 {d N nc Ls : Nat} {Xs : Nat → Int32} (hd : 7 ≤ d) {q0 : Nat} (t0 : T12 nc q0) {kx : iv_M → Int → Option (Int × iv_M)} {r : Int × iv_M} {Q : Option Value → iv_H → Prop} (hk : ∀ (h : iv_H) (s : iv_M) (hR : Rep nc Ls Xs h s) (m1 : Int32) (x1 : Int) (p1 : m1.toInt = x1), kx s x1 = some r → Rn d 338 (some .int) 65 [none, some (.int m1), none] [] h Q) (hq : ∀ (z : Int32) (h1 : iv_H), z.toInt = r.1 → Rep nc Ls Xs h1 r.2 → Q (some (.int z)) h1) : ∀ (n : Nat) (h : iv_H) (s : iv_M) (hR : Rep nc Ls Xs h s) (m1 : Int32) (x1 : Int) (p1 : m1.toInt = x1) (m2 : Int32) (x2 : Int) (p2 : m2.toInt = x2), FX12_best_l14 N q0 kx n s x1 x2 = some r → Rn d 338 (some .int) 14 [some (.ref q0), some (.int m1), some (.int m2)] [] h Q := by
  have hT := hX12_best
  intro n
  induction n with
  | zero =>
    intro h s hR m1 x1 p1 m2 x2 p2 e
    rw [FX12_best_l14] at e
    cases e
  | succ n ih =>
    intro h s hR m1 x1 p1 m2 x2 p2 e
    rw [FX12_best_l14] at e
    refine Rn.n hT 2 (pc' := 17) (L' := [some (.ref q0), some (.int m1), some (.int m2)]) (st' := [.int (16 : Int32), .int m2]) rfl ?_
    by_cases c_4382 : 16 ≤ x2
    · rw [if_pos c_4382] at e
      refine Rn.bt hT rfl rfl rfl (decide_eq_true ((ti_le L32_16 p2).mpr c_4382)) ?_
      exact Rn.weak (ll_n (ll_s (ll_n ll_e))) (hk h s hR m1 x1 p1 e)
    · rw [if_neg c_4382] at e
      refine Rn.bf hT rfl rfl rfl (decide_eq_false (fun z => c_4382 ((ti_le L32_16 p2).mp z))) ?_
      refine Rn.n hT 2 (pc' := 22) (L' := [some (.ref q0), some (.int m1), some (.int m2)]) (st' := [.int m2, .ref q0]) rfl ?_
      obtain ⟨v_4383, e_4383, e⟩ := Option.bind_eq_some_iff.mp e
      refine Rn.call hT rfl rfl rfl (Nat.le_of_ble_eq_true rfl) (rcv_v gX12_isFloor (by omega) (rp_ck hR (T12_o t0))) (RX12_isFloor (by omega) hR t0 p2 e_4383 (fun z_4383 p_4383 => ?_))
      show Rn d _ _ 25 [some (.ref q0), some (.int m1), some (.int m2)] [.int z_4383] h Q
      by_cases c_4384 : v_4383 = 0
      · rw [if_pos c_4384] at e
        refine Rn.bt hT rfl rfl rfl (decide_eq_true ((ti_e p_4383 L32_0).mpr c_4384)) ?_
        exact Rn.weak (ll_s (ll_s (ll_s ll_e))) (RX12_best_b59 hd hR t0 p1 p2 ih hk hq e)
      · rw [if_neg c_4384] at e
        refine Rn.bf hT rfl rfl rfl (decide_eq_false (fun z => c_4384 ((ti_e p_4383 L32_0).mp z))) ?_
        refine Rn.n hT 1 (pc' := 29) (L' := [some (.ref q0), some (.int m1), some (.int m2)]) (st' := [.ref q0]) rfl ?_
        refine Rn.hp hT rfl rfl (gR_hp (rp_gR hR (T12_o t0) rfl)) ?_
        refine Rn.n hT 1 (pc' := 33) (L' := [some (.ref q0), some (.int m1), some (.int m2)]) (st' := [.int m2, .ref (q0 + 8)]) rfl ?_
        obtain ⟨v_4385, e_4385, e⟩ := Option.bind_eq_some_iff.mp e
        obtain ⟨z_4385, g_4385, p_4385⟩ := rp_aI hR (T12_8 t0) (T12_8l t0) p2 e_4385
        refine Rn.hp hT rfl rfl (aI_hp g_4385) ?_
        refine Rn.n hT 1 (pc' := 35) (L' := [some (.ref q0), some (.int m1), some (.int m2)]) (st' := [.int (-1 : Int32), .int z_4385]) rfl ?_
        by_cases c_4386 : v_4385 = (-1)
        · rw [if_pos c_4386] at e
          refine Rn.bf hT rfl rfl rfl (decide_eq_false (fun z => z ((ti_e p_4385 L32_m1).mpr c_4386))) ?_
          refine Rn.n hT 2 (pc' := 41) (L' := [some (.ref q0), some (.int m1), some (.int m2)]) (st' := [.int (-2 : Int32), .int m1]) rfl ?_
          by_cases c_4387 : x1 = (-2)
          · rw [if_pos c_4387] at e
            refine Rn.bt hT rfl rfl rfl (decide_eq_true ((ti_e p1 L32_m2).mpr c_4387)) ?_
            exact Rn.weak (ll_s (ll_n (ll_s ll_e))) (RX12_best_b57 hd hR t0 p2 ih hk hq e)
          · rw [if_neg c_4387] at e
            refine Rn.bf hT rfl rfl rfl (decide_eq_false (fun z => c_4387 ((ti_e p1 L32_m2).mp z))) ?_
            refine Rn.n hT 2 (pc' := 46) (L' := [some (.ref q0), some (.int m1), some (.int m2)]) (st' := [.int m2, .ref q0]) rfl ?_
            obtain ⟨⟨v_4388, s_4389⟩, e_4388, e⟩ := Option.bind_eq_some_iff.mp e
            try dsimp only at e
            try dsimp only at e
            refine Rn.call hT rfl rfl rfl (Nat.le_of_ble_eq_true rfl) (rcv_v gX12_builtMismatches (by omega) (rp_ck hR (T12_o t0))) (RX12_builtMismatches (by omega) hR t0 p2 e_4388 (fun z_4388 h_4389 p_4388 R_4389 => ?_))
            show Rn d _ _ 49 [some (.ref q0), some (.int m1), some (.int m2)] [.int z_4388] h_4389 Q
            refine Rn.n hT 2 (pc' := 51) (L' := [some (.ref q0), some (.int m1), some (.int m2)]) (st' := [.int m1, .ref q0, .int z_4388]) rfl ?_
            obtain ⟨⟨v_4390, s_4391⟩, e_4390, e⟩ := Option.bind_eq_some_iff.mp e
            try dsimp only at e
            try dsimp only at e
            refine Rn.call hT rfl rfl rfl (Nat.le_of_ble_eq_true rfl) (rcv_v gX12_builtMismatches (by omega) (rp_ck R_4389 (T12_o t0))) (RX12_builtMismatches (by omega) R_4389 t0 p1 e_4390 (fun z_4390 h_4391 p_4390 R_4391 => ?_))
            show Rn d _ _ 54 [some (.ref q0), some (.int m1), some (.int m2)] [.int z_4390, .int z_4388] h_4391 Q
            by_cases c_4392 : v_4390 ≤ v_4388
            · rw [if_pos c_4392] at e
              refine Rn.bt hT rfl rfl rfl (decide_eq_true ((ti_le p_4390 p_4388).mpr c_4392)) ?_
              exact Rn.weak (ll_s (ll_s (ll_s ll_e))) (RX12_best_b59 hd R_4391 t0 p1 p2 ih hk hq e)
            · rw [if_neg c_4392] at e
              refine Rn.bf hT rfl rfl rfl (decide_eq_false (fun z => c_4392 ((ti_le p_4390 p_4388).mp z))) ?_
              exact Rn.weak (ll_s (ll_n (ll_s ll_e))) (RX12_best_b57 hd R_4391 t0 p2 ih hk hq e)
        · rw [if_neg c_4386] at e
          refine Rn.bt hT rfl rfl rfl (decide_eq_true (fun z => c_4386 ((ti_e p_4385 L32_m1).mp z))) ?_
          exact Rn.weak (ll_s (ll_s (ll_s ll_e))) (RX12_best_b59 hd hR t0 p1 p2 ih hk hq e)
def FX12_best (N : Nat) (s : iv_M) (q0 : Nat) : Option (Int × iv_M) := ((FX12_isPalace N s q0).bind fun v_4378 => (if v_4378 = 0 then (some ((-1), s)) else (FX12_best_l14 N q0 (fun (s_4380 : iv_M) (x4381_1 : Int) => (some (x4381_1, s_4380))) N s (-2) 0)))
set_option maxRecDepth 10000 in
set_option maxHeartbeats 4000000 in
theorem RX12_best {d N nc Ls : Nat} {Xs : Nat → Int32} (hd : 8 ≤ d) {h : iv_H} {s : iv_M} (hR : Rep nc Ls Xs h s) {q0 : Nat} (t0 : T12 nc q0) {r : Int × iv_M} {Q : Option Value → iv_H → Prop} (e : FX12_best N s q0 = some r) (hq : ∀ (z : Int32) (h1 : iv_H), z.toInt = r.1 → Rep nc Ls Xs h1 r.2 → Q (some (.int z)) h1) : Cl d 338 [.ref q0] h Q := by
  obtain ⟨d, rfl⟩ : ∃ k, d = k + 1 := ⟨d - 1, by omega⟩
  have hd : 7 ≤ d := by omega
  have hT := hX12_best
  unfold FX12_best at e
  refine Cl.into (by decide) gX12_best rfl ?_
  show Rn d 338 (some .int) 0 [some (.ref q0), none, none] [] h Q
  refine Rn.n hT 1 (pc' := 1) (L' := [some (.ref q0), none, none]) (st' := [.ref q0]) rfl ?_
  obtain ⟨v_4378, e_4378, e⟩ := Option.bind_eq_some_iff.mp e
  refine Rn.call hT rfl rfl rfl (Nat.le_of_ble_eq_true rfl) (rcv_v gX12_isPalace (by omega) (rp_ck hR (T12_o t0))) (RX12_isPalace (by omega) hR t0 e_4378 (fun z_4378 p_4378 => ?_))
  show Rn d _ _ 4 [some (.ref q0), none, none] [.int z_4378] h Q
  by_cases c_4379 : v_4378 = 0
  · rw [if_pos c_4379] at e
    refine Rn.bf hT rfl rfl rfl (decide_eq_false (fun z => z ((ti_e p_4378 L32_0).mpr c_4379))) ?_
    refine Rn.n hT 1 (pc' := 8) (L' := [some (.ref q0), none, none]) (st' := [.int (-1 : Int32)]) rfl ?_
    obtain rfl := Option.some.inj e
    exact Rn.ret hT rfl rfl rfl (hq (-1 : Int32) h L32_m1 hR)
  · rw [if_neg c_4379] at e
    refine Rn.bt hT rfl rfl rfl (decide_eq_true (fun z => c_4379 ((ti_e p_4378 L32_0).mp z))) ?_
    refine Rn.n hT 4 (pc' := 14) (L' := [some (.ref q0), some (.int (-2 : Int32)), some (.int (0 : Int32))]) (st' := []) rfl ?_
    refine Rn.weak (ll_s (ll_s (ll_s ll_e))) (RX12_best_l14 hd t0 (fun h_4380 s_4380 R_4380 m4381_1 x4381_1 p4381_1 e => ?_) hq N h s hR (-2 : Int32) (-2) L32_m2 (0 : Int32) 0 L32_0 e)
    try dsimp only at e
    refine Rn.n hT 1 (pc' := 66) (L' := [none, some (.int m4381_1), none]) (st' := [.int m4381_1]) rfl ?_
    obtain rfl := Option.some.inj e
    exact Rn.ret hT rfl rfl rfl (hq m4381_1 h_4380 p4381_1 R_4380)
set_option maxRecDepth 10000 in
theorem hX12_seed : iv_Tb 339 tX12_seed := iv_tb_of (m := mX12_seed) rfl
set_option maxRecDepth 10000 in
theorem gX12_seed : PG.2 339 = some mX12_seed := iv_pi_of (t := tX12_seed) rfl (by decide)
def FX12_seed (N : Nat) (s : iv_M) (q0 : Nat) (x1 : Int) : Option (Int × iv_M) := (if 0 ≤ x1 then ((rd s (q0 + 1) 14 13).bind fun v_4394 => ((wr s (q0 + 1) 14 13 x1).bind fun s_4395 => (some (v_4394, s_4395)))) else (some ((-1), s)))
set_option maxRecDepth 10000 in
set_option maxHeartbeats 4000000 in
theorem RX12_seed {d N nc Ls : Nat} {Xs : Nat → Int32} (hd : 1 ≤ d) {h : iv_H} {s : iv_M} (hR : Rep nc Ls Xs h s) {q0 : Nat} (t0 : T12 nc q0) {m1 : Int32} {x1 : Int} (p1 : m1.toInt = x1) {r : Int × iv_M} {Q : Option Value → iv_H → Prop} (e : FX12_seed N s q0 x1 = some r) (hq : ∀ (z : Int32) (h1 : iv_H), z.toInt = r.1 → Rep nc Ls Xs h1 r.2 → Q (some (.int z)) h1) : Cl d 339 [.ref q0, .int m1] h Q := by
  obtain ⟨d, rfl⟩ : ∃ k, d = k + 1 := ⟨d - 1, by omega⟩
  have hd : 0 ≤ d := by omega
  have hT := hX12_seed
  unfold FX12_seed at e
  refine Cl.into (by decide) gX12_seed rfl ?_
  show Rn d 339 (some .int) 0 [some (.ref q0), some (.int m1), none] [] h Q
  refine Rn.n hT 1 (pc' := 1) (L' := [some (.ref q0), some (.int m1), none]) (st' := [.int m1]) rfl ?_
  by_cases c_4393 : 0 ≤ x1
  · rw [if_pos c_4393] at e
    refine Rn.bt hT rfl rfl rfl (decide_eq_true ((ti_le L32_0 p1).mpr c_4393)) ?_
    refine Rn.n hT 1 (pc' := 7) (L' := [some (.ref q0), some (.int m1), none]) (st' := [.ref q0]) rfl ?_
    refine Rn.hp hT rfl rfl (gR_hp (rp_gR hR (T12_o t0) rfl)) ?_
    refine Rn.n hT 1 (pc' := 12) (L' := [some (.ref q0), some (.int m1), none]) (st' := [.int (13 : Int32), .ref (q0 + 1)]) rfl ?_
    obtain ⟨v_4394, e_4394, e⟩ := Option.bind_eq_some_iff.mp e
    obtain ⟨z_4394, g_4394, p_4394⟩ := rp_aI hR (T12_1 t0) (T12_1l t0) L32_13 e_4394
    refine Rn.hp hT rfl rfl (aI_hp g_4394) ?_
    refine Rn.n hT 2 (pc' := 15) (L' := [some (.ref q0), some (.int m1), some (.int z_4394)]) (st' := [.ref q0]) rfl ?_
    refine Rn.hp hT rfl rfl (gR_hp (rp_gR hR (T12_o t0) rfl)) ?_
    refine Rn.n hT 2 (pc' := 21) (L' := [some (.ref q0), some (.int m1), some (.int z_4394)]) (st' := [.int m1, .int (13 : Int32), .ref (q0 + 1)]) rfl ?_
    obtain ⟨s_4395, e_4396, e⟩ := Option.bind_eq_some_iff.mp e
    obtain ⟨h_4395, g_4396, R_4395⟩ := rp_wI hR (T12_1 t0) (T12_1l t0) L32_13 p1 e_4396
    refine Rn.hp hT rfl rfl (wI_hp g_4396) ?_
    refine Rn.n hT 1 (pc' := 23) (L' := [some (.ref q0), some (.int m1), some (.int z_4394)]) (st' := [.int z_4394]) rfl ?_
    obtain rfl := Option.some.inj e
    exact Rn.ret hT rfl rfl rfl (hq z_4394 h_4395 p_4394 R_4395)
  · rw [if_neg c_4393] at e
    refine Rn.bf hT rfl rfl rfl (decide_eq_false (fun z => c_4393 ((ti_le L32_0 p1).mp z))) ?_
    refine Rn.n hT 1 (pc' := 5) (L' := [some (.ref q0), some (.int m1), none]) (st' := [.int (-1 : Int32)]) rfl ?_
    obtain rfl := Option.some.inj e
    exact Rn.ret hT rfl rfl rfl (hq (-1 : Int32) h L32_m1 hR)
set_option maxRecDepth 10000 in
theorem hX12_draws : iv_Tb 340 tX12_draws := iv_tb_of (m := mX12_draws) rfl
set_option maxRecDepth 10000 in
theorem gX12_draws : PG.2 340 = some mX12_draws := iv_pi_of (t := tX12_draws) rfl (by decide)
def FX12_draws (N : Nat) (s : iv_M) (q0 : Nat) (x1 : Int) : Option (Int × iv_M) := ((rd s (q0 + 1) 14 13).bind fun v_4397 => ((wr s (q0 + 1) 14 13 (w32 (Int.tmod (w64 ((w64 (v_4397 * 1103515245)) + 12345)) 2147483648))).bind fun s_4398 => ((rd s_4398 (q0 + 1) 14 13).bind fun v_4400 => (if x1 = 0 then none else (some ((Int.tmod (dv32 v_4400 65536) x1), s_4398))))))
set_option maxRecDepth 10000 in
set_option maxHeartbeats 4000000 in
theorem RX12_draws {d N nc Ls : Nat} {Xs : Nat → Int32} (hd : 1 ≤ d) {h : iv_H} {s : iv_M} (hR : Rep nc Ls Xs h s) {q0 : Nat} (t0 : T12 nc q0) {m1 : Int32} {x1 : Int} (p1 : m1.toInt = x1) {r : Int × iv_M} {Q : Option Value → iv_H → Prop} (e : FX12_draws N s q0 x1 = some r) (hq : ∀ (z : Int32) (h1 : iv_H), z.toInt = r.1 → Rep nc Ls Xs h1 r.2 → Q (some (.int z)) h1) : Cl d 340 [.ref q0, .int m1] h Q := by
  obtain ⟨d, rfl⟩ : ∃ k, d = k + 1 := ⟨d - 1, by omega⟩
  have hd : 0 ≤ d := by omega
  have hT := hX12_draws
  unfold FX12_draws at e
  refine Cl.into (by decide) gX12_draws rfl ?_
  show Rn d 340 (some .int) 0 [some (.ref q0), some (.int m1)] [] h Q
  refine Rn.n hT 1 (pc' := 1) (L' := [some (.ref q0), some (.int m1)]) (st' := [.ref q0]) rfl ?_
  refine Rn.hp hT rfl rfl (gR_hp (rp_gR hR (T12_o t0) rfl)) ?_
  refine Rn.n hT 2 (pc' := 7) (L' := [some (.ref q0), some (.int m1)]) (st' := [.ref q0, .int (13 : Int32), .ref (q0 + 1)]) rfl ?_
  refine Rn.hp hT rfl rfl (gR_hp (rp_gR hR (T12_o t0) rfl)) ?_
  refine Rn.n hT 1 (pc' := 12) (L' := [some (.ref q0), some (.int m1)]) (st' := [.int (13 : Int32), .ref (q0 + 1), .int (13 : Int32), .ref (q0 + 1)]) rfl ?_
  obtain ⟨v_4397, e_4397, e⟩ := Option.bind_eq_some_iff.mp e
  obtain ⟨z_4397, g_4397, p_4397⟩ := rp_aI hR (T12_1 t0) (T12_1l t0) L32_13 e_4397
  refine Rn.hp hT rfl rfl (aI_hp g_4397) ?_
  refine Rn.n hT 8 (pc' := 27) (L' := [some (.ref q0), some (.int m1)]) (st' := [.int ((((((z_4397).toInt64 * (1103515245 : Int64)) + (12345 : Int64)) - (((z_4397).toInt64 * (1103515245 : Int64)) + (12345 : Int64)) / (2147483648 : Int64) * (2147483648 : Int64))).toInt32), .int (13 : Int32), .ref (q0 + 1)]) rfl ?_
  obtain ⟨s_4398, e_4399, e⟩ := Option.bind_eq_some_iff.mp e
  obtain ⟨h_4398, g_4399, R_4398⟩ := rp_wI hR (T12_1 t0) (T12_1l t0) L32_13 (tj_i (tj_rem (tj_add (tj_mul (ti_j p_4397) L64_1103515245) L64_12345) L64_2147483648)) e_4399
  refine Rn.hp hT rfl rfl (wI_hp g_4399) ?_
  refine Rn.n hT 1 (pc' := 29) (L' := [some (.ref q0), some (.int m1)]) (st' := [.ref q0]) rfl ?_
  refine Rn.hp hT rfl rfl (gR_hp (rp_gR R_4398 (T12_o t0) rfl)) ?_
  refine Rn.n hT 1 (pc' := 34) (L' := [some (.ref q0), some (.int m1)]) (st' := [.int (13 : Int32), .ref (q0 + 1)]) rfl ?_
  obtain ⟨v_4400, e_4400, e⟩ := Option.bind_eq_some_iff.mp e
  obtain ⟨z_4400, g_4400, p_4400⟩ := rp_aI R_4398 (T12_1 t0) (T12_1l t0) L32_13 e_4400
  refine Rn.hp hT rfl rfl (aI_hp g_4400) ?_
  refine Rn.n hT 3 (pc' := 40) (L' := [some (.ref q0), some (.int m1)]) (st' := [.int m1, .int (z_4400 / (65536 : Int32))]) rfl ?_
  by_cases c_4401 : x1 = 0
  · rw [if_pos c_4401] at e
    cases e
  · rw [if_neg c_4401] at e
    refine Rn.pu hT rfl rfl (st' := [.int ((z_4400 / (65536 : Int32)) - (z_4400 / (65536 : Int32)) / m1 * m1)]) (if_neg (fun z => c_4401 ((ti_e p1 L32_0).mp z))) ?_
    obtain rfl := Option.some.inj e
    exact Rn.ret hT rfl rfl rfl (hq ((z_4400 / (65536 : Int32)) - (z_4400 / (65536 : Int32)) / m1 * m1) h_4398 (ti_rem (ti_div p_4400 L32_65536) p1) R_4398)
set_option maxRecDepth 10000 in
theorem hX12_drawnNights : iv_Tb 341 tX12_drawnNights := iv_tb_of (m := mX12_drawnNights) rfl
set_option maxRecDepth 10000 in
theorem gX12_drawnNights : PG.2 341 = some mX12_drawnNights := iv_pi_of (t := tX12_drawnNights) rfl (by decide)
def FX12_drawnNights_b37 (N : Nat) (s : iv_M) (q0 : Nat) (x1 : Int) (x2 : Int) (x3 : Int)  (kb : iv_M → Int → Int → Option (Int × iv_M)) (kx : iv_M → Int → Option (Int × iv_M)) : Option (Int × iv_M) := ((rd s (q0 + 1) 14 6).bind fun v_4417 => ((wr s (q0 + 1) 14 6 (w32 (v_4417 + 1))).bind fun s_4418 => (kb s_4418 x2 (w32 (x3 + 1)))))
set_option maxRecDepth 10000 in
set_option maxHeartbeats 4000000 in
theorem RX12_drawnNights_b37 {d N nc Ls : Nat} {Xs : Nat → Int32} (hd : 9 ≤ d) {h : iv_H} {s : iv_M} (hR : Rep nc Ls Xs h s) {q0 : Nat} (t0 : T12 nc q0) {m1 : Int32} {x1 : Int} (p1 : m1.toInt = x1) {m2 : Int32} {x2 : Int} (p2 : m2.toInt = x2) {m3 : Int32} {x3 : Int} (p3 : m3.toInt = x3)  {kb : iv_M → Int → Int → Option (Int × iv_M)} {kx : iv_M → Int → Option (Int × iv_M)} {r : Int × iv_M} {Q : Option Value → iv_H → Prop} (hb : ∀ (h : iv_H) (s : iv_M) (hR : Rep nc Ls Xs h s) (mw2 : Int32) (xw2 : Int) (pw2 : mw2.toInt = xw2) (mw3 : Int32) (xw3 : Int) (pw3 : mw3.toInt = xw3), kb s xw2 xw3 = some r → Rn d 341 (some .int) 4 [some (.ref q0), some (.int m1), some (.int mw2), some (.int mw3), none] [] h Q) (hk : ∀ (h : iv_H) (s : iv_M) (hR : Rep nc Ls Xs h s) (mw2 : Int32) (xw2 : Int) (pw2 : mw2.toInt = xw2), kx s xw2 = some r → Rn d 341 (some .int) 54 [some (.ref q0), some (.int m1), some (.int mw2), none, none] [] h Q) (hq : ∀ (z : Int32) (h1 : iv_H), z.toInt = r.1 → Rep nc Ls Xs h1 r.2 → Q (some (.int z)) h1) (e : FX12_drawnNights_b37 N s q0 x1 x2 x3  kb kx = some r) : Rn d 341 (some .int) 37 [some (.ref q0), some (.int m1), some (.int m2), some (.int m3), none] [] h Q := by
  have hT := hX12_drawnNights
  unfold FX12_drawnNights_b37 at e
  refine Rn.n hT 1 (pc' := 38) (L' := [some (.ref q0), some (.int m1), some (.int m2), some (.int m3), none]) (st' := [.ref q0]) rfl ?_
  refine Rn.hp hT rfl rfl (gR_hp (rp_gR hR (T12_o t0) rfl)) ?_
  refine Rn.n hT 2 (pc' := 44) (L' := [some (.ref q0), some (.int m1), some (.int m2), some (.int m3), none]) (st' := [.int (6 : Int32), .ref (q0 + 1), .int (6 : Int32), .ref (q0 + 1)]) rfl ?_
  obtain ⟨v_4417, e_4417, e⟩ := Option.bind_eq_some_iff.mp e
  obtain ⟨z_4417, g_4417, p_4417⟩ := rp_aI hR (T12_1 t0) (T12_1l t0) L32_6 e_4417
  refine Rn.hp hT rfl rfl (aI_hp g_4417) ?_
  refine Rn.n hT 2 (pc' := 47) (L' := [some (.ref q0), some (.int m1), some (.int m2), some (.int m3), none]) (st' := [.int (z_4417 + (1 : Int32)), .int (6 : Int32), .ref (q0 + 1)]) rfl ?_
  obtain ⟨s_4418, e_4419, e⟩ := Option.bind_eq_some_iff.mp e
  obtain ⟨h_4418, g_4419, R_4418⟩ := rp_wI hR (T12_1 t0) (T12_1l t0) L32_6 (ti_add p_4417 L32_1) e_4419
  refine Rn.hp hT rfl rfl (wI_hp g_4419) ?_
  refine Rn.n hT 2 (pc' := 4) (L' := [some (.ref q0), some (.int m1), some (.int m2), some (.int (m3 + (1 : Int32))), none]) (st' := []) rfl ?_
  exact Rn.weak (ll_s (ll_s (ll_s (ll_s (ll_n ll_e))))) (hb h_4418 s_4418 R_4418 m2 x2 p2 (m3 + (1 : Int32)) (w32 (x3 + 1)) (ti_add p3 L32_1) e)
def FX12_drawnNights_l4 (N : Nat) (q0 : Nat) (x1 : Int) (kx : iv_M → Int → Option (Int × iv_M)) : Nat → iv_M → Int → Int → Option (Int × iv_M)
  | 0, _, _, _ => none
  | n + 1, s, x2, x3 => (if x1 ≤ x3 then (kx s x2) else ((FX12_canNow N s q0).bind fun r_4408 => (fun (v_4408 : Int) (s_4409 : iv_M) => (if v_4408 ≤ 0 then (FX12_drawnNights_b37 N s_4409 q0 x1 x2 x3 (FX12_drawnNights_l4 N q0 x1 kx n) kx) else ((FX12_draws N s_4409 q0 v_4408).bind fun r_4411 => (fun (v_4411 : Int) (s_4412 : iv_M) => ((FX12_codeAt N s_4412 q0 v_4411).bind fun r_4413 => (fun (v_4413 : Int) (s_4414 : iv_M) => ((FX12_does N s_4414 q0 v_4413).bind fun s_4416 => (FX12_drawnNights_b37 N s_4416 q0 x1 (w32 (x2 + 1)) x3 (FX12_drawnNights_l4 N q0 x1 kx n) kx))) r_4413.1 r_4413.2)) r_4411.1 r_4411.2))) r_4408.1 r_4408.2))
set_option maxRecDepth 10000 in
set_option maxHeartbeats 4000000 in
theorem RX12_drawnNights_l4 {d N nc Ls : Nat} {Xs : Nat → Int32} (hd : 9 ≤ d) {q0 : Nat} (t0 : T12 nc q0) {m1 : Int32} {x1 : Int} (p1 : m1.toInt = x1) {kx : iv_M → Int → Option (Int × iv_M)} {r : Int × iv_M} {Q : Option Value → iv_H → Prop} (hk : ∀ (h : iv_H) (s : iv_M) (hR : Rep nc Ls Xs h s) (m2 : Int32) (x2 : Int) (p2 : m2.toInt = x2), kx s x2 = some r → Rn d 341 (some .int) 54 [some (.ref q0), some (.int m1), some (.int m2), none, none] [] h Q) (hq : ∀ (z : Int32) (h1 : iv_H), z.toInt = r.1 → Rep nc Ls Xs h1 r.2 → Q (some (.int z)) h1) : ∀ (n : Nat) (h : iv_H) (s : iv_M) (hR : Rep nc Ls Xs h s) (m2 : Int32) (x2 : Int) (p2 : m2.toInt = x2) (m3 : Int32) (x3 : Int) (p3 : m3.toInt = x3), FX12_drawnNights_l4 N q0 x1 kx n s x2 x3 = some r → Rn d 341 (some .int) 4 [some (.ref q0), some (.int m1), some (.int m2), some (.int m3), none] [] h Q := by
  have hT := hX12_drawnNights
  intro n
  induction n with
  | zero =>
    intro h s hR m2 x2 p2 m3 x3 p3 e
    rw [FX12_drawnNights_l4] at e
    cases e
  | succ n ih =>
    intro h s hR m2 x2 p2 m3 x3 p3 e
    rw [FX12_drawnNights_l4] at e
    refine Rn.n hT 2 (pc' := 6) (L' := [some (.ref q0), some (.int m1), some (.int m2), some (.int m3), none]) (st' := [.int m1, .int m3]) rfl ?_
    by_cases c_4407 : x1 ≤ x3
    · rw [if_pos c_4407] at e
      refine Rn.bt hT rfl rfl rfl (decide_eq_true ((ti_le p1 p3).mpr c_4407)) ?_
      exact Rn.weak (ll_s (ll_s (ll_s (ll_n (ll_n ll_e))))) (hk h s hR m2 x2 p2 e)
    · rw [if_neg c_4407] at e
      refine Rn.bf hT rfl rfl rfl (decide_eq_false (fun z => c_4407 ((ti_le p1 p3).mp z))) ?_
      refine Rn.n hT 1 (pc' := 10) (L' := [some (.ref q0), some (.int m1), some (.int m2), some (.int m3), none]) (st' := [.ref q0]) rfl ?_
      obtain ⟨⟨v_4408, s_4409⟩, e_4408, e⟩ := Option.bind_eq_some_iff.mp e
      try dsimp only at e
      try dsimp only at e
      refine Rn.call hT rfl rfl rfl (Nat.le_of_ble_eq_true rfl) (rcv_v gX12_canNow (by omega) (rp_ck hR (T12_o t0))) (RX12_canNow (by omega) hR t0 e_4408 (fun z_4408 h_4409 p_4408 R_4409 => ?_))
      show Rn d _ _ 13 [some (.ref q0), some (.int m1), some (.int m2), some (.int m3), none] [.int z_4408] h_4409 Q
      refine Rn.n hT 2 (pc' := 17) (L' := [some (.ref q0), some (.int m1), some (.int m2), some (.int m3), some (.int z_4408)]) (st' := [.int z_4408]) rfl ?_
      by_cases c_4410 : v_4408 ≤ 0
      · rw [if_pos c_4410] at e
        refine Rn.bt hT rfl rfl rfl (decide_eq_true ((ti_le p_4408 L32_0).mpr c_4410)) ?_
        exact Rn.weak (ll_s (ll_s (ll_s (ll_s (ll_n ll_e))))) (RX12_drawnNights_b37 hd R_4409 t0 p1 p2 p3 ih hk hq e)
      · rw [if_neg c_4410] at e
        refine Rn.bf hT rfl rfl rfl (decide_eq_false (fun z => c_4410 ((ti_le p_4408 L32_0).mp z))) ?_
        refine Rn.n hT 4 (pc' := 25) (L' := [some (.ref q0), some (.int m1), some (.int m2), some (.int m3), some (.int z_4408)]) (st' := [.int z_4408, .ref q0, .ref q0, .ref q0]) rfl ?_
        obtain ⟨⟨v_4411, s_4412⟩, e_4411, e⟩ := Option.bind_eq_some_iff.mp e
        try dsimp only at e
        try dsimp only at e
        refine Rn.call hT rfl rfl rfl (Nat.le_of_ble_eq_true rfl) (rcv_v gX12_draws (by omega) (rp_ck R_4409 (T12_o t0))) (RX12_draws (by omega) R_4409 t0 p_4408 e_4411 (fun z_4411 h_4412 p_4411 R_4412 => ?_))
        show Rn d _ _ 28 [some (.ref q0), some (.int m1), some (.int m2), some (.int m3), some (.int z_4408)] [.int z_4411, .ref q0, .ref q0] h_4412 Q
        obtain ⟨⟨v_4413, s_4414⟩, e_4413, e⟩ := Option.bind_eq_some_iff.mp e
        try dsimp only at e
        try dsimp only at e
        refine Rn.call hT rfl rfl rfl (Nat.le_of_ble_eq_true rfl) (rcv_v gX12_codeAt (by omega) (rp_ck R_4412 (T12_o t0))) (RX12_codeAt (by omega) R_4412 t0 p_4411 e_4413 (fun z_4413 h_4414 p_4413 R_4414 => ?_))
        show Rn d _ _ 31 [some (.ref q0), some (.int m1), some (.int m2), some (.int m3), some (.int z_4408)] [.int z_4413, .ref q0] h_4414 Q
        obtain ⟨s_4416, e_4415, e⟩ := Option.bind_eq_some_iff.mp e
        refine Rn.call hT rfl rfl rfl (Nat.le_of_ble_eq_true rfl) (rcv_v gX12_does (by omega) (rp_ck R_4414 (T12_o t0))) (RX12_does (by omega) R_4414 t0 p_4413 e_4415 (fun h_4416 R_4416 => ?_))
        show Rn d _ _ 34 [some (.ref q0), some (.int m1), some (.int m2), some (.int m3), some (.int z_4408)] [] h_4416 Q
        refine Rn.n hT 1 (pc' := 37) (L' := [some (.ref q0), some (.int m1), some (.int (m2 + (1 : Int32))), some (.int m3), some (.int z_4408)]) (st' := []) rfl ?_
        exact Rn.weak (ll_s (ll_s (ll_s (ll_s (ll_n ll_e))))) (RX12_drawnNights_b37 hd R_4416 t0 p1 (ti_add p2 L32_1) p3 ih hk hq e)
def FX12_drawnNights (N : Nat) (s : iv_M) (q0 : Nat) (x1 : Int) : Option (Int × iv_M) := (FX12_drawnNights_l4 N q0 x1 (fun (s_4402 : iv_M) (x4403_2 : Int) => ((rd s_4402 (q0 + 1) 14 6).bind fun v_4404 => ((wr s_4402 (q0 + 1) 14 6 (w32 (v_4404 - x1))).bind fun s_4405 => (some (x4403_2, s_4405))))) N s 0 0)
set_option maxRecDepth 10000 in
set_option maxHeartbeats 4000000 in
theorem RX12_drawnNights {d N nc Ls : Nat} {Xs : Nat → Int32} (hd : 10 ≤ d) {h : iv_H} {s : iv_M} (hR : Rep nc Ls Xs h s) {q0 : Nat} (t0 : T12 nc q0) {m1 : Int32} {x1 : Int} (p1 : m1.toInt = x1) {r : Int × iv_M} {Q : Option Value → iv_H → Prop} (e : FX12_drawnNights N s q0 x1 = some r) (hq : ∀ (z : Int32) (h1 : iv_H), z.toInt = r.1 → Rep nc Ls Xs h1 r.2 → Q (some (.int z)) h1) : Cl d 341 [.ref q0, .int m1] h Q := by
  obtain ⟨d, rfl⟩ : ∃ k, d = k + 1 := ⟨d - 1, by omega⟩
  have hd : 9 ≤ d := by omega
  have hT := hX12_drawnNights
  unfold FX12_drawnNights at e
  refine Cl.into (by decide) gX12_drawnNights rfl ?_
  show Rn d 341 (some .int) 0 [some (.ref q0), some (.int m1), none, none, none] [] h Q
  refine Rn.n hT 4 (pc' := 4) (L' := [some (.ref q0), some (.int m1), some (.int (0 : Int32)), some (.int (0 : Int32)), none]) (st' := []) rfl ?_
  refine Rn.weak (ll_s (ll_s (ll_s (ll_s (ll_n ll_e))))) (RX12_drawnNights_l4 hd t0 p1 (fun h_4402 s_4402 R_4402 m4403_2 x4403_2 p4403_2 e => ?_) hq N h s hR (0 : Int32) 0 L32_0 (0 : Int32) 0 L32_0 e)
  try dsimp only at e
  refine Rn.n hT 1 (pc' := 55) (L' := [some (.ref q0), some (.int m1), some (.int m4403_2), none, none]) (st' := [.ref q0]) rfl ?_
  refine Rn.hp hT rfl rfl (gR_hp (rp_gR R_4402 (T12_o t0) rfl)) ?_
  refine Rn.n hT 2 (pc' := 61) (L' := [some (.ref q0), some (.int m1), some (.int m4403_2), none, none]) (st' := [.int (6 : Int32), .ref (q0 + 1), .int (6 : Int32), .ref (q0 + 1)]) rfl ?_
  obtain ⟨v_4404, e_4404, e⟩ := Option.bind_eq_some_iff.mp e
  obtain ⟨z_4404, g_4404, p_4404⟩ := rp_aI R_4402 (T12_1 t0) (T12_1l t0) L32_6 e_4404
  refine Rn.hp hT rfl rfl (aI_hp g_4404) ?_
  refine Rn.n hT 2 (pc' := 64) (L' := [some (.ref q0), some (.int m1), some (.int m4403_2), none, none]) (st' := [.int (z_4404 - m1), .int (6 : Int32), .ref (q0 + 1)]) rfl ?_
  obtain ⟨s_4405, e_4406, e⟩ := Option.bind_eq_some_iff.mp e
  obtain ⟨h_4405, g_4406, R_4405⟩ := rp_wI R_4402 (T12_1 t0) (T12_1l t0) L32_6 (ti_sub p_4404 p1) e_4406
  refine Rn.hp hT rfl rfl (wI_hp g_4406) ?_
  refine Rn.n hT 1 (pc' := 66) (L' := [some (.ref q0), some (.int m1), some (.int m4403_2), none, none]) (st' := [.int m4403_2]) rfl ?_
  obtain rfl := Option.some.inj e
  exact Rn.ret hT rfl rfl rfl (hq m4403_2 h_4405 p4403_2 R_4405)
set_option maxRecDepth 10000 in
theorem hX12_areDoorToDoor : iv_Tb 342 tX12_areDoorToDoor := iv_tb_of (m := mX12_areDoorToDoor) rfl
set_option maxRecDepth 10000 in
theorem gX12_areDoorToDoor : PG.2 342 = some mX12_areDoorToDoor := iv_pi_of (t := tX12_areDoorToDoor) rfl (by decide)
def FX12_areDoorToDoor_b41 (N : Nat) (s : iv_M) (q0 : Nat) (x1 : Int) (x2 : Int) (x4 : Int) (xs0 : Int) (kb : Int → Int → Option (Int)) (kx : Int → Option (Int)) : Option (Int) := (kb xs0 (w32 (x4 + 1)))
set_option maxRecDepth 10000 in
set_option maxHeartbeats 4000000 in
theorem RX12_areDoorToDoor_b41 {d N nc Ls : Nat} {Xs : Nat → Int32} (hd : 5 ≤ d) {h : iv_H} {s : iv_M} (hR : Rep nc Ls Xs h s) {q0 : Nat} (t0 : T12 nc q0) {m1 : Int32} {x1 : Int} (p1 : m1.toInt = x1) {m2 : Int32} {x2 : Int} (p2 : m2.toInt = x2) {m4 : Int32} {x4 : Int} (p4 : m4.toInt = x4) {ms0 : Int32} {xs0 : Int} (ps0 : ms0.toInt = xs0) {kb : Int → Int → Option (Int)} {kx : Int → Option (Int)} {r : Int} {Q : Option Value → iv_H → Prop} (hb : ∀ (mw3 : Int32) (xw3 : Int) (pw3 : mw3.toInt = xw3) (mw4 : Int32) (xw4 : Int) (pw4 : mw4.toInt = xw4), kb xw3 xw4 = some r → Rn d 342 (some .boolean) 5 [some (.ref q0), some (.int m1), some (.int m2), some (.int mw3), some (.int mw4)] [] h Q) (hk : ∀ (mw3 : Int32) (xw3 : Int) (pw3 : mw3.toInt = xw3), kx xw3 = some r → Rn d 342 (some .boolean) 48 [none, none, none, some (.int mw3), none] [] h Q) (hq : ∀ (z : Int32), z.toInt = r → Q (some (.int z)) h) (e : FX12_areDoorToDoor_b41 N s q0 x1 x2 x4 xs0 kb kx = some r) : Rn d 342 (some .boolean) 41 [some (.ref q0), some (.int m1), some (.int m2), none, some (.int m4)] [.int ms0] h Q := by
  have hT := hX12_areDoorToDoor
  unfold FX12_areDoorToDoor_b41 at e
  refine Rn.n hT 3 (pc' := 5) (L' := [some (.ref q0), some (.int m1), some (.int m2), some (.int ms0), some (.int (m4 + (1 : Int32)))]) (st' := []) rfl ?_
  exact Rn.weak (ll_s (ll_s (ll_s (ll_s (ll_s ll_e))))) (hb ms0 xs0 ps0 (m4 + (1 : Int32)) (w32 (x4 + 1)) (ti_add p4 L32_1) e)
def FX12_areDoorToDoor_b36 (N : Nat) (s : iv_M) (q0 : Nat) (x1 : Int) (x2 : Int) (x4 : Int)  (kb : Int → Int → Option (Int)) (kx : Int → Option (Int)) : Option (Int) := (FX12_areDoorToDoor_b41 N s q0 x1 x2 x4 1 kb kx)
set_option maxRecDepth 10000 in
set_option maxHeartbeats 4000000 in
theorem RX12_areDoorToDoor_b36 {d N nc Ls : Nat} {Xs : Nat → Int32} (hd : 5 ≤ d) {h : iv_H} {s : iv_M} (hR : Rep nc Ls Xs h s) {q0 : Nat} (t0 : T12 nc q0) {m1 : Int32} {x1 : Int} (p1 : m1.toInt = x1) {m2 : Int32} {x2 : Int} (p2 : m2.toInt = x2) {m4 : Int32} {x4 : Int} (p4 : m4.toInt = x4)  {kb : Int → Int → Option (Int)} {kx : Int → Option (Int)} {r : Int} {Q : Option Value → iv_H → Prop} (hb : ∀ (mw3 : Int32) (xw3 : Int) (pw3 : mw3.toInt = xw3) (mw4 : Int32) (xw4 : Int) (pw4 : mw4.toInt = xw4), kb xw3 xw4 = some r → Rn d 342 (some .boolean) 5 [some (.ref q0), some (.int m1), some (.int m2), some (.int mw3), some (.int mw4)] [] h Q) (hk : ∀ (mw3 : Int32) (xw3 : Int) (pw3 : mw3.toInt = xw3), kx xw3 = some r → Rn d 342 (some .boolean) 48 [none, none, none, some (.int mw3), none] [] h Q) (hq : ∀ (z : Int32), z.toInt = r → Q (some (.int z)) h) (e : FX12_areDoorToDoor_b36 N s q0 x1 x2 x4  kb kx = some r) : Rn d 342 (some .boolean) 36 [some (.ref q0), some (.int m1), some (.int m2), none, some (.int m4)] [] h Q := by
  have hT := hX12_areDoorToDoor
  unfold FX12_areDoorToDoor_b36 at e
  refine Rn.n hT 2 (pc' := 41) (L' := [some (.ref q0), some (.int m1), some (.int m2), none, some (.int m4)]) (st' := [.int (1 : Int32)]) rfl ?_
  exact Rn.weak (ll_s (ll_s (ll_s (ll_n (ll_s ll_e))))) (RX12_areDoorToDoor_b41 hd hR t0 p1 p2 p4 L32_1 hb hk hq e)
def FX12_areDoorToDoor_b40 (N : Nat) (s : iv_M) (q0 : Nat) (x1 : Int) (x2 : Int) (x4 : Int)  (kb : Int → Int → Option (Int)) (kx : Int → Option (Int)) : Option (Int) := (FX12_areDoorToDoor_b41 N s q0 x1 x2 x4 0 kb kx)
set_option maxRecDepth 10000 in
set_option maxHeartbeats 4000000 in
theorem RX12_areDoorToDoor_b40 {d N nc Ls : Nat} {Xs : Nat → Int32} (hd : 5 ≤ d) {h : iv_H} {s : iv_M} (hR : Rep nc Ls Xs h s) {q0 : Nat} (t0 : T12 nc q0) {m1 : Int32} {x1 : Int} (p1 : m1.toInt = x1) {m2 : Int32} {x2 : Int} (p2 : m2.toInt = x2) {m4 : Int32} {x4 : Int} (p4 : m4.toInt = x4)  {kb : Int → Int → Option (Int)} {kx : Int → Option (Int)} {r : Int} {Q : Option Value → iv_H → Prop} (hb : ∀ (mw3 : Int32) (xw3 : Int) (pw3 : mw3.toInt = xw3) (mw4 : Int32) (xw4 : Int) (pw4 : mw4.toInt = xw4), kb xw3 xw4 = some r → Rn d 342 (some .boolean) 5 [some (.ref q0), some (.int m1), some (.int m2), some (.int mw3), some (.int mw4)] [] h Q) (hk : ∀ (mw3 : Int32) (xw3 : Int) (pw3 : mw3.toInt = xw3), kx xw3 = some r → Rn d 342 (some .boolean) 48 [none, none, none, some (.int mw3), none] [] h Q) (hq : ∀ (z : Int32), z.toInt = r → Q (some (.int z)) h) (e : FX12_areDoorToDoor_b40 N s q0 x1 x2 x4  kb kx = some r) : Rn d 342 (some .boolean) 40 [some (.ref q0), some (.int m1), some (.int m2), none, some (.int m4)] [] h Q := by
  have hT := hX12_areDoorToDoor
  unfold FX12_areDoorToDoor_b40 at e
  refine Rn.n hT 1 (pc' := 41) (L' := [some (.ref q0), some (.int m1), some (.int m2), none, some (.int m4)]) (st' := [.int (0 : Int32)]) rfl ?_
  exact Rn.weak (ll_s (ll_s (ll_s (ll_n (ll_s ll_e))))) (RX12_areDoorToDoor_b41 hd hR t0 p1 p2 p4 L32_0 hb hk hq e)
def FX12_areDoorToDoor_l5 (N : Nat) (s : iv_M) (q0 : Nat) (x1 : Int) (x2 : Int) (kx : Int → Option (Int)) : Nat → Int → Int → Option (Int)
  | 0, _, _ => none
  | n + 1, x3, x4 => (if 4 ≤ x4 then (kx x3) else (if x3 = 0 then ((FX12_faced N s q0 x1 x4).bind fun v_4424 => (if v_4424 = x2 then ((FX12_isDoorToDoor N s q0 x1 x4).bind fun v_4426 => (if v_4426 = 0 then (FX12_areDoorToDoor_b40 N s q0 x1 x2 x4 (FX12_areDoorToDoor_l5 N s q0 x1 x2 kx n) kx) else (FX12_areDoorToDoor_b36 N s q0 x1 x2 x4 (FX12_areDoorToDoor_l5 N s q0 x1 x2 kx n) kx))) else (FX12_areDoorToDoor_b40 N s q0 x1 x2 x4 (FX12_areDoorToDoor_l5 N s q0 x1 x2 kx n) kx))) else (FX12_areDoorToDoor_b36 N s q0 x1 x2 x4 (FX12_areDoorToDoor_l5 N s q0 x1 x2 kx n) kx)))
set_option maxRecDepth 10000 in
set_option maxHeartbeats 4000000 in
theorem RX12_areDoorToDoor_l5 {d N nc Ls : Nat} {Xs : Nat → Int32} (hd : 5 ≤ d) {h : iv_H} {s : iv_M} (hR : Rep nc Ls Xs h s) {q0 : Nat} (t0 : T12 nc q0) {m1 : Int32} {x1 : Int} (p1 : m1.toInt = x1) {m2 : Int32} {x2 : Int} (p2 : m2.toInt = x2) {kx : Int → Option (Int)} {r : Int} {Q : Option Value → iv_H → Prop} (hk : ∀ (m3 : Int32) (x3 : Int) (p3 : m3.toInt = x3), kx x3 = some r → Rn d 342 (some .boolean) 48 [none, none, none, some (.int m3), none] [] h Q) (hq : ∀ (z : Int32), z.toInt = r → Q (some (.int z)) h) : ∀ (n : Nat) (m3 : Int32) (x3 : Int) (p3 : m3.toInt = x3) (m4 : Int32) (x4 : Int) (p4 : m4.toInt = x4), FX12_areDoorToDoor_l5 N s q0 x1 x2 kx n x3 x4 = some r → Rn d 342 (some .boolean) 5 [some (.ref q0), some (.int m1), some (.int m2), some (.int m3), some (.int m4)] [] h Q := by
  have hT := hX12_areDoorToDoor
  intro n
  induction n with
  | zero =>
    intro m3 x3 p3 m4 x4 p4 e
    rw [FX12_areDoorToDoor_l5] at e
    cases e
  | succ n ih =>
    intro m3 x3 p3 m4 x4 p4 e
    rw [FX12_areDoorToDoor_l5] at e
    refine Rn.n hT 2 (pc' := 8) (L' := [some (.ref q0), some (.int m1), some (.int m2), some (.int m3), some (.int m4)]) (st' := [.int (4 : Int32), .int m4]) rfl ?_
    by_cases c_4422 : 4 ≤ x4
    · rw [if_pos c_4422] at e
      refine Rn.bt hT rfl rfl rfl (decide_eq_true ((ti_le L32_4 p4).mpr c_4422)) ?_
      exact Rn.weak (ll_n (ll_n (ll_n (ll_s (ll_n ll_e))))) (hk m3 x3 p3 e)
    · rw [if_neg c_4422] at e
      refine Rn.bf hT rfl rfl rfl (decide_eq_false (fun z => c_4422 ((ti_le L32_4 p4).mp z))) ?_
      refine Rn.n hT 1 (pc' := 12) (L' := [some (.ref q0), some (.int m1), some (.int m2), some (.int m3), some (.int m4)]) (st' := [.int m3]) rfl ?_
      by_cases c_4423 : x3 = 0
      · rw [if_pos c_4423] at e
        refine Rn.bf hT rfl rfl rfl (decide_eq_false (fun z => z ((ti_e p3 L32_0).mpr c_4423))) ?_
        refine Rn.n hT 3 (pc' := 19) (L' := [some (.ref q0), some (.int m1), some (.int m2), some (.int m3), some (.int m4)]) (st' := [.int m4, .int m1, .ref q0]) rfl ?_
        obtain ⟨v_4424, e_4424, e⟩ := Option.bind_eq_some_iff.mp e
        refine Rn.call hT rfl rfl rfl (Nat.le_of_ble_eq_true rfl) (rcv_v gX12_faced (by omega) (rp_ck hR (T12_o t0))) (RX12_faced (by omega) hR t0 p1 p4 e_4424 (fun z_4424 p_4424 => ?_))
        show Rn d _ _ 22 [some (.ref q0), some (.int m1), some (.int m2), some (.int m3), some (.int m4)] [.int z_4424] h Q
        refine Rn.n hT 1 (pc' := 23) (L' := [some (.ref q0), some (.int m1), some (.int m2), some (.int m3), some (.int m4)]) (st' := [.int m2, .int z_4424]) rfl ?_
        by_cases c_4425 : v_4424 = x2
        · rw [if_pos c_4425] at e
          refine Rn.bf hT rfl rfl rfl (decide_eq_false (fun z => z ((ti_e p_4424 p2).mpr c_4425))) ?_
          refine Rn.n hT 3 (pc' := 30) (L' := [some (.ref q0), some (.int m1), some (.int m2), some (.int m3), some (.int m4)]) (st' := [.int m4, .int m1, .ref q0]) rfl ?_
          obtain ⟨v_4426, e_4426, e⟩ := Option.bind_eq_some_iff.mp e
          refine Rn.call hT rfl rfl rfl (Nat.le_of_ble_eq_true rfl) (rcv_v gX12_isDoorToDoor (by omega) (rp_ck hR (T12_o t0))) (RX12_isDoorToDoor (by omega) hR t0 p1 p4 e_4426 (fun z_4426 p_4426 => ?_))
          show Rn d _ _ 33 [some (.ref q0), some (.int m1), some (.int m2), some (.int m3), some (.int m4)] [.int z_4426] h Q
          by_cases c_4427 : v_4426 = 0
          · rw [if_pos c_4427] at e
            refine Rn.bt hT rfl rfl rfl (decide_eq_true ((ti_e p_4426 L32_0).mpr c_4427)) ?_
            exact Rn.weak (ll_s (ll_s (ll_s (ll_n (ll_s ll_e))))) (RX12_areDoorToDoor_b40 hd hR t0 p1 p2 p4 ih hk hq e)
          · rw [if_neg c_4427] at e
            refine Rn.bf hT rfl rfl rfl (decide_eq_false (fun z => c_4427 ((ti_e p_4426 L32_0).mp z))) ?_
            exact Rn.weak (ll_s (ll_s (ll_s (ll_n (ll_s ll_e))))) (RX12_areDoorToDoor_b36 hd hR t0 p1 p2 p4 ih hk hq e)
        · rw [if_neg c_4425] at e
          refine Rn.bt hT rfl rfl rfl (decide_eq_true (fun z => c_4425 ((ti_e p_4424 p2).mp z))) ?_
          exact Rn.weak (ll_s (ll_s (ll_s (ll_n (ll_s ll_e))))) (RX12_areDoorToDoor_b40 hd hR t0 p1 p2 p4 ih hk hq e)
      · rw [if_neg c_4423] at e
        refine Rn.bt hT rfl rfl rfl (decide_eq_true (fun z => c_4423 ((ti_e p3 L32_0).mp z))) ?_
        exact Rn.weak (ll_s (ll_s (ll_s (ll_n (ll_s ll_e))))) (RX12_areDoorToDoor_b36 hd hR t0 p1 p2 p4 ih hk hq e)
def FX12_areDoorToDoor (N : Nat) (s : iv_M) (q0 : Nat) (x1 : Int) (x2 : Int) : Option (Int) := (FX12_areDoorToDoor_l5 N s q0 x1 x2 (fun (x4420_3 : Int) => (if x4420_3 = 0 ∨ x4420_3 = 1 then some x4420_3 else none)) N 0 0)
set_option maxRecDepth 10000 in
set_option maxHeartbeats 4000000 in
theorem RX12_areDoorToDoor {d N nc Ls : Nat} {Xs : Nat → Int32} (hd : 6 ≤ d) {h : iv_H} {s : iv_M} (hR : Rep nc Ls Xs h s) {q0 : Nat} (t0 : T12 nc q0) {m1 : Int32} {x1 : Int} (p1 : m1.toInt = x1) {m2 : Int32} {x2 : Int} (p2 : m2.toInt = x2) {r : Int} {Q : Option Value → iv_H → Prop} (e : FX12_areDoorToDoor N s q0 x1 x2 = some r) (hq : ∀ (z : Int32), z.toInt = r → Q (some (.int z)) h) : Cl d 342 [.ref q0, .int m1, .int m2] h Q := by
  obtain ⟨d, rfl⟩ : ∃ k, d = k + 1 := ⟨d - 1, by omega⟩
  have hd : 5 ≤ d := by omega
  have hT := hX12_areDoorToDoor
  unfold FX12_areDoorToDoor at e
  refine Cl.into (by decide) gX12_areDoorToDoor rfl ?_
  show Rn d 342 (some .boolean) 0 [some (.ref q0), some (.int m1), some (.int m2), none, none] [] h Q
  refine Rn.n hT 4 (pc' := 5) (L' := [some (.ref q0), some (.int m1), some (.int m2), some (.int (0 : Int32)), some (.int (0 : Int32))]) (st' := []) rfl ?_
  refine Rn.weak (ll_s (ll_s (ll_s (ll_s (ll_s ll_e))))) (RX12_areDoorToDoor_l5 hd hR t0 p1 p2 (fun m4420_3 x4420_3 p4420_3 e => ?_) hq N (0 : Int32) 0 L32_0 (0 : Int32) 0 L32_0 e)
  try dsimp only at e
  refine Rn.n hT 1 (pc' := 49) (L' := [none, none, none, some (.int m4420_3), none]) (st' := [.int m4420_3]) rfl ?_
  by_cases c_4421 : x4420_3 = 0 ∨ x4420_3 = 1
  · rw [if_pos c_4421] at e
    obtain rfl := Option.some.inj e
    exact Rn.ret hT rfl rfl (if_pos (ti_b p4420_3 c_4421)) (hq m4420_3 p4420_3)
  · rw [if_neg c_4421] at e
    cases e
set_option maxRecDepth 10000 in
theorem hX12_drawn : iv_Tb 343 tX12_drawn := iv_tb_of (m := mX12_drawn) rfl
set_option maxRecDepth 10000 in
theorem gX12_drawn : PG.2 343 = some mX12_drawn := iv_pi_of (t := tX12_drawn) rfl (by decide)
def FX12_drawn_b60 (N : Nat) (s : iv_M)   : Option (Int × iv_M) := (some ((-1), s))
set_option maxRecDepth 10000 in
set_option maxHeartbeats 4000000 in
theorem RX12_drawn_b60 {d N nc Ls : Nat} {Xs : Nat → Int32} (hd : 10 ≤ d) {h : iv_H} {s : iv_M} (hR : Rep nc Ls Xs h s)   {r : Int × iv_M} {Q : Option Value → iv_H → Prop} (hq : ∀ (z : Int32) (h1 : iv_H), z.toInt = r.1 → Rep nc Ls Xs h1 r.2 → Q (some (.int z)) h1) (e : FX12_drawn_b60 N s   = some r) : Rn d 343 (some .int) 60 [none, none, none, none, none, none, none, none, none, none] [] h Q := by
  have hT := hX12_drawn
  unfold FX12_drawn_b60 at e
  refine Rn.n hT 1 (pc' := 61) (L' := [none, none, none, none, none, none, none, none, none, none]) (st' := [.int (-1 : Int32)]) rfl ?_
  obtain rfl := Option.some.inj e
  exact Rn.ret hT rfl rfl rfl (hq (-1 : Int32) h L32_m1 hR)
def FX12_drawn_b139 (N : Nat) (s : iv_M) (q0 : Nat) (x1 : Int) (x2 : Int) (x3 : Int) (x4 : Int) (x5 : Int) (x6 : Int) (x8 : Int) (xs0 : Int) (xs1 : Int) (kb : iv_M → Int → Int → Option (Int × iv_M)) (kx : iv_M → Int → Option (Int × iv_M)) : Option (Int × iv_M) := ((FX12_laysFloor N s q0 (q0 + 41) 0).bind fun s_4456 => (kb s_4456 (w32 (xs1 + xs0)) (w32 (x8 + 1))))
set_option maxRecDepth 10000 in
set_option maxHeartbeats 4000000 in
theorem RX12_drawn_b139 {d N nc Ls : Nat} {Xs : Nat → Int32} (hd : 10 ≤ d) {h : iv_H} {s : iv_M} (hR : Rep nc Ls Xs h s) {q0 : Nat} (t0 : T12 nc q0) {m1 : Int32} {x1 : Int} (p1 : m1.toInt = x1) {m2 : Int32} {x2 : Int} (p2 : m2.toInt = x2) {m3 : Int32} {x3 : Int} (p3 : m3.toInt = x3) {m4 : Int32} {x4 : Int} (p4 : m4.toInt = x4) {m5 : Int32} {x5 : Int} (p5 : m5.toInt = x5) {m6 : Int32} {x6 : Int} (p6 : m6.toInt = x6) {m8 : Int32} {x8 : Int} (p8 : m8.toInt = x8) {ms0 : Int32} {xs0 : Int} (ps0 : ms0.toInt = xs0) {ms1 : Int32} {xs1 : Int} (ps1 : ms1.toInt = xs1) {kb : iv_M → Int → Int → Option (Int × iv_M)} {kx : iv_M → Int → Option (Int × iv_M)} {r : Int × iv_M} {Q : Option Value → iv_H → Prop} (hb : ∀ (h : iv_H) (s : iv_M) (hR : Rep nc Ls Xs h s) (mw7 : Int32) (xw7 : Int) (pw7 : mw7.toInt = xw7) (mw8 : Int32) (xw8 : Int) (pw8 : mw8.toInt = xw8), kb s xw7 xw8 = some r → Rn d 343 (some .int) 86 [some (.ref q0), some (.int m1), some (.int m2), some (.int m3), some (.int m4), some (.int m5), some (.int m6), some (.int mw7), some (.int mw8), none] [] h Q) (hk : ∀ (h : iv_H) (s : iv_M) (hR : Rep nc Ls Xs h s) (mw7 : Int32) (xw7 : Int) (pw7 : mw7.toInt = xw7), kx s xw7 = some r → Rn d 343 (some .int) 157 [some (.ref q0), none, none, none, none, none, some (.int m6), some (.int mw7), none, none] [] h Q) (hq : ∀ (z : Int32) (h1 : iv_H), z.toInt = r.1 → Rep nc Ls Xs h1 r.2 → Q (some (.int z)) h1) (e : FX12_drawn_b139 N s q0 x1 x2 x3 x4 x5 x6 x8 xs0 xs1 kb kx = some r) : Rn d 343 (some .int) 139 [some (.ref q0), some (.int m1), some (.int m2), some (.int m3), some (.int m4), some (.int m5), some (.int m6), none, some (.int m8), none] [.int ms0, .int ms1] h Q := by
  have hT := hX12_drawn
  unfold FX12_drawn_b139 at e
  refine Rn.n hT 4 (pc' := 144) (L' := [some (.ref q0), some (.int m1), some (.int m2), some (.int m3), some (.int m4), some (.int m5), some (.int m6), some (.int (ms1 + ms0)), some (.int m8), none]) (st' := [.ref q0, .ref q0]) rfl ?_
  refine Rn.hp hT rfl rfl (gR_hp (rp_gR hR (T12_o t0) rfl)) ?_
  refine Rn.n hT 1 (pc' := 148) (L' := [some (.ref q0), some (.int m1), some (.int m2), some (.int m3), some (.int m4), some (.int m5), some (.int m6), some (.int (ms1 + ms0)), some (.int m8), none]) (st' := [.int (0 : Int32), .ref (q0 + 41), .ref q0]) rfl ?_
  obtain ⟨s_4456, e_4455, e⟩ := Option.bind_eq_some_iff.mp e
  refine Rn.call hT rfl rfl rfl (Nat.le_of_ble_eq_true rfl) (rcv_v gX12_laysFloor (by omega) (rp_ck hR (T12_o t0))) (RX12_laysFloor (by omega) hR t0 (T12_55 t0) L32_0 e_4455 (fun h_4456 R_4456 => ?_))
  show Rn d _ _ 151 [some (.ref q0), some (.int m1), some (.int m2), some (.int m3), some (.int m4), some (.int m5), some (.int m6), some (.int (ms1 + ms0)), some (.int m8), none] [] h_4456 Q
  refine Rn.n hT 2 (pc' := 86) (L' := [some (.ref q0), some (.int m1), some (.int m2), some (.int m3), some (.int m4), some (.int m5), some (.int m6), some (.int (ms1 + ms0)), some (.int (m8 + (1 : Int32))), none]) (st' := []) rfl ?_
  exact Rn.weak (ll_s (ll_s (ll_s (ll_s (ll_s (ll_s (ll_s (ll_s (ll_s (ll_n ll_e)))))))))) (hb h_4456 s_4456 R_4456 (ms1 + ms0) (w32 (xs1 + xs0)) (ti_add ps1 ps0) (m8 + (1 : Int32)) (w32 (x8 + 1)) (ti_add p8 L32_1) e)
def FX12_drawn_l86 (N : Nat) (q0 : Nat) (x1 : Int) (x2 : Int) (x3 : Int) (x4 : Int) (x5 : Int) (x6 : Int) (kx : iv_M → Int → Option (Int × iv_M)) : Nat → iv_M → Int → Int → Option (Int × iv_M)
  | 0, _, _, _ => none
  | n + 1, s, x7, x8 => (if x1 ≤ x8 then (kx s x7) else ((FX12_drawnNights N s q0 x2).bind fun r_4447 => (fun (v_4447 : Int) (s_4448 : iv_M) => (if x5 = 0 then ((FX12_mismatches N s_4448 q0).bind fun r_4453 => (fun (v_4453 : Int) (s_4454 : iv_M) => (FX12_drawn_b139 N s_4454 q0 x1 x2 x3 x4 x5 x6 x8 v_4453 x7 (FX12_drawn_l86 N q0 x1 x2 x3 x4 x5 x6 kx n) kx)) r_4453.1 r_4453.2) else (if x5 = 2 then (FX12_drawn_b139 N s_4448 q0 x1 x2 x3 x4 x5 x6 x8 v_4447 x7 (FX12_drawn_l86 N q0 x1 x2 x3 x4 x5 x6 kx n) kx) else ((FX12_areDoorToDoor N s_4448 q0 x3 x4).bind fun v_4451 => (if v_4451 = 0 then (FX12_drawn_b139 N s_4448 q0 x1 x2 x3 x4 x5 x6 x8 0 x7 (FX12_drawn_l86 N q0 x1 x2 x3 x4 x5 x6 kx n) kx) else (FX12_drawn_b139 N s_4448 q0 x1 x2 x3 x4 x5 x6 x8 1 x7 (FX12_drawn_l86 N q0 x1 x2 x3 x4 x5 x6 kx n) kx)))))) r_4447.1 r_4447.2))
set_option maxRecDepth 10000 in
set_option maxHeartbeats 4000000 in
theorem RX12_drawn_l86 {d N nc Ls : Nat} {Xs : Nat → Int32} (hd : 10 ≤ d) {q0 : Nat} (t0 : T12 nc q0) {m1 : Int32} {x1 : Int} (p1 : m1.toInt = x1) {m2 : Int32} {x2 : Int} (p2 : m2.toInt = x2) {m3 : Int32} {x3 : Int} (p3 : m3.toInt = x3) {m4 : Int32} {x4 : Int} (p4 : m4.toInt = x4) {m5 : Int32} {x5 : Int} (p5 : m5.toInt = x5) {m6 : Int32} {x6 : Int} (p6 : m6.toInt = x6) {kx : iv_M → Int → Option (Int × iv_M)} {r : Int × iv_M} {Q : Option Value → iv_H → Prop} (hk : ∀ (h : iv_H) (s : iv_M) (hR : Rep nc Ls Xs h s) (m7 : Int32) (x7 : Int) (p7 : m7.toInt = x7), kx s x7 = some r → Rn d 343 (some .int) 157 [some (.ref q0), none, none, none, none, none, some (.int m6), some (.int m7), none, none] [] h Q) (hq : ∀ (z : Int32) (h1 : iv_H), z.toInt = r.1 → Rep nc Ls Xs h1 r.2 → Q (some (.int z)) h1) : ∀ (n : Nat) (h : iv_H) (s : iv_M) (hR : Rep nc Ls Xs h s) (m7 : Int32) (x7 : Int) (p7 : m7.toInt = x7) (m8 : Int32) (x8 : Int) (p8 : m8.toInt = x8), FX12_drawn_l86 N q0 x1 x2 x3 x4 x5 x6 kx n s x7 x8 = some r → Rn d 343 (some .int) 86 [some (.ref q0), some (.int m1), some (.int m2), some (.int m3), some (.int m4), some (.int m5), some (.int m6), some (.int m7), some (.int m8), none] [] h Q := by
  have hT := hX12_drawn
  intro n
  induction n with
  | zero =>
    intro h s hR m7 x7 p7 m8 x8 p8 e
    rw [FX12_drawn_l86] at e
    cases e
  | succ n ih =>
    intro h s hR m7 x7 p7 m8 x8 p8 e
    rw [FX12_drawn_l86] at e
    refine Rn.n hT 2 (pc' := 89) (L' := [some (.ref q0), some (.int m1), some (.int m2), some (.int m3), some (.int m4), some (.int m5), some (.int m6), some (.int m7), some (.int m8), none]) (st' := [.int m1, .int m8]) rfl ?_
    by_cases c_4446 : x1 ≤ x8
    · rw [if_pos c_4446] at e
      refine Rn.bt hT rfl rfl rfl (decide_eq_true ((ti_le p1 p8).mpr c_4446)) ?_
      exact Rn.weak (ll_s (ll_n (ll_n (ll_n (ll_n (ll_n (ll_s (ll_s (ll_n (ll_n ll_e)))))))))) (hk h s hR m7 x7 p7 e)
    · rw [if_neg c_4446] at e
      refine Rn.bf hT rfl rfl rfl (decide_eq_false (fun z => c_4446 ((ti_le p1 p8).mp z))) ?_
      refine Rn.n hT 2 (pc' := 94) (L' := [some (.ref q0), some (.int m1), some (.int m2), some (.int m3), some (.int m4), some (.int m5), some (.int m6), some (.int m7), some (.int m8), none]) (st' := [.int m2, .ref q0]) rfl ?_
      obtain ⟨⟨v_4447, s_4448⟩, e_4447, e⟩ := Option.bind_eq_some_iff.mp e
      try dsimp only at e
      try dsimp only at e
      refine Rn.call hT rfl rfl rfl (Nat.le_of_ble_eq_true rfl) (rcv_v gX12_drawnNights (by omega) (rp_ck hR (T12_o t0))) (RX12_drawnNights (by omega) hR t0 p2 e_4447 (fun z_4447 h_4448 p_4447 R_4448 => ?_))
      show Rn d _ _ 97 [some (.ref q0), some (.int m1), some (.int m2), some (.int m3), some (.int m4), some (.int m5), some (.int m6), some (.int m7), some (.int m8), none] [.int z_4447] h_4448 Q
      refine Rn.n hT 3 (pc' := 103) (L' := [some (.ref q0), some (.int m1), some (.int m2), some (.int m3), some (.int m4), some (.int m5), some (.int m6), some (.int m7), some (.int m8), some (.int z_4447)]) (st' := [.int m5, .int m7]) rfl ?_
      by_cases c_4449 : x5 = 0
      · rw [if_pos c_4449] at e
        refine Rn.bf hT rfl rfl rfl (decide_eq_false (fun z => z ((ti_e p5 L32_0).mpr c_4449))) ?_
        refine Rn.n hT 1 (pc' := 107) (L' := [some (.ref q0), some (.int m1), some (.int m2), some (.int m3), some (.int m4), some (.int m5), some (.int m6), some (.int m7), some (.int m8), some (.int z_4447)]) (st' := [.ref q0, .int m7]) rfl ?_
        obtain ⟨⟨v_4453, s_4454⟩, e_4453, e⟩ := Option.bind_eq_some_iff.mp e
        try dsimp only at e
        try dsimp only at e
        refine Rn.call hT rfl rfl rfl (Nat.le_of_ble_eq_true rfl) (rcv_v gX12_mismatches (by omega) (rp_ck R_4448 (T12_o t0))) (RX12_mismatches (by omega) R_4448 t0 e_4453 (fun z_4453 h_4454 p_4453 R_4454 => ?_))
        show Rn d _ _ 110 [some (.ref q0), some (.int m1), some (.int m2), some (.int m3), some (.int m4), some (.int m5), some (.int m6), some (.int m7), some (.int m8), some (.int z_4447)] [.int z_4453, .int m7] h_4454 Q
        refine Rn.n hT 1 (pc' := 139) (L' := [some (.ref q0), some (.int m1), some (.int m2), some (.int m3), some (.int m4), some (.int m5), some (.int m6), some (.int m7), some (.int m8), some (.int z_4447)]) (st' := [.int z_4453, .int m7]) rfl ?_
        exact Rn.weak (ll_s (ll_s (ll_s (ll_s (ll_s (ll_s (ll_s (ll_n (ll_s (ll_n ll_e)))))))))) (RX12_drawn_b139 hd R_4454 t0 p1 p2 p3 p4 p5 p6 p8 p_4453 p7 ih hk hq e)
      · rw [if_neg c_4449] at e
        refine Rn.bt hT rfl rfl rfl (decide_eq_true (fun z => c_4449 ((ti_e p5 L32_0).mp z))) ?_
        refine Rn.n hT 2 (pc' := 116) (L' := [some (.ref q0), some (.int m1), some (.int m2), some (.int m3), some (.int m4), some (.int m5), some (.int m6), some (.int m7), some (.int m8), some (.int z_4447)]) (st' := [.int (2 : Int32), .int m5, .int m7]) rfl ?_
        by_cases c_4450 : x5 = 2
        · rw [if_pos c_4450] at e
          refine Rn.bf hT rfl rfl rfl (decide_eq_false (fun z => z ((ti_e p5 L32_2).mpr c_4450))) ?_
          refine Rn.n hT 2 (pc' := 139) (L' := [some (.ref q0), some (.int m1), some (.int m2), some (.int m3), some (.int m4), some (.int m5), some (.int m6), some (.int m7), some (.int m8), some (.int z_4447)]) (st' := [.int z_4447, .int m7]) rfl ?_
          exact Rn.weak (ll_s (ll_s (ll_s (ll_s (ll_s (ll_s (ll_s (ll_n (ll_s (ll_n ll_e)))))))))) (RX12_drawn_b139 hd R_4448 t0 p1 p2 p3 p4 p5 p6 p8 p_4447 p7 ih hk hq e)
        · rw [if_neg c_4450] at e
          refine Rn.bt hT rfl rfl rfl (decide_eq_true (fun z => c_4450 ((ti_e p5 L32_2).mp z))) ?_
          refine Rn.n hT 3 (pc' := 128) (L' := [some (.ref q0), some (.int m1), some (.int m2), some (.int m3), some (.int m4), some (.int m5), some (.int m6), some (.int m7), some (.int m8), some (.int z_4447)]) (st' := [.int m4, .int m3, .ref q0, .int m7]) rfl ?_
          obtain ⟨v_4451, e_4451, e⟩ := Option.bind_eq_some_iff.mp e
          refine Rn.call hT rfl rfl rfl (Nat.le_of_ble_eq_true rfl) (rcv_v gX12_areDoorToDoor (by omega) (rp_ck R_4448 (T12_o t0))) (RX12_areDoorToDoor (by omega) R_4448 t0 p3 p4 e_4451 (fun z_4451 p_4451 => ?_))
          show Rn d _ _ 131 [some (.ref q0), some (.int m1), some (.int m2), some (.int m3), some (.int m4), some (.int m5), some (.int m6), some (.int m7), some (.int m8), some (.int z_4447)] [.int z_4451, .int m7] h_4448 Q
          by_cases c_4452 : v_4451 = 0
          · rw [if_pos c_4452] at e
            refine Rn.bt hT rfl rfl rfl (decide_eq_true ((ti_e p_4451 L32_0).mpr c_4452)) ?_
            refine Rn.n hT 1 (pc' := 139) (L' := [some (.ref q0), some (.int m1), some (.int m2), some (.int m3), some (.int m4), some (.int m5), some (.int m6), some (.int m7), some (.int m8), some (.int z_4447)]) (st' := [.int (0 : Int32), .int m7]) rfl ?_
            exact Rn.weak (ll_s (ll_s (ll_s (ll_s (ll_s (ll_s (ll_s (ll_n (ll_s (ll_n ll_e)))))))))) (RX12_drawn_b139 hd R_4448 t0 p1 p2 p3 p4 p5 p6 p8 L32_0 p7 ih hk hq e)
          · rw [if_neg c_4452] at e
            refine Rn.bf hT rfl rfl rfl (decide_eq_false (fun z => c_4452 ((ti_e p_4451 L32_0).mp z))) ?_
            refine Rn.n hT 2 (pc' := 139) (L' := [some (.ref q0), some (.int m1), some (.int m2), some (.int m3), some (.int m4), some (.int m5), some (.int m6), some (.int m7), some (.int m8), some (.int z_4447)]) (st' := [.int (1 : Int32), .int m7]) rfl ?_
            exact Rn.weak (ll_s (ll_s (ll_s (ll_s (ll_s (ll_s (ll_s (ll_n (ll_s (ll_n ll_e)))))))))) (RX12_drawn_b139 hd R_4448 t0 p1 p2 p3 p4 p5 p6 p8 L32_1 p7 ih hk hq e)
def FX12_drawn (N : Nat) (s : iv_M) (q0 : Nat) (x1 : Int) (x2 : Int) (x3 : Int) (x4 : Int) (x5 : Int) : Option (Int × iv_M) := ((FX12_in N s x1 1 10).bind fun v_4428 => (if v_4428 = 0 then (FX12_drawn_b60 N s) else ((FX12_in N s x2 1 60).bind fun v_4430 => (if v_4430 = 0 then (FX12_drawn_b60 N s) else ((FX12_isRoom N s q0 x3).bind fun v_4432 => (if v_4432 = 0 then (FX12_drawn_b60 N s) else ((FX12_isRoom N s q0 x4).bind fun v_4434 => (if v_4434 = 0 then (FX12_drawn_b60 N s) else (if x3 = x4 then (FX12_drawn_b60 N s) else ((FX12_in N s x5 0 2).bind fun v_4437 => (if v_4437 = 0 then (FX12_drawn_b60 N s) else ((rd s (q0 + 1) 14 13).bind fun v_4439 => ((FX12_fillsFloor N s q0 (q0 + 41) 0).bind fun s_4441 => (FX12_drawn_l86 N q0 x1 x2 x3 x4 x5 v_4439 (fun (s_4442 : iv_M) (x4443_7 : Int) => ((wr s_4442 (q0 + 1) 14 13 v_4439).bind fun s_4444 => (some (x4443_7, s_4444)))) N s_4441 0 0))))))))))))))
set_option maxRecDepth 10000 in
set_option maxHeartbeats 4000000 in
theorem RX12_drawn {d N nc Ls : Nat} {Xs : Nat → Int32} (hd : 11 ≤ d) {h : iv_H} {s : iv_M} (hR : Rep nc Ls Xs h s) {q0 : Nat} (t0 : T12 nc q0) {m1 : Int32} {x1 : Int} (p1 : m1.toInt = x1) {m2 : Int32} {x2 : Int} (p2 : m2.toInt = x2) {m3 : Int32} {x3 : Int} (p3 : m3.toInt = x3) {m4 : Int32} {x4 : Int} (p4 : m4.toInt = x4) {m5 : Int32} {x5 : Int} (p5 : m5.toInt = x5) {r : Int × iv_M} {Q : Option Value → iv_H → Prop} (e : FX12_drawn N s q0 x1 x2 x3 x4 x5 = some r) (hq : ∀ (z : Int32) (h1 : iv_H), z.toInt = r.1 → Rep nc Ls Xs h1 r.2 → Q (some (.int z)) h1) : Cl d 343 [.ref q0, .int m1, .int m2, .int m3, .int m4, .int m5] h Q := by
  obtain ⟨d, rfl⟩ : ∃ k, d = k + 1 := ⟨d - 1, by omega⟩
  have hd : 10 ≤ d := by omega
  have hT := hX12_drawn
  unfold FX12_drawn at e
  refine Cl.into (by decide) gX12_drawn rfl ?_
  show Rn d 343 (some .int) 0 [some (.ref q0), some (.int m1), some (.int m2), some (.int m3), some (.int m4), some (.int m5), none, none, none, none] [] h Q
  refine Rn.n hT 4 (pc' := 6) (L' := [some (.ref q0), some (.int m1), some (.int m2), some (.int m3), some (.int m4), some (.int m5), none, none, none, none]) (st' := [.long (10 : Int64), .long (1 : Int64), .long ((m1).toInt64)]) rfl ?_
  obtain ⟨v_4428, e_4428, e⟩ := Option.bind_eq_some_iff.mp e
  refine Rn.call hT rfl rfl rfl (Nat.le_of_ble_eq_true rfl) rfl (RX12_in (by omega) hR (ti_j p1) L64_1 L64_10 e_4428 (fun z_4428 p_4428 => ?_))
  show Rn d _ _ 9 [some (.ref q0), some (.int m1), some (.int m2), some (.int m3), some (.int m4), some (.int m5), none, none, none, none] [.int z_4428] h Q
  by_cases c_4429 : v_4428 = 0
  · rw [if_pos c_4429] at e
    refine Rn.bt hT rfl rfl rfl (decide_eq_true ((ti_e p_4428 L32_0).mpr c_4429)) ?_
    exact Rn.weak (ll_n (ll_n (ll_n (ll_n (ll_n (ll_n (ll_n (ll_n (ll_n (ll_n ll_e)))))))))) (RX12_drawn_b60 hd hR hq e)
  · rw [if_neg c_4429] at e
    refine Rn.bf hT rfl rfl rfl (decide_eq_false (fun z => c_4429 ((ti_e p_4428 L32_0).mp z))) ?_
    refine Rn.n hT 4 (pc' := 18) (L' := [some (.ref q0), some (.int m1), some (.int m2), some (.int m3), some (.int m4), some (.int m5), none, none, none, none]) (st' := [.long (60 : Int64), .long (1 : Int64), .long ((m2).toInt64)]) rfl ?_
    obtain ⟨v_4430, e_4430, e⟩ := Option.bind_eq_some_iff.mp e
    refine Rn.call hT rfl rfl rfl (Nat.le_of_ble_eq_true rfl) rfl (RX12_in (by omega) hR (ti_j p2) L64_1 L64_60 e_4430 (fun z_4430 p_4430 => ?_))
    show Rn d _ _ 21 [some (.ref q0), some (.int m1), some (.int m2), some (.int m3), some (.int m4), some (.int m5), none, none, none, none] [.int z_4430] h Q
    by_cases c_4431 : v_4430 = 0
    · rw [if_pos c_4431] at e
      refine Rn.bt hT rfl rfl rfl (decide_eq_true ((ti_e p_4430 L32_0).mpr c_4431)) ?_
      exact Rn.weak (ll_n (ll_n (ll_n (ll_n (ll_n (ll_n (ll_n (ll_n (ll_n (ll_n ll_e)))))))))) (RX12_drawn_b60 hd hR hq e)
    · rw [if_neg c_4431] at e
      refine Rn.bf hT rfl rfl rfl (decide_eq_false (fun z => c_4431 ((ti_e p_4430 L32_0).mp z))) ?_
      refine Rn.n hT 2 (pc' := 26) (L' := [some (.ref q0), some (.int m1), some (.int m2), some (.int m3), some (.int m4), some (.int m5), none, none, none, none]) (st' := [.int m3, .ref q0]) rfl ?_
      obtain ⟨v_4432, e_4432, e⟩ := Option.bind_eq_some_iff.mp e
      refine Rn.call hT rfl rfl rfl (Nat.le_of_ble_eq_true rfl) (rcv_v gX12_isRoom (by omega) (rp_ck hR (T12_o t0))) (RX12_isRoom (by omega) hR t0 p3 e_4432 (fun z_4432 p_4432 => ?_))
      show Rn d _ _ 29 [some (.ref q0), some (.int m1), some (.int m2), some (.int m3), some (.int m4), some (.int m5), none, none, none, none] [.int z_4432] h Q
      by_cases c_4433 : v_4432 = 0
      · rw [if_pos c_4433] at e
        refine Rn.bt hT rfl rfl rfl (decide_eq_true ((ti_e p_4432 L32_0).mpr c_4433)) ?_
        exact Rn.weak (ll_n (ll_n (ll_n (ll_n (ll_n (ll_n (ll_n (ll_n (ll_n (ll_n ll_e)))))))))) (RX12_drawn_b60 hd hR hq e)
      · rw [if_neg c_4433] at e
        refine Rn.bf hT rfl rfl rfl (decide_eq_false (fun z => c_4433 ((ti_e p_4432 L32_0).mp z))) ?_
        refine Rn.n hT 2 (pc' := 35) (L' := [some (.ref q0), some (.int m1), some (.int m2), some (.int m3), some (.int m4), some (.int m5), none, none, none, none]) (st' := [.int m4, .ref q0]) rfl ?_
        obtain ⟨v_4434, e_4434, e⟩ := Option.bind_eq_some_iff.mp e
        refine Rn.call hT rfl rfl rfl (Nat.le_of_ble_eq_true rfl) (rcv_v gX12_isRoom (by omega) (rp_ck hR (T12_o t0))) (RX12_isRoom (by omega) hR t0 p4 e_4434 (fun z_4434 p_4434 => ?_))
        show Rn d _ _ 38 [some (.ref q0), some (.int m1), some (.int m2), some (.int m3), some (.int m4), some (.int m5), none, none, none, none] [.int z_4434] h Q
        by_cases c_4435 : v_4434 = 0
        · rw [if_pos c_4435] at e
          refine Rn.bt hT rfl rfl rfl (decide_eq_true ((ti_e p_4434 L32_0).mpr c_4435)) ?_
          exact Rn.weak (ll_n (ll_n (ll_n (ll_n (ll_n (ll_n (ll_n (ll_n (ll_n (ll_n ll_e)))))))))) (RX12_drawn_b60 hd hR hq e)
        · rw [if_neg c_4435] at e
          refine Rn.bf hT rfl rfl rfl (decide_eq_false (fun z => c_4435 ((ti_e p_4434 L32_0).mp z))) ?_
          refine Rn.n hT 2 (pc' := 44) (L' := [some (.ref q0), some (.int m1), some (.int m2), some (.int m3), some (.int m4), some (.int m5), none, none, none, none]) (st' := [.int m4, .int m3]) rfl ?_
          by_cases c_4436 : x3 = x4
          · rw [if_pos c_4436] at e
            refine Rn.bt hT rfl rfl rfl (decide_eq_true ((ti_e p3 p4).mpr c_4436)) ?_
            exact Rn.weak (ll_n (ll_n (ll_n (ll_n (ll_n (ll_n (ll_n (ll_n (ll_n (ll_n ll_e)))))))))) (RX12_drawn_b60 hd hR hq e)
          · rw [if_neg c_4436] at e
            refine Rn.bf hT rfl rfl rfl (decide_eq_false (fun z => c_4436 ((ti_e p3 p4).mp z))) ?_
            refine Rn.n hT 4 (pc' := 54) (L' := [some (.ref q0), some (.int m1), some (.int m2), some (.int m3), some (.int m4), some (.int m5), none, none, none, none]) (st' := [.long (2 : Int64), .long (0 : Int64), .long ((m5).toInt64)]) rfl ?_
            obtain ⟨v_4437, e_4437, e⟩ := Option.bind_eq_some_iff.mp e
            refine Rn.call hT rfl rfl rfl (Nat.le_of_ble_eq_true rfl) rfl (RX12_in (by omega) hR (ti_j p5) L64_0 L64_2 e_4437 (fun z_4437 p_4437 => ?_))
            show Rn d _ _ 57 [some (.ref q0), some (.int m1), some (.int m2), some (.int m3), some (.int m4), some (.int m5), none, none, none, none] [.int z_4437] h Q
            by_cases c_4438 : v_4437 = 0
            · rw [if_pos c_4438] at e
              refine Rn.bf hT rfl rfl rfl (decide_eq_false (fun z => z ((ti_e p_4437 L32_0).mpr c_4438))) ?_
              exact Rn.weak (ll_n (ll_n (ll_n (ll_n (ll_n (ll_n (ll_n (ll_n (ll_n (ll_n ll_e)))))))))) (RX12_drawn_b60 hd hR hq e)
            · rw [if_neg c_4438] at e
              refine Rn.bt hT rfl rfl rfl (decide_eq_true (fun z => c_4438 ((ti_e p_4437 L32_0).mp z))) ?_
              refine Rn.n hT 1 (pc' := 63) (L' := [some (.ref q0), some (.int m1), some (.int m2), some (.int m3), some (.int m4), some (.int m5), none, none, none, none]) (st' := [.ref q0]) rfl ?_
              refine Rn.hp hT rfl rfl (gR_hp (rp_gR hR (T12_o t0) rfl)) ?_
              refine Rn.n hT 1 (pc' := 68) (L' := [some (.ref q0), some (.int m1), some (.int m2), some (.int m3), some (.int m4), some (.int m5), none, none, none, none]) (st' := [.int (13 : Int32), .ref (q0 + 1)]) rfl ?_
              obtain ⟨v_4439, e_4439, e⟩ := Option.bind_eq_some_iff.mp e
              obtain ⟨z_4439, g_4439, p_4439⟩ := rp_aI hR (T12_1 t0) (T12_1l t0) L32_13 e_4439
              refine Rn.hp hT rfl rfl (aI_hp g_4439) ?_
              refine Rn.n hT 5 (pc' := 76) (L' := [some (.ref q0), some (.int m1), some (.int m2), some (.int m3), some (.int m4), some (.int m5), some (.int z_4439), some (.int (0 : Int32)), none, none]) (st' := [.ref q0, .ref q0]) rfl ?_
              refine Rn.hp hT rfl rfl (gR_hp (rp_gR hR (T12_o t0) rfl)) ?_
              refine Rn.n hT 1 (pc' := 80) (L' := [some (.ref q0), some (.int m1), some (.int m2), some (.int m3), some (.int m4), some (.int m5), some (.int z_4439), some (.int (0 : Int32)), none, none]) (st' := [.int (0 : Int32), .ref (q0 + 41), .ref q0]) rfl ?_
              obtain ⟨s_4441, e_4440, e⟩ := Option.bind_eq_some_iff.mp e
              refine Rn.call hT rfl rfl rfl (Nat.le_of_ble_eq_true rfl) (rcv_v gX12_fillsFloor (by omega) (rp_ck hR (T12_o t0))) (RX12_fillsFloor (by omega) hR t0 (T12_55 t0) L32_0 e_4440 (fun h_4441 R_4441 => ?_))
              show Rn d _ _ 83 [some (.ref q0), some (.int m1), some (.int m2), some (.int m3), some (.int m4), some (.int m5), some (.int z_4439), some (.int (0 : Int32)), none, none] [] h_4441 Q
              refine Rn.n hT 2 (pc' := 86) (L' := [some (.ref q0), some (.int m1), some (.int m2), some (.int m3), some (.int m4), some (.int m5), some (.int z_4439), some (.int (0 : Int32)), some (.int (0 : Int32)), none]) (st' := []) rfl ?_
              refine Rn.weak (ll_s (ll_s (ll_s (ll_s (ll_s (ll_s (ll_s (ll_s (ll_s (ll_n ll_e)))))))))) (RX12_drawn_l86 hd t0 p1 p2 p3 p4 p5 p_4439 (fun h_4442 s_4442 R_4442 m4443_7 x4443_7 p4443_7 e => ?_) hq N h_4441 s_4441 R_4441 (0 : Int32) 0 L32_0 (0 : Int32) 0 L32_0 e)
              try dsimp only at e
              refine Rn.n hT 1 (pc' := 158) (L' := [some (.ref q0), none, none, none, none, none, some (.int z_4439), some (.int m4443_7), none, none]) (st' := [.ref q0]) rfl ?_
              refine Rn.hp hT rfl rfl (gR_hp (rp_gR R_4442 (T12_o t0) rfl)) ?_
              refine Rn.n hT 2 (pc' := 165) (L' := [some (.ref q0), none, none, none, none, none, some (.int z_4439), some (.int m4443_7), none, none]) (st' := [.int z_4439, .int (13 : Int32), .ref (q0 + 1)]) rfl ?_
              obtain ⟨s_4444, e_4445, e⟩ := Option.bind_eq_some_iff.mp e
              obtain ⟨h_4444, g_4445, R_4444⟩ := rp_wI R_4442 (T12_1 t0) (T12_1l t0) L32_13 p_4439 e_4445
              refine Rn.hp hT rfl rfl (wI_hp g_4445) ?_
              refine Rn.n hT 1 (pc' := 168) (L' := [some (.ref q0), none, none, none, none, none, some (.int z_4439), some (.int m4443_7), none, none]) (st' := [.int m4443_7]) rfl ?_
              obtain rfl := Option.some.inj e
              exact Rn.ret hT rfl rfl rfl (hq m4443_7 h_4444 p4443_7 R_4444)
set_option maxRecDepth 10000 in
theorem hX12_count : iv_Tb 344 tX12_count := iv_tb_of (m := mX12_count) rfl
set_option maxRecDepth 10000 in
theorem gX12_count : PG.2 344 = some mX12_count := iv_pi_of (t := tX12_count) rfl (by decide)
def FX12_count (N : Nat) (s : iv_M) (q0 : Nat) (x1 : Int) : Option (Int) := (if x1 = 0 then ((rd s (q0 + 1) 14 0).bind fun v_4458 => (some v_4458)) else (if x1 = 1 then ((rd s (q0 + 1) 14 1).bind fun v_4460 => (some v_4460)) else (if x1 = 2 then ((rd s (q0 + 1) 14 2).bind fun v_4462 => (some v_4462)) else (if x1 = 3 then ((rd s (q0 + 1) 14 3).bind fun v_4464 => (some v_4464)) else (if x1 = 4 then ((rd s (q0 + 1) 14 4).bind fun v_4466 => (some v_4466)) else (if x1 = 5 then ((rd s (q0 + 1) 14 5).bind fun v_4468 => (some v_4468)) else (if x1 = 6 then (some (s q0 32)) else (if x1 = 7 then ((rd s (q0 + 1) 14 12).bind fun v_4472 => (some v_4472)) else (if x1 = 8 then ((rd s (q0 + 1) 14 6).bind fun v_4474 => (some v_4474)) else (if x1 = 9 then ((rd s (q0 + 1) 14 7).bind fun v_4476 => (some v_4476)) else (if x1 = 10 then ((rd s (q0 + 1) 14 8).bind fun v_4478 => (some v_4478)) else (if x1 = 11 then ((rd s (q0 + 1) 14 9).bind fun v_4480 => (some v_4480)) else (if x1 = 12 then ((rd s (q0 + 1) 14 10).bind fun v_4482 => (some v_4482)) else (if x1 = 13 then ((rd s (q0 + 1) 14 13).bind fun v_4484 => (some v_4484)) else (if x1 = 14 then (some (s q0 28)) else (if x1 = 15 then ((FX12_emptyMany N s q0).bind fun v_4488 => (some v_4488)) else (if x1 = 16 then ((rd s (q0 + 1) 14 11).bind fun v_4490 => (some v_4490)) else (some (-1)))))))))))))))))))
set_option maxRecDepth 10000 in
set_option maxHeartbeats 4000000 in
theorem RX12_count {d N nc Ls : Nat} {Xs : Nat → Int32} (hd : 2 ≤ d) {h : iv_H} {s : iv_M} (hR : Rep nc Ls Xs h s) {q0 : Nat} (t0 : T12 nc q0) {m1 : Int32} {x1 : Int} (p1 : m1.toInt = x1) {r : Int} {Q : Option Value → iv_H → Prop} (e : FX12_count N s q0 x1 = some r) (hq : ∀ (z : Int32), z.toInt = r → Q (some (.int z)) h) : Cl d 344 [.ref q0, .int m1] h Q := by
  obtain ⟨d, rfl⟩ : ∃ k, d = k + 1 := ⟨d - 1, by omega⟩
  have hd : 1 ≤ d := by omega
  have hT := hX12_count
  unfold FX12_count at e
  refine Cl.into (by decide) gX12_count rfl ?_
  show Rn d 344 (some .int) 0 [some (.ref q0), some (.int m1)] [] h Q
  refine Rn.n hT 1 (pc' := 1) (L' := [some (.ref q0), some (.int m1)]) (st' := [.int m1]) rfl ?_
  by_cases c_4457 : x1 = 0
  · rw [if_pos c_4457] at e
    refine Rn.sw2 hT rfl rfl rfl (if_pos ((ti_e p1 L32_0).mpr c_4457)) ?_
    refine Rn.n hT 1 (pc' := 85) (L' := [some (.ref q0), some (.int m1)]) (st' := [.ref q0]) rfl ?_
    refine Rn.hp hT rfl rfl (gR_hp (rp_gR hR (T12_o t0) rfl)) ?_
    refine Rn.n hT 1 (pc' := 89) (L' := [some (.ref q0), some (.int m1)]) (st' := [.int (0 : Int32), .ref (q0 + 1)]) rfl ?_
    obtain ⟨v_4458, e_4458, e⟩ := Option.bind_eq_some_iff.mp e
    obtain ⟨z_4458, g_4458, p_4458⟩ := rp_aI hR (T12_1 t0) (T12_1l t0) L32_0 e_4458
    refine Rn.hp hT rfl rfl (aI_hp g_4458) ?_
    obtain rfl := Option.some.inj e
    exact Rn.ret hT rfl rfl rfl (hq z_4458 p_4458)
  · rw [if_neg c_4457] at e
    by_cases c_4459 : x1 = 1
    · rw [if_pos c_4459] at e
      refine Rn.sw2 hT rfl rfl rfl ((if_neg (fun z => c_4457 ((ti_e p1 L32_0).mp z))).trans (if_pos ((ti_e p1 L32_1).mpr c_4459))) ?_
      refine Rn.n hT 1 (pc' := 92) (L' := [some (.ref q0), some (.int m1)]) (st' := [.ref q0]) rfl ?_
      refine Rn.hp hT rfl rfl (gR_hp (rp_gR hR (T12_o t0) rfl)) ?_
      refine Rn.n hT 1 (pc' := 96) (L' := [some (.ref q0), some (.int m1)]) (st' := [.int (1 : Int32), .ref (q0 + 1)]) rfl ?_
      obtain ⟨v_4460, e_4460, e⟩ := Option.bind_eq_some_iff.mp e
      obtain ⟨z_4460, g_4460, p_4460⟩ := rp_aI hR (T12_1 t0) (T12_1l t0) L32_1 e_4460
      refine Rn.hp hT rfl rfl (aI_hp g_4460) ?_
      obtain rfl := Option.some.inj e
      exact Rn.ret hT rfl rfl rfl (hq z_4460 p_4460)
    · rw [if_neg c_4459] at e
      by_cases c_4461 : x1 = 2
      · rw [if_pos c_4461] at e
        refine Rn.sw2 hT rfl rfl rfl ((if_neg (fun z => c_4457 ((ti_e p1 L32_0).mp z))).trans ((if_neg (fun z => c_4459 ((ti_e p1 L32_1).mp z))).trans (if_pos ((ti_e p1 L32_2).mpr c_4461)))) ?_
        refine Rn.n hT 1 (pc' := 99) (L' := [some (.ref q0), some (.int m1)]) (st' := [.ref q0]) rfl ?_
        refine Rn.hp hT rfl rfl (gR_hp (rp_gR hR (T12_o t0) rfl)) ?_
        refine Rn.n hT 1 (pc' := 103) (L' := [some (.ref q0), some (.int m1)]) (st' := [.int (2 : Int32), .ref (q0 + 1)]) rfl ?_
        obtain ⟨v_4462, e_4462, e⟩ := Option.bind_eq_some_iff.mp e
        obtain ⟨z_4462, g_4462, p_4462⟩ := rp_aI hR (T12_1 t0) (T12_1l t0) L32_2 e_4462
        refine Rn.hp hT rfl rfl (aI_hp g_4462) ?_
        obtain rfl := Option.some.inj e
        exact Rn.ret hT rfl rfl rfl (hq z_4462 p_4462)
      · rw [if_neg c_4461] at e
        by_cases c_4463 : x1 = 3
        · rw [if_pos c_4463] at e
          refine Rn.sw2 hT rfl rfl rfl ((if_neg (fun z => c_4457 ((ti_e p1 L32_0).mp z))).trans ((if_neg (fun z => c_4459 ((ti_e p1 L32_1).mp z))).trans ((if_neg (fun z => c_4461 ((ti_e p1 L32_2).mp z))).trans (if_pos ((ti_e p1 L32_3).mpr c_4463))))) ?_
          refine Rn.n hT 1 (pc' := 106) (L' := [some (.ref q0), some (.int m1)]) (st' := [.ref q0]) rfl ?_
          refine Rn.hp hT rfl rfl (gR_hp (rp_gR hR (T12_o t0) rfl)) ?_
          refine Rn.n hT 1 (pc' := 110) (L' := [some (.ref q0), some (.int m1)]) (st' := [.int (3 : Int32), .ref (q0 + 1)]) rfl ?_
          obtain ⟨v_4464, e_4464, e⟩ := Option.bind_eq_some_iff.mp e
          obtain ⟨z_4464, g_4464, p_4464⟩ := rp_aI hR (T12_1 t0) (T12_1l t0) L32_3 e_4464
          refine Rn.hp hT rfl rfl (aI_hp g_4464) ?_
          obtain rfl := Option.some.inj e
          exact Rn.ret hT rfl rfl rfl (hq z_4464 p_4464)
        · rw [if_neg c_4463] at e
          by_cases c_4465 : x1 = 4
          · rw [if_pos c_4465] at e
            refine Rn.sw2 hT rfl rfl rfl ((if_neg (fun z => c_4457 ((ti_e p1 L32_0).mp z))).trans ((if_neg (fun z => c_4459 ((ti_e p1 L32_1).mp z))).trans ((if_neg (fun z => c_4461 ((ti_e p1 L32_2).mp z))).trans ((if_neg (fun z => c_4463 ((ti_e p1 L32_3).mp z))).trans (if_pos ((ti_e p1 L32_4).mpr c_4465)))))) ?_
            refine Rn.n hT 1 (pc' := 113) (L' := [some (.ref q0), some (.int m1)]) (st' := [.ref q0]) rfl ?_
            refine Rn.hp hT rfl rfl (gR_hp (rp_gR hR (T12_o t0) rfl)) ?_
            refine Rn.n hT 1 (pc' := 117) (L' := [some (.ref q0), some (.int m1)]) (st' := [.int (4 : Int32), .ref (q0 + 1)]) rfl ?_
            obtain ⟨v_4466, e_4466, e⟩ := Option.bind_eq_some_iff.mp e
            obtain ⟨z_4466, g_4466, p_4466⟩ := rp_aI hR (T12_1 t0) (T12_1l t0) L32_4 e_4466
            refine Rn.hp hT rfl rfl (aI_hp g_4466) ?_
            obtain rfl := Option.some.inj e
            exact Rn.ret hT rfl rfl rfl (hq z_4466 p_4466)
          · rw [if_neg c_4465] at e
            by_cases c_4467 : x1 = 5
            · rw [if_pos c_4467] at e
              refine Rn.sw2 hT rfl rfl rfl ((if_neg (fun z => c_4457 ((ti_e p1 L32_0).mp z))).trans ((if_neg (fun z => c_4459 ((ti_e p1 L32_1).mp z))).trans ((if_neg (fun z => c_4461 ((ti_e p1 L32_2).mp z))).trans ((if_neg (fun z => c_4463 ((ti_e p1 L32_3).mp z))).trans ((if_neg (fun z => c_4465 ((ti_e p1 L32_4).mp z))).trans (if_pos ((ti_e p1 L32_5).mpr c_4467))))))) ?_
              refine Rn.n hT 1 (pc' := 120) (L' := [some (.ref q0), some (.int m1)]) (st' := [.ref q0]) rfl ?_
              refine Rn.hp hT rfl rfl (gR_hp (rp_gR hR (T12_o t0) rfl)) ?_
              refine Rn.n hT 1 (pc' := 124) (L' := [some (.ref q0), some (.int m1)]) (st' := [.int (5 : Int32), .ref (q0 + 1)]) rfl ?_
              obtain ⟨v_4468, e_4468, e⟩ := Option.bind_eq_some_iff.mp e
              obtain ⟨z_4468, g_4468, p_4468⟩ := rp_aI hR (T12_1 t0) (T12_1l t0) L32_5 e_4468
              refine Rn.hp hT rfl rfl (aI_hp g_4468) ?_
              obtain rfl := Option.some.inj e
              exact Rn.ret hT rfl rfl rfl (hq z_4468 p_4468)
            · rw [if_neg c_4467] at e
              by_cases c_4469 : x1 = 6
              · rw [if_pos c_4469] at e
                refine Rn.sw2 hT rfl rfl rfl ((if_neg (fun z => c_4457 ((ti_e p1 L32_0).mp z))).trans ((if_neg (fun z => c_4459 ((ti_e p1 L32_1).mp z))).trans ((if_neg (fun z => c_4461 ((ti_e p1 L32_2).mp z))).trans ((if_neg (fun z => c_4463 ((ti_e p1 L32_3).mp z))).trans ((if_neg (fun z => c_4465 ((ti_e p1 L32_4).mp z))).trans ((if_neg (fun z => c_4467 ((ti_e p1 L32_5).mp z))).trans (if_pos ((ti_e p1 L32_6).mpr c_4469)))))))) ?_
                refine Rn.n hT 1 (pc' := 127) (L' := [some (.ref q0), some (.int m1)]) (st' := [.ref q0]) rfl ?_
                obtain ⟨z_4470, g_4470, p_4470⟩ : ∃ z : Int32, gI h 12 32 q0 = some z ∧ z.toInt = s q0 32 := rp_gI (k := 32) hR (T12_o t0) rfl
                refine Rn.hp hT rfl rfl (gI_hp g_4470) ?_
                obtain rfl := Option.some.inj e
                exact Rn.ret hT rfl rfl rfl (hq z_4470 p_4470)
              · rw [if_neg c_4469] at e
                by_cases c_4471 : x1 = 7
                · rw [if_pos c_4471] at e
                  refine Rn.sw2 hT rfl rfl rfl ((if_neg (fun z => c_4457 ((ti_e p1 L32_0).mp z))).trans ((if_neg (fun z => c_4459 ((ti_e p1 L32_1).mp z))).trans ((if_neg (fun z => c_4461 ((ti_e p1 L32_2).mp z))).trans ((if_neg (fun z => c_4463 ((ti_e p1 L32_3).mp z))).trans ((if_neg (fun z => c_4465 ((ti_e p1 L32_4).mp z))).trans ((if_neg (fun z => c_4467 ((ti_e p1 L32_5).mp z))).trans ((if_neg (fun z => c_4469 ((ti_e p1 L32_6).mp z))).trans (if_pos ((ti_e p1 L32_7).mpr c_4471))))))))) ?_
                  refine Rn.n hT 1 (pc' := 132) (L' := [some (.ref q0), some (.int m1)]) (st' := [.ref q0]) rfl ?_
                  refine Rn.hp hT rfl rfl (gR_hp (rp_gR hR (T12_o t0) rfl)) ?_
                  refine Rn.n hT 1 (pc' := 137) (L' := [some (.ref q0), some (.int m1)]) (st' := [.int (12 : Int32), .ref (q0 + 1)]) rfl ?_
                  obtain ⟨v_4472, e_4472, e⟩ := Option.bind_eq_some_iff.mp e
                  obtain ⟨z_4472, g_4472, p_4472⟩ := rp_aI hR (T12_1 t0) (T12_1l t0) L32_12 e_4472
                  refine Rn.hp hT rfl rfl (aI_hp g_4472) ?_
                  obtain rfl := Option.some.inj e
                  exact Rn.ret hT rfl rfl rfl (hq z_4472 p_4472)
                · rw [if_neg c_4471] at e
                  by_cases c_4473 : x1 = 8
                  · rw [if_pos c_4473] at e
                    refine Rn.sw2 hT rfl rfl rfl ((if_neg (fun z => c_4457 ((ti_e p1 L32_0).mp z))).trans ((if_neg (fun z => c_4459 ((ti_e p1 L32_1).mp z))).trans ((if_neg (fun z => c_4461 ((ti_e p1 L32_2).mp z))).trans ((if_neg (fun z => c_4463 ((ti_e p1 L32_3).mp z))).trans ((if_neg (fun z => c_4465 ((ti_e p1 L32_4).mp z))).trans ((if_neg (fun z => c_4467 ((ti_e p1 L32_5).mp z))).trans ((if_neg (fun z => c_4469 ((ti_e p1 L32_6).mp z))).trans ((if_neg (fun z => c_4471 ((ti_e p1 L32_7).mp z))).trans (if_pos ((ti_e p1 L32_8).mpr c_4473)))))))))) ?_
                    refine Rn.n hT 1 (pc' := 140) (L' := [some (.ref q0), some (.int m1)]) (st' := [.ref q0]) rfl ?_
                    refine Rn.hp hT rfl rfl (gR_hp (rp_gR hR (T12_o t0) rfl)) ?_
                    refine Rn.n hT 1 (pc' := 145) (L' := [some (.ref q0), some (.int m1)]) (st' := [.int (6 : Int32), .ref (q0 + 1)]) rfl ?_
                    obtain ⟨v_4474, e_4474, e⟩ := Option.bind_eq_some_iff.mp e
                    obtain ⟨z_4474, g_4474, p_4474⟩ := rp_aI hR (T12_1 t0) (T12_1l t0) L32_6 e_4474
                    refine Rn.hp hT rfl rfl (aI_hp g_4474) ?_
                    obtain rfl := Option.some.inj e
                    exact Rn.ret hT rfl rfl rfl (hq z_4474 p_4474)
                  · rw [if_neg c_4473] at e
                    by_cases c_4475 : x1 = 9
                    · rw [if_pos c_4475] at e
                      refine Rn.sw2 hT rfl rfl rfl ((if_neg (fun z => c_4457 ((ti_e p1 L32_0).mp z))).trans ((if_neg (fun z => c_4459 ((ti_e p1 L32_1).mp z))).trans ((if_neg (fun z => c_4461 ((ti_e p1 L32_2).mp z))).trans ((if_neg (fun z => c_4463 ((ti_e p1 L32_3).mp z))).trans ((if_neg (fun z => c_4465 ((ti_e p1 L32_4).mp z))).trans ((if_neg (fun z => c_4467 ((ti_e p1 L32_5).mp z))).trans ((if_neg (fun z => c_4469 ((ti_e p1 L32_6).mp z))).trans ((if_neg (fun z => c_4471 ((ti_e p1 L32_7).mp z))).trans ((if_neg (fun z => c_4473 ((ti_e p1 L32_8).mp z))).trans (if_pos ((ti_e p1 L32_9).mpr c_4475))))))))))) ?_
                      refine Rn.n hT 1 (pc' := 148) (L' := [some (.ref q0), some (.int m1)]) (st' := [.ref q0]) rfl ?_
                      refine Rn.hp hT rfl rfl (gR_hp (rp_gR hR (T12_o t0) rfl)) ?_
                      refine Rn.n hT 1 (pc' := 153) (L' := [some (.ref q0), some (.int m1)]) (st' := [.int (7 : Int32), .ref (q0 + 1)]) rfl ?_
                      obtain ⟨v_4476, e_4476, e⟩ := Option.bind_eq_some_iff.mp e
                      obtain ⟨z_4476, g_4476, p_4476⟩ := rp_aI hR (T12_1 t0) (T12_1l t0) L32_7 e_4476
                      refine Rn.hp hT rfl rfl (aI_hp g_4476) ?_
                      obtain rfl := Option.some.inj e
                      exact Rn.ret hT rfl rfl rfl (hq z_4476 p_4476)
                    · rw [if_neg c_4475] at e
                      by_cases c_4477 : x1 = 10
                      · rw [if_pos c_4477] at e
                        refine Rn.sw2 hT rfl rfl rfl ((if_neg (fun z => c_4457 ((ti_e p1 L32_0).mp z))).trans ((if_neg (fun z => c_4459 ((ti_e p1 L32_1).mp z))).trans ((if_neg (fun z => c_4461 ((ti_e p1 L32_2).mp z))).trans ((if_neg (fun z => c_4463 ((ti_e p1 L32_3).mp z))).trans ((if_neg (fun z => c_4465 ((ti_e p1 L32_4).mp z))).trans ((if_neg (fun z => c_4467 ((ti_e p1 L32_5).mp z))).trans ((if_neg (fun z => c_4469 ((ti_e p1 L32_6).mp z))).trans ((if_neg (fun z => c_4471 ((ti_e p1 L32_7).mp z))).trans ((if_neg (fun z => c_4473 ((ti_e p1 L32_8).mp z))).trans ((if_neg (fun z => c_4475 ((ti_e p1 L32_9).mp z))).trans (if_pos ((ti_e p1 L32_10).mpr c_4477)))))))))))) ?_
                        refine Rn.n hT 1 (pc' := 156) (L' := [some (.ref q0), some (.int m1)]) (st' := [.ref q0]) rfl ?_
                        refine Rn.hp hT rfl rfl (gR_hp (rp_gR hR (T12_o t0) rfl)) ?_
                        refine Rn.n hT 1 (pc' := 161) (L' := [some (.ref q0), some (.int m1)]) (st' := [.int (8 : Int32), .ref (q0 + 1)]) rfl ?_
                        obtain ⟨v_4478, e_4478, e⟩ := Option.bind_eq_some_iff.mp e
                        obtain ⟨z_4478, g_4478, p_4478⟩ := rp_aI hR (T12_1 t0) (T12_1l t0) L32_8 e_4478
                        refine Rn.hp hT rfl rfl (aI_hp g_4478) ?_
                        obtain rfl := Option.some.inj e
                        exact Rn.ret hT rfl rfl rfl (hq z_4478 p_4478)
                      · rw [if_neg c_4477] at e
                        by_cases c_4479 : x1 = 11
                        · rw [if_pos c_4479] at e
                          refine Rn.sw2 hT rfl rfl rfl ((if_neg (fun z => c_4457 ((ti_e p1 L32_0).mp z))).trans ((if_neg (fun z => c_4459 ((ti_e p1 L32_1).mp z))).trans ((if_neg (fun z => c_4461 ((ti_e p1 L32_2).mp z))).trans ((if_neg (fun z => c_4463 ((ti_e p1 L32_3).mp z))).trans ((if_neg (fun z => c_4465 ((ti_e p1 L32_4).mp z))).trans ((if_neg (fun z => c_4467 ((ti_e p1 L32_5).mp z))).trans ((if_neg (fun z => c_4469 ((ti_e p1 L32_6).mp z))).trans ((if_neg (fun z => c_4471 ((ti_e p1 L32_7).mp z))).trans ((if_neg (fun z => c_4473 ((ti_e p1 L32_8).mp z))).trans ((if_neg (fun z => c_4475 ((ti_e p1 L32_9).mp z))).trans ((if_neg (fun z => c_4477 ((ti_e p1 L32_10).mp z))).trans (if_pos ((ti_e p1 L32_11).mpr c_4479))))))))))))) ?_
                          refine Rn.n hT 1 (pc' := 164) (L' := [some (.ref q0), some (.int m1)]) (st' := [.ref q0]) rfl ?_
                          refine Rn.hp hT rfl rfl (gR_hp (rp_gR hR (T12_o t0) rfl)) ?_
                          refine Rn.n hT 1 (pc' := 169) (L' := [some (.ref q0), some (.int m1)]) (st' := [.int (9 : Int32), .ref (q0 + 1)]) rfl ?_
                          obtain ⟨v_4480, e_4480, e⟩ := Option.bind_eq_some_iff.mp e
                          obtain ⟨z_4480, g_4480, p_4480⟩ := rp_aI hR (T12_1 t0) (T12_1l t0) L32_9 e_4480
                          refine Rn.hp hT rfl rfl (aI_hp g_4480) ?_
                          obtain rfl := Option.some.inj e
                          exact Rn.ret hT rfl rfl rfl (hq z_4480 p_4480)
                        · rw [if_neg c_4479] at e
                          by_cases c_4481 : x1 = 12
                          · rw [if_pos c_4481] at e
                            refine Rn.sw2 hT rfl rfl rfl ((if_neg (fun z => c_4457 ((ti_e p1 L32_0).mp z))).trans ((if_neg (fun z => c_4459 ((ti_e p1 L32_1).mp z))).trans ((if_neg (fun z => c_4461 ((ti_e p1 L32_2).mp z))).trans ((if_neg (fun z => c_4463 ((ti_e p1 L32_3).mp z))).trans ((if_neg (fun z => c_4465 ((ti_e p1 L32_4).mp z))).trans ((if_neg (fun z => c_4467 ((ti_e p1 L32_5).mp z))).trans ((if_neg (fun z => c_4469 ((ti_e p1 L32_6).mp z))).trans ((if_neg (fun z => c_4471 ((ti_e p1 L32_7).mp z))).trans ((if_neg (fun z => c_4473 ((ti_e p1 L32_8).mp z))).trans ((if_neg (fun z => c_4475 ((ti_e p1 L32_9).mp z))).trans ((if_neg (fun z => c_4477 ((ti_e p1 L32_10).mp z))).trans ((if_neg (fun z => c_4479 ((ti_e p1 L32_11).mp z))).trans (if_pos ((ti_e p1 L32_12).mpr c_4481)))))))))))))) ?_
                            refine Rn.n hT 1 (pc' := 172) (L' := [some (.ref q0), some (.int m1)]) (st' := [.ref q0]) rfl ?_
                            refine Rn.hp hT rfl rfl (gR_hp (rp_gR hR (T12_o t0) rfl)) ?_
                            refine Rn.n hT 1 (pc' := 177) (L' := [some (.ref q0), some (.int m1)]) (st' := [.int (10 : Int32), .ref (q0 + 1)]) rfl ?_
                            obtain ⟨v_4482, e_4482, e⟩ := Option.bind_eq_some_iff.mp e
                            obtain ⟨z_4482, g_4482, p_4482⟩ := rp_aI hR (T12_1 t0) (T12_1l t0) L32_10 e_4482
                            refine Rn.hp hT rfl rfl (aI_hp g_4482) ?_
                            obtain rfl := Option.some.inj e
                            exact Rn.ret hT rfl rfl rfl (hq z_4482 p_4482)
                          · rw [if_neg c_4481] at e
                            by_cases c_4483 : x1 = 13
                            · rw [if_pos c_4483] at e
                              refine Rn.sw2 hT rfl rfl rfl ((if_neg (fun z => c_4457 ((ti_e p1 L32_0).mp z))).trans ((if_neg (fun z => c_4459 ((ti_e p1 L32_1).mp z))).trans ((if_neg (fun z => c_4461 ((ti_e p1 L32_2).mp z))).trans ((if_neg (fun z => c_4463 ((ti_e p1 L32_3).mp z))).trans ((if_neg (fun z => c_4465 ((ti_e p1 L32_4).mp z))).trans ((if_neg (fun z => c_4467 ((ti_e p1 L32_5).mp z))).trans ((if_neg (fun z => c_4469 ((ti_e p1 L32_6).mp z))).trans ((if_neg (fun z => c_4471 ((ti_e p1 L32_7).mp z))).trans ((if_neg (fun z => c_4473 ((ti_e p1 L32_8).mp z))).trans ((if_neg (fun z => c_4475 ((ti_e p1 L32_9).mp z))).trans ((if_neg (fun z => c_4477 ((ti_e p1 L32_10).mp z))).trans ((if_neg (fun z => c_4479 ((ti_e p1 L32_11).mp z))).trans ((if_neg (fun z => c_4481 ((ti_e p1 L32_12).mp z))).trans (if_pos ((ti_e p1 L32_13).mpr c_4483))))))))))))))) ?_
                              refine Rn.n hT 1 (pc' := 180) (L' := [some (.ref q0), some (.int m1)]) (st' := [.ref q0]) rfl ?_
                              refine Rn.hp hT rfl rfl (gR_hp (rp_gR hR (T12_o t0) rfl)) ?_
                              refine Rn.n hT 1 (pc' := 185) (L' := [some (.ref q0), some (.int m1)]) (st' := [.int (13 : Int32), .ref (q0 + 1)]) rfl ?_
                              obtain ⟨v_4484, e_4484, e⟩ := Option.bind_eq_some_iff.mp e
                              obtain ⟨z_4484, g_4484, p_4484⟩ := rp_aI hR (T12_1 t0) (T12_1l t0) L32_13 e_4484
                              refine Rn.hp hT rfl rfl (aI_hp g_4484) ?_
                              obtain rfl := Option.some.inj e
                              exact Rn.ret hT rfl rfl rfl (hq z_4484 p_4484)
                            · rw [if_neg c_4483] at e
                              by_cases c_4485 : x1 = 14
                              · rw [if_pos c_4485] at e
                                refine Rn.sw2 hT rfl rfl rfl ((if_neg (fun z => c_4457 ((ti_e p1 L32_0).mp z))).trans ((if_neg (fun z => c_4459 ((ti_e p1 L32_1).mp z))).trans ((if_neg (fun z => c_4461 ((ti_e p1 L32_2).mp z))).trans ((if_neg (fun z => c_4463 ((ti_e p1 L32_3).mp z))).trans ((if_neg (fun z => c_4465 ((ti_e p1 L32_4).mp z))).trans ((if_neg (fun z => c_4467 ((ti_e p1 L32_5).mp z))).trans ((if_neg (fun z => c_4469 ((ti_e p1 L32_6).mp z))).trans ((if_neg (fun z => c_4471 ((ti_e p1 L32_7).mp z))).trans ((if_neg (fun z => c_4473 ((ti_e p1 L32_8).mp z))).trans ((if_neg (fun z => c_4475 ((ti_e p1 L32_9).mp z))).trans ((if_neg (fun z => c_4477 ((ti_e p1 L32_10).mp z))).trans ((if_neg (fun z => c_4479 ((ti_e p1 L32_11).mp z))).trans ((if_neg (fun z => c_4481 ((ti_e p1 L32_12).mp z))).trans ((if_neg (fun z => c_4483 ((ti_e p1 L32_13).mp z))).trans (if_pos ((ti_e p1 L32_14).mpr c_4485)))))))))))))))) ?_
                                refine Rn.n hT 1 (pc' := 188) (L' := [some (.ref q0), some (.int m1)]) (st' := [.ref q0]) rfl ?_
                                obtain ⟨z_4486, g_4486, p_4486⟩ : ∃ z : Int32, gI h 12 28 q0 = some z ∧ z.toInt = s q0 28 := rp_gI (k := 28) hR (T12_o t0) rfl
                                refine Rn.hp hT rfl rfl (gI_hp g_4486) ?_
                                obtain rfl := Option.some.inj e
                                exact Rn.ret hT rfl rfl rfl (hq z_4486 p_4486)
                              · rw [if_neg c_4485] at e
                                by_cases c_4487 : x1 = 15
                                · rw [if_pos c_4487] at e
                                  refine Rn.sw2 hT rfl rfl rfl ((if_neg (fun z => c_4457 ((ti_e p1 L32_0).mp z))).trans ((if_neg (fun z => c_4459 ((ti_e p1 L32_1).mp z))).trans ((if_neg (fun z => c_4461 ((ti_e p1 L32_2).mp z))).trans ((if_neg (fun z => c_4463 ((ti_e p1 L32_3).mp z))).trans ((if_neg (fun z => c_4465 ((ti_e p1 L32_4).mp z))).trans ((if_neg (fun z => c_4467 ((ti_e p1 L32_5).mp z))).trans ((if_neg (fun z => c_4469 ((ti_e p1 L32_6).mp z))).trans ((if_neg (fun z => c_4471 ((ti_e p1 L32_7).mp z))).trans ((if_neg (fun z => c_4473 ((ti_e p1 L32_8).mp z))).trans ((if_neg (fun z => c_4475 ((ti_e p1 L32_9).mp z))).trans ((if_neg (fun z => c_4477 ((ti_e p1 L32_10).mp z))).trans ((if_neg (fun z => c_4479 ((ti_e p1 L32_11).mp z))).trans ((if_neg (fun z => c_4481 ((ti_e p1 L32_12).mp z))).trans ((if_neg (fun z => c_4483 ((ti_e p1 L32_13).mp z))).trans ((if_neg (fun z => c_4485 ((ti_e p1 L32_14).mp z))).trans (if_pos ((ti_e p1 L32_15).mpr c_4487))))))))))))))))) ?_
                                  refine Rn.n hT 1 (pc' := 193) (L' := [some (.ref q0), some (.int m1)]) (st' := [.ref q0]) rfl ?_
                                  obtain ⟨v_4488, e_4488, e⟩ := Option.bind_eq_some_iff.mp e
                                  refine Rn.call hT rfl rfl rfl (Nat.le_of_ble_eq_true rfl) (rcv_v gX12_emptyMany (by omega) (rp_ck hR (T12_o t0))) (RX12_emptyMany (by omega) hR t0 e_4488 (fun z_4488 p_4488 => ?_))
                                  show Rn d _ _ 196 [some (.ref q0), some (.int m1)] [.int z_4488] h Q
                                  obtain rfl := Option.some.inj e
                                  exact Rn.ret hT rfl rfl rfl (hq z_4488 p_4488)
                                · rw [if_neg c_4487] at e
                                  by_cases c_4489 : x1 = 16
                                  · rw [if_pos c_4489] at e
                                    refine Rn.sw2 hT rfl rfl rfl ((if_neg (fun z => c_4457 ((ti_e p1 L32_0).mp z))).trans ((if_neg (fun z => c_4459 ((ti_e p1 L32_1).mp z))).trans ((if_neg (fun z => c_4461 ((ti_e p1 L32_2).mp z))).trans ((if_neg (fun z => c_4463 ((ti_e p1 L32_3).mp z))).trans ((if_neg (fun z => c_4465 ((ti_e p1 L32_4).mp z))).trans ((if_neg (fun z => c_4467 ((ti_e p1 L32_5).mp z))).trans ((if_neg (fun z => c_4469 ((ti_e p1 L32_6).mp z))).trans ((if_neg (fun z => c_4471 ((ti_e p1 L32_7).mp z))).trans ((if_neg (fun z => c_4473 ((ti_e p1 L32_8).mp z))).trans ((if_neg (fun z => c_4475 ((ti_e p1 L32_9).mp z))).trans ((if_neg (fun z => c_4477 ((ti_e p1 L32_10).mp z))).trans ((if_neg (fun z => c_4479 ((ti_e p1 L32_11).mp z))).trans ((if_neg (fun z => c_4481 ((ti_e p1 L32_12).mp z))).trans ((if_neg (fun z => c_4483 ((ti_e p1 L32_13).mp z))).trans ((if_neg (fun z => c_4485 ((ti_e p1 L32_14).mp z))).trans ((if_neg (fun z => c_4487 ((ti_e p1 L32_15).mp z))).trans (if_pos ((ti_e p1 L32_16).mpr c_4489)))))))))))))))))) ?_
                                    refine Rn.n hT 1 (pc' := 198) (L' := [some (.ref q0), some (.int m1)]) (st' := [.ref q0]) rfl ?_
                                    refine Rn.hp hT rfl rfl (gR_hp (rp_gR hR (T12_o t0) rfl)) ?_
                                    refine Rn.n hT 1 (pc' := 203) (L' := [some (.ref q0), some (.int m1)]) (st' := [.int (11 : Int32), .ref (q0 + 1)]) rfl ?_
                                    obtain ⟨v_4490, e_4490, e⟩ := Option.bind_eq_some_iff.mp e
                                    obtain ⟨z_4490, g_4490, p_4490⟩ := rp_aI hR (T12_1 t0) (T12_1l t0) L32_11 e_4490
                                    refine Rn.hp hT rfl rfl (aI_hp g_4490) ?_
                                    obtain rfl := Option.some.inj e
                                    exact Rn.ret hT rfl rfl rfl (hq z_4490 p_4490)
                                  · rw [if_neg c_4489] at e
                                    refine Rn.sw2 hT rfl rfl rfl ((if_neg (fun z => c_4457 ((ti_e p1 L32_0).mp z))).trans ((if_neg (fun z => c_4459 ((ti_e p1 L32_1).mp z))).trans ((if_neg (fun z => c_4461 ((ti_e p1 L32_2).mp z))).trans ((if_neg (fun z => c_4463 ((ti_e p1 L32_3).mp z))).trans ((if_neg (fun z => c_4465 ((ti_e p1 L32_4).mp z))).trans ((if_neg (fun z => c_4467 ((ti_e p1 L32_5).mp z))).trans ((if_neg (fun z => c_4469 ((ti_e p1 L32_6).mp z))).trans ((if_neg (fun z => c_4471 ((ti_e p1 L32_7).mp z))).trans ((if_neg (fun z => c_4473 ((ti_e p1 L32_8).mp z))).trans ((if_neg (fun z => c_4475 ((ti_e p1 L32_9).mp z))).trans ((if_neg (fun z => c_4477 ((ti_e p1 L32_10).mp z))).trans ((if_neg (fun z => c_4479 ((ti_e p1 L32_11).mp z))).trans ((if_neg (fun z => c_4481 ((ti_e p1 L32_12).mp z))).trans ((if_neg (fun z => c_4483 ((ti_e p1 L32_13).mp z))).trans ((if_neg (fun z => c_4485 ((ti_e p1 L32_14).mp z))).trans ((if_neg (fun z => c_4487 ((ti_e p1 L32_15).mp z))).trans ((if_neg (fun z => c_4489 ((ti_e p1 L32_16).mp z))).trans rfl))))))))))))))))) ?_
                                    refine Rn.n hT 1 (pc' := 206) (L' := [some (.ref q0), some (.int m1)]) (st' := [.int (-1 : Int32)]) rfl ?_
                                    obtain rfl := Option.some.inj e
                                    exact Rn.ret hT rfl rfl rfl (hq (-1 : Int32) L32_m1)
set_option maxRecDepth 10000 in
theorem hX12_carry : iv_Tb 345 tX12_carry := iv_tb_of (m := mX12_carry) rfl
set_option maxRecDepth 10000 in
theorem gX12_carry : PG.2 345 = some mX12_carry := iv_pi_of (t := tX12_carry) rfl (by decide)
def FX12_carry_b42 (N : Nat) (s : iv_M) (q0 : Nat) (q1 : Nat) (x2 : Int)  (kb : iv_M → Int → Option (iv_M)) (kx : iv_M → Option (iv_M)) : Option (iv_M) := ((pt s q0 81 (w32 ((s q0 81) + 1))).bind fun s_4506 => (kb s_4506 (w32 (x2 + 1))))
set_option maxRecDepth 10000 in
set_option maxHeartbeats 4000000 in
theorem RX12_carry_b42 {d N nc Ls : Nat} {Xs : Nat → Int32} (hd : 0 ≤ d) {h : iv_H} {s : iv_M} (hR : Rep nc Ls Xs h s) {q0 : Nat} (t0 : T12 nc q0) {q1 : Nat} (t1 : TA 0 nc q1) {m2 : Int32} {x2 : Int} (p2 : m2.toInt = x2)  {kb : iv_M → Int → Option (iv_M)} {kx : iv_M → Option (iv_M)} {r : iv_M} {Q : Option Value → iv_H → Prop} (hb : ∀ (h : iv_H) (s : iv_M) (hR : Rep nc Ls Xs h s) (mw2 : Int32) (xw2 : Int) (pw2 : mw2.toInt = xw2), kb s xw2 = some r → Rn d 345 none 2 [some (.ref q0), some (.ref q1), some (.int mw2)] [] h Q) (hk : ∀ (h : iv_H) (s : iv_M) (hR : Rep nc Ls Xs h s), kx s = some r → Rn d 345 none 58 [none, none, none] [] h Q) (hq : ∀ h1, Rep nc Ls Xs h1 r → Q none h1) (e : FX12_carry_b42 N s q0 q1 x2  kb kx = some r) : Rn d 345 none 42 [some (.ref q0), some (.ref q1), some (.int m2)] [] h Q := by
  have hT := hX12_carry
  unfold FX12_carry_b42 at e
  refine Rn.n hT 2 (pc' := 44) (L' := [some (.ref q0), some (.ref q1), some (.int m2)]) (st' := [.ref q0, .ref q0]) rfl ?_
  obtain ⟨z_4505, g_4505, p_4505⟩ : ∃ z : Int32, gI h 12 81 q0 = some z ∧ z.toInt = s q0 81 := rp_gI (k := 81) hR (T12_o t0) rfl
  refine Rn.hp hT rfl rfl (gI_hp g_4505) ?_
  refine Rn.n hT 2 (pc' := 49) (L' := [some (.ref q0), some (.ref q1), some (.int m2)]) (st' := [.int (z_4505 + (1 : Int32)), .ref q0]) rfl ?_
  obtain ⟨s_4506, e_4507, e⟩ := Option.bind_eq_some_iff.mp e
  obtain ⟨h_4506, g_4507, R_4506⟩ := rp_pI (ci := 12) (k := 81) hR (T12_o t0) rfl rfl (ti_add p_4505 L32_1) e_4507
  refine Rn.hp hT rfl rfl (pV_hp rfl g_4507) ?_
  refine Rn.n hT 2 (pc' := 2) (L' := [some (.ref q0), some (.ref q1), some (.int (m2 + (1 : Int32)))]) (st' := []) rfl ?_
  exact Rn.weak (ll_s (ll_s (ll_s ll_e))) (hb h_4506 s_4506 R_4506 (m2 + (1 : Int32)) (w32 (x2 + 1)) (ti_add p2 L32_1) e)
def FX12_carry_l2 (N : Nat) (q0 : Nat) (q1 : Nat) (kx : iv_M → Option (iv_M)) : Nat → iv_M → Int → Option (iv_M)
  | 0, _, _ => none
  | n + 1, s, x2 => (if ((sh q1).2 : Int) ≤ x2 then (kx s) else (if (s q0 82) = 0 then ((rd s q1 ((sh q1).2 : Int) x2).bind fun v_4498 => ((wr s (q0 + 59) 3440 (s q0 81) v_4498).bind fun s_4499 => (FX12_carry_b42 N s_4499 q0 q1 x2 (FX12_carry_l2 N q0 q1 kx n) kx))) else ((rd s (q0 + 59) 3440 (s q0 81)).bind fun v_4502 => ((wr s q1 ((sh q1).2 : Int) x2 v_4502).bind fun s_4503 => (FX12_carry_b42 N s_4503 q0 q1 x2 (FX12_carry_l2 N q0 q1 kx n) kx)))))
set_option maxRecDepth 10000 in
set_option maxHeartbeats 4000000 in
theorem RX12_carry_l2 {d N nc Ls : Nat} {Xs : Nat → Int32} (hd : 0 ≤ d) {q0 : Nat} (t0 : T12 nc q0) {q1 : Nat} (t1 : TA 0 nc q1) {kx : iv_M → Option (iv_M)} {r : iv_M} {Q : Option Value → iv_H → Prop} (hk : ∀ (h : iv_H) (s : iv_M) (hR : Rep nc Ls Xs h s), kx s = some r → Rn d 345 none 58 [none, none, none] [] h Q) (hq : ∀ h1, Rep nc Ls Xs h1 r → Q none h1) : ∀ (n : Nat) (h : iv_H) (s : iv_M) (hR : Rep nc Ls Xs h s) (m2 : Int32) (x2 : Int) (p2 : m2.toInt = x2), FX12_carry_l2 N q0 q1 kx n s x2 = some r → Rn d 345 none 2 [some (.ref q0), some (.ref q1), some (.int m2)] [] h Q := by
  have hT := hX12_carry
  intro n
  induction n with
  | zero =>
    intro h s hR m2 x2 p2 e
    rw [FX12_carry_l2] at e
    cases e
  | succ n ih =>
    intro h s hR m2 x2 p2 e
    rw [FX12_carry_l2] at e
    refine Rn.n hT 2 (pc' := 4) (L' := [some (.ref q0), some (.ref q1), some (.int m2)]) (st' := [.ref q1, .int m2]) rfl ?_
    obtain ⟨z_4493, g_4493, p_4493⟩ : ∃ z : Int32, aL h q1 = some z ∧ z.toInt = ((sh q1).2 : Int) := rp_aL hR t1 (Or.inl rfl) rfl
    refine Rn.hp hT rfl rfl (aL_hp g_4493) ?_
    by_cases c_4494 : ((sh q1).2 : Int) ≤ x2
    · rw [if_pos c_4494] at e
      refine Rn.bt hT rfl rfl rfl (decide_eq_true ((ti_le p_4493 p2).mpr c_4494)) ?_
      exact Rn.weak (ll_n (ll_n (ll_n ll_e))) (hk h s hR e)
    · rw [if_neg c_4494] at e
      refine Rn.bf hT rfl rfl rfl (decide_eq_false (fun z => c_4494 ((ti_le p_4493 p2).mp z))) ?_
      refine Rn.n hT 1 (pc' := 9) (L' := [some (.ref q0), some (.ref q1), some (.int m2)]) (st' := [.ref q0]) rfl ?_
      obtain ⟨z_4495, g_4495, p_4495⟩ : ∃ z : Int32, gI h 12 82 q0 = some z ∧ z.toInt = s q0 82 := rp_gI (k := 82) hR (T12_o t0) rfl
      refine Rn.hp hT rfl rfl (gI_hp g_4495) ?_
      by_cases c_4496 : (s q0 82) = 0
      · rw [if_pos c_4496] at e
        refine Rn.bt hT rfl rfl rfl (decide_eq_true ((ti_e p_4495 L32_0).mpr c_4496)) ?_
        refine Rn.n hT 1 (pc' := 31) (L' := [some (.ref q0), some (.ref q1), some (.int m2)]) (st' := [.ref q0]) rfl ?_
        refine Rn.hp hT rfl rfl (gR_hp (rp_gR hR (T12_o t0) rfl)) ?_
        refine Rn.n hT 1 (pc' := 35) (L' := [some (.ref q0), some (.ref q1), some (.int m2)]) (st' := [.ref q0, .ref (q0 + 59)]) rfl ?_
        obtain ⟨z_4497, g_4497, p_4497⟩ : ∃ z : Int32, gI h 12 81 q0 = some z ∧ z.toInt = s q0 81 := rp_gI (k := 81) hR (T12_o t0) rfl
        refine Rn.hp hT rfl rfl (gI_hp g_4497) ?_
        refine Rn.n hT 2 (pc' := 40) (L' := [some (.ref q0), some (.ref q1), some (.int m2)]) (st' := [.int m2, .ref q1, .int z_4497, .ref (q0 + 59)]) rfl ?_
        obtain ⟨v_4498, e_4498, e⟩ := Option.bind_eq_some_iff.mp e
        obtain ⟨z_4498, g_4498, p_4498⟩ := rp_aI hR t1 rfl p2 e_4498
        refine Rn.hp hT rfl rfl (aI_hp g_4498) ?_
        obtain ⟨s_4499, e_4500, e⟩ := Option.bind_eq_some_iff.mp e
        obtain ⟨h_4499, g_4500, R_4499⟩ := rp_wI hR (T12_79 t0) (T12_79l t0) p_4497 p_4498 e_4500
        refine Rn.hp hT rfl rfl (wI_hp g_4500) ?_
        exact Rn.weak (ll_s (ll_s (ll_s ll_e))) (RX12_carry_b42 hd R_4499 t0 t1 p2 ih hk hq e)
      · rw [if_neg c_4496] at e
        refine Rn.bf hT rfl rfl rfl (decide_eq_false (fun z => c_4496 ((ti_e p_4495 L32_0).mp z))) ?_
        refine Rn.n hT 3 (pc' := 18) (L' := [some (.ref q0), some (.ref q1), some (.int m2)]) (st' := [.ref q0, .int m2, .ref q1]) rfl ?_
        refine Rn.hp hT rfl rfl (gR_hp (rp_gR hR (T12_o t0) rfl)) ?_
        refine Rn.n hT 1 (pc' := 22) (L' := [some (.ref q0), some (.ref q1), some (.int m2)]) (st' := [.ref q0, .ref (q0 + 59), .int m2, .ref q1]) rfl ?_
        obtain ⟨z_4501, g_4501, p_4501⟩ : ∃ z : Int32, gI h 12 81 q0 = some z ∧ z.toInt = s q0 81 := rp_gI (k := 81) hR (T12_o t0) rfl
        refine Rn.hp hT rfl rfl (gI_hp g_4501) ?_
        obtain ⟨v_4502, e_4502, e⟩ := Option.bind_eq_some_iff.mp e
        obtain ⟨z_4502, g_4502, p_4502⟩ := rp_aI hR (T12_79 t0) (T12_79l t0) p_4501 e_4502
        refine Rn.hp hT rfl rfl (aI_hp g_4502) ?_
        obtain ⟨s_4503, e_4504, e⟩ := Option.bind_eq_some_iff.mp e
        obtain ⟨h_4503, g_4504, R_4503⟩ := rp_wI hR t1 rfl p2 p_4502 e_4504
        refine Rn.hp hT rfl rfl (wI_hp g_4504) ?_
        refine Rn.n hT 1 (pc' := 42) (L' := [some (.ref q0), some (.ref q1), some (.int m2)]) (st' := []) rfl ?_
        exact Rn.weak (ll_s (ll_s (ll_s ll_e))) (RX12_carry_b42 hd R_4503 t0 t1 p2 ih hk hq e)
def FX12_carry (N : Nat) (s : iv_M) (q0 : Nat) (q1 : Nat) : Option (iv_M) := (FX12_carry_l2 N q0 q1 (fun (s_4491 : iv_M) => some s_4491) N s 0)
set_option maxRecDepth 10000 in
set_option maxHeartbeats 4000000 in
theorem RX12_carry {d N nc Ls : Nat} {Xs : Nat → Int32} (hd : 1 ≤ d) {h : iv_H} {s : iv_M} (hR : Rep nc Ls Xs h s) {q0 : Nat} (t0 : T12 nc q0) {q1 : Nat} (t1 : TA 0 nc q1) {r : iv_M} {Q : Option Value → iv_H → Prop} (e : FX12_carry N s q0 q1 = some r) (hq : ∀ h1, Rep nc Ls Xs h1 r → Q none h1) : Cl d 345 [.ref q0, .ref q1] h Q := by
  obtain ⟨d, rfl⟩ : ∃ k, d = k + 1 := ⟨d - 1, by omega⟩
  have hd : 0 ≤ d := by omega
  have hT := hX12_carry
  unfold FX12_carry at e
  refine Cl.into (by decide) gX12_carry rfl ?_
  show Rn d 345 none 0 [some (.ref q0), some (.ref q1), none] [] h Q
  refine Rn.n hT 2 (pc' := 2) (L' := [some (.ref q0), some (.ref q1), some (.int (0 : Int32))]) (st' := []) rfl ?_
  refine Rn.weak (ll_s (ll_s (ll_s ll_e))) (RX12_carry_l2 hd t0 t1 (fun h_4491 s_4491 R_4491 e => ?_) hq N h s hR (0 : Int32) 0 L32_0 e)
  try dsimp only at e
  obtain rfl := Option.some.inj e
  exact Rn.ret hT rfl rfl rfl (hq h_4491 R_4491)
set_option maxRecDepth 10000 in
theorem hX12_carriesAll : iv_Tb 346 tX12_carriesAll := iv_tb_of (m := mX12_carriesAll) rfl
set_option maxRecDepth 10000 in
theorem gX12_carriesAll : PG.2 346 = some mX12_carriesAll := iv_pi_of (t := tX12_carriesAll) rfl (by decide)
def FX12_carriesAll (N : Nat) (s : iv_M) (q0 : Nat) (x1 : Int) (x2 : Int) : Option (iv_M) := ((pt s q0 81 (w32 (860 * x1))).bind fun s_4508 => (if x2 = 0 ∨ x2 = 1 then ((pt s_4508 q0 82 x2).bind fun s_4510 => ((FX12_carry N s_4510 q0 (q0 + 1)).bind fun s_4513 => ((FX12_carry N s_4513 q0 (q0 + 2)).bind fun s_4515 => ((FX12_carry N s_4515 q0 (q0 + 3)).bind fun s_4517 => ((FX12_carry N s_4517 q0 (q0 + 4)).bind fun s_4519 => ((FX12_carry N s_4519 q0 (q0 + 5)).bind fun s_4521 => ((FX12_carry N s_4521 q0 (q0 + 6)).bind fun s_4523 => ((FX12_carry N s_4523 q0 (q0 + 7)).bind fun s_4525 => ((FX12_carry N s_4525 q0 (q0 + 8)).bind fun s_4527 => ((FX12_carry N s_4527 q0 (q0 + 9)).bind fun s_4529 => ((FX12_carry N s_4529 q0 (q0 + 10)).bind fun s_4531 => ((FX12_carry N s_4531 q0 (q0 + 11)).bind fun s_4533 => ((FX12_carry N s_4533 q0 (q0 + 12)).bind fun s_4535 => ((FX12_carry N s_4535 q0 (q0 + 13)).bind fun s_4537 => ((FX12_carry N s_4537 q0 (q0 + 14)).bind fun s_4539 => ((FX12_carry N s_4539 q0 (q0 + 15)).bind fun s_4541 => ((FX12_carry N s_4541 q0 (q0 + 16)).bind fun s_4543 => ((FX12_carry N s_4543 q0 (q0 + 17)).bind fun s_4545 => ((FX12_carry N s_4545 q0 (q0 + 18)).bind fun s_4547 => some s_4547))))))))))))))))))) else none))
set_option maxRecDepth 10000 in
set_option maxHeartbeats 4000000 in
theorem RX12_carriesAll {d N nc Ls : Nat} {Xs : Nat → Int32} (hd : 2 ≤ d) {h : iv_H} {s : iv_M} (hR : Rep nc Ls Xs h s) {q0 : Nat} (t0 : T12 nc q0) {m1 : Int32} {x1 : Int} (p1 : m1.toInt = x1) {m2 : Int32} {x2 : Int} (p2 : m2.toInt = x2) {r : iv_M} {Q : Option Value → iv_H → Prop} (e : FX12_carriesAll N s q0 x1 x2 = some r) (hq : ∀ h1, Rep nc Ls Xs h1 r → Q none h1) : Cl d 346 [.ref q0, .int m1, .int m2] h Q := by
  obtain ⟨d, rfl⟩ : ∃ k, d = k + 1 := ⟨d - 1, by omega⟩
  have hd : 1 ≤ d := by omega
  have hT := hX12_carriesAll
  unfold FX12_carriesAll at e
  refine Cl.into (by decide) gX12_carriesAll rfl ?_
  show Rn d 346 none 0 [some (.ref q0), some (.int m1), some (.int m2)] [] h Q
  refine Rn.n hT 4 (pc' := 6) (L' := [some (.ref q0), some (.int m1), some (.int m2)]) (st' := [.int ((860 : Int32) * m1), .ref q0]) rfl ?_
  obtain ⟨s_4508, e_4509, e⟩ := Option.bind_eq_some_iff.mp e
  obtain ⟨h_4508, g_4509, R_4508⟩ := rp_pI (ci := 12) (k := 81) hR (T12_o t0) rfl rfl (ti_mul L32_860 p1) e_4509
  refine Rn.hp hT rfl rfl (pV_hp rfl g_4509) ?_
  refine Rn.n hT 2 (pc' := 11) (L' := [some (.ref q0), some (.int m1), some (.int m2)]) (st' := [.int m2, .ref q0]) rfl ?_
  by_cases c_4548 : x2 = 0 ∨ x2 = 1
  · rw [if_pos c_4548] at e
    obtain ⟨s_4510, e_4511, e⟩ := Option.bind_eq_some_iff.mp e
    obtain ⟨h_4510, g_4511, R_4510⟩ := rp_pI (ci := 12) (k := 82) R_4508 (T12_o t0) rfl rfl p2 e_4511
    refine Rn.hp hT rfl rfl (pV_hp (ft_bl (ti_b p2 c_4548)) g_4511) ?_
    refine Rn.n hT 2 (pc' := 16) (L' := [some (.ref q0), some (.int m1), some (.int m2)]) (st' := [.ref q0, .ref q0]) rfl ?_
    refine Rn.hp hT rfl rfl (gR_hp (rp_gR R_4510 (T12_o t0) rfl)) ?_
    obtain ⟨s_4513, e_4512, e⟩ := Option.bind_eq_some_iff.mp e
    refine Rn.call hT rfl rfl rfl (Nat.le_of_ble_eq_true rfl) (rcv_v gX12_carry (by omega) (rp_ck R_4510 (T12_o t0))) (RX12_carry (by omega) R_4510 t0 (T12_1 t0) e_4512 (fun h_4513 R_4513 => ?_))
    show Rn d _ _ 22 [some (.ref q0), some (.int m1), some (.int m2)] [] h_4513 Q
    refine Rn.n hT 2 (pc' := 24) (L' := [some (.ref q0), some (.int m1), some (.int m2)]) (st' := [.ref q0, .ref q0]) rfl ?_
    refine Rn.hp hT rfl rfl (gR_hp (rp_gR R_4513 (T12_o t0) rfl)) ?_
    obtain ⟨s_4515, e_4514, e⟩ := Option.bind_eq_some_iff.mp e
    refine Rn.call hT rfl rfl rfl (Nat.le_of_ble_eq_true rfl) (rcv_v gX12_carry (by omega) (rp_ck R_4513 (T12_o t0))) (RX12_carry (by omega) R_4513 t0 (T12_2 t0) e_4514 (fun h_4515 R_4515 => ?_))
    show Rn d _ _ 30 [some (.ref q0), some (.int m1), some (.int m2)] [] h_4515 Q
    refine Rn.n hT 2 (pc' := 32) (L' := [some (.ref q0), some (.int m1), some (.int m2)]) (st' := [.ref q0, .ref q0]) rfl ?_
    refine Rn.hp hT rfl rfl (gR_hp (rp_gR R_4515 (T12_o t0) rfl)) ?_
    obtain ⟨s_4517, e_4516, e⟩ := Option.bind_eq_some_iff.mp e
    refine Rn.call hT rfl rfl rfl (Nat.le_of_ble_eq_true rfl) (rcv_v gX12_carry (by omega) (rp_ck R_4515 (T12_o t0))) (RX12_carry (by omega) R_4515 t0 (T12_3 t0) e_4516 (fun h_4517 R_4517 => ?_))
    show Rn d _ _ 38 [some (.ref q0), some (.int m1), some (.int m2)] [] h_4517 Q
    refine Rn.n hT 2 (pc' := 40) (L' := [some (.ref q0), some (.int m1), some (.int m2)]) (st' := [.ref q0, .ref q0]) rfl ?_
    refine Rn.hp hT rfl rfl (gR_hp (rp_gR R_4517 (T12_o t0) rfl)) ?_
    obtain ⟨s_4519, e_4518, e⟩ := Option.bind_eq_some_iff.mp e
    refine Rn.call hT rfl rfl rfl (Nat.le_of_ble_eq_true rfl) (rcv_v gX12_carry (by omega) (rp_ck R_4517 (T12_o t0))) (RX12_carry (by omega) R_4517 t0 (T12_4 t0) e_4518 (fun h_4519 R_4519 => ?_))
    show Rn d _ _ 46 [some (.ref q0), some (.int m1), some (.int m2)] [] h_4519 Q
    refine Rn.n hT 2 (pc' := 48) (L' := [some (.ref q0), some (.int m1), some (.int m2)]) (st' := [.ref q0, .ref q0]) rfl ?_
    refine Rn.hp hT rfl rfl (gR_hp (rp_gR R_4519 (T12_o t0) rfl)) ?_
    obtain ⟨s_4521, e_4520, e⟩ := Option.bind_eq_some_iff.mp e
    refine Rn.call hT rfl rfl rfl (Nat.le_of_ble_eq_true rfl) (rcv_v gX12_carry (by omega) (rp_ck R_4519 (T12_o t0))) (RX12_carry (by omega) R_4519 t0 (T12_5 t0) e_4520 (fun h_4521 R_4521 => ?_))
    show Rn d _ _ 54 [some (.ref q0), some (.int m1), some (.int m2)] [] h_4521 Q
    refine Rn.n hT 2 (pc' := 56) (L' := [some (.ref q0), some (.int m1), some (.int m2)]) (st' := [.ref q0, .ref q0]) rfl ?_
    refine Rn.hp hT rfl rfl (gR_hp (rp_gR R_4521 (T12_o t0) rfl)) ?_
    obtain ⟨s_4523, e_4522, e⟩ := Option.bind_eq_some_iff.mp e
    refine Rn.call hT rfl rfl rfl (Nat.le_of_ble_eq_true rfl) (rcv_v gX12_carry (by omega) (rp_ck R_4521 (T12_o t0))) (RX12_carry (by omega) R_4521 t0 (T12_6 t0) e_4522 (fun h_4523 R_4523 => ?_))
    show Rn d _ _ 62 [some (.ref q0), some (.int m1), some (.int m2)] [] h_4523 Q
    refine Rn.n hT 2 (pc' := 64) (L' := [some (.ref q0), some (.int m1), some (.int m2)]) (st' := [.ref q0, .ref q0]) rfl ?_
    refine Rn.hp hT rfl rfl (gR_hp (rp_gR R_4523 (T12_o t0) rfl)) ?_
    obtain ⟨s_4525, e_4524, e⟩ := Option.bind_eq_some_iff.mp e
    refine Rn.call hT rfl rfl rfl (Nat.le_of_ble_eq_true rfl) (rcv_v gX12_carry (by omega) (rp_ck R_4523 (T12_o t0))) (RX12_carry (by omega) R_4523 t0 (T12_7 t0) e_4524 (fun h_4525 R_4525 => ?_))
    show Rn d _ _ 70 [some (.ref q0), some (.int m1), some (.int m2)] [] h_4525 Q
    refine Rn.n hT 2 (pc' := 72) (L' := [some (.ref q0), some (.int m1), some (.int m2)]) (st' := [.ref q0, .ref q0]) rfl ?_
    refine Rn.hp hT rfl rfl (gR_hp (rp_gR R_4525 (T12_o t0) rfl)) ?_
    obtain ⟨s_4527, e_4526, e⟩ := Option.bind_eq_some_iff.mp e
    refine Rn.call hT rfl rfl rfl (Nat.le_of_ble_eq_true rfl) (rcv_v gX12_carry (by omega) (rp_ck R_4525 (T12_o t0))) (RX12_carry (by omega) R_4525 t0 (T12_8 t0) e_4526 (fun h_4527 R_4527 => ?_))
    show Rn d _ _ 78 [some (.ref q0), some (.int m1), some (.int m2)] [] h_4527 Q
    refine Rn.n hT 2 (pc' := 80) (L' := [some (.ref q0), some (.int m1), some (.int m2)]) (st' := [.ref q0, .ref q0]) rfl ?_
    refine Rn.hp hT rfl rfl (gR_hp (rp_gR R_4527 (T12_o t0) rfl)) ?_
    obtain ⟨s_4529, e_4528, e⟩ := Option.bind_eq_some_iff.mp e
    refine Rn.call hT rfl rfl rfl (Nat.le_of_ble_eq_true rfl) (rcv_v gX12_carry (by omega) (rp_ck R_4527 (T12_o t0))) (RX12_carry (by omega) R_4527 t0 (T12_9 t0) e_4528 (fun h_4529 R_4529 => ?_))
    show Rn d _ _ 86 [some (.ref q0), some (.int m1), some (.int m2)] [] h_4529 Q
    refine Rn.n hT 2 (pc' := 88) (L' := [some (.ref q0), some (.int m1), some (.int m2)]) (st' := [.ref q0, .ref q0]) rfl ?_
    refine Rn.hp hT rfl rfl (gR_hp (rp_gR R_4529 (T12_o t0) rfl)) ?_
    obtain ⟨s_4531, e_4530, e⟩ := Option.bind_eq_some_iff.mp e
    refine Rn.call hT rfl rfl rfl (Nat.le_of_ble_eq_true rfl) (rcv_v gX12_carry (by omega) (rp_ck R_4529 (T12_o t0))) (RX12_carry (by omega) R_4529 t0 (T12_10 t0) e_4530 (fun h_4531 R_4531 => ?_))
    show Rn d _ _ 94 [some (.ref q0), some (.int m1), some (.int m2)] [] h_4531 Q
    refine Rn.n hT 2 (pc' := 96) (L' := [some (.ref q0), some (.int m1), some (.int m2)]) (st' := [.ref q0, .ref q0]) rfl ?_
    refine Rn.hp hT rfl rfl (gR_hp (rp_gR R_4531 (T12_o t0) rfl)) ?_
    obtain ⟨s_4533, e_4532, e⟩ := Option.bind_eq_some_iff.mp e
    refine Rn.call hT rfl rfl rfl (Nat.le_of_ble_eq_true rfl) (rcv_v gX12_carry (by omega) (rp_ck R_4531 (T12_o t0))) (RX12_carry (by omega) R_4531 t0 (T12_11 t0) e_4532 (fun h_4533 R_4533 => ?_))
    show Rn d _ _ 102 [some (.ref q0), some (.int m1), some (.int m2)] [] h_4533 Q
    refine Rn.n hT 2 (pc' := 104) (L' := [some (.ref q0), some (.int m1), some (.int m2)]) (st' := [.ref q0, .ref q0]) rfl ?_
    refine Rn.hp hT rfl rfl (gR_hp (rp_gR R_4533 (T12_o t0) rfl)) ?_
    obtain ⟨s_4535, e_4534, e⟩ := Option.bind_eq_some_iff.mp e
    refine Rn.call hT rfl rfl rfl (Nat.le_of_ble_eq_true rfl) (rcv_v gX12_carry (by omega) (rp_ck R_4533 (T12_o t0))) (RX12_carry (by omega) R_4533 t0 (T12_12 t0) e_4534 (fun h_4535 R_4535 => ?_))
    show Rn d _ _ 110 [some (.ref q0), some (.int m1), some (.int m2)] [] h_4535 Q
    refine Rn.n hT 2 (pc' := 112) (L' := [some (.ref q0), some (.int m1), some (.int m2)]) (st' := [.ref q0, .ref q0]) rfl ?_
    refine Rn.hp hT rfl rfl (gR_hp (rp_gR R_4535 (T12_o t0) rfl)) ?_
    obtain ⟨s_4537, e_4536, e⟩ := Option.bind_eq_some_iff.mp e
    refine Rn.call hT rfl rfl rfl (Nat.le_of_ble_eq_true rfl) (rcv_v gX12_carry (by omega) (rp_ck R_4535 (T12_o t0))) (RX12_carry (by omega) R_4535 t0 (T12_13 t0) e_4536 (fun h_4537 R_4537 => ?_))
    show Rn d _ _ 118 [some (.ref q0), some (.int m1), some (.int m2)] [] h_4537 Q
    refine Rn.n hT 2 (pc' := 120) (L' := [some (.ref q0), some (.int m1), some (.int m2)]) (st' := [.ref q0, .ref q0]) rfl ?_
    refine Rn.hp hT rfl rfl (gR_hp (rp_gR R_4537 (T12_o t0) rfl)) ?_
    obtain ⟨s_4539, e_4538, e⟩ := Option.bind_eq_some_iff.mp e
    refine Rn.call hT rfl rfl rfl (Nat.le_of_ble_eq_true rfl) (rcv_v gX12_carry (by omega) (rp_ck R_4537 (T12_o t0))) (RX12_carry (by omega) R_4537 t0 (T12_14 t0) e_4538 (fun h_4539 R_4539 => ?_))
    show Rn d _ _ 126 [some (.ref q0), some (.int m1), some (.int m2)] [] h_4539 Q
    refine Rn.n hT 2 (pc' := 128) (L' := [some (.ref q0), some (.int m1), some (.int m2)]) (st' := [.ref q0, .ref q0]) rfl ?_
    refine Rn.hp hT rfl rfl (gR_hp (rp_gR R_4539 (T12_o t0) rfl)) ?_
    obtain ⟨s_4541, e_4540, e⟩ := Option.bind_eq_some_iff.mp e
    refine Rn.call hT rfl rfl rfl (Nat.le_of_ble_eq_true rfl) (rcv_v gX12_carry (by omega) (rp_ck R_4539 (T12_o t0))) (RX12_carry (by omega) R_4539 t0 (T12_15 t0) e_4540 (fun h_4541 R_4541 => ?_))
    show Rn d _ _ 134 [some (.ref q0), some (.int m1), some (.int m2)] [] h_4541 Q
    refine Rn.n hT 2 (pc' := 136) (L' := [some (.ref q0), some (.int m1), some (.int m2)]) (st' := [.ref q0, .ref q0]) rfl ?_
    refine Rn.hp hT rfl rfl (gR_hp (rp_gR R_4541 (T12_o t0) rfl)) ?_
    obtain ⟨s_4543, e_4542, e⟩ := Option.bind_eq_some_iff.mp e
    refine Rn.call hT rfl rfl rfl (Nat.le_of_ble_eq_true rfl) (rcv_v gX12_carry (by omega) (rp_ck R_4541 (T12_o t0))) (RX12_carry (by omega) R_4541 t0 (T12_16 t0) e_4542 (fun h_4543 R_4543 => ?_))
    show Rn d _ _ 142 [some (.ref q0), some (.int m1), some (.int m2)] [] h_4543 Q
    refine Rn.n hT 2 (pc' := 144) (L' := [some (.ref q0), some (.int m1), some (.int m2)]) (st' := [.ref q0, .ref q0]) rfl ?_
    refine Rn.hp hT rfl rfl (gR_hp (rp_gR R_4543 (T12_o t0) rfl)) ?_
    obtain ⟨s_4545, e_4544, e⟩ := Option.bind_eq_some_iff.mp e
    refine Rn.call hT rfl rfl rfl (Nat.le_of_ble_eq_true rfl) (rcv_v gX12_carry (by omega) (rp_ck R_4543 (T12_o t0))) (RX12_carry (by omega) R_4543 t0 (T12_17 t0) e_4544 (fun h_4545 R_4545 => ?_))
    show Rn d _ _ 150 [some (.ref q0), some (.int m1), some (.int m2)] [] h_4545 Q
    refine Rn.n hT 2 (pc' := 152) (L' := [some (.ref q0), some (.int m1), some (.int m2)]) (st' := [.ref q0, .ref q0]) rfl ?_
    refine Rn.hp hT rfl rfl (gR_hp (rp_gR R_4545 (T12_o t0) rfl)) ?_
    obtain ⟨s_4547, e_4546, e⟩ := Option.bind_eq_some_iff.mp e
    refine Rn.call hT rfl rfl rfl (Nat.le_of_ble_eq_true rfl) (rcv_v gX12_carry (by omega) (rp_ck R_4545 (T12_o t0))) (RX12_carry (by omega) R_4545 t0 (T12_18 t0) e_4546 (fun h_4547 R_4547 => ?_))
    show Rn d _ _ 158 [some (.ref q0), some (.int m1), some (.int m2)] [] h_4547 Q
    obtain rfl := Option.some.inj e
    exact Rn.ret hT rfl rfl rfl (hq h_4547 R_4547)
  · rw [if_neg c_4548] at e
    cases e
set_option maxRecDepth 10000 in
theorem hX12_image : iv_Tb 347 tX12_image := iv_tb_of (m := mX12_image) rfl
set_option maxRecDepth 10000 in
theorem gX12_image : PG.2 347 = some mX12_image := iv_pi_of (t := tX12_image) rfl (by decide)
def FX12_image (N : Nat) (s : iv_M) (q0 : Nat) (x1 : Int) : Option (Int × iv_M) := ((FX12_in N s x1 0 3).bind fun v_4549 => (if v_4549 = 0 then (some ((-1), s)) else ((wr s (q0 + 60) 4 x1 1).bind fun s_4551 => ((FX12_carriesAll N s_4551 q0 x1 0).bind fun s_4554 => ((rd s_4554 (q0 + 1) 14 6).bind fun v_4555 => (some (v_4555, s_4554)))))))
set_option maxRecDepth 10000 in
set_option maxHeartbeats 4000000 in
theorem RX12_image {d N nc Ls : Nat} {Xs : Nat → Int32} (hd : 3 ≤ d) {h : iv_H} {s : iv_M} (hR : Rep nc Ls Xs h s) {q0 : Nat} (t0 : T12 nc q0) {m1 : Int32} {x1 : Int} (p1 : m1.toInt = x1) {r : Int × iv_M} {Q : Option Value → iv_H → Prop} (e : FX12_image N s q0 x1 = some r) (hq : ∀ (z : Int32) (h1 : iv_H), z.toInt = r.1 → Rep nc Ls Xs h1 r.2 → Q (some (.int z)) h1) : Cl d 347 [.ref q0, .int m1] h Q := by
  obtain ⟨d, rfl⟩ : ∃ k, d = k + 1 := ⟨d - 1, by omega⟩
  have hd : 2 ≤ d := by omega
  have hT := hX12_image
  unfold FX12_image at e
  refine Cl.into (by decide) gX12_image rfl ?_
  show Rn d 347 (some .int) 0 [some (.ref q0), some (.int m1)] [] h Q
  refine Rn.n hT 4 (pc' := 6) (L' := [some (.ref q0), some (.int m1)]) (st' := [.long (3 : Int64), .long (0 : Int64), .long ((m1).toInt64)]) rfl ?_
  obtain ⟨v_4549, e_4549, e⟩ := Option.bind_eq_some_iff.mp e
  refine Rn.call hT rfl rfl rfl (Nat.le_of_ble_eq_true rfl) rfl (RX12_in (by omega) hR (ti_j p1) L64_0 L64_3 e_4549 (fun z_4549 p_4549 => ?_))
  show Rn d _ _ 9 [some (.ref q0), some (.int m1)] [.int z_4549] h Q
  by_cases c_4550 : v_4549 = 0
  · rw [if_pos c_4550] at e
    refine Rn.bf hT rfl rfl rfl (decide_eq_false (fun z => z ((ti_e p_4549 L32_0).mpr c_4550))) ?_
    refine Rn.n hT 1 (pc' := 13) (L' := [some (.ref q0), some (.int m1)]) (st' := [.int (-1 : Int32)]) rfl ?_
    obtain rfl := Option.some.inj e
    exact Rn.ret hT rfl rfl rfl (hq (-1 : Int32) h L32_m1 hR)
  · rw [if_neg c_4550] at e
    refine Rn.bt hT rfl rfl rfl (decide_eq_true (fun z => c_4550 ((ti_e p_4549 L32_0).mp z))) ?_
    refine Rn.n hT 1 (pc' := 15) (L' := [some (.ref q0), some (.int m1)]) (st' := [.ref q0]) rfl ?_
    refine Rn.hp hT rfl rfl (gR_hp (rp_gR hR (T12_o t0) rfl)) ?_
    refine Rn.n hT 2 (pc' := 20) (L' := [some (.ref q0), some (.int m1)]) (st' := [.int (1 : Int32), .int m1, .ref (q0 + 60)]) rfl ?_
    obtain ⟨s_4551, e_4552, e⟩ := Option.bind_eq_some_iff.mp e
    obtain ⟨h_4551, g_4552, R_4551⟩ := rp_wZ hR (T12_80 t0) (T12_80l t0) p1  e_4552
    refine Rn.hp hT rfl rfl (wB_hp g_4552) ?_
    refine Rn.n hT 3 (pc' := 24) (L' := [some (.ref q0), some (.int m1)]) (st' := [.int (0 : Int32), .int m1, .ref q0]) rfl ?_
    obtain ⟨s_4554, e_4553, e⟩ := Option.bind_eq_some_iff.mp e
    refine Rn.call hT rfl rfl rfl (Nat.le_of_ble_eq_true rfl) (rcv_v gX12_carriesAll (by omega) (rp_ck R_4551 (T12_o t0))) (RX12_carriesAll (by omega) R_4551 t0 p1 L32_0 e_4553 (fun h_4554 R_4554 => ?_))
    show Rn d _ _ 27 [some (.ref q0), some (.int m1)] [] h_4554 Q
    refine Rn.n hT 1 (pc' := 28) (L' := [some (.ref q0), some (.int m1)]) (st' := [.ref q0]) rfl ?_
    refine Rn.hp hT rfl rfl (gR_hp (rp_gR R_4554 (T12_o t0) rfl)) ?_
    refine Rn.n hT 1 (pc' := 33) (L' := [some (.ref q0), some (.int m1)]) (st' := [.int (6 : Int32), .ref (q0 + 1)]) rfl ?_
    obtain ⟨v_4555, e_4555, e⟩ := Option.bind_eq_some_iff.mp e
    obtain ⟨z_4555, g_4555, p_4555⟩ := rp_aI R_4554 (T12_1 t0) (T12_1l t0) L32_6 e_4555
    refine Rn.hp hT rfl rfl (aI_hp g_4555) ?_
    obtain rfl := Option.some.inj e
    exact Rn.ret hT rfl rfl rfl (hq z_4555 h_4554 p_4555 R_4554)
set_option maxRecDepth 10000 in
theorem hX12_back : iv_Tb 348 tX12_back := iv_tb_of (m := mX12_back) rfl
set_option maxRecDepth 10000 in
theorem gX12_back : PG.2 348 = some mX12_back := iv_pi_of (t := tX12_back) rfl (by decide)
def FX12_back_b21 (N : Nat) (s : iv_M)   : Option (Int × iv_M) := (some ((-1), s))
set_option maxRecDepth 10000 in
set_option maxHeartbeats 4000000 in
theorem RX12_back_b21 {d N nc Ls : Nat} {Xs : Nat → Int32} (hd : 2 ≤ d) {h : iv_H} {s : iv_M} (hR : Rep nc Ls Xs h s)   {r : Int × iv_M} {Q : Option Value → iv_H → Prop} (hq : ∀ (z : Int32) (h1 : iv_H), z.toInt = r.1 → Rep nc Ls Xs h1 r.2 → Q (some (.int z)) h1) (e : FX12_back_b21 N s   = some r) : Rn d 348 (some .int) 21 [none, none] [] h Q := by
  have hT := hX12_back
  unfold FX12_back_b21 at e
  refine Rn.n hT 1 (pc' := 22) (L' := [none, none]) (st' := [.int (-1 : Int32)]) rfl ?_
  obtain rfl := Option.some.inj e
  exact Rn.ret hT rfl rfl rfl (hq (-1 : Int32) h L32_m1 hR)
def FX12_back (N : Nat) (s : iv_M) (q0 : Nat) (x1 : Int) : Option (Int × iv_M) := ((FX12_in N s x1 0 3).bind fun v_4556 => (if v_4556 = 0 then (FX12_back_b21 N s) else ((rd s (q0 + 60) 4 x1).bind fun v_4558 => (if v_4558 = 0 then (FX12_back_b21 N s) else ((FX12_carriesAll N s q0 x1 1).bind fun s_4561 => ((rd s_4561 (q0 + 1) 14 6).bind fun v_4562 => (some (v_4562, s_4561))))))))
set_option maxRecDepth 10000 in
set_option maxHeartbeats 4000000 in
theorem RX12_back {d N nc Ls : Nat} {Xs : Nat → Int32} (hd : 3 ≤ d) {h : iv_H} {s : iv_M} (hR : Rep nc Ls Xs h s) {q0 : Nat} (t0 : T12 nc q0) {m1 : Int32} {x1 : Int} (p1 : m1.toInt = x1) {r : Int × iv_M} {Q : Option Value → iv_H → Prop} (e : FX12_back N s q0 x1 = some r) (hq : ∀ (z : Int32) (h1 : iv_H), z.toInt = r.1 → Rep nc Ls Xs h1 r.2 → Q (some (.int z)) h1) : Cl d 348 [.ref q0, .int m1] h Q := by
  obtain ⟨d, rfl⟩ : ∃ k, d = k + 1 := ⟨d - 1, by omega⟩
  have hd : 2 ≤ d := by omega
  have hT := hX12_back
  unfold FX12_back at e
  refine Cl.into (by decide) gX12_back rfl ?_
  show Rn d 348 (some .int) 0 [some (.ref q0), some (.int m1)] [] h Q
  refine Rn.n hT 4 (pc' := 6) (L' := [some (.ref q0), some (.int m1)]) (st' := [.long (3 : Int64), .long (0 : Int64), .long ((m1).toInt64)]) rfl ?_
  obtain ⟨v_4556, e_4556, e⟩ := Option.bind_eq_some_iff.mp e
  refine Rn.call hT rfl rfl rfl (Nat.le_of_ble_eq_true rfl) rfl (RX12_in (by omega) hR (ti_j p1) L64_0 L64_3 e_4556 (fun z_4556 p_4556 => ?_))
  show Rn d _ _ 9 [some (.ref q0), some (.int m1)] [.int z_4556] h Q
  by_cases c_4557 : v_4556 = 0
  · rw [if_pos c_4557] at e
    refine Rn.bt hT rfl rfl rfl (decide_eq_true ((ti_e p_4556 L32_0).mpr c_4557)) ?_
    exact Rn.weak (ll_n (ll_n ll_e)) (RX12_back_b21 hd hR hq e)
  · rw [if_neg c_4557] at e
    refine Rn.bf hT rfl rfl rfl (decide_eq_false (fun z => c_4557 ((ti_e p_4556 L32_0).mp z))) ?_
    refine Rn.n hT 1 (pc' := 13) (L' := [some (.ref q0), some (.int m1)]) (st' := [.ref q0]) rfl ?_
    refine Rn.hp hT rfl rfl (gR_hp (rp_gR hR (T12_o t0) rfl)) ?_
    refine Rn.n hT 1 (pc' := 17) (L' := [some (.ref q0), some (.int m1)]) (st' := [.int m1, .ref (q0 + 60)]) rfl ?_
    obtain ⟨v_4558, e_4558, e⟩ := Option.bind_eq_some_iff.mp e
    obtain ⟨z_4558, g_4558, p_4558⟩ := rp_aB hR (T12_80 t0) (Or.inr rfl) (T12_80l t0) p1 e_4558
    refine Rn.hp hT rfl rfl (aB_hp g_4558) ?_
    by_cases c_4559 : v_4558 = 0
    · rw [if_pos c_4559] at e
      refine Rn.bf hT rfl rfl rfl (decide_eq_false (fun z => z ((ti_e p_4558 L32_0).mpr c_4559))) ?_
      exact Rn.weak (ll_n (ll_n ll_e)) (RX12_back_b21 hd hR hq e)
    · rw [if_neg c_4559] at e
      refine Rn.bt hT rfl rfl rfl (decide_eq_true (fun z => c_4559 ((ti_e p_4558 L32_0).mp z))) ?_
      refine Rn.n hT 3 (pc' := 26) (L' := [some (.ref q0), some (.int m1)]) (st' := [.int (1 : Int32), .int m1, .ref q0]) rfl ?_
      obtain ⟨s_4561, e_4560, e⟩ := Option.bind_eq_some_iff.mp e
      refine Rn.call hT rfl rfl rfl (Nat.le_of_ble_eq_true rfl) (rcv_v gX12_carriesAll (by omega) (rp_ck hR (T12_o t0))) (RX12_carriesAll (by omega) hR t0 p1 L32_1 e_4560 (fun h_4561 R_4561 => ?_))
      show Rn d _ _ 29 [some (.ref q0), some (.int m1)] [] h_4561 Q
      refine Rn.n hT 1 (pc' := 30) (L' := [some (.ref q0), some (.int m1)]) (st' := [.ref q0]) rfl ?_
      refine Rn.hp hT rfl rfl (gR_hp (rp_gR R_4561 (T12_o t0) rfl)) ?_
      refine Rn.n hT 1 (pc' := 35) (L' := [some (.ref q0), some (.int m1)]) (st' := [.int (6 : Int32), .ref (q0 + 1)]) rfl ?_
      obtain ⟨v_4562, e_4562, e⟩ := Option.bind_eq_some_iff.mp e
      obtain ⟨z_4562, g_4562, p_4562⟩ := rp_aI R_4561 (T12_1 t0) (T12_1l t0) L32_6 e_4562
      refine Rn.hp hT rfl rfl (aI_hp g_4562) ?_
      obtain rfl := Option.some.inj e
      exact Rn.ret hT rfl rfl rfl (hq z_4562 h_4561 p_4562 R_4561)
