-- FLAT MIRRORS, 12 (written by wip/whole/mir2.py)
set_option maxRecDepth 10000 in
theorem hX12_fromEdge : iv_Tb 327 tX12_fromEdge := iv_tb_of (m := mX12_fromEdge) rfl
set_option maxRecDepth 10000 in
theorem gX12_fromEdge : PG.2 327 = some mX12_fromEdge := iv_pi_of (t := tX12_fromEdge) rfl (by decide)
def FX12_fromEdge_b82 (N : Nat) (s : iv_M)  (xs0 : Int) : Option (Int) := (some xs0)
set_option maxRecDepth 10000 in
set_option maxHeartbeats 4000000 in
theorem RX12_fromEdge_b82 {d N nc Ls : Nat} {Xs : Nat → Int32} (hd : 0 ≤ d) {h : iv_H} {s : iv_M} (hR : Rep nc Ls Xs h s)  {ms0 : Int32} {xs0 : Int} (ps0 : ms0.toInt = xs0) {r : Int} {Q : Option Value → iv_H → Prop} (hq : ∀ (z : Int32), z.toInt = r → Q (some (.int z)) h) (e : FX12_fromEdge_b82 N s  xs0 = some r) : Rn d 327 (some .int) 82 [none, none, none, none, none, none] [.int ms0] h Q := by
  have hT := hX12_fromEdge
  unfold FX12_fromEdge_b82 at e
  obtain rfl := Option.some.inj e
  exact Rn.ret hT rfl rfl rfl (hq ms0 ps0)
def FX12_fromEdge_b66 (N : Nat) (s : iv_M) (x4 : Int) (xs0 : Int) : Option (Int) := (if xs0 ≤ x4 then (FX12_fromEdge_b82 N s xs0) else (FX12_fromEdge_b82 N s x4))
set_option maxRecDepth 10000 in
set_option maxHeartbeats 4000000 in
theorem RX12_fromEdge_b66 {d N nc Ls : Nat} {Xs : Nat → Int32} (hd : 0 ≤ d) {h : iv_H} {s : iv_M} (hR : Rep nc Ls Xs h s) {m4 : Int32} {x4 : Int} (p4 : m4.toInt = x4) {ms0 : Int32} {xs0 : Int} (ps0 : ms0.toInt = xs0) {r : Int} {Q : Option Value → iv_H → Prop} (hq : ∀ (z : Int32), z.toInt = r → Q (some (.int z)) h) (e : FX12_fromEdge_b66 N s x4 xs0 = some r) : Rn d 327 (some .int) 66 [none, none, none, none, some (.int m4), none] [.int ms0] h Q := by
  have hT := hX12_fromEdge
  unfold FX12_fromEdge_b66 at e
  refine Rn.n hT 3 (pc' := 72) (L' := [none, none, none, none, some (.int m4), some (.int ms0)]) (st' := [.int ms0, .int m4]) rfl ?_
  by_cases c_4220 : xs0 ≤ x4
  · rw [if_pos c_4220] at e
    refine Rn.bt hT rfl rfl rfl (decide_eq_true ((ti_le ps0 p4).mpr c_4220)) ?_
    refine Rn.n hT 1 (pc' := 82) (L' := [none, none, none, none, some (.int m4), some (.int ms0)]) (st' := [.int ms0]) rfl ?_
    exact Rn.weak (ll_n (ll_n (ll_n (ll_n (ll_n (ll_n ll_e)))))) (RX12_fromEdge_b82 hd hR ps0 hq e)
  · rw [if_neg c_4220] at e
    refine Rn.bf hT rfl rfl rfl (decide_eq_false (fun z => c_4220 ((ti_le ps0 p4).mp z))) ?_
    refine Rn.n hT 2 (pc' := 82) (L' := [none, none, none, none, some (.int m4), some (.int ms0)]) (st' := [.int m4]) rfl ?_
    exact Rn.weak (ll_n (ll_n (ll_n (ll_n (ll_n (ll_n ll_e)))))) (RX12_fromEdge_b82 hd hR p4 hq e)
def FX12_fromEdge_b36 (N : Nat) (s : iv_M) (q0 : Nat) (x3 : Int) (xs0 : Int) : Option (Int) := ((rd s (q0 + 1) 14 1).bind fun v_4217 => (if x3 ≤ (w32 ((w32 (v_4217 - 1)) - x3)) then (FX12_fromEdge_b66 N s xs0 x3) else ((rd s (q0 + 1) 14 1).bind fun v_4219 => (FX12_fromEdge_b66 N s xs0 (w32 ((w32 (v_4219 - 1)) - x3))))))
set_option maxRecDepth 10000 in
set_option maxHeartbeats 4000000 in
theorem RX12_fromEdge_b36 {d N nc Ls : Nat} {Xs : Nat → Int32} (hd : 0 ≤ d) {h : iv_H} {s : iv_M} (hR : Rep nc Ls Xs h s) {q0 : Nat} (t0 : T12 nc q0) {m3 : Int32} {x3 : Int} (p3 : m3.toInt = x3) {ms0 : Int32} {xs0 : Int} (ps0 : ms0.toInt = xs0) {r : Int} {Q : Option Value → iv_H → Prop} (hq : ∀ (z : Int32), z.toInt = r → Q (some (.int z)) h) (e : FX12_fromEdge_b36 N s q0 x3 xs0 = some r) : Rn d 327 (some .int) 36 [some (.ref q0), none, none, some (.int m3), none, none] [.int ms0] h Q := by
  have hT := hX12_fromEdge
  unfold FX12_fromEdge_b36 at e
  refine Rn.n hT 2 (pc' := 39) (L' := [some (.ref q0), none, none, some (.int m3), some (.int ms0), none]) (st' := [.ref q0]) rfl ?_
  refine Rn.hp hT rfl rfl (gR_hp (rp_gR hR (T12_o t0) rfl)) ?_
  refine Rn.n hT 1 (pc' := 43) (L' := [some (.ref q0), none, none, some (.int m3), some (.int ms0), none]) (st' := [.int (1 : Int32), .ref (q0 + 1)]) rfl ?_
  obtain ⟨v_4217, e_4217, e⟩ := Option.bind_eq_some_iff.mp e
  obtain ⟨z_4217, g_4217, p_4217⟩ := rp_aI hR (T12_1 t0) (T12_1l t0) L32_1 e_4217
  refine Rn.hp hT rfl rfl (aI_hp g_4217) ?_
  refine Rn.n hT 5 (pc' := 49) (L' := [some (.ref q0), none, none, some (.int m3), some (.int ms0), none]) (st' := [.int m3, .int ((z_4217 - (1 : Int32)) - m3)]) rfl ?_
  by_cases c_4218 : x3 ≤ (w32 ((w32 (v_4217 - 1)) - x3))
  · rw [if_pos c_4218] at e
    refine Rn.bt hT rfl rfl rfl (decide_eq_true ((ti_le p3 (ti_sub (ti_sub p_4217 L32_1) p3)).mpr c_4218)) ?_
    refine Rn.n hT 1 (pc' := 66) (L' := [some (.ref q0), none, none, some (.int m3), some (.int ms0), none]) (st' := [.int m3]) rfl ?_
    exact Rn.weak (ll_n (ll_n (ll_n (ll_n (ll_s (ll_n ll_e)))))) (RX12_fromEdge_b66 hd hR ps0 p3 hq e)
  · rw [if_neg c_4218] at e
    refine Rn.bf hT rfl rfl rfl (decide_eq_false (fun z => c_4218 ((ti_le p3 (ti_sub (ti_sub p_4217 L32_1) p3)).mp z))) ?_
    refine Rn.n hT 1 (pc' := 53) (L' := [some (.ref q0), none, none, some (.int m3), some (.int ms0), none]) (st' := [.ref q0]) rfl ?_
    refine Rn.hp hT rfl rfl (gR_hp (rp_gR hR (T12_o t0) rfl)) ?_
    refine Rn.n hT 1 (pc' := 57) (L' := [some (.ref q0), none, none, some (.int m3), some (.int ms0), none]) (st' := [.int (1 : Int32), .ref (q0 + 1)]) rfl ?_
    obtain ⟨v_4219, e_4219, e⟩ := Option.bind_eq_some_iff.mp e
    obtain ⟨z_4219, g_4219, p_4219⟩ := rp_aI hR (T12_1 t0) (T12_1l t0) L32_1 e_4219
    refine Rn.hp hT rfl rfl (aI_hp g_4219) ?_
    refine Rn.n hT 5 (pc' := 66) (L' := [some (.ref q0), none, none, some (.int m3), some (.int ms0), none]) (st' := [.int ((z_4219 - (1 : Int32)) - m3)]) rfl ?_
    exact Rn.weak (ll_n (ll_n (ll_n (ll_n (ll_s (ll_n ll_e)))))) (RX12_fromEdge_b66 hd hR ps0 (ti_sub (ti_sub p_4219 L32_1) p3) hq e)
def FX12_fromEdge (N : Nat) (s : iv_M) (q0 : Nat) (x1 : Int) : Option (Int) := ((rd s (q0 + 1) 14 0).bind fun v_4214 => (if (Int.tmod x1 4) ≤ (w32 ((w32 (v_4214 - 1)) - (Int.tmod x1 4))) then (FX12_fromEdge_b36 N s q0 (dv32 x1 4) (Int.tmod x1 4)) else ((rd s (q0 + 1) 14 0).bind fun v_4216 => (FX12_fromEdge_b36 N s q0 (dv32 x1 4) (w32 ((w32 (v_4216 - 1)) - (Int.tmod x1 4)))))))
set_option maxRecDepth 10000 in
set_option maxHeartbeats 4000000 in
theorem RX12_fromEdge {d N nc Ls : Nat} {Xs : Nat → Int32} (hd : 1 ≤ d) {h : iv_H} {s : iv_M} (hR : Rep nc Ls Xs h s) {q0 : Nat} (t0 : T12 nc q0) {m1 : Int32} {x1 : Int} (p1 : m1.toInt = x1) {r : Int} {Q : Option Value → iv_H → Prop} (e : FX12_fromEdge N s q0 x1 = some r) (hq : ∀ (z : Int32), z.toInt = r → Q (some (.int z)) h) : Cl d 327 [.ref q0, .int m1] h Q := by
  obtain ⟨d, rfl⟩ : ∃ k, d = k + 1 := ⟨d - 1, by omega⟩
  have hd : 0 ≤ d := by omega
  have hT := hX12_fromEdge
  unfold FX12_fromEdge at e
  refine Cl.into (by decide) gX12_fromEdge rfl ?_
  show Rn d 327 (some .int) 0 [some (.ref q0), some (.int m1), none, none, none, none] [] h Q
  refine Rn.n hT 9 (pc' := 9) (L' := [some (.ref q0), some (.int m1), some (.int (m1 - m1 / (4 : Int32) * (4 : Int32))), some (.int (m1 / (4 : Int32))), none, none]) (st' := [.ref q0]) rfl ?_
  refine Rn.hp hT rfl rfl (gR_hp (rp_gR hR (T12_o t0) rfl)) ?_
  refine Rn.n hT 1 (pc' := 13) (L' := [some (.ref q0), some (.int m1), some (.int (m1 - m1 / (4 : Int32) * (4 : Int32))), some (.int (m1 / (4 : Int32))), none, none]) (st' := [.int (0 : Int32), .ref (q0 + 1)]) rfl ?_
  obtain ⟨v_4214, e_4214, e⟩ := Option.bind_eq_some_iff.mp e
  obtain ⟨z_4214, g_4214, p_4214⟩ := rp_aI hR (T12_1 t0) (T12_1l t0) L32_0 e_4214
  refine Rn.hp hT rfl rfl (aI_hp g_4214) ?_
  refine Rn.n hT 5 (pc' := 19) (L' := [some (.ref q0), some (.int m1), some (.int (m1 - m1 / (4 : Int32) * (4 : Int32))), some (.int (m1 / (4 : Int32))), none, none]) (st' := [.int (m1 - m1 / (4 : Int32) * (4 : Int32)), .int ((z_4214 - (1 : Int32)) - (m1 - m1 / (4 : Int32) * (4 : Int32)))]) rfl ?_
  by_cases c_4215 : (Int.tmod x1 4) ≤ (w32 ((w32 (v_4214 - 1)) - (Int.tmod x1 4)))
  · rw [if_pos c_4215] at e
    refine Rn.bt hT rfl rfl rfl (decide_eq_true ((ti_le (ti_rem p1 L32_4) (ti_sub (ti_sub p_4214 L32_1) (ti_rem p1 L32_4))).mpr c_4215)) ?_
    refine Rn.n hT 1 (pc' := 36) (L' := [some (.ref q0), some (.int m1), some (.int (m1 - m1 / (4 : Int32) * (4 : Int32))), some (.int (m1 / (4 : Int32))), none, none]) (st' := [.int (m1 - m1 / (4 : Int32) * (4 : Int32))]) rfl ?_
    exact Rn.weak (ll_s (ll_n (ll_n (ll_s (ll_n (ll_n ll_e)))))) (RX12_fromEdge_b36 hd hR t0 (ti_div p1 L32_4) (ti_rem p1 L32_4) hq e)
  · rw [if_neg c_4215] at e
    refine Rn.bf hT rfl rfl rfl (decide_eq_false (fun z => c_4215 ((ti_le (ti_rem p1 L32_4) (ti_sub (ti_sub p_4214 L32_1) (ti_rem p1 L32_4))).mp z))) ?_
    refine Rn.n hT 1 (pc' := 23) (L' := [some (.ref q0), some (.int m1), some (.int (m1 - m1 / (4 : Int32) * (4 : Int32))), some (.int (m1 / (4 : Int32))), none, none]) (st' := [.ref q0]) rfl ?_
    refine Rn.hp hT rfl rfl (gR_hp (rp_gR hR (T12_o t0) rfl)) ?_
    refine Rn.n hT 1 (pc' := 27) (L' := [some (.ref q0), some (.int m1), some (.int (m1 - m1 / (4 : Int32) * (4 : Int32))), some (.int (m1 / (4 : Int32))), none, none]) (st' := [.int (0 : Int32), .ref (q0 + 1)]) rfl ?_
    obtain ⟨v_4216, e_4216, e⟩ := Option.bind_eq_some_iff.mp e
    obtain ⟨z_4216, g_4216, p_4216⟩ := rp_aI hR (T12_1 t0) (T12_1l t0) L32_0 e_4216
    refine Rn.hp hT rfl rfl (aI_hp g_4216) ?_
    refine Rn.n hT 5 (pc' := 36) (L' := [some (.ref q0), some (.int m1), some (.int (m1 - m1 / (4 : Int32) * (4 : Int32))), some (.int (m1 / (4 : Int32))), none, none]) (st' := [.int ((z_4216 - (1 : Int32)) - (m1 - m1 / (4 : Int32) * (4 : Int32)))]) rfl ?_
    exact Rn.weak (ll_s (ll_n (ll_n (ll_s (ll_n (ll_n ll_e)))))) (RX12_fromEdge_b36 hd hR t0 (ti_div p1 L32_4) (ti_sub (ti_sub p_4216 L32_1) (ti_rem p1 L32_4)) hq e)
set_option maxRecDepth 10000 in
theorem hX12_drift : iv_Tb 328 tX12_drift := iv_tb_of (m := mX12_drift) rfl
set_option maxRecDepth 10000 in
theorem gX12_drift : PG.2 328 = some mX12_drift := iv_pi_of (t := tX12_drift) rfl (by decide)
def FX12_drift_b19 (N : Nat) (s : iv_M)   : Option (Int) := (some (-1))
set_option maxRecDepth 10000 in
set_option maxHeartbeats 4000000 in
theorem RX12_drift_b19 {d N nc Ls : Nat} {Xs : Nat → Int32} (hd : 5 ≤ d) {h : iv_H} {s : iv_M} (hR : Rep nc Ls Xs h s)   {r : Int} {Q : Option Value → iv_H → Prop} (hq : ∀ (z : Int32), z.toInt = r → Q (some (.int z)) h) (e : FX12_drift_b19 N s   = some r) : Rn d 328 (some .int) 19 [none, none, none, none, none, none] [] h Q := by
  have hT := hX12_drift
  unfold FX12_drift_b19 at e
  refine Rn.n hT 1 (pc' := 20) (L' := [none, none, none, none, none, none]) (st' := [.int (-1 : Int32)]) rfl ?_
  obtain rfl := Option.some.inj e
  exact Rn.ret hT rfl rfl rfl (hq (-1 : Int32) L32_m1)
def FX12_drift_b96 (N : Nat) (s : iv_M) (q0 : Nat) (x1 : Int) (x2 : Int) (x4 : Int) (xs0 : Int) (kb : Int → Int → Int → Option (Int)) (kx : Int → Int → Option (Int)) : Option (Int) := (kb x2 xs0 (w32 (x4 + 1)))
set_option maxRecDepth 10000 in
set_option maxHeartbeats 4000000 in
theorem RX12_drift_b96 {d N nc Ls : Nat} {Xs : Nat → Int32} (hd : 5 ≤ d) {h : iv_H} {s : iv_M} (hR : Rep nc Ls Xs h s) {q0 : Nat} (t0 : T12 nc q0) {m1 : Int32} {x1 : Int} (p1 : m1.toInt = x1) {m2 : Int32} {x2 : Int} (p2 : m2.toInt = x2) {m4 : Int32} {x4 : Int} (p4 : m4.toInt = x4) {ms0 : Int32} {xs0 : Int} (ps0 : ms0.toInt = xs0) {kb : Int → Int → Int → Option (Int)} {kx : Int → Int → Option (Int)} {r : Int} {Q : Option Value → iv_H → Prop} (hb : ∀ (mw2 : Int32) (xw2 : Int) (pw2 : mw2.toInt = xw2) (mw3 : Int32) (xw3 : Int) (pw3 : mw3.toInt = xw3) (mw4 : Int32) (xw4 : Int) (pw4 : mw4.toInt = xw4), kb xw2 xw3 xw4 = some r → Rn d 328 (some .int) 29 [some (.ref q0), some (.int m1), some (.int mw2), some (.int mw3), some (.int mw4), none] [] h Q) (hk : ∀ (mw2 : Int32) (xw2 : Int) (pw2 : mw2.toInt = xw2) (mw3 : Int32) (xw3 : Int) (pw3 : mw3.toInt = xw3), kx xw2 xw3 = some r → Rn d 328 (some .int) 103 [some (.ref q0), some (.int m1), some (.int mw2), some (.int mw3), none, none] [] h Q) (hq : ∀ (z : Int32), z.toInt = r → Q (some (.int z)) h) (e : FX12_drift_b96 N s q0 x1 x2 x4 xs0 kb kx = some r) : Rn d 328 (some .int) 96 [some (.ref q0), some (.int m1), some (.int m2), none, some (.int m4), none] [.int ms0] h Q := by
  have hT := hX12_drift
  unfold FX12_drift_b96 at e
  refine Rn.n hT 3 (pc' := 29) (L' := [some (.ref q0), some (.int m1), some (.int m2), some (.int ms0), some (.int (m4 + (1 : Int32))), none]) (st' := []) rfl ?_
  exact Rn.weak (ll_s (ll_s (ll_s (ll_s (ll_s (ll_n ll_e)))))) (hb m2 x2 p2 ms0 xs0 ps0 (m4 + (1 : Int32)) (w32 (x4 + 1)) (ti_add p4 L32_1) e)
def FX12_drift_b90 (N : Nat) (s : iv_M) (q0 : Nat) (x1 : Int) (x2 : Int) (x4 : Int)  (kb : Int → Int → Int → Option (Int)) (kx : Int → Int → Option (Int)) : Option (Int) := (FX12_drift_b96 N s q0 x1 x2 x4 x4 kb kx)
set_option maxRecDepth 10000 in
set_option maxHeartbeats 4000000 in
theorem RX12_drift_b90 {d N nc Ls : Nat} {Xs : Nat → Int32} (hd : 5 ≤ d) {h : iv_H} {s : iv_M} (hR : Rep nc Ls Xs h s) {q0 : Nat} (t0 : T12 nc q0) {m1 : Int32} {x1 : Int} (p1 : m1.toInt = x1) {m2 : Int32} {x2 : Int} (p2 : m2.toInt = x2) {m4 : Int32} {x4 : Int} (p4 : m4.toInt = x4)  {kb : Int → Int → Int → Option (Int)} {kx : Int → Int → Option (Int)} {r : Int} {Q : Option Value → iv_H → Prop} (hb : ∀ (mw2 : Int32) (xw2 : Int) (pw2 : mw2.toInt = xw2) (mw3 : Int32) (xw3 : Int) (pw3 : mw3.toInt = xw3) (mw4 : Int32) (xw4 : Int) (pw4 : mw4.toInt = xw4), kb xw2 xw3 xw4 = some r → Rn d 328 (some .int) 29 [some (.ref q0), some (.int m1), some (.int mw2), some (.int mw3), some (.int mw4), none] [] h Q) (hk : ∀ (mw2 : Int32) (xw2 : Int) (pw2 : mw2.toInt = xw2) (mw3 : Int32) (xw3 : Int) (pw3 : mw3.toInt = xw3), kx xw2 xw3 = some r → Rn d 328 (some .int) 103 [some (.ref q0), some (.int m1), some (.int mw2), some (.int mw3), none, none] [] h Q) (hq : ∀ (z : Int32), z.toInt = r → Q (some (.int z)) h) (e : FX12_drift_b90 N s q0 x1 x2 x4  kb kx = some r) : Rn d 328 (some .int) 90 [some (.ref q0), some (.int m1), some (.int m2), none, some (.int m4), none] [] h Q := by
  have hT := hX12_drift
  unfold FX12_drift_b90 at e
  refine Rn.n hT 2 (pc' := 96) (L' := [some (.ref q0), some (.int m1), some (.int m2), none, some (.int m4), none]) (st' := [.int m4]) rfl ?_
  exact Rn.weak (ll_s (ll_s (ll_s (ll_n (ll_s (ll_n ll_e)))))) (RX12_drift_b96 hd hR t0 p1 p2 p4 p4 hb hk hq e)
def FX12_drift_b66 (N : Nat) (s : iv_M) (q0 : Nat) (x1 : Int) (x3 : Int) (x4 : Int) (xs0 : Int) (xs1 : Int) (kb : Int → Int → Int → Option (Int)) (kx : Int → Int → Option (Int)) : Option (Int) := (if x3 = (-2) then (FX12_drift_b90 N s q0 x1 (w32 (xs1 + xs0)) x4 kb kx) else ((FX12_doorsOf N s q0 x4 0).bind fun v_4237 => ((FX12_doorsOf N s q0 x3 0).bind fun v_4238 => (if v_4237 ≤ v_4238 then (FX12_drift_b96 N s q0 x1 (w32 (xs1 + xs0)) x4 x3 kb kx) else (FX12_drift_b90 N s q0 x1 (w32 (xs1 + xs0)) x4 kb kx)))))
set_option maxRecDepth 10000 in
set_option maxHeartbeats 4000000 in
theorem RX12_drift_b66 {d N nc Ls : Nat} {Xs : Nat → Int32} (hd : 5 ≤ d) {h : iv_H} {s : iv_M} (hR : Rep nc Ls Xs h s) {q0 : Nat} (t0 : T12 nc q0) {m1 : Int32} {x1 : Int} (p1 : m1.toInt = x1) {m3 : Int32} {x3 : Int} (p3 : m3.toInt = x3) {m4 : Int32} {x4 : Int} (p4 : m4.toInt = x4) {ms0 : Int32} {xs0 : Int} (ps0 : ms0.toInt = xs0) {ms1 : Int32} {xs1 : Int} (ps1 : ms1.toInt = xs1) {kb : Int → Int → Int → Option (Int)} {kx : Int → Int → Option (Int)} {r : Int} {Q : Option Value → iv_H → Prop} (hb : ∀ (mw2 : Int32) (xw2 : Int) (pw2 : mw2.toInt = xw2) (mw3 : Int32) (xw3 : Int) (pw3 : mw3.toInt = xw3) (mw4 : Int32) (xw4 : Int) (pw4 : mw4.toInt = xw4), kb xw2 xw3 xw4 = some r → Rn d 328 (some .int) 29 [some (.ref q0), some (.int m1), some (.int mw2), some (.int mw3), some (.int mw4), none] [] h Q) (hk : ∀ (mw2 : Int32) (xw2 : Int) (pw2 : mw2.toInt = xw2) (mw3 : Int32) (xw3 : Int) (pw3 : mw3.toInt = xw3), kx xw2 xw3 = some r → Rn d 328 (some .int) 103 [some (.ref q0), some (.int m1), some (.int mw2), some (.int mw3), none, none] [] h Q) (hq : ∀ (z : Int32), z.toInt = r → Q (some (.int z)) h) (e : FX12_drift_b66 N s q0 x1 x3 x4 xs0 xs1 kb kx = some r) : Rn d 328 (some .int) 66 [some (.ref q0), some (.int m1), none, some (.int m3), some (.int m4), none] [.int ms0, .int ms1] h Q := by
  have hT := hX12_drift
  unfold FX12_drift_b66 at e
  refine Rn.n hT 4 (pc' := 71) (L' := [some (.ref q0), some (.int m1), some (.int (ms1 + ms0)), some (.int m3), some (.int m4), none]) (st' := [.int (-2 : Int32), .int m3]) rfl ?_
  by_cases c_4236 : x3 = (-2)
  · rw [if_pos c_4236] at e
    refine Rn.bt hT rfl rfl rfl (decide_eq_true ((ti_e p3 L32_m2).mpr c_4236)) ?_
    exact Rn.weak (ll_s (ll_s (ll_s (ll_n (ll_s (ll_n ll_e)))))) (RX12_drift_b90 hd hR t0 p1 (ti_add ps1 ps0) p4 hb hk hq e)
  · rw [if_neg c_4236] at e
    refine Rn.bf hT rfl rfl rfl (decide_eq_false (fun z => c_4236 ((ti_e p3 L32_m2).mp z))) ?_
    refine Rn.n hT 3 (pc' := 78) (L' := [some (.ref q0), some (.int m1), some (.int (ms1 + ms0)), some (.int m3), some (.int m4), none]) (st' := [.int (0 : Int32), .int m4, .ref q0]) rfl ?_
    obtain ⟨v_4237, e_4237, e⟩ := Option.bind_eq_some_iff.mp e
    refine Rn.call hT rfl rfl rfl (Nat.le_of_ble_eq_true rfl) (rcv_v gX12_doorsOf (by omega) (rp_ck hR (T12_o t0))) (RX12_doorsOf (by omega) hR t0 p4 L32_0 e_4237 (fun z_4237 p_4237 => ?_))
    show Rn d _ _ 81 [some (.ref q0), some (.int m1), some (.int (ms1 + ms0)), some (.int m3), some (.int m4), none] [.int z_4237] h Q
    refine Rn.n hT 3 (pc' := 84) (L' := [some (.ref q0), some (.int m1), some (.int (ms1 + ms0)), some (.int m3), some (.int m4), none]) (st' := [.int (0 : Int32), .int m3, .ref q0, .int z_4237]) rfl ?_
    obtain ⟨v_4238, e_4238, e⟩ := Option.bind_eq_some_iff.mp e
    refine Rn.call hT rfl rfl rfl (Nat.le_of_ble_eq_true rfl) (rcv_v gX12_doorsOf (by omega) (rp_ck hR (T12_o t0))) (RX12_doorsOf (by omega) hR t0 p3 L32_0 e_4238 (fun z_4238 p_4238 => ?_))
    show Rn d _ _ 87 [some (.ref q0), some (.int m1), some (.int (ms1 + ms0)), some (.int m3), some (.int m4), none] [.int z_4238, .int z_4237] h Q
    by_cases c_4239 : v_4237 ≤ v_4238
    · rw [if_pos c_4239] at e
      refine Rn.bt hT rfl rfl rfl (decide_eq_true ((ti_le p_4237 p_4238).mpr c_4239)) ?_
      refine Rn.n hT 1 (pc' := 96) (L' := [some (.ref q0), some (.int m1), some (.int (ms1 + ms0)), some (.int m3), some (.int m4), none]) (st' := [.int m3]) rfl ?_
      exact Rn.weak (ll_s (ll_s (ll_s (ll_n (ll_s (ll_n ll_e)))))) (RX12_drift_b96 hd hR t0 p1 (ti_add ps1 ps0) p4 p3 hb hk hq e)
    · rw [if_neg c_4239] at e
      refine Rn.bf hT rfl rfl rfl (decide_eq_false (fun z => c_4239 ((ti_le p_4237 p_4238).mp z))) ?_
      exact Rn.weak (ll_s (ll_s (ll_s (ll_n (ll_s (ll_n ll_e)))))) (RX12_drift_b90 hd hR t0 p1 (ti_add ps1 ps0) p4 hb hk hq e)
def FX12_drift_l29 (N : Nat) (s : iv_M) (q0 : Nat) (x1 : Int) (kx : Int → Int → Option (Int)) : Nat → Int → Int → Int → Option (Int)
  | 0, _, _, _ => none
  | n + 1, x2, x3, x4 => ((rd s (q0 + 1) 14 2).bind fun v_4230 => (if v_4230 ≤ x4 then (kx x2 x3) else ((FX12_doorsOf N s q0 x4 1).bind fun v_4232 => (if v_4232 ≤ 0 then (FX12_drift_b66 N s q0 x1 x3 x4 0 x2 (FX12_drift_l29 N s q0 x1 kx n) kx) else ((rd s (q0 + 3) 12 x4).bind fun v_4234 => ((FX12_fromEdge N s q0 v_4234).bind fun v_4235 => (FX12_drift_b66 N s q0 x1 x3 x4 v_4235 x2 (FX12_drift_l29 N s q0 x1 kx n) kx)))))))
set_option maxRecDepth 10000 in
set_option maxHeartbeats 4000000 in
theorem RX12_drift_l29 {d N nc Ls : Nat} {Xs : Nat → Int32} (hd : 5 ≤ d) {h : iv_H} {s : iv_M} (hR : Rep nc Ls Xs h s) {q0 : Nat} (t0 : T12 nc q0) {m1 : Int32} {x1 : Int} (p1 : m1.toInt = x1) {kx : Int → Int → Option (Int)} {r : Int} {Q : Option Value → iv_H → Prop} (hk : ∀ (m2 : Int32) (x2 : Int) (p2 : m2.toInt = x2) (m3 : Int32) (x3 : Int) (p3 : m3.toInt = x3), kx x2 x3 = some r → Rn d 328 (some .int) 103 [some (.ref q0), some (.int m1), some (.int m2), some (.int m3), none, none] [] h Q) (hq : ∀ (z : Int32), z.toInt = r → Q (some (.int z)) h) : ∀ (n : Nat) (m2 : Int32) (x2 : Int) (p2 : m2.toInt = x2) (m3 : Int32) (x3 : Int) (p3 : m3.toInt = x3) (m4 : Int32) (x4 : Int) (p4 : m4.toInt = x4), FX12_drift_l29 N s q0 x1 kx n x2 x3 x4 = some r → Rn d 328 (some .int) 29 [some (.ref q0), some (.int m1), some (.int m2), some (.int m3), some (.int m4), none] [] h Q := by
  have hT := hX12_drift
  intro n
  induction n with
  | zero =>
    intro m2 x2 p2 m3 x3 p3 m4 x4 p4 e
    rw [FX12_drift_l29] at e
    cases e
  | succ n ih =>
    intro m2 x2 p2 m3 x3 p3 m4 x4 p4 e
    rw [FX12_drift_l29] at e
    refine Rn.n hT 2 (pc' := 32) (L' := [some (.ref q0), some (.int m1), some (.int m2), some (.int m3), some (.int m4), none]) (st' := [.ref q0, .int m4]) rfl ?_
    refine Rn.hp hT rfl rfl (gR_hp (rp_gR hR (T12_o t0) rfl)) ?_
    refine Rn.n hT 1 (pc' := 36) (L' := [some (.ref q0), some (.int m1), some (.int m2), some (.int m3), some (.int m4), none]) (st' := [.int (2 : Int32), .ref (q0 + 1), .int m4]) rfl ?_
    obtain ⟨v_4230, e_4230, e⟩ := Option.bind_eq_some_iff.mp e
    obtain ⟨z_4230, g_4230, p_4230⟩ := rp_aI hR (T12_1 t0) (T12_1l t0) L32_2 e_4230
    refine Rn.hp hT rfl rfl (aI_hp g_4230) ?_
    by_cases c_4231 : v_4230 ≤ x4
    · rw [if_pos c_4231] at e
      refine Rn.bt hT rfl rfl rfl (decide_eq_true ((ti_le p_4230 p4).mpr c_4231)) ?_
      exact Rn.weak (ll_s (ll_s (ll_s (ll_s (ll_n (ll_n ll_e)))))) (hk m2 x2 p2 m3 x3 p3 e)
    · rw [if_neg c_4231] at e
      refine Rn.bf hT rfl rfl rfl (decide_eq_false (fun z => c_4231 ((ti_le p_4230 p4).mp z))) ?_
      refine Rn.n hT 4 (pc' := 45) (L' := [some (.ref q0), some (.int m1), some (.int m2), some (.int m3), some (.int m4), none]) (st' := [.int (1 : Int32), .int m4, .ref q0, .int m2]) rfl ?_
      obtain ⟨v_4232, e_4232, e⟩ := Option.bind_eq_some_iff.mp e
      refine Rn.call hT rfl rfl rfl (Nat.le_of_ble_eq_true rfl) (rcv_v gX12_doorsOf (by omega) (rp_ck hR (T12_o t0))) (RX12_doorsOf (by omega) hR t0 p4 L32_1 e_4232 (fun z_4232 p_4232 => ?_))
      show Rn d _ _ 48 [some (.ref q0), some (.int m1), some (.int m2), some (.int m3), some (.int m4), none] [.int z_4232, .int m2] h Q
      by_cases c_4233 : v_4232 ≤ 0
      · rw [if_pos c_4233] at e
        refine Rn.bt hT rfl rfl rfl (decide_eq_true ((ti_le p_4232 L32_0).mpr c_4233)) ?_
        refine Rn.n hT 1 (pc' := 66) (L' := [some (.ref q0), some (.int m1), some (.int m2), some (.int m3), some (.int m4), none]) (st' := [.int (0 : Int32), .int m2]) rfl ?_
        exact Rn.weak (ll_s (ll_s (ll_n (ll_s (ll_s (ll_n ll_e)))))) (RX12_drift_b66 hd hR t0 p1 p3 p4 L32_0 p2 ih hk hq e)
      · rw [if_neg c_4233] at e
        refine Rn.bf hT rfl rfl rfl (decide_eq_false (fun z => c_4233 ((ti_le p_4232 L32_0).mp z))) ?_
        refine Rn.n hT 2 (pc' := 53) (L' := [some (.ref q0), some (.int m1), some (.int m2), some (.int m3), some (.int m4), none]) (st' := [.ref q0, .ref q0, .int m2]) rfl ?_
        refine Rn.hp hT rfl rfl (gR_hp (rp_gR hR (T12_o t0) rfl)) ?_
        refine Rn.n hT 1 (pc' := 58) (L' := [some (.ref q0), some (.int m1), some (.int m2), some (.int m3), some (.int m4), none]) (st' := [.int m4, .ref (q0 + 3), .ref q0, .int m2]) rfl ?_
        obtain ⟨v_4234, e_4234, e⟩ := Option.bind_eq_some_iff.mp e
        obtain ⟨z_4234, g_4234, p_4234⟩ := rp_aI hR (T12_3 t0) (T12_3l t0) p4 e_4234
        refine Rn.hp hT rfl rfl (aI_hp g_4234) ?_
        obtain ⟨v_4235, e_4235, e⟩ := Option.bind_eq_some_iff.mp e
        refine Rn.call hT rfl rfl rfl (Nat.le_of_ble_eq_true rfl) (rcv_v gX12_fromEdge (by omega) (rp_ck hR (T12_o t0))) (RX12_fromEdge (by omega) hR t0 p_4234 e_4235 (fun z_4235 p_4235 => ?_))
        show Rn d _ _ 62 [some (.ref q0), some (.int m1), some (.int m2), some (.int m3), some (.int m4), none] [.int z_4235, .int m2] h Q
        refine Rn.n hT 1 (pc' := 66) (L' := [some (.ref q0), some (.int m1), some (.int m2), some (.int m3), some (.int m4), none]) (st' := [.int z_4235, .int m2]) rfl ?_
        exact Rn.weak (ll_s (ll_s (ll_n (ll_s (ll_s (ll_n ll_e)))))) (RX12_drift_b66 hd hR t0 p1 p3 p4 p_4235 p2 ih hk hq e)
def FX12_drift_b127 (N : Nat) (s : iv_M)  (xs0 : Int) : Option (Int) := (some xs0)
set_option maxRecDepth 10000 in
set_option maxHeartbeats 4000000 in
theorem RX12_drift_b127 {d N nc Ls : Nat} {Xs : Nat → Int32} (hd : 5 ≤ d) {h : iv_H} {s : iv_M} (hR : Rep nc Ls Xs h s)  {ms0 : Int32} {xs0 : Int} (ps0 : ms0.toInt = xs0) {r : Int} {Q : Option Value → iv_H → Prop} (hq : ∀ (z : Int32), z.toInt = r → Q (some (.int z)) h) (e : FX12_drift_b127 N s  xs0 = some r) : Rn d 328 (some .int) 127 [none, none, none, none, none, none] [.int ms0] h Q := by
  have hT := hX12_drift
  unfold FX12_drift_b127 at e
  obtain rfl := Option.some.inj e
  exact Rn.ret hT rfl rfl rfl (hq ms0 ps0)
def FX12_drift_b118 (N : Nat) (s : iv_M) (x1 : Int) (x2 : Int) (x3 : Int)  : Option (Int) := (if x1 = 0 then (FX12_drift_b127 N s x2) else (FX12_drift_b127 N s x3))
set_option maxRecDepth 10000 in
set_option maxHeartbeats 4000000 in
theorem RX12_drift_b118 {d N nc Ls : Nat} {Xs : Nat → Int32} (hd : 5 ≤ d) {h : iv_H} {s : iv_M} (hR : Rep nc Ls Xs h s) {m1 : Int32} {x1 : Int} (p1 : m1.toInt = x1) {m2 : Int32} {x2 : Int} (p2 : m2.toInt = x2) {m3 : Int32} {x3 : Int} (p3 : m3.toInt = x3)  {r : Int} {Q : Option Value → iv_H → Prop} (hq : ∀ (z : Int32), z.toInt = r → Q (some (.int z)) h) (e : FX12_drift_b118 N s x1 x2 x3  = some r) : Rn d 328 (some .int) 118 [none, some (.int m1), some (.int m2), some (.int m3), none, none] [] h Q := by
  have hT := hX12_drift
  unfold FX12_drift_b118 at e
  refine Rn.n hT 1 (pc' := 119) (L' := [none, some (.int m1), some (.int m2), some (.int m3), none, none]) (st' := [.int m1]) rfl ?_
  by_cases c_4240 : x1 = 0
  · rw [if_pos c_4240] at e
    refine Rn.bf hT rfl rfl rfl (decide_eq_false (fun z => z ((ti_e p1 L32_0).mpr c_4240))) ?_
    refine Rn.n hT 2 (pc' := 127) (L' := [none, some (.int m1), some (.int m2), some (.int m3), none, none]) (st' := [.int m2]) rfl ?_
    exact Rn.weak (ll_n (ll_n (ll_n (ll_n (ll_n (ll_n ll_e)))))) (RX12_drift_b127 hd hR p2 hq e)
  · rw [if_neg c_4240] at e
    refine Rn.bt hT rfl rfl rfl (decide_eq_true (fun z => c_4240 ((ti_e p1 L32_0).mp z))) ?_
    refine Rn.n hT 1 (pc' := 127) (L' := [none, some (.int m1), some (.int m2), some (.int m3), none, none]) (st' := [.int m3]) rfl ?_
    exact Rn.weak (ll_n (ll_n (ll_n (ll_n (ll_n (ll_n ll_e)))))) (RX12_drift_b127 hd hR p3 hq e)
def FX12_drift_b157 (N : Nat) (s : iv_M) (q0 : Nat) (x3 : Int) (x5 : Int) (xs0 : Int) (xs1 : Int) (kb : Int → Int → Option (Int)) (kx : Int → Option (Int)) : Option (Int) := (kb (w32 (xs1 + xs0)) (w32 (x5 + 1)))
set_option maxRecDepth 10000 in
set_option maxHeartbeats 4000000 in
theorem RX12_drift_b157 {d N nc Ls : Nat} {Xs : Nat → Int32} (hd : 5 ≤ d) {h : iv_H} {s : iv_M} (hR : Rep nc Ls Xs h s) {q0 : Nat} (t0 : T12 nc q0) {m3 : Int32} {x3 : Int} (p3 : m3.toInt = x3) {m5 : Int32} {x5 : Int} (p5 : m5.toInt = x5) {ms0 : Int32} {xs0 : Int} (ps0 : ms0.toInt = xs0) {ms1 : Int32} {xs1 : Int} (ps1 : ms1.toInt = xs1) {kb : Int → Int → Option (Int)} {kx : Int → Option (Int)} {r : Int} {Q : Option Value → iv_H → Prop} (hb : ∀ (mw4 : Int32) (xw4 : Int) (pw4 : mw4.toInt = xw4) (mw5 : Int32) (xw5 : Int) (pw5 : mw5.toInt = xw5), kb xw4 xw5 = some r → Rn d 328 (some .int) 134 [some (.ref q0), none, none, some (.int m3), some (.int mw4), some (.int mw5)] [] h Q) (hk : ∀ (mw4 : Int32) (xw4 : Int) (pw4 : mw4.toInt = xw4), kx xw4 = some r → Rn d 328 (some .int) 166 [none, none, none, none, some (.int mw4), none] [] h Q) (hq : ∀ (z : Int32), z.toInt = r → Q (some (.int z)) h) (e : FX12_drift_b157 N s q0 x3 x5 xs0 xs1 kb kx = some r) : Rn d 328 (some .int) 157 [some (.ref q0), none, none, some (.int m3), none, some (.int m5)] [.int ms0, .int ms1] h Q := by
  have hT := hX12_drift
  unfold FX12_drift_b157 at e
  refine Rn.n hT 4 (pc' := 134) (L' := [some (.ref q0), none, none, some (.int m3), some (.int (ms1 + ms0)), some (.int (m5 + (1 : Int32)))]) (st' := []) rfl ?_
  exact Rn.weak (ll_s (ll_n (ll_n (ll_s (ll_s (ll_s ll_e)))))) (hb (ms1 + ms0) (w32 (xs1 + xs0)) (ti_add ps1 ps0) (m5 + (1 : Int32)) (w32 (x5 + 1)) (ti_add p5 L32_1) e)
def FX12_drift_l134 (N : Nat) (s : iv_M) (q0 : Nat) (x3 : Int) (kx : Int → Option (Int)) : Nat → Int → Int → Option (Int)
  | 0, _, _ => none
  | n + 1, x4, x5 => (if 4 ≤ x5 then (kx x4) else ((FX12_isDoorToDoor N s q0 x3 x5).bind fun v_4242 => (if v_4242 = 0 then (FX12_drift_b157 N s q0 x3 x5 0 x4 (FX12_drift_l134 N s q0 x3 kx n) kx) else (FX12_drift_b157 N s q0 x3 x5 1 x4 (FX12_drift_l134 N s q0 x3 kx n) kx))))
set_option maxRecDepth 10000 in
set_option maxHeartbeats 4000000 in
theorem RX12_drift_l134 {d N nc Ls : Nat} {Xs : Nat → Int32} (hd : 5 ≤ d) {h : iv_H} {s : iv_M} (hR : Rep nc Ls Xs h s) {q0 : Nat} (t0 : T12 nc q0) {m3 : Int32} {x3 : Int} (p3 : m3.toInt = x3) {kx : Int → Option (Int)} {r : Int} {Q : Option Value → iv_H → Prop} (hk : ∀ (m4 : Int32) (x4 : Int) (p4 : m4.toInt = x4), kx x4 = some r → Rn d 328 (some .int) 166 [none, none, none, none, some (.int m4), none] [] h Q) (hq : ∀ (z : Int32), z.toInt = r → Q (some (.int z)) h) : ∀ (n : Nat) (m4 : Int32) (x4 : Int) (p4 : m4.toInt = x4) (m5 : Int32) (x5 : Int) (p5 : m5.toInt = x5), FX12_drift_l134 N s q0 x3 kx n x4 x5 = some r → Rn d 328 (some .int) 134 [some (.ref q0), none, none, some (.int m3), some (.int m4), some (.int m5)] [] h Q := by
  have hT := hX12_drift
  intro n
  induction n with
  | zero =>
    intro m4 x4 p4 m5 x5 p5 e
    rw [FX12_drift_l134] at e
    cases e
  | succ n ih =>
    intro m4 x4 p4 m5 x5 p5 e
    rw [FX12_drift_l134] at e
    refine Rn.n hT 2 (pc' := 137) (L' := [some (.ref q0), none, none, some (.int m3), some (.int m4), some (.int m5)]) (st' := [.int (4 : Int32), .int m5]) rfl ?_
    by_cases c_4241 : 4 ≤ x5
    · rw [if_pos c_4241] at e
      refine Rn.bt hT rfl rfl rfl (decide_eq_true ((ti_le L32_4 p5).mpr c_4241)) ?_
      exact Rn.weak (ll_n (ll_n (ll_n (ll_n (ll_s (ll_n ll_e)))))) (hk m4 x4 p4 e)
    · rw [if_neg c_4241] at e
      refine Rn.bf hT rfl rfl rfl (decide_eq_false (fun z => c_4241 ((ti_le L32_4 p5).mp z))) ?_
      refine Rn.n hT 4 (pc' := 146) (L' := [some (.ref q0), none, none, some (.int m3), some (.int m4), some (.int m5)]) (st' := [.int m5, .int m3, .ref q0, .int m4]) rfl ?_
      obtain ⟨v_4242, e_4242, e⟩ := Option.bind_eq_some_iff.mp e
      refine Rn.call hT rfl rfl rfl (Nat.le_of_ble_eq_true rfl) (rcv_v gX12_isDoorToDoor (by omega) (rp_ck hR (T12_o t0))) (RX12_isDoorToDoor (by omega) hR t0 p3 p5 e_4242 (fun z_4242 p_4242 => ?_))
      show Rn d _ _ 149 [some (.ref q0), none, none, some (.int m3), some (.int m4), some (.int m5)] [.int z_4242, .int m4] h Q
      by_cases c_4243 : v_4242 = 0
      · rw [if_pos c_4243] at e
        refine Rn.bt hT rfl rfl rfl (decide_eq_true ((ti_e p_4242 L32_0).mpr c_4243)) ?_
        refine Rn.n hT 1 (pc' := 157) (L' := [some (.ref q0), none, none, some (.int m3), some (.int m4), some (.int m5)]) (st' := [.int (0 : Int32), .int m4]) rfl ?_
        exact Rn.weak (ll_s (ll_n (ll_n (ll_s (ll_n (ll_s ll_e)))))) (RX12_drift_b157 hd hR t0 p3 p5 L32_0 p4 ih hk hq e)
      · rw [if_neg c_4243] at e
        refine Rn.bf hT rfl rfl rfl (decide_eq_false (fun z => c_4243 ((ti_e p_4242 L32_0).mp z))) ?_
        refine Rn.n hT 2 (pc' := 157) (L' := [some (.ref q0), none, none, some (.int m3), some (.int m4), some (.int m5)]) (st' := [.int (1 : Int32), .int m4]) rfl ?_
        exact Rn.weak (ll_s (ll_n (ll_n (ll_s (ll_n (ll_s ll_e)))))) (RX12_drift_b157 hd hR t0 p3 p5 L32_1 p4 ih hk hq e)
def FX12_drift (N : Nat) (s : iv_M) (q0 : Nat) (x1 : Int) : Option (Int) := ((FX12_isPalace N s q0).bind fun v_4221 => (if v_4221 = 0 then (FX12_drift_b19 N s) else ((FX12_in N s x1 0 2).bind fun v_4223 => (if v_4223 = 0 then (FX12_drift_b19 N s) else (FX12_drift_l29 N s q0 x1 (fun (x4225_2 : Int) (x4225_3 : Int) => (if x1 = 0 then (FX12_drift_b118 N s x1 x4225_2 x4225_3) else (if x1 = 1 then (FX12_drift_b118 N s x1 x4225_2 x4225_3) else (if x4225_3 = (-2) then (FX12_drift_b118 N s x1 x4225_2 x4225_3) else (FX12_drift_l134 N s q0 x4225_3 (fun (x4229_4 : Int) => (some x4229_4)) N 0 0))))) N 0 (-2) 0)))))
set_option maxRecDepth 10000 in
set_option maxHeartbeats 4000000 in
theorem RX12_drift {d N nc Ls : Nat} {Xs : Nat → Int32} (hd : 6 ≤ d) {h : iv_H} {s : iv_M} (hR : Rep nc Ls Xs h s) {q0 : Nat} (t0 : T12 nc q0) {m1 : Int32} {x1 : Int} (p1 : m1.toInt = x1) {r : Int} {Q : Option Value → iv_H → Prop} (e : FX12_drift N s q0 x1 = some r) (hq : ∀ (z : Int32), z.toInt = r → Q (some (.int z)) h) : Cl d 328 [.ref q0, .int m1] h Q := by
  obtain ⟨d, rfl⟩ : ∃ k, d = k + 1 := ⟨d - 1, by omega⟩
  have hd : 5 ≤ d := by omega
  have hT := hX12_drift
  unfold FX12_drift at e
  refine Cl.into (by decide) gX12_drift rfl ?_
  show Rn d 328 (some .int) 0 [some (.ref q0), some (.int m1), none, none, none, none] [] h Q
  refine Rn.n hT 1 (pc' := 1) (L' := [some (.ref q0), some (.int m1), none, none, none, none]) (st' := [.ref q0]) rfl ?_
  obtain ⟨v_4221, e_4221, e⟩ := Option.bind_eq_some_iff.mp e
  refine Rn.call hT rfl rfl rfl (Nat.le_of_ble_eq_true rfl) (rcv_v gX12_isPalace (by omega) (rp_ck hR (T12_o t0))) (RX12_isPalace (by omega) hR t0 e_4221 (fun z_4221 p_4221 => ?_))
  show Rn d _ _ 4 [some (.ref q0), some (.int m1), none, none, none, none] [.int z_4221] h Q
  by_cases c_4222 : v_4221 = 0
  · rw [if_pos c_4222] at e
    refine Rn.bt hT rfl rfl rfl (decide_eq_true ((ti_e p_4221 L32_0).mpr c_4222)) ?_
    exact Rn.weak (ll_n (ll_n (ll_n (ll_n (ll_n (ll_n ll_e)))))) (RX12_drift_b19 hd hR hq e)
  · rw [if_neg c_4222] at e
    refine Rn.bf hT rfl rfl rfl (decide_eq_false (fun z => c_4222 ((ti_e p_4221 L32_0).mp z))) ?_
    refine Rn.n hT 4 (pc' := 13) (L' := [some (.ref q0), some (.int m1), none, none, none, none]) (st' := [.long (2 : Int64), .long (0 : Int64), .long ((m1).toInt64)]) rfl ?_
    obtain ⟨v_4223, e_4223, e⟩ := Option.bind_eq_some_iff.mp e
    refine Rn.call hT rfl rfl rfl (Nat.le_of_ble_eq_true rfl) rfl (RX12_in (by omega) hR (ti_j p1) L64_0 L64_2 e_4223 (fun z_4223 p_4223 => ?_))
    show Rn d _ _ 16 [some (.ref q0), some (.int m1), none, none, none, none] [.int z_4223] h Q
    by_cases c_4224 : v_4223 = 0
    · rw [if_pos c_4224] at e
      refine Rn.bf hT rfl rfl rfl (decide_eq_false (fun z => z ((ti_e p_4223 L32_0).mpr c_4224))) ?_
      exact Rn.weak (ll_n (ll_n (ll_n (ll_n (ll_n (ll_n ll_e)))))) (RX12_drift_b19 hd hR hq e)
    · rw [if_neg c_4224] at e
      refine Rn.bt hT rfl rfl rfl (decide_eq_true (fun z => c_4224 ((ti_e p_4223 L32_0).mp z))) ?_
      refine Rn.n hT 6 (pc' := 29) (L' := [some (.ref q0), some (.int m1), some (.int (0 : Int32)), some (.int (-2 : Int32)), some (.int (0 : Int32)), none]) (st' := []) rfl ?_
      refine Rn.weak (ll_s (ll_s (ll_s (ll_s (ll_s (ll_n ll_e)))))) (RX12_drift_l29 hd hR t0 p1 (fun m4225_2 x4225_2 p4225_2 m4225_3 x4225_3 p4225_3 e => ?_) hq N (0 : Int32) 0 L32_0 (-2 : Int32) (-2) L32_m2 (0 : Int32) 0 L32_0 e)
      try dsimp only at e
      refine Rn.n hT 1 (pc' := 104) (L' := [some (.ref q0), some (.int m1), some (.int m4225_2), some (.int m4225_3), none, none]) (st' := [.int m1]) rfl ?_
      by_cases c_4226 : x1 = 0
      · rw [if_pos c_4226] at e
        refine Rn.bt hT rfl rfl rfl (decide_eq_true ((ti_e p1 L32_0).mpr c_4226)) ?_
        exact Rn.weak (ll_n (ll_s (ll_s (ll_s (ll_n (ll_n ll_e)))))) (RX12_drift_b118 hd hR p1 p4225_2 p4225_3 hq e)
      · rw [if_neg c_4226] at e
        refine Rn.bf hT rfl rfl rfl (decide_eq_false (fun z => c_4226 ((ti_e p1 L32_0).mp z))) ?_
        refine Rn.n hT 2 (pc' := 109) (L' := [some (.ref q0), some (.int m1), some (.int m4225_2), some (.int m4225_3), none, none]) (st' := [.int (1 : Int32), .int m1]) rfl ?_
        by_cases c_4227 : x1 = 1
        · rw [if_pos c_4227] at e
          refine Rn.bt hT rfl rfl rfl (decide_eq_true ((ti_e p1 L32_1).mpr c_4227)) ?_
          exact Rn.weak (ll_n (ll_s (ll_s (ll_s (ll_n (ll_n ll_e)))))) (RX12_drift_b118 hd hR p1 p4225_2 p4225_3 hq e)
        · rw [if_neg c_4227] at e
          refine Rn.bf hT rfl rfl rfl (decide_eq_false (fun z => c_4227 ((ti_e p1 L32_1).mp z))) ?_
          refine Rn.n hT 2 (pc' := 115) (L' := [some (.ref q0), some (.int m1), some (.int m4225_2), some (.int m4225_3), none, none]) (st' := [.int (-2 : Int32), .int m4225_3]) rfl ?_
          by_cases c_4228 : x4225_3 = (-2)
          · rw [if_pos c_4228] at e
            refine Rn.bf hT rfl rfl rfl (decide_eq_false (fun z => z ((ti_e p4225_3 L32_m2).mpr c_4228))) ?_
            exact Rn.weak (ll_n (ll_s (ll_s (ll_s (ll_n (ll_n ll_e)))))) (RX12_drift_b118 hd hR p1 p4225_2 p4225_3 hq e)
          · rw [if_neg c_4228] at e
            refine Rn.bt hT rfl rfl rfl (decide_eq_true (fun z => c_4228 ((ti_e p4225_3 L32_m2).mp z))) ?_
            refine Rn.n hT 4 (pc' := 134) (L' := [some (.ref q0), some (.int m1), some (.int m4225_2), some (.int m4225_3), some (.int (0 : Int32)), some (.int (0 : Int32))]) (st' := []) rfl ?_
            refine Rn.weak (ll_s (ll_n (ll_n (ll_s (ll_s (ll_s ll_e)))))) (RX12_drift_l134 hd hR t0 p4225_3 (fun m4229_4 x4229_4 p4229_4 e => ?_) hq N (0 : Int32) 0 L32_0 (0 : Int32) 0 L32_0 e)
            try dsimp only at e
            refine Rn.n hT 1 (pc' := 168) (L' := [none, none, none, none, some (.int m4229_4), none]) (st' := [.int m4229_4]) rfl ?_
            obtain rfl := Option.some.inj e
            exact Rn.ret hT rfl rfl rfl (hq m4229_4 p4229_4)
set_option maxRecDepth 10000 in
theorem hX12_woke : iv_Tb 329 tX12_woke := iv_tb_of (m := mX12_woke) rfl
set_option maxRecDepth 10000 in
theorem gX12_woke : PG.2 329 = some mX12_woke := iv_pi_of (t := tX12_woke) rfl (by decide)
def FX12_woke_b48 (N : Nat) (s : iv_M)   : Option (Int × iv_M) := (some ((-2), s))
set_option maxRecDepth 10000 in
set_option maxHeartbeats 4000000 in
theorem RX12_woke_b48 {d N nc Ls : Nat} {Xs : Nat → Int32} (hd : 2 ≤ d) {h : iv_H} {s : iv_M} (hR : Rep nc Ls Xs h s)   {r : Int × iv_M} {Q : Option Value → iv_H → Prop} (hq : ∀ (z : Int32) (h1 : iv_H), z.toInt = r.1 → Rep nc Ls Xs h1 r.2 → Q (some (.int z)) h1) (e : FX12_woke_b48 N s   = some r) : Rn d 329 (some .int) 48 [none, none, none, none, none] [] h Q := by
  have hT := hX12_woke
  unfold FX12_woke_b48 at e
  refine Rn.n hT 1 (pc' := 50) (L' := [none, none, none, none, none]) (st' := [.int (-2 : Int32)]) rfl ?_
  obtain rfl := Option.some.inj e
  exact Rn.ret hT rfl rfl rfl (hq (-2 : Int32) h L32_m2 hR)
def FX12_woke (N : Nat) (s : iv_M) (q0 : Nat) (x1 : Int) (x2 : Int) (x3 : Int) : Option (Int × iv_M) := (if x1 = (-1) then ((wr s (q0 + 1) 14 10 0).bind fun s_4258 => (some (0, s_4258))) else ((rd s (q0 + 1) 14 10).bind fun v_4245 => ((FX12_isRoom N s q0 x1).bind fun v_4246 => (if v_4246 = 0 then (FX12_woke_b48 N s) else ((FX12_isCell N s q0 x2 x3).bind fun v_4248 => (if v_4248 = 0 then (FX12_woke_b48 N s) else (if v_4245 = 8 then (FX12_woke_b48 N s) else ((wr s (q0 + 17) 8 v_4245 x1).bind fun s_4251 => ((wr s_4251 (q0 + 18) 8 v_4245 (w32 ((w32 (4 * x3)) + x2))).bind fun s_4253 => ((rd s_4253 (q0 + 1) 14 10).bind fun v_4255 => ((wr s_4253 (q0 + 1) 14 10 (w32 (v_4255 + 1))).bind fun s_4256 => (some ((w32 (v_4245 + 1)), s_4256)))))))))))))
set_option maxRecDepth 10000 in
set_option maxHeartbeats 4000000 in
theorem RX12_woke {d N nc Ls : Nat} {Xs : Nat → Int32} (hd : 3 ≤ d) {h : iv_H} {s : iv_M} (hR : Rep nc Ls Xs h s) {q0 : Nat} (t0 : T12 nc q0) {m1 : Int32} {x1 : Int} (p1 : m1.toInt = x1) {m2 : Int32} {x2 : Int} (p2 : m2.toInt = x2) {m3 : Int32} {x3 : Int} (p3 : m3.toInt = x3) {r : Int × iv_M} {Q : Option Value → iv_H → Prop} (e : FX12_woke N s q0 x1 x2 x3 = some r) (hq : ∀ (z : Int32) (h1 : iv_H), z.toInt = r.1 → Rep nc Ls Xs h1 r.2 → Q (some (.int z)) h1) : Cl d 329 [.ref q0, .int m1, .int m2, .int m3] h Q := by
  obtain ⟨d, rfl⟩ : ∃ k, d = k + 1 := ⟨d - 1, by omega⟩
  have hd : 2 ≤ d := by omega
  have hT := hX12_woke
  unfold FX12_woke at e
  refine Cl.into (by decide) gX12_woke rfl ?_
  show Rn d 329 (some .int) 0 [some (.ref q0), some (.int m1), some (.int m2), some (.int m3), none] [] h Q
  refine Rn.n hT 2 (pc' := 2) (L' := [some (.ref q0), some (.int m1), some (.int m2), some (.int m3), none]) (st' := [.int (-1 : Int32), .int m1]) rfl ?_
  by_cases c_4244 : x1 = (-1)
  · rw [if_pos c_4244] at e
    refine Rn.bf hT rfl rfl rfl (decide_eq_false (fun z => z ((ti_e p1 L32_m1).mpr c_4244))) ?_
    refine Rn.n hT 1 (pc' := 6) (L' := [some (.ref q0), some (.int m1), some (.int m2), some (.int m3), none]) (st' := [.ref q0]) rfl ?_
    refine Rn.hp hT rfl rfl (gR_hp (rp_gR hR (T12_o t0) rfl)) ?_
    refine Rn.n hT 2 (pc' := 12) (L' := [some (.ref q0), some (.int m1), some (.int m2), some (.int m3), none]) (st' := [.int (0 : Int32), .int (10 : Int32), .ref (q0 + 1)]) rfl ?_
    obtain ⟨s_4258, e_4259, e⟩ := Option.bind_eq_some_iff.mp e
    obtain ⟨h_4258, g_4259, R_4258⟩ := rp_wI hR (T12_1 t0) (T12_1l t0) L32_10 L32_0 e_4259
    refine Rn.hp hT rfl rfl (wI_hp g_4259) ?_
    refine Rn.n hT 1 (pc' := 14) (L' := [some (.ref q0), some (.int m1), some (.int m2), some (.int m3), none]) (st' := [.int (0 : Int32)]) rfl ?_
    obtain rfl := Option.some.inj e
    exact Rn.ret hT rfl rfl rfl (hq (0 : Int32) h_4258 L32_0 R_4258)
  · rw [if_neg c_4244] at e
    refine Rn.bt hT rfl rfl rfl (decide_eq_true (fun z => c_4244 ((ti_e p1 L32_m1).mp z))) ?_
    refine Rn.n hT 1 (pc' := 16) (L' := [some (.ref q0), some (.int m1), some (.int m2), some (.int m3), none]) (st' := [.ref q0]) rfl ?_
    refine Rn.hp hT rfl rfl (gR_hp (rp_gR hR (T12_o t0) rfl)) ?_
    refine Rn.n hT 1 (pc' := 21) (L' := [some (.ref q0), some (.int m1), some (.int m2), some (.int m3), none]) (st' := [.int (10 : Int32), .ref (q0 + 1)]) rfl ?_
    obtain ⟨v_4245, e_4245, e⟩ := Option.bind_eq_some_iff.mp e
    obtain ⟨z_4245, g_4245, p_4245⟩ := rp_aI hR (T12_1 t0) (T12_1l t0) L32_10 e_4245
    refine Rn.hp hT rfl rfl (aI_hp g_4245) ?_
    refine Rn.n hT 3 (pc' := 26) (L' := [some (.ref q0), some (.int m1), some (.int m2), some (.int m3), some (.int z_4245)]) (st' := [.int m1, .ref q0]) rfl ?_
    obtain ⟨v_4246, e_4246, e⟩ := Option.bind_eq_some_iff.mp e
    refine Rn.call hT rfl rfl rfl (Nat.le_of_ble_eq_true rfl) (rcv_v gX12_isRoom (by omega) (rp_ck hR (T12_o t0))) (RX12_isRoom (by omega) hR t0 p1 e_4246 (fun z_4246 p_4246 => ?_))
    show Rn d _ _ 29 [some (.ref q0), some (.int m1), some (.int m2), some (.int m3), some (.int z_4245)] [.int z_4246] h Q
    by_cases c_4247 : v_4246 = 0
    · rw [if_pos c_4247] at e
      refine Rn.bt hT rfl rfl rfl (decide_eq_true ((ti_e p_4246 L32_0).mpr c_4247)) ?_
      exact Rn.weak (ll_n (ll_n (ll_n (ll_n (ll_n ll_e))))) (RX12_woke_b48 hd hR hq e)
    · rw [if_neg c_4247] at e
      refine Rn.bf hT rfl rfl rfl (decide_eq_false (fun z => c_4247 ((ti_e p_4246 L32_0).mp z))) ?_
      refine Rn.n hT 3 (pc' := 35) (L' := [some (.ref q0), some (.int m1), some (.int m2), some (.int m3), some (.int z_4245)]) (st' := [.int m3, .int m2, .ref q0]) rfl ?_
      obtain ⟨v_4248, e_4248, e⟩ := Option.bind_eq_some_iff.mp e
      refine Rn.call hT rfl rfl rfl (Nat.le_of_ble_eq_true rfl) (rcv_v gX12_isCell (by omega) (rp_ck hR (T12_o t0))) (RX12_isCell (by omega) hR t0 p2 p3 e_4248 (fun z_4248 p_4248 => ?_))
      show Rn d _ _ 38 [some (.ref q0), some (.int m1), some (.int m2), some (.int m3), some (.int z_4245)] [.int z_4248] h Q
      by_cases c_4249 : v_4248 = 0
      · rw [if_pos c_4249] at e
        refine Rn.bt hT rfl rfl rfl (decide_eq_true ((ti_e p_4248 L32_0).mpr c_4249)) ?_
        exact Rn.weak (ll_n (ll_n (ll_n (ll_n (ll_n ll_e))))) (RX12_woke_b48 hd hR hq e)
      · rw [if_neg c_4249] at e
        refine Rn.bf hT rfl rfl rfl (decide_eq_false (fun z => c_4249 ((ti_e p_4248 L32_0).mp z))) ?_
        refine Rn.n hT 2 (pc' := 45) (L' := [some (.ref q0), some (.int m1), some (.int m2), some (.int m3), some (.int z_4245)]) (st' := [.int (8 : Int32), .int z_4245]) rfl ?_
        by_cases c_4250 : v_4245 = 8
        · rw [if_pos c_4250] at e
          refine Rn.bf hT rfl rfl rfl (decide_eq_false (fun z => z ((ti_e p_4245 L32_8).mpr c_4250))) ?_
          exact Rn.weak (ll_n (ll_n (ll_n (ll_n (ll_n ll_e))))) (RX12_woke_b48 hd hR hq e)
        · rw [if_neg c_4250] at e
          refine Rn.bt hT rfl rfl rfl (decide_eq_true (fun z => c_4250 ((ti_e p_4245 L32_8).mp z))) ?_
          refine Rn.n hT 1 (pc' := 52) (L' := [some (.ref q0), some (.int m1), some (.int m2), some (.int m3), some (.int z_4245)]) (st' := [.ref q0]) rfl ?_
          refine Rn.hp hT rfl rfl (gR_hp (rp_gR hR (T12_o t0) rfl)) ?_
          refine Rn.n hT 2 (pc' := 58) (L' := [some (.ref q0), some (.int m1), some (.int m2), some (.int m3), some (.int z_4245)]) (st' := [.int m1, .int z_4245, .ref (q0 + 17)]) rfl ?_
          obtain ⟨s_4251, e_4252, e⟩ := Option.bind_eq_some_iff.mp e
          obtain ⟨h_4251, g_4252, R_4251⟩ := rp_wI hR (T12_17 t0) (T12_17l t0) p_4245 p1 e_4252
          refine Rn.hp hT rfl rfl (wI_hp g_4252) ?_
          refine Rn.n hT 1 (pc' := 60) (L' := [some (.ref q0), some (.int m1), some (.int m2), some (.int m3), some (.int z_4245)]) (st' := [.ref q0]) rfl ?_
          refine Rn.hp hT rfl rfl (gR_hp (rp_gR R_4251 (T12_o t0) rfl)) ?_
          refine Rn.n hT 6 (pc' := 70) (L' := [some (.ref q0), some (.int m1), some (.int m2), some (.int m3), some (.int z_4245)]) (st' := [.int (((4 : Int32) * m3) + m2), .int z_4245, .ref (q0 + 18)]) rfl ?_
          obtain ⟨s_4253, e_4254, e⟩ := Option.bind_eq_some_iff.mp e
          obtain ⟨h_4253, g_4254, R_4253⟩ := rp_wI R_4251 (T12_18 t0) (T12_18l t0) p_4245 (ti_add (ti_mul L32_4 p3) p2) e_4254
          refine Rn.hp hT rfl rfl (wI_hp g_4254) ?_
          refine Rn.n hT 1 (pc' := 72) (L' := [some (.ref q0), some (.int m1), some (.int m2), some (.int m3), some (.int z_4245)]) (st' := [.ref q0]) rfl ?_
          refine Rn.hp hT rfl rfl (gR_hp (rp_gR R_4253 (T12_o t0) rfl)) ?_
          refine Rn.n hT 2 (pc' := 78) (L' := [some (.ref q0), some (.int m1), some (.int m2), some (.int m3), some (.int z_4245)]) (st' := [.int (10 : Int32), .ref (q0 + 1), .int (10 : Int32), .ref (q0 + 1)]) rfl ?_
          obtain ⟨v_4255, e_4255, e⟩ := Option.bind_eq_some_iff.mp e
          obtain ⟨z_4255, g_4255, p_4255⟩ := rp_aI R_4253 (T12_1 t0) (T12_1l t0) L32_10 e_4255
          refine Rn.hp hT rfl rfl (aI_hp g_4255) ?_
          refine Rn.n hT 2 (pc' := 81) (L' := [some (.ref q0), some (.int m1), some (.int m2), some (.int m3), some (.int z_4245)]) (st' := [.int (z_4255 + (1 : Int32)), .int (10 : Int32), .ref (q0 + 1)]) rfl ?_
          obtain ⟨s_4256, e_4257, e⟩ := Option.bind_eq_some_iff.mp e
          obtain ⟨h_4256, g_4257, R_4256⟩ := rp_wI R_4253 (T12_1 t0) (T12_1l t0) L32_10 (ti_add p_4255 L32_1) e_4257
          refine Rn.hp hT rfl rfl (wI_hp g_4257) ?_
          refine Rn.n hT 3 (pc' := 86) (L' := [some (.ref q0), some (.int m1), some (.int m2), some (.int m3), some (.int z_4245)]) (st' := [.int (z_4245 + (1 : Int32))]) rfl ?_
          obtain rfl := Option.some.inj e
          exact Rn.ret hT rfl rfl rfl (hq (z_4245 + (1 : Int32)) h_4256 (ti_add p_4245 L32_1) R_4256)
set_option maxRecDepth 10000 in
theorem hX12_isAsWoken : iv_Tb 330 tX12_isAsWoken := iv_tb_of (m := mX12_isAsWoken) rfl
set_option maxRecDepth 10000 in
theorem gX12_isAsWoken : PG.2 330 = some mX12_isAsWoken := iv_pi_of (t := tX12_isAsWoken) rfl (by decide)
def FX12_isAsWoken_b44 (N : Nat) (s : iv_M) (q0 : Nat) (x2 : Int) (xs0 : Int) (kb : Int → Int → Option (Int)) (kx : Int → Option (Int)) : Option (Int) := (kb xs0 (w32 (x2 + 1)))
set_option maxRecDepth 10000 in
set_option maxHeartbeats 4000000 in
theorem RX12_isAsWoken_b44 {d N nc Ls : Nat} {Xs : Nat → Int32} (hd : 0 ≤ d) {h : iv_H} {s : iv_M} (hR : Rep nc Ls Xs h s) {q0 : Nat} (t0 : T12 nc q0) {m2 : Int32} {x2 : Int} (p2 : m2.toInt = x2) {ms0 : Int32} {xs0 : Int} (ps0 : ms0.toInt = xs0) {kb : Int → Int → Option (Int)} {kx : Int → Option (Int)} {r : Int} {Q : Option Value → iv_H → Prop} (hb : ∀ (mw1 : Int32) (xw1 : Int) (pw1 : mw1.toInt = xw1) (mw2 : Int32) (xw2 : Int) (pw2 : mw2.toInt = xw2), kb xw1 xw2 = some r → Rn d 330 (some .boolean) 4 [some (.ref q0), some (.int mw1), some (.int mw2)] [] h Q) (hk : ∀ (mw1 : Int32) (xw1 : Int) (pw1 : mw1.toInt = xw1), kx xw1 = some r → Rn d 330 (some .boolean) 51 [none, some (.int mw1), none] [] h Q) (hq : ∀ (z : Int32), z.toInt = r → Q (some (.int z)) h) (e : FX12_isAsWoken_b44 N s q0 x2 xs0 kb kx = some r) : Rn d 330 (some .boolean) 44 [some (.ref q0), none, some (.int m2)] [.int ms0] h Q := by
  have hT := hX12_isAsWoken
  unfold FX12_isAsWoken_b44 at e
  refine Rn.n hT 3 (pc' := 4) (L' := [some (.ref q0), some (.int ms0), some (.int (m2 + (1 : Int32)))]) (st' := []) rfl ?_
  exact Rn.weak (ll_s (ll_s (ll_s ll_e))) (hb ms0 xs0 ps0 (m2 + (1 : Int32)) (w32 (x2 + 1)) (ti_add p2 L32_1) e)
def FX12_isAsWoken_b43 (N : Nat) (s : iv_M) (q0 : Nat) (x2 : Int)  (kb : Int → Int → Option (Int)) (kx : Int → Option (Int)) : Option (Int) := (FX12_isAsWoken_b44 N s q0 x2 0 kb kx)
set_option maxRecDepth 10000 in
set_option maxHeartbeats 4000000 in
theorem RX12_isAsWoken_b43 {d N nc Ls : Nat} {Xs : Nat → Int32} (hd : 0 ≤ d) {h : iv_H} {s : iv_M} (hR : Rep nc Ls Xs h s) {q0 : Nat} (t0 : T12 nc q0) {m2 : Int32} {x2 : Int} (p2 : m2.toInt = x2)  {kb : Int → Int → Option (Int)} {kx : Int → Option (Int)} {r : Int} {Q : Option Value → iv_H → Prop} (hb : ∀ (mw1 : Int32) (xw1 : Int) (pw1 : mw1.toInt = xw1) (mw2 : Int32) (xw2 : Int) (pw2 : mw2.toInt = xw2), kb xw1 xw2 = some r → Rn d 330 (some .boolean) 4 [some (.ref q0), some (.int mw1), some (.int mw2)] [] h Q) (hk : ∀ (mw1 : Int32) (xw1 : Int) (pw1 : mw1.toInt = xw1), kx xw1 = some r → Rn d 330 (some .boolean) 51 [none, some (.int mw1), none] [] h Q) (hq : ∀ (z : Int32), z.toInt = r → Q (some (.int z)) h) (e : FX12_isAsWoken_b43 N s q0 x2  kb kx = some r) : Rn d 330 (some .boolean) 43 [some (.ref q0), none, some (.int m2)] [] h Q := by
  have hT := hX12_isAsWoken
  unfold FX12_isAsWoken_b43 at e
  refine Rn.n hT 1 (pc' := 44) (L' := [some (.ref q0), none, some (.int m2)]) (st' := [.int (0 : Int32)]) rfl ?_
  exact Rn.weak (ll_s (ll_n (ll_s ll_e))) (RX12_isAsWoken_b44 hd hR t0 p2 L32_0 hb hk hq e)
def FX12_isAsWoken_l4 (N : Nat) (s : iv_M) (q0 : Nat) (kx : Int → Option (Int)) : Nat → Int → Int → Option (Int)
  | 0, _, _ => none
  | n + 1, x1, x2 => ((rd s (q0 + 1) 14 10).bind fun v_4262 => (if v_4262 ≤ x2 then (kx x1) else (if x1 = 0 then (FX12_isAsWoken_b43 N s q0 x2 (FX12_isAsWoken_l4 N s q0 kx n) kx) else ((rd s (q0 + 17) 8 x2).bind fun v_4265 => ((rd s (q0 + 3) 12 v_4265).bind fun v_4266 => ((rd s (q0 + 18) 8 x2).bind fun v_4267 => (if v_4266 = v_4267 then (FX12_isAsWoken_b44 N s q0 x2 1 (FX12_isAsWoken_l4 N s q0 kx n) kx) else (FX12_isAsWoken_b43 N s q0 x2 (FX12_isAsWoken_l4 N s q0 kx n) kx))))))))
set_option maxRecDepth 10000 in
set_option maxHeartbeats 4000000 in
theorem RX12_isAsWoken_l4 {d N nc Ls : Nat} {Xs : Nat → Int32} (hd : 0 ≤ d) {h : iv_H} {s : iv_M} (hR : Rep nc Ls Xs h s) {q0 : Nat} (t0 : T12 nc q0) {kx : Int → Option (Int)} {r : Int} {Q : Option Value → iv_H → Prop} (hk : ∀ (m1 : Int32) (x1 : Int) (p1 : m1.toInt = x1), kx x1 = some r → Rn d 330 (some .boolean) 51 [none, some (.int m1), none] [] h Q) (hq : ∀ (z : Int32), z.toInt = r → Q (some (.int z)) h) : ∀ (n : Nat) (m1 : Int32) (x1 : Int) (p1 : m1.toInt = x1) (m2 : Int32) (x2 : Int) (p2 : m2.toInt = x2), FX12_isAsWoken_l4 N s q0 kx n x1 x2 = some r → Rn d 330 (some .boolean) 4 [some (.ref q0), some (.int m1), some (.int m2)] [] h Q := by
  have hT := hX12_isAsWoken
  intro n
  induction n with
  | zero =>
    intro m1 x1 p1 m2 x2 p2 e
    rw [FX12_isAsWoken_l4] at e
    cases e
  | succ n ih =>
    intro m1 x1 p1 m2 x2 p2 e
    rw [FX12_isAsWoken_l4] at e
    refine Rn.n hT 2 (pc' := 6) (L' := [some (.ref q0), some (.int m1), some (.int m2)]) (st' := [.ref q0, .int m2]) rfl ?_
    refine Rn.hp hT rfl rfl (gR_hp (rp_gR hR (T12_o t0) rfl)) ?_
    refine Rn.n hT 1 (pc' := 11) (L' := [some (.ref q0), some (.int m1), some (.int m2)]) (st' := [.int (10 : Int32), .ref (q0 + 1), .int m2]) rfl ?_
    obtain ⟨v_4262, e_4262, e⟩ := Option.bind_eq_some_iff.mp e
    obtain ⟨z_4262, g_4262, p_4262⟩ := rp_aI hR (T12_1 t0) (T12_1l t0) L32_10 e_4262
    refine Rn.hp hT rfl rfl (aI_hp g_4262) ?_
    by_cases c_4263 : v_4262 ≤ x2
    · rw [if_pos c_4263] at e
      refine Rn.bt hT rfl rfl rfl (decide_eq_true ((ti_le p_4262 p2).mpr c_4263)) ?_
      exact Rn.weak (ll_n (ll_s (ll_n ll_e))) (hk m1 x1 p1 e)
    · rw [if_neg c_4263] at e
      refine Rn.bf hT rfl rfl rfl (decide_eq_false (fun z => c_4263 ((ti_le p_4262 p2).mp z))) ?_
      refine Rn.n hT 1 (pc' := 16) (L' := [some (.ref q0), some (.int m1), some (.int m2)]) (st' := [.int m1]) rfl ?_
      by_cases c_4264 : x1 = 0
      · rw [if_pos c_4264] at e
        refine Rn.bt hT rfl rfl rfl (decide_eq_true ((ti_e p1 L32_0).mpr c_4264)) ?_
        exact Rn.weak (ll_s (ll_n (ll_s ll_e))) (RX12_isAsWoken_b43 hd hR t0 p2 ih hk hq e)
      · rw [if_neg c_4264] at e
        refine Rn.bf hT rfl rfl rfl (decide_eq_false (fun z => c_4264 ((ti_e p1 L32_0).mp z))) ?_
        refine Rn.n hT 1 (pc' := 20) (L' := [some (.ref q0), some (.int m1), some (.int m2)]) (st' := [.ref q0]) rfl ?_
        refine Rn.hp hT rfl rfl (gR_hp (rp_gR hR (T12_o t0) rfl)) ?_
        refine Rn.n hT 1 (pc' := 24) (L' := [some (.ref q0), some (.int m1), some (.int m2)]) (st' := [.ref q0, .ref (q0 + 3)]) rfl ?_
        refine Rn.hp hT rfl rfl (gR_hp (rp_gR hR (T12_o t0) rfl)) ?_
        refine Rn.n hT 1 (pc' := 28) (L' := [some (.ref q0), some (.int m1), some (.int m2)]) (st' := [.int m2, .ref (q0 + 17), .ref (q0 + 3)]) rfl ?_
        obtain ⟨v_4265, e_4265, e⟩ := Option.bind_eq_some_iff.mp e
        obtain ⟨z_4265, g_4265, p_4265⟩ := rp_aI hR (T12_17 t0) (T12_17l t0) p2 e_4265
        refine Rn.hp hT rfl rfl (aI_hp g_4265) ?_
        obtain ⟨v_4266, e_4266, e⟩ := Option.bind_eq_some_iff.mp e
        obtain ⟨z_4266, g_4266, p_4266⟩ := rp_aI hR (T12_3 t0) (T12_3l t0) p_4265 e_4266
        refine Rn.hp hT rfl rfl (aI_hp g_4266) ?_
        refine Rn.n hT 1 (pc' := 31) (L' := [some (.ref q0), some (.int m1), some (.int m2)]) (st' := [.ref q0, .int z_4266]) rfl ?_
        refine Rn.hp hT rfl rfl (gR_hp (rp_gR hR (T12_o t0) rfl)) ?_
        refine Rn.n hT 1 (pc' := 35) (L' := [some (.ref q0), some (.int m1), some (.int m2)]) (st' := [.int m2, .ref (q0 + 18), .int z_4266]) rfl ?_
        obtain ⟨v_4267, e_4267, e⟩ := Option.bind_eq_some_iff.mp e
        obtain ⟨z_4267, g_4267, p_4267⟩ := rp_aI hR (T12_18 t0) (T12_18l t0) p2 e_4267
        refine Rn.hp hT rfl rfl (aI_hp g_4267) ?_
        by_cases c_4268 : v_4266 = v_4267
        · rw [if_pos c_4268] at e
          refine Rn.bf hT rfl rfl rfl (decide_eq_false (fun z => z ((ti_e p_4266 p_4267).mpr c_4268))) ?_
          refine Rn.n hT 2 (pc' := 44) (L' := [some (.ref q0), some (.int m1), some (.int m2)]) (st' := [.int (1 : Int32)]) rfl ?_
          exact Rn.weak (ll_s (ll_n (ll_s ll_e))) (RX12_isAsWoken_b44 hd hR t0 p2 L32_1 ih hk hq e)
        · rw [if_neg c_4268] at e
          refine Rn.bt hT rfl rfl rfl (decide_eq_true (fun z => c_4268 ((ti_e p_4266 p_4267).mp z))) ?_
          exact Rn.weak (ll_s (ll_n (ll_s ll_e))) (RX12_isAsWoken_b43 hd hR t0 p2 ih hk hq e)
def FX12_isAsWoken (N : Nat) (s : iv_M) (q0 : Nat) : Option (Int) := (FX12_isAsWoken_l4 N s q0 (fun (x4260_1 : Int) => (if x4260_1 = 0 ∨ x4260_1 = 1 then some x4260_1 else none)) N 1 0)
set_option maxRecDepth 10000 in
set_option maxHeartbeats 4000000 in
theorem RX12_isAsWoken {d N nc Ls : Nat} {Xs : Nat → Int32} (hd : 1 ≤ d) {h : iv_H} {s : iv_M} (hR : Rep nc Ls Xs h s) {q0 : Nat} (t0 : T12 nc q0) {r : Int} {Q : Option Value → iv_H → Prop} (e : FX12_isAsWoken N s q0 = some r) (hq : ∀ (z : Int32), z.toInt = r → Q (some (.int z)) h) : Cl d 330 [.ref q0] h Q := by
  obtain ⟨d, rfl⟩ : ∃ k, d = k + 1 := ⟨d - 1, by omega⟩
  have hd : 0 ≤ d := by omega
  have hT := hX12_isAsWoken
  unfold FX12_isAsWoken at e
  refine Cl.into (by decide) gX12_isAsWoken rfl ?_
  show Rn d 330 (some .boolean) 0 [some (.ref q0), none, none] [] h Q
  refine Rn.n hT 4 (pc' := 4) (L' := [some (.ref q0), some (.int (1 : Int32)), some (.int (0 : Int32))]) (st' := []) rfl ?_
  refine Rn.weak (ll_s (ll_s (ll_s ll_e))) (RX12_isAsWoken_l4 hd hR t0 (fun m4260_1 x4260_1 p4260_1 e => ?_) hq N (1 : Int32) 1 L32_1 (0 : Int32) 0 L32_0 e)
  try dsimp only at e
  refine Rn.n hT 1 (pc' := 52) (L' := [none, some (.int m4260_1), none]) (st' := [.int m4260_1]) rfl ?_
  by_cases c_4261 : x4260_1 = 0 ∨ x4260_1 = 1
  · rw [if_pos c_4261] at e
    obtain rfl := Option.some.inj e
    exact Rn.ret hT rfl rfl (if_pos (ti_b p4260_1 c_4261)) (hq m4260_1 p4260_1)
  · rw [if_neg c_4261] at e
    cases e
set_option maxRecDepth 10000 in
theorem hX12_notesRow : iv_Tb 331 tX12_notesRow := iv_tb_of (m := mX12_notesRow) rfl
set_option maxRecDepth 10000 in
theorem gX12_notesRow : PG.2 331 = some mX12_notesRow := iv_pi_of (t := tX12_notesRow) rfl (by decide)
def FX12_notesRow_b34 (N : Nat) (s : iv_M) (q0 : Nat) (x1 : Int) (x2 : Int) (xs0 : Int) (xs1 : Int) (qs2 : Nat) (kb : iv_M → Int → Option (iv_M)) (kx : iv_M → Option (iv_M)) : Option (iv_M) := ((wr s qs2 ((sh qs2).2 : Int) xs1 xs0).bind fun s_4279 => ((rd s_4279 (q0 + 55) 4 x2).bind fun v_4281 => ((FX12_kindOf N s_4279 v_4281).bind fun v_4282 => ((rd s_4279 (q0 + 58) 4 v_4282).bind fun v_4283 => ((wr s_4279 (q0 + 58) 4 v_4282 (w32 (v_4283 + 1))).bind fun s_4284 => (kb s_4284 (w32 (x2 + 1))))))))
set_option maxRecDepth 10000 in
set_option maxHeartbeats 4000000 in
theorem RX12_notesRow_b34 {d N nc Ls : Nat} {Xs : Nat → Int32} (hd : 1 ≤ d) {h : iv_H} {s : iv_M} (hR : Rep nc Ls Xs h s) {q0 : Nat} (t0 : T12 nc q0) {m1 : Int32} {x1 : Int} (p1 : m1.toInt = x1) {m2 : Int32} {x2 : Int} (p2 : m2.toInt = x2) {ms0 : Int32} {xs0 : Int} (ps0 : ms0.toInt = xs0) {ms1 : Int32} {xs1 : Int} (ps1 : ms1.toInt = xs1) {qs2 : Nat} (ts2 : TA 0 nc qs2) {kb : iv_M → Int → Option (iv_M)} {kx : iv_M → Option (iv_M)} {r : iv_M} {Q : Option Value → iv_H → Prop} (hb : ∀ (h : iv_H) (s : iv_M) (hR : Rep nc Ls Xs h s) (mw2 : Int32) (xw2 : Int) (pw2 : mw2.toInt = xw2), kb s xw2 = some r → Rn d 331 none 2 [some (.ref q0), some (.int m1), some (.int mw2)] [] h Q) (hk : ∀ (h : iv_H) (s : iv_M) (hR : Rep nc Ls Xs h s), kx s = some r → Rn d 331 none 59 [some (.ref q0), none, none] [] h Q) (hq : ∀ h1, Rep nc Ls Xs h1 r → Q none h1) (e : FX12_notesRow_b34 N s q0 x1 x2 xs0 xs1 qs2 kb kx = some r) : Rn d 331 none 34 [some (.ref q0), some (.int m1), some (.int m2)] [.int ms0, .int ms1, .ref qs2] h Q := by
  have hT := hX12_notesRow
  unfold FX12_notesRow_b34 at e
  obtain ⟨s_4279, e_4280, e⟩ := Option.bind_eq_some_iff.mp e
  obtain ⟨h_4279, g_4280, R_4279⟩ := rp_wI hR ts2 rfl ps1 ps0 e_4280
  refine Rn.hp hT rfl rfl (wI_hp g_4280) ?_
  refine Rn.n hT 1 (pc' := 36) (L' := [some (.ref q0), some (.int m1), some (.int m2)]) (st' := [.ref q0]) rfl ?_
  refine Rn.hp hT rfl rfl (gR_hp (rp_gR R_4279 (T12_o t0) rfl)) ?_
  refine Rn.n hT 1 (pc' := 40) (L' := [some (.ref q0), some (.int m1), some (.int m2)]) (st' := [.ref q0, .ref (q0 + 58)]) rfl ?_
  refine Rn.hp hT rfl rfl (gR_hp (rp_gR R_4279 (T12_o t0) rfl)) ?_
  refine Rn.n hT 1 (pc' := 44) (L' := [some (.ref q0), some (.int m1), some (.int m2)]) (st' := [.int m2, .ref (q0 + 55), .ref (q0 + 58)]) rfl ?_
  obtain ⟨v_4281, e_4281, e⟩ := Option.bind_eq_some_iff.mp e
  obtain ⟨z_4281, g_4281, p_4281⟩ := rp_aI R_4279 (T12_74 t0) (T12_74l t0) p2 e_4281
  refine Rn.hp hT rfl rfl (aI_hp g_4281) ?_
  obtain ⟨v_4282, e_4282, e⟩ := Option.bind_eq_some_iff.mp e
  refine Rn.call hT rfl rfl rfl (Nat.le_of_ble_eq_true rfl) rfl (RX12_kindOf (by omega) R_4279 p_4281 e_4282 (fun z_4282 p_4282 => ?_))
  show Rn d _ _ 48 [some (.ref q0), some (.int m1), some (.int m2)] [.int z_4282, .ref (q0 + 58)] h_4279 Q
  refine Rn.n hT 1 (pc' := 49) (L' := [some (.ref q0), some (.int m1), some (.int m2)]) (st' := [.int z_4282, .ref (q0 + 58), .int z_4282, .ref (q0 + 58)]) rfl ?_
  obtain ⟨v_4283, e_4283, e⟩ := Option.bind_eq_some_iff.mp e
  obtain ⟨z_4283, g_4283, p_4283⟩ := rp_aI R_4279 (T12_77 t0) (T12_77l t0) p_4282 e_4283
  refine Rn.hp hT rfl rfl (aI_hp g_4283) ?_
  refine Rn.n hT 2 (pc' := 52) (L' := [some (.ref q0), some (.int m1), some (.int m2)]) (st' := [.int (z_4283 + (1 : Int32)), .int z_4282, .ref (q0 + 58)]) rfl ?_
  obtain ⟨s_4284, e_4285, e⟩ := Option.bind_eq_some_iff.mp e
  obtain ⟨h_4284, g_4285, R_4284⟩ := rp_wI R_4279 (T12_77 t0) (T12_77l t0) p_4282 (ti_add p_4283 L32_1) e_4285
  refine Rn.hp hT rfl rfl (wI_hp g_4285) ?_
  refine Rn.n hT 2 (pc' := 2) (L' := [some (.ref q0), some (.int m1), some (.int (m2 + (1 : Int32)))]) (st' := []) rfl ?_
  exact Rn.weak (ll_s (ll_s (ll_s ll_e))) (hb h_4284 s_4284 R_4284 (m2 + (1 : Int32)) (w32 (x2 + 1)) (ti_add p2 L32_1) e)
def FX12_notesRow_l2 (N : Nat) (q0 : Nat) (x1 : Int) (kx : iv_M → Option (iv_M)) : Nat → iv_M → Int → Option (iv_M)
  | 0, _, _ => none
  | n + 1, s, x2 => (if x1 ≤ x2 then (kx s) else (if (s q0 78) = 0 then ((rd s (q0 + 56) 4 x2).bind fun v_4278 => (FX12_notesRow_b34 N s q0 x1 x2 v_4278 x2 (q0 + 57) (FX12_notesRow_l2 N q0 x1 kx n) kx)) else ((rd s (q0 + 57) 3 x2).bind fun v_4277 => (FX12_notesRow_b34 N s q0 x1 x2 v_4277 x2 (q0 + 57) (FX12_notesRow_l2 N q0 x1 kx n) kx))))
set_option maxRecDepth 10000 in
set_option maxHeartbeats 4000000 in
theorem RX12_notesRow_l2 {d N nc Ls : Nat} {Xs : Nat → Int32} (hd : 1 ≤ d) {q0 : Nat} (t0 : T12 nc q0) {m1 : Int32} {x1 : Int} (p1 : m1.toInt = x1) {kx : iv_M → Option (iv_M)} {r : iv_M} {Q : Option Value → iv_H → Prop} (hk : ∀ (h : iv_H) (s : iv_M) (hR : Rep nc Ls Xs h s), kx s = some r → Rn d 331 none 59 [some (.ref q0), none, none] [] h Q) (hq : ∀ h1, Rep nc Ls Xs h1 r → Q none h1) : ∀ (n : Nat) (h : iv_H) (s : iv_M) (hR : Rep nc Ls Xs h s) (m2 : Int32) (x2 : Int) (p2 : m2.toInt = x2), FX12_notesRow_l2 N q0 x1 kx n s x2 = some r → Rn d 331 none 2 [some (.ref q0), some (.int m1), some (.int m2)] [] h Q := by
  have hT := hX12_notesRow
  intro n
  induction n with
  | zero =>
    intro h s hR m2 x2 p2 e
    rw [FX12_notesRow_l2] at e
    cases e
  | succ n ih =>
    intro h s hR m2 x2 p2 e
    rw [FX12_notesRow_l2] at e
    refine Rn.n hT 2 (pc' := 4) (L' := [some (.ref q0), some (.int m1), some (.int m2)]) (st' := [.int m1, .int m2]) rfl ?_
    by_cases c_4274 : x1 ≤ x2
    · rw [if_pos c_4274] at e
      refine Rn.bt hT rfl rfl rfl (decide_eq_true ((ti_le p1 p2).mpr c_4274)) ?_
      exact Rn.weak (ll_s (ll_n (ll_n ll_e))) (hk h s hR e)
    · rw [if_neg c_4274] at e
      refine Rn.bf hT rfl rfl rfl (decide_eq_false (fun z => c_4274 ((ti_le p1 p2).mp z))) ?_
      refine Rn.n hT 1 (pc' := 8) (L' := [some (.ref q0), some (.int m1), some (.int m2)]) (st' := [.ref q0]) rfl ?_
      refine Rn.hp hT rfl rfl (gR_hp (rp_gR hR (T12_o t0) rfl)) ?_
      refine Rn.n hT 2 (pc' := 13) (L' := [some (.ref q0), some (.int m1), some (.int m2)]) (st' := [.ref q0, .int m2, .ref (q0 + 57)]) rfl ?_
      obtain ⟨z_4275, g_4275, p_4275⟩ : ∃ z : Int32, gI h 12 78 q0 = some z ∧ z.toInt = s q0 78 := rp_gI (k := 78) hR (T12_o t0) rfl
      refine Rn.hp hT rfl rfl (gI_hp g_4275) ?_
      by_cases c_4276 : (s q0 78) = 0
      · rw [if_pos c_4276] at e
        refine Rn.bf hT rfl rfl rfl (decide_eq_false (fun z => z ((ti_e p_4275 L32_0).mpr c_4276))) ?_
        refine Rn.n hT 1 (pc' := 20) (L' := [some (.ref q0), some (.int m1), some (.int m2)]) (st' := [.ref q0, .int m2, .ref (q0 + 57)]) rfl ?_
        refine Rn.hp hT rfl rfl (gR_hp (rp_gR hR (T12_o t0) rfl)) ?_
        refine Rn.n hT 1 (pc' := 24) (L' := [some (.ref q0), some (.int m1), some (.int m2)]) (st' := [.int m2, .ref (q0 + 56), .int m2, .ref (q0 + 57)]) rfl ?_
        obtain ⟨v_4278, e_4278, e⟩ := Option.bind_eq_some_iff.mp e
        obtain ⟨z_4278, g_4278, p_4278⟩ := rp_aI hR (T12_75 t0) (T12_75l t0) p2 e_4278
        refine Rn.hp hT rfl rfl (aI_hp g_4278) ?_
        refine Rn.n hT 1 (pc' := 34) (L' := [some (.ref q0), some (.int m1), some (.int m2)]) (st' := [.int z_4278, .int m2, .ref (q0 + 57)]) rfl ?_
        exact Rn.weak (ll_s (ll_s (ll_s ll_e))) (RX12_notesRow_b34 hd hR t0 p1 p2 p_4278 p2 (T12_76 t0) ih hk hq e)
      · rw [if_neg c_4276] at e
        refine Rn.bt hT rfl rfl rfl (decide_eq_true (fun z => c_4276 ((ti_e p_4275 L32_0).mp z))) ?_
        refine Rn.n hT 1 (pc' := 29) (L' := [some (.ref q0), some (.int m1), some (.int m2)]) (st' := [.ref q0, .int m2, .ref (q0 + 57)]) rfl ?_
        refine Rn.hp hT rfl rfl (gR_hp (rp_gR hR (T12_o t0) rfl)) ?_
        refine Rn.n hT 1 (pc' := 33) (L' := [some (.ref q0), some (.int m1), some (.int m2)]) (st' := [.int m2, .ref (q0 + 57), .int m2, .ref (q0 + 57)]) rfl ?_
        obtain ⟨v_4277, e_4277, e⟩ := Option.bind_eq_some_iff.mp e
        obtain ⟨z_4277, g_4277, p_4277⟩ := rp_aI hR (T12_76 t0) (T12_76l t0) p2 e_4277
        refine Rn.hp hT rfl rfl (aI_hp g_4277) ?_
        exact Rn.weak (ll_s (ll_s (ll_s ll_e))) (RX12_notesRow_b34 hd hR t0 p1 p2 p_4277 p2 (T12_76 t0) ih hk hq e)
def FX12_notesRow (N : Nat) (s : iv_M) (q0 : Nat) (x1 : Int) : Option (iv_M) := (FX12_notesRow_l2 N q0 x1 (fun (s_4269 : iv_M) => ((pt s_4269 q0 78 (w32 ((s_4269 q0 78) + 1))).bind fun s_4272 => some s_4272)) N s 0)
set_option maxRecDepth 10000 in
set_option maxHeartbeats 4000000 in
theorem RX12_notesRow {d N nc Ls : Nat} {Xs : Nat → Int32} (hd : 2 ≤ d) {h : iv_H} {s : iv_M} (hR : Rep nc Ls Xs h s) {q0 : Nat} (t0 : T12 nc q0) {m1 : Int32} {x1 : Int} (p1 : m1.toInt = x1) {r : iv_M} {Q : Option Value → iv_H → Prop} (e : FX12_notesRow N s q0 x1 = some r) (hq : ∀ h1, Rep nc Ls Xs h1 r → Q none h1) : Cl d 331 [.ref q0, .int m1] h Q := by
  obtain ⟨d, rfl⟩ : ∃ k, d = k + 1 := ⟨d - 1, by omega⟩
  have hd : 1 ≤ d := by omega
  have hT := hX12_notesRow
  unfold FX12_notesRow at e
  refine Cl.into (by decide) gX12_notesRow rfl ?_
  show Rn d 331 none 0 [some (.ref q0), some (.int m1), none] [] h Q
  refine Rn.n hT 2 (pc' := 2) (L' := [some (.ref q0), some (.int m1), some (.int (0 : Int32))]) (st' := []) rfl ?_
  refine Rn.weak (ll_s (ll_s (ll_s ll_e))) (RX12_notesRow_l2 hd t0 p1 (fun h_4269 s_4269 R_4269 e => ?_) hq N h s hR (0 : Int32) 0 L32_0 e)
  try dsimp only at e
  refine Rn.n hT 2 (pc' := 61) (L' := [some (.ref q0), none, none]) (st' := [.ref q0, .ref q0]) rfl ?_
  obtain ⟨z_4271, g_4271, p_4271⟩ : ∃ z : Int32, gI h_4269 12 78 q0 = some z ∧ z.toInt = s_4269 q0 78 := rp_gI (k := 78) R_4269 (T12_o t0) rfl
  refine Rn.hp hT rfl rfl (gI_hp g_4271) ?_
  refine Rn.n hT 2 (pc' := 66) (L' := [some (.ref q0), none, none]) (st' := [.int (z_4271 + (1 : Int32)), .ref q0]) rfl ?_
  obtain ⟨s_4272, e_4273, e⟩ := Option.bind_eq_some_iff.mp e
  obtain ⟨h_4272, g_4273, R_4272⟩ := rp_pI (ci := 12) (k := 78) R_4269 (T12_o t0) rfl rfl (ti_add p_4271 L32_1) e_4273
  refine Rn.hp hT rfl rfl (pV_hp rfl g_4273) ?_
  obtain rfl := Option.some.inj e
  exact Rn.ret hT rfl rfl rfl (hq h_4272 R_4272)
set_option maxRecDepth 10000 in
theorem hX12_stepsBack : iv_Tb 333 tX12_stepsBack := iv_tb_of (m := mX12_stepsBack) rfl
set_option maxRecDepth 10000 in
theorem gX12_stepsBack : PG.2 333 = some mX12_stepsBack := iv_pi_of (t := tX12_stepsBack) rfl (by decide)
def FX12_stepsBack_b16 (N : Nat) (s : iv_M) (x1 : Int)  : Option (Int × iv_M) := (some ((w32 (x1 - 1)), s))
set_option maxRecDepth 10000 in
set_option maxHeartbeats 4000000 in
theorem RX12_stepsBack_b16 {d N nc Ls : Nat} {Xs : Nat → Int32} (hd : 5 ≤ d) {h : iv_H} {s : iv_M} (hR : Rep nc Ls Xs h s) {m1 : Int32} {x1 : Int} (p1 : m1.toInt = x1)  {r : Int × iv_M} {Q : Option Value → iv_H → Prop} (hq : ∀ (z : Int32) (h1 : iv_H), z.toInt = r.1 → Rep nc Ls Xs h1 r.2 → Q (some (.int z)) h1) (e : FX12_stepsBack_b16 N s x1  = some r) : Rn d 333 (some .int) 16 [none, some (.int m1)] [] h Q := by
  have hT := hX12_stepsBack
  unfold FX12_stepsBack_b16 at e
  refine Rn.n hT 3 (pc' := 19) (L' := [none, some (.int m1)]) (st' := [.int (m1 - (1 : Int32))]) rfl ?_
  obtain rfl := Option.some.inj e
  exact Rn.ret hT rfl rfl rfl (hq (m1 - (1 : Int32)) h (ti_sub p1 L32_1) hR)
def FX12_stepsBack (N : Nat) (s : iv_M) (q0 : Nat) (x1 : Int) : Option (Int × iv_M) := (if x1 ≤ 0 then (FX12_stepsBack_b16 N s x1) else ((rd s (q0 + 55) 4 (w32 (x1 - 1))).bind fun v_4287 => ((FX12_doesBack N s q0 v_4287).bind fun s_4289 => (FX12_stepsBack_b16 N s_4289 x1))))
set_option maxRecDepth 10000 in
set_option maxHeartbeats 4000000 in
theorem RX12_stepsBack {d N nc Ls : Nat} {Xs : Nat → Int32} (hd : 6 ≤ d) {h : iv_H} {s : iv_M} (hR : Rep nc Ls Xs h s) {q0 : Nat} (t0 : T12 nc q0) {m1 : Int32} {x1 : Int} (p1 : m1.toInt = x1) {r : Int × iv_M} {Q : Option Value → iv_H → Prop} (e : FX12_stepsBack N s q0 x1 = some r) (hq : ∀ (z : Int32) (h1 : iv_H), z.toInt = r.1 → Rep nc Ls Xs h1 r.2 → Q (some (.int z)) h1) : Cl d 333 [.ref q0, .int m1] h Q := by
  obtain ⟨d, rfl⟩ : ∃ k, d = k + 1 := ⟨d - 1, by omega⟩
  have hd : 5 ≤ d := by omega
  have hT := hX12_stepsBack
  unfold FX12_stepsBack at e
  refine Cl.into (by decide) gX12_stepsBack rfl ?_
  show Rn d 333 (some .int) 0 [some (.ref q0), some (.int m1)] [] h Q
  refine Rn.n hT 1 (pc' := 1) (L' := [some (.ref q0), some (.int m1)]) (st' := [.int m1]) rfl ?_
  by_cases c_4286 : x1 ≤ 0
  · rw [if_pos c_4286] at e
    refine Rn.bt hT rfl rfl rfl (decide_eq_true ((ti_le p1 L32_0).mpr c_4286)) ?_
    exact Rn.weak (ll_n (ll_s ll_e)) (RX12_stepsBack_b16 hd hR p1 hq e)
  · rw [if_neg c_4286] at e
    refine Rn.bf hT rfl rfl rfl (decide_eq_false (fun z => c_4286 ((ti_le p1 L32_0).mp z))) ?_
    refine Rn.n hT 2 (pc' := 6) (L' := [some (.ref q0), some (.int m1)]) (st' := [.ref q0, .ref q0]) rfl ?_
    refine Rn.hp hT rfl rfl (gR_hp (rp_gR hR (T12_o t0) rfl)) ?_
    refine Rn.n hT 3 (pc' := 12) (L' := [some (.ref q0), some (.int m1)]) (st' := [.int (m1 - (1 : Int32)), .ref (q0 + 55), .ref q0]) rfl ?_
    obtain ⟨v_4287, e_4287, e⟩ := Option.bind_eq_some_iff.mp e
    obtain ⟨z_4287, g_4287, p_4287⟩ := rp_aI hR (T12_74 t0) (T12_74l t0) (ti_sub p1 L32_1) e_4287
    refine Rn.hp hT rfl rfl (aI_hp g_4287) ?_
    obtain ⟨s_4289, e_4288, e⟩ := Option.bind_eq_some_iff.mp e
    refine Rn.call hT rfl rfl rfl (Nat.le_of_ble_eq_true rfl) (rcv_v gX12_doesBack (by omega) (rp_ck hR (T12_o t0))) (RX12_doesBack (by omega) hR t0 p_4287 e_4288 (fun h_4289 R_4289 => ?_))
    show Rn d _ _ 16 [some (.ref q0), some (.int m1)] [] h_4289 Q
    exact Rn.weak (ll_n (ll_s ll_e)) (RX12_stepsBack_b16 hd R_4289 p1 hq e)
set_option maxRecDepth 10000 in
theorem hX12_findsRows : iv_Tb 332 tX12_findsRows := iv_tb_of (m := mX12_findsRows) rfl
set_option maxRecDepth 10000 in
theorem gX12_findsRows : PG.2 332 = some mX12_findsRows := iv_pi_of (t := tX12_findsRows) rfl (by decide)
def FX12_findsRows_l7 (N : Nat) (q0 : Nat) (x1 : Int) (kx : iv_M → Option (iv_M)) : Nat → iv_M → Int → Option (iv_M)
  | 0, _, _ => none
  | n + 1, s, x2 => (if 3 < x2 then (kx s) else ((wr s (q0 + 58) 4 x2 0).bind fun s_4301 => (FX12_findsRows_l7 N q0 x1 kx n s_4301 (w32 (x2 + 1)))))
set_option maxRecDepth 10000 in
set_option maxHeartbeats 4000000 in
theorem RX12_findsRows_l7 {d N nc Ls : Nat} {Xs : Nat → Int32} (hd : 8 ≤ d) {q0 : Nat} (t0 : T12 nc q0) {m1 : Int32} {x1 : Int} (p1 : m1.toInt = x1) {kx : iv_M → Option (iv_M)} {r : iv_M} {Q : Option Value → iv_H → Prop} (hk : ∀ (h : iv_H) (s : iv_M) (hR : Rep nc Ls Xs h s), kx s = some r → Rn d 332 none 25 [some (.ref q0), some (.int m1), none] [] h Q) (hq : ∀ h1, Rep nc Ls Xs h1 r → Q none h1) : ∀ (n : Nat) (h : iv_H) (s : iv_M) (hR : Rep nc Ls Xs h s) (m2 : Int32) (x2 : Int) (p2 : m2.toInt = x2), FX12_findsRows_l7 N q0 x1 kx n s x2 = some r → Rn d 332 none 7 [some (.ref q0), some (.int m1), some (.int m2)] [] h Q := by
  have hT := hX12_findsRows
  intro n
  induction n with
  | zero =>
    intro h s hR m2 x2 p2 e
    rw [FX12_findsRows_l7] at e
    cases e
  | succ n ih =>
    intro h s hR m2 x2 p2 e
    rw [FX12_findsRows_l7] at e
    refine Rn.n hT 2 (pc' := 9) (L' := [some (.ref q0), some (.int m1), some (.int m2)]) (st' := [.int (3 : Int32), .int m2]) rfl ?_
    by_cases c_4300 : 3 < x2
    · rw [if_pos c_4300] at e
      refine Rn.bt hT rfl rfl rfl (decide_eq_true ((ti_l L32_3 p2).mpr c_4300)) ?_
      exact Rn.weak (ll_s (ll_s (ll_n ll_e))) (hk h s hR e)
    · rw [if_neg c_4300] at e
      refine Rn.bf hT rfl rfl rfl (decide_eq_false (fun z => c_4300 ((ti_l L32_3 p2).mp z))) ?_
      refine Rn.n hT 1 (pc' := 13) (L' := [some (.ref q0), some (.int m1), some (.int m2)]) (st' := [.ref q0]) rfl ?_
      refine Rn.hp hT rfl rfl (gR_hp (rp_gR hR (T12_o t0) rfl)) ?_
      refine Rn.n hT 2 (pc' := 18) (L' := [some (.ref q0), some (.int m1), some (.int m2)]) (st' := [.int (0 : Int32), .int m2, .ref (q0 + 58)]) rfl ?_
      obtain ⟨s_4301, e_4302, e⟩ := Option.bind_eq_some_iff.mp e
      obtain ⟨h_4301, g_4302, R_4301⟩ := rp_wI hR (T12_77 t0) (T12_77l t0) p2 L32_0 e_4302
      refine Rn.hp hT rfl rfl (wI_hp g_4302) ?_
      refine Rn.n hT 2 (pc' := 7) (L' := [some (.ref q0), some (.int m1), some (.int (m2 + (1 : Int32)))]) (st' := []) rfl ?_
      exact Rn.weak (ll_s (ll_s (ll_s ll_e))) (ih h_4301 s_4301 R_4301 (m2 + (1 : Int32)) (w32 (x2 + 1)) (ti_add p2 L32_1) e)
def FX12_findsRows_b62 (N : Nat) (s : iv_M) (q0 : Nat) (x1 : Int) (x2 : Int)  (kb : iv_M → Int → Option (iv_M)) (kx : iv_M → Option (iv_M)) : Option (iv_M) := ((FX12_stepsBack N s q0 x2).bind fun r_4330 => (fun (v_4330 : Int) (s_4331 : iv_M) => (kb s_4331 v_4330)) r_4330.1 r_4330.2)
set_option maxRecDepth 10000 in
set_option maxHeartbeats 4000000 in
theorem RX12_findsRows_b62 {d N nc Ls : Nat} {Xs : Nat → Int32} (hd : 8 ≤ d) {h : iv_H} {s : iv_M} (hR : Rep nc Ls Xs h s) {q0 : Nat} (t0 : T12 nc q0) {m1 : Int32} {x1 : Int} (p1 : m1.toInt = x1) {m2 : Int32} {x2 : Int} (p2 : m2.toInt = x2)  {kb : iv_M → Int → Option (iv_M)} {kx : iv_M → Option (iv_M)} {r : iv_M} {Q : Option Value → iv_H → Prop} (hb : ∀ (h : iv_H) (s : iv_M) (hR : Rep nc Ls Xs h s) (mw2 : Int32) (xw2 : Int) (pw2 : mw2.toInt = xw2), kb s xw2 = some r → Rn d 332 none 41 [some (.ref q0), some (.int m1), some (.int mw2)] [] h Q) (hk : ∀ (h : iv_H) (s : iv_M) (hR : Rep nc Ls Xs h s), kx s = some r → Rn d 332 none 155 [none, none, none] [] h Q) (hq : ∀ h1, Rep nc Ls Xs h1 r → Q none h1) (e : FX12_findsRows_b62 N s q0 x1 x2  kb kx = some r) : Rn d 332 none 62 [some (.ref q0), some (.int m1), some (.int m2)] [] h Q := by
  have hT := hX12_findsRows
  unfold FX12_findsRows_b62 at e
  refine Rn.n hT 2 (pc' := 64) (L' := [some (.ref q0), some (.int m1), some (.int m2)]) (st' := [.int m2, .ref q0]) rfl ?_
  obtain ⟨⟨v_4330, s_4331⟩, e_4330, e⟩ := Option.bind_eq_some_iff.mp e
  try dsimp only at e
  try dsimp only at e
  refine Rn.call hT rfl rfl rfl (Nat.le_of_ble_eq_true rfl) (rcv_v gX12_stepsBack (by omega) (rp_ck hR (T12_o t0))) (RX12_stepsBack (by omega) hR t0 p2 e_4330 (fun z_4330 h_4331 p_4330 R_4331 => ?_))
  show Rn d _ _ 67 [some (.ref q0), some (.int m1), some (.int m2)] [.int z_4330] h_4331 Q
  refine Rn.n hT 2 (pc' := 41) (L' := [some (.ref q0), some (.int m1), some (.int z_4330)]) (st' := []) rfl ?_
  exact Rn.weak (ll_s (ll_s (ll_s ll_e))) (hb h_4331 s_4331 R_4331 z_4330 v_4330 p_4330 e)
def FX12_findsRows_l41 (N : Nat) (q0 : Nat) (x1 : Int) (kx : iv_M → Option (iv_M)) : Nat → iv_M → Int → Option (iv_M)
  | 0, _, _ => none
  | n + 1, s, x2 => (if x2 < 0 then (kx s) else (if x2 = x1 then ((FX12_isAsWoken N s q0).bind fun v_4326 => (if v_4326 = 0 then (FX12_findsRows_b62 N s q0 x1 x2 (FX12_findsRows_l41 N q0 x1 kx n) kx) else ((FX12_notesRow N s q0 x1).bind fun s_4329 => (FX12_findsRows_b62 N s_4329 q0 x1 x2 (FX12_findsRows_l41 N q0 x1 kx n) kx)))) else ((rd s (q0 + 55) 4 x2).bind fun v_4305 => ((wr s (q0 + 55) 4 x2 (w32 (v_4305 + 1))).bind fun s_4306 => ((rd s_4306 (q0 + 55) 4 x2).bind fun v_4308 => (if v_4308 = 204 then ((FX12_stepsBack N s_4306 q0 x2).bind fun r_4324 => (fun (v_4324 : Int) (s_4325 : iv_M) => (FX12_findsRows_l41 N q0 x1 kx n s_4325 v_4324)) r_4324.1 r_4324.2) else ((rd s_4306 (q0 + 55) 4 x2).bind fun v_4310 => ((FX12_mayBe N s_4306 q0 v_4310).bind fun r_4311 => (fun (v_4311 : Int) (s_4312 : iv_M) => (if v_4311 = 0 then (FX12_findsRows_l41 N q0 x1 kx n s_4312 x2) else ((rd s_4312 (q0 + 56) 4 x2).bind fun v_4314 => ((wr s_4312 (q0 + 56) 4 x2 (w32 (v_4314 + 1))).bind fun s_4315 => ((rd s_4315 (q0 + 55) 4 x2).bind fun v_4317 => ((FX12_does N s_4315 q0 v_4317).bind fun s_4319 => ((wr s_4319 (q0 + 55) 4 (w32 (x2 + 1)) (-1)).bind fun s_4320 => ((wr s_4320 (q0 + 56) 4 (w32 (x2 + 1)) (-1)).bind fun s_4322 => (FX12_findsRows_l41 N q0 x1 kx n s_4322 (w32 (x2 + 1))))))))))) r_4311.1 r_4311.2))))))))
set_option maxRecDepth 10000 in
set_option maxHeartbeats 4000000 in
theorem RX12_findsRows_l41 {d N nc Ls : Nat} {Xs : Nat → Int32} (hd : 8 ≤ d) {q0 : Nat} (t0 : T12 nc q0) {m1 : Int32} {x1 : Int} (p1 : m1.toInt = x1) {kx : iv_M → Option (iv_M)} {r : iv_M} {Q : Option Value → iv_H → Prop} (hk : ∀ (h : iv_H) (s : iv_M) (hR : Rep nc Ls Xs h s), kx s = some r → Rn d 332 none 155 [none, none, none] [] h Q) (hq : ∀ h1, Rep nc Ls Xs h1 r → Q none h1) : ∀ (n : Nat) (h : iv_H) (s : iv_M) (hR : Rep nc Ls Xs h s) (m2 : Int32) (x2 : Int) (p2 : m2.toInt = x2), FX12_findsRows_l41 N q0 x1 kx n s x2 = some r → Rn d 332 none 41 [some (.ref q0), some (.int m1), some (.int m2)] [] h Q := by
  have hT := hX12_findsRows
  intro n
  induction n with
  | zero =>
    intro h s hR m2 x2 p2 e
    rw [FX12_findsRows_l41] at e
    cases e
  | succ n ih =>
    intro h s hR m2 x2 p2 e
    rw [FX12_findsRows_l41] at e
    refine Rn.n hT 1 (pc' := 42) (L' := [some (.ref q0), some (.int m1), some (.int m2)]) (st' := [.int m2]) rfl ?_
    by_cases c_4303 : x2 < 0
    · rw [if_pos c_4303] at e
      refine Rn.bt hT rfl rfl rfl (decide_eq_true ((ti_l p2 L32_0).mpr c_4303)) ?_
      exact Rn.weak (ll_n (ll_n (ll_n ll_e))) (hk h s hR e)
    · rw [if_neg c_4303] at e
      refine Rn.bf hT rfl rfl rfl (decide_eq_false (fun z => c_4303 ((ti_l p2 L32_0).mp z))) ?_
      refine Rn.n hT 2 (pc' := 47) (L' := [some (.ref q0), some (.int m1), some (.int m2)]) (st' := [.int m1, .int m2]) rfl ?_
      by_cases c_4304 : x2 = x1
      · rw [if_pos c_4304] at e
        refine Rn.bf hT rfl rfl rfl (decide_eq_false (fun z => z ((ti_e p2 p1).mpr c_4304))) ?_
        refine Rn.n hT 1 (pc' := 51) (L' := [some (.ref q0), some (.int m1), some (.int m2)]) (st' := [.ref q0]) rfl ?_
        obtain ⟨v_4326, e_4326, e⟩ := Option.bind_eq_some_iff.mp e
        refine Rn.call hT rfl rfl rfl (Nat.le_of_ble_eq_true rfl) (rcv_v gX12_isAsWoken (by omega) (rp_ck hR (T12_o t0))) (RX12_isAsWoken (by omega) hR t0 e_4326 (fun z_4326 p_4326 => ?_))
        show Rn d _ _ 54 [some (.ref q0), some (.int m1), some (.int m2)] [.int z_4326] h Q
        by_cases c_4327 : v_4326 = 0
        · rw [if_pos c_4327] at e
          refine Rn.bt hT rfl rfl rfl (decide_eq_true ((ti_e p_4326 L32_0).mpr c_4327)) ?_
          exact Rn.weak (ll_s (ll_s (ll_s ll_e))) (RX12_findsRows_b62 hd hR t0 p1 p2 ih hk hq e)
        · rw [if_neg c_4327] at e
          refine Rn.bf hT rfl rfl rfl (decide_eq_false (fun z => c_4327 ((ti_e p_4326 L32_0).mp z))) ?_
          refine Rn.n hT 2 (pc' := 59) (L' := [some (.ref q0), some (.int m1), some (.int m2)]) (st' := [.int m1, .ref q0]) rfl ?_
          obtain ⟨s_4329, e_4328, e⟩ := Option.bind_eq_some_iff.mp e
          refine Rn.call hT rfl rfl rfl (Nat.le_of_ble_eq_true rfl) (rcv_v gX12_notesRow (by omega) (rp_ck hR (T12_o t0))) (RX12_notesRow (by omega) hR t0 p1 e_4328 (fun h_4329 R_4329 => ?_))
          show Rn d _ _ 62 [some (.ref q0), some (.int m1), some (.int m2)] [] h_4329 Q
          exact Rn.weak (ll_s (ll_s (ll_s ll_e))) (RX12_findsRows_b62 hd R_4329 t0 p1 p2 ih hk hq e)
      · rw [if_neg c_4304] at e
        refine Rn.bt hT rfl rfl rfl (decide_eq_true (fun z => c_4304 ((ti_e p2 p1).mp z))) ?_
        refine Rn.n hT 1 (pc' := 72) (L' := [some (.ref q0), some (.int m1), some (.int m2)]) (st' := [.ref q0]) rfl ?_
        refine Rn.hp hT rfl rfl (gR_hp (rp_gR hR (T12_o t0) rfl)) ?_
        refine Rn.n hT 2 (pc' := 77) (L' := [some (.ref q0), some (.int m1), some (.int m2)]) (st' := [.int m2, .ref (q0 + 55), .int m2, .ref (q0 + 55)]) rfl ?_
        obtain ⟨v_4305, e_4305, e⟩ := Option.bind_eq_some_iff.mp e
        obtain ⟨z_4305, g_4305, p_4305⟩ := rp_aI hR (T12_74 t0) (T12_74l t0) p2 e_4305
        refine Rn.hp hT rfl rfl (aI_hp g_4305) ?_
        refine Rn.n hT 2 (pc' := 80) (L' := [some (.ref q0), some (.int m1), some (.int m2)]) (st' := [.int (z_4305 + (1 : Int32)), .int m2, .ref (q0 + 55)]) rfl ?_
        obtain ⟨s_4306, e_4307, e⟩ := Option.bind_eq_some_iff.mp e
        obtain ⟨h_4306, g_4307, R_4306⟩ := rp_wI hR (T12_74 t0) (T12_74l t0) p2 (ti_add p_4305 L32_1) e_4307
        refine Rn.hp hT rfl rfl (wI_hp g_4307) ?_
        refine Rn.n hT 1 (pc' := 82) (L' := [some (.ref q0), some (.int m1), some (.int m2)]) (st' := [.ref q0]) rfl ?_
        refine Rn.hp hT rfl rfl (gR_hp (rp_gR R_4306 (T12_o t0) rfl)) ?_
        refine Rn.n hT 1 (pc' := 86) (L' := [some (.ref q0), some (.int m1), some (.int m2)]) (st' := [.int m2, .ref (q0 + 55)]) rfl ?_
        obtain ⟨v_4308, e_4308, e⟩ := Option.bind_eq_some_iff.mp e
        obtain ⟨z_4308, g_4308, p_4308⟩ := rp_aI R_4306 (T12_74 t0) (T12_74l t0) p2 e_4308
        refine Rn.hp hT rfl rfl (aI_hp g_4308) ?_
        refine Rn.n hT 1 (pc' := 90) (L' := [some (.ref q0), some (.int m1), some (.int m2)]) (st' := [.int (204 : Int32), .int z_4308]) rfl ?_
        by_cases c_4309 : v_4308 = 204
        · rw [if_pos c_4309] at e
          refine Rn.bf hT rfl rfl rfl (decide_eq_false (fun z => z ((ti_e p_4308 L32_204).mpr c_4309))) ?_
          refine Rn.n hT 2 (pc' := 95) (L' := [some (.ref q0), some (.int m1), some (.int m2)]) (st' := [.int m2, .ref q0]) rfl ?_
          obtain ⟨⟨v_4324, s_4325⟩, e_4324, e⟩ := Option.bind_eq_some_iff.mp e
          try dsimp only at e
          try dsimp only at e
          refine Rn.call hT rfl rfl rfl (Nat.le_of_ble_eq_true rfl) (rcv_v gX12_stepsBack (by omega) (rp_ck R_4306 (T12_o t0))) (RX12_stepsBack (by omega) R_4306 t0 p2 e_4324 (fun z_4324 h_4325 p_4324 R_4325 => ?_))
          show Rn d _ _ 98 [some (.ref q0), some (.int m1), some (.int m2)] [.int z_4324] h_4325 Q
          refine Rn.n hT 2 (pc' := 41) (L' := [some (.ref q0), some (.int m1), some (.int z_4324)]) (st' := []) rfl ?_
          exact Rn.weak (ll_s (ll_s (ll_s ll_e))) (ih h_4325 s_4325 R_4325 z_4324 v_4324 p_4324 e)
        · rw [if_neg c_4309] at e
          refine Rn.bt hT rfl rfl rfl (decide_eq_true (fun z => c_4309 ((ti_e p_4308 L32_204).mp z))) ?_
          refine Rn.n hT 2 (pc' := 104) (L' := [some (.ref q0), some (.int m1), some (.int m2)]) (st' := [.ref q0, .ref q0]) rfl ?_
          refine Rn.hp hT rfl rfl (gR_hp (rp_gR R_4306 (T12_o t0) rfl)) ?_
          refine Rn.n hT 1 (pc' := 108) (L' := [some (.ref q0), some (.int m1), some (.int m2)]) (st' := [.int m2, .ref (q0 + 55), .ref q0]) rfl ?_
          obtain ⟨v_4310, e_4310, e⟩ := Option.bind_eq_some_iff.mp e
          obtain ⟨z_4310, g_4310, p_4310⟩ := rp_aI R_4306 (T12_74 t0) (T12_74l t0) p2 e_4310
          refine Rn.hp hT rfl rfl (aI_hp g_4310) ?_
          obtain ⟨⟨v_4311, s_4312⟩, e_4311, e⟩ := Option.bind_eq_some_iff.mp e
          try dsimp only at e
          try dsimp only at e
          refine Rn.call hT rfl rfl rfl (Nat.le_of_ble_eq_true rfl) (rcv_v gX12_mayBe (by omega) (rp_ck R_4306 (T12_o t0))) (RX12_mayBe (by omega) R_4306 t0 p_4310 e_4311 (fun z_4311 h_4312 p_4311 R_4312 => ?_))
          show Rn d _ _ 112 [some (.ref q0), some (.int m1), some (.int m2)] [.int z_4311] h_4312 Q
          by_cases c_4313 : v_4311 = 0
          · rw [if_pos c_4313] at e
            refine Rn.bt hT rfl rfl rfl (decide_eq_true ((ti_e p_4311 L32_0).mpr c_4313)) ?_
            exact Rn.weak (ll_s (ll_s (ll_s ll_e))) (ih h_4312 s_4312 R_4312 m2 x2 p2 e)
          · rw [if_neg c_4313] at e
            refine Rn.bf hT rfl rfl rfl (decide_eq_false (fun z => c_4313 ((ti_e p_4311 L32_0).mp z))) ?_
            refine Rn.n hT 1 (pc' := 116) (L' := [some (.ref q0), some (.int m1), some (.int m2)]) (st' := [.ref q0]) rfl ?_
            refine Rn.hp hT rfl rfl (gR_hp (rp_gR R_4312 (T12_o t0) rfl)) ?_
            refine Rn.n hT 2 (pc' := 121) (L' := [some (.ref q0), some (.int m1), some (.int m2)]) (st' := [.int m2, .ref (q0 + 56), .int m2, .ref (q0 + 56)]) rfl ?_
            obtain ⟨v_4314, e_4314, e⟩ := Option.bind_eq_some_iff.mp e
            obtain ⟨z_4314, g_4314, p_4314⟩ := rp_aI R_4312 (T12_75 t0) (T12_75l t0) p2 e_4314
            refine Rn.hp hT rfl rfl (aI_hp g_4314) ?_
            refine Rn.n hT 2 (pc' := 124) (L' := [some (.ref q0), some (.int m1), some (.int m2)]) (st' := [.int (z_4314 + (1 : Int32)), .int m2, .ref (q0 + 56)]) rfl ?_
            obtain ⟨s_4315, e_4316, e⟩ := Option.bind_eq_some_iff.mp e
            obtain ⟨h_4315, g_4316, R_4315⟩ := rp_wI R_4312 (T12_75 t0) (T12_75l t0) p2 (ti_add p_4314 L32_1) e_4316
            refine Rn.hp hT rfl rfl (wI_hp g_4316) ?_
            refine Rn.n hT 2 (pc' := 127) (L' := [some (.ref q0), some (.int m1), some (.int m2)]) (st' := [.ref q0, .ref q0]) rfl ?_
            refine Rn.hp hT rfl rfl (gR_hp (rp_gR R_4315 (T12_o t0) rfl)) ?_
            refine Rn.n hT 1 (pc' := 131) (L' := [some (.ref q0), some (.int m1), some (.int m2)]) (st' := [.int m2, .ref (q0 + 55), .ref q0]) rfl ?_
            obtain ⟨v_4317, e_4317, e⟩ := Option.bind_eq_some_iff.mp e
            obtain ⟨z_4317, g_4317, p_4317⟩ := rp_aI R_4315 (T12_74 t0) (T12_74l t0) p2 e_4317
            refine Rn.hp hT rfl rfl (aI_hp g_4317) ?_
            obtain ⟨s_4319, e_4318, e⟩ := Option.bind_eq_some_iff.mp e
            refine Rn.call hT rfl rfl rfl (Nat.le_of_ble_eq_true rfl) (rcv_v gX12_does (by omega) (rp_ck R_4315 (T12_o t0))) (RX12_does (by omega) R_4315 t0 p_4317 e_4318 (fun h_4319 R_4319 => ?_))
            show Rn d _ _ 135 [some (.ref q0), some (.int m1), some (.int m2)] [] h_4319 Q
            refine Rn.n hT 2 (pc' := 139) (L' := [some (.ref q0), some (.int m1), some (.int (m2 + (1 : Int32)))]) (st' := [.ref q0]) rfl ?_
            refine Rn.hp hT rfl rfl (gR_hp (rp_gR R_4319 (T12_o t0) rfl)) ?_
            refine Rn.n hT 2 (pc' := 144) (L' := [some (.ref q0), some (.int m1), some (.int (m2 + (1 : Int32)))]) (st' := [.int (-1 : Int32), .int (m2 + (1 : Int32)), .ref (q0 + 55)]) rfl ?_
            obtain ⟨s_4320, e_4321, e⟩ := Option.bind_eq_some_iff.mp e
            obtain ⟨h_4320, g_4321, R_4320⟩ := rp_wI R_4319 (T12_74 t0) (T12_74l t0) (ti_add p2 L32_1) L32_m1 e_4321
            refine Rn.hp hT rfl rfl (wI_hp g_4321) ?_
            refine Rn.n hT 1 (pc' := 146) (L' := [some (.ref q0), some (.int m1), some (.int (m2 + (1 : Int32)))]) (st' := [.ref q0]) rfl ?_
            refine Rn.hp hT rfl rfl (gR_hp (rp_gR R_4320 (T12_o t0) rfl)) ?_
            refine Rn.n hT 2 (pc' := 151) (L' := [some (.ref q0), some (.int m1), some (.int (m2 + (1 : Int32)))]) (st' := [.int (-1 : Int32), .int (m2 + (1 : Int32)), .ref (q0 + 56)]) rfl ?_
            obtain ⟨s_4322, e_4323, e⟩ := Option.bind_eq_some_iff.mp e
            obtain ⟨h_4322, g_4323, R_4322⟩ := rp_wI R_4320 (T12_75 t0) (T12_75l t0) (ti_add p2 L32_1) L32_m1 e_4323
            refine Rn.hp hT rfl rfl (wI_hp g_4323) ?_
            refine Rn.n hT 1 (pc' := 41) (L' := [some (.ref q0), some (.int m1), some (.int (m2 + (1 : Int32)))]) (st' := []) rfl ?_
            exact Rn.weak (ll_s (ll_s (ll_s ll_e))) (ih h_4322 s_4322 R_4322 (m2 + (1 : Int32)) (w32 (x2 + 1)) (ti_add p2 L32_1) e)
def FX12_findsRows (N : Nat) (s : iv_M) (q0 : Nat) (x1 : Int) : Option (iv_M) := ((pt s q0 78 0).bind fun s_4290 => (FX12_findsRows_l7 N q0 x1 (fun (s_4292 : iv_M) => ((wr s_4292 (q0 + 55) 4 0 (-1)).bind fun s_4294 => ((wr s_4294 (q0 + 56) 4 0 (-1)).bind fun s_4296 => (FX12_findsRows_l41 N q0 x1 (fun (s_4298 : iv_M) => some s_4298) N s_4296 0)))) N s_4290 0))
set_option maxRecDepth 10000 in
set_option maxHeartbeats 4000000 in
theorem RX12_findsRows {d N nc Ls : Nat} {Xs : Nat → Int32} (hd : 9 ≤ d) {h : iv_H} {s : iv_M} (hR : Rep nc Ls Xs h s) {q0 : Nat} (t0 : T12 nc q0) {m1 : Int32} {x1 : Int} (p1 : m1.toInt = x1) {r : iv_M} {Q : Option Value → iv_H → Prop} (e : FX12_findsRows N s q0 x1 = some r) (hq : ∀ h1, Rep nc Ls Xs h1 r → Q none h1) : Cl d 332 [.ref q0, .int m1] h Q := by
  obtain ⟨d, rfl⟩ : ∃ k, d = k + 1 := ⟨d - 1, by omega⟩
  have hd : 8 ≤ d := by omega
  have hT := hX12_findsRows
  unfold FX12_findsRows at e
  refine Cl.into (by decide) gX12_findsRows rfl ?_
  show Rn d 332 none 0 [some (.ref q0), some (.int m1), none] [] h Q
  refine Rn.n hT 2 (pc' := 2) (L' := [some (.ref q0), some (.int m1), none]) (st' := [.int (0 : Int32), .ref q0]) rfl ?_
  obtain ⟨s_4290, e_4291, e⟩ := Option.bind_eq_some_iff.mp e
  obtain ⟨h_4290, g_4291, R_4290⟩ := rp_pI (ci := 12) (k := 78) hR (T12_o t0) rfl rfl L32_0 e_4291
  refine Rn.hp hT rfl rfl (pV_hp rfl g_4291) ?_
  refine Rn.n hT 2 (pc' := 7) (L' := [some (.ref q0), some (.int m1), some (.int (0 : Int32))]) (st' := []) rfl ?_
  refine Rn.weak (ll_s (ll_s (ll_s ll_e))) (RX12_findsRows_l7 hd t0 p1 (fun h_4292 s_4292 R_4292 e => ?_) hq N h_4290 s_4290 R_4290 (0 : Int32) 0 L32_0 e)
  try dsimp only at e
  refine Rn.n hT 3 (pc' := 28) (L' := [some (.ref q0), some (.int m1), some (.int (0 : Int32))]) (st' := [.ref q0]) rfl ?_
  refine Rn.hp hT rfl rfl (gR_hp (rp_gR R_4292 (T12_o t0) rfl)) ?_
  refine Rn.n hT 2 (pc' := 33) (L' := [some (.ref q0), some (.int m1), some (.int (0 : Int32))]) (st' := [.int (-1 : Int32), .int (0 : Int32), .ref (q0 + 55)]) rfl ?_
  obtain ⟨s_4294, e_4295, e⟩ := Option.bind_eq_some_iff.mp e
  obtain ⟨h_4294, g_4295, R_4294⟩ := rp_wI R_4292 (T12_74 t0) (T12_74l t0) L32_0 L32_m1 e_4295
  refine Rn.hp hT rfl rfl (wI_hp g_4295) ?_
  refine Rn.n hT 1 (pc' := 35) (L' := [some (.ref q0), some (.int m1), some (.int (0 : Int32))]) (st' := [.ref q0]) rfl ?_
  refine Rn.hp hT rfl rfl (gR_hp (rp_gR R_4294 (T12_o t0) rfl)) ?_
  refine Rn.n hT 2 (pc' := 40) (L' := [some (.ref q0), some (.int m1), some (.int (0 : Int32))]) (st' := [.int (-1 : Int32), .int (0 : Int32), .ref (q0 + 56)]) rfl ?_
  obtain ⟨s_4296, e_4297, e⟩ := Option.bind_eq_some_iff.mp e
  obtain ⟨h_4296, g_4297, R_4296⟩ := rp_wI R_4294 (T12_75 t0) (T12_75l t0) L32_0 L32_m1 e_4297
  refine Rn.hp hT rfl rfl (wI_hp g_4297) ?_
  refine Rn.weak (ll_s (ll_s (ll_s ll_e))) (RX12_findsRows_l41 hd t0 p1 (fun h_4298 s_4298 R_4298 e => ?_) hq N h_4296 s_4296 R_4296 (0 : Int32) 0 L32_0 e)
  try dsimp only at e
  obtain rfl := Option.some.inj e
  exact Rn.ret hT rfl rfl rfl (hq h_4298 R_4298)
set_option maxRecDepth 10000 in
theorem hX12_how : iv_Tb 334 tX12_how := iv_tb_of (m := mX12_how) rfl
set_option maxRecDepth 10000 in
theorem gX12_how : PG.2 334 = some mX12_how := iv_pi_of (t := tX12_how) rfl (by decide)
def FX12_how_b31 (N : Nat) (s : iv_M)   : Option (Int × iv_M) := (some ((-1), s))
set_option maxRecDepth 10000 in
set_option maxHeartbeats 4000000 in
theorem RX12_how_b31 {d N nc Ls : Nat} {Xs : Nat → Int32} (hd : 9 ≤ d) {h : iv_H} {s : iv_M} (hR : Rep nc Ls Xs h s)   {r : Int × iv_M} {Q : Option Value → iv_H → Prop} (hq : ∀ (z : Int32) (h1 : iv_H), z.toInt = r.1 → Rep nc Ls Xs h1 r.2 → Q (some (.int z)) h1) (e : FX12_how_b31 N s   = some r) : Rn d 334 (some .int) 31 [none, none, none] [] h Q := by
  have hT := hX12_how
  unfold FX12_how_b31 at e
  refine Rn.n hT 1 (pc' := 32) (L' := [none, none, none]) (st' := [.int (-1 : Int32)]) rfl ?_
  obtain rfl := Option.some.inj e
  exact Rn.ret hT rfl rfl rfl (hq (-1 : Int32) h L32_m1 hR)
def FX12_how_b86 (N : Nat) (s : iv_M)  (xs0 : Int) : Option (Int × iv_M) := (some (xs0, s))
set_option maxRecDepth 10000 in
set_option maxHeartbeats 4000000 in
theorem RX12_how_b86 {d N nc Ls : Nat} {Xs : Nat → Int32} (hd : 9 ≤ d) {h : iv_H} {s : iv_M} (hR : Rep nc Ls Xs h s)  {ms0 : Int32} {xs0 : Int} (ps0 : ms0.toInt = xs0) {r : Int × iv_M} {Q : Option Value → iv_H → Prop} (hq : ∀ (z : Int32) (h1 : iv_H), z.toInt = r.1 → Rep nc Ls Xs h1 r.2 → Q (some (.int z)) h1) (e : FX12_how_b86 N s  xs0 = some r) : Rn d 334 (some .int) 86 [none, none, none] [.int ms0] h Q := by
  have hT := hX12_how
  unfold FX12_how_b86 at e
  obtain rfl := Option.some.inj e
  exact Rn.ret hT rfl rfl rfl (hq ms0 h ps0 hR)
def FX12_how_b73 (N : Nat) (s : iv_M)   : Option (Int × iv_M) := (FX12_how_b86 N s (-2))
set_option maxRecDepth 10000 in
set_option maxHeartbeats 4000000 in
theorem RX12_how_b73 {d N nc Ls : Nat} {Xs : Nat → Int32} (hd : 9 ≤ d) {h : iv_H} {s : iv_M} (hR : Rep nc Ls Xs h s)   {r : Int × iv_M} {Q : Option Value → iv_H → Prop} (hq : ∀ (z : Int32) (h1 : iv_H), z.toInt = r.1 → Rep nc Ls Xs h1 r.2 → Q (some (.int z)) h1) (e : FX12_how_b73 N s   = some r) : Rn d 334 (some .int) 73 [none, none, none] [] h Q := by
  have hT := hX12_how
  unfold FX12_how_b73 at e
  refine Rn.n hT 2 (pc' := 86) (L' := [none, none, none]) (st' := [.int (-2 : Int32)]) rfl ?_
  exact Rn.weak (ll_n (ll_n (ll_n ll_e))) (RX12_how_b86 hd hR L32_m2 hq e)
def FX12_how (N : Nat) (s : iv_M) (q0 : Nat) (x1 : Int) (x2 : Int) : Option (Int × iv_M) := ((FX12_isPalace N s q0).bind fun v_4332 => (if v_4332 = 0 then (FX12_how_b31 N s) else ((FX12_in N s x1 0 3).bind fun v_4334 => (if v_4334 = 0 then (FX12_how_b31 N s) else ((FX12_in N s x2 0 6).bind fun v_4336 => (if v_4336 = 0 then (FX12_how_b31 N s) else ((FX12_findsRows N s q0 x1).bind fun s_4339 => (if x2 = 0 then (some ((s_4339 q0 78), s_4339)) else (if 3 < x2 then (if (s_4339 q0 78) = 0 then (FX12_how_b73 N s_4339) else (if (w32 (x2 - 4)) < x1 then ((rd s_4339 (q0 + 57) 3 (w32 (x2 - 4))).bind fun v_4345 => (FX12_how_b86 N s_4339 v_4345)) else (FX12_how_b73 N s_4339))) else ((rd s_4339 (q0 + 58) 4 x2).bind fun v_4346 => (some (v_4346, s_4339))))))))))))
set_option maxRecDepth 10000 in
set_option maxHeartbeats 4000000 in
theorem RX12_how {d N nc Ls : Nat} {Xs : Nat → Int32} (hd : 10 ≤ d) {h : iv_H} {s : iv_M} (hR : Rep nc Ls Xs h s) {q0 : Nat} (t0 : T12 nc q0) {m1 : Int32} {x1 : Int} (p1 : m1.toInt = x1) {m2 : Int32} {x2 : Int} (p2 : m2.toInt = x2) {r : Int × iv_M} {Q : Option Value → iv_H → Prop} (e : FX12_how N s q0 x1 x2 = some r) (hq : ∀ (z : Int32) (h1 : iv_H), z.toInt = r.1 → Rep nc Ls Xs h1 r.2 → Q (some (.int z)) h1) : Cl d 334 [.ref q0, .int m1, .int m2] h Q := by
  obtain ⟨d, rfl⟩ : ∃ k, d = k + 1 := ⟨d - 1, by omega⟩
  have hd : 9 ≤ d := by omega
  have hT := hX12_how
  unfold FX12_how at e
  refine Cl.into (by decide) gX12_how rfl ?_
  show Rn d 334 (some .int) 0 [some (.ref q0), some (.int m1), some (.int m2)] [] h Q
  refine Rn.n hT 1 (pc' := 1) (L' := [some (.ref q0), some (.int m1), some (.int m2)]) (st' := [.ref q0]) rfl ?_
  obtain ⟨v_4332, e_4332, e⟩ := Option.bind_eq_some_iff.mp e
  refine Rn.call hT rfl rfl rfl (Nat.le_of_ble_eq_true rfl) (rcv_v gX12_isPalace (by omega) (rp_ck hR (T12_o t0))) (RX12_isPalace (by omega) hR t0 e_4332 (fun z_4332 p_4332 => ?_))
  show Rn d _ _ 4 [some (.ref q0), some (.int m1), some (.int m2)] [.int z_4332] h Q
  by_cases c_4333 : v_4332 = 0
  · rw [if_pos c_4333] at e
    refine Rn.bt hT rfl rfl rfl (decide_eq_true ((ti_e p_4332 L32_0).mpr c_4333)) ?_
    exact Rn.weak (ll_n (ll_n (ll_n ll_e))) (RX12_how_b31 hd hR hq e)
  · rw [if_neg c_4333] at e
    refine Rn.bf hT rfl rfl rfl (decide_eq_false (fun z => c_4333 ((ti_e p_4332 L32_0).mp z))) ?_
    refine Rn.n hT 4 (pc' := 13) (L' := [some (.ref q0), some (.int m1), some (.int m2)]) (st' := [.long (3 : Int64), .long (0 : Int64), .long ((m1).toInt64)]) rfl ?_
    obtain ⟨v_4334, e_4334, e⟩ := Option.bind_eq_some_iff.mp e
    refine Rn.call hT rfl rfl rfl (Nat.le_of_ble_eq_true rfl) rfl (RX12_in (by omega) hR (ti_j p1) L64_0 L64_3 e_4334 (fun z_4334 p_4334 => ?_))
    show Rn d _ _ 16 [some (.ref q0), some (.int m1), some (.int m2)] [.int z_4334] h Q
    by_cases c_4335 : v_4334 = 0
    · rw [if_pos c_4335] at e
      refine Rn.bt hT rfl rfl rfl (decide_eq_true ((ti_e p_4334 L32_0).mpr c_4335)) ?_
      exact Rn.weak (ll_n (ll_n (ll_n ll_e))) (RX12_how_b31 hd hR hq e)
    · rw [if_neg c_4335] at e
      refine Rn.bf hT rfl rfl rfl (decide_eq_false (fun z => c_4335 ((ti_e p_4334 L32_0).mp z))) ?_
      refine Rn.n hT 4 (pc' := 25) (L' := [some (.ref q0), some (.int m1), some (.int m2)]) (st' := [.long (6 : Int64), .long (0 : Int64), .long ((m2).toInt64)]) rfl ?_
      obtain ⟨v_4336, e_4336, e⟩ := Option.bind_eq_some_iff.mp e
      refine Rn.call hT rfl rfl rfl (Nat.le_of_ble_eq_true rfl) rfl (RX12_in (by omega) hR (ti_j p2) L64_0 L64_6 e_4336 (fun z_4336 p_4336 => ?_))
      show Rn d _ _ 28 [some (.ref q0), some (.int m1), some (.int m2)] [.int z_4336] h Q
      by_cases c_4337 : v_4336 = 0
      · rw [if_pos c_4337] at e
        refine Rn.bf hT rfl rfl rfl (decide_eq_false (fun z => z ((ti_e p_4336 L32_0).mpr c_4337))) ?_
        exact Rn.weak (ll_n (ll_n (ll_n ll_e))) (RX12_how_b31 hd hR hq e)
      · rw [if_neg c_4337] at e
        refine Rn.bt hT rfl rfl rfl (decide_eq_true (fun z => c_4337 ((ti_e p_4336 L32_0).mp z))) ?_
        refine Rn.n hT 2 (pc' := 35) (L' := [some (.ref q0), some (.int m1), some (.int m2)]) (st' := [.int m1, .ref q0]) rfl ?_
        obtain ⟨s_4339, e_4338, e⟩ := Option.bind_eq_some_iff.mp e
        refine Rn.call hT rfl rfl rfl (Nat.le_of_ble_eq_true rfl) (rcv_v gX12_findsRows (by omega) (rp_ck hR (T12_o t0))) (RX12_findsRows (by omega) hR t0 p1 e_4338 (fun h_4339 R_4339 => ?_))
        show Rn d _ _ 38 [some (.ref q0), some (.int m1), some (.int m2)] [] h_4339 Q
        refine Rn.n hT 1 (pc' := 39) (L' := [some (.ref q0), some (.int m1), some (.int m2)]) (st' := [.int m2]) rfl ?_
        by_cases c_4340 : x2 = 0
        · rw [if_pos c_4340] at e
          refine Rn.bf hT rfl rfl rfl (decide_eq_false (fun z => z ((ti_e p2 L32_0).mpr c_4340))) ?_
          refine Rn.n hT 1 (pc' := 43) (L' := [some (.ref q0), some (.int m1), some (.int m2)]) (st' := [.ref q0]) rfl ?_
          obtain ⟨z_4347, g_4347, p_4347⟩ : ∃ z : Int32, gI h_4339 12 78 q0 = some z ∧ z.toInt = s_4339 q0 78 := rp_gI (k := 78) R_4339 (T12_o t0) rfl
          refine Rn.hp hT rfl rfl (gI_hp g_4347) ?_
          obtain rfl := Option.some.inj e
          exact Rn.ret hT rfl rfl rfl (hq z_4347 h_4339 p_4347 R_4339)
        · rw [if_neg c_4340] at e
          refine Rn.bt hT rfl rfl rfl (decide_eq_true (fun z => c_4340 ((ti_e p2 L32_0).mp z))) ?_
          refine Rn.n hT 2 (pc' := 49) (L' := [some (.ref q0), some (.int m1), some (.int m2)]) (st' := [.int (3 : Int32), .int m2]) rfl ?_
          by_cases c_4341 : 3 < x2
          · rw [if_pos c_4341] at e
            refine Rn.bt hT rfl rfl rfl (decide_eq_true ((ti_l L32_3 p2).mpr c_4341)) ?_
            refine Rn.n hT 1 (pc' := 60) (L' := [some (.ref q0), some (.int m1), some (.int m2)]) (st' := [.ref q0]) rfl ?_
            obtain ⟨z_4342, g_4342, p_4342⟩ : ∃ z : Int32, gI h_4339 12 78 q0 = some z ∧ z.toInt = s_4339 q0 78 := rp_gI (k := 78) R_4339 (T12_o t0) rfl
            refine Rn.hp hT rfl rfl (gI_hp g_4342) ?_
            by_cases c_4343 : (s_4339 q0 78) = 0
            · rw [if_pos c_4343] at e
              refine Rn.bt hT rfl rfl rfl (decide_eq_true ((ti_e p_4342 L32_0).mpr c_4343)) ?_
              exact Rn.weak (ll_n (ll_n (ll_n ll_e))) (RX12_how_b73 hd R_4339 hq e)
            · rw [if_neg c_4343] at e
              refine Rn.bf hT rfl rfl rfl (decide_eq_false (fun z => c_4343 ((ti_e p_4342 L32_0).mp z))) ?_
              refine Rn.n hT 4 (pc' := 70) (L' := [some (.ref q0), some (.int m1), some (.int m2)]) (st' := [.int m1, .int (m2 - (4 : Int32))]) rfl ?_
              by_cases c_4344 : (w32 (x2 - 4)) < x1
              · rw [if_pos c_4344] at e
                refine Rn.bt hT rfl rfl rfl (decide_eq_true ((ti_l (ti_sub p2 L32_4) p1).mpr c_4344)) ?_
                refine Rn.n hT 1 (pc' := 79) (L' := [some (.ref q0), some (.int m1), some (.int m2)]) (st' := [.ref q0]) rfl ?_
                refine Rn.hp hT rfl rfl (gR_hp (rp_gR R_4339 (T12_o t0) rfl)) ?_
                refine Rn.n hT 3 (pc' := 85) (L' := [some (.ref q0), some (.int m1), some (.int m2)]) (st' := [.int (m2 - (4 : Int32)), .ref (q0 + 57)]) rfl ?_
                obtain ⟨v_4345, e_4345, e⟩ := Option.bind_eq_some_iff.mp e
                obtain ⟨z_4345, g_4345, p_4345⟩ := rp_aI R_4339 (T12_76 t0) (T12_76l t0) (ti_sub p2 L32_4) e_4345
                refine Rn.hp hT rfl rfl (aI_hp g_4345) ?_
                exact Rn.weak (ll_n (ll_n (ll_n ll_e))) (RX12_how_b86 hd R_4339 p_4345 hq e)
              · rw [if_neg c_4344] at e
                refine Rn.bf hT rfl rfl rfl (decide_eq_false (fun z => c_4344 ((ti_l (ti_sub p2 L32_4) p1).mp z))) ?_
                exact Rn.weak (ll_n (ll_n (ll_n ll_e))) (RX12_how_b73 hd R_4339 hq e)
          · rw [if_neg c_4341] at e
            refine Rn.bf hT rfl rfl rfl (decide_eq_false (fun z => c_4341 ((ti_l L32_3 p2).mp z))) ?_
            refine Rn.n hT 1 (pc' := 53) (L' := [some (.ref q0), some (.int m1), some (.int m2)]) (st' := [.ref q0]) rfl ?_
            refine Rn.hp hT rfl rfl (gR_hp (rp_gR R_4339 (T12_o t0) rfl)) ?_
            refine Rn.n hT 1 (pc' := 57) (L' := [some (.ref q0), some (.int m1), some (.int m2)]) (st' := [.int m2, .ref (q0 + 58)]) rfl ?_
            obtain ⟨v_4346, e_4346, e⟩ := Option.bind_eq_some_iff.mp e
            obtain ⟨z_4346, g_4346, p_4346⟩ := rp_aI R_4339 (T12_77 t0) (T12_77l t0) p2 e_4346
            refine Rn.hp hT rfl rfl (aI_hp g_4346) ?_
            obtain rfl := Option.some.inj e
            exact Rn.ret hT rfl rfl rfl (hq z_4346 h_4339 p_4346 R_4339)
set_option maxRecDepth 10000 in
theorem hX12_builtSide : iv_Tb 335 tX12_builtSide := iv_tb_of (m := mX12_builtSide) rfl
set_option maxRecDepth 10000 in
theorem gX12_builtSide : PG.2 335 = some mX12_builtSide := iv_pi_of (t := tX12_builtSide) rfl (by decide)
def FX12_builtSide_b45 (N : Nat) (s : iv_M)  (xs0 : Int) : Option (Int) := (some xs0)
set_option maxRecDepth 10000 in
set_option maxHeartbeats 4000000 in
theorem RX12_builtSide_b45 {d N nc Ls : Nat} {Xs : Nat → Int32} (hd : 3 ≤ d) {h : iv_H} {s : iv_M} (hR : Rep nc Ls Xs h s)  {ms0 : Int32} {xs0 : Int} (ps0 : ms0.toInt = xs0) {r : Int} {Q : Option Value → iv_H → Prop} (hq : ∀ (z : Int32), z.toInt = r → Q (some (.int z)) h) (e : FX12_builtSide_b45 N s  xs0 = some r) : Rn d 335 (some .int) 45 [none, none, none, none, none] [.int ms0] h Q := by
  have hT := hX12_builtSide
  unfold FX12_builtSide_b45 at e
  obtain rfl := Option.some.inj e
  exact Rn.ret hT rfl rfl rfl (hq ms0 ps0)
def FX12_builtSide_b22 (N : Nat) (s : iv_M) (q0 : Nat) (x2 : Int) (xs0 : Int) : Option (Int) := (if xs0 = (-1) then (FX12_builtSide_b45 N s 0) else ((FX12_sortAt N s q0 xs0 (bAn (w32 (x2 + 2)) 3)).bind fun v_4352 => (FX12_builtSide_b45 N s v_4352)))
set_option maxRecDepth 10000 in
set_option maxHeartbeats 4000000 in
theorem RX12_builtSide_b22 {d N nc Ls : Nat} {Xs : Nat → Int32} (hd : 3 ≤ d) {h : iv_H} {s : iv_M} (hR : Rep nc Ls Xs h s) {q0 : Nat} (t0 : T12 nc q0) {m2 : Int32} {x2 : Int} (p2 : m2.toInt = x2) {ms0 : Int32} {xs0 : Int} (ps0 : ms0.toInt = xs0) {r : Int} {Q : Option Value → iv_H → Prop} (hq : ∀ (z : Int32), z.toInt = r → Q (some (.int z)) h) (e : FX12_builtSide_b22 N s q0 x2 xs0 = some r) : Rn d 335 (some .int) 22 [some (.ref q0), none, some (.int m2), none, none] [.int ms0] h Q := by
  have hT := hX12_builtSide
  unfold FX12_builtSide_b22 at e
  refine Rn.n hT 3 (pc' := 27) (L' := [some (.ref q0), none, some (.int m2), none, some (.int ms0)]) (st' := [.int (-1 : Int32), .int ms0]) rfl ?_
  by_cases c_4351 : xs0 = (-1)
  · rw [if_pos c_4351] at e
    refine Rn.bf hT rfl rfl rfl (decide_eq_false (fun z => z ((ti_e ps0 L32_m1).mpr c_4351))) ?_
    refine Rn.n hT 2 (pc' := 45) (L' := [some (.ref q0), none, some (.int m2), none, some (.int ms0)]) (st' := [.int (0 : Int32)]) rfl ?_
    exact Rn.weak (ll_n (ll_n (ll_n (ll_n (ll_n ll_e))))) (RX12_builtSide_b45 hd hR L32_0 hq e)
  · rw [if_neg c_4351] at e
    refine Rn.bt hT rfl rfl rfl (decide_eq_true (fun z => c_4351 ((ti_e ps0 L32_m1).mp z))) ?_
    refine Rn.n hT 7 (pc' := 42) (L' := [some (.ref q0), none, some (.int m2), none, some (.int ms0)]) (st' := [.int ((m2 + (2 : Int32)) &&& (3 : Int32)), .int ms0, .ref q0]) rfl ?_
    obtain ⟨v_4352, e_4352, e⟩ := Option.bind_eq_some_iff.mp e
    refine Rn.call hT rfl rfl rfl (Nat.le_of_ble_eq_true rfl) (rcv_v gX12_sortAt (by omega) (rp_ck hR (T12_o t0))) (RX12_sortAt (by omega) hR t0 ps0 (ti_and (ti_add p2 L32_2) L32_3) e_4352 (fun z_4352 p_4352 => ?_))
    show Rn d _ _ 45 [some (.ref q0), none, some (.int m2), none, some (.int ms0)] [.int z_4352] h Q
    exact Rn.weak (ll_n (ll_n (ll_n (ll_n (ll_n ll_e))))) (RX12_builtSide_b45 hd hR p_4352 hq e)
def FX12_builtSide (N : Nat) (s : iv_M) (q0 : Nat) (x1 : Int) (x2 : Int) : Option (Int) := ((FX12_by N s q0 x1 x2).bind fun v_4348 => (if v_4348 = (-1) then (FX12_builtSide_b22 N s q0 x2 (-1)) else ((rd s (q0 + 8) 16 v_4348).bind fun v_4350 => (FX12_builtSide_b22 N s q0 x2 v_4350))))
set_option maxRecDepth 10000 in
set_option maxHeartbeats 4000000 in
theorem RX12_builtSide {d N nc Ls : Nat} {Xs : Nat → Int32} (hd : 4 ≤ d) {h : iv_H} {s : iv_M} (hR : Rep nc Ls Xs h s) {q0 : Nat} (t0 : T12 nc q0) {m1 : Int32} {x1 : Int} (p1 : m1.toInt = x1) {m2 : Int32} {x2 : Int} (p2 : m2.toInt = x2) {r : Int} {Q : Option Value → iv_H → Prop} (e : FX12_builtSide N s q0 x1 x2 = some r) (hq : ∀ (z : Int32), z.toInt = r → Q (some (.int z)) h) : Cl d 335 [.ref q0, .int m1, .int m2] h Q := by
  obtain ⟨d, rfl⟩ : ∃ k, d = k + 1 := ⟨d - 1, by omega⟩
  have hd : 3 ≤ d := by omega
  have hT := hX12_builtSide
  unfold FX12_builtSide at e
  refine Cl.into (by decide) gX12_builtSide rfl ?_
  show Rn d 335 (some .int) 0 [some (.ref q0), some (.int m1), some (.int m2), none, none] [] h Q
  refine Rn.n hT 3 (pc' := 3) (L' := [some (.ref q0), some (.int m1), some (.int m2), none, none]) (st' := [.int m2, .int m1, .ref q0]) rfl ?_
  obtain ⟨v_4348, e_4348, e⟩ := Option.bind_eq_some_iff.mp e
  refine Rn.call hT rfl rfl rfl (Nat.le_of_ble_eq_true rfl) (rcv_v gX12_by (by omega) (rp_ck hR (T12_o t0))) (RX12_by (by omega) hR t0 p1 p2 e_4348 (fun z_4348 p_4348 => ?_))
  show Rn d _ _ 6 [some (.ref q0), some (.int m1), some (.int m2), none, none] [.int z_4348] h Q
  refine Rn.n hT 3 (pc' := 9) (L' := [some (.ref q0), some (.int m1), some (.int m2), some (.int z_4348), none]) (st' := [.int (-1 : Int32), .int z_4348]) rfl ?_
  by_cases c_4349 : v_4348 = (-1)
  · rw [if_pos c_4349] at e
    refine Rn.bf hT rfl rfl rfl (decide_eq_false (fun z => z ((ti_e p_4348 L32_m1).mpr c_4349))) ?_
    refine Rn.n hT 2 (pc' := 22) (L' := [some (.ref q0), some (.int m1), some (.int m2), some (.int z_4348), none]) (st' := [.int (-1 : Int32)]) rfl ?_
    exact Rn.weak (ll_s (ll_n (ll_s (ll_n (ll_n ll_e))))) (RX12_builtSide_b22 hd hR t0 p2 L32_m1 hq e)
  · rw [if_neg c_4349] at e
    refine Rn.bt hT rfl rfl rfl (decide_eq_true (fun z => c_4349 ((ti_e p_4348 L32_m1).mp z))) ?_
    refine Rn.n hT 1 (pc' := 17) (L' := [some (.ref q0), some (.int m1), some (.int m2), some (.int z_4348), none]) (st' := [.ref q0]) rfl ?_
    refine Rn.hp hT rfl rfl (gR_hp (rp_gR hR (T12_o t0) rfl)) ?_
    refine Rn.n hT 1 (pc' := 21) (L' := [some (.ref q0), some (.int m1), some (.int m2), some (.int z_4348), none]) (st' := [.int z_4348, .ref (q0 + 8)]) rfl ?_
    obtain ⟨v_4350, e_4350, e⟩ := Option.bind_eq_some_iff.mp e
    obtain ⟨z_4350, g_4350, p_4350⟩ := rp_aI hR (T12_8 t0) (T12_8l t0) p_4348 e_4350
    refine Rn.hp hT rfl rfl (aI_hp g_4350) ?_
    exact Rn.weak (ll_s (ll_n (ll_s (ll_n (ll_n ll_e))))) (RX12_builtSide_b22 hd hR t0 p2 p_4350 hq e)
set_option maxRecDepth 10000 in
theorem hX12_builtMismatches : iv_Tb 336 tX12_builtMismatches := iv_tb_of (m := mX12_builtMismatches) rfl
set_option maxRecDepth 10000 in
theorem gX12_builtMismatches : PG.2 336 = some mX12_builtMismatches := iv_pi_of (t := tX12_builtMismatches) rfl (by decide)
def FX12_builtMismatches_b63 (N : Nat) (s : iv_M) (q0 : Nat) (x1 : Int) (x3 : Int) (xs0 : Int) (xs1 : Int) (kb : iv_M → Int → Int → Option (Int × iv_M)) (kx : iv_M → Int → Option (Int × iv_M)) : Option (Int × iv_M) := (kb s (w32 (xs1 - xs0)) (w32 (x3 + 1)))
set_option maxRecDepth 10000 in
set_option maxHeartbeats 4000000 in
theorem RX12_builtMismatches_b63 {d N nc Ls : Nat} {Xs : Nat → Int32} (hd : 6 ≤ d) {h : iv_H} {s : iv_M} (hR : Rep nc Ls Xs h s) {q0 : Nat} (t0 : T12 nc q0) {m1 : Int32} {x1 : Int} (p1 : m1.toInt = x1) {m3 : Int32} {x3 : Int} (p3 : m3.toInt = x3) {ms0 : Int32} {xs0 : Int} (ps0 : ms0.toInt = xs0) {ms1 : Int32} {xs1 : Int} (ps1 : ms1.toInt = xs1) {kb : iv_M → Int → Int → Option (Int × iv_M)} {kx : iv_M → Int → Option (Int × iv_M)} {r : Int × iv_M} {Q : Option Value → iv_H → Prop} (hb : ∀ (h : iv_H) (s : iv_M) (hR : Rep nc Ls Xs h s) (mw2 : Int32) (xw2 : Int) (pw2 : mw2.toInt = xw2) (mw3 : Int32) (xw3 : Int) (pw3 : mw3.toInt = xw3), kb s xw2 xw3 = some r → Rn d 336 (some .int) 7 [some (.ref q0), some (.int m1), some (.int mw2), some (.int mw3), none] [] h Q) (hk : ∀ (h : iv_H) (s : iv_M) (hR : Rep nc Ls Xs h s) (mw2 : Int32) (xw2 : Int) (pw2 : mw2.toInt = xw2), kx s xw2 = some r → Rn d 336 (some .int) 71 [none, none, some (.int mw2), none, none] [] h Q) (hq : ∀ (z : Int32) (h1 : iv_H), z.toInt = r.1 → Rep nc Ls Xs h1 r.2 → Q (some (.int z)) h1) (e : FX12_builtMismatches_b63 N s q0 x1 x3 xs0 xs1 kb kx = some r) : Rn d 336 (some .int) 63 [some (.ref q0), some (.int m1), none, some (.int m3), none] [.int ms0, .int ms1] h Q := by
  have hT := hX12_builtMismatches
  unfold FX12_builtMismatches_b63 at e
  refine Rn.n hT 4 (pc' := 7) (L' := [some (.ref q0), some (.int m1), some (.int (ms1 - ms0)), some (.int (m3 + (1 : Int32))), none]) (st' := []) rfl ?_
  exact Rn.weak (ll_s (ll_s (ll_s (ll_s (ll_n ll_e))))) (hb h s hR (ms1 - ms0) (w32 (xs1 - xs0)) (ti_sub ps1 ps0) (m3 + (1 : Int32)) (w32 (x3 + 1)) (ti_add p3 L32_1) e)
def FX12_builtMismatches_b62 (N : Nat) (s : iv_M) (q0 : Nat) (x1 : Int) (x3 : Int) (xs0 : Int) (kb : iv_M → Int → Int → Option (Int × iv_M)) (kx : iv_M → Int → Option (Int × iv_M)) : Option (Int × iv_M) := (FX12_builtMismatches_b63 N s q0 x1 x3 0 xs0 kb kx)
set_option maxRecDepth 10000 in
set_option maxHeartbeats 4000000 in
theorem RX12_builtMismatches_b62 {d N nc Ls : Nat} {Xs : Nat → Int32} (hd : 6 ≤ d) {h : iv_H} {s : iv_M} (hR : Rep nc Ls Xs h s) {q0 : Nat} (t0 : T12 nc q0) {m1 : Int32} {x1 : Int} (p1 : m1.toInt = x1) {m3 : Int32} {x3 : Int} (p3 : m3.toInt = x3) {ms0 : Int32} {xs0 : Int} (ps0 : ms0.toInt = xs0) {kb : iv_M → Int → Int → Option (Int × iv_M)} {kx : iv_M → Int → Option (Int × iv_M)} {r : Int × iv_M} {Q : Option Value → iv_H → Prop} (hb : ∀ (h : iv_H) (s : iv_M) (hR : Rep nc Ls Xs h s) (mw2 : Int32) (xw2 : Int) (pw2 : mw2.toInt = xw2) (mw3 : Int32) (xw3 : Int) (pw3 : mw3.toInt = xw3), kb s xw2 xw3 = some r → Rn d 336 (some .int) 7 [some (.ref q0), some (.int m1), some (.int mw2), some (.int mw3), none] [] h Q) (hk : ∀ (h : iv_H) (s : iv_M) (hR : Rep nc Ls Xs h s) (mw2 : Int32) (xw2 : Int) (pw2 : mw2.toInt = xw2), kx s xw2 = some r → Rn d 336 (some .int) 71 [none, none, some (.int mw2), none, none] [] h Q) (hq : ∀ (z : Int32) (h1 : iv_H), z.toInt = r.1 → Rep nc Ls Xs h1 r.2 → Q (some (.int z)) h1) (e : FX12_builtMismatches_b62 N s q0 x1 x3 xs0 kb kx = some r) : Rn d 336 (some .int) 62 [some (.ref q0), some (.int m1), none, some (.int m3), none] [.int ms0] h Q := by
  have hT := hX12_builtMismatches
  unfold FX12_builtMismatches_b62 at e
  refine Rn.n hT 1 (pc' := 63) (L' := [some (.ref q0), some (.int m1), none, some (.int m3), none]) (st' := [.int (0 : Int32), .int ms0]) rfl ?_
  exact Rn.weak (ll_s (ll_s (ll_n (ll_s (ll_n ll_e))))) (RX12_builtMismatches_b63 hd hR t0 p1 p3 L32_0 ps0 hb hk hq e)
def FX12_builtMismatches_l7 (N : Nat) (q0 : Nat) (x1 : Int) (kx : iv_M → Int → Option (Int × iv_M)) : Nat → iv_M → Int → Int → Option (Int × iv_M)
  | 0, _, _, _ => none
  | n + 1, s, x2, x3 => (if 4 ≤ x3 then (kx s x2) else ((FX12_by N s q0 x1 x3).bind fun v_4358 => (if v_4358 = (-1) then (FX12_builtMismatches_b62 N s q0 x1 x3 x2 (FX12_builtMismatches_l7 N q0 x1 kx n) kx) else ((rd s (q0 + 8) 16 v_4358).bind fun v_4360 => (if v_4360 = (-1) then (FX12_builtMismatches_b62 N s q0 x1 x3 x2 (FX12_builtMismatches_l7 N q0 x1 kx n) kx) else ((rd s (q0 + 8) 16 v_4358).bind fun v_4362 => ((FX12_sortAt N s q0 v_4362 (bAn (w32 (x3 + 2)) 3)).bind fun v_4363 => (if v_4363 = 1 then (FX12_builtMismatches_b63 N s q0 x1 x3 1 x2 (FX12_builtMismatches_l7 N q0 x1 kx n) kx) else (FX12_builtMismatches_b62 N s q0 x1 x3 x2 (FX12_builtMismatches_l7 N q0 x1 kx n) kx)))))))))
set_option maxRecDepth 10000 in
set_option maxHeartbeats 4000000 in
theorem RX12_builtMismatches_l7 {d N nc Ls : Nat} {Xs : Nat → Int32} (hd : 6 ≤ d) {q0 : Nat} (t0 : T12 nc q0) {m1 : Int32} {x1 : Int} (p1 : m1.toInt = x1) {kx : iv_M → Int → Option (Int × iv_M)} {r : Int × iv_M} {Q : Option Value → iv_H → Prop} (hk : ∀ (h : iv_H) (s : iv_M) (hR : Rep nc Ls Xs h s) (m2 : Int32) (x2 : Int) (p2 : m2.toInt = x2), kx s x2 = some r → Rn d 336 (some .int) 71 [none, none, some (.int m2), none, none] [] h Q) (hq : ∀ (z : Int32) (h1 : iv_H), z.toInt = r.1 → Rep nc Ls Xs h1 r.2 → Q (some (.int z)) h1) : ∀ (n : Nat) (h : iv_H) (s : iv_M) (hR : Rep nc Ls Xs h s) (m2 : Int32) (x2 : Int) (p2 : m2.toInt = x2) (m3 : Int32) (x3 : Int) (p3 : m3.toInt = x3), FX12_builtMismatches_l7 N q0 x1 kx n s x2 x3 = some r → Rn d 336 (some .int) 7 [some (.ref q0), some (.int m1), some (.int m2), some (.int m3), none] [] h Q := by
  have hT := hX12_builtMismatches
  intro n
  induction n with
  | zero =>
    intro h s hR m2 x2 p2 m3 x3 p3 e
    rw [FX12_builtMismatches_l7] at e
    cases e
  | succ n ih =>
    intro h s hR m2 x2 p2 m3 x3 p3 e
    rw [FX12_builtMismatches_l7] at e
    refine Rn.n hT 2 (pc' := 9) (L' := [some (.ref q0), some (.int m1), some (.int m2), some (.int m3), none]) (st' := [.int (4 : Int32), .int m3]) rfl ?_
    by_cases c_4357 : 4 ≤ x3
    · rw [if_pos c_4357] at e
      refine Rn.bt hT rfl rfl rfl (decide_eq_true ((ti_le L32_4 p3).mpr c_4357)) ?_
      exact Rn.weak (ll_n (ll_n (ll_s (ll_n (ll_n ll_e))))) (hk h s hR m2 x2 p2 e)
    · rw [if_neg c_4357] at e
      refine Rn.bf hT rfl rfl rfl (decide_eq_false (fun z => c_4357 ((ti_le L32_4 p3).mp z))) ?_
      refine Rn.n hT 3 (pc' := 15) (L' := [some (.ref q0), some (.int m1), some (.int m2), some (.int m3), none]) (st' := [.int m3, .int m1, .ref q0]) rfl ?_
      obtain ⟨v_4358, e_4358, e⟩ := Option.bind_eq_some_iff.mp e
      refine Rn.call hT rfl rfl rfl (Nat.le_of_ble_eq_true rfl) (rcv_v gX12_by (by omega) (rp_ck hR (T12_o t0))) (RX12_by (by omega) hR t0 p1 p3 e_4358 (fun z_4358 p_4358 => ?_))
      show Rn d _ _ 18 [some (.ref q0), some (.int m1), some (.int m2), some (.int m3), none] [.int z_4358] h Q
      refine Rn.n hT 4 (pc' := 24) (L' := [some (.ref q0), some (.int m1), some (.int m2), some (.int m3), some (.int z_4358)]) (st' := [.int (-1 : Int32), .int z_4358, .int m2]) rfl ?_
      by_cases c_4359 : v_4358 = (-1)
      · rw [if_pos c_4359] at e
        refine Rn.bt hT rfl rfl rfl (decide_eq_true ((ti_e p_4358 L32_m1).mpr c_4359)) ?_
        exact Rn.weak (ll_s (ll_s (ll_n (ll_s (ll_n ll_e))))) (RX12_builtMismatches_b62 hd hR t0 p1 p3 p2 ih hk hq e)
      · rw [if_neg c_4359] at e
        refine Rn.bf hT rfl rfl rfl (decide_eq_false (fun z => c_4359 ((ti_e p_4358 L32_m1).mp z))) ?_
        refine Rn.n hT 1 (pc' := 28) (L' := [some (.ref q0), some (.int m1), some (.int m2), some (.int m3), some (.int z_4358)]) (st' := [.ref q0, .int m2]) rfl ?_
        refine Rn.hp hT rfl rfl (gR_hp (rp_gR hR (T12_o t0) rfl)) ?_
        refine Rn.n hT 1 (pc' := 33) (L' := [some (.ref q0), some (.int m1), some (.int m2), some (.int m3), some (.int z_4358)]) (st' := [.int z_4358, .ref (q0 + 8), .int m2]) rfl ?_
        obtain ⟨v_4360, e_4360, e⟩ := Option.bind_eq_some_iff.mp e
        obtain ⟨z_4360, g_4360, p_4360⟩ := rp_aI hR (T12_8 t0) (T12_8l t0) p_4358 e_4360
        refine Rn.hp hT rfl rfl (aI_hp g_4360) ?_
        refine Rn.n hT 1 (pc' := 35) (L' := [some (.ref q0), some (.int m1), some (.int m2), some (.int m3), some (.int z_4358)]) (st' := [.int (-1 : Int32), .int z_4360, .int m2]) rfl ?_
        by_cases c_4361 : v_4360 = (-1)
        · rw [if_pos c_4361] at e
          refine Rn.bt hT rfl rfl rfl (decide_eq_true ((ti_e p_4360 L32_m1).mpr c_4361)) ?_
          exact Rn.weak (ll_s (ll_s (ll_n (ll_s (ll_n ll_e))))) (RX12_builtMismatches_b62 hd hR t0 p1 p3 p2 ih hk hq e)
        · rw [if_neg c_4361] at e
          refine Rn.bf hT rfl rfl rfl (decide_eq_false (fun z => c_4361 ((ti_e p_4360 L32_m1).mp z))) ?_
          refine Rn.n hT 2 (pc' := 40) (L' := [some (.ref q0), some (.int m1), some (.int m2), some (.int m3), some (.int z_4358)]) (st' := [.ref q0, .ref q0, .int m2]) rfl ?_
          refine Rn.hp hT rfl rfl (gR_hp (rp_gR hR (T12_o t0) rfl)) ?_
          refine Rn.n hT 1 (pc' := 45) (L' := [some (.ref q0), some (.int m1), some (.int m2), some (.int m3), some (.int z_4358)]) (st' := [.int z_4358, .ref (q0 + 8), .ref q0, .int m2]) rfl ?_
          obtain ⟨v_4362, e_4362, e⟩ := Option.bind_eq_some_iff.mp e
          obtain ⟨z_4362, g_4362, p_4362⟩ := rp_aI hR (T12_8 t0) (T12_8l t0) p_4358 e_4362
          refine Rn.hp hT rfl rfl (aI_hp g_4362) ?_
          refine Rn.n hT 5 (pc' := 51) (L' := [some (.ref q0), some (.int m1), some (.int m2), some (.int m3), some (.int z_4358)]) (st' := [.int ((m3 + (2 : Int32)) &&& (3 : Int32)), .int z_4362, .ref q0, .int m2]) rfl ?_
          obtain ⟨v_4363, e_4363, e⟩ := Option.bind_eq_some_iff.mp e
          refine Rn.call hT rfl rfl rfl (Nat.le_of_ble_eq_true rfl) (rcv_v gX12_sortAt (by omega) (rp_ck hR (T12_o t0))) (RX12_sortAt (by omega) hR t0 p_4362 (ti_and (ti_add p3 L32_2) L32_3) e_4363 (fun z_4363 p_4363 => ?_))
          show Rn d _ _ 54 [some (.ref q0), some (.int m1), some (.int m2), some (.int m3), some (.int z_4358)] [.int z_4363, .int m2] h Q
          refine Rn.n hT 1 (pc' := 55) (L' := [some (.ref q0), some (.int m1), some (.int m2), some (.int m3), some (.int z_4358)]) (st' := [.int (1 : Int32), .int z_4363, .int m2]) rfl ?_
          by_cases c_4364 : v_4363 = 1
          · rw [if_pos c_4364] at e
            refine Rn.bf hT rfl rfl rfl (decide_eq_false (fun z => z ((ti_e p_4363 L32_1).mpr c_4364))) ?_
            refine Rn.n hT 2 (pc' := 63) (L' := [some (.ref q0), some (.int m1), some (.int m2), some (.int m3), some (.int z_4358)]) (st' := [.int (1 : Int32), .int m2]) rfl ?_
            exact Rn.weak (ll_s (ll_s (ll_n (ll_s (ll_n ll_e))))) (RX12_builtMismatches_b63 hd hR t0 p1 p3 L32_1 p2 ih hk hq e)
          · rw [if_neg c_4364] at e
            refine Rn.bt hT rfl rfl rfl (decide_eq_true (fun z => c_4364 ((ti_e p_4363 L32_1).mp z))) ?_
            exact Rn.weak (ll_s (ll_s (ll_n (ll_s (ll_n ll_e))))) (RX12_builtMismatches_b62 hd hR t0 p1 p3 p2 ih hk hq e)
def FX12_builtMismatches (N : Nat) (s : iv_M) (q0 : Nat) (x1 : Int) : Option (Int × iv_M) := ((FX12_mismatches N s q0).bind fun r_4353 => (fun (v_4353 : Int) (s_4354 : iv_M) => (FX12_builtMismatches_l7 N q0 x1 (fun (s_4355 : iv_M) (x4356_2 : Int) => (some (x4356_2, s_4355))) N s_4354 v_4353 0)) r_4353.1 r_4353.2)
set_option maxRecDepth 10000 in
set_option maxHeartbeats 4000000 in
theorem RX12_builtMismatches {d N nc Ls : Nat} {Xs : Nat → Int32} (hd : 7 ≤ d) {h : iv_H} {s : iv_M} (hR : Rep nc Ls Xs h s) {q0 : Nat} (t0 : T12 nc q0) {m1 : Int32} {x1 : Int} (p1 : m1.toInt = x1) {r : Int × iv_M} {Q : Option Value → iv_H → Prop} (e : FX12_builtMismatches N s q0 x1 = some r) (hq : ∀ (z : Int32) (h1 : iv_H), z.toInt = r.1 → Rep nc Ls Xs h1 r.2 → Q (some (.int z)) h1) : Cl d 336 [.ref q0, .int m1] h Q := by
  obtain ⟨d, rfl⟩ : ∃ k, d = k + 1 := ⟨d - 1, by omega⟩
  have hd : 6 ≤ d := by omega
  have hT := hX12_builtMismatches
  unfold FX12_builtMismatches at e
  refine Cl.into (by decide) gX12_builtMismatches rfl ?_
  show Rn d 336 (some .int) 0 [some (.ref q0), some (.int m1), none, none, none] [] h Q
  refine Rn.n hT 1 (pc' := 1) (L' := [some (.ref q0), some (.int m1), none, none, none]) (st' := [.ref q0]) rfl ?_
  obtain ⟨⟨v_4353, s_4354⟩, e_4353, e⟩ := Option.bind_eq_some_iff.mp e
  try dsimp only at e
  try dsimp only at e
  refine Rn.call hT rfl rfl rfl (Nat.le_of_ble_eq_true rfl) (rcv_v gX12_mismatches (by omega) (rp_ck hR (T12_o t0))) (RX12_mismatches (by omega) hR t0 e_4353 (fun z_4353 h_4354 p_4353 R_4354 => ?_))
  show Rn d _ _ 4 [some (.ref q0), some (.int m1), none, none, none] [.int z_4353] h_4354 Q
  refine Rn.n hT 3 (pc' := 7) (L' := [some (.ref q0), some (.int m1), some (.int z_4353), some (.int (0 : Int32)), none]) (st' := []) rfl ?_
  refine Rn.weak (ll_s (ll_s (ll_s (ll_s (ll_n ll_e))))) (RX12_builtMismatches_l7 hd t0 p1 (fun h_4355 s_4355 R_4355 m4356_2 x4356_2 p4356_2 e => ?_) hq N h_4354 s_4354 R_4354 z_4353 v_4353 p_4353 (0 : Int32) 0 L32_0 e)
  try dsimp only at e
  refine Rn.n hT 1 (pc' := 72) (L' := [none, none, some (.int m4356_2), none, none]) (st' := [.int m4356_2]) rfl ?_
  obtain rfl := Option.some.inj e
  exact Rn.ret hT rfl rfl rfl (hq m4356_2 h_4355 p4356_2 R_4355)
set_option maxRecDepth 10000 in
theorem hX12_built : iv_Tb 337 tX12_built := iv_tb_of (m := mX12_built) rfl
set_option maxRecDepth 10000 in
theorem gX12_built : PG.2 337 = some mX12_built := iv_pi_of (t := tX12_built) rfl (by decide)
def FX12_built_b35 (N : Nat) (s : iv_M)   : Option (Int × iv_M) := (some ((-1), s))
set_option maxRecDepth 10000 in
set_option maxHeartbeats 4000000 in
theorem RX12_built_b35 {d N nc Ls : Nat} {Xs : Nat → Int32} (hd : 7 ≤ d) {h : iv_H} {s : iv_M} (hR : Rep nc Ls Xs h s)   {r : Int × iv_M} {Q : Option Value → iv_H → Prop} (hq : ∀ (z : Int32) (h1 : iv_H), z.toInt = r.1 → Rep nc Ls Xs h1 r.2 → Q (some (.int z)) h1) (e : FX12_built_b35 N s   = some r) : Rn d 337 (some .int) 35 [none, none, none, none] [] h Q := by
  have hT := hX12_built
  unfold FX12_built_b35 at e
  refine Rn.n hT 1 (pc' := 36) (L' := [none, none, none, none]) (st' := [.int (-1 : Int32)]) rfl ?_
  obtain rfl := Option.some.inj e
  exact Rn.ret hT rfl rfl rfl (hq (-1 : Int32) h L32_m1 hR)
def FX12_built_b65 (N : Nat) (s : iv_M)  (xs0 : Int) : Option (Int × iv_M) := (some (xs0, s))
set_option maxRecDepth 10000 in
set_option maxHeartbeats 4000000 in
theorem RX12_built_b65 {d N nc Ls : Nat} {Xs : Nat → Int32} (hd : 7 ≤ d) {h : iv_H} {s : iv_M} (hR : Rep nc Ls Xs h s)  {ms0 : Int32} {xs0 : Int} (ps0 : ms0.toInt = xs0) {r : Int × iv_M} {Q : Option Value → iv_H → Prop} (hq : ∀ (z : Int32) (h1 : iv_H), z.toInt = r.1 → Rep nc Ls Xs h1 r.2 → Q (some (.int z)) h1) (e : FX12_built_b65 N s  xs0 = some r) : Rn d 337 (some .int) 65 [none, none, none, none] [.int ms0] h Q := by
  have hT := hX12_built
  unfold FX12_built_b65 at e
  obtain rfl := Option.some.inj e
  exact Rn.ret hT rfl rfl rfl (hq ms0 h ps0 hR)
def FX12_built (N : Nat) (s : iv_M) (q0 : Nat) (x1 : Int) (x2 : Int) (x3 : Int) : Option (Int × iv_M) := ((FX12_isCell N s q0 x1 x2).bind fun v_4365 => (if v_4365 = 0 then (FX12_built_b35 N s) else ((rd s (q0 + 8) 16 (w32 ((w32 (4 * x2)) + x1))).bind fun v_4367 => (if v_4367 = (-1) then ((FX12_in N s x3 0 4).bind fun v_4369 => (if v_4369 = 0 then (FX12_built_b35 N s) else (if x3 = 0 then ((FX12_builtMismatches N s q0 (w32 ((w32 (4 * x2)) + x1))).bind fun r_4373 => (fun (v_4373 : Int) (s_4374 : iv_M) => (FX12_built_b65 N s_4374 v_4373)) r_4373.1 r_4373.2) else ((FX12_builtSide N s q0 (w32 ((w32 (4 * x2)) + x1)) (w32 (x3 - 1))).bind fun v_4372 => (FX12_built_b65 N s v_4372))))) else (FX12_built_b35 N s)))))
set_option maxRecDepth 10000 in
set_option maxHeartbeats 4000000 in
theorem RX12_built {d N nc Ls : Nat} {Xs : Nat → Int32} (hd : 8 ≤ d) {h : iv_H} {s : iv_M} (hR : Rep nc Ls Xs h s) {q0 : Nat} (t0 : T12 nc q0) {m1 : Int32} {x1 : Int} (p1 : m1.toInt = x1) {m2 : Int32} {x2 : Int} (p2 : m2.toInt = x2) {m3 : Int32} {x3 : Int} (p3 : m3.toInt = x3) {r : Int × iv_M} {Q : Option Value → iv_H → Prop} (e : FX12_built N s q0 x1 x2 x3 = some r) (hq : ∀ (z : Int32) (h1 : iv_H), z.toInt = r.1 → Rep nc Ls Xs h1 r.2 → Q (some (.int z)) h1) : Cl d 337 [.ref q0, .int m1, .int m2, .int m3] h Q := by
  obtain ⟨d, rfl⟩ : ∃ k, d = k + 1 := ⟨d - 1, by omega⟩
  have hd : 7 ≤ d := by omega
  have hT := hX12_built
  unfold FX12_built at e
  refine Cl.into (by decide) gX12_built rfl ?_
  show Rn d 337 (some .int) 0 [some (.ref q0), some (.int m1), some (.int m2), some (.int m3)] [] h Q
  refine Rn.n hT 3 (pc' := 3) (L' := [some (.ref q0), some (.int m1), some (.int m2), some (.int m3)]) (st' := [.int m2, .int m1, .ref q0]) rfl ?_
  obtain ⟨v_4365, e_4365, e⟩ := Option.bind_eq_some_iff.mp e
  refine Rn.call hT rfl rfl rfl (Nat.le_of_ble_eq_true rfl) (rcv_v gX12_isCell (by omega) (rp_ck hR (T12_o t0))) (RX12_isCell (by omega) hR t0 p1 p2 e_4365 (fun z_4365 p_4365 => ?_))
  show Rn d _ _ 6 [some (.ref q0), some (.int m1), some (.int m2), some (.int m3)] [.int z_4365] h Q
  by_cases c_4366 : v_4365 = 0
  · rw [if_pos c_4366] at e
    refine Rn.bt hT rfl rfl rfl (decide_eq_true ((ti_e p_4365 L32_0).mpr c_4366)) ?_
    exact Rn.weak (ll_n (ll_n (ll_n (ll_n ll_e)))) (RX12_built_b35 hd hR hq e)
  · rw [if_neg c_4366] at e
    refine Rn.bf hT rfl rfl rfl (decide_eq_false (fun z => c_4366 ((ti_e p_4365 L32_0).mp z))) ?_
    refine Rn.n hT 1 (pc' := 10) (L' := [some (.ref q0), some (.int m1), some (.int m2), some (.int m3)]) (st' := [.ref q0]) rfl ?_
    refine Rn.hp hT rfl rfl (gR_hp (rp_gR hR (T12_o t0) rfl)) ?_
    refine Rn.n hT 5 (pc' := 18) (L' := [some (.ref q0), some (.int m1), some (.int m2), some (.int m3)]) (st' := [.int (((4 : Int32) * m2) + m1), .ref (q0 + 8)]) rfl ?_
    obtain ⟨v_4367, e_4367, e⟩ := Option.bind_eq_some_iff.mp e
    obtain ⟨z_4367, g_4367, p_4367⟩ := rp_aI hR (T12_8 t0) (T12_8l t0) (ti_add (ti_mul L32_4 p2) p1) e_4367
    refine Rn.hp hT rfl rfl (aI_hp g_4367) ?_
    refine Rn.n hT 1 (pc' := 20) (L' := [some (.ref q0), some (.int m1), some (.int m2), some (.int m3)]) (st' := [.int (-1 : Int32), .int z_4367]) rfl ?_
    by_cases c_4368 : v_4367 = (-1)
    · rw [if_pos c_4368] at e
      refine Rn.bf hT rfl rfl rfl (decide_eq_false (fun z => z ((ti_e p_4367 L32_m1).mpr c_4368))) ?_
      refine Rn.n hT 4 (pc' := 29) (L' := [some (.ref q0), some (.int m1), some (.int m2), some (.int m3)]) (st' := [.long (4 : Int64), .long (0 : Int64), .long ((m3).toInt64)]) rfl ?_
      obtain ⟨v_4369, e_4369, e⟩ := Option.bind_eq_some_iff.mp e
      refine Rn.call hT rfl rfl rfl (Nat.le_of_ble_eq_true rfl) rfl (RX12_in (by omega) hR (ti_j p3) L64_0 L64_4 e_4369 (fun z_4369 p_4369 => ?_))
      show Rn d _ _ 32 [some (.ref q0), some (.int m1), some (.int m2), some (.int m3)] [.int z_4369] h Q
      by_cases c_4370 : v_4369 = 0
      · rw [if_pos c_4370] at e
        refine Rn.bf hT rfl rfl rfl (decide_eq_false (fun z => z ((ti_e p_4369 L32_0).mpr c_4370))) ?_
        exact Rn.weak (ll_n (ll_n (ll_n (ll_n ll_e)))) (RX12_built_b35 hd hR hq e)
      · rw [if_neg c_4370] at e
        refine Rn.bt hT rfl rfl rfl (decide_eq_true (fun z => c_4370 ((ti_e p_4369 L32_0).mp z))) ?_
        refine Rn.n hT 1 (pc' := 38) (L' := [some (.ref q0), some (.int m1), some (.int m2), some (.int m3)]) (st' := [.int m3]) rfl ?_
        by_cases c_4371 : x3 = 0
        · rw [if_pos c_4371] at e
          refine Rn.bf hT rfl rfl rfl (decide_eq_false (fun z => z ((ti_e p3 L32_0).mpr c_4371))) ?_
          refine Rn.n hT 6 (pc' := 47) (L' := [some (.ref q0), some (.int m1), some (.int m2), some (.int m3)]) (st' := [.int (((4 : Int32) * m2) + m1), .ref q0]) rfl ?_
          obtain ⟨⟨v_4373, s_4374⟩, e_4373, e⟩ := Option.bind_eq_some_iff.mp e
          try dsimp only at e
          try dsimp only at e
          refine Rn.call hT rfl rfl rfl (Nat.le_of_ble_eq_true rfl) (rcv_v gX12_builtMismatches (by omega) (rp_ck hR (T12_o t0))) (RX12_builtMismatches (by omega) hR t0 (ti_add (ti_mul L32_4 p2) p1) e_4373 (fun z_4373 h_4374 p_4373 R_4374 => ?_))
          show Rn d _ _ 50 [some (.ref q0), some (.int m1), some (.int m2), some (.int m3)] [.int z_4373] h_4374 Q
          refine Rn.n hT 1 (pc' := 65) (L' := [some (.ref q0), some (.int m1), some (.int m2), some (.int m3)]) (st' := [.int z_4373]) rfl ?_
          exact Rn.weak (ll_n (ll_n (ll_n (ll_n ll_e)))) (RX12_built_b65 hd R_4374 p_4373 hq e)
        · rw [if_neg c_4371] at e
          refine Rn.bt hT rfl rfl rfl (decide_eq_true (fun z => c_4371 ((ti_e p3 L32_0).mp z))) ?_
          refine Rn.n hT 9 (pc' := 62) (L' := [some (.ref q0), some (.int m1), some (.int m2), some (.int m3)]) (st' := [.int (m3 - (1 : Int32)), .int (((4 : Int32) * m2) + m1), .ref q0]) rfl ?_
          obtain ⟨v_4372, e_4372, e⟩ := Option.bind_eq_some_iff.mp e
          refine Rn.call hT rfl rfl rfl (Nat.le_of_ble_eq_true rfl) (rcv_v gX12_builtSide (by omega) (rp_ck hR (T12_o t0))) (RX12_builtSide (by omega) hR t0 (ti_add (ti_mul L32_4 p2) p1) (ti_sub p3 L32_1) e_4372 (fun z_4372 p_4372 => ?_))
          show Rn d _ _ 65 [some (.ref q0), some (.int m1), some (.int m2), some (.int m3)] [.int z_4372] h Q
          exact Rn.weak (ll_n (ll_n (ll_n (ll_n ll_e)))) (RX12_built_b65 hd hR p_4372 hq e)
    · rw [if_neg c_4368] at e
      refine Rn.bt hT rfl rfl rfl (decide_eq_true (fun z => c_4368 ((ti_e p_4367 L32_m1).mp z))) ?_
      exact Rn.weak (ll_n (ll_n (ll_n (ll_n ll_e)))) (RX12_built_b35 hd hR hq e)
set_option maxRecDepth 10000 in
theorem hX12_best : iv_Tb 338 tX12_best := iv_tb_of (m := mX12_best) rfl
set_option maxRecDepth 10000 in
theorem gX12_best : PG.2 338 = some mX12_best := iv_pi_of (t := tX12_best) rfl (by decide)
def FX12_best_b59 (N : Nat) (s : iv_M) (q0 : Nat) (x1 : Int) (x2 : Int)  (kb : iv_M → Int → Int → Option (Int × iv_M)) (kx : iv_M → Int → Option (Int × iv_M)) : Option (Int × iv_M) := (kb s x1 (w32 (x2 + 1)))
set_option maxRecDepth 10000 in
set_option maxHeartbeats 4000000 in
theorem RX12_best_b59 {d N nc Ls : Nat} {Xs : Nat → Int32} (hd : 7 ≤ d) {h : iv_H} {s : iv_M} (hR : Rep nc Ls Xs h s) {q0 : Nat} (t0 : T12 nc q0) {m1 : Int32} {x1 : Int} (p1 : m1.toInt = x1) {m2 : Int32} {x2 : Int} (p2 : m2.toInt = x2)  {kb : iv_M → Int → Int → Option (Int × iv_M)} {kx : iv_M → Int → Option (Int × iv_M)} {r : Int × iv_M} {Q : Option Value → iv_H → Prop} (hb : ∀ (h : iv_H) (s : iv_M) (hR : Rep nc Ls Xs h s) (mw1 : Int32) (xw1 : Int) (pw1 : mw1.toInt = xw1) (mw2 : Int32) (xw2 : Int) (pw2 : mw2.toInt = xw2), kb s xw1 xw2 = some r → Rn d 338 (some .int) 14 [some (.ref q0), some (.int mw1), some (.int mw2)] [] h Q) (hk : ∀ (h : iv_H) (s : iv_M) (hR : Rep nc Ls Xs h s) (mw1 : Int32) (xw1 : Int) (pw1 : mw1.toInt = xw1), kx s xw1 = some r → Rn d 338 (some .int) 65 [none, some (.int mw1), none] [] h Q) (hq : ∀ (z : Int32) (h1 : iv_H), z.toInt = r.1 → Rep nc Ls Xs h1 r.2 → Q (some (.int z)) h1) (e : FX12_best_b59 N s q0 x1 x2  kb kx = some r) : Rn d 338 (some .int) 59 [some (.ref q0), some (.int m1), some (.int m2)] [] h Q := by
  have hT := hX12_best
  unfold FX12_best_b59 at e
  refine Rn.n hT 2 (pc' := 14) (L' := [some (.ref q0), some (.int m1), some (.int (m2 + (1 : Int32)))]) (st' := []) rfl ?_
  exact Rn.weak (ll_s (ll_s (ll_s ll_e))) (hb h s hR m1 x1 p1 (m2 + (1 : Int32)) (w32 (x2 + 1)) (ti_add p2 L32_1) e)
def FX12_best_b57 (N : Nat) (s : iv_M) (q0 : Nat) (x2 : Int)  (kb : iv_M → Int → Int → Option (Int × iv_M)) (kx : iv_M → Int → Option (Int × iv_M)) : Option (Int × iv_M) := (FX12_best_b59 N s q0 x2 x2 kb kx)
set_option maxRecDepth 10000 in
set_option maxHeartbeats 4000000 in
theorem RX12_best_b57 {d N nc Ls : Nat} {Xs : Nat → Int32} (hd : 7 ≤ d) {h : iv_H} {s : iv_M} (hR : Rep nc Ls Xs h s) {q0 : Nat} (t0 : T12 nc q0) {m2 : Int32} {x2 : Int} (p2 : m2.toInt = x2)  {kb : iv_M → Int → Int → Option (Int × iv_M)} {kx : iv_M → Int → Option (Int × iv_M)} {r : Int × iv_M} {Q : Option Value → iv_H → Prop} (hb : ∀ (h : iv_H) (s : iv_M) (hR : Rep nc Ls Xs h s) (mw1 : Int32) (xw1 : Int) (pw1 : mw1.toInt = xw1) (mw2 : Int32) (xw2 : Int) (pw2 : mw2.toInt = xw2), kb s xw1 xw2 = some r → Rn d 338 (some .int) 14 [some (.ref q0), some (.int mw1), some (.int mw2)] [] h Q) (hk : ∀ (h : iv_H) (s : iv_M) (hR : Rep nc Ls Xs h s) (mw1 : Int32) (xw1 : Int) (pw1 : mw1.toInt = xw1), kx s xw1 = some r → Rn d 338 (some .int) 65 [none, some (.int mw1), none] [] h Q) (hq : ∀ (z : Int32) (h1 : iv_H), z.toInt = r.1 → Rep nc Ls Xs h1 r.2 → Q (some (.int z)) h1) (e : FX12_best_b57 N s q0 x2  kb kx = some r) : Rn d 338 (some .int) 57 [some (.ref q0), none, some (.int m2)] [] h Q := by
  have hT := hX12_best
  unfold FX12_best_b57 at e
  refine Rn.n hT 2 (pc' := 59) (L' := [some (.ref q0), some (.int m2), some (.int m2)]) (st' := []) rfl ?_
  exact Rn.weak (ll_s (ll_s (ll_s ll_e))) (RX12_best_b59 hd hR t0 p2 p2 hb hk hq e)
def FX12_best_l14 (N : Nat) (q0 : Nat) (kx : iv_M → Int → Option (Int × iv_M)) : Nat → iv_M → Int → Int → Option (Int × iv_M)
  | 0, _, _, _ => none
  | n + 1, s, x1, x2 => (if 16 ≤ x2 then (kx s x1) else ((FX12_isFloor N s q0 x2).bind fun v_4380 => (if v_4380 = 0 then (FX12_best_b59 N s q0 x1 x2 (FX12_best_l14 N q0 kx n) kx) else ((rd s (q0 + 8) 16 x2).bind fun v_4382 => (if v_4382 = (-1) then (if x1 = (-2) then (FX12_best_b57 N s q0 x2 (FX12_best_l14 N q0 kx n) kx) else ((FX12_builtMismatches N s q0 x2).bind fun r_4385 => (fun (v_4385 : Int) (s_4386 : iv_M) => ((FX12_builtMismatches N s_4386 q0 x1).bind fun r_4387 => (fun (v_4387 : Int) (s_4388 : iv_M) => (if v_4387 ≤ v_4385 then (FX12_best_b59 N s_4388 q0 x1 x2 (FX12_best_l14 N q0 kx n) kx) else (FX12_best_b57 N s_4388 q0 x2 (FX12_best_l14 N q0 kx n) kx))) r_4387.1 r_4387.2)) r_4385.1 r_4385.2)) else (FX12_best_b59 N s q0 x1 x2 (FX12_best_l14 N q0 kx n) kx))))))
set_option maxRecDepth 10000 in
set_option maxHeartbeats 4000000 in
theorem RX12_best_l14 {d N nc Ls : Nat} {Xs : Nat → Int32} (hd : 7 ≤ d) {q0 : Nat} (t0 : T12 nc q0) {kx : iv_M → Int → Option (Int × iv_M)} {r : Int × iv_M} {Q : Option Value → iv_H → Prop} (hk : ∀ (h : iv_H) (s : iv_M) (hR : Rep nc Ls Xs h s) (m1 : Int32) (x1 : Int) (p1 : m1.toInt = x1), kx s x1 = some r → Rn d 338 (some .int) 65 [none, some (.int m1), none] [] h Q) (hq : ∀ (z : Int32) (h1 : iv_H), z.toInt = r.1 → Rep nc Ls Xs h1 r.2 → Q (some (.int z)) h1) : ∀ (n : Nat) (h : iv_H) (s : iv_M) (hR : Rep nc Ls Xs h s) (m1 : Int32) (x1 : Int) (p1 : m1.toInt = x1) (m2 : Int32) (x2 : Int) (p2 : m2.toInt = x2), FX12_best_l14 N q0 kx n s x1 x2 = some r → Rn d 338 (some .int) 14 [some (.ref q0), some (.int m1), some (.int m2)] [] h Q := by
  have hT := hX12_best
  intro n
  induction n with
  | zero =>
    intro h s hR m1 x1 p1 m2 x2 p2 e
    rw [FX12_best_l14] at e
    cases e
  | succ n ih =>
    intro h s hR m1 x1 p1 m2 x2 p2 e
    rw [FX12_best_l14] at e
    refine Rn.n hT 2 (pc' := 17) (L' := [some (.ref q0), some (.int m1), some (.int m2)]) (st' := [.int (16 : Int32), .int m2]) rfl ?_
    by_cases c_4379 : 16 ≤ x2
    · rw [if_pos c_4379] at e
      refine Rn.bt hT rfl rfl rfl (decide_eq_true ((ti_le L32_16 p2).mpr c_4379)) ?_
      exact Rn.weak (ll_n (ll_s (ll_n ll_e))) (hk h s hR m1 x1 p1 e)
    · rw [if_neg c_4379] at e
      refine Rn.bf hT rfl rfl rfl (decide_eq_false (fun z => c_4379 ((ti_le L32_16 p2).mp z))) ?_
      refine Rn.n hT 2 (pc' := 22) (L' := [some (.ref q0), some (.int m1), some (.int m2)]) (st' := [.int m2, .ref q0]) rfl ?_
      obtain ⟨v_4380, e_4380, e⟩ := Option.bind_eq_some_iff.mp e
      refine Rn.call hT rfl rfl rfl (Nat.le_of_ble_eq_true rfl) (rcv_v gX12_isFloor (by omega) (rp_ck hR (T12_o t0))) (RX12_isFloor (by omega) hR t0 p2 e_4380 (fun z_4380 p_4380 => ?_))
      show Rn d _ _ 25 [some (.ref q0), some (.int m1), some (.int m2)] [.int z_4380] h Q
      by_cases c_4381 : v_4380 = 0
      · rw [if_pos c_4381] at e
        refine Rn.bt hT rfl rfl rfl (decide_eq_true ((ti_e p_4380 L32_0).mpr c_4381)) ?_
        exact Rn.weak (ll_s (ll_s (ll_s ll_e))) (RX12_best_b59 hd hR t0 p1 p2 ih hk hq e)
      · rw [if_neg c_4381] at e
        refine Rn.bf hT rfl rfl rfl (decide_eq_false (fun z => c_4381 ((ti_e p_4380 L32_0).mp z))) ?_
        refine Rn.n hT 1 (pc' := 29) (L' := [some (.ref q0), some (.int m1), some (.int m2)]) (st' := [.ref q0]) rfl ?_
        refine Rn.hp hT rfl rfl (gR_hp (rp_gR hR (T12_o t0) rfl)) ?_
        refine Rn.n hT 1 (pc' := 33) (L' := [some (.ref q0), some (.int m1), some (.int m2)]) (st' := [.int m2, .ref (q0 + 8)]) rfl ?_
        obtain ⟨v_4382, e_4382, e⟩ := Option.bind_eq_some_iff.mp e
        obtain ⟨z_4382, g_4382, p_4382⟩ := rp_aI hR (T12_8 t0) (T12_8l t0) p2 e_4382
        refine Rn.hp hT rfl rfl (aI_hp g_4382) ?_
        refine Rn.n hT 1 (pc' := 35) (L' := [some (.ref q0), some (.int m1), some (.int m2)]) (st' := [.int (-1 : Int32), .int z_4382]) rfl ?_
        by_cases c_4383 : v_4382 = (-1)
        · rw [if_pos c_4383] at e
          refine Rn.bf hT rfl rfl rfl (decide_eq_false (fun z => z ((ti_e p_4382 L32_m1).mpr c_4383))) ?_
          refine Rn.n hT 2 (pc' := 41) (L' := [some (.ref q0), some (.int m1), some (.int m2)]) (st' := [.int (-2 : Int32), .int m1]) rfl ?_
          by_cases c_4384 : x1 = (-2)
          · rw [if_pos c_4384] at e
            refine Rn.bt hT rfl rfl rfl (decide_eq_true ((ti_e p1 L32_m2).mpr c_4384)) ?_
            exact Rn.weak (ll_s (ll_n (ll_s ll_e))) (RX12_best_b57 hd hR t0 p2 ih hk hq e)
          · rw [if_neg c_4384] at e
            refine Rn.bf hT rfl rfl rfl (decide_eq_false (fun z => c_4384 ((ti_e p1 L32_m2).mp z))) ?_
            refine Rn.n hT 2 (pc' := 46) (L' := [some (.ref q0), some (.int m1), some (.int m2)]) (st' := [.int m2, .ref q0]) rfl ?_
            obtain ⟨⟨v_4385, s_4386⟩, e_4385, e⟩ := Option.bind_eq_some_iff.mp e
            try dsimp only at e
            try dsimp only at e
            refine Rn.call hT rfl rfl rfl (Nat.le_of_ble_eq_true rfl) (rcv_v gX12_builtMismatches (by omega) (rp_ck hR (T12_o t0))) (RX12_builtMismatches (by omega) hR t0 p2 e_4385 (fun z_4385 h_4386 p_4385 R_4386 => ?_))
            show Rn d _ _ 49 [some (.ref q0), some (.int m1), some (.int m2)] [.int z_4385] h_4386 Q
            refine Rn.n hT 2 (pc' := 51) (L' := [some (.ref q0), some (.int m1), some (.int m2)]) (st' := [.int m1, .ref q0, .int z_4385]) rfl ?_
            obtain ⟨⟨v_4387, s_4388⟩, e_4387, e⟩ := Option.bind_eq_some_iff.mp e
            try dsimp only at e
            try dsimp only at e
            refine Rn.call hT rfl rfl rfl (Nat.le_of_ble_eq_true rfl) (rcv_v gX12_builtMismatches (by omega) (rp_ck R_4386 (T12_o t0))) (RX12_builtMismatches (by omega) R_4386 t0 p1 e_4387 (fun z_4387 h_4388 p_4387 R_4388 => ?_))
            show Rn d _ _ 54 [some (.ref q0), some (.int m1), some (.int m2)] [.int z_4387, .int z_4385] h_4388 Q
            by_cases c_4389 : v_4387 ≤ v_4385
            · rw [if_pos c_4389] at e
              refine Rn.bt hT rfl rfl rfl (decide_eq_true ((ti_le p_4387 p_4385).mpr c_4389)) ?_
              exact Rn.weak (ll_s (ll_s (ll_s ll_e))) (RX12_best_b59 hd R_4388 t0 p1 p2 ih hk hq e)
            · rw [if_neg c_4389] at e
              refine Rn.bf hT rfl rfl rfl (decide_eq_false (fun z => c_4389 ((ti_le p_4387 p_4385).mp z))) ?_
              exact Rn.weak (ll_s (ll_n (ll_s ll_e))) (RX12_best_b57 hd R_4388 t0 p2 ih hk hq e)
        · rw [if_neg c_4383] at e
          refine Rn.bt hT rfl rfl rfl (decide_eq_true (fun z => c_4383 ((ti_e p_4382 L32_m1).mp z))) ?_
          exact Rn.weak (ll_s (ll_s (ll_s ll_e))) (RX12_best_b59 hd hR t0 p1 p2 ih hk hq e)
def FX12_best (N : Nat) (s : iv_M) (q0 : Nat) : Option (Int × iv_M) := ((FX12_isPalace N s q0).bind fun v_4375 => (if v_4375 = 0 then (some ((-1), s)) else (FX12_best_l14 N q0 (fun (s_4377 : iv_M) (x4378_1 : Int) => (some (x4378_1, s_4377))) N s (-2) 0)))
set_option maxRecDepth 10000 in
set_option maxHeartbeats 4000000 in
theorem RX12_best {d N nc Ls : Nat} {Xs : Nat → Int32} (hd : 8 ≤ d) {h : iv_H} {s : iv_M} (hR : Rep nc Ls Xs h s) {q0 : Nat} (t0 : T12 nc q0) {r : Int × iv_M} {Q : Option Value → iv_H → Prop} (e : FX12_best N s q0 = some r) (hq : ∀ (z : Int32) (h1 : iv_H), z.toInt = r.1 → Rep nc Ls Xs h1 r.2 → Q (some (.int z)) h1) : Cl d 338 [.ref q0] h Q := by
  obtain ⟨d, rfl⟩ : ∃ k, d = k + 1 := ⟨d - 1, by omega⟩
  have hd : 7 ≤ d := by omega
  have hT := hX12_best
  unfold FX12_best at e
  refine Cl.into (by decide) gX12_best rfl ?_
  show Rn d 338 (some .int) 0 [some (.ref q0), none, none] [] h Q
  refine Rn.n hT 1 (pc' := 1) (L' := [some (.ref q0), none, none]) (st' := [.ref q0]) rfl ?_
  obtain ⟨v_4375, e_4375, e⟩ := Option.bind_eq_some_iff.mp e
  refine Rn.call hT rfl rfl rfl (Nat.le_of_ble_eq_true rfl) (rcv_v gX12_isPalace (by omega) (rp_ck hR (T12_o t0))) (RX12_isPalace (by omega) hR t0 e_4375 (fun z_4375 p_4375 => ?_))
  show Rn d _ _ 4 [some (.ref q0), none, none] [.int z_4375] h Q
  by_cases c_4376 : v_4375 = 0
  · rw [if_pos c_4376] at e
    refine Rn.bf hT rfl rfl rfl (decide_eq_false (fun z => z ((ti_e p_4375 L32_0).mpr c_4376))) ?_
    refine Rn.n hT 1 (pc' := 8) (L' := [some (.ref q0), none, none]) (st' := [.int (-1 : Int32)]) rfl ?_
    obtain rfl := Option.some.inj e
    exact Rn.ret hT rfl rfl rfl (hq (-1 : Int32) h L32_m1 hR)
  · rw [if_neg c_4376] at e
    refine Rn.bt hT rfl rfl rfl (decide_eq_true (fun z => c_4376 ((ti_e p_4375 L32_0).mp z))) ?_
    refine Rn.n hT 4 (pc' := 14) (L' := [some (.ref q0), some (.int (-2 : Int32)), some (.int (0 : Int32))]) (st' := []) rfl ?_
    refine Rn.weak (ll_s (ll_s (ll_s ll_e))) (RX12_best_l14 hd t0 (fun h_4377 s_4377 R_4377 m4378_1 x4378_1 p4378_1 e => ?_) hq N h s hR (-2 : Int32) (-2) L32_m2 (0 : Int32) 0 L32_0 e)
    try dsimp only at e
    refine Rn.n hT 1 (pc' := 66) (L' := [none, some (.int m4378_1), none]) (st' := [.int m4378_1]) rfl ?_
    obtain rfl := Option.some.inj e
    exact Rn.ret hT rfl rfl rfl (hq m4378_1 h_4377 p4378_1 R_4377)
set_option maxRecDepth 10000 in
theorem hX12_seed : iv_Tb 339 tX12_seed := iv_tb_of (m := mX12_seed) rfl
set_option maxRecDepth 10000 in
theorem gX12_seed : PG.2 339 = some mX12_seed := iv_pi_of (t := tX12_seed) rfl (by decide)
def FX12_seed (N : Nat) (s : iv_M) (q0 : Nat) (x1 : Int) : Option (Int × iv_M) := (if 0 ≤ x1 then ((rd s (q0 + 1) 14 13).bind fun v_4391 => ((wr s (q0 + 1) 14 13 x1).bind fun s_4392 => (some (v_4391, s_4392)))) else (some ((-1), s)))
set_option maxRecDepth 10000 in
set_option maxHeartbeats 4000000 in
theorem RX12_seed {d N nc Ls : Nat} {Xs : Nat → Int32} (hd : 1 ≤ d) {h : iv_H} {s : iv_M} (hR : Rep nc Ls Xs h s) {q0 : Nat} (t0 : T12 nc q0) {m1 : Int32} {x1 : Int} (p1 : m1.toInt = x1) {r : Int × iv_M} {Q : Option Value → iv_H → Prop} (e : FX12_seed N s q0 x1 = some r) (hq : ∀ (z : Int32) (h1 : iv_H), z.toInt = r.1 → Rep nc Ls Xs h1 r.2 → Q (some (.int z)) h1) : Cl d 339 [.ref q0, .int m1] h Q := by
  obtain ⟨d, rfl⟩ : ∃ k, d = k + 1 := ⟨d - 1, by omega⟩
  have hd : 0 ≤ d := by omega
  have hT := hX12_seed
  unfold FX12_seed at e
  refine Cl.into (by decide) gX12_seed rfl ?_
  show Rn d 339 (some .int) 0 [some (.ref q0), some (.int m1), none] [] h Q
  refine Rn.n hT 1 (pc' := 1) (L' := [some (.ref q0), some (.int m1), none]) (st' := [.int m1]) rfl ?_
  by_cases c_4390 : 0 ≤ x1
  · rw [if_pos c_4390] at e
    refine Rn.bt hT rfl rfl rfl (decide_eq_true ((ti_le L32_0 p1).mpr c_4390)) ?_
    refine Rn.n hT 1 (pc' := 7) (L' := [some (.ref q0), some (.int m1), none]) (st' := [.ref q0]) rfl ?_
    refine Rn.hp hT rfl rfl (gR_hp (rp_gR hR (T12_o t0) rfl)) ?_
    refine Rn.n hT 1 (pc' := 12) (L' := [some (.ref q0), some (.int m1), none]) (st' := [.int (13 : Int32), .ref (q0 + 1)]) rfl ?_
    obtain ⟨v_4391, e_4391, e⟩ := Option.bind_eq_some_iff.mp e
    obtain ⟨z_4391, g_4391, p_4391⟩ := rp_aI hR (T12_1 t0) (T12_1l t0) L32_13 e_4391
    refine Rn.hp hT rfl rfl (aI_hp g_4391) ?_
    refine Rn.n hT 2 (pc' := 15) (L' := [some (.ref q0), some (.int m1), some (.int z_4391)]) (st' := [.ref q0]) rfl ?_
    refine Rn.hp hT rfl rfl (gR_hp (rp_gR hR (T12_o t0) rfl)) ?_
    refine Rn.n hT 2 (pc' := 21) (L' := [some (.ref q0), some (.int m1), some (.int z_4391)]) (st' := [.int m1, .int (13 : Int32), .ref (q0 + 1)]) rfl ?_
    obtain ⟨s_4392, e_4393, e⟩ := Option.bind_eq_some_iff.mp e
    obtain ⟨h_4392, g_4393, R_4392⟩ := rp_wI hR (T12_1 t0) (T12_1l t0) L32_13 p1 e_4393
    refine Rn.hp hT rfl rfl (wI_hp g_4393) ?_
    refine Rn.n hT 1 (pc' := 23) (L' := [some (.ref q0), some (.int m1), some (.int z_4391)]) (st' := [.int z_4391]) rfl ?_
    obtain rfl := Option.some.inj e
    exact Rn.ret hT rfl rfl rfl (hq z_4391 h_4392 p_4391 R_4392)
  · rw [if_neg c_4390] at e
    refine Rn.bf hT rfl rfl rfl (decide_eq_false (fun z => c_4390 ((ti_le L32_0 p1).mp z))) ?_
    refine Rn.n hT 1 (pc' := 5) (L' := [some (.ref q0), some (.int m1), none]) (st' := [.int (-1 : Int32)]) rfl ?_
    obtain rfl := Option.some.inj e
    exact Rn.ret hT rfl rfl rfl (hq (-1 : Int32) h L32_m1 hR)
set_option maxRecDepth 10000 in
theorem hX12_draws : iv_Tb 340 tX12_draws := iv_tb_of (m := mX12_draws) rfl
set_option maxRecDepth 10000 in
theorem gX12_draws : PG.2 340 = some mX12_draws := iv_pi_of (t := tX12_draws) rfl (by decide)
def FX12_draws (N : Nat) (s : iv_M) (q0 : Nat) (x1 : Int) : Option (Int × iv_M) := ((rd s (q0 + 1) 14 13).bind fun v_4394 => ((wr s (q0 + 1) 14 13 (w32 (Int.tmod (w64 ((w64 (v_4394 * 1103515245)) + 12345)) 2147483648))).bind fun s_4395 => ((rd s_4395 (q0 + 1) 14 13).bind fun v_4397 => (if x1 = 0 then none else (some ((Int.tmod (dv32 v_4397 65536) x1), s_4395))))))
set_option maxRecDepth 10000 in
set_option maxHeartbeats 4000000 in
theorem RX12_draws {d N nc Ls : Nat} {Xs : Nat → Int32} (hd : 1 ≤ d) {h : iv_H} {s : iv_M} (hR : Rep nc Ls Xs h s) {q0 : Nat} (t0 : T12 nc q0) {m1 : Int32} {x1 : Int} (p1 : m1.toInt = x1) {r : Int × iv_M} {Q : Option Value → iv_H → Prop} (e : FX12_draws N s q0 x1 = some r) (hq : ∀ (z : Int32) (h1 : iv_H), z.toInt = r.1 → Rep nc Ls Xs h1 r.2 → Q (some (.int z)) h1) : Cl d 340 [.ref q0, .int m1] h Q := by
  obtain ⟨d, rfl⟩ : ∃ k, d = k + 1 := ⟨d - 1, by omega⟩
  have hd : 0 ≤ d := by omega
  have hT := hX12_draws
  unfold FX12_draws at e
  refine Cl.into (by decide) gX12_draws rfl ?_
  show Rn d 340 (some .int) 0 [some (.ref q0), some (.int m1)] [] h Q
  refine Rn.n hT 1 (pc' := 1) (L' := [some (.ref q0), some (.int m1)]) (st' := [.ref q0]) rfl ?_
  refine Rn.hp hT rfl rfl (gR_hp (rp_gR hR (T12_o t0) rfl)) ?_
  refine Rn.n hT 2 (pc' := 7) (L' := [some (.ref q0), some (.int m1)]) (st' := [.ref q0, .int (13 : Int32), .ref (q0 + 1)]) rfl ?_
  refine Rn.hp hT rfl rfl (gR_hp (rp_gR hR (T12_o t0) rfl)) ?_
  refine Rn.n hT 1 (pc' := 12) (L' := [some (.ref q0), some (.int m1)]) (st' := [.int (13 : Int32), .ref (q0 + 1), .int (13 : Int32), .ref (q0 + 1)]) rfl ?_
  obtain ⟨v_4394, e_4394, e⟩ := Option.bind_eq_some_iff.mp e
  obtain ⟨z_4394, g_4394, p_4394⟩ := rp_aI hR (T12_1 t0) (T12_1l t0) L32_13 e_4394
  refine Rn.hp hT rfl rfl (aI_hp g_4394) ?_
  refine Rn.n hT 8 (pc' := 27) (L' := [some (.ref q0), some (.int m1)]) (st' := [.int ((((((z_4394).toInt64 * (1103515245 : Int64)) + (12345 : Int64)) - (((z_4394).toInt64 * (1103515245 : Int64)) + (12345 : Int64)) / (2147483648 : Int64) * (2147483648 : Int64))).toInt32), .int (13 : Int32), .ref (q0 + 1)]) rfl ?_
  obtain ⟨s_4395, e_4396, e⟩ := Option.bind_eq_some_iff.mp e
  obtain ⟨h_4395, g_4396, R_4395⟩ := rp_wI hR (T12_1 t0) (T12_1l t0) L32_13 (tj_i (tj_rem (tj_add (tj_mul (ti_j p_4394) L64_1103515245) L64_12345) L64_2147483648)) e_4396
  refine Rn.hp hT rfl rfl (wI_hp g_4396) ?_
  refine Rn.n hT 1 (pc' := 29) (L' := [some (.ref q0), some (.int m1)]) (st' := [.ref q0]) rfl ?_
  refine Rn.hp hT rfl rfl (gR_hp (rp_gR R_4395 (T12_o t0) rfl)) ?_
  refine Rn.n hT 1 (pc' := 34) (L' := [some (.ref q0), some (.int m1)]) (st' := [.int (13 : Int32), .ref (q0 + 1)]) rfl ?_
  obtain ⟨v_4397, e_4397, e⟩ := Option.bind_eq_some_iff.mp e
  obtain ⟨z_4397, g_4397, p_4397⟩ := rp_aI R_4395 (T12_1 t0) (T12_1l t0) L32_13 e_4397
  refine Rn.hp hT rfl rfl (aI_hp g_4397) ?_
  refine Rn.n hT 3 (pc' := 40) (L' := [some (.ref q0), some (.int m1)]) (st' := [.int m1, .int (z_4397 / (65536 : Int32))]) rfl ?_
  by_cases c_4398 : x1 = 0
  · rw [if_pos c_4398] at e
    cases e
  · rw [if_neg c_4398] at e
    refine Rn.pu hT rfl rfl (st' := [.int ((z_4397 / (65536 : Int32)) - (z_4397 / (65536 : Int32)) / m1 * m1)]) (if_neg (fun z => c_4398 ((ti_e p1 L32_0).mp z))) ?_
    obtain rfl := Option.some.inj e
    exact Rn.ret hT rfl rfl rfl (hq ((z_4397 / (65536 : Int32)) - (z_4397 / (65536 : Int32)) / m1 * m1) h_4395 (ti_rem (ti_div p_4397 L32_65536) p1) R_4395)
set_option maxRecDepth 10000 in
theorem hX12_drawnNights : iv_Tb 341 tX12_drawnNights := iv_tb_of (m := mX12_drawnNights) rfl
set_option maxRecDepth 10000 in
theorem gX12_drawnNights : PG.2 341 = some mX12_drawnNights := iv_pi_of (t := tX12_drawnNights) rfl (by decide)
def FX12_drawnNights_b37 (N : Nat) (s : iv_M) (q0 : Nat) (x1 : Int) (x2 : Int) (x3 : Int)  (kb : iv_M → Int → Int → Option (Int × iv_M)) (kx : iv_M → Int → Option (Int × iv_M)) : Option (Int × iv_M) := ((rd s (q0 + 1) 14 6).bind fun v_4414 => ((wr s (q0 + 1) 14 6 (w32 (v_4414 + 1))).bind fun s_4415 => (kb s_4415 x2 (w32 (x3 + 1)))))
set_option maxRecDepth 10000 in
set_option maxHeartbeats 4000000 in
theorem RX12_drawnNights_b37 {d N nc Ls : Nat} {Xs : Nat → Int32} (hd : 9 ≤ d) {h : iv_H} {s : iv_M} (hR : Rep nc Ls Xs h s) {q0 : Nat} (t0 : T12 nc q0) {m1 : Int32} {x1 : Int} (p1 : m1.toInt = x1) {m2 : Int32} {x2 : Int} (p2 : m2.toInt = x2) {m3 : Int32} {x3 : Int} (p3 : m3.toInt = x3)  {kb : iv_M → Int → Int → Option (Int × iv_M)} {kx : iv_M → Int → Option (Int × iv_M)} {r : Int × iv_M} {Q : Option Value → iv_H → Prop} (hb : ∀ (h : iv_H) (s : iv_M) (hR : Rep nc Ls Xs h s) (mw2 : Int32) (xw2 : Int) (pw2 : mw2.toInt = xw2) (mw3 : Int32) (xw3 : Int) (pw3 : mw3.toInt = xw3), kb s xw2 xw3 = some r → Rn d 341 (some .int) 4 [some (.ref q0), some (.int m1), some (.int mw2), some (.int mw3), none] [] h Q) (hk : ∀ (h : iv_H) (s : iv_M) (hR : Rep nc Ls Xs h s) (mw2 : Int32) (xw2 : Int) (pw2 : mw2.toInt = xw2), kx s xw2 = some r → Rn d 341 (some .int) 54 [some (.ref q0), some (.int m1), some (.int mw2), none, none] [] h Q) (hq : ∀ (z : Int32) (h1 : iv_H), z.toInt = r.1 → Rep nc Ls Xs h1 r.2 → Q (some (.int z)) h1) (e : FX12_drawnNights_b37 N s q0 x1 x2 x3  kb kx = some r) : Rn d 341 (some .int) 37 [some (.ref q0), some (.int m1), some (.int m2), some (.int m3), none] [] h Q := by
  have hT := hX12_drawnNights
  unfold FX12_drawnNights_b37 at e
  refine Rn.n hT 1 (pc' := 38) (L' := [some (.ref q0), some (.int m1), some (.int m2), some (.int m3), none]) (st' := [.ref q0]) rfl ?_
  refine Rn.hp hT rfl rfl (gR_hp (rp_gR hR (T12_o t0) rfl)) ?_
  refine Rn.n hT 2 (pc' := 44) (L' := [some (.ref q0), some (.int m1), some (.int m2), some (.int m3), none]) (st' := [.int (6 : Int32), .ref (q0 + 1), .int (6 : Int32), .ref (q0 + 1)]) rfl ?_
  obtain ⟨v_4414, e_4414, e⟩ := Option.bind_eq_some_iff.mp e
  obtain ⟨z_4414, g_4414, p_4414⟩ := rp_aI hR (T12_1 t0) (T12_1l t0) L32_6 e_4414
  refine Rn.hp hT rfl rfl (aI_hp g_4414) ?_
  refine Rn.n hT 2 (pc' := 47) (L' := [some (.ref q0), some (.int m1), some (.int m2), some (.int m3), none]) (st' := [.int (z_4414 + (1 : Int32)), .int (6 : Int32), .ref (q0 + 1)]) rfl ?_
  obtain ⟨s_4415, e_4416, e⟩ := Option.bind_eq_some_iff.mp e
  obtain ⟨h_4415, g_4416, R_4415⟩ := rp_wI hR (T12_1 t0) (T12_1l t0) L32_6 (ti_add p_4414 L32_1) e_4416
  refine Rn.hp hT rfl rfl (wI_hp g_4416) ?_
  refine Rn.n hT 2 (pc' := 4) (L' := [some (.ref q0), some (.int m1), some (.int m2), some (.int (m3 + (1 : Int32))), none]) (st' := []) rfl ?_
  exact Rn.weak (ll_s (ll_s (ll_s (ll_s (ll_n ll_e))))) (hb h_4415 s_4415 R_4415 m2 x2 p2 (m3 + (1 : Int32)) (w32 (x3 + 1)) (ti_add p3 L32_1) e)
def FX12_drawnNights_l4 (N : Nat) (q0 : Nat) (x1 : Int) (kx : iv_M → Int → Option (Int × iv_M)) : Nat → iv_M → Int → Int → Option (Int × iv_M)
  | 0, _, _, _ => none
  | n + 1, s, x2, x3 => (if x1 ≤ x3 then (kx s x2) else ((FX12_canNow N s q0).bind fun r_4405 => (fun (v_4405 : Int) (s_4406 : iv_M) => (if v_4405 ≤ 0 then (FX12_drawnNights_b37 N s_4406 q0 x1 x2 x3 (FX12_drawnNights_l4 N q0 x1 kx n) kx) else ((FX12_draws N s_4406 q0 v_4405).bind fun r_4408 => (fun (v_4408 : Int) (s_4409 : iv_M) => ((FX12_codeAt N s_4409 q0 v_4408).bind fun r_4410 => (fun (v_4410 : Int) (s_4411 : iv_M) => ((FX12_does N s_4411 q0 v_4410).bind fun s_4413 => (FX12_drawnNights_b37 N s_4413 q0 x1 (w32 (x2 + 1)) x3 (FX12_drawnNights_l4 N q0 x1 kx n) kx))) r_4410.1 r_4410.2)) r_4408.1 r_4408.2))) r_4405.1 r_4405.2))
set_option maxRecDepth 10000 in
set_option maxHeartbeats 4000000 in
theorem RX12_drawnNights_l4 {d N nc Ls : Nat} {Xs : Nat → Int32} (hd : 9 ≤ d) {q0 : Nat} (t0 : T12 nc q0) {m1 : Int32} {x1 : Int} (p1 : m1.toInt = x1) {kx : iv_M → Int → Option (Int × iv_M)} {r : Int × iv_M} {Q : Option Value → iv_H → Prop} (hk : ∀ (h : iv_H) (s : iv_M) (hR : Rep nc Ls Xs h s) (m2 : Int32) (x2 : Int) (p2 : m2.toInt = x2), kx s x2 = some r → Rn d 341 (some .int) 54 [some (.ref q0), some (.int m1), some (.int m2), none, none] [] h Q) (hq : ∀ (z : Int32) (h1 : iv_H), z.toInt = r.1 → Rep nc Ls Xs h1 r.2 → Q (some (.int z)) h1) : ∀ (n : Nat) (h : iv_H) (s : iv_M) (hR : Rep nc Ls Xs h s) (m2 : Int32) (x2 : Int) (p2 : m2.toInt = x2) (m3 : Int32) (x3 : Int) (p3 : m3.toInt = x3), FX12_drawnNights_l4 N q0 x1 kx n s x2 x3 = some r → Rn d 341 (some .int) 4 [some (.ref q0), some (.int m1), some (.int m2), some (.int m3), none] [] h Q := by
  have hT := hX12_drawnNights
  intro n
  induction n with
  | zero =>
    intro h s hR m2 x2 p2 m3 x3 p3 e
    rw [FX12_drawnNights_l4] at e
    cases e
  | succ n ih =>
    intro h s hR m2 x2 p2 m3 x3 p3 e
    rw [FX12_drawnNights_l4] at e
    refine Rn.n hT 2 (pc' := 6) (L' := [some (.ref q0), some (.int m1), some (.int m2), some (.int m3), none]) (st' := [.int m1, .int m3]) rfl ?_
    by_cases c_4404 : x1 ≤ x3
    · rw [if_pos c_4404] at e
      refine Rn.bt hT rfl rfl rfl (decide_eq_true ((ti_le p1 p3).mpr c_4404)) ?_
      exact Rn.weak (ll_s (ll_s (ll_s (ll_n (ll_n ll_e))))) (hk h s hR m2 x2 p2 e)
    · rw [if_neg c_4404] at e
      refine Rn.bf hT rfl rfl rfl (decide_eq_false (fun z => c_4404 ((ti_le p1 p3).mp z))) ?_
      refine Rn.n hT 1 (pc' := 10) (L' := [some (.ref q0), some (.int m1), some (.int m2), some (.int m3), none]) (st' := [.ref q0]) rfl ?_
      obtain ⟨⟨v_4405, s_4406⟩, e_4405, e⟩ := Option.bind_eq_some_iff.mp e
      try dsimp only at e
      try dsimp only at e
      refine Rn.call hT rfl rfl rfl (Nat.le_of_ble_eq_true rfl) (rcv_v gX12_canNow (by omega) (rp_ck hR (T12_o t0))) (RX12_canNow (by omega) hR t0 e_4405 (fun z_4405 h_4406 p_4405 R_4406 => ?_))
      show Rn d _ _ 13 [some (.ref q0), some (.int m1), some (.int m2), some (.int m3), none] [.int z_4405] h_4406 Q
      refine Rn.n hT 2 (pc' := 17) (L' := [some (.ref q0), some (.int m1), some (.int m2), some (.int m3), some (.int z_4405)]) (st' := [.int z_4405]) rfl ?_
      by_cases c_4407 : v_4405 ≤ 0
      · rw [if_pos c_4407] at e
        refine Rn.bt hT rfl rfl rfl (decide_eq_true ((ti_le p_4405 L32_0).mpr c_4407)) ?_
        exact Rn.weak (ll_s (ll_s (ll_s (ll_s (ll_n ll_e))))) (RX12_drawnNights_b37 hd R_4406 t0 p1 p2 p3 ih hk hq e)
      · rw [if_neg c_4407] at e
        refine Rn.bf hT rfl rfl rfl (decide_eq_false (fun z => c_4407 ((ti_le p_4405 L32_0).mp z))) ?_
        refine Rn.n hT 4 (pc' := 25) (L' := [some (.ref q0), some (.int m1), some (.int m2), some (.int m3), some (.int z_4405)]) (st' := [.int z_4405, .ref q0, .ref q0, .ref q0]) rfl ?_
        obtain ⟨⟨v_4408, s_4409⟩, e_4408, e⟩ := Option.bind_eq_some_iff.mp e
        try dsimp only at e
        try dsimp only at e
        refine Rn.call hT rfl rfl rfl (Nat.le_of_ble_eq_true rfl) (rcv_v gX12_draws (by omega) (rp_ck R_4406 (T12_o t0))) (RX12_draws (by omega) R_4406 t0 p_4405 e_4408 (fun z_4408 h_4409 p_4408 R_4409 => ?_))
        show Rn d _ _ 28 [some (.ref q0), some (.int m1), some (.int m2), some (.int m3), some (.int z_4405)] [.int z_4408, .ref q0, .ref q0] h_4409 Q
        obtain ⟨⟨v_4410, s_4411⟩, e_4410, e⟩ := Option.bind_eq_some_iff.mp e
        try dsimp only at e
        try dsimp only at e
        refine Rn.call hT rfl rfl rfl (Nat.le_of_ble_eq_true rfl) (rcv_v gX12_codeAt (by omega) (rp_ck R_4409 (T12_o t0))) (RX12_codeAt (by omega) R_4409 t0 p_4408 e_4410 (fun z_4410 h_4411 p_4410 R_4411 => ?_))
        show Rn d _ _ 31 [some (.ref q0), some (.int m1), some (.int m2), some (.int m3), some (.int z_4405)] [.int z_4410, .ref q0] h_4411 Q
        obtain ⟨s_4413, e_4412, e⟩ := Option.bind_eq_some_iff.mp e
        refine Rn.call hT rfl rfl rfl (Nat.le_of_ble_eq_true rfl) (rcv_v gX12_does (by omega) (rp_ck R_4411 (T12_o t0))) (RX12_does (by omega) R_4411 t0 p_4410 e_4412 (fun h_4413 R_4413 => ?_))
        show Rn d _ _ 34 [some (.ref q0), some (.int m1), some (.int m2), some (.int m3), some (.int z_4405)] [] h_4413 Q
        refine Rn.n hT 1 (pc' := 37) (L' := [some (.ref q0), some (.int m1), some (.int (m2 + (1 : Int32))), some (.int m3), some (.int z_4405)]) (st' := []) rfl ?_
        exact Rn.weak (ll_s (ll_s (ll_s (ll_s (ll_n ll_e))))) (RX12_drawnNights_b37 hd R_4413 t0 p1 (ti_add p2 L32_1) p3 ih hk hq e)
def FX12_drawnNights (N : Nat) (s : iv_M) (q0 : Nat) (x1 : Int) : Option (Int × iv_M) := (FX12_drawnNights_l4 N q0 x1 (fun (s_4399 : iv_M) (x4400_2 : Int) => ((rd s_4399 (q0 + 1) 14 6).bind fun v_4401 => ((wr s_4399 (q0 + 1) 14 6 (w32 (v_4401 - x1))).bind fun s_4402 => (some (x4400_2, s_4402))))) N s 0 0)
set_option maxRecDepth 10000 in
set_option maxHeartbeats 4000000 in
theorem RX12_drawnNights {d N nc Ls : Nat} {Xs : Nat → Int32} (hd : 10 ≤ d) {h : iv_H} {s : iv_M} (hR : Rep nc Ls Xs h s) {q0 : Nat} (t0 : T12 nc q0) {m1 : Int32} {x1 : Int} (p1 : m1.toInt = x1) {r : Int × iv_M} {Q : Option Value → iv_H → Prop} (e : FX12_drawnNights N s q0 x1 = some r) (hq : ∀ (z : Int32) (h1 : iv_H), z.toInt = r.1 → Rep nc Ls Xs h1 r.2 → Q (some (.int z)) h1) : Cl d 341 [.ref q0, .int m1] h Q := by
  obtain ⟨d, rfl⟩ : ∃ k, d = k + 1 := ⟨d - 1, by omega⟩
  have hd : 9 ≤ d := by omega
  have hT := hX12_drawnNights
  unfold FX12_drawnNights at e
  refine Cl.into (by decide) gX12_drawnNights rfl ?_
  show Rn d 341 (some .int) 0 [some (.ref q0), some (.int m1), none, none, none] [] h Q
  refine Rn.n hT 4 (pc' := 4) (L' := [some (.ref q0), some (.int m1), some (.int (0 : Int32)), some (.int (0 : Int32)), none]) (st' := []) rfl ?_
  refine Rn.weak (ll_s (ll_s (ll_s (ll_s (ll_n ll_e))))) (RX12_drawnNights_l4 hd t0 p1 (fun h_4399 s_4399 R_4399 m4400_2 x4400_2 p4400_2 e => ?_) hq N h s hR (0 : Int32) 0 L32_0 (0 : Int32) 0 L32_0 e)
  try dsimp only at e
  refine Rn.n hT 1 (pc' := 55) (L' := [some (.ref q0), some (.int m1), some (.int m4400_2), none, none]) (st' := [.ref q0]) rfl ?_
  refine Rn.hp hT rfl rfl (gR_hp (rp_gR R_4399 (T12_o t0) rfl)) ?_
  refine Rn.n hT 2 (pc' := 61) (L' := [some (.ref q0), some (.int m1), some (.int m4400_2), none, none]) (st' := [.int (6 : Int32), .ref (q0 + 1), .int (6 : Int32), .ref (q0 + 1)]) rfl ?_
  obtain ⟨v_4401, e_4401, e⟩ := Option.bind_eq_some_iff.mp e
  obtain ⟨z_4401, g_4401, p_4401⟩ := rp_aI R_4399 (T12_1 t0) (T12_1l t0) L32_6 e_4401
  refine Rn.hp hT rfl rfl (aI_hp g_4401) ?_
  refine Rn.n hT 2 (pc' := 64) (L' := [some (.ref q0), some (.int m1), some (.int m4400_2), none, none]) (st' := [.int (z_4401 - m1), .int (6 : Int32), .ref (q0 + 1)]) rfl ?_
  obtain ⟨s_4402, e_4403, e⟩ := Option.bind_eq_some_iff.mp e
  obtain ⟨h_4402, g_4403, R_4402⟩ := rp_wI R_4399 (T12_1 t0) (T12_1l t0) L32_6 (ti_sub p_4401 p1) e_4403
  refine Rn.hp hT rfl rfl (wI_hp g_4403) ?_
  refine Rn.n hT 1 (pc' := 66) (L' := [some (.ref q0), some (.int m1), some (.int m4400_2), none, none]) (st' := [.int m4400_2]) rfl ?_
  obtain rfl := Option.some.inj e
  exact Rn.ret hT rfl rfl rfl (hq m4400_2 h_4402 p4400_2 R_4402)
set_option maxRecDepth 10000 in
theorem hX12_areDoorToDoor : iv_Tb 342 tX12_areDoorToDoor := iv_tb_of (m := mX12_areDoorToDoor) rfl
set_option maxRecDepth 10000 in
theorem gX12_areDoorToDoor : PG.2 342 = some mX12_areDoorToDoor := iv_pi_of (t := tX12_areDoorToDoor) rfl (by decide)
def FX12_areDoorToDoor_b41 (N : Nat) (s : iv_M) (q0 : Nat) (x1 : Int) (x2 : Int) (x4 : Int) (xs0 : Int) (kb : Int → Int → Option (Int)) (kx : Int → Option (Int)) : Option (Int) := (kb xs0 (w32 (x4 + 1)))
set_option maxRecDepth 10000 in
set_option maxHeartbeats 4000000 in
theorem RX12_areDoorToDoor_b41 {d N nc Ls : Nat} {Xs : Nat → Int32} (hd : 5 ≤ d) {h : iv_H} {s : iv_M} (hR : Rep nc Ls Xs h s) {q0 : Nat} (t0 : T12 nc q0) {m1 : Int32} {x1 : Int} (p1 : m1.toInt = x1) {m2 : Int32} {x2 : Int} (p2 : m2.toInt = x2) {m4 : Int32} {x4 : Int} (p4 : m4.toInt = x4) {ms0 : Int32} {xs0 : Int} (ps0 : ms0.toInt = xs0) {kb : Int → Int → Option (Int)} {kx : Int → Option (Int)} {r : Int} {Q : Option Value → iv_H → Prop} (hb : ∀ (mw3 : Int32) (xw3 : Int) (pw3 : mw3.toInt = xw3) (mw4 : Int32) (xw4 : Int) (pw4 : mw4.toInt = xw4), kb xw3 xw4 = some r → Rn d 342 (some .boolean) 5 [some (.ref q0), some (.int m1), some (.int m2), some (.int mw3), some (.int mw4)] [] h Q) (hk : ∀ (mw3 : Int32) (xw3 : Int) (pw3 : mw3.toInt = xw3), kx xw3 = some r → Rn d 342 (some .boolean) 48 [none, none, none, some (.int mw3), none] [] h Q) (hq : ∀ (z : Int32), z.toInt = r → Q (some (.int z)) h) (e : FX12_areDoorToDoor_b41 N s q0 x1 x2 x4 xs0 kb kx = some r) : Rn d 342 (some .boolean) 41 [some (.ref q0), some (.int m1), some (.int m2), none, some (.int m4)] [.int ms0] h Q := by
  have hT := hX12_areDoorToDoor
  unfold FX12_areDoorToDoor_b41 at e
  refine Rn.n hT 3 (pc' := 5) (L' := [some (.ref q0), some (.int m1), some (.int m2), some (.int ms0), some (.int (m4 + (1 : Int32)))]) (st' := []) rfl ?_
  exact Rn.weak (ll_s (ll_s (ll_s (ll_s (ll_s ll_e))))) (hb ms0 xs0 ps0 (m4 + (1 : Int32)) (w32 (x4 + 1)) (ti_add p4 L32_1) e)
def FX12_areDoorToDoor_b36 (N : Nat) (s : iv_M) (q0 : Nat) (x1 : Int) (x2 : Int) (x4 : Int)  (kb : Int → Int → Option (Int)) (kx : Int → Option (Int)) : Option (Int) := (FX12_areDoorToDoor_b41 N s q0 x1 x2 x4 1 kb kx)
set_option maxRecDepth 10000 in
set_option maxHeartbeats 4000000 in
theorem RX12_areDoorToDoor_b36 {d N nc Ls : Nat} {Xs : Nat → Int32} (hd : 5 ≤ d) {h : iv_H} {s : iv_M} (hR : Rep nc Ls Xs h s) {q0 : Nat} (t0 : T12 nc q0) {m1 : Int32} {x1 : Int} (p1 : m1.toInt = x1) {m2 : Int32} {x2 : Int} (p2 : m2.toInt = x2) {m4 : Int32} {x4 : Int} (p4 : m4.toInt = x4)  {kb : Int → Int → Option (Int)} {kx : Int → Option (Int)} {r : Int} {Q : Option Value → iv_H → Prop} (hb : ∀ (mw3 : Int32) (xw3 : Int) (pw3 : mw3.toInt = xw3) (mw4 : Int32) (xw4 : Int) (pw4 : mw4.toInt = xw4), kb xw3 xw4 = some r → Rn d 342 (some .boolean) 5 [some (.ref q0), some (.int m1), some (.int m2), some (.int mw3), some (.int mw4)] [] h Q) (hk : ∀ (mw3 : Int32) (xw3 : Int) (pw3 : mw3.toInt = xw3), kx xw3 = some r → Rn d 342 (some .boolean) 48 [none, none, none, some (.int mw3), none] [] h Q) (hq : ∀ (z : Int32), z.toInt = r → Q (some (.int z)) h) (e : FX12_areDoorToDoor_b36 N s q0 x1 x2 x4  kb kx = some r) : Rn d 342 (some .boolean) 36 [some (.ref q0), some (.int m1), some (.int m2), none, some (.int m4)] [] h Q := by
  have hT := hX12_areDoorToDoor
  unfold FX12_areDoorToDoor_b36 at e
  refine Rn.n hT 2 (pc' := 41) (L' := [some (.ref q0), some (.int m1), some (.int m2), none, some (.int m4)]) (st' := [.int (1 : Int32)]) rfl ?_
  exact Rn.weak (ll_s (ll_s (ll_s (ll_n (ll_s ll_e))))) (RX12_areDoorToDoor_b41 hd hR t0 p1 p2 p4 L32_1 hb hk hq e)
def FX12_areDoorToDoor_b40 (N : Nat) (s : iv_M) (q0 : Nat) (x1 : Int) (x2 : Int) (x4 : Int)  (kb : Int → Int → Option (Int)) (kx : Int → Option (Int)) : Option (Int) := (FX12_areDoorToDoor_b41 N s q0 x1 x2 x4 0 kb kx)
set_option maxRecDepth 10000 in
set_option maxHeartbeats 4000000 in
theorem RX12_areDoorToDoor_b40 {d N nc Ls : Nat} {Xs : Nat → Int32} (hd : 5 ≤ d) {h : iv_H} {s : iv_M} (hR : Rep nc Ls Xs h s) {q0 : Nat} (t0 : T12 nc q0) {m1 : Int32} {x1 : Int} (p1 : m1.toInt = x1) {m2 : Int32} {x2 : Int} (p2 : m2.toInt = x2) {m4 : Int32} {x4 : Int} (p4 : m4.toInt = x4)  {kb : Int → Int → Option (Int)} {kx : Int → Option (Int)} {r : Int} {Q : Option Value → iv_H → Prop} (hb : ∀ (mw3 : Int32) (xw3 : Int) (pw3 : mw3.toInt = xw3) (mw4 : Int32) (xw4 : Int) (pw4 : mw4.toInt = xw4), kb xw3 xw4 = some r → Rn d 342 (some .boolean) 5 [some (.ref q0), some (.int m1), some (.int m2), some (.int mw3), some (.int mw4)] [] h Q) (hk : ∀ (mw3 : Int32) (xw3 : Int) (pw3 : mw3.toInt = xw3), kx xw3 = some r → Rn d 342 (some .boolean) 48 [none, none, none, some (.int mw3), none] [] h Q) (hq : ∀ (z : Int32), z.toInt = r → Q (some (.int z)) h) (e : FX12_areDoorToDoor_b40 N s q0 x1 x2 x4  kb kx = some r) : Rn d 342 (some .boolean) 40 [some (.ref q0), some (.int m1), some (.int m2), none, some (.int m4)] [] h Q := by
  have hT := hX12_areDoorToDoor
  unfold FX12_areDoorToDoor_b40 at e
  refine Rn.n hT 1 (pc' := 41) (L' := [some (.ref q0), some (.int m1), some (.int m2), none, some (.int m4)]) (st' := [.int (0 : Int32)]) rfl ?_
  exact Rn.weak (ll_s (ll_s (ll_s (ll_n (ll_s ll_e))))) (RX12_areDoorToDoor_b41 hd hR t0 p1 p2 p4 L32_0 hb hk hq e)
def FX12_areDoorToDoor_l5 (N : Nat) (s : iv_M) (q0 : Nat) (x1 : Int) (x2 : Int) (kx : Int → Option (Int)) : Nat → Int → Int → Option (Int)
  | 0, _, _ => none
  | n + 1, x3, x4 => (if 4 ≤ x4 then (kx x3) else (if x3 = 0 then ((FX12_faced N s q0 x1 x4).bind fun v_4421 => (if v_4421 = x2 then ((FX12_isDoorToDoor N s q0 x1 x4).bind fun v_4423 => (if v_4423 = 0 then (FX12_areDoorToDoor_b40 N s q0 x1 x2 x4 (FX12_areDoorToDoor_l5 N s q0 x1 x2 kx n) kx) else (FX12_areDoorToDoor_b36 N s q0 x1 x2 x4 (FX12_areDoorToDoor_l5 N s q0 x1 x2 kx n) kx))) else (FX12_areDoorToDoor_b40 N s q0 x1 x2 x4 (FX12_areDoorToDoor_l5 N s q0 x1 x2 kx n) kx))) else (FX12_areDoorToDoor_b36 N s q0 x1 x2 x4 (FX12_areDoorToDoor_l5 N s q0 x1 x2 kx n) kx)))
set_option maxRecDepth 10000 in
set_option maxHeartbeats 4000000 in
theorem RX12_areDoorToDoor_l5 {d N nc Ls : Nat} {Xs : Nat → Int32} (hd : 5 ≤ d) {h : iv_H} {s : iv_M} (hR : Rep nc Ls Xs h s) {q0 : Nat} (t0 : T12 nc q0) {m1 : Int32} {x1 : Int} (p1 : m1.toInt = x1) {m2 : Int32} {x2 : Int} (p2 : m2.toInt = x2) {kx : Int → Option (Int)} {r : Int} {Q : Option Value → iv_H → Prop} (hk : ∀ (m3 : Int32) (x3 : Int) (p3 : m3.toInt = x3), kx x3 = some r → Rn d 342 (some .boolean) 48 [none, none, none, some (.int m3), none] [] h Q) (hq : ∀ (z : Int32), z.toInt = r → Q (some (.int z)) h) : ∀ (n : Nat) (m3 : Int32) (x3 : Int) (p3 : m3.toInt = x3) (m4 : Int32) (x4 : Int) (p4 : m4.toInt = x4), FX12_areDoorToDoor_l5 N s q0 x1 x2 kx n x3 x4 = some r → Rn d 342 (some .boolean) 5 [some (.ref q0), some (.int m1), some (.int m2), some (.int m3), some (.int m4)] [] h Q := by
  have hT := hX12_areDoorToDoor
  intro n
  induction n with
  | zero =>
    intro m3 x3 p3 m4 x4 p4 e
    rw [FX12_areDoorToDoor_l5] at e
    cases e
  | succ n ih =>
    intro m3 x3 p3 m4 x4 p4 e
    rw [FX12_areDoorToDoor_l5] at e
    refine Rn.n hT 2 (pc' := 8) (L' := [some (.ref q0), some (.int m1), some (.int m2), some (.int m3), some (.int m4)]) (st' := [.int (4 : Int32), .int m4]) rfl ?_
    by_cases c_4419 : 4 ≤ x4
    · rw [if_pos c_4419] at e
      refine Rn.bt hT rfl rfl rfl (decide_eq_true ((ti_le L32_4 p4).mpr c_4419)) ?_
      exact Rn.weak (ll_n (ll_n (ll_n (ll_s (ll_n ll_e))))) (hk m3 x3 p3 e)
    · rw [if_neg c_4419] at e
      refine Rn.bf hT rfl rfl rfl (decide_eq_false (fun z => c_4419 ((ti_le L32_4 p4).mp z))) ?_
      refine Rn.n hT 1 (pc' := 12) (L' := [some (.ref q0), some (.int m1), some (.int m2), some (.int m3), some (.int m4)]) (st' := [.int m3]) rfl ?_
      by_cases c_4420 : x3 = 0
      · rw [if_pos c_4420] at e
        refine Rn.bf hT rfl rfl rfl (decide_eq_false (fun z => z ((ti_e p3 L32_0).mpr c_4420))) ?_
        refine Rn.n hT 3 (pc' := 19) (L' := [some (.ref q0), some (.int m1), some (.int m2), some (.int m3), some (.int m4)]) (st' := [.int m4, .int m1, .ref q0]) rfl ?_
        obtain ⟨v_4421, e_4421, e⟩ := Option.bind_eq_some_iff.mp e
        refine Rn.call hT rfl rfl rfl (Nat.le_of_ble_eq_true rfl) (rcv_v gX12_faced (by omega) (rp_ck hR (T12_o t0))) (RX12_faced (by omega) hR t0 p1 p4 e_4421 (fun z_4421 p_4421 => ?_))
        show Rn d _ _ 22 [some (.ref q0), some (.int m1), some (.int m2), some (.int m3), some (.int m4)] [.int z_4421] h Q
        refine Rn.n hT 1 (pc' := 23) (L' := [some (.ref q0), some (.int m1), some (.int m2), some (.int m3), some (.int m4)]) (st' := [.int m2, .int z_4421]) rfl ?_
        by_cases c_4422 : v_4421 = x2
        · rw [if_pos c_4422] at e
          refine Rn.bf hT rfl rfl rfl (decide_eq_false (fun z => z ((ti_e p_4421 p2).mpr c_4422))) ?_
          refine Rn.n hT 3 (pc' := 30) (L' := [some (.ref q0), some (.int m1), some (.int m2), some (.int m3), some (.int m4)]) (st' := [.int m4, .int m1, .ref q0]) rfl ?_
          obtain ⟨v_4423, e_4423, e⟩ := Option.bind_eq_some_iff.mp e
          refine Rn.call hT rfl rfl rfl (Nat.le_of_ble_eq_true rfl) (rcv_v gX12_isDoorToDoor (by omega) (rp_ck hR (T12_o t0))) (RX12_isDoorToDoor (by omega) hR t0 p1 p4 e_4423 (fun z_4423 p_4423 => ?_))
          show Rn d _ _ 33 [some (.ref q0), some (.int m1), some (.int m2), some (.int m3), some (.int m4)] [.int z_4423] h Q
          by_cases c_4424 : v_4423 = 0
          · rw [if_pos c_4424] at e
            refine Rn.bt hT rfl rfl rfl (decide_eq_true ((ti_e p_4423 L32_0).mpr c_4424)) ?_
            exact Rn.weak (ll_s (ll_s (ll_s (ll_n (ll_s ll_e))))) (RX12_areDoorToDoor_b40 hd hR t0 p1 p2 p4 ih hk hq e)
          · rw [if_neg c_4424] at e
            refine Rn.bf hT rfl rfl rfl (decide_eq_false (fun z => c_4424 ((ti_e p_4423 L32_0).mp z))) ?_
            exact Rn.weak (ll_s (ll_s (ll_s (ll_n (ll_s ll_e))))) (RX12_areDoorToDoor_b36 hd hR t0 p1 p2 p4 ih hk hq e)
        · rw [if_neg c_4422] at e
          refine Rn.bt hT rfl rfl rfl (decide_eq_true (fun z => c_4422 ((ti_e p_4421 p2).mp z))) ?_
          exact Rn.weak (ll_s (ll_s (ll_s (ll_n (ll_s ll_e))))) (RX12_areDoorToDoor_b40 hd hR t0 p1 p2 p4 ih hk hq e)
      · rw [if_neg c_4420] at e
        refine Rn.bt hT rfl rfl rfl (decide_eq_true (fun z => c_4420 ((ti_e p3 L32_0).mp z))) ?_
        exact Rn.weak (ll_s (ll_s (ll_s (ll_n (ll_s ll_e))))) (RX12_areDoorToDoor_b36 hd hR t0 p1 p2 p4 ih hk hq e)
def FX12_areDoorToDoor (N : Nat) (s : iv_M) (q0 : Nat) (x1 : Int) (x2 : Int) : Option (Int) := (FX12_areDoorToDoor_l5 N s q0 x1 x2 (fun (x4417_3 : Int) => (if x4417_3 = 0 ∨ x4417_3 = 1 then some x4417_3 else none)) N 0 0)
set_option maxRecDepth 10000 in
set_option maxHeartbeats 4000000 in
theorem RX12_areDoorToDoor {d N nc Ls : Nat} {Xs : Nat → Int32} (hd : 6 ≤ d) {h : iv_H} {s : iv_M} (hR : Rep nc Ls Xs h s) {q0 : Nat} (t0 : T12 nc q0) {m1 : Int32} {x1 : Int} (p1 : m1.toInt = x1) {m2 : Int32} {x2 : Int} (p2 : m2.toInt = x2) {r : Int} {Q : Option Value → iv_H → Prop} (e : FX12_areDoorToDoor N s q0 x1 x2 = some r) (hq : ∀ (z : Int32), z.toInt = r → Q (some (.int z)) h) : Cl d 342 [.ref q0, .int m1, .int m2] h Q := by
  obtain ⟨d, rfl⟩ : ∃ k, d = k + 1 := ⟨d - 1, by omega⟩
  have hd : 5 ≤ d := by omega
  have hT := hX12_areDoorToDoor
  unfold FX12_areDoorToDoor at e
  refine Cl.into (by decide) gX12_areDoorToDoor rfl ?_
  show Rn d 342 (some .boolean) 0 [some (.ref q0), some (.int m1), some (.int m2), none, none] [] h Q
  refine Rn.n hT 4 (pc' := 5) (L' := [some (.ref q0), some (.int m1), some (.int m2), some (.int (0 : Int32)), some (.int (0 : Int32))]) (st' := []) rfl ?_
  refine Rn.weak (ll_s (ll_s (ll_s (ll_s (ll_s ll_e))))) (RX12_areDoorToDoor_l5 hd hR t0 p1 p2 (fun m4417_3 x4417_3 p4417_3 e => ?_) hq N (0 : Int32) 0 L32_0 (0 : Int32) 0 L32_0 e)
  try dsimp only at e
  refine Rn.n hT 1 (pc' := 49) (L' := [none, none, none, some (.int m4417_3), none]) (st' := [.int m4417_3]) rfl ?_
  by_cases c_4418 : x4417_3 = 0 ∨ x4417_3 = 1
  · rw [if_pos c_4418] at e
    obtain rfl := Option.some.inj e
    exact Rn.ret hT rfl rfl (if_pos (ti_b p4417_3 c_4418)) (hq m4417_3 p4417_3)
  · rw [if_neg c_4418] at e
    cases e
set_option maxRecDepth 10000 in
theorem hX12_drawn : iv_Tb 343 tX12_drawn := iv_tb_of (m := mX12_drawn) rfl
set_option maxRecDepth 10000 in
theorem gX12_drawn : PG.2 343 = some mX12_drawn := iv_pi_of (t := tX12_drawn) rfl (by decide)
def FX12_drawn_b60 (N : Nat) (s : iv_M)   : Option (Int × iv_M) := (some ((-1), s))
set_option maxRecDepth 10000 in
set_option maxHeartbeats 4000000 in
theorem RX12_drawn_b60 {d N nc Ls : Nat} {Xs : Nat → Int32} (hd : 10 ≤ d) {h : iv_H} {s : iv_M} (hR : Rep nc Ls Xs h s)   {r : Int × iv_M} {Q : Option Value → iv_H → Prop} (hq : ∀ (z : Int32) (h1 : iv_H), z.toInt = r.1 → Rep nc Ls Xs h1 r.2 → Q (some (.int z)) h1) (e : FX12_drawn_b60 N s   = some r) : Rn d 343 (some .int) 60 [none, none, none, none, none, none, none, none, none, none] [] h Q := by
  have hT := hX12_drawn
  unfold FX12_drawn_b60 at e
  refine Rn.n hT 1 (pc' := 61) (L' := [none, none, none, none, none, none, none, none, none, none]) (st' := [.int (-1 : Int32)]) rfl ?_
  obtain rfl := Option.some.inj e
  exact Rn.ret hT rfl rfl rfl (hq (-1 : Int32) h L32_m1 hR)
def FX12_drawn_b139 (N : Nat) (s : iv_M) (q0 : Nat) (x1 : Int) (x2 : Int) (x3 : Int) (x4 : Int) (x5 : Int) (x6 : Int) (x8 : Int) (xs0 : Int) (xs1 : Int) (kb : iv_M → Int → Int → Option (Int × iv_M)) (kx : iv_M → Int → Option (Int × iv_M)) : Option (Int × iv_M) := ((FX12_laysFloor N s q0 (q0 + 41) 0).bind fun s_4453 => (kb s_4453 (w32 (xs1 + xs0)) (w32 (x8 + 1))))
set_option maxRecDepth 10000 in
set_option maxHeartbeats 4000000 in
theorem RX12_drawn_b139 {d N nc Ls : Nat} {Xs : Nat → Int32} (hd : 10 ≤ d) {h : iv_H} {s : iv_M} (hR : Rep nc Ls Xs h s) {q0 : Nat} (t0 : T12 nc q0) {m1 : Int32} {x1 : Int} (p1 : m1.toInt = x1) {m2 : Int32} {x2 : Int} (p2 : m2.toInt = x2) {m3 : Int32} {x3 : Int} (p3 : m3.toInt = x3) {m4 : Int32} {x4 : Int} (p4 : m4.toInt = x4) {m5 : Int32} {x5 : Int} (p5 : m5.toInt = x5) {m6 : Int32} {x6 : Int} (p6 : m6.toInt = x6) {m8 : Int32} {x8 : Int} (p8 : m8.toInt = x8) {ms0 : Int32} {xs0 : Int} (ps0 : ms0.toInt = xs0) {ms1 : Int32} {xs1 : Int} (ps1 : ms1.toInt = xs1) {kb : iv_M → Int → Int → Option (Int × iv_M)} {kx : iv_M → Int → Option (Int × iv_M)} {r : Int × iv_M} {Q : Option Value → iv_H → Prop} (hb : ∀ (h : iv_H) (s : iv_M) (hR : Rep nc Ls Xs h s) (mw7 : Int32) (xw7 : Int) (pw7 : mw7.toInt = xw7) (mw8 : Int32) (xw8 : Int) (pw8 : mw8.toInt = xw8), kb s xw7 xw8 = some r → Rn d 343 (some .int) 86 [some (.ref q0), some (.int m1), some (.int m2), some (.int m3), some (.int m4), some (.int m5), some (.int m6), some (.int mw7), some (.int mw8), none] [] h Q) (hk : ∀ (h : iv_H) (s : iv_M) (hR : Rep nc Ls Xs h s) (mw7 : Int32) (xw7 : Int) (pw7 : mw7.toInt = xw7), kx s xw7 = some r → Rn d 343 (some .int) 157 [some (.ref q0), none, none, none, none, none, some (.int m6), some (.int mw7), none, none] [] h Q) (hq : ∀ (z : Int32) (h1 : iv_H), z.toInt = r.1 → Rep nc Ls Xs h1 r.2 → Q (some (.int z)) h1) (e : FX12_drawn_b139 N s q0 x1 x2 x3 x4 x5 x6 x8 xs0 xs1 kb kx = some r) : Rn d 343 (some .int) 139 [some (.ref q0), some (.int m1), some (.int m2), some (.int m3), some (.int m4), some (.int m5), some (.int m6), none, some (.int m8), none] [.int ms0, .int ms1] h Q := by
  have hT := hX12_drawn
  unfold FX12_drawn_b139 at e
  refine Rn.n hT 4 (pc' := 144) (L' := [some (.ref q0), some (.int m1), some (.int m2), some (.int m3), some (.int m4), some (.int m5), some (.int m6), some (.int (ms1 + ms0)), some (.int m8), none]) (st' := [.ref q0, .ref q0]) rfl ?_
  refine Rn.hp hT rfl rfl (gR_hp (rp_gR hR (T12_o t0) rfl)) ?_
  refine Rn.n hT 1 (pc' := 148) (L' := [some (.ref q0), some (.int m1), some (.int m2), some (.int m3), some (.int m4), some (.int m5), some (.int m6), some (.int (ms1 + ms0)), some (.int m8), none]) (st' := [.int (0 : Int32), .ref (q0 + 41), .ref q0]) rfl ?_
  obtain ⟨s_4453, e_4452, e⟩ := Option.bind_eq_some_iff.mp e
  refine Rn.call hT rfl rfl rfl (Nat.le_of_ble_eq_true rfl) (rcv_v gX12_laysFloor (by omega) (rp_ck hR (T12_o t0))) (RX12_laysFloor (by omega) hR t0 (T12_55 t0) L32_0 e_4452 (fun h_4453 R_4453 => ?_))
  show Rn d _ _ 151 [some (.ref q0), some (.int m1), some (.int m2), some (.int m3), some (.int m4), some (.int m5), some (.int m6), some (.int (ms1 + ms0)), some (.int m8), none] [] h_4453 Q
  refine Rn.n hT 2 (pc' := 86) (L' := [some (.ref q0), some (.int m1), some (.int m2), some (.int m3), some (.int m4), some (.int m5), some (.int m6), some (.int (ms1 + ms0)), some (.int (m8 + (1 : Int32))), none]) (st' := []) rfl ?_
  exact Rn.weak (ll_s (ll_s (ll_s (ll_s (ll_s (ll_s (ll_s (ll_s (ll_s (ll_n ll_e)))))))))) (hb h_4453 s_4453 R_4453 (ms1 + ms0) (w32 (xs1 + xs0)) (ti_add ps1 ps0) (m8 + (1 : Int32)) (w32 (x8 + 1)) (ti_add p8 L32_1) e)
def FX12_drawn_l86 (N : Nat) (q0 : Nat) (x1 : Int) (x2 : Int) (x3 : Int) (x4 : Int) (x5 : Int) (x6 : Int) (kx : iv_M → Int → Option (Int × iv_M)) : Nat → iv_M → Int → Int → Option (Int × iv_M)
  | 0, _, _, _ => none
  | n + 1, s, x7, x8 => (if x1 ≤ x8 then (kx s x7) else ((FX12_drawnNights N s q0 x2).bind fun r_4444 => (fun (v_4444 : Int) (s_4445 : iv_M) => (if x5 = 0 then ((FX12_mismatches N s_4445 q0).bind fun r_4450 => (fun (v_4450 : Int) (s_4451 : iv_M) => (FX12_drawn_b139 N s_4451 q0 x1 x2 x3 x4 x5 x6 x8 v_4450 x7 (FX12_drawn_l86 N q0 x1 x2 x3 x4 x5 x6 kx n) kx)) r_4450.1 r_4450.2) else (if x5 = 2 then (FX12_drawn_b139 N s_4445 q0 x1 x2 x3 x4 x5 x6 x8 v_4444 x7 (FX12_drawn_l86 N q0 x1 x2 x3 x4 x5 x6 kx n) kx) else ((FX12_areDoorToDoor N s_4445 q0 x3 x4).bind fun v_4448 => (if v_4448 = 0 then (FX12_drawn_b139 N s_4445 q0 x1 x2 x3 x4 x5 x6 x8 0 x7 (FX12_drawn_l86 N q0 x1 x2 x3 x4 x5 x6 kx n) kx) else (FX12_drawn_b139 N s_4445 q0 x1 x2 x3 x4 x5 x6 x8 1 x7 (FX12_drawn_l86 N q0 x1 x2 x3 x4 x5 x6 kx n) kx)))))) r_4444.1 r_4444.2))
set_option maxRecDepth 10000 in
set_option maxHeartbeats 4000000 in
theorem RX12_drawn_l86 {d N nc Ls : Nat} {Xs : Nat → Int32} (hd : 10 ≤ d) {q0 : Nat} (t0 : T12 nc q0) {m1 : Int32} {x1 : Int} (p1 : m1.toInt = x1) {m2 : Int32} {x2 : Int} (p2 : m2.toInt = x2) {m3 : Int32} {x3 : Int} (p3 : m3.toInt = x3) {m4 : Int32} {x4 : Int} (p4 : m4.toInt = x4) {m5 : Int32} {x5 : Int} (p5 : m5.toInt = x5) {m6 : Int32} {x6 : Int} (p6 : m6.toInt = x6) {kx : iv_M → Int → Option (Int × iv_M)} {r : Int × iv_M} {Q : Option Value → iv_H → Prop} (hk : ∀ (h : iv_H) (s : iv_M) (hR : Rep nc Ls Xs h s) (m7 : Int32) (x7 : Int) (p7 : m7.toInt = x7), kx s x7 = some r → Rn d 343 (some .int) 157 [some (.ref q0), none, none, none, none, none, some (.int m6), some (.int m7), none, none] [] h Q) (hq : ∀ (z : Int32) (h1 : iv_H), z.toInt = r.1 → Rep nc Ls Xs h1 r.2 → Q (some (.int z)) h1) : ∀ (n : Nat) (h : iv_H) (s : iv_M) (hR : Rep nc Ls Xs h s) (m7 : Int32) (x7 : Int) (p7 : m7.toInt = x7) (m8 : Int32) (x8 : Int) (p8 : m8.toInt = x8), FX12_drawn_l86 N q0 x1 x2 x3 x4 x5 x6 kx n s x7 x8 = some r → Rn d 343 (some .int) 86 [some (.ref q0), some (.int m1), some (.int m2), some (.int m3), some (.int m4), some (.int m5), some (.int m6), some (.int m7), some (.int m8), none] [] h Q := by
  have hT := hX12_drawn
  intro n
  induction n with
  | zero =>
    intro h s hR m7 x7 p7 m8 x8 p8 e
    rw [FX12_drawn_l86] at e
    cases e
  | succ n ih =>
    intro h s hR m7 x7 p7 m8 x8 p8 e
    rw [FX12_drawn_l86] at e
    refine Rn.n hT 2 (pc' := 89) (L' := [some (.ref q0), some (.int m1), some (.int m2), some (.int m3), some (.int m4), some (.int m5), some (.int m6), some (.int m7), some (.int m8), none]) (st' := [.int m1, .int m8]) rfl ?_
    by_cases c_4443 : x1 ≤ x8
    · rw [if_pos c_4443] at e
      refine Rn.bt hT rfl rfl rfl (decide_eq_true ((ti_le p1 p8).mpr c_4443)) ?_
      exact Rn.weak (ll_s (ll_n (ll_n (ll_n (ll_n (ll_n (ll_s (ll_s (ll_n (ll_n ll_e)))))))))) (hk h s hR m7 x7 p7 e)
    · rw [if_neg c_4443] at e
      refine Rn.bf hT rfl rfl rfl (decide_eq_false (fun z => c_4443 ((ti_le p1 p8).mp z))) ?_
      refine Rn.n hT 2 (pc' := 94) (L' := [some (.ref q0), some (.int m1), some (.int m2), some (.int m3), some (.int m4), some (.int m5), some (.int m6), some (.int m7), some (.int m8), none]) (st' := [.int m2, .ref q0]) rfl ?_
      obtain ⟨⟨v_4444, s_4445⟩, e_4444, e⟩ := Option.bind_eq_some_iff.mp e
      try dsimp only at e
      try dsimp only at e
      refine Rn.call hT rfl rfl rfl (Nat.le_of_ble_eq_true rfl) (rcv_v gX12_drawnNights (by omega) (rp_ck hR (T12_o t0))) (RX12_drawnNights (by omega) hR t0 p2 e_4444 (fun z_4444 h_4445 p_4444 R_4445 => ?_))
      show Rn d _ _ 97 [some (.ref q0), some (.int m1), some (.int m2), some (.int m3), some (.int m4), some (.int m5), some (.int m6), some (.int m7), some (.int m8), none] [.int z_4444] h_4445 Q
      refine Rn.n hT 3 (pc' := 103) (L' := [some (.ref q0), some (.int m1), some (.int m2), some (.int m3), some (.int m4), some (.int m5), some (.int m6), some (.int m7), some (.int m8), some (.int z_4444)]) (st' := [.int m5, .int m7]) rfl ?_
      by_cases c_4446 : x5 = 0
      · rw [if_pos c_4446] at e
        refine Rn.bf hT rfl rfl rfl (decide_eq_false (fun z => z ((ti_e p5 L32_0).mpr c_4446))) ?_
        refine Rn.n hT 1 (pc' := 107) (L' := [some (.ref q0), some (.int m1), some (.int m2), some (.int m3), some (.int m4), some (.int m5), some (.int m6), some (.int m7), some (.int m8), some (.int z_4444)]) (st' := [.ref q0, .int m7]) rfl ?_
        obtain ⟨⟨v_4450, s_4451⟩, e_4450, e⟩ := Option.bind_eq_some_iff.mp e
        try dsimp only at e
        try dsimp only at e
        refine Rn.call hT rfl rfl rfl (Nat.le_of_ble_eq_true rfl) (rcv_v gX12_mismatches (by omega) (rp_ck R_4445 (T12_o t0))) (RX12_mismatches (by omega) R_4445 t0 e_4450 (fun z_4450 h_4451 p_4450 R_4451 => ?_))
        show Rn d _ _ 110 [some (.ref q0), some (.int m1), some (.int m2), some (.int m3), some (.int m4), some (.int m5), some (.int m6), some (.int m7), some (.int m8), some (.int z_4444)] [.int z_4450, .int m7] h_4451 Q
        refine Rn.n hT 1 (pc' := 139) (L' := [some (.ref q0), some (.int m1), some (.int m2), some (.int m3), some (.int m4), some (.int m5), some (.int m6), some (.int m7), some (.int m8), some (.int z_4444)]) (st' := [.int z_4450, .int m7]) rfl ?_
        exact Rn.weak (ll_s (ll_s (ll_s (ll_s (ll_s (ll_s (ll_s (ll_n (ll_s (ll_n ll_e)))))))))) (RX12_drawn_b139 hd R_4451 t0 p1 p2 p3 p4 p5 p6 p8 p_4450 p7 ih hk hq e)
      · rw [if_neg c_4446] at e
        refine Rn.bt hT rfl rfl rfl (decide_eq_true (fun z => c_4446 ((ti_e p5 L32_0).mp z))) ?_
        refine Rn.n hT 2 (pc' := 116) (L' := [some (.ref q0), some (.int m1), some (.int m2), some (.int m3), some (.int m4), some (.int m5), some (.int m6), some (.int m7), some (.int m8), some (.int z_4444)]) (st' := [.int (2 : Int32), .int m5, .int m7]) rfl ?_
        by_cases c_4447 : x5 = 2
        · rw [if_pos c_4447] at e
          refine Rn.bf hT rfl rfl rfl (decide_eq_false (fun z => z ((ti_e p5 L32_2).mpr c_4447))) ?_
          refine Rn.n hT 2 (pc' := 139) (L' := [some (.ref q0), some (.int m1), some (.int m2), some (.int m3), some (.int m4), some (.int m5), some (.int m6), some (.int m7), some (.int m8), some (.int z_4444)]) (st' := [.int z_4444, .int m7]) rfl ?_
          exact Rn.weak (ll_s (ll_s (ll_s (ll_s (ll_s (ll_s (ll_s (ll_n (ll_s (ll_n ll_e)))))))))) (RX12_drawn_b139 hd R_4445 t0 p1 p2 p3 p4 p5 p6 p8 p_4444 p7 ih hk hq e)
        · rw [if_neg c_4447] at e
          refine Rn.bt hT rfl rfl rfl (decide_eq_true (fun z => c_4447 ((ti_e p5 L32_2).mp z))) ?_
          refine Rn.n hT 3 (pc' := 128) (L' := [some (.ref q0), some (.int m1), some (.int m2), some (.int m3), some (.int m4), some (.int m5), some (.int m6), some (.int m7), some (.int m8), some (.int z_4444)]) (st' := [.int m4, .int m3, .ref q0, .int m7]) rfl ?_
          obtain ⟨v_4448, e_4448, e⟩ := Option.bind_eq_some_iff.mp e
          refine Rn.call hT rfl rfl rfl (Nat.le_of_ble_eq_true rfl) (rcv_v gX12_areDoorToDoor (by omega) (rp_ck R_4445 (T12_o t0))) (RX12_areDoorToDoor (by omega) R_4445 t0 p3 p4 e_4448 (fun z_4448 p_4448 => ?_))
          show Rn d _ _ 131 [some (.ref q0), some (.int m1), some (.int m2), some (.int m3), some (.int m4), some (.int m5), some (.int m6), some (.int m7), some (.int m8), some (.int z_4444)] [.int z_4448, .int m7] h_4445 Q
          by_cases c_4449 : v_4448 = 0
          · rw [if_pos c_4449] at e
            refine Rn.bt hT rfl rfl rfl (decide_eq_true ((ti_e p_4448 L32_0).mpr c_4449)) ?_
            refine Rn.n hT 1 (pc' := 139) (L' := [some (.ref q0), some (.int m1), some (.int m2), some (.int m3), some (.int m4), some (.int m5), some (.int m6), some (.int m7), some (.int m8), some (.int z_4444)]) (st' := [.int (0 : Int32), .int m7]) rfl ?_
            exact Rn.weak (ll_s (ll_s (ll_s (ll_s (ll_s (ll_s (ll_s (ll_n (ll_s (ll_n ll_e)))))))))) (RX12_drawn_b139 hd R_4445 t0 p1 p2 p3 p4 p5 p6 p8 L32_0 p7 ih hk hq e)
          · rw [if_neg c_4449] at e
            refine Rn.bf hT rfl rfl rfl (decide_eq_false (fun z => c_4449 ((ti_e p_4448 L32_0).mp z))) ?_
            refine Rn.n hT 2 (pc' := 139) (L' := [some (.ref q0), some (.int m1), some (.int m2), some (.int m3), some (.int m4), some (.int m5), some (.int m6), some (.int m7), some (.int m8), some (.int z_4444)]) (st' := [.int (1 : Int32), .int m7]) rfl ?_
            exact Rn.weak (ll_s (ll_s (ll_s (ll_s (ll_s (ll_s (ll_s (ll_n (ll_s (ll_n ll_e)))))))))) (RX12_drawn_b139 hd R_4445 t0 p1 p2 p3 p4 p5 p6 p8 L32_1 p7 ih hk hq e)
def FX12_drawn (N : Nat) (s : iv_M) (q0 : Nat) (x1 : Int) (x2 : Int) (x3 : Int) (x4 : Int) (x5 : Int) : Option (Int × iv_M) := ((FX12_in N s x1 1 10).bind fun v_4425 => (if v_4425 = 0 then (FX12_drawn_b60 N s) else ((FX12_in N s x2 1 60).bind fun v_4427 => (if v_4427 = 0 then (FX12_drawn_b60 N s) else ((FX12_isRoom N s q0 x3).bind fun v_4429 => (if v_4429 = 0 then (FX12_drawn_b60 N s) else ((FX12_isRoom N s q0 x4).bind fun v_4431 => (if v_4431 = 0 then (FX12_drawn_b60 N s) else (if x3 = x4 then (FX12_drawn_b60 N s) else ((FX12_in N s x5 0 2).bind fun v_4434 => (if v_4434 = 0 then (FX12_drawn_b60 N s) else ((rd s (q0 + 1) 14 13).bind fun v_4436 => ((FX12_fillsFloor N s q0 (q0 + 41) 0).bind fun s_4438 => (FX12_drawn_l86 N q0 x1 x2 x3 x4 x5 v_4436 (fun (s_4439 : iv_M) (x4440_7 : Int) => ((wr s_4439 (q0 + 1) 14 13 v_4436).bind fun s_4441 => (some (x4440_7, s_4441)))) N s_4438 0 0))))))))))))))
set_option maxRecDepth 10000 in
set_option maxHeartbeats 4000000 in
theorem RX12_drawn {d N nc Ls : Nat} {Xs : Nat → Int32} (hd : 11 ≤ d) {h : iv_H} {s : iv_M} (hR : Rep nc Ls Xs h s) {q0 : Nat} (t0 : T12 nc q0) {m1 : Int32} {x1 : Int} (p1 : m1.toInt = x1) {m2 : Int32} {x2 : Int} (p2 : m2.toInt = x2) {m3 : Int32} {x3 : Int} (p3 : m3.toInt = x3) {m4 : Int32} {x4 : Int} (p4 : m4.toInt = x4) {m5 : Int32} {x5 : Int} (p5 : m5.toInt = x5) {r : Int × iv_M} {Q : Option Value → iv_H → Prop} (e : FX12_drawn N s q0 x1 x2 x3 x4 x5 = some r) (hq : ∀ (z : Int32) (h1 : iv_H), z.toInt = r.1 → Rep nc Ls Xs h1 r.2 → Q (some (.int z)) h1) : Cl d 343 [.ref q0, .int m1, .int m2, .int m3, .int m4, .int m5] h Q := by
  obtain ⟨d, rfl⟩ : ∃ k, d = k + 1 := ⟨d - 1, by omega⟩
  have hd : 10 ≤ d := by omega
  have hT := hX12_drawn
  unfold FX12_drawn at e
  refine Cl.into (by decide) gX12_drawn rfl ?_
  show Rn d 343 (some .int) 0 [some (.ref q0), some (.int m1), some (.int m2), some (.int m3), some (.int m4), some (.int m5), none, none, none, none] [] h Q
  refine Rn.n hT 4 (pc' := 6) (L' := [some (.ref q0), some (.int m1), some (.int m2), some (.int m3), some (.int m4), some (.int m5), none, none, none, none]) (st' := [.long (10 : Int64), .long (1 : Int64), .long ((m1).toInt64)]) rfl ?_
  obtain ⟨v_4425, e_4425, e⟩ := Option.bind_eq_some_iff.mp e
  refine Rn.call hT rfl rfl rfl (Nat.le_of_ble_eq_true rfl) rfl (RX12_in (by omega) hR (ti_j p1) L64_1 L64_10 e_4425 (fun z_4425 p_4425 => ?_))
  show Rn d _ _ 9 [some (.ref q0), some (.int m1), some (.int m2), some (.int m3), some (.int m4), some (.int m5), none, none, none, none] [.int z_4425] h Q
  by_cases c_4426 : v_4425 = 0
  · rw [if_pos c_4426] at e
    refine Rn.bt hT rfl rfl rfl (decide_eq_true ((ti_e p_4425 L32_0).mpr c_4426)) ?_
    exact Rn.weak (ll_n (ll_n (ll_n (ll_n (ll_n (ll_n (ll_n (ll_n (ll_n (ll_n ll_e)))))))))) (RX12_drawn_b60 hd hR hq e)
  · rw [if_neg c_4426] at e
    refine Rn.bf hT rfl rfl rfl (decide_eq_false (fun z => c_4426 ((ti_e p_4425 L32_0).mp z))) ?_
    refine Rn.n hT 4 (pc' := 18) (L' := [some (.ref q0), some (.int m1), some (.int m2), some (.int m3), some (.int m4), some (.int m5), none, none, none, none]) (st' := [.long (60 : Int64), .long (1 : Int64), .long ((m2).toInt64)]) rfl ?_
    obtain ⟨v_4427, e_4427, e⟩ := Option.bind_eq_some_iff.mp e
    refine Rn.call hT rfl rfl rfl (Nat.le_of_ble_eq_true rfl) rfl (RX12_in (by omega) hR (ti_j p2) L64_1 L64_60 e_4427 (fun z_4427 p_4427 => ?_))
    show Rn d _ _ 21 [some (.ref q0), some (.int m1), some (.int m2), some (.int m3), some (.int m4), some (.int m5), none, none, none, none] [.int z_4427] h Q
    by_cases c_4428 : v_4427 = 0
    · rw [if_pos c_4428] at e
      refine Rn.bt hT rfl rfl rfl (decide_eq_true ((ti_e p_4427 L32_0).mpr c_4428)) ?_
      exact Rn.weak (ll_n (ll_n (ll_n (ll_n (ll_n (ll_n (ll_n (ll_n (ll_n (ll_n ll_e)))))))))) (RX12_drawn_b60 hd hR hq e)
    · rw [if_neg c_4428] at e
      refine Rn.bf hT rfl rfl rfl (decide_eq_false (fun z => c_4428 ((ti_e p_4427 L32_0).mp z))) ?_
      refine Rn.n hT 2 (pc' := 26) (L' := [some (.ref q0), some (.int m1), some (.int m2), some (.int m3), some (.int m4), some (.int m5), none, none, none, none]) (st' := [.int m3, .ref q0]) rfl ?_
      obtain ⟨v_4429, e_4429, e⟩ := Option.bind_eq_some_iff.mp e
      refine Rn.call hT rfl rfl rfl (Nat.le_of_ble_eq_true rfl) (rcv_v gX12_isRoom (by omega) (rp_ck hR (T12_o t0))) (RX12_isRoom (by omega) hR t0 p3 e_4429 (fun z_4429 p_4429 => ?_))
      show Rn d _ _ 29 [some (.ref q0), some (.int m1), some (.int m2), some (.int m3), some (.int m4), some (.int m5), none, none, none, none] [.int z_4429] h Q
      by_cases c_4430 : v_4429 = 0
      · rw [if_pos c_4430] at e
        refine Rn.bt hT rfl rfl rfl (decide_eq_true ((ti_e p_4429 L32_0).mpr c_4430)) ?_
        exact Rn.weak (ll_n (ll_n (ll_n (ll_n (ll_n (ll_n (ll_n (ll_n (ll_n (ll_n ll_e)))))))))) (RX12_drawn_b60 hd hR hq e)
      · rw [if_neg c_4430] at e
        refine Rn.bf hT rfl rfl rfl (decide_eq_false (fun z => c_4430 ((ti_e p_4429 L32_0).mp z))) ?_
        refine Rn.n hT 2 (pc' := 35) (L' := [some (.ref q0), some (.int m1), some (.int m2), some (.int m3), some (.int m4), some (.int m5), none, none, none, none]) (st' := [.int m4, .ref q0]) rfl ?_
        obtain ⟨v_4431, e_4431, e⟩ := Option.bind_eq_some_iff.mp e
        refine Rn.call hT rfl rfl rfl (Nat.le_of_ble_eq_true rfl) (rcv_v gX12_isRoom (by omega) (rp_ck hR (T12_o t0))) (RX12_isRoom (by omega) hR t0 p4 e_4431 (fun z_4431 p_4431 => ?_))
        show Rn d _ _ 38 [some (.ref q0), some (.int m1), some (.int m2), some (.int m3), some (.int m4), some (.int m5), none, none, none, none] [.int z_4431] h Q
        by_cases c_4432 : v_4431 = 0
        · rw [if_pos c_4432] at e
          refine Rn.bt hT rfl rfl rfl (decide_eq_true ((ti_e p_4431 L32_0).mpr c_4432)) ?_
          exact Rn.weak (ll_n (ll_n (ll_n (ll_n (ll_n (ll_n (ll_n (ll_n (ll_n (ll_n ll_e)))))))))) (RX12_drawn_b60 hd hR hq e)
        · rw [if_neg c_4432] at e
          refine Rn.bf hT rfl rfl rfl (decide_eq_false (fun z => c_4432 ((ti_e p_4431 L32_0).mp z))) ?_
          refine Rn.n hT 2 (pc' := 44) (L' := [some (.ref q0), some (.int m1), some (.int m2), some (.int m3), some (.int m4), some (.int m5), none, none, none, none]) (st' := [.int m4, .int m3]) rfl ?_
          by_cases c_4433 : x3 = x4
          · rw [if_pos c_4433] at e
            refine Rn.bt hT rfl rfl rfl (decide_eq_true ((ti_e p3 p4).mpr c_4433)) ?_
            exact Rn.weak (ll_n (ll_n (ll_n (ll_n (ll_n (ll_n (ll_n (ll_n (ll_n (ll_n ll_e)))))))))) (RX12_drawn_b60 hd hR hq e)
          · rw [if_neg c_4433] at e
            refine Rn.bf hT rfl rfl rfl (decide_eq_false (fun z => c_4433 ((ti_e p3 p4).mp z))) ?_
            refine Rn.n hT 4 (pc' := 54) (L' := [some (.ref q0), some (.int m1), some (.int m2), some (.int m3), some (.int m4), some (.int m5), none, none, none, none]) (st' := [.long (2 : Int64), .long (0 : Int64), .long ((m5).toInt64)]) rfl ?_
            obtain ⟨v_4434, e_4434, e⟩ := Option.bind_eq_some_iff.mp e
            refine Rn.call hT rfl rfl rfl (Nat.le_of_ble_eq_true rfl) rfl (RX12_in (by omega) hR (ti_j p5) L64_0 L64_2 e_4434 (fun z_4434 p_4434 => ?_))
            show Rn d _ _ 57 [some (.ref q0), some (.int m1), some (.int m2), some (.int m3), some (.int m4), some (.int m5), none, none, none, none] [.int z_4434] h Q
            by_cases c_4435 : v_4434 = 0
            · rw [if_pos c_4435] at e
              refine Rn.bf hT rfl rfl rfl (decide_eq_false (fun z => z ((ti_e p_4434 L32_0).mpr c_4435))) ?_
              exact Rn.weak (ll_n (ll_n (ll_n (ll_n (ll_n (ll_n (ll_n (ll_n (ll_n (ll_n ll_e)))))))))) (RX12_drawn_b60 hd hR hq e)
            · rw [if_neg c_4435] at e
              refine Rn.bt hT rfl rfl rfl (decide_eq_true (fun z => c_4435 ((ti_e p_4434 L32_0).mp z))) ?_
              refine Rn.n hT 1 (pc' := 63) (L' := [some (.ref q0), some (.int m1), some (.int m2), some (.int m3), some (.int m4), some (.int m5), none, none, none, none]) (st' := [.ref q0]) rfl ?_
              refine Rn.hp hT rfl rfl (gR_hp (rp_gR hR (T12_o t0) rfl)) ?_
              refine Rn.n hT 1 (pc' := 68) (L' := [some (.ref q0), some (.int m1), some (.int m2), some (.int m3), some (.int m4), some (.int m5), none, none, none, none]) (st' := [.int (13 : Int32), .ref (q0 + 1)]) rfl ?_
              obtain ⟨v_4436, e_4436, e⟩ := Option.bind_eq_some_iff.mp e
              obtain ⟨z_4436, g_4436, p_4436⟩ := rp_aI hR (T12_1 t0) (T12_1l t0) L32_13 e_4436
              refine Rn.hp hT rfl rfl (aI_hp g_4436) ?_
              refine Rn.n hT 5 (pc' := 76) (L' := [some (.ref q0), some (.int m1), some (.int m2), some (.int m3), some (.int m4), some (.int m5), some (.int z_4436), some (.int (0 : Int32)), none, none]) (st' := [.ref q0, .ref q0]) rfl ?_
              refine Rn.hp hT rfl rfl (gR_hp (rp_gR hR (T12_o t0) rfl)) ?_
              refine Rn.n hT 1 (pc' := 80) (L' := [some (.ref q0), some (.int m1), some (.int m2), some (.int m3), some (.int m4), some (.int m5), some (.int z_4436), some (.int (0 : Int32)), none, none]) (st' := [.int (0 : Int32), .ref (q0 + 41), .ref q0]) rfl ?_
              obtain ⟨s_4438, e_4437, e⟩ := Option.bind_eq_some_iff.mp e
              refine Rn.call hT rfl rfl rfl (Nat.le_of_ble_eq_true rfl) (rcv_v gX12_fillsFloor (by omega) (rp_ck hR (T12_o t0))) (RX12_fillsFloor (by omega) hR t0 (T12_55 t0) L32_0 e_4437 (fun h_4438 R_4438 => ?_))
              show Rn d _ _ 83 [some (.ref q0), some (.int m1), some (.int m2), some (.int m3), some (.int m4), some (.int m5), some (.int z_4436), some (.int (0 : Int32)), none, none] [] h_4438 Q
              refine Rn.n hT 2 (pc' := 86) (L' := [some (.ref q0), some (.int m1), some (.int m2), some (.int m3), some (.int m4), some (.int m5), some (.int z_4436), some (.int (0 : Int32)), some (.int (0 : Int32)), none]) (st' := []) rfl ?_
              refine Rn.weak (ll_s (ll_s (ll_s (ll_s (ll_s (ll_s (ll_s (ll_s (ll_s (ll_n ll_e)))))))))) (RX12_drawn_l86 hd t0 p1 p2 p3 p4 p5 p_4436 (fun h_4439 s_4439 R_4439 m4440_7 x4440_7 p4440_7 e => ?_) hq N h_4438 s_4438 R_4438 (0 : Int32) 0 L32_0 (0 : Int32) 0 L32_0 e)
              try dsimp only at e
              refine Rn.n hT 1 (pc' := 158) (L' := [some (.ref q0), none, none, none, none, none, some (.int z_4436), some (.int m4440_7), none, none]) (st' := [.ref q0]) rfl ?_
              refine Rn.hp hT rfl rfl (gR_hp (rp_gR R_4439 (T12_o t0) rfl)) ?_
              refine Rn.n hT 2 (pc' := 165) (L' := [some (.ref q0), none, none, none, none, none, some (.int z_4436), some (.int m4440_7), none, none]) (st' := [.int z_4436, .int (13 : Int32), .ref (q0 + 1)]) rfl ?_
              obtain ⟨s_4441, e_4442, e⟩ := Option.bind_eq_some_iff.mp e
              obtain ⟨h_4441, g_4442, R_4441⟩ := rp_wI R_4439 (T12_1 t0) (T12_1l t0) L32_13 p_4436 e_4442
              refine Rn.hp hT rfl rfl (wI_hp g_4442) ?_
              refine Rn.n hT 1 (pc' := 168) (L' := [some (.ref q0), none, none, none, none, none, some (.int z_4436), some (.int m4440_7), none, none]) (st' := [.int m4440_7]) rfl ?_
              obtain rfl := Option.some.inj e
              exact Rn.ret hT rfl rfl rfl (hq m4440_7 h_4441 p4440_7 R_4441)
set_option maxRecDepth 10000 in
theorem hX12_count : iv_Tb 344 tX12_count := iv_tb_of (m := mX12_count) rfl
set_option maxRecDepth 10000 in
theorem gX12_count : PG.2 344 = some mX12_count := iv_pi_of (t := tX12_count) rfl (by decide)
def FX12_count (N : Nat) (s : iv_M) (q0 : Nat) (x1 : Int) : Option (Int) := (if x1 = 0 then ((rd s (q0 + 1) 14 0).bind fun v_4455 => (some v_4455)) else (if x1 = 1 then ((rd s (q0 + 1) 14 1).bind fun v_4457 => (some v_4457)) else (if x1 = 2 then ((rd s (q0 + 1) 14 2).bind fun v_4459 => (some v_4459)) else (if x1 = 3 then ((rd s (q0 + 1) 14 3).bind fun v_4461 => (some v_4461)) else (if x1 = 4 then ((rd s (q0 + 1) 14 4).bind fun v_4463 => (some v_4463)) else (if x1 = 5 then ((rd s (q0 + 1) 14 5).bind fun v_4465 => (some v_4465)) else (if x1 = 6 then (some (s q0 32)) else (if x1 = 7 then ((rd s (q0 + 1) 14 12).bind fun v_4469 => (some v_4469)) else (if x1 = 8 then ((rd s (q0 + 1) 14 6).bind fun v_4471 => (some v_4471)) else (if x1 = 9 then ((rd s (q0 + 1) 14 7).bind fun v_4473 => (some v_4473)) else (if x1 = 10 then ((rd s (q0 + 1) 14 8).bind fun v_4475 => (some v_4475)) else (if x1 = 11 then ((rd s (q0 + 1) 14 9).bind fun v_4477 => (some v_4477)) else (if x1 = 12 then ((rd s (q0 + 1) 14 10).bind fun v_4479 => (some v_4479)) else (if x1 = 13 then ((rd s (q0 + 1) 14 13).bind fun v_4481 => (some v_4481)) else (if x1 = 14 then (some (s q0 28)) else (if x1 = 15 then ((FX12_emptyMany N s q0).bind fun v_4485 => (some v_4485)) else (if x1 = 16 then ((rd s (q0 + 1) 14 11).bind fun v_4487 => (some v_4487)) else (some (-1)))))))))))))))))))
set_option maxRecDepth 10000 in
set_option maxHeartbeats 4000000 in
theorem RX12_count {d N nc Ls : Nat} {Xs : Nat → Int32} (hd : 2 ≤ d) {h : iv_H} {s : iv_M} (hR : Rep nc Ls Xs h s) {q0 : Nat} (t0 : T12 nc q0) {m1 : Int32} {x1 : Int} (p1 : m1.toInt = x1) {r : Int} {Q : Option Value → iv_H → Prop} (e : FX12_count N s q0 x1 = some r) (hq : ∀ (z : Int32), z.toInt = r → Q (some (.int z)) h) : Cl d 344 [.ref q0, .int m1] h Q := by
  obtain ⟨d, rfl⟩ : ∃ k, d = k + 1 := ⟨d - 1, by omega⟩
  have hd : 1 ≤ d := by omega
  have hT := hX12_count
  unfold FX12_count at e
  refine Cl.into (by decide) gX12_count rfl ?_
  show Rn d 344 (some .int) 0 [some (.ref q0), some (.int m1)] [] h Q
  refine Rn.n hT 1 (pc' := 1) (L' := [some (.ref q0), some (.int m1)]) (st' := [.int m1]) rfl ?_
  by_cases c_4454 : x1 = 0
  · rw [if_pos c_4454] at e
    refine Rn.sw2 hT rfl rfl rfl (if_pos ((ti_e p1 L32_0).mpr c_4454)) ?_
    refine Rn.n hT 1 (pc' := 85) (L' := [some (.ref q0), some (.int m1)]) (st' := [.ref q0]) rfl ?_
    refine Rn.hp hT rfl rfl (gR_hp (rp_gR hR (T12_o t0) rfl)) ?_
    refine Rn.n hT 1 (pc' := 89) (L' := [some (.ref q0), some (.int m1)]) (st' := [.int (0 : Int32), .ref (q0 + 1)]) rfl ?_
    obtain ⟨v_4455, e_4455, e⟩ := Option.bind_eq_some_iff.mp e
    obtain ⟨z_4455, g_4455, p_4455⟩ := rp_aI hR (T12_1 t0) (T12_1l t0) L32_0 e_4455
    refine Rn.hp hT rfl rfl (aI_hp g_4455) ?_
    obtain rfl := Option.some.inj e
    exact Rn.ret hT rfl rfl rfl (hq z_4455 p_4455)
  · rw [if_neg c_4454] at e
    by_cases c_4456 : x1 = 1
    · rw [if_pos c_4456] at e
      refine Rn.sw2 hT rfl rfl rfl ((if_neg (fun z => c_4454 ((ti_e p1 L32_0).mp z))).trans (if_pos ((ti_e p1 L32_1).mpr c_4456))) ?_
      refine Rn.n hT 1 (pc' := 92) (L' := [some (.ref q0), some (.int m1)]) (st' := [.ref q0]) rfl ?_
      refine Rn.hp hT rfl rfl (gR_hp (rp_gR hR (T12_o t0) rfl)) ?_
      refine Rn.n hT 1 (pc' := 96) (L' := [some (.ref q0), some (.int m1)]) (st' := [.int (1 : Int32), .ref (q0 + 1)]) rfl ?_
      obtain ⟨v_4457, e_4457, e⟩ := Option.bind_eq_some_iff.mp e
      obtain ⟨z_4457, g_4457, p_4457⟩ := rp_aI hR (T12_1 t0) (T12_1l t0) L32_1 e_4457
      refine Rn.hp hT rfl rfl (aI_hp g_4457) ?_
      obtain rfl := Option.some.inj e
      exact Rn.ret hT rfl rfl rfl (hq z_4457 p_4457)
    · rw [if_neg c_4456] at e
      by_cases c_4458 : x1 = 2
      · rw [if_pos c_4458] at e
        refine Rn.sw2 hT rfl rfl rfl ((if_neg (fun z => c_4454 ((ti_e p1 L32_0).mp z))).trans ((if_neg (fun z => c_4456 ((ti_e p1 L32_1).mp z))).trans (if_pos ((ti_e p1 L32_2).mpr c_4458)))) ?_
        refine Rn.n hT 1 (pc' := 99) (L' := [some (.ref q0), some (.int m1)]) (st' := [.ref q0]) rfl ?_
        refine Rn.hp hT rfl rfl (gR_hp (rp_gR hR (T12_o t0) rfl)) ?_
        refine Rn.n hT 1 (pc' := 103) (L' := [some (.ref q0), some (.int m1)]) (st' := [.int (2 : Int32), .ref (q0 + 1)]) rfl ?_
        obtain ⟨v_4459, e_4459, e⟩ := Option.bind_eq_some_iff.mp e
        obtain ⟨z_4459, g_4459, p_4459⟩ := rp_aI hR (T12_1 t0) (T12_1l t0) L32_2 e_4459
        refine Rn.hp hT rfl rfl (aI_hp g_4459) ?_
        obtain rfl := Option.some.inj e
        exact Rn.ret hT rfl rfl rfl (hq z_4459 p_4459)
      · rw [if_neg c_4458] at e
        by_cases c_4460 : x1 = 3
        · rw [if_pos c_4460] at e
          refine Rn.sw2 hT rfl rfl rfl ((if_neg (fun z => c_4454 ((ti_e p1 L32_0).mp z))).trans ((if_neg (fun z => c_4456 ((ti_e p1 L32_1).mp z))).trans ((if_neg (fun z => c_4458 ((ti_e p1 L32_2).mp z))).trans (if_pos ((ti_e p1 L32_3).mpr c_4460))))) ?_
          refine Rn.n hT 1 (pc' := 106) (L' := [some (.ref q0), some (.int m1)]) (st' := [.ref q0]) rfl ?_
          refine Rn.hp hT rfl rfl (gR_hp (rp_gR hR (T12_o t0) rfl)) ?_
          refine Rn.n hT 1 (pc' := 110) (L' := [some (.ref q0), some (.int m1)]) (st' := [.int (3 : Int32), .ref (q0 + 1)]) rfl ?_
          obtain ⟨v_4461, e_4461, e⟩ := Option.bind_eq_some_iff.mp e
          obtain ⟨z_4461, g_4461, p_4461⟩ := rp_aI hR (T12_1 t0) (T12_1l t0) L32_3 e_4461
          refine Rn.hp hT rfl rfl (aI_hp g_4461) ?_
          obtain rfl := Option.some.inj e
          exact Rn.ret hT rfl rfl rfl (hq z_4461 p_4461)
        · rw [if_neg c_4460] at e
          by_cases c_4462 : x1 = 4
          · rw [if_pos c_4462] at e
            refine Rn.sw2 hT rfl rfl rfl ((if_neg (fun z => c_4454 ((ti_e p1 L32_0).mp z))).trans ((if_neg (fun z => c_4456 ((ti_e p1 L32_1).mp z))).trans ((if_neg (fun z => c_4458 ((ti_e p1 L32_2).mp z))).trans ((if_neg (fun z => c_4460 ((ti_e p1 L32_3).mp z))).trans (if_pos ((ti_e p1 L32_4).mpr c_4462)))))) ?_
            refine Rn.n hT 1 (pc' := 113) (L' := [some (.ref q0), some (.int m1)]) (st' := [.ref q0]) rfl ?_
            refine Rn.hp hT rfl rfl (gR_hp (rp_gR hR (T12_o t0) rfl)) ?_
            refine Rn.n hT 1 (pc' := 117) (L' := [some (.ref q0), some (.int m1)]) (st' := [.int (4 : Int32), .ref (q0 + 1)]) rfl ?_
            obtain ⟨v_4463, e_4463, e⟩ := Option.bind_eq_some_iff.mp e
            obtain ⟨z_4463, g_4463, p_4463⟩ := rp_aI hR (T12_1 t0) (T12_1l t0) L32_4 e_4463
            refine Rn.hp hT rfl rfl (aI_hp g_4463) ?_
            obtain rfl := Option.some.inj e
            exact Rn.ret hT rfl rfl rfl (hq z_4463 p_4463)
          · rw [if_neg c_4462] at e
            by_cases c_4464 : x1 = 5
            · rw [if_pos c_4464] at e
              refine Rn.sw2 hT rfl rfl rfl ((if_neg (fun z => c_4454 ((ti_e p1 L32_0).mp z))).trans ((if_neg (fun z => c_4456 ((ti_e p1 L32_1).mp z))).trans ((if_neg (fun z => c_4458 ((ti_e p1 L32_2).mp z))).trans ((if_neg (fun z => c_4460 ((ti_e p1 L32_3).mp z))).trans ((if_neg (fun z => c_4462 ((ti_e p1 L32_4).mp z))).trans (if_pos ((ti_e p1 L32_5).mpr c_4464))))))) ?_
              refine Rn.n hT 1 (pc' := 120) (L' := [some (.ref q0), some (.int m1)]) (st' := [.ref q0]) rfl ?_
              refine Rn.hp hT rfl rfl (gR_hp (rp_gR hR (T12_o t0) rfl)) ?_
              refine Rn.n hT 1 (pc' := 124) (L' := [some (.ref q0), some (.int m1)]) (st' := [.int (5 : Int32), .ref (q0 + 1)]) rfl ?_
              obtain ⟨v_4465, e_4465, e⟩ := Option.bind_eq_some_iff.mp e
              obtain ⟨z_4465, g_4465, p_4465⟩ := rp_aI hR (T12_1 t0) (T12_1l t0) L32_5 e_4465
              refine Rn.hp hT rfl rfl (aI_hp g_4465) ?_
              obtain rfl := Option.some.inj e
              exact Rn.ret hT rfl rfl rfl (hq z_4465 p_4465)
            · rw [if_neg c_4464] at e
              by_cases c_4466 : x1 = 6
              · rw [if_pos c_4466] at e
                refine Rn.sw2 hT rfl rfl rfl ((if_neg (fun z => c_4454 ((ti_e p1 L32_0).mp z))).trans ((if_neg (fun z => c_4456 ((ti_e p1 L32_1).mp z))).trans ((if_neg (fun z => c_4458 ((ti_e p1 L32_2).mp z))).trans ((if_neg (fun z => c_4460 ((ti_e p1 L32_3).mp z))).trans ((if_neg (fun z => c_4462 ((ti_e p1 L32_4).mp z))).trans ((if_neg (fun z => c_4464 ((ti_e p1 L32_5).mp z))).trans (if_pos ((ti_e p1 L32_6).mpr c_4466)))))))) ?_
                refine Rn.n hT 1 (pc' := 127) (L' := [some (.ref q0), some (.int m1)]) (st' := [.ref q0]) rfl ?_
                obtain ⟨z_4467, g_4467, p_4467⟩ : ∃ z : Int32, gI h 12 32 q0 = some z ∧ z.toInt = s q0 32 := rp_gI (k := 32) hR (T12_o t0) rfl
                refine Rn.hp hT rfl rfl (gI_hp g_4467) ?_
                obtain rfl := Option.some.inj e
                exact Rn.ret hT rfl rfl rfl (hq z_4467 p_4467)
              · rw [if_neg c_4466] at e
                by_cases c_4468 : x1 = 7
                · rw [if_pos c_4468] at e
                  refine Rn.sw2 hT rfl rfl rfl ((if_neg (fun z => c_4454 ((ti_e p1 L32_0).mp z))).trans ((if_neg (fun z => c_4456 ((ti_e p1 L32_1).mp z))).trans ((if_neg (fun z => c_4458 ((ti_e p1 L32_2).mp z))).trans ((if_neg (fun z => c_4460 ((ti_e p1 L32_3).mp z))).trans ((if_neg (fun z => c_4462 ((ti_e p1 L32_4).mp z))).trans ((if_neg (fun z => c_4464 ((ti_e p1 L32_5).mp z))).trans ((if_neg (fun z => c_4466 ((ti_e p1 L32_6).mp z))).trans (if_pos ((ti_e p1 L32_7).mpr c_4468))))))))) ?_
                  refine Rn.n hT 1 (pc' := 132) (L' := [some (.ref q0), some (.int m1)]) (st' := [.ref q0]) rfl ?_
                  refine Rn.hp hT rfl rfl (gR_hp (rp_gR hR (T12_o t0) rfl)) ?_
                  refine Rn.n hT 1 (pc' := 137) (L' := [some (.ref q0), some (.int m1)]) (st' := [.int (12 : Int32), .ref (q0 + 1)]) rfl ?_
                  obtain ⟨v_4469, e_4469, e⟩ := Option.bind_eq_some_iff.mp e
                  obtain ⟨z_4469, g_4469, p_4469⟩ := rp_aI hR (T12_1 t0) (T12_1l t0) L32_12 e_4469
                  refine Rn.hp hT rfl rfl (aI_hp g_4469) ?_
                  obtain rfl := Option.some.inj e
                  exact Rn.ret hT rfl rfl rfl (hq z_4469 p_4469)
                · rw [if_neg c_4468] at e
                  by_cases c_4470 : x1 = 8
                  · rw [if_pos c_4470] at e
                    refine Rn.sw2 hT rfl rfl rfl ((if_neg (fun z => c_4454 ((ti_e p1 L32_0).mp z))).trans ((if_neg (fun z => c_4456 ((ti_e p1 L32_1).mp z))).trans ((if_neg (fun z => c_4458 ((ti_e p1 L32_2).mp z))).trans ((if_neg (fun z => c_4460 ((ti_e p1 L32_3).mp z))).trans ((if_neg (fun z => c_4462 ((ti_e p1 L32_4).mp z))).trans ((if_neg (fun z => c_4464 ((ti_e p1 L32_5).mp z))).trans ((if_neg (fun z => c_4466 ((ti_e p1 L32_6).mp z))).trans ((if_neg (fun z => c_4468 ((ti_e p1 L32_7).mp z))).trans (if_pos ((ti_e p1 L32_8).mpr c_4470)))))))))) ?_
                    refine Rn.n hT 1 (pc' := 140) (L' := [some (.ref q0), some (.int m1)]) (st' := [.ref q0]) rfl ?_
                    refine Rn.hp hT rfl rfl (gR_hp (rp_gR hR (T12_o t0) rfl)) ?_
                    refine Rn.n hT 1 (pc' := 145) (L' := [some (.ref q0), some (.int m1)]) (st' := [.int (6 : Int32), .ref (q0 + 1)]) rfl ?_
                    obtain ⟨v_4471, e_4471, e⟩ := Option.bind_eq_some_iff.mp e
                    obtain ⟨z_4471, g_4471, p_4471⟩ := rp_aI hR (T12_1 t0) (T12_1l t0) L32_6 e_4471
                    refine Rn.hp hT rfl rfl (aI_hp g_4471) ?_
                    obtain rfl := Option.some.inj e
                    exact Rn.ret hT rfl rfl rfl (hq z_4471 p_4471)
                  · rw [if_neg c_4470] at e
                    by_cases c_4472 : x1 = 9
                    · rw [if_pos c_4472] at e
                      refine Rn.sw2 hT rfl rfl rfl ((if_neg (fun z => c_4454 ((ti_e p1 L32_0).mp z))).trans ((if_neg (fun z => c_4456 ((ti_e p1 L32_1).mp z))).trans ((if_neg (fun z => c_4458 ((ti_e p1 L32_2).mp z))).trans ((if_neg (fun z => c_4460 ((ti_e p1 L32_3).mp z))).trans ((if_neg (fun z => c_4462 ((ti_e p1 L32_4).mp z))).trans ((if_neg (fun z => c_4464 ((ti_e p1 L32_5).mp z))).trans ((if_neg (fun z => c_4466 ((ti_e p1 L32_6).mp z))).trans ((if_neg (fun z => c_4468 ((ti_e p1 L32_7).mp z))).trans ((if_neg (fun z => c_4470 ((ti_e p1 L32_8).mp z))).trans (if_pos ((ti_e p1 L32_9).mpr c_4472))))))))))) ?_
                      refine Rn.n hT 1 (pc' := 148) (L' := [some (.ref q0), some (.int m1)]) (st' := [.ref q0]) rfl ?_
                      refine Rn.hp hT rfl rfl (gR_hp (rp_gR hR (T12_o t0) rfl)) ?_
                      refine Rn.n hT 1 (pc' := 153) (L' := [some (.ref q0), some (.int m1)]) (st' := [.int (7 : Int32), .ref (q0 + 1)]) rfl ?_
                      obtain ⟨v_4473, e_4473, e⟩ := Option.bind_eq_some_iff.mp e
                      obtain ⟨z_4473, g_4473, p_4473⟩ := rp_aI hR (T12_1 t0) (T12_1l t0) L32_7 e_4473
                      refine Rn.hp hT rfl rfl (aI_hp g_4473) ?_
                      obtain rfl := Option.some.inj e
                      exact Rn.ret hT rfl rfl rfl (hq z_4473 p_4473)
                    · rw [if_neg c_4472] at e
                      by_cases c_4474 : x1 = 10
                      · rw [if_pos c_4474] at e
                        refine Rn.sw2 hT rfl rfl rfl ((if_neg (fun z => c_4454 ((ti_e p1 L32_0).mp z))).trans ((if_neg (fun z => c_4456 ((ti_e p1 L32_1).mp z))).trans ((if_neg (fun z => c_4458 ((ti_e p1 L32_2).mp z))).trans ((if_neg (fun z => c_4460 ((ti_e p1 L32_3).mp z))).trans ((if_neg (fun z => c_4462 ((ti_e p1 L32_4).mp z))).trans ((if_neg (fun z => c_4464 ((ti_e p1 L32_5).mp z))).trans ((if_neg (fun z => c_4466 ((ti_e p1 L32_6).mp z))).trans ((if_neg (fun z => c_4468 ((ti_e p1 L32_7).mp z))).trans ((if_neg (fun z => c_4470 ((ti_e p1 L32_8).mp z))).trans ((if_neg (fun z => c_4472 ((ti_e p1 L32_9).mp z))).trans (if_pos ((ti_e p1 L32_10).mpr c_4474)))))))))))) ?_
                        refine Rn.n hT 1 (pc' := 156) (L' := [some (.ref q0), some (.int m1)]) (st' := [.ref q0]) rfl ?_
                        refine Rn.hp hT rfl rfl (gR_hp (rp_gR hR (T12_o t0) rfl)) ?_
                        refine Rn.n hT 1 (pc' := 161) (L' := [some (.ref q0), some (.int m1)]) (st' := [.int (8 : Int32), .ref (q0 + 1)]) rfl ?_
                        obtain ⟨v_4475, e_4475, e⟩ := Option.bind_eq_some_iff.mp e
                        obtain ⟨z_4475, g_4475, p_4475⟩ := rp_aI hR (T12_1 t0) (T12_1l t0) L32_8 e_4475
                        refine Rn.hp hT rfl rfl (aI_hp g_4475) ?_
                        obtain rfl := Option.some.inj e
                        exact Rn.ret hT rfl rfl rfl (hq z_4475 p_4475)
                      · rw [if_neg c_4474] at e
                        by_cases c_4476 : x1 = 11
                        · rw [if_pos c_4476] at e
                          refine Rn.sw2 hT rfl rfl rfl ((if_neg (fun z => c_4454 ((ti_e p1 L32_0).mp z))).trans ((if_neg (fun z => c_4456 ((ti_e p1 L32_1).mp z))).trans ((if_neg (fun z => c_4458 ((ti_e p1 L32_2).mp z))).trans ((if_neg (fun z => c_4460 ((ti_e p1 L32_3).mp z))).trans ((if_neg (fun z => c_4462 ((ti_e p1 L32_4).mp z))).trans ((if_neg (fun z => c_4464 ((ti_e p1 L32_5).mp z))).trans ((if_neg (fun z => c_4466 ((ti_e p1 L32_6).mp z))).trans ((if_neg (fun z => c_4468 ((ti_e p1 L32_7).mp z))).trans ((if_neg (fun z => c_4470 ((ti_e p1 L32_8).mp z))).trans ((if_neg (fun z => c_4472 ((ti_e p1 L32_9).mp z))).trans ((if_neg (fun z => c_4474 ((ti_e p1 L32_10).mp z))).trans (if_pos ((ti_e p1 L32_11).mpr c_4476))))))))))))) ?_
                          refine Rn.n hT 1 (pc' := 164) (L' := [some (.ref q0), some (.int m1)]) (st' := [.ref q0]) rfl ?_
                          refine Rn.hp hT rfl rfl (gR_hp (rp_gR hR (T12_o t0) rfl)) ?_
                          refine Rn.n hT 1 (pc' := 169) (L' := [some (.ref q0), some (.int m1)]) (st' := [.int (9 : Int32), .ref (q0 + 1)]) rfl ?_
                          obtain ⟨v_4477, e_4477, e⟩ := Option.bind_eq_some_iff.mp e
                          obtain ⟨z_4477, g_4477, p_4477⟩ := rp_aI hR (T12_1 t0) (T12_1l t0) L32_9 e_4477
                          refine Rn.hp hT rfl rfl (aI_hp g_4477) ?_
                          obtain rfl := Option.some.inj e
                          exact Rn.ret hT rfl rfl rfl (hq z_4477 p_4477)
                        · rw [if_neg c_4476] at e
                          by_cases c_4478 : x1 = 12
                          · rw [if_pos c_4478] at e
                            refine Rn.sw2 hT rfl rfl rfl ((if_neg (fun z => c_4454 ((ti_e p1 L32_0).mp z))).trans ((if_neg (fun z => c_4456 ((ti_e p1 L32_1).mp z))).trans ((if_neg (fun z => c_4458 ((ti_e p1 L32_2).mp z))).trans ((if_neg (fun z => c_4460 ((ti_e p1 L32_3).mp z))).trans ((if_neg (fun z => c_4462 ((ti_e p1 L32_4).mp z))).trans ((if_neg (fun z => c_4464 ((ti_e p1 L32_5).mp z))).trans ((if_neg (fun z => c_4466 ((ti_e p1 L32_6).mp z))).trans ((if_neg (fun z => c_4468 ((ti_e p1 L32_7).mp z))).trans ((if_neg (fun z => c_4470 ((ti_e p1 L32_8).mp z))).trans ((if_neg (fun z => c_4472 ((ti_e p1 L32_9).mp z))).trans ((if_neg (fun z => c_4474 ((ti_e p1 L32_10).mp z))).trans ((if_neg (fun z => c_4476 ((ti_e p1 L32_11).mp z))).trans (if_pos ((ti_e p1 L32_12).mpr c_4478)))))))))))))) ?_
                            refine Rn.n hT 1 (pc' := 172) (L' := [some (.ref q0), some (.int m1)]) (st' := [.ref q0]) rfl ?_
                            refine Rn.hp hT rfl rfl (gR_hp (rp_gR hR (T12_o t0) rfl)) ?_
                            refine Rn.n hT 1 (pc' := 177) (L' := [some (.ref q0), some (.int m1)]) (st' := [.int (10 : Int32), .ref (q0 + 1)]) rfl ?_
                            obtain ⟨v_4479, e_4479, e⟩ := Option.bind_eq_some_iff.mp e
                            obtain ⟨z_4479, g_4479, p_4479⟩ := rp_aI hR (T12_1 t0) (T12_1l t0) L32_10 e_4479
                            refine Rn.hp hT rfl rfl (aI_hp g_4479) ?_
                            obtain rfl := Option.some.inj e
                            exact Rn.ret hT rfl rfl rfl (hq z_4479 p_4479)
                          · rw [if_neg c_4478] at e
                            by_cases c_4480 : x1 = 13
                            · rw [if_pos c_4480] at e
                              refine Rn.sw2 hT rfl rfl rfl ((if_neg (fun z => c_4454 ((ti_e p1 L32_0).mp z))).trans ((if_neg (fun z => c_4456 ((ti_e p1 L32_1).mp z))).trans ((if_neg (fun z => c_4458 ((ti_e p1 L32_2).mp z))).trans ((if_neg (fun z => c_4460 ((ti_e p1 L32_3).mp z))).trans ((if_neg (fun z => c_4462 ((ti_e p1 L32_4).mp z))).trans ((if_neg (fun z => c_4464 ((ti_e p1 L32_5).mp z))).trans ((if_neg (fun z => c_4466 ((ti_e p1 L32_6).mp z))).trans ((if_neg (fun z => c_4468 ((ti_e p1 L32_7).mp z))).trans ((if_neg (fun z => c_4470 ((ti_e p1 L32_8).mp z))).trans ((if_neg (fun z => c_4472 ((ti_e p1 L32_9).mp z))).trans ((if_neg (fun z => c_4474 ((ti_e p1 L32_10).mp z))).trans ((if_neg (fun z => c_4476 ((ti_e p1 L32_11).mp z))).trans ((if_neg (fun z => c_4478 ((ti_e p1 L32_12).mp z))).trans (if_pos ((ti_e p1 L32_13).mpr c_4480))))))))))))))) ?_
                              refine Rn.n hT 1 (pc' := 180) (L' := [some (.ref q0), some (.int m1)]) (st' := [.ref q0]) rfl ?_
                              refine Rn.hp hT rfl rfl (gR_hp (rp_gR hR (T12_o t0) rfl)) ?_
                              refine Rn.n hT 1 (pc' := 185) (L' := [some (.ref q0), some (.int m1)]) (st' := [.int (13 : Int32), .ref (q0 + 1)]) rfl ?_
                              obtain ⟨v_4481, e_4481, e⟩ := Option.bind_eq_some_iff.mp e
                              obtain ⟨z_4481, g_4481, p_4481⟩ := rp_aI hR (T12_1 t0) (T12_1l t0) L32_13 e_4481
                              refine Rn.hp hT rfl rfl (aI_hp g_4481) ?_
                              obtain rfl := Option.some.inj e
                              exact Rn.ret hT rfl rfl rfl (hq z_4481 p_4481)
                            · rw [if_neg c_4480] at e
                              by_cases c_4482 : x1 = 14
                              · rw [if_pos c_4482] at e
                                refine Rn.sw2 hT rfl rfl rfl ((if_neg (fun z => c_4454 ((ti_e p1 L32_0).mp z))).trans ((if_neg (fun z => c_4456 ((ti_e p1 L32_1).mp z))).trans ((if_neg (fun z => c_4458 ((ti_e p1 L32_2).mp z))).trans ((if_neg (fun z => c_4460 ((ti_e p1 L32_3).mp z))).trans ((if_neg (fun z => c_4462 ((ti_e p1 L32_4).mp z))).trans ((if_neg (fun z => c_4464 ((ti_e p1 L32_5).mp z))).trans ((if_neg (fun z => c_4466 ((ti_e p1 L32_6).mp z))).trans ((if_neg (fun z => c_4468 ((ti_e p1 L32_7).mp z))).trans ((if_neg (fun z => c_4470 ((ti_e p1 L32_8).mp z))).trans ((if_neg (fun z => c_4472 ((ti_e p1 L32_9).mp z))).trans ((if_neg (fun z => c_4474 ((ti_e p1 L32_10).mp z))).trans ((if_neg (fun z => c_4476 ((ti_e p1 L32_11).mp z))).trans ((if_neg (fun z => c_4478 ((ti_e p1 L32_12).mp z))).trans ((if_neg (fun z => c_4480 ((ti_e p1 L32_13).mp z))).trans (if_pos ((ti_e p1 L32_14).mpr c_4482)))))))))))))))) ?_
                                refine Rn.n hT 1 (pc' := 188) (L' := [some (.ref q0), some (.int m1)]) (st' := [.ref q0]) rfl ?_
                                obtain ⟨z_4483, g_4483, p_4483⟩ : ∃ z : Int32, gI h 12 28 q0 = some z ∧ z.toInt = s q0 28 := rp_gI (k := 28) hR (T12_o t0) rfl
                                refine Rn.hp hT rfl rfl (gI_hp g_4483) ?_
                                obtain rfl := Option.some.inj e
                                exact Rn.ret hT rfl rfl rfl (hq z_4483 p_4483)
                              · rw [if_neg c_4482] at e
                                by_cases c_4484 : x1 = 15
                                · rw [if_pos c_4484] at e
                                  refine Rn.sw2 hT rfl rfl rfl ((if_neg (fun z => c_4454 ((ti_e p1 L32_0).mp z))).trans ((if_neg (fun z => c_4456 ((ti_e p1 L32_1).mp z))).trans ((if_neg (fun z => c_4458 ((ti_e p1 L32_2).mp z))).trans ((if_neg (fun z => c_4460 ((ti_e p1 L32_3).mp z))).trans ((if_neg (fun z => c_4462 ((ti_e p1 L32_4).mp z))).trans ((if_neg (fun z => c_4464 ((ti_e p1 L32_5).mp z))).trans ((if_neg (fun z => c_4466 ((ti_e p1 L32_6).mp z))).trans ((if_neg (fun z => c_4468 ((ti_e p1 L32_7).mp z))).trans ((if_neg (fun z => c_4470 ((ti_e p1 L32_8).mp z))).trans ((if_neg (fun z => c_4472 ((ti_e p1 L32_9).mp z))).trans ((if_neg (fun z => c_4474 ((ti_e p1 L32_10).mp z))).trans ((if_neg (fun z => c_4476 ((ti_e p1 L32_11).mp z))).trans ((if_neg (fun z => c_4478 ((ti_e p1 L32_12).mp z))).trans ((if_neg (fun z => c_4480 ((ti_e p1 L32_13).mp z))).trans ((if_neg (fun z => c_4482 ((ti_e p1 L32_14).mp z))).trans (if_pos ((ti_e p1 L32_15).mpr c_4484))))))))))))))))) ?_
                                  refine Rn.n hT 1 (pc' := 193) (L' := [some (.ref q0), some (.int m1)]) (st' := [.ref q0]) rfl ?_
                                  obtain ⟨v_4485, e_4485, e⟩ := Option.bind_eq_some_iff.mp e
                                  refine Rn.call hT rfl rfl rfl (Nat.le_of_ble_eq_true rfl) (rcv_v gX12_emptyMany (by omega) (rp_ck hR (T12_o t0))) (RX12_emptyMany (by omega) hR t0 e_4485 (fun z_4485 p_4485 => ?_))
                                  show Rn d _ _ 196 [some (.ref q0), some (.int m1)] [.int z_4485] h Q
                                  obtain rfl := Option.some.inj e
                                  exact Rn.ret hT rfl rfl rfl (hq z_4485 p_4485)
                                · rw [if_neg c_4484] at e
                                  by_cases c_4486 : x1 = 16
                                  · rw [if_pos c_4486] at e
                                    refine Rn.sw2 hT rfl rfl rfl ((if_neg (fun z => c_4454 ((ti_e p1 L32_0).mp z))).trans ((if_neg (fun z => c_4456 ((ti_e p1 L32_1).mp z))).trans ((if_neg (fun z => c_4458 ((ti_e p1 L32_2).mp z))).trans ((if_neg (fun z => c_4460 ((ti_e p1 L32_3).mp z))).trans ((if_neg (fun z => c_4462 ((ti_e p1 L32_4).mp z))).trans ((if_neg (fun z => c_4464 ((ti_e p1 L32_5).mp z))).trans ((if_neg (fun z => c_4466 ((ti_e p1 L32_6).mp z))).trans ((if_neg (fun z => c_4468 ((ti_e p1 L32_7).mp z))).trans ((if_neg (fun z => c_4470 ((ti_e p1 L32_8).mp z))).trans ((if_neg (fun z => c_4472 ((ti_e p1 L32_9).mp z))).trans ((if_neg (fun z => c_4474 ((ti_e p1 L32_10).mp z))).trans ((if_neg (fun z => c_4476 ((ti_e p1 L32_11).mp z))).trans ((if_neg (fun z => c_4478 ((ti_e p1 L32_12).mp z))).trans ((if_neg (fun z => c_4480 ((ti_e p1 L32_13).mp z))).trans ((if_neg (fun z => c_4482 ((ti_e p1 L32_14).mp z))).trans ((if_neg (fun z => c_4484 ((ti_e p1 L32_15).mp z))).trans (if_pos ((ti_e p1 L32_16).mpr c_4486)))))))))))))))))) ?_
                                    refine Rn.n hT 1 (pc' := 198) (L' := [some (.ref q0), some (.int m1)]) (st' := [.ref q0]) rfl ?_
                                    refine Rn.hp hT rfl rfl (gR_hp (rp_gR hR (T12_o t0) rfl)) ?_
                                    refine Rn.n hT 1 (pc' := 203) (L' := [some (.ref q0), some (.int m1)]) (st' := [.int (11 : Int32), .ref (q0 + 1)]) rfl ?_
                                    obtain ⟨v_4487, e_4487, e⟩ := Option.bind_eq_some_iff.mp e
                                    obtain ⟨z_4487, g_4487, p_4487⟩ := rp_aI hR (T12_1 t0) (T12_1l t0) L32_11 e_4487
                                    refine Rn.hp hT rfl rfl (aI_hp g_4487) ?_
                                    obtain rfl := Option.some.inj e
                                    exact Rn.ret hT rfl rfl rfl (hq z_4487 p_4487)
                                  · rw [if_neg c_4486] at e
                                    refine Rn.sw2 hT rfl rfl rfl ((if_neg (fun z => c_4454 ((ti_e p1 L32_0).mp z))).trans ((if_neg (fun z => c_4456 ((ti_e p1 L32_1).mp z))).trans ((if_neg (fun z => c_4458 ((ti_e p1 L32_2).mp z))).trans ((if_neg (fun z => c_4460 ((ti_e p1 L32_3).mp z))).trans ((if_neg (fun z => c_4462 ((ti_e p1 L32_4).mp z))).trans ((if_neg (fun z => c_4464 ((ti_e p1 L32_5).mp z))).trans ((if_neg (fun z => c_4466 ((ti_e p1 L32_6).mp z))).trans ((if_neg (fun z => c_4468 ((ti_e p1 L32_7).mp z))).trans ((if_neg (fun z => c_4470 ((ti_e p1 L32_8).mp z))).trans ((if_neg (fun z => c_4472 ((ti_e p1 L32_9).mp z))).trans ((if_neg (fun z => c_4474 ((ti_e p1 L32_10).mp z))).trans ((if_neg (fun z => c_4476 ((ti_e p1 L32_11).mp z))).trans ((if_neg (fun z => c_4478 ((ti_e p1 L32_12).mp z))).trans ((if_neg (fun z => c_4480 ((ti_e p1 L32_13).mp z))).trans ((if_neg (fun z => c_4482 ((ti_e p1 L32_14).mp z))).trans ((if_neg (fun z => c_4484 ((ti_e p1 L32_15).mp z))).trans ((if_neg (fun z => c_4486 ((ti_e p1 L32_16).mp z))).trans rfl))))))))))))))))) ?_
                                    refine Rn.n hT 1 (pc' := 206) (L' := [some (.ref q0), some (.int m1)]) (st' := [.int (-1 : Int32)]) rfl ?_
                                    obtain rfl := Option.some.inj e
                                    exact Rn.ret hT rfl rfl rfl (hq (-1 : Int32) L32_m1)
set_option maxRecDepth 10000 in
theorem hX12_carry : iv_Tb 345 tX12_carry := iv_tb_of (m := mX12_carry) rfl
set_option maxRecDepth 10000 in
theorem gX12_carry : PG.2 345 = some mX12_carry := iv_pi_of (t := tX12_carry) rfl (by decide)
def FX12_carry_b42 (N : Nat) (s : iv_M) (q0 : Nat) (q1 : Nat) (x2 : Int)  (kb : iv_M → Int → Option (iv_M)) (kx : iv_M → Option (iv_M)) : Option (iv_M) := ((pt s q0 81 (w32 ((s q0 81) + 1))).bind fun s_4503 => (kb s_4503 (w32 (x2 + 1))))
set_option maxRecDepth 10000 in
set_option maxHeartbeats 4000000 in
theorem RX12_carry_b42 {d N nc Ls : Nat} {Xs : Nat → Int32} (hd : 0 ≤ d) {h : iv_H} {s : iv_M} (hR : Rep nc Ls Xs h s) {q0 : Nat} (t0 : T12 nc q0) {q1 : Nat} (t1 : TA 0 nc q1) {m2 : Int32} {x2 : Int} (p2 : m2.toInt = x2)  {kb : iv_M → Int → Option (iv_M)} {kx : iv_M → Option (iv_M)} {r : iv_M} {Q : Option Value → iv_H → Prop} (hb : ∀ (h : iv_H) (s : iv_M) (hR : Rep nc Ls Xs h s) (mw2 : Int32) (xw2 : Int) (pw2 : mw2.toInt = xw2), kb s xw2 = some r → Rn d 345 none 2 [some (.ref q0), some (.ref q1), some (.int mw2)] [] h Q) (hk : ∀ (h : iv_H) (s : iv_M) (hR : Rep nc Ls Xs h s), kx s = some r → Rn d 345 none 58 [none, none, none] [] h Q) (hq : ∀ h1, Rep nc Ls Xs h1 r → Q none h1) (e : FX12_carry_b42 N s q0 q1 x2  kb kx = some r) : Rn d 345 none 42 [some (.ref q0), some (.ref q1), some (.int m2)] [] h Q := by
  have hT := hX12_carry
  unfold FX12_carry_b42 at e
  refine Rn.n hT 2 (pc' := 44) (L' := [some (.ref q0), some (.ref q1), some (.int m2)]) (st' := [.ref q0, .ref q0]) rfl ?_
  obtain ⟨z_4502, g_4502, p_4502⟩ : ∃ z : Int32, gI h 12 81 q0 = some z ∧ z.toInt = s q0 81 := rp_gI (k := 81) hR (T12_o t0) rfl
  refine Rn.hp hT rfl rfl (gI_hp g_4502) ?_
  refine Rn.n hT 2 (pc' := 49) (L' := [some (.ref q0), some (.ref q1), some (.int m2)]) (st' := [.int (z_4502 + (1 : Int32)), .ref q0]) rfl ?_
  obtain ⟨s_4503, e_4504, e⟩ := Option.bind_eq_some_iff.mp e
  obtain ⟨h_4503, g_4504, R_4503⟩ := rp_pI (ci := 12) (k := 81) hR (T12_o t0) rfl rfl (ti_add p_4502 L32_1) e_4504
  refine Rn.hp hT rfl rfl (pV_hp rfl g_4504) ?_
  refine Rn.n hT 2 (pc' := 2) (L' := [some (.ref q0), some (.ref q1), some (.int (m2 + (1 : Int32)))]) (st' := []) rfl ?_
  exact Rn.weak (ll_s (ll_s (ll_s ll_e))) (hb h_4503 s_4503 R_4503 (m2 + (1 : Int32)) (w32 (x2 + 1)) (ti_add p2 L32_1) e)
def FX12_carry_l2 (N : Nat) (q0 : Nat) (q1 : Nat) (kx : iv_M → Option (iv_M)) : Nat → iv_M → Int → Option (iv_M)
  | 0, _, _ => none
  | n + 1, s, x2 => (if ((sh q1).2 : Int) ≤ x2 then (kx s) else (if (s q0 82) = 0 then ((rd s q1 ((sh q1).2 : Int) x2).bind fun v_4495 => ((wr s (q0 + 59) 3440 (s q0 81) v_4495).bind fun s_4496 => (FX12_carry_b42 N s_4496 q0 q1 x2 (FX12_carry_l2 N q0 q1 kx n) kx))) else ((rd s (q0 + 59) 3440 (s q0 81)).bind fun v_4499 => ((wr s q1 ((sh q1).2 : Int) x2 v_4499).bind fun s_4500 => (FX12_carry_b42 N s_4500 q0 q1 x2 (FX12_carry_l2 N q0 q1 kx n) kx)))))
set_option maxRecDepth 10000 in
set_option maxHeartbeats 4000000 in
theorem RX12_carry_l2 {d N nc Ls : Nat} {Xs : Nat → Int32} (hd : 0 ≤ d) {q0 : Nat} (t0 : T12 nc q0) {q1 : Nat} (t1 : TA 0 nc q1) {kx : iv_M → Option (iv_M)} {r : iv_M} {Q : Option Value → iv_H → Prop} (hk : ∀ (h : iv_H) (s : iv_M) (hR : Rep nc Ls Xs h s), kx s = some r → Rn d 345 none 58 [none, none, none] [] h Q) (hq : ∀ h1, Rep nc Ls Xs h1 r → Q none h1) : ∀ (n : Nat) (h : iv_H) (s : iv_M) (hR : Rep nc Ls Xs h s) (m2 : Int32) (x2 : Int) (p2 : m2.toInt = x2), FX12_carry_l2 N q0 q1 kx n s x2 = some r → Rn d 345 none 2 [some (.ref q0), some (.ref q1), some (.int m2)] [] h Q := by
  have hT := hX12_carry
  intro n
  induction n with
  | zero =>
    intro h s hR m2 x2 p2 e
    rw [FX12_carry_l2] at e
    cases e
  | succ n ih =>
    intro h s hR m2 x2 p2 e
    rw [FX12_carry_l2] at e
    refine Rn.n hT 2 (pc' := 4) (L' := [some (.ref q0), some (.ref q1), some (.int m2)]) (st' := [.ref q1, .int m2]) rfl ?_
    obtain ⟨z_4490, g_4490, p_4490⟩ : ∃ z : Int32, aL h q1 = some z ∧ z.toInt = ((sh q1).2 : Int) := rp_aL hR t1 (Or.inl rfl) rfl
    refine Rn.hp hT rfl rfl (aL_hp g_4490) ?_
    by_cases c_4491 : ((sh q1).2 : Int) ≤ x2
    · rw [if_pos c_4491] at e
      refine Rn.bt hT rfl rfl rfl (decide_eq_true ((ti_le p_4490 p2).mpr c_4491)) ?_
      exact Rn.weak (ll_n (ll_n (ll_n ll_e))) (hk h s hR e)
    · rw [if_neg c_4491] at e
      refine Rn.bf hT rfl rfl rfl (decide_eq_false (fun z => c_4491 ((ti_le p_4490 p2).mp z))) ?_
      refine Rn.n hT 1 (pc' := 9) (L' := [some (.ref q0), some (.ref q1), some (.int m2)]) (st' := [.ref q0]) rfl ?_
      obtain ⟨z_4492, g_4492, p_4492⟩ : ∃ z : Int32, gI h 12 82 q0 = some z ∧ z.toInt = s q0 82 := rp_gI (k := 82) hR (T12_o t0) rfl
      refine Rn.hp hT rfl rfl (gI_hp g_4492) ?_
      by_cases c_4493 : (s q0 82) = 0
      · rw [if_pos c_4493] at e
        refine Rn.bt hT rfl rfl rfl (decide_eq_true ((ti_e p_4492 L32_0).mpr c_4493)) ?_
        refine Rn.n hT 1 (pc' := 31) (L' := [some (.ref q0), some (.ref q1), some (.int m2)]) (st' := [.ref q0]) rfl ?_
        refine Rn.hp hT rfl rfl (gR_hp (rp_gR hR (T12_o t0) rfl)) ?_
        refine Rn.n hT 1 (pc' := 35) (L' := [some (.ref q0), some (.ref q1), some (.int m2)]) (st' := [.ref q0, .ref (q0 + 59)]) rfl ?_
        obtain ⟨z_4494, g_4494, p_4494⟩ : ∃ z : Int32, gI h 12 81 q0 = some z ∧ z.toInt = s q0 81 := rp_gI (k := 81) hR (T12_o t0) rfl
        refine Rn.hp hT rfl rfl (gI_hp g_4494) ?_
        refine Rn.n hT 2 (pc' := 40) (L' := [some (.ref q0), some (.ref q1), some (.int m2)]) (st' := [.int m2, .ref q1, .int z_4494, .ref (q0 + 59)]) rfl ?_
        obtain ⟨v_4495, e_4495, e⟩ := Option.bind_eq_some_iff.mp e
        obtain ⟨z_4495, g_4495, p_4495⟩ := rp_aI hR t1 rfl p2 e_4495
        refine Rn.hp hT rfl rfl (aI_hp g_4495) ?_
        obtain ⟨s_4496, e_4497, e⟩ := Option.bind_eq_some_iff.mp e
        obtain ⟨h_4496, g_4497, R_4496⟩ := rp_wI hR (T12_79 t0) (T12_79l t0) p_4494 p_4495 e_4497
        refine Rn.hp hT rfl rfl (wI_hp g_4497) ?_
        exact Rn.weak (ll_s (ll_s (ll_s ll_e))) (RX12_carry_b42 hd R_4496 t0 t1 p2 ih hk hq e)
      · rw [if_neg c_4493] at e
        refine Rn.bf hT rfl rfl rfl (decide_eq_false (fun z => c_4493 ((ti_e p_4492 L32_0).mp z))) ?_
        refine Rn.n hT 3 (pc' := 18) (L' := [some (.ref q0), some (.ref q1), some (.int m2)]) (st' := [.ref q0, .int m2, .ref q1]) rfl ?_
        refine Rn.hp hT rfl rfl (gR_hp (rp_gR hR (T12_o t0) rfl)) ?_
        refine Rn.n hT 1 (pc' := 22) (L' := [some (.ref q0), some (.ref q1), some (.int m2)]) (st' := [.ref q0, .ref (q0 + 59), .int m2, .ref q1]) rfl ?_
        obtain ⟨z_4498, g_4498, p_4498⟩ : ∃ z : Int32, gI h 12 81 q0 = some z ∧ z.toInt = s q0 81 := rp_gI (k := 81) hR (T12_o t0) rfl
        refine Rn.hp hT rfl rfl (gI_hp g_4498) ?_
        obtain ⟨v_4499, e_4499, e⟩ := Option.bind_eq_some_iff.mp e
        obtain ⟨z_4499, g_4499, p_4499⟩ := rp_aI hR (T12_79 t0) (T12_79l t0) p_4498 e_4499
        refine Rn.hp hT rfl rfl (aI_hp g_4499) ?_
        obtain ⟨s_4500, e_4501, e⟩ := Option.bind_eq_some_iff.mp e
        obtain ⟨h_4500, g_4501, R_4500⟩ := rp_wI hR t1 rfl p2 p_4499 e_4501
        refine Rn.hp hT rfl rfl (wI_hp g_4501) ?_
        refine Rn.n hT 1 (pc' := 42) (L' := [some (.ref q0), some (.ref q1), some (.int m2)]) (st' := []) rfl ?_
        exact Rn.weak (ll_s (ll_s (ll_s ll_e))) (RX12_carry_b42 hd R_4500 t0 t1 p2 ih hk hq e)
def FX12_carry (N : Nat) (s : iv_M) (q0 : Nat) (q1 : Nat) : Option (iv_M) := (FX12_carry_l2 N q0 q1 (fun (s_4488 : iv_M) => some s_4488) N s 0)
set_option maxRecDepth 10000 in
set_option maxHeartbeats 4000000 in
theorem RX12_carry {d N nc Ls : Nat} {Xs : Nat → Int32} (hd : 1 ≤ d) {h : iv_H} {s : iv_M} (hR : Rep nc Ls Xs h s) {q0 : Nat} (t0 : T12 nc q0) {q1 : Nat} (t1 : TA 0 nc q1) {r : iv_M} {Q : Option Value → iv_H → Prop} (e : FX12_carry N s q0 q1 = some r) (hq : ∀ h1, Rep nc Ls Xs h1 r → Q none h1) : Cl d 345 [.ref q0, .ref q1] h Q := by
  obtain ⟨d, rfl⟩ : ∃ k, d = k + 1 := ⟨d - 1, by omega⟩
  have hd : 0 ≤ d := by omega
  have hT := hX12_carry
  unfold FX12_carry at e
  refine Cl.into (by decide) gX12_carry rfl ?_
  show Rn d 345 none 0 [some (.ref q0), some (.ref q1), none] [] h Q
  refine Rn.n hT 2 (pc' := 2) (L' := [some (.ref q0), some (.ref q1), some (.int (0 : Int32))]) (st' := []) rfl ?_
  refine Rn.weak (ll_s (ll_s (ll_s ll_e))) (RX12_carry_l2 hd t0 t1 (fun h_4488 s_4488 R_4488 e => ?_) hq N h s hR (0 : Int32) 0 L32_0 e)
  try dsimp only at e
  obtain rfl := Option.some.inj e
  exact Rn.ret hT rfl rfl rfl (hq h_4488 R_4488)
set_option maxRecDepth 10000 in
theorem hX12_carriesAll : iv_Tb 346 tX12_carriesAll := iv_tb_of (m := mX12_carriesAll) rfl
set_option maxRecDepth 10000 in
theorem gX12_carriesAll : PG.2 346 = some mX12_carriesAll := iv_pi_of (t := tX12_carriesAll) rfl (by decide)
def FX12_carriesAll (N : Nat) (s : iv_M) (q0 : Nat) (x1 : Int) (x2 : Int) : Option (iv_M) := ((pt s q0 81 (w32 (860 * x1))).bind fun s_4505 => (if x2 = 0 ∨ x2 = 1 then ((pt s_4505 q0 82 x2).bind fun s_4507 => ((FX12_carry N s_4507 q0 (q0 + 1)).bind fun s_4510 => ((FX12_carry N s_4510 q0 (q0 + 2)).bind fun s_4512 => ((FX12_carry N s_4512 q0 (q0 + 3)).bind fun s_4514 => ((FX12_carry N s_4514 q0 (q0 + 4)).bind fun s_4516 => ((FX12_carry N s_4516 q0 (q0 + 5)).bind fun s_4518 => ((FX12_carry N s_4518 q0 (q0 + 6)).bind fun s_4520 => ((FX12_carry N s_4520 q0 (q0 + 7)).bind fun s_4522 => ((FX12_carry N s_4522 q0 (q0 + 8)).bind fun s_4524 => ((FX12_carry N s_4524 q0 (q0 + 9)).bind fun s_4526 => ((FX12_carry N s_4526 q0 (q0 + 10)).bind fun s_4528 => ((FX12_carry N s_4528 q0 (q0 + 11)).bind fun s_4530 => ((FX12_carry N s_4530 q0 (q0 + 12)).bind fun s_4532 => ((FX12_carry N s_4532 q0 (q0 + 13)).bind fun s_4534 => ((FX12_carry N s_4534 q0 (q0 + 14)).bind fun s_4536 => ((FX12_carry N s_4536 q0 (q0 + 15)).bind fun s_4538 => ((FX12_carry N s_4538 q0 (q0 + 16)).bind fun s_4540 => ((FX12_carry N s_4540 q0 (q0 + 17)).bind fun s_4542 => ((FX12_carry N s_4542 q0 (q0 + 18)).bind fun s_4544 => some s_4544))))))))))))))))))) else none))
set_option maxRecDepth 10000 in
set_option maxHeartbeats 4000000 in
theorem RX12_carriesAll {d N nc Ls : Nat} {Xs : Nat → Int32} (hd : 2 ≤ d) {h : iv_H} {s : iv_M} (hR : Rep nc Ls Xs h s) {q0 : Nat} (t0 : T12 nc q0) {m1 : Int32} {x1 : Int} (p1 : m1.toInt = x1) {m2 : Int32} {x2 : Int} (p2 : m2.toInt = x2) {r : iv_M} {Q : Option Value → iv_H → Prop} (e : FX12_carriesAll N s q0 x1 x2 = some r) (hq : ∀ h1, Rep nc Ls Xs h1 r → Q none h1) : Cl d 346 [.ref q0, .int m1, .int m2] h Q := by
  obtain ⟨d, rfl⟩ : ∃ k, d = k + 1 := ⟨d - 1, by omega⟩
  have hd : 1 ≤ d := by omega
  have hT := hX12_carriesAll
  unfold FX12_carriesAll at e
  refine Cl.into (by decide) gX12_carriesAll rfl ?_
  show Rn d 346 none 0 [some (.ref q0), some (.int m1), some (.int m2)] [] h Q
  refine Rn.n hT 4 (pc' := 6) (L' := [some (.ref q0), some (.int m1), some (.int m2)]) (st' := [.int ((860 : Int32) * m1), .ref q0]) rfl ?_
  obtain ⟨s_4505, e_4506, e⟩ := Option.bind_eq_some_iff.mp e
  obtain ⟨h_4505, g_4506, R_4505⟩ := rp_pI (ci := 12) (k := 81) hR (T12_o t0) rfl rfl (ti_mul L32_860 p1) e_4506
  refine Rn.hp hT rfl rfl (pV_hp rfl g_4506) ?_
  refine Rn.n hT 2 (pc' := 11) (L' := [some (.ref q0), some (.int m1), some (.int m2)]) (st' := [.int m2, .ref q0]) rfl ?_
  by_cases c_4545 : x2 = 0 ∨ x2 = 1
  · rw [if_pos c_4545] at e
    obtain ⟨s_4507, e_4508, e⟩ := Option.bind_eq_some_iff.mp e
    obtain ⟨h_4507, g_4508, R_4507⟩ := rp_pI (ci := 12) (k := 82) R_4505 (T12_o t0) rfl rfl p2 e_4508
    refine Rn.hp hT rfl rfl (pV_hp (ft_bl (ti_b p2 c_4545)) g_4508) ?_
    refine Rn.n hT 2 (pc' := 16) (L' := [some (.ref q0), some (.int m1), some (.int m2)]) (st' := [.ref q0, .ref q0]) rfl ?_
    refine Rn.hp hT rfl rfl (gR_hp (rp_gR R_4507 (T12_o t0) rfl)) ?_
    obtain ⟨s_4510, e_4509, e⟩ := Option.bind_eq_some_iff.mp e
    refine Rn.call hT rfl rfl rfl (Nat.le_of_ble_eq_true rfl) (rcv_v gX12_carry (by omega) (rp_ck R_4507 (T12_o t0))) (RX12_carry (by omega) R_4507 t0 (T12_1 t0) e_4509 (fun h_4510 R_4510 => ?_))
    show Rn d _ _ 22 [some (.ref q0), some (.int m1), some (.int m2)] [] h_4510 Q
    refine Rn.n hT 2 (pc' := 24) (L' := [some (.ref q0), some (.int m1), some (.int m2)]) (st' := [.ref q0, .ref q0]) rfl ?_
    refine Rn.hp hT rfl rfl (gR_hp (rp_gR R_4510 (T12_o t0) rfl)) ?_
    obtain ⟨s_4512, e_4511, e⟩ := Option.bind_eq_some_iff.mp e
    refine Rn.call hT rfl rfl rfl (Nat.le_of_ble_eq_true rfl) (rcv_v gX12_carry (by omega) (rp_ck R_4510 (T12_o t0))) (RX12_carry (by omega) R_4510 t0 (T12_2 t0) e_4511 (fun h_4512 R_4512 => ?_))
    show Rn d _ _ 30 [some (.ref q0), some (.int m1), some (.int m2)] [] h_4512 Q
    refine Rn.n hT 2 (pc' := 32) (L' := [some (.ref q0), some (.int m1), some (.int m2)]) (st' := [.ref q0, .ref q0]) rfl ?_
    refine Rn.hp hT rfl rfl (gR_hp (rp_gR R_4512 (T12_o t0) rfl)) ?_
    obtain ⟨s_4514, e_4513, e⟩ := Option.bind_eq_some_iff.mp e
    refine Rn.call hT rfl rfl rfl (Nat.le_of_ble_eq_true rfl) (rcv_v gX12_carry (by omega) (rp_ck R_4512 (T12_o t0))) (RX12_carry (by omega) R_4512 t0 (T12_3 t0) e_4513 (fun h_4514 R_4514 => ?_))
    show Rn d _ _ 38 [some (.ref q0), some (.int m1), some (.int m2)] [] h_4514 Q
    refine Rn.n hT 2 (pc' := 40) (L' := [some (.ref q0), some (.int m1), some (.int m2)]) (st' := [.ref q0, .ref q0]) rfl ?_
    refine Rn.hp hT rfl rfl (gR_hp (rp_gR R_4514 (T12_o t0) rfl)) ?_
    obtain ⟨s_4516, e_4515, e⟩ := Option.bind_eq_some_iff.mp e
    refine Rn.call hT rfl rfl rfl (Nat.le_of_ble_eq_true rfl) (rcv_v gX12_carry (by omega) (rp_ck R_4514 (T12_o t0))) (RX12_carry (by omega) R_4514 t0 (T12_4 t0) e_4515 (fun h_4516 R_4516 => ?_))
    show Rn d _ _ 46 [some (.ref q0), some (.int m1), some (.int m2)] [] h_4516 Q
    refine Rn.n hT 2 (pc' := 48) (L' := [some (.ref q0), some (.int m1), some (.int m2)]) (st' := [.ref q0, .ref q0]) rfl ?_
    refine Rn.hp hT rfl rfl (gR_hp (rp_gR R_4516 (T12_o t0) rfl)) ?_
    obtain ⟨s_4518, e_4517, e⟩ := Option.bind_eq_some_iff.mp e
    refine Rn.call hT rfl rfl rfl (Nat.le_of_ble_eq_true rfl) (rcv_v gX12_carry (by omega) (rp_ck R_4516 (T12_o t0))) (RX12_carry (by omega) R_4516 t0 (T12_5 t0) e_4517 (fun h_4518 R_4518 => ?_))
    show Rn d _ _ 54 [some (.ref q0), some (.int m1), some (.int m2)] [] h_4518 Q
    refine Rn.n hT 2 (pc' := 56) (L' := [some (.ref q0), some (.int m1), some (.int m2)]) (st' := [.ref q0, .ref q0]) rfl ?_
    refine Rn.hp hT rfl rfl (gR_hp (rp_gR R_4518 (T12_o t0) rfl)) ?_
    obtain ⟨s_4520, e_4519, e⟩ := Option.bind_eq_some_iff.mp e
    refine Rn.call hT rfl rfl rfl (Nat.le_of_ble_eq_true rfl) (rcv_v gX12_carry (by omega) (rp_ck R_4518 (T12_o t0))) (RX12_carry (by omega) R_4518 t0 (T12_6 t0) e_4519 (fun h_4520 R_4520 => ?_))
    show Rn d _ _ 62 [some (.ref q0), some (.int m1), some (.int m2)] [] h_4520 Q
    refine Rn.n hT 2 (pc' := 64) (L' := [some (.ref q0), some (.int m1), some (.int m2)]) (st' := [.ref q0, .ref q0]) rfl ?_
    refine Rn.hp hT rfl rfl (gR_hp (rp_gR R_4520 (T12_o t0) rfl)) ?_
    obtain ⟨s_4522, e_4521, e⟩ := Option.bind_eq_some_iff.mp e
    refine Rn.call hT rfl rfl rfl (Nat.le_of_ble_eq_true rfl) (rcv_v gX12_carry (by omega) (rp_ck R_4520 (T12_o t0))) (RX12_carry (by omega) R_4520 t0 (T12_7 t0) e_4521 (fun h_4522 R_4522 => ?_))
    show Rn d _ _ 70 [some (.ref q0), some (.int m1), some (.int m2)] [] h_4522 Q
    refine Rn.n hT 2 (pc' := 72) (L' := [some (.ref q0), some (.int m1), some (.int m2)]) (st' := [.ref q0, .ref q0]) rfl ?_
    refine Rn.hp hT rfl rfl (gR_hp (rp_gR R_4522 (T12_o t0) rfl)) ?_
    obtain ⟨s_4524, e_4523, e⟩ := Option.bind_eq_some_iff.mp e
    refine Rn.call hT rfl rfl rfl (Nat.le_of_ble_eq_true rfl) (rcv_v gX12_carry (by omega) (rp_ck R_4522 (T12_o t0))) (RX12_carry (by omega) R_4522 t0 (T12_8 t0) e_4523 (fun h_4524 R_4524 => ?_))
    show Rn d _ _ 78 [some (.ref q0), some (.int m1), some (.int m2)] [] h_4524 Q
    refine Rn.n hT 2 (pc' := 80) (L' := [some (.ref q0), some (.int m1), some (.int m2)]) (st' := [.ref q0, .ref q0]) rfl ?_
    refine Rn.hp hT rfl rfl (gR_hp (rp_gR R_4524 (T12_o t0) rfl)) ?_
    obtain ⟨s_4526, e_4525, e⟩ := Option.bind_eq_some_iff.mp e
    refine Rn.call hT rfl rfl rfl (Nat.le_of_ble_eq_true rfl) (rcv_v gX12_carry (by omega) (rp_ck R_4524 (T12_o t0))) (RX12_carry (by omega) R_4524 t0 (T12_9 t0) e_4525 (fun h_4526 R_4526 => ?_))
    show Rn d _ _ 86 [some (.ref q0), some (.int m1), some (.int m2)] [] h_4526 Q
    refine Rn.n hT 2 (pc' := 88) (L' := [some (.ref q0), some (.int m1), some (.int m2)]) (st' := [.ref q0, .ref q0]) rfl ?_
    refine Rn.hp hT rfl rfl (gR_hp (rp_gR R_4526 (T12_o t0) rfl)) ?_
    obtain ⟨s_4528, e_4527, e⟩ := Option.bind_eq_some_iff.mp e
    refine Rn.call hT rfl rfl rfl (Nat.le_of_ble_eq_true rfl) (rcv_v gX12_carry (by omega) (rp_ck R_4526 (T12_o t0))) (RX12_carry (by omega) R_4526 t0 (T12_10 t0) e_4527 (fun h_4528 R_4528 => ?_))
    show Rn d _ _ 94 [some (.ref q0), some (.int m1), some (.int m2)] [] h_4528 Q
    refine Rn.n hT 2 (pc' := 96) (L' := [some (.ref q0), some (.int m1), some (.int m2)]) (st' := [.ref q0, .ref q0]) rfl ?_
    refine Rn.hp hT rfl rfl (gR_hp (rp_gR R_4528 (T12_o t0) rfl)) ?_
    obtain ⟨s_4530, e_4529, e⟩ := Option.bind_eq_some_iff.mp e
    refine Rn.call hT rfl rfl rfl (Nat.le_of_ble_eq_true rfl) (rcv_v gX12_carry (by omega) (rp_ck R_4528 (T12_o t0))) (RX12_carry (by omega) R_4528 t0 (T12_11 t0) e_4529 (fun h_4530 R_4530 => ?_))
    show Rn d _ _ 102 [some (.ref q0), some (.int m1), some (.int m2)] [] h_4530 Q
    refine Rn.n hT 2 (pc' := 104) (L' := [some (.ref q0), some (.int m1), some (.int m2)]) (st' := [.ref q0, .ref q0]) rfl ?_
    refine Rn.hp hT rfl rfl (gR_hp (rp_gR R_4530 (T12_o t0) rfl)) ?_
    obtain ⟨s_4532, e_4531, e⟩ := Option.bind_eq_some_iff.mp e
    refine Rn.call hT rfl rfl rfl (Nat.le_of_ble_eq_true rfl) (rcv_v gX12_carry (by omega) (rp_ck R_4530 (T12_o t0))) (RX12_carry (by omega) R_4530 t0 (T12_12 t0) e_4531 (fun h_4532 R_4532 => ?_))
    show Rn d _ _ 110 [some (.ref q0), some (.int m1), some (.int m2)] [] h_4532 Q
    refine Rn.n hT 2 (pc' := 112) (L' := [some (.ref q0), some (.int m1), some (.int m2)]) (st' := [.ref q0, .ref q0]) rfl ?_
    refine Rn.hp hT rfl rfl (gR_hp (rp_gR R_4532 (T12_o t0) rfl)) ?_
    obtain ⟨s_4534, e_4533, e⟩ := Option.bind_eq_some_iff.mp e
    refine Rn.call hT rfl rfl rfl (Nat.le_of_ble_eq_true rfl) (rcv_v gX12_carry (by omega) (rp_ck R_4532 (T12_o t0))) (RX12_carry (by omega) R_4532 t0 (T12_13 t0) e_4533 (fun h_4534 R_4534 => ?_))
    show Rn d _ _ 118 [some (.ref q0), some (.int m1), some (.int m2)] [] h_4534 Q
    refine Rn.n hT 2 (pc' := 120) (L' := [some (.ref q0), some (.int m1), some (.int m2)]) (st' := [.ref q0, .ref q0]) rfl ?_
    refine Rn.hp hT rfl rfl (gR_hp (rp_gR R_4534 (T12_o t0) rfl)) ?_
    obtain ⟨s_4536, e_4535, e⟩ := Option.bind_eq_some_iff.mp e
    refine Rn.call hT rfl rfl rfl (Nat.le_of_ble_eq_true rfl) (rcv_v gX12_carry (by omega) (rp_ck R_4534 (T12_o t0))) (RX12_carry (by omega) R_4534 t0 (T12_14 t0) e_4535 (fun h_4536 R_4536 => ?_))
    show Rn d _ _ 126 [some (.ref q0), some (.int m1), some (.int m2)] [] h_4536 Q
    refine Rn.n hT 2 (pc' := 128) (L' := [some (.ref q0), some (.int m1), some (.int m2)]) (st' := [.ref q0, .ref q0]) rfl ?_
    refine Rn.hp hT rfl rfl (gR_hp (rp_gR R_4536 (T12_o t0) rfl)) ?_
    obtain ⟨s_4538, e_4537, e⟩ := Option.bind_eq_some_iff.mp e
    refine Rn.call hT rfl rfl rfl (Nat.le_of_ble_eq_true rfl) (rcv_v gX12_carry (by omega) (rp_ck R_4536 (T12_o t0))) (RX12_carry (by omega) R_4536 t0 (T12_15 t0) e_4537 (fun h_4538 R_4538 => ?_))
    show Rn d _ _ 134 [some (.ref q0), some (.int m1), some (.int m2)] [] h_4538 Q
    refine Rn.n hT 2 (pc' := 136) (L' := [some (.ref q0), some (.int m1), some (.int m2)]) (st' := [.ref q0, .ref q0]) rfl ?_
    refine Rn.hp hT rfl rfl (gR_hp (rp_gR R_4538 (T12_o t0) rfl)) ?_
    obtain ⟨s_4540, e_4539, e⟩ := Option.bind_eq_some_iff.mp e
    refine Rn.call hT rfl rfl rfl (Nat.le_of_ble_eq_true rfl) (rcv_v gX12_carry (by omega) (rp_ck R_4538 (T12_o t0))) (RX12_carry (by omega) R_4538 t0 (T12_16 t0) e_4539 (fun h_4540 R_4540 => ?_))
    show Rn d _ _ 142 [some (.ref q0), some (.int m1), some (.int m2)] [] h_4540 Q
    refine Rn.n hT 2 (pc' := 144) (L' := [some (.ref q0), some (.int m1), some (.int m2)]) (st' := [.ref q0, .ref q0]) rfl ?_
    refine Rn.hp hT rfl rfl (gR_hp (rp_gR R_4540 (T12_o t0) rfl)) ?_
    obtain ⟨s_4542, e_4541, e⟩ := Option.bind_eq_some_iff.mp e
    refine Rn.call hT rfl rfl rfl (Nat.le_of_ble_eq_true rfl) (rcv_v gX12_carry (by omega) (rp_ck R_4540 (T12_o t0))) (RX12_carry (by omega) R_4540 t0 (T12_17 t0) e_4541 (fun h_4542 R_4542 => ?_))
    show Rn d _ _ 150 [some (.ref q0), some (.int m1), some (.int m2)] [] h_4542 Q
    refine Rn.n hT 2 (pc' := 152) (L' := [some (.ref q0), some (.int m1), some (.int m2)]) (st' := [.ref q0, .ref q0]) rfl ?_
    refine Rn.hp hT rfl rfl (gR_hp (rp_gR R_4542 (T12_o t0) rfl)) ?_
    obtain ⟨s_4544, e_4543, e⟩ := Option.bind_eq_some_iff.mp e
    refine Rn.call hT rfl rfl rfl (Nat.le_of_ble_eq_true rfl) (rcv_v gX12_carry (by omega) (rp_ck R_4542 (T12_o t0))) (RX12_carry (by omega) R_4542 t0 (T12_18 t0) e_4543 (fun h_4544 R_4544 => ?_))
    show Rn d _ _ 158 [some (.ref q0), some (.int m1), some (.int m2)] [] h_4544 Q
    obtain rfl := Option.some.inj e
    exact Rn.ret hT rfl rfl rfl (hq h_4544 R_4544)
  · rw [if_neg c_4545] at e
    cases e
set_option maxRecDepth 10000 in
theorem hX12_image : iv_Tb 347 tX12_image := iv_tb_of (m := mX12_image) rfl
set_option maxRecDepth 10000 in
theorem gX12_image : PG.2 347 = some mX12_image := iv_pi_of (t := tX12_image) rfl (by decide)
def FX12_image (N : Nat) (s : iv_M) (q0 : Nat) (x1 : Int) : Option (Int × iv_M) := ((FX12_in N s x1 0 3).bind fun v_4546 => (if v_4546 = 0 then (some ((-1), s)) else ((wr s (q0 + 60) 4 x1 1).bind fun s_4548 => ((FX12_carriesAll N s_4548 q0 x1 0).bind fun s_4551 => ((rd s_4551 (q0 + 1) 14 6).bind fun v_4552 => (some (v_4552, s_4551)))))))
set_option maxRecDepth 10000 in
set_option maxHeartbeats 4000000 in
theorem RX12_image {d N nc Ls : Nat} {Xs : Nat → Int32} (hd : 3 ≤ d) {h : iv_H} {s : iv_M} (hR : Rep nc Ls Xs h s) {q0 : Nat} (t0 : T12 nc q0) {m1 : Int32} {x1 : Int} (p1 : m1.toInt = x1) {r : Int × iv_M} {Q : Option Value → iv_H → Prop} (e : FX12_image N s q0 x1 = some r) (hq : ∀ (z : Int32) (h1 : iv_H), z.toInt = r.1 → Rep nc Ls Xs h1 r.2 → Q (some (.int z)) h1) : Cl d 347 [.ref q0, .int m1] h Q := by
  obtain ⟨d, rfl⟩ : ∃ k, d = k + 1 := ⟨d - 1, by omega⟩
  have hd : 2 ≤ d := by omega
  have hT := hX12_image
  unfold FX12_image at e
  refine Cl.into (by decide) gX12_image rfl ?_
  show Rn d 347 (some .int) 0 [some (.ref q0), some (.int m1)] [] h Q
  refine Rn.n hT 4 (pc' := 6) (L' := [some (.ref q0), some (.int m1)]) (st' := [.long (3 : Int64), .long (0 : Int64), .long ((m1).toInt64)]) rfl ?_
  obtain ⟨v_4546, e_4546, e⟩ := Option.bind_eq_some_iff.mp e
  refine Rn.call hT rfl rfl rfl (Nat.le_of_ble_eq_true rfl) rfl (RX12_in (by omega) hR (ti_j p1) L64_0 L64_3 e_4546 (fun z_4546 p_4546 => ?_))
  show Rn d _ _ 9 [some (.ref q0), some (.int m1)] [.int z_4546] h Q
  by_cases c_4547 : v_4546 = 0
  · rw [if_pos c_4547] at e
    refine Rn.bf hT rfl rfl rfl (decide_eq_false (fun z => z ((ti_e p_4546 L32_0).mpr c_4547))) ?_
    refine Rn.n hT 1 (pc' := 13) (L' := [some (.ref q0), some (.int m1)]) (st' := [.int (-1 : Int32)]) rfl ?_
    obtain rfl := Option.some.inj e
    exact Rn.ret hT rfl rfl rfl (hq (-1 : Int32) h L32_m1 hR)
  · rw [if_neg c_4547] at e
    refine Rn.bt hT rfl rfl rfl (decide_eq_true (fun z => c_4547 ((ti_e p_4546 L32_0).mp z))) ?_
    refine Rn.n hT 1 (pc' := 15) (L' := [some (.ref q0), some (.int m1)]) (st' := [.ref q0]) rfl ?_
    refine Rn.hp hT rfl rfl (gR_hp (rp_gR hR (T12_o t0) rfl)) ?_
    refine Rn.n hT 2 (pc' := 20) (L' := [some (.ref q0), some (.int m1)]) (st' := [.int (1 : Int32), .int m1, .ref (q0 + 60)]) rfl ?_
    obtain ⟨s_4548, e_4549, e⟩ := Option.bind_eq_some_iff.mp e
    obtain ⟨h_4548, g_4549, R_4548⟩ := rp_wZ hR (T12_80 t0) (T12_80l t0) p1  e_4549
    refine Rn.hp hT rfl rfl (wB_hp g_4549) ?_
    refine Rn.n hT 3 (pc' := 24) (L' := [some (.ref q0), some (.int m1)]) (st' := [.int (0 : Int32), .int m1, .ref q0]) rfl ?_
    obtain ⟨s_4551, e_4550, e⟩ := Option.bind_eq_some_iff.mp e
    refine Rn.call hT rfl rfl rfl (Nat.le_of_ble_eq_true rfl) (rcv_v gX12_carriesAll (by omega) (rp_ck R_4548 (T12_o t0))) (RX12_carriesAll (by omega) R_4548 t0 p1 L32_0 e_4550 (fun h_4551 R_4551 => ?_))
    show Rn d _ _ 27 [some (.ref q0), some (.int m1)] [] h_4551 Q
    refine Rn.n hT 1 (pc' := 28) (L' := [some (.ref q0), some (.int m1)]) (st' := [.ref q0]) rfl ?_
    refine Rn.hp hT rfl rfl (gR_hp (rp_gR R_4551 (T12_o t0) rfl)) ?_
    refine Rn.n hT 1 (pc' := 33) (L' := [some (.ref q0), some (.int m1)]) (st' := [.int (6 : Int32), .ref (q0 + 1)]) rfl ?_
    obtain ⟨v_4552, e_4552, e⟩ := Option.bind_eq_some_iff.mp e
    obtain ⟨z_4552, g_4552, p_4552⟩ := rp_aI R_4551 (T12_1 t0) (T12_1l t0) L32_6 e_4552
    refine Rn.hp hT rfl rfl (aI_hp g_4552) ?_
    obtain rfl := Option.some.inj e
    exact Rn.ret hT rfl rfl rfl (hq z_4552 h_4551 p_4552 R_4551)
set_option maxRecDepth 10000 in
theorem hX12_back : iv_Tb 348 tX12_back := iv_tb_of (m := mX12_back) rfl
set_option maxRecDepth 10000 in
theorem gX12_back : PG.2 348 = some mX12_back := iv_pi_of (t := tX12_back) rfl (by decide)
def FX12_back_b21 (N : Nat) (s : iv_M)   : Option (Int × iv_M) := (some ((-1), s))
set_option maxRecDepth 10000 in
set_option maxHeartbeats 4000000 in
theorem RX12_back_b21 {d N nc Ls : Nat} {Xs : Nat → Int32} (hd : 2 ≤ d) {h : iv_H} {s : iv_M} (hR : Rep nc Ls Xs h s)   {r : Int × iv_M} {Q : Option Value → iv_H → Prop} (hq : ∀ (z : Int32) (h1 : iv_H), z.toInt = r.1 → Rep nc Ls Xs h1 r.2 → Q (some (.int z)) h1) (e : FX12_back_b21 N s   = some r) : Rn d 348 (some .int) 21 [none, none] [] h Q := by
  have hT := hX12_back
  unfold FX12_back_b21 at e
  refine Rn.n hT 1 (pc' := 22) (L' := [none, none]) (st' := [.int (-1 : Int32)]) rfl ?_
  obtain rfl := Option.some.inj e
  exact Rn.ret hT rfl rfl rfl (hq (-1 : Int32) h L32_m1 hR)
def FX12_back (N : Nat) (s : iv_M) (q0 : Nat) (x1 : Int) : Option (Int × iv_M) := ((FX12_in N s x1 0 3).bind fun v_4553 => (if v_4553 = 0 then (FX12_back_b21 N s) else ((rd s (q0 + 60) 4 x1).bind fun v_4555 => (if v_4555 = 0 then (FX12_back_b21 N s) else ((FX12_carriesAll N s q0 x1 1).bind fun s_4558 => ((rd s_4558 (q0 + 1) 14 6).bind fun v_4559 => (some (v_4559, s_4558))))))))
set_option maxRecDepth 10000 in
set_option maxHeartbeats 4000000 in
theorem RX12_back {d N nc Ls : Nat} {Xs : Nat → Int32} (hd : 3 ≤ d) {h : iv_H} {s : iv_M} (hR : Rep nc Ls Xs h s) {q0 : Nat} (t0 : T12 nc q0) {m1 : Int32} {x1 : Int} (p1 : m1.toInt = x1) {r : Int × iv_M} {Q : Option Value → iv_H → Prop} (e : FX12_back N s q0 x1 = some r) (hq : ∀ (z : Int32) (h1 : iv_H), z.toInt = r.1 → Rep nc Ls Xs h1 r.2 → Q (some (.int z)) h1) : Cl d 348 [.ref q0, .int m1] h Q := by
  obtain ⟨d, rfl⟩ : ∃ k, d = k + 1 := ⟨d - 1, by omega⟩
  have hd : 2 ≤ d := by omega
  have hT := hX12_back
  unfold FX12_back at e
  refine Cl.into (by decide) gX12_back rfl ?_
  show Rn d 348 (some .int) 0 [some (.ref q0), some (.int m1)] [] h Q
  refine Rn.n hT 4 (pc' := 6) (L' := [some (.ref q0), some (.int m1)]) (st' := [.long (3 : Int64), .long (0 : Int64), .long ((m1).toInt64)]) rfl ?_
  obtain ⟨v_4553, e_4553, e⟩ := Option.bind_eq_some_iff.mp e
  refine Rn.call hT rfl rfl rfl (Nat.le_of_ble_eq_true rfl) rfl (RX12_in (by omega) hR (ti_j p1) L64_0 L64_3 e_4553 (fun z_4553 p_4553 => ?_))
  show Rn d _ _ 9 [some (.ref q0), some (.int m1)] [.int z_4553] h Q
  by_cases c_4554 : v_4553 = 0
  · rw [if_pos c_4554] at e
    refine Rn.bt hT rfl rfl rfl (decide_eq_true ((ti_e p_4553 L32_0).mpr c_4554)) ?_
    exact Rn.weak (ll_n (ll_n ll_e)) (RX12_back_b21 hd hR hq e)
  · rw [if_neg c_4554] at e
    refine Rn.bf hT rfl rfl rfl (decide_eq_false (fun z => c_4554 ((ti_e p_4553 L32_0).mp z))) ?_
    refine Rn.n hT 1 (pc' := 13) (L' := [some (.ref q0), some (.int m1)]) (st' := [.ref q0]) rfl ?_
    refine Rn.hp hT rfl rfl (gR_hp (rp_gR hR (T12_o t0) rfl)) ?_
    refine Rn.n hT 1 (pc' := 17) (L' := [some (.ref q0), some (.int m1)]) (st' := [.int m1, .ref (q0 + 60)]) rfl ?_
    obtain ⟨v_4555, e_4555, e⟩ := Option.bind_eq_some_iff.mp e
    obtain ⟨z_4555, g_4555, p_4555⟩ := rp_aB hR (T12_80 t0) (Or.inr rfl) (T12_80l t0) p1 e_4555
    refine Rn.hp hT rfl rfl (aB_hp g_4555) ?_
    by_cases c_4556 : v_4555 = 0
    · rw [if_pos c_4556] at e
      refine Rn.bf hT rfl rfl rfl (decide_eq_false (fun z => z ((ti_e p_4555 L32_0).mpr c_4556))) ?_
      exact Rn.weak (ll_n (ll_n ll_e)) (RX12_back_b21 hd hR hq e)
    · rw [if_neg c_4556] at e
      refine Rn.bt hT rfl rfl rfl (decide_eq_true (fun z => c_4556 ((ti_e p_4555 L32_0).mp z))) ?_
      refine Rn.n hT 3 (pc' := 26) (L' := [some (.ref q0), some (.int m1)]) (st' := [.int (1 : Int32), .int m1, .ref q0]) rfl ?_
      obtain ⟨s_4558, e_4557, e⟩ := Option.bind_eq_some_iff.mp e
      refine Rn.call hT rfl rfl rfl (Nat.le_of_ble_eq_true rfl) (rcv_v gX12_carriesAll (by omega) (rp_ck hR (T12_o t0))) (RX12_carriesAll (by omega) hR t0 p1 L32_1 e_4557 (fun h_4558 R_4558 => ?_))
      show Rn d _ _ 29 [some (.ref q0), some (.int m1)] [] h_4558 Q
      refine Rn.n hT 1 (pc' := 30) (L' := [some (.ref q0), some (.int m1)]) (st' := [.ref q0]) rfl ?_
      refine Rn.hp hT rfl rfl (gR_hp (rp_gR R_4558 (T12_o t0) rfl)) ?_
      refine Rn.n hT 1 (pc' := 35) (L' := [some (.ref q0), some (.int m1)]) (st' := [.int (6 : Int32), .ref (q0 + 1)]) rfl ?_
      obtain ⟨v_4559, e_4559, e⟩ := Option.bind_eq_some_iff.mp e
      obtain ⟨z_4559, g_4559, p_4559⟩ := rp_aI R_4558 (T12_1 t0) (T12_1l t0) L32_6 e_4559
      refine Rn.hp hT rfl rfl (aI_hp g_4559) ?_
      obtain rfl := Option.some.inj e
      exact Rn.ret hT rfl rfl rfl (hq z_4559 h_4558 p_4559 R_4558)
