-- FLAT MIRRORS, 0 (written by wip/whole/mir2.py)
def FJ7_fill_53178_l5 (N : Nat) (q0 : Nat) (x1 : Int) (x3 : Int) (kx : iv_M → Option (iv_M)) : Nat → iv_M → Int → Option (iv_M)
  | 0, _, _ => none
  | n + 1, s, x2 => (if x3 ≤ x2 then (kx s) else ((wr s q0 ((sh q0).2 : Int) x2 x1).bind fun s_5 => (FJ7_fill_53178_l5 N q0 x1 x3 kx n s_5 (w32 (x2 + 1)))))
set_option maxRecDepth 10000 in
set_option maxHeartbeats 4000000 in
theorem RJ7_fill_53178_l5 {d N nc Ls : Nat} {Xs : Nat → Int32} (hd : 0 ≤ d) {q0 : Nat} (t0 : TA 0 nc q0) {m1 : Int32} {x1 : Int} (p1 : m1.toInt = x1) {m3 : Int32} {x3 : Int} (p3 : m3.toInt = x3) {kx : iv_M → Option (iv_M)} {r : iv_M} {Q : Option Value → iv_H → Prop} (hk : ∀ (h : iv_H) (s : iv_M) (hR : Rep nc Ls Xs h s), kx s = some r → Rn d 350 none 20 [none, none, none, none] [] h Q) (hq : ∀ h1, Rep nc Ls Xs h1 r → Q none h1) : ∀ (n : Nat) (h : iv_H) (s : iv_M) (hR : Rep nc Ls Xs h s) (m2 : Int32) (x2 : Int) (p2 : m2.toInt = x2), FJ7_fill_53178_l5 N q0 x1 x3 kx n s x2 = some r → Rn d 350 none 5 [some (.ref q0), some (.int m1), some (.int m2), some (.int m3)] [] h Q := by
  have hT := hJ7_fill_53178
  intro n
  induction n with
  | zero =>
    intro h s hR m2 x2 p2 e
    rw [FJ7_fill_53178_l5] at e
    cases e
  | succ n ih =>
    intro h s hR m2 x2 p2 e
    rw [FJ7_fill_53178_l5] at e
    refine Rn.n hT 2 (pc' := 7) (L' := [some (.ref q0), some (.int m1), some (.int m2), some (.int m3)]) (st' := [.int m3, .int m2]) rfl ?_
    by_cases c_4 : x3 ≤ x2
    · rw [if_pos c_4] at e
      refine Rn.bt hT rfl rfl rfl (decide_eq_true ((ti_le p3 p2).mpr c_4)) ?_
      exact Rn.weak (ll_n (ll_n (ll_n (ll_n ll_e)))) (hk h s hR e)
    · rw [if_neg c_4] at e
      refine Rn.bf hT rfl rfl rfl (decide_eq_false (fun z => c_4 ((ti_le p3 p2).mp z))) ?_
      refine Rn.n hT 3 (pc' := 13) (L' := [some (.ref q0), some (.int m1), some (.int m2), some (.int m3)]) (st' := [.int m1, .int m2, .ref q0]) rfl ?_
      obtain ⟨s_5, e_6, e⟩ := Option.bind_eq_some_iff.mp e
      obtain ⟨h_5, g_6, R_5⟩ := rp_wI hR t0 rfl p2 p1 e_6
      refine Rn.hp hT rfl rfl (wI_hp g_6) ?_
      refine Rn.n hT 2 (pc' := 5) (L' := [some (.ref q0), some (.int m1), some (.int (m2 + (1 : Int32))), some (.int m3)]) (st' := []) rfl ?_
      exact Rn.weak (ll_s (ll_s (ll_s (ll_s ll_e)))) (ih h_5 s_5 R_5 (m2 + (1 : Int32)) (w32 (x2 + 1)) (ti_add p2 L32_1) e)
def FJ7_fill_53178 (N : Nat) (s : iv_M) (q0 : Nat) (x1 : Int) : Option (iv_M) := (FJ7_fill_53178_l5 N q0 x1 ((sh q0).2 : Int) (fun (s_2 : iv_M) => some s_2) N s 0)
set_option maxRecDepth 10000 in
set_option maxHeartbeats 4000000 in
theorem RJ7_fill_53178 {d N nc Ls : Nat} {Xs : Nat → Int32} (hd : 1 ≤ d) {h : iv_H} {s : iv_M} (hR : Rep nc Ls Xs h s) {q0 : Nat} (t0 : TA 0 nc q0) {m1 : Int32} {x1 : Int} (p1 : m1.toInt = x1) {r : iv_M} {Q : Option Value → iv_H → Prop} (e : FJ7_fill_53178 N s q0 x1 = some r) (hq : ∀ h1, Rep nc Ls Xs h1 r → Q none h1) : Cl d 350 [.ref q0, .int m1] h Q := by
  obtain ⟨d, rfl⟩ : ∃ k, d = k + 1 := ⟨d - 1, by omega⟩
  have hd : 0 ≤ d := by omega
  have hT := hJ7_fill_53178
  unfold FJ7_fill_53178 at e
  refine Cl.into (by decide) gJ7_fill_53178 rfl ?_
  show Rn d 350 none 0 [some (.ref q0), some (.int m1), none, none] [] h Q
  refine Rn.n hT 3 (pc' := 3) (L' := [some (.ref q0), some (.int m1), some (.int (0 : Int32)), none]) (st' := [.ref q0]) rfl ?_
  obtain ⟨z_1, g_1, p_1⟩ : ∃ z : Int32, aL h q0 = some z ∧ z.toInt = ((sh q0).2 : Int) := rp_aL hR t0 (Or.inl rfl) rfl
  refine Rn.hp hT rfl rfl (aL_hp g_1) ?_
  refine Rn.n hT 1 (pc' := 5) (L' := [some (.ref q0), some (.int m1), some (.int (0 : Int32)), some (.int z_1)]) (st' := []) rfl ?_
  refine Rn.weak (ll_s (ll_s (ll_s (ll_s ll_e)))) (RJ7_fill_53178_l5 hd t0 p1 p_1 (fun h_2 s_2 R_2 e => ?_) hq N h s hR (0 : Int32) 0 L32_0 e)
  try dsimp only at e
  obtain rfl := Option.some.inj e
  exact Rn.ret hT rfl rfl rfl (hq h_2 R_2)
set_option maxRecDepth 10000 in
theorem hX2_keysIn : iv_Tb 49 tX2_keysIn := iv_tb_of (m := mX2_keysIn) rfl
set_option maxRecDepth 10000 in
theorem gX2_keysIn : PG.2 49 = some mX2_keysIn := iv_pi_of (t := tX2_keysIn) rfl (by decide)
def FX2_keysIn_b27 (N : Nat) (s : iv_M) (q0 : Nat) (x1 : Int) (x3 : Int) (xs0 : Int) (xs1 : Int) (kb : Int → Int → Option (Int)) (kx : Int → Option (Int)) : Option (Int) := (kb (bOr xs1 xs0) (w32 (x3 + 1)))
set_option maxRecDepth 10000 in
set_option maxHeartbeats 4000000 in
theorem RX2_keysIn_b27 {d N nc Ls : Nat} {Xs : Nat → Int32} (hd : 0 ≤ d) {h : iv_H} {s : iv_M} (hR : Rep nc Ls Xs h s) {q0 : Nat} (t0 : T2 nc q0) {m1 : Int32} {x1 : Int} (p1 : m1.toInt = x1) {m3 : Int32} {x3 : Int} (p3 : m3.toInt = x3) {ms0 : Int32} {xs0 : Int} (ps0 : ms0.toInt = xs0) {ms1 : Int32} {xs1 : Int} (ps1 : ms1.toInt = xs1) {kb : Int → Int → Option (Int)} {kx : Int → Option (Int)} {r : Int} {Q : Option Value → iv_H → Prop} (hb : ∀ (mw2 : Int32) (xw2 : Int) (pw2 : mw2.toInt = xw2) (mw3 : Int32) (xw3 : Int) (pw3 : mw3.toInt = xw3), kb xw2 xw3 = some r → Rn d 49 (some .int) 4 [some (.ref q0), some (.int m1), some (.int mw2), some (.int mw3)] [] h Q) (hk : ∀ (mw2 : Int32) (xw2 : Int) (pw2 : mw2.toInt = xw2), kx xw2 = some r → Rn d 49 (some .int) 35 [none, none, some (.int mw2), none] [] h Q) (hq : ∀ (z : Int32), z.toInt = r → Q (some (.int z)) h) (e : FX2_keysIn_b27 N s q0 x1 x3 xs0 xs1 kb kx = some r) : Rn d 49 (some .int) 27 [some (.ref q0), some (.int m1), none, some (.int m3)] [.int ms0, .int ms1] h Q := by
  have hT := hX2_keysIn
  unfold FX2_keysIn_b27 at e
  refine Rn.n hT 4 (pc' := 4) (L' := [some (.ref q0), some (.int m1), some (.int (ms1 ||| ms0)), some (.int (m3 + (1 : Int32)))]) (st' := []) rfl ?_
  exact Rn.weak (ll_s (ll_s (ll_s (ll_s ll_e)))) (hb (ms1 ||| ms0) (bOr xs1 xs0) (ti_or ps1 ps0) (m3 + (1 : Int32)) (w32 (x3 + 1)) (ti_add p3 L32_1) e)
def FX2_keysIn_l4 (N : Nat) (s : iv_M) (q0 : Nat) (x1 : Int) (kx : Int → Option (Int)) : Nat → Int → Int → Option (Int)
  | 0, _, _ => none
  | n + 1, x2, x3 => (if 4 < x3 then (kx x2) else ((rd s (q0 + 8) 5 x3).bind fun v_9 => (if v_9 = x1 then (FX2_keysIn_b27 N s q0 x1 x3 (sl32 1 x3) x2 (FX2_keysIn_l4 N s q0 x1 kx n) kx) else (FX2_keysIn_b27 N s q0 x1 x3 0 x2 (FX2_keysIn_l4 N s q0 x1 kx n) kx))))
set_option maxRecDepth 10000 in
set_option maxHeartbeats 4000000 in
theorem RX2_keysIn_l4 {d N nc Ls : Nat} {Xs : Nat → Int32} (hd : 0 ≤ d) {h : iv_H} {s : iv_M} (hR : Rep nc Ls Xs h s) {q0 : Nat} (t0 : T2 nc q0) {m1 : Int32} {x1 : Int} (p1 : m1.toInt = x1) {kx : Int → Option (Int)} {r : Int} {Q : Option Value → iv_H → Prop} (hk : ∀ (m2 : Int32) (x2 : Int) (p2 : m2.toInt = x2), kx x2 = some r → Rn d 49 (some .int) 35 [none, none, some (.int m2), none] [] h Q) (hq : ∀ (z : Int32), z.toInt = r → Q (some (.int z)) h) : ∀ (n : Nat) (m2 : Int32) (x2 : Int) (p2 : m2.toInt = x2) (m3 : Int32) (x3 : Int) (p3 : m3.toInt = x3), FX2_keysIn_l4 N s q0 x1 kx n x2 x3 = some r → Rn d 49 (some .int) 4 [some (.ref q0), some (.int m1), some (.int m2), some (.int m3)] [] h Q := by
  have hT := hX2_keysIn
  intro n
  induction n with
  | zero =>
    intro m2 x2 p2 m3 x3 p3 e
    rw [FX2_keysIn_l4] at e
    cases e
  | succ n ih =>
    intro m2 x2 p2 m3 x3 p3 e
    rw [FX2_keysIn_l4] at e
    refine Rn.n hT 2 (pc' := 6) (L' := [some (.ref q0), some (.int m1), some (.int m2), some (.int m3)]) (st' := [.int (4 : Int32), .int m3]) rfl ?_
    by_cases c_8 : 4 < x3
    · rw [if_pos c_8] at e
      refine Rn.bt hT rfl rfl rfl (decide_eq_true ((ti_l L32_4 p3).mpr c_8)) ?_
      exact Rn.weak (ll_n (ll_n (ll_s (ll_n ll_e)))) (hk m2 x2 p2 e)
    · rw [if_neg c_8] at e
      refine Rn.bf hT rfl rfl rfl (decide_eq_false (fun z => c_8 ((ti_l L32_4 p3).mp z))) ?_
      refine Rn.n hT 2 (pc' := 11) (L' := [some (.ref q0), some (.int m1), some (.int m2), some (.int m3)]) (st' := [.ref q0, .int m2]) rfl ?_
      refine Rn.hp hT rfl rfl (gR_hp (rp_gR hR (T2_o t0) rfl)) ?_
      refine Rn.n hT 1 (pc' := 15) (L' := [some (.ref q0), some (.int m1), some (.int m2), some (.int m3)]) (st' := [.int m3, .ref (q0 + 8), .int m2]) rfl ?_
      obtain ⟨v_9, e_9, e⟩ := Option.bind_eq_some_iff.mp e
      obtain ⟨z_9, g_9, p_9⟩ := rp_aI hR (T2_10 t0) (T2_10l t0) p3 e_9
      refine Rn.hp hT rfl rfl (aI_hp g_9) ?_
      refine Rn.n hT 1 (pc' := 17) (L' := [some (.ref q0), some (.int m1), some (.int m2), some (.int m3)]) (st' := [.int m1, .int z_9, .int m2]) rfl ?_
      by_cases c_10 : v_9 = x1
      · rw [if_pos c_10] at e
        refine Rn.bf hT rfl rfl rfl (decide_eq_false (fun z => z ((ti_e p_9 p1).mpr c_10))) ?_
        refine Rn.n hT 4 (pc' := 27) (L' := [some (.ref q0), some (.int m1), some (.int m2), some (.int m3)]) (st' := [.int ((1 : Int32) <<< (m3 &&& 31)), .int m2]) rfl ?_
        exact Rn.weak (ll_s (ll_s (ll_n (ll_s ll_e)))) (RX2_keysIn_b27 hd hR t0 p1 p3 (ti_shl L32_1 p3) p2 ih hk hq e)
      · rw [if_neg c_10] at e
        refine Rn.bt hT rfl rfl rfl (decide_eq_true (fun z => c_10 ((ti_e p_9 p1).mp z))) ?_
        refine Rn.n hT 1 (pc' := 27) (L' := [some (.ref q0), some (.int m1), some (.int m2), some (.int m3)]) (st' := [.int (0 : Int32), .int m2]) rfl ?_
        exact Rn.weak (ll_s (ll_s (ll_n (ll_s ll_e)))) (RX2_keysIn_b27 hd hR t0 p1 p3 L32_0 p2 ih hk hq e)
def FX2_keysIn (N : Nat) (s : iv_M) (q0 : Nat) (x1 : Int) : Option (Int) := (FX2_keysIn_l4 N s q0 x1 (fun (x7_2 : Int) => (some x7_2)) N 0 1)
set_option maxRecDepth 10000 in
set_option maxHeartbeats 4000000 in
theorem RX2_keysIn {d N nc Ls : Nat} {Xs : Nat → Int32} (hd : 1 ≤ d) {h : iv_H} {s : iv_M} (hR : Rep nc Ls Xs h s) {q0 : Nat} (t0 : T2 nc q0) {m1 : Int32} {x1 : Int} (p1 : m1.toInt = x1) {r : Int} {Q : Option Value → iv_H → Prop} (e : FX2_keysIn N s q0 x1 = some r) (hq : ∀ (z : Int32), z.toInt = r → Q (some (.int z)) h) : Cl d 49 [.ref q0, .int m1] h Q := by
  obtain ⟨d, rfl⟩ : ∃ k, d = k + 1 := ⟨d - 1, by omega⟩
  have hd : 0 ≤ d := by omega
  have hT := hX2_keysIn
  unfold FX2_keysIn at e
  refine Cl.into (by decide) gX2_keysIn rfl ?_
  show Rn d 49 (some .int) 0 [some (.ref q0), some (.int m1), none, none] [] h Q
  refine Rn.n hT 4 (pc' := 4) (L' := [some (.ref q0), some (.int m1), some (.int (0 : Int32)), some (.int (1 : Int32))]) (st' := []) rfl ?_
  refine Rn.weak (ll_s (ll_s (ll_s (ll_s ll_e)))) (RX2_keysIn_l4 hd hR t0 p1 (fun m7_2 x7_2 p7_2 e => ?_) hq N (0 : Int32) 0 L32_0 (1 : Int32) 1 L32_1 e)
  try dsimp only at e
  refine Rn.n hT 1 (pc' := 36) (L' := [none, none, some (.int m7_2), none]) (st' := [.int m7_2]) rfl ?_
  obtain rfl := Option.some.inj e
  exact Rn.ret hT rfl rfl rfl (hq m7_2 p7_2)
set_option maxRecDepth 10000 in
theorem hX0_come : iv_Tb 2 tX0_come := iv_tb_of (m := mX0_come) rfl
set_option maxRecDepth 10000 in
theorem gX0_come : PG.2 2 = some mX0_come := iv_pi_of (t := tX0_come) rfl (by decide)
def FX0_come_b60 (N : Nat) (s : iv_M)   : Option (iv_M) := some s
set_option maxRecDepth 10000 in
set_option maxHeartbeats 4000000 in
theorem RX0_come_b60 {d N nc Ls : Nat} {Xs : Nat → Int32} (hd : 0 ≤ d) {h : iv_H} {s : iv_M} (hR : Rep nc Ls Xs h s)   {r : iv_M} {Q : Option Value → iv_H → Prop} (hq : ∀ h1, Rep nc Ls Xs h1 r → Q none h1) (e : FX0_come_b60 N s   = some r) : Rn d 2 none 60 [none, none, none, none, none] [] h Q := by
  have hT := hX0_come
  unfold FX0_come_b60 at e
  obtain rfl := Option.some.inj e
  exact Rn.ret hT rfl rfl rfl (hq h hR)
def FX0_come (N : Nat) (s : iv_M) (q0 : Nat) (x1 : Int) (x2 : Int) (x3 : Int) : Option (iv_M) := ((rd s (q0 + 1) 384 (w32 ((w32 (32 * x1)) + x2))).bind fun v_11 => (if v_11 = (-1) then (if 384 ≤ (s q0 2) then (FX0_come_b60 N s) else ((wr s (q0 + 1) 384 (w32 ((w32 (32 * x1)) + x2)) x3).bind fun s_16 => ((wr s_16 (q0 + 2) 384 (s_16 q0 2) (w32 ((w32 (32 * x1)) + x2))).bind fun s_19 => ((pt s_19 q0 2 (w32 ((s_19 q0 2) + 1))).bind fun s_22 => (FX0_come_b60 N s_22))))) else (FX0_come_b60 N s)))
set_option maxRecDepth 10000 in
set_option maxHeartbeats 4000000 in
theorem RX0_come {d N nc Ls : Nat} {Xs : Nat → Int32} (hd : 1 ≤ d) {h : iv_H} {s : iv_M} (hR : Rep nc Ls Xs h s) {q0 : Nat} (t0 : T0 nc q0) {m1 : Int32} {x1 : Int} (p1 : m1.toInt = x1) {m2 : Int32} {x2 : Int} (p2 : m2.toInt = x2) {m3 : Int32} {x3 : Int} (p3 : m3.toInt = x3) {r : iv_M} {Q : Option Value → iv_H → Prop} (e : FX0_come N s q0 x1 x2 x3 = some r) (hq : ∀ h1, Rep nc Ls Xs h1 r → Q none h1) : Cl d 2 [.ref q0, .int m1, .int m2, .int m3] h Q := by
  obtain ⟨d, rfl⟩ : ∃ k, d = k + 1 := ⟨d - 1, by omega⟩
  have hd : 0 ≤ d := by omega
  have hT := hX0_come
  unfold FX0_come at e
  refine Cl.into (by decide) gX0_come rfl ?_
  show Rn d 2 none 0 [some (.ref q0), some (.int m1), some (.int m2), some (.int m3), none] [] h Q
  refine Rn.n hT 7 (pc' := 9) (L' := [some (.ref q0), some (.int m1), some (.int m2), some (.int m3), some (.int (((32 : Int32) * m1) + m2))]) (st' := [.ref q0]) rfl ?_
  refine Rn.hp hT rfl rfl (gR_hp (rp_gR hR (T0_o t0) rfl)) ?_
  refine Rn.n hT 1 (pc' := 14) (L' := [some (.ref q0), some (.int m1), some (.int m2), some (.int m3), some (.int (((32 : Int32) * m1) + m2))]) (st' := [.int (((32 : Int32) * m1) + m2), .ref (q0 + 1)]) rfl ?_
  obtain ⟨v_11, e_11, e⟩ := Option.bind_eq_some_iff.mp e
  obtain ⟨z_11, g_11, p_11⟩ := rp_aI hR (T0_0 t0) (T0_0l t0) (ti_add (ti_mul L32_32 p1) p2) e_11
  refine Rn.hp hT rfl rfl (aI_hp g_11) ?_
  refine Rn.n hT 1 (pc' := 16) (L' := [some (.ref q0), some (.int m1), some (.int m2), some (.int m3), some (.int (((32 : Int32) * m1) + m2))]) (st' := [.int (-1 : Int32), .int z_11]) rfl ?_
  by_cases c_12 : v_11 = (-1)
  · rw [if_pos c_12] at e
    refine Rn.bf hT rfl rfl rfl (decide_eq_false (fun z => z ((ti_e p_11 L32_m1).mpr c_12))) ?_
    refine Rn.n hT 1 (pc' := 20) (L' := [some (.ref q0), some (.int m1), some (.int m2), some (.int m3), some (.int (((32 : Int32) * m1) + m2))]) (st' := [.ref q0]) rfl ?_
    obtain ⟨z_13, g_13, p_13⟩ : ∃ z : Int32, gI h 0 2 q0 = some z ∧ z.toInt = s q0 2 := rp_gI (k := 2) hR (T0_o t0) rfl
    refine Rn.hp hT rfl rfl (gI_hp g_13) ?_
    refine Rn.n hT 1 (pc' := 24) (L' := [some (.ref q0), some (.int m1), some (.int m2), some (.int m3), some (.int (((32 : Int32) * m1) + m2))]) (st' := [.ref q0, .int z_13]) rfl ?_
    refine Rn.hp hT rfl rfl (gR_hp (rp_gR hR (T0_o t0) rfl)) ?_
    obtain ⟨z_14, g_14, p_14⟩ : ∃ z : Int32, aL h (q0 + 2) = some z ∧ z.toInt = 384 := rp_aL hR (T0_1 t0) (Or.inl rfl) (T0_1l t0)
    refine Rn.hp hT rfl rfl (aL_hp g_14) ?_
    by_cases c_15 : 384 ≤ (s q0 2)
    · rw [if_pos c_15] at e
      refine Rn.bt hT rfl rfl rfl (decide_eq_true ((ti_le p_14 p_13).mpr c_15)) ?_
      exact Rn.weak (ll_n (ll_n (ll_n (ll_n (ll_n ll_e))))) (RX0_come_b60 hd hR hq e)
    · rw [if_neg c_15] at e
      refine Rn.bf hT rfl rfl rfl (decide_eq_false (fun z => c_15 ((ti_le p_14 p_13).mp z))) ?_
      refine Rn.n hT 1 (pc' := 32) (L' := [some (.ref q0), some (.int m1), some (.int m2), some (.int m3), some (.int (((32 : Int32) * m1) + m2))]) (st' := [.ref q0]) rfl ?_
      refine Rn.hp hT rfl rfl (gR_hp (rp_gR hR (T0_o t0) rfl)) ?_
      refine Rn.n hT 2 (pc' := 38) (L' := [some (.ref q0), some (.int m1), some (.int m2), some (.int m3), some (.int (((32 : Int32) * m1) + m2))]) (st' := [.int m3, .int (((32 : Int32) * m1) + m2), .ref (q0 + 1)]) rfl ?_
      obtain ⟨s_16, e_17, e⟩ := Option.bind_eq_some_iff.mp e
      obtain ⟨h_16, g_17, R_16⟩ := rp_wI hR (T0_0 t0) (T0_0l t0) (ti_add (ti_mul L32_32 p1) p2) p3 e_17
      refine Rn.hp hT rfl rfl (wI_hp g_17) ?_
      refine Rn.n hT 1 (pc' := 40) (L' := [some (.ref q0), some (.int m1), some (.int m2), some (.int m3), some (.int (((32 : Int32) * m1) + m2))]) (st' := [.ref q0]) rfl ?_
      refine Rn.hp hT rfl rfl (gR_hp (rp_gR R_16 (T0_o t0) rfl)) ?_
      refine Rn.n hT 1 (pc' := 44) (L' := [some (.ref q0), some (.int m1), some (.int m2), some (.int m3), some (.int (((32 : Int32) * m1) + m2))]) (st' := [.ref q0, .ref (q0 + 2)]) rfl ?_
      obtain ⟨z_18, g_18, p_18⟩ : ∃ z : Int32, gI h_16 0 2 q0 = some z ∧ z.toInt = s_16 q0 2 := rp_gI (k := 2) R_16 (T0_o t0) rfl
      refine Rn.hp hT rfl rfl (gI_hp g_18) ?_
      refine Rn.n hT 1 (pc' := 49) (L' := [some (.ref q0), some (.int m1), some (.int m2), some (.int m3), some (.int (((32 : Int32) * m1) + m2))]) (st' := [.int (((32 : Int32) * m1) + m2), .int z_18, .ref (q0 + 2)]) rfl ?_
      obtain ⟨s_19, e_20, e⟩ := Option.bind_eq_some_iff.mp e
      obtain ⟨h_19, g_20, R_19⟩ := rp_wI R_16 (T0_1 t0) (T0_1l t0) p_18 (ti_add (ti_mul L32_32 p1) p2) e_20
      refine Rn.hp hT rfl rfl (wI_hp g_20) ?_
      refine Rn.n hT 2 (pc' := 52) (L' := [some (.ref q0), some (.int m1), some (.int m2), some (.int m3), some (.int (((32 : Int32) * m1) + m2))]) (st' := [.ref q0, .ref q0]) rfl ?_
      obtain ⟨z_21, g_21, p_21⟩ : ∃ z : Int32, gI h_19 0 2 q0 = some z ∧ z.toInt = s_19 q0 2 := rp_gI (k := 2) R_19 (T0_o t0) rfl
      refine Rn.hp hT rfl rfl (gI_hp g_21) ?_
      refine Rn.n hT 2 (pc' := 57) (L' := [some (.ref q0), some (.int m1), some (.int m2), some (.int m3), some (.int (((32 : Int32) * m1) + m2))]) (st' := [.int (z_21 + (1 : Int32)), .ref q0]) rfl ?_
      obtain ⟨s_22, e_23, e⟩ := Option.bind_eq_some_iff.mp e
      obtain ⟨h_22, g_23, R_22⟩ := rp_pI (ci := 0) (k := 2) R_19 (T0_o t0) rfl rfl (ti_add p_21 L32_1) e_23
      refine Rn.hp hT rfl rfl (pV_hp rfl g_23) ?_
      exact Rn.weak (ll_n (ll_n (ll_n (ll_n (ll_n ll_e))))) (RX0_come_b60 hd R_22 hq e)
  · rw [if_neg c_12] at e
    refine Rn.bt hT rfl rfl rfl (decide_eq_true (fun z => c_12 ((ti_e p_11 L32_m1).mp z))) ?_
    exact Rn.weak (ll_n (ll_n (ll_n (ll_n (ll_n ll_e))))) (RX0_come_b60 hd hR hq e)
set_option maxRecDepth 10000 in
theorem hX1_throughDoor : iv_Tb 35 tX1_throughDoor := iv_tb_of (m := mX1_throughDoor) rfl
set_option maxRecDepth 10000 in
theorem gX1_throughDoor : PG.2 35 = some mX1_throughDoor := iv_pi_of (t := tX1_throughDoor) rfl (by decide)
def FX1_throughDoor_b52 (N : Nat) (s : iv_M)   : Option (Int) := (some (-1))
set_option maxRecDepth 10000 in
set_option maxHeartbeats 4000000 in
theorem RX1_throughDoor_b52 {d N nc Ls : Nat} {Xs : Nat → Int32} (hd : 0 ≤ d) {h : iv_H} {s : iv_M} (hR : Rep nc Ls Xs h s)   {r : Int} {Q : Option Value → iv_H → Prop} (hq : ∀ (z : Int32), z.toInt = r → Q (some (.int z)) h) (e : FX1_throughDoor_b52 N s   = some r) : Rn d 35 (some .int) 52 [none, none, none, none, none] [] h Q := by
  have hT := hX1_throughDoor
  unfold FX1_throughDoor_b52 at e
  refine Rn.n hT 1 (pc' := 53) (L' := [none, none, none, none, none]) (st' := [.int (-1 : Int32)]) rfl ?_
  obtain rfl := Option.some.inj e
  exact Rn.ret hT rfl rfl rfl (hq (-1 : Int32) L32_m1)
def FX1_throughDoor (N : Nat) (s : iv_M) (q0 : Nat) (x1 : Int) (x2 : Int) : Option (Int) := ((rd s (q0 + 1) 12 x1).bind fun v_24 => ((rd s (q0 + 6) 64 (w32 ((w32 (4 * v_24)) + x2))).bind fun v_25 => (if v_25 = (-1) then (FX1_throughDoor_b52 N s) else ((rd s (q0 + 5) 64 (w32 ((w32 (4 * v_24)) + x2))).bind fun v_27 => (if v_27 = 1 then ((rd s (q0 + 5) 64 (w32 ((w32 (4 * v_25)) + (bXo x2 2)))).bind fun v_29 => (if v_29 = 1 then ((rd s (q0 + 3) 16 v_25).bind fun v_31 => (some v_31)) else (FX1_throughDoor_b52 N s))) else (FX1_throughDoor_b52 N s))))))
set_option maxRecDepth 10000 in
set_option maxHeartbeats 4000000 in
theorem RX1_throughDoor {d N nc Ls : Nat} {Xs : Nat → Int32} (hd : 1 ≤ d) {h : iv_H} {s : iv_M} (hR : Rep nc Ls Xs h s) {q0 : Nat} (t0 : T1 nc q0) {m1 : Int32} {x1 : Int} (p1 : m1.toInt = x1) {m2 : Int32} {x2 : Int} (p2 : m2.toInt = x2) {r : Int} {Q : Option Value → iv_H → Prop} (e : FX1_throughDoor N s q0 x1 x2 = some r) (hq : ∀ (z : Int32), z.toInt = r → Q (some (.int z)) h) : Cl d 35 [.ref q0, .int m1, .int m2] h Q := by
  obtain ⟨d, rfl⟩ : ∃ k, d = k + 1 := ⟨d - 1, by omega⟩
  have hd : 0 ≤ d := by omega
  have hT := hX1_throughDoor
  unfold FX1_throughDoor at e
  refine Cl.into (by decide) gX1_throughDoor rfl ?_
  show Rn d 35 (some .int) 0 [some (.ref q0), some (.int m1), some (.int m2), none, none] [] h Q
  refine Rn.n hT 2 (pc' := 2) (L' := [some (.ref q0), some (.int m1), some (.int m2), none, none]) (st' := [.ref q0, .int (4 : Int32)]) rfl ?_
  refine Rn.hp hT rfl rfl (gR_hp (rp_gR hR (T1_o t0) rfl)) ?_
  refine Rn.n hT 1 (pc' := 6) (L' := [some (.ref q0), some (.int m1), some (.int m2), none, none]) (st' := [.int m1, .ref (q0 + 1), .int (4 : Int32)]) rfl ?_
  obtain ⟨v_24, e_24, e⟩ := Option.bind_eq_some_iff.mp e
  obtain ⟨z_24, g_24, p_24⟩ := rp_aI hR (T1_5 t0) (T1_5l t0) p1 e_24
  refine Rn.hp hT rfl rfl (aI_hp g_24) ?_
  refine Rn.n hT 5 (pc' := 12) (L' := [some (.ref q0), some (.int m1), some (.int m2), some (.int (((4 : Int32) * z_24) + m2)), none]) (st' := [.ref q0]) rfl ?_
  refine Rn.hp hT rfl rfl (gR_hp (rp_gR hR (T1_o t0) rfl)) ?_
  refine Rn.n hT 1 (pc' := 16) (L' := [some (.ref q0), some (.int m1), some (.int m2), some (.int (((4 : Int32) * z_24) + m2)), none]) (st' := [.int (((4 : Int32) * z_24) + m2), .ref (q0 + 6)]) rfl ?_
  obtain ⟨v_25, e_25, e⟩ := Option.bind_eq_some_iff.mp e
  obtain ⟨z_25, g_25, p_25⟩ := rp_aI hR (T1_10 t0) (T1_10l t0) (ti_add (ti_mul L32_4 p_24) p2) e_25
  refine Rn.hp hT rfl rfl (aI_hp g_25) ?_
  refine Rn.n hT 3 (pc' := 22) (L' := [some (.ref q0), some (.int m1), some (.int m2), some (.int (((4 : Int32) * z_24) + m2)), some (.int z_25)]) (st' := [.int (-1 : Int32), .int z_25]) rfl ?_
  by_cases c_26 : v_25 = (-1)
  · rw [if_pos c_26] at e
    refine Rn.bt hT rfl rfl rfl (decide_eq_true ((ti_e p_25 L32_m1).mpr c_26)) ?_
    exact Rn.weak (ll_n (ll_n (ll_n (ll_n (ll_n ll_e))))) (RX1_throughDoor_b52 hd hR hq e)
  · rw [if_neg c_26] at e
    refine Rn.bf hT rfl rfl rfl (decide_eq_false (fun z => c_26 ((ti_e p_25 L32_m1).mp z))) ?_
    refine Rn.n hT 1 (pc' := 26) (L' := [some (.ref q0), some (.int m1), some (.int m2), some (.int (((4 : Int32) * z_24) + m2)), some (.int z_25)]) (st' := [.ref q0]) rfl ?_
    refine Rn.hp hT rfl rfl (gR_hp (rp_gR hR (T1_o t0) rfl)) ?_
    refine Rn.n hT 1 (pc' := 30) (L' := [some (.ref q0), some (.int m1), some (.int m2), some (.int (((4 : Int32) * z_24) + m2)), some (.int z_25)]) (st' := [.int (((4 : Int32) * z_24) + m2), .ref (q0 + 5)]) rfl ?_
    obtain ⟨v_27, e_27, e⟩ := Option.bind_eq_some_iff.mp e
    obtain ⟨z_27, g_27, p_27⟩ := rp_aI hR (T1_9 t0) (T1_9l t0) (ti_add (ti_mul L32_4 p_24) p2) e_27
    refine Rn.hp hT rfl rfl (aI_hp g_27) ?_
    refine Rn.n hT 1 (pc' := 32) (L' := [some (.ref q0), some (.int m1), some (.int m2), some (.int (((4 : Int32) * z_24) + m2)), some (.int z_25)]) (st' := [.int (1 : Int32), .int z_27]) rfl ?_
    by_cases c_28 : v_27 = 1
    · rw [if_pos c_28] at e
      refine Rn.bf hT rfl rfl rfl (decide_eq_false (fun z => z ((ti_e p_27 L32_1).mpr c_28))) ?_
      refine Rn.n hT 1 (pc' := 36) (L' := [some (.ref q0), some (.int m1), some (.int m2), some (.int (((4 : Int32) * z_24) + m2)), some (.int z_25)]) (st' := [.ref q0]) rfl ?_
      refine Rn.hp hT rfl rfl (gR_hp (rp_gR hR (T1_o t0) rfl)) ?_
      refine Rn.n hT 7 (pc' := 47) (L' := [some (.ref q0), some (.int m1), some (.int m2), some (.int (((4 : Int32) * z_24) + m2)), some (.int z_25)]) (st' := [.int (((4 : Int32) * z_25) + (m2 ^^^ (2 : Int32))), .ref (q0 + 5)]) rfl ?_
      obtain ⟨v_29, e_29, e⟩ := Option.bind_eq_some_iff.mp e
      obtain ⟨z_29, g_29, p_29⟩ := rp_aI hR (T1_9 t0) (T1_9l t0) (ti_add (ti_mul L32_4 p_25) (ti_xor p2 L32_2)) e_29
      refine Rn.hp hT rfl rfl (aI_hp g_29) ?_
      refine Rn.n hT 1 (pc' := 49) (L' := [some (.ref q0), some (.int m1), some (.int m2), some (.int (((4 : Int32) * z_24) + m2)), some (.int z_25)]) (st' := [.int (1 : Int32), .int z_29]) rfl ?_
      by_cases c_30 : v_29 = 1
      · rw [if_pos c_30] at e
        refine Rn.bt hT rfl rfl rfl (decide_eq_true ((ti_e p_29 L32_1).mpr c_30)) ?_
        refine Rn.n hT 1 (pc' := 55) (L' := [some (.ref q0), some (.int m1), some (.int m2), some (.int (((4 : Int32) * z_24) + m2)), some (.int z_25)]) (st' := [.ref q0]) rfl ?_
        refine Rn.hp hT rfl rfl (gR_hp (rp_gR hR (T1_o t0) rfl)) ?_
        refine Rn.n hT 1 (pc' := 60) (L' := [some (.ref q0), some (.int m1), some (.int m2), some (.int (((4 : Int32) * z_24) + m2)), some (.int z_25)]) (st' := [.int z_25, .ref (q0 + 3)]) rfl ?_
        obtain ⟨v_31, e_31, e⟩ := Option.bind_eq_some_iff.mp e
        obtain ⟨z_31, g_31, p_31⟩ := rp_aI hR (T1_7 t0) (T1_7l t0) p_25 e_31
        refine Rn.hp hT rfl rfl (aI_hp g_31) ?_
        obtain rfl := Option.some.inj e
        exact Rn.ret hT rfl rfl rfl (hq z_31 p_31)
      · rw [if_neg c_30] at e
        refine Rn.bf hT rfl rfl rfl (decide_eq_false (fun z => c_30 ((ti_e p_29 L32_1).mp z))) ?_
        exact Rn.weak (ll_n (ll_n (ll_n (ll_n (ll_n ll_e))))) (RX1_throughDoor_b52 hd hR hq e)
    · rw [if_neg c_28] at e
      refine Rn.bt hT rfl rfl rfl (decide_eq_true (fun z => c_28 ((ti_e p_27 L32_1).mp z))) ?_
      exact Rn.weak (ll_n (ll_n (ll_n (ll_n (ll_n ll_e))))) (RX1_throughDoor_b52 hd hR hq e)
set_option maxRecDepth 10000 in
theorem hX1_sortOf : iv_Tb 20 tX1_sortOf := iv_tb_of (m := mX1_sortOf) rfl
set_option maxRecDepth 10000 in
theorem gX1_sortOf : PG.2 20 = some mX1_sortOf := iv_pi_of (t := tX1_sortOf) rfl (by decide)
def FX1_sortOf (N : Nat) (s : iv_M) (q0 : Nat) (x1 : Int) (x2 : Int) : Option (Int) := ((rd s (q0 + 2) 12 x1).bind fun v_32 => ((rd s (q0 + 4) 48 (w32 ((w32 (4 * x1)) + (bAn (w32 (x2 - v_32)) 3)))).bind fun v_33 => (some v_33)))
set_option maxRecDepth 10000 in
set_option maxHeartbeats 4000000 in
theorem RX1_sortOf {d N nc Ls : Nat} {Xs : Nat → Int32} (hd : 1 ≤ d) {h : iv_H} {s : iv_M} (hR : Rep nc Ls Xs h s) {q0 : Nat} (t0 : T1 nc q0) {m1 : Int32} {x1 : Int} (p1 : m1.toInt = x1) {m2 : Int32} {x2 : Int} (p2 : m2.toInt = x2) {r : Int} {Q : Option Value → iv_H → Prop} (e : FX1_sortOf N s q0 x1 x2 = some r) (hq : ∀ (z : Int32), z.toInt = r → Q (some (.int z)) h) : Cl d 20 [.ref q0, .int m1, .int m2] h Q := by
  obtain ⟨d, rfl⟩ : ∃ k, d = k + 1 := ⟨d - 1, by omega⟩
  have hd : 0 ≤ d := by omega
  have hT := hX1_sortOf
  unfold FX1_sortOf at e
  refine Cl.into (by decide) gX1_sortOf rfl ?_
  show Rn d 20 (some .int) 0 [some (.ref q0), some (.int m1), some (.int m2)] [] h Q
  refine Rn.n hT 1 (pc' := 1) (L' := [some (.ref q0), some (.int m1), some (.int m2)]) (st' := [.ref q0]) rfl ?_
  refine Rn.hp hT rfl rfl (gR_hp (rp_gR hR (T1_o t0) rfl)) ?_
  refine Rn.n hT 5 (pc' := 9) (L' := [some (.ref q0), some (.int m1), some (.int m2)]) (st' := [.ref q0, .int m2, .int ((4 : Int32) * m1), .ref (q0 + 4)]) rfl ?_
  refine Rn.hp hT rfl rfl (gR_hp (rp_gR hR (T1_o t0) rfl)) ?_
  refine Rn.n hT 1 (pc' := 13) (L' := [some (.ref q0), some (.int m1), some (.int m2)]) (st' := [.int m1, .ref (q0 + 2), .int m2, .int ((4 : Int32) * m1), .ref (q0 + 4)]) rfl ?_
  obtain ⟨v_32, e_32, e⟩ := Option.bind_eq_some_iff.mp e
  obtain ⟨z_32, g_32, p_32⟩ := rp_aI hR (T1_6 t0) (T1_6l t0) p1 e_32
  refine Rn.hp hT rfl rfl (aI_hp g_32) ?_
  refine Rn.n hT 4 (pc' := 18) (L' := [some (.ref q0), some (.int m1), some (.int m2)]) (st' := [.int (((4 : Int32) * m1) + ((m2 - z_32) &&& (3 : Int32))), .ref (q0 + 4)]) rfl ?_
  obtain ⟨v_33, e_33, e⟩ := Option.bind_eq_some_iff.mp e
  obtain ⟨z_33, g_33, p_33⟩ := rp_aI hR (T1_8 t0) (T1_8l t0) (ti_add (ti_mul L32_4 p1) (ti_and (ti_sub p2 p_32) L32_3)) e_33
  refine Rn.hp hT rfl rfl (aI_hp g_33) ?_
  obtain rfl := Option.some.inj e
  exact Rn.ret hT rfl rfl rfl (hq z_33 p_33)
set_option maxRecDepth 10000 in
theorem hX1_locksBetween : iv_Tb 36 tX1_locksBetween := iv_tb_of (m := mX1_locksBetween) rfl
set_option maxRecDepth 10000 in
theorem gX1_locksBetween : PG.2 36 = some mX1_locksBetween := iv_pi_of (t := tX1_locksBetween) rfl (by decide)
def FX1_locksBetween_b60 (N : Nat) (s : iv_M)  (xs0 : Int) : Option (Int) := (some xs0)
set_option maxRecDepth 10000 in
set_option maxHeartbeats 4000000 in
theorem RX1_locksBetween_b60 {d N nc Ls : Nat} {Xs : Nat → Int32} (hd : 1 ≤ d) {h : iv_H} {s : iv_M} (hR : Rep nc Ls Xs h s)  {ms0 : Int32} {xs0 : Int} (ps0 : ms0.toInt = xs0) {r : Int} {Q : Option Value → iv_H → Prop} (hq : ∀ (z : Int32), z.toInt = r → Q (some (.int z)) h) (e : FX1_locksBetween_b60 N s  xs0 = some r) : Rn d 36 (some .int) 60 [none, none, none, none, none, none, none] [.int ms0] h Q := by
  have hT := hX1_locksBetween
  unfold FX1_locksBetween_b60 at e
  obtain rfl := Option.some.inj e
  exact Rn.ret hT rfl rfl rfl (hq ms0 ps0)
def FX1_locksBetween_b36 (N : Nat) (s : iv_M) (x5 : Int) (xs0 : Int) : Option (Int) := (if x5 < 3 then (FX1_locksBetween_b60 N s xs0) else (FX1_locksBetween_b60 N s (bOr xs0 (sl32 1 (w32 ((w32 (x5 - 3)) + 1))))))
set_option maxRecDepth 10000 in
set_option maxHeartbeats 4000000 in
theorem RX1_locksBetween_b36 {d N nc Ls : Nat} {Xs : Nat → Int32} (hd : 1 ≤ d) {h : iv_H} {s : iv_M} (hR : Rep nc Ls Xs h s) {m5 : Int32} {x5 : Int} (p5 : m5.toInt = x5) {ms0 : Int32} {xs0 : Int} (ps0 : ms0.toInt = xs0) {r : Int} {Q : Option Value → iv_H → Prop} (hq : ∀ (z : Int32), z.toInt = r → Q (some (.int z)) h) (e : FX1_locksBetween_b36 N s x5 xs0 = some r) : Rn d 36 (some .int) 36 [none, none, none, none, none, some (.int m5), none] [.int ms0] h Q := by
  have hT := hX1_locksBetween
  unfold FX1_locksBetween_b36 at e
  refine Rn.n hT 3 (pc' := 41) (L' := [none, none, none, none, none, some (.int m5), some (.int ms0)]) (st' := [.int (3 : Int32), .int m5]) rfl ?_
  by_cases c_37 : x5 < 3
  · rw [if_pos c_37] at e
    refine Rn.bt hT rfl rfl rfl (decide_eq_true ((ti_l p5 L32_3).mpr c_37)) ?_
    refine Rn.n hT 1 (pc' := 60) (L' := [none, none, none, none, none, some (.int m5), some (.int ms0)]) (st' := [.int ms0]) rfl ?_
    exact Rn.weak (ll_n (ll_n (ll_n (ll_n (ll_n (ll_n (ll_n ll_e))))))) (RX1_locksBetween_b60 hd hR ps0 hq e)
  · rw [if_neg c_37] at e
    refine Rn.bf hT rfl rfl rfl (decide_eq_false (fun z => c_37 ((ti_l p5 L32_3).mp z))) ?_
    refine Rn.n hT 10 (pc' := 60) (L' := [none, none, none, none, none, some (.int m5), some (.int ms0)]) (st' := [.int (ms0 ||| ((1 : Int32) <<< (((m5 - (3 : Int32)) + (1 : Int32)) &&& 31)))]) rfl ?_
    exact Rn.weak (ll_n (ll_n (ll_n (ll_n (ll_n (ll_n (ll_n ll_e))))))) (RX1_locksBetween_b60 hd hR (ti_or ps0 (ti_shl L32_1 (ti_add (ti_sub p5 L32_3) L32_1))) hq e)
def FX1_locksBetween (N : Nat) (s : iv_M) (q0 : Nat) (x1 : Int) (x2 : Int) (x3 : Int) : Option (Int) := ((FX1_sortOf N s q0 x1 x2).bind fun v_34 => ((FX1_sortOf N s q0 x3 (bXo x2 2)).bind fun v_35 => (if v_34 < 3 then (FX1_locksBetween_b36 N s v_35 0) else (FX1_locksBetween_b36 N s v_35 (sl32 1 (w32 ((w32 (v_34 - 3)) + 1)))))))
set_option maxRecDepth 10000 in
set_option maxHeartbeats 4000000 in
theorem RX1_locksBetween {d N nc Ls : Nat} {Xs : Nat → Int32} (hd : 2 ≤ d) {h : iv_H} {s : iv_M} (hR : Rep nc Ls Xs h s) {q0 : Nat} (t0 : T1 nc q0) {m1 : Int32} {x1 : Int} (p1 : m1.toInt = x1) {m2 : Int32} {x2 : Int} (p2 : m2.toInt = x2) {m3 : Int32} {x3 : Int} (p3 : m3.toInt = x3) {r : Int} {Q : Option Value → iv_H → Prop} (e : FX1_locksBetween N s q0 x1 x2 x3 = some r) (hq : ∀ (z : Int32), z.toInt = r → Q (some (.int z)) h) : Cl d 36 [.ref q0, .int m1, .int m2, .int m3] h Q := by
  obtain ⟨d, rfl⟩ : ∃ k, d = k + 1 := ⟨d - 1, by omega⟩
  have hd : 1 ≤ d := by omega
  have hT := hX1_locksBetween
  unfold FX1_locksBetween at e
  refine Cl.into (by decide) gX1_locksBetween rfl ?_
  show Rn d 36 (some .int) 0 [some (.ref q0), some (.int m1), some (.int m2), some (.int m3), none, none, none] [] h Q
  refine Rn.n hT 3 (pc' := 3) (L' := [some (.ref q0), some (.int m1), some (.int m2), some (.int m3), none, none, none]) (st' := [.int m2, .int m1, .ref q0]) rfl ?_
  obtain ⟨v_34, e_34, e⟩ := Option.bind_eq_some_iff.mp e
  refine Rn.call hT rfl rfl rfl (Nat.le_of_ble_eq_true rfl) (rcv_v gX1_sortOf (by omega) (rp_ck hR (T1_o t0))) (RX1_sortOf (by omega) hR t0 p1 p2 e_34 (fun z_34 p_34 => ?_))
  show Rn d _ _ 6 [some (.ref q0), some (.int m1), some (.int m2), some (.int m3), none, none, none] [.int z_34] h Q
  refine Rn.n hT 6 (pc' := 13) (L' := [some (.ref q0), some (.int m1), some (.int m2), some (.int m3), some (.int z_34), none, none]) (st' := [.int (m2 ^^^ (2 : Int32)), .int m3, .ref q0]) rfl ?_
  obtain ⟨v_35, e_35, e⟩ := Option.bind_eq_some_iff.mp e
  refine Rn.call hT rfl rfl rfl (Nat.le_of_ble_eq_true rfl) (rcv_v gX1_sortOf (by omega) (rp_ck hR (T1_o t0))) (RX1_sortOf (by omega) hR t0 p3 (ti_xor p2 L32_2) e_35 (fun z_35 p_35 => ?_))
  show Rn d _ _ 16 [some (.ref q0), some (.int m1), some (.int m2), some (.int m3), some (.int z_34), none, none] [.int z_35] h Q
  refine Rn.n hT 3 (pc' := 21) (L' := [some (.ref q0), some (.int m1), some (.int m2), some (.int m3), some (.int z_34), some (.int z_35), none]) (st' := [.int (3 : Int32), .int z_34]) rfl ?_
  by_cases c_36 : v_34 < 3
  · rw [if_pos c_36] at e
    refine Rn.bt hT rfl rfl rfl (decide_eq_true ((ti_l p_34 L32_3).mpr c_36)) ?_
    refine Rn.n hT 1 (pc' := 36) (L' := [some (.ref q0), some (.int m1), some (.int m2), some (.int m3), some (.int z_34), some (.int z_35), none]) (st' := [.int (0 : Int32)]) rfl ?_
    exact Rn.weak (ll_n (ll_n (ll_n (ll_n (ll_n (ll_s (ll_n ll_e))))))) (RX1_locksBetween_b36 hd hR p_35 L32_0 hq e)
  · rw [if_neg c_36] at e
    refine Rn.bf hT rfl rfl rfl (decide_eq_false (fun z => c_36 ((ti_l p_34 L32_3).mp z))) ?_
    refine Rn.n hT 8 (pc' := 36) (L' := [some (.ref q0), some (.int m1), some (.int m2), some (.int m3), some (.int z_34), some (.int z_35), none]) (st' := [.int ((1 : Int32) <<< (((z_34 - (3 : Int32)) + (1 : Int32)) &&& 31))]) rfl ?_
    exact Rn.weak (ll_n (ll_n (ll_n (ll_n (ll_n (ll_s (ll_n ll_e))))))) (RX1_locksBetween_b36 hd hR p_35 (ti_shl L32_1 (ti_add (ti_sub p_34 L32_3) L32_1)) hq e)
set_option maxRecDepth 10000 in
theorem hX0_spread : iv_Tb 1 tX0_spread := iv_tb_of (m := mX0_spread) rfl
set_option maxRecDepth 10000 in
theorem gX0_spread : PG.2 1 = some mX0_spread := iv_pi_of (t := tX0_spread) rfl (by decide)
def FX0_spread_b142 (N : Nat) (s : iv_M) (q0 : Nat) (q1 : Nat) (x3 : Int) (x4 : Int) (x5 : Int) (x6 : Int)  (kb : iv_M → Int → Option (iv_M)) (kx : iv_M → Option (iv_M)) : Option (iv_M) := (kb s (w32 (x6 + 1)))
set_option maxRecDepth 10000 in
set_option maxHeartbeats 4000000 in
theorem RX0_spread_b142 {d N nc Ls : Nat} {Xs : Nat → Int32} (hd : 2 ≤ d) {h : iv_H} {s : iv_M} (hR : Rep nc Ls Xs h s) {q0 : Nat} (t0 : T0 nc q0) {q1 : Nat} (t1 : T2 nc q1) {m3 : Int32} {x3 : Int} (p3 : m3.toInt = x3) {m4 : Int32} {x4 : Int} (p4 : m4.toInt = x4) {m5 : Int32} {x5 : Int} (p5 : m5.toInt = x5) {m6 : Int32} {x6 : Int} (p6 : m6.toInt = x6)  {kb : iv_M → Int → Option (iv_M)} {kx : iv_M → Option (iv_M)} {r : iv_M} {Q : Option Value → iv_H → Prop} (hb : ∀ (h : iv_H) (s : iv_M) (hR : Rep nc Ls Xs h s) (mw6 : Int32) (xw6 : Int) (pw6 : mw6.toInt = xw6), kb s xw6 = some r → Rn d 1 none 68 [some (.ref q0), some (.ref q1), none, some (.int m3), some (.int m4), some (.int m5), some (.int mw6), none] [] h Q) (hk : ∀ (h : iv_H) (s : iv_M) (hR : Rep nc Ls Xs h s), kx s = some r → Rn d 1 none 148 [some (.ref q0), some (.ref q1), none, some (.int m3), none, none, none, none] [] h Q) (hq : ∀ h1, Rep nc Ls Xs h1 r → Q none h1) (e : FX0_spread_b142 N s q0 q1 x3 x4 x5 x6  kb kx = some r) : Rn d 1 none 142 [some (.ref q0), some (.ref q1), none, some (.int m3), some (.int m4), some (.int m5), some (.int m6), none] [] h Q := by
  have hT := hX0_spread
  unfold FX0_spread_b142 at e
  refine Rn.n hT 2 (pc' := 68) (L' := [some (.ref q0), some (.ref q1), none, some (.int m3), some (.int m4), some (.int m5), some (.int (m6 + (1 : Int32))), none]) (st' := []) rfl ?_
  exact Rn.weak (ll_s (ll_s (ll_n (ll_s (ll_s (ll_s (ll_s (ll_n ll_e)))))))) (hb h s hR (m6 + (1 : Int32)) (w32 (x6 + 1)) (ti_add p6 L32_1) e)
def FX0_spread_l68 (N : Nat) (q0 : Nat) (q1 : Nat) (x3 : Int) (x4 : Int) (x5 : Int) (kx : iv_M → Option (iv_M)) : Nat → iv_M → Int → Option (iv_M)
  | 0, _, _ => none
  | n + 1, s, x6 => (if 4 ≤ x6 then (kx s) else ((FX1_throughDoor N s (q1 + 1) x4 x6).bind fun v_56 => (if v_56 = (-1) then (FX0_spread_b142 N s q0 q1 x3 x4 x5 x6 (FX0_spread_l68 N q0 q1 x3 x4 x5 kx n) kx) else ((FX1_locksBetween N s (q1 + 1) x4 x6 v_56).bind fun v_58 => (if (bAn v_58 (bXo x5 (-1))) = 0 then ((FX2_keysIn N s q1 v_56).bind fun v_60 => ((rd s (q0 + 2) 384 x3).bind fun v_61 => ((rd s (q0 + 1) 384 v_61).bind fun v_62 => ((FX0_come N s q0 v_56 (bOr x5 v_60) (w32 (v_62 + 1))).bind fun s_64 => (FX0_spread_b142 N s_64 q0 q1 x3 x4 x5 x6 (FX0_spread_l68 N q0 q1 x3 x4 x5 kx n) kx))))) else (FX0_spread_b142 N s q0 q1 x3 x4 x5 x6 (FX0_spread_l68 N q0 q1 x3 x4 x5 kx n) kx))))))
set_option maxRecDepth 10000 in
set_option maxHeartbeats 4000000 in
theorem RX0_spread_l68 {d N nc Ls : Nat} {Xs : Nat → Int32} (hd : 2 ≤ d) {q0 : Nat} (t0 : T0 nc q0) {q1 : Nat} (t1 : T2 nc q1) {m3 : Int32} {x3 : Int} (p3 : m3.toInt = x3) {m4 : Int32} {x4 : Int} (p4 : m4.toInt = x4) {m5 : Int32} {x5 : Int} (p5 : m5.toInt = x5) {kx : iv_M → Option (iv_M)} {r : iv_M} {Q : Option Value → iv_H → Prop} (hk : ∀ (h : iv_H) (s : iv_M) (hR : Rep nc Ls Xs h s), kx s = some r → Rn d 1 none 148 [some (.ref q0), some (.ref q1), none, some (.int m3), none, none, none, none] [] h Q) (hq : ∀ h1, Rep nc Ls Xs h1 r → Q none h1) : ∀ (n : Nat) (h : iv_H) (s : iv_M) (hR : Rep nc Ls Xs h s) (m6 : Int32) (x6 : Int) (p6 : m6.toInt = x6), FX0_spread_l68 N q0 q1 x3 x4 x5 kx n s x6 = some r → Rn d 1 none 68 [some (.ref q0), some (.ref q1), none, some (.int m3), some (.int m4), some (.int m5), some (.int m6), none] [] h Q := by
  have hT := hX0_spread
  intro n
  induction n with
  | zero =>
    intro h s hR m6 x6 p6 e
    rw [FX0_spread_l68] at e
    cases e
  | succ n ih =>
    intro h s hR m6 x6 p6 e
    rw [FX0_spread_l68] at e
    refine Rn.n hT 2 (pc' := 71) (L' := [some (.ref q0), some (.ref q1), none, some (.int m3), some (.int m4), some (.int m5), some (.int m6), none]) (st' := [.int (4 : Int32), .int m6]) rfl ?_
    by_cases c_55 : 4 ≤ x6
    · rw [if_pos c_55] at e
      refine Rn.bt hT rfl rfl rfl (decide_eq_true ((ti_le L32_4 p6).mpr c_55)) ?_
      exact Rn.weak (ll_s (ll_s (ll_n (ll_s (ll_n (ll_n (ll_n (ll_n ll_e)))))))) (hk h s hR e)
    · rw [if_neg c_55] at e
      refine Rn.bf hT rfl rfl rfl (decide_eq_false (fun z => c_55 ((ti_le L32_4 p6).mp z))) ?_
      refine Rn.n hT 1 (pc' := 75) (L' := [some (.ref q0), some (.ref q1), none, some (.int m3), some (.int m4), some (.int m5), some (.int m6), none]) (st' := [.ref q1]) rfl ?_
      refine Rn.hp hT rfl rfl (gR_hp (rp_gR hR (T2_o t1) rfl)) ?_
      refine Rn.n hT 2 (pc' := 82) (L' := [some (.ref q0), some (.ref q1), none, some (.int m3), some (.int m4), some (.int m5), some (.int m6), none]) (st' := [.int m6, .int m4, .ref (q1 + 1)]) rfl ?_
      obtain ⟨v_56, e_56, e⟩ := Option.bind_eq_some_iff.mp e
      refine Rn.call hT rfl rfl rfl (Nat.le_of_ble_eq_true rfl) (rcv_v gX1_throughDoor (by omega) (rp_ck hR (T1_o (T2_9 t1)))) (RX1_throughDoor (by omega) hR (T2_9 t1) p4 p6 e_56 (fun z_56 p_56 => ?_))
      show Rn d _ _ 85 [some (.ref q0), some (.ref q1), none, some (.int m3), some (.int m4), some (.int m5), some (.int m6), none] [.int z_56] h Q
      refine Rn.n hT 3 (pc' := 90) (L' := [some (.ref q0), some (.ref q1), none, some (.int m3), some (.int m4), some (.int m5), some (.int m6), some (.int z_56)]) (st' := [.int (-1 : Int32), .int z_56]) rfl ?_
      by_cases c_57 : v_56 = (-1)
      · rw [if_pos c_57] at e
        refine Rn.bt hT rfl rfl rfl (decide_eq_true ((ti_e p_56 L32_m1).mpr c_57)) ?_
        exact Rn.weak (ll_s (ll_s (ll_n (ll_s (ll_s (ll_s (ll_s (ll_n ll_e)))))))) (RX0_spread_b142 hd hR t0 t1 p3 p4 p5 p6 ih hk hq e)
      · rw [if_neg c_57] at e
        refine Rn.bf hT rfl rfl rfl (decide_eq_false (fun z => c_57 ((ti_e p_56 L32_m1).mp z))) ?_
        refine Rn.n hT 1 (pc' := 94) (L' := [some (.ref q0), some (.ref q1), none, some (.int m3), some (.int m4), some (.int m5), some (.int m6), some (.int z_56)]) (st' := [.ref q1]) rfl ?_
        refine Rn.hp hT rfl rfl (gR_hp (rp_gR hR (T2_o t1) rfl)) ?_
        refine Rn.n hT 3 (pc' := 103) (L' := [some (.ref q0), some (.ref q1), none, some (.int m3), some (.int m4), some (.int m5), some (.int m6), some (.int z_56)]) (st' := [.int z_56, .int m6, .int m4, .ref (q1 + 1)]) rfl ?_
        obtain ⟨v_58, e_58, e⟩ := Option.bind_eq_some_iff.mp e
        refine Rn.call hT rfl rfl rfl (Nat.le_of_ble_eq_true rfl) (rcv_v gX1_locksBetween (by omega) (rp_ck hR (T1_o (T2_9 t1)))) (RX1_locksBetween (by omega) hR (T2_9 t1) p4 p6 p_56 e_58 (fun z_58 p_58 => ?_))
        show Rn d _ _ 106 [some (.ref q0), some (.ref q1), none, some (.int m3), some (.int m4), some (.int m5), some (.int m6), some (.int z_56)] [.int z_58] h Q
        refine Rn.n hT 4 (pc' := 111) (L' := [some (.ref q0), some (.ref q1), none, some (.int m3), some (.int m4), some (.int m5), some (.int m6), some (.int z_56)]) (st' := [.int (z_58 &&& (m5 ^^^ (-1 : Int32)))]) rfl ?_
        by_cases c_59 : (bAn v_58 (bXo x5 (-1))) = 0
        · rw [if_pos c_59] at e
          refine Rn.bf hT rfl rfl rfl (decide_eq_false (fun z => z ((ti_e (ti_and p_58 (ti_xor p5 L32_m1)) L32_0).mpr c_59))) ?_
          refine Rn.n hT 5 (pc' := 122) (L' := [some (.ref q0), some (.ref q1), none, some (.int m3), some (.int m4), some (.int m5), some (.int m6), some (.int z_56)]) (st' := [.int z_56, .ref q1, .int m5, .int z_56, .ref q0]) rfl ?_
          obtain ⟨v_60, e_60, e⟩ := Option.bind_eq_some_iff.mp e
          refine Rn.call hT rfl rfl rfl (Nat.le_of_ble_eq_true rfl) (rcv_v gX2_keysIn (by omega) (rp_ck hR (T2_o t1))) (RX2_keysIn (by omega) hR t1 p_56 e_60 (fun z_60 p_60 => ?_))
          show Rn d _ _ 125 [some (.ref q0), some (.ref q1), none, some (.int m3), some (.int m4), some (.int m5), some (.int m6), some (.int z_56)] [.int z_60, .int m5, .int z_56, .ref q0] h Q
          refine Rn.n hT 2 (pc' := 127) (L' := [some (.ref q0), some (.ref q1), none, some (.int m3), some (.int m4), some (.int m5), some (.int m6), some (.int z_56)]) (st' := [.ref q0, .int (m5 ||| z_60), .int z_56, .ref q0]) rfl ?_
          refine Rn.hp hT rfl rfl (gR_hp (rp_gR hR (T0_o t0) rfl)) ?_
          refine Rn.n hT 1 (pc' := 131) (L' := [some (.ref q0), some (.ref q1), none, some (.int m3), some (.int m4), some (.int m5), some (.int m6), some (.int z_56)]) (st' := [.ref q0, .ref (q0 + 1), .int (m5 ||| z_60), .int z_56, .ref q0]) rfl ?_
          refine Rn.hp hT rfl rfl (gR_hp (rp_gR hR (T0_o t0) rfl)) ?_
          refine Rn.n hT 1 (pc' := 135) (L' := [some (.ref q0), some (.ref q1), none, some (.int m3), some (.int m4), some (.int m5), some (.int m6), some (.int z_56)]) (st' := [.int m3, .ref (q0 + 2), .ref (q0 + 1), .int (m5 ||| z_60), .int z_56, .ref q0]) rfl ?_
          obtain ⟨v_61, e_61, e⟩ := Option.bind_eq_some_iff.mp e
          obtain ⟨z_61, g_61, p_61⟩ := rp_aI hR (T0_1 t0) (T0_1l t0) p3 e_61
          refine Rn.hp hT rfl rfl (aI_hp g_61) ?_
          obtain ⟨v_62, e_62, e⟩ := Option.bind_eq_some_iff.mp e
          obtain ⟨z_62, g_62, p_62⟩ := rp_aI hR (T0_0 t0) (T0_0l t0) p_61 e_62
          refine Rn.hp hT rfl rfl (aI_hp g_62) ?_
          refine Rn.n hT 2 (pc' := 139) (L' := [some (.ref q0), some (.ref q1), none, some (.int m3), some (.int m4), some (.int m5), some (.int m6), some (.int z_56)]) (st' := [.int (z_62 + (1 : Int32)), .int (m5 ||| z_60), .int z_56, .ref q0]) rfl ?_
          obtain ⟨s_64, e_63, e⟩ := Option.bind_eq_some_iff.mp e
          refine Rn.call hT rfl rfl rfl (Nat.le_of_ble_eq_true rfl) (rcv_v gX0_come (by omega) (rp_ck hR (T0_o t0))) (RX0_come (by omega) hR t0 p_56 (ti_or p5 p_60) (ti_add p_62 L32_1) e_63 (fun h_64 R_64 => ?_))
          show Rn d _ _ 142 [some (.ref q0), some (.ref q1), none, some (.int m3), some (.int m4), some (.int m5), some (.int m6), some (.int z_56)] [] h_64 Q
          exact Rn.weak (ll_s (ll_s (ll_n (ll_s (ll_s (ll_s (ll_s (ll_n ll_e)))))))) (RX0_spread_b142 hd R_64 t0 t1 p3 p4 p5 p6 ih hk hq e)
        · rw [if_neg c_59] at e
          refine Rn.bt hT rfl rfl rfl (decide_eq_true (fun z => c_59 ((ti_e (ti_and p_58 (ti_xor p5 L32_m1)) L32_0).mp z))) ?_
          exact Rn.weak (ll_s (ll_s (ll_n (ll_s (ll_s (ll_s (ll_s (ll_n ll_e)))))))) (RX0_spread_b142 hd hR t0 t1 p3 p4 p5 p6 ih hk hq e)
def FX0_spread_l26 (N : Nat) (q0 : Nat) (q1 : Nat) (kx : iv_M → Option (iv_M)) : Nat → iv_M → Int → Option (iv_M)
  | 0, _, _ => none
  | n + 1, s, x3 => (if (s q0 2) ≤ x3 then (kx s) else (if 384 ≤ x3 then (kx s) else ((rd s (q0 + 2) 384 x3).bind fun v_51 => ((rd s (q0 + 2) 384 x3).bind fun v_52 => (FX0_spread_l68 N q0 q1 x3 (dv32 v_51 32) (Int.tmod v_52 32) (fun (s_53 : iv_M) => (FX0_spread_l26 N q0 q1 kx n s_53 (w32 (x3 + 1)))) N s 0)))))
set_option maxRecDepth 10000 in
set_option maxHeartbeats 4000000 in
theorem RX0_spread_l26 {d N nc Ls : Nat} {Xs : Nat → Int32} (hd : 2 ≤ d) {q0 : Nat} (t0 : T0 nc q0) {q1 : Nat} (t1 : T2 nc q1) {kx : iv_M → Option (iv_M)} {r : iv_M} {Q : Option Value → iv_H → Prop} (hk : ∀ (h : iv_H) (s : iv_M) (hR : Rep nc Ls Xs h s), kx s = some r → Rn d 1 none 154 [none, none, none, none, none, none, none, none] [] h Q) (hq : ∀ h1, Rep nc Ls Xs h1 r → Q none h1) : ∀ (n : Nat) (h : iv_H) (s : iv_M) (hR : Rep nc Ls Xs h s) (m3 : Int32) (x3 : Int) (p3 : m3.toInt = x3), FX0_spread_l26 N q0 q1 kx n s x3 = some r → Rn d 1 none 26 [some (.ref q0), some (.ref q1), none, some (.int m3), none, none, none, none] [] h Q := by
  have hT := hX0_spread
  intro n
  induction n with
  | zero =>
    intro h s hR m3 x3 p3 e
    rw [FX0_spread_l26] at e
    cases e
  | succ n ih =>
    intro h s hR m3 x3 p3 e
    rw [FX0_spread_l26] at e
    refine Rn.n hT 2 (pc' := 28) (L' := [some (.ref q0), some (.ref q1), none, some (.int m3), none, none, none, none]) (st' := [.ref q0, .int m3]) rfl ?_
    obtain ⟨z_47, g_47, p_47⟩ : ∃ z : Int32, gI h 0 2 q0 = some z ∧ z.toInt = s q0 2 := rp_gI (k := 2) hR (T0_o t0) rfl
    refine Rn.hp hT rfl rfl (gI_hp g_47) ?_
    by_cases c_48 : (s q0 2) ≤ x3
    · rw [if_pos c_48] at e
      refine Rn.bt hT rfl rfl rfl (decide_eq_true ((ti_le p_47 p3).mpr c_48)) ?_
      exact Rn.weak (ll_n (ll_n (ll_n (ll_n (ll_n (ll_n (ll_n (ll_n ll_e)))))))) (hk h s hR e)
    · rw [if_neg c_48] at e
      refine Rn.bf hT rfl rfl rfl (decide_eq_false (fun z => c_48 ((ti_le p_47 p3).mp z))) ?_
      refine Rn.n hT 2 (pc' := 36) (L' := [some (.ref q0), some (.ref q1), none, some (.int m3), none, none, none, none]) (st' := [.ref q0, .int m3]) rfl ?_
      refine Rn.hp hT rfl rfl (gR_hp (rp_gR hR (T0_o t0) rfl)) ?_
      obtain ⟨z_49, g_49, p_49⟩ : ∃ z : Int32, aL h (q0 + 2) = some z ∧ z.toInt = 384 := rp_aL hR (T0_1 t0) (Or.inl rfl) (T0_1l t0)
      refine Rn.hp hT rfl rfl (aL_hp g_49) ?_
      by_cases c_50 : 384 ≤ x3
      · rw [if_pos c_50] at e
        refine Rn.bt hT rfl rfl rfl (decide_eq_true ((ti_le p_49 p3).mpr c_50)) ?_
        exact Rn.weak (ll_n (ll_n (ll_n (ll_n (ll_n (ll_n (ll_n (ll_n ll_e)))))))) (hk h s hR e)
      · rw [if_neg c_50] at e
        refine Rn.bf hT rfl rfl rfl (decide_eq_false (fun z => c_50 ((ti_le p_49 p3).mp z))) ?_
        refine Rn.n hT 1 (pc' := 44) (L' := [some (.ref q0), some (.ref q1), none, some (.int m3), none, none, none, none]) (st' := [.ref q0]) rfl ?_
        refine Rn.hp hT rfl rfl (gR_hp (rp_gR hR (T0_o t0) rfl)) ?_
        refine Rn.n hT 1 (pc' := 48) (L' := [some (.ref q0), some (.ref q1), none, some (.int m3), none, none, none, none]) (st' := [.int m3, .ref (q0 + 2)]) rfl ?_
        obtain ⟨v_51, e_51, e⟩ := Option.bind_eq_some_iff.mp e
        obtain ⟨z_51, g_51, p_51⟩ := rp_aI hR (T0_1 t0) (T0_1l t0) p3 e_51
        refine Rn.hp hT rfl rfl (aI_hp g_51) ?_
        refine Rn.n hT 4 (pc' := 55) (L' := [some (.ref q0), some (.ref q1), none, some (.int m3), some (.int (z_51 / (32 : Int32))), none, none, none]) (st' := [.ref q0]) rfl ?_
        refine Rn.hp hT rfl rfl (gR_hp (rp_gR hR (T0_o t0) rfl)) ?_
        refine Rn.n hT 1 (pc' := 59) (L' := [some (.ref q0), some (.ref q1), none, some (.int m3), some (.int (z_51 / (32 : Int32))), none, none, none]) (st' := [.int m3, .ref (q0 + 2)]) rfl ?_
        obtain ⟨v_52, e_52, e⟩ := Option.bind_eq_some_iff.mp e
        obtain ⟨z_52, g_52, p_52⟩ := rp_aI hR (T0_1 t0) (T0_1l t0) p3 e_52
        refine Rn.hp hT rfl rfl (aI_hp g_52) ?_
        refine Rn.n hT 5 (pc' := 68) (L' := [some (.ref q0), some (.ref q1), none, some (.int m3), some (.int (z_51 / (32 : Int32))), some (.int (z_52 - z_52 / (32 : Int32) * (32 : Int32))), some (.int (0 : Int32)), none]) (st' := []) rfl ?_
        refine Rn.weak (ll_s (ll_s (ll_n (ll_s (ll_s (ll_s (ll_s (ll_n ll_e)))))))) (RX0_spread_l68 hd t0 t1 p3 (ti_div p_51 L32_32) (ti_rem p_52 L32_32) (fun h_53 s_53 R_53 e => ?_) hq N h s hR (0 : Int32) 0 L32_0 e)
        try dsimp only at e
        refine Rn.n hT 2 (pc' := 26) (L' := [some (.ref q0), some (.ref q1), none, some (.int (m3 + (1 : Int32))), none, none, none, none]) (st' := []) rfl ?_
        exact Rn.weak (ll_s (ll_s (ll_n (ll_s (ll_n (ll_n (ll_n (ll_n ll_e)))))))) (ih h_53 s_53 R_53 (m3 + (1 : Int32)) (w32 (x3 + 1)) (ti_add p3 L32_1) e)
def FX0_spread_b154 (N : Nat) (s : iv_M)   : Option (iv_M) := some s
set_option maxRecDepth 10000 in
set_option maxHeartbeats 4000000 in
theorem RX0_spread_b154 {d N nc Ls : Nat} {Xs : Nat → Int32} (hd : 2 ≤ d) {h : iv_H} {s : iv_M} (hR : Rep nc Ls Xs h s)   {r : iv_M} {Q : Option Value → iv_H → Prop} (hq : ∀ h1, Rep nc Ls Xs h1 r → Q none h1) (e : FX0_spread_b154 N s   = some r) : Rn d 1 none 154 [none, none, none, none, none, none, none, none] [] h Q := by
  have hT := hX0_spread
  unfold FX0_spread_b154 at e
  obtain rfl := Option.some.inj e
  exact Rn.ret hT rfl rfl rfl (hq h hR)
def FX0_spread (N : Nat) (s : iv_M) (q0 : Nat) (q1 : Nat) (x2 : Int) : Option (iv_M) := ((FJ7_fill_53178 N s (q0 + 1) (-1)).bind fun s_39 => ((pt s_39 q0 2 0).bind fun s_40 => ((FX2_keysIn N s_40 q1 x2).bind fun v_42 => ((FX0_come N s_40 q0 x2 v_42 0).bind fun s_44 => (FX0_spread_l26 N q0 q1 (fun (s_45 : iv_M) => (FX0_spread_b154 N s_45)) N s_44 0)))))
set_option maxRecDepth 10000 in
set_option maxHeartbeats 4000000 in
theorem RX0_spread {d N nc Ls : Nat} {Xs : Nat → Int32} (hd : 3 ≤ d) {h : iv_H} {s : iv_M} (hR : Rep nc Ls Xs h s) {q0 : Nat} (t0 : T0 nc q0) {q1 : Nat} (t1 : T2 nc q1) {m2 : Int32} {x2 : Int} (p2 : m2.toInt = x2) {r : iv_M} {Q : Option Value → iv_H → Prop} (e : FX0_spread N s q0 q1 x2 = some r) (hq : ∀ h1, Rep nc Ls Xs h1 r → Q none h1) : Cl d 1 [.ref q0, .ref q1, .int m2] h Q := by
  obtain ⟨d, rfl⟩ : ∃ k, d = k + 1 := ⟨d - 1, by omega⟩
  have hd : 2 ≤ d := by omega
  have hT := hX0_spread
  unfold FX0_spread at e
  refine Cl.into (by decide) gX0_spread rfl ?_
  show Rn d 1 none 0 [some (.ref q0), some (.ref q1), some (.int m2), none, none, none, none, none] [] h Q
  refine Rn.n hT 1 (pc' := 1) (L' := [some (.ref q0), some (.ref q1), some (.int m2), none, none, none, none, none]) (st' := [.ref q0]) rfl ?_
  refine Rn.hp hT rfl rfl (gR_hp (rp_gR hR (T0_o t0) rfl)) ?_
  refine Rn.n hT 1 (pc' := 5) (L' := [some (.ref q0), some (.ref q1), some (.int m2), none, none, none, none, none]) (st' := [.int (-1 : Int32), .ref (q0 + 1)]) rfl ?_
  obtain ⟨s_39, e_38, e⟩ := Option.bind_eq_some_iff.mp e
  refine Rn.call hT rfl rfl rfl (Nat.le_of_ble_eq_true rfl) rfl (RJ7_fill_53178 (by omega) hR (T0_0 t0) L32_m1 e_38 (fun h_39 R_39 => ?_))
  show Rn d _ _ 8 [some (.ref q0), some (.ref q1), some (.int m2), none, none, none, none, none] [] h_39 Q
  refine Rn.n hT 2 (pc' := 10) (L' := [some (.ref q0), some (.ref q1), some (.int m2), none, none, none, none, none]) (st' := [.int (0 : Int32), .ref q0]) rfl ?_
  obtain ⟨s_40, e_41, e⟩ := Option.bind_eq_some_iff.mp e
  obtain ⟨h_40, g_41, R_40⟩ := rp_pI (ci := 0) (k := 2) R_39 (T0_o t0) rfl rfl L32_0 e_41
  refine Rn.hp hT rfl rfl (pV_hp rfl g_41) ?_
  refine Rn.n hT 4 (pc' := 17) (L' := [some (.ref q0), some (.ref q1), some (.int m2), none, none, none, none, none]) (st' := [.int m2, .ref q1, .int m2, .ref q0]) rfl ?_
  obtain ⟨v_42, e_42, e⟩ := Option.bind_eq_some_iff.mp e
  refine Rn.call hT rfl rfl rfl (Nat.le_of_ble_eq_true rfl) (rcv_v gX2_keysIn (by omega) (rp_ck R_40 (T2_o t1))) (RX2_keysIn (by omega) R_40 t1 p2 e_42 (fun z_42 p_42 => ?_))
  show Rn d _ _ 20 [some (.ref q0), some (.ref q1), some (.int m2), none, none, none, none, none] [.int z_42, .int m2, .ref q0] h_40 Q
  refine Rn.n hT 1 (pc' := 21) (L' := [some (.ref q0), some (.ref q1), some (.int m2), none, none, none, none, none]) (st' := [.int (0 : Int32), .int z_42, .int m2, .ref q0]) rfl ?_
  obtain ⟨s_44, e_43, e⟩ := Option.bind_eq_some_iff.mp e
  refine Rn.call hT rfl rfl rfl (Nat.le_of_ble_eq_true rfl) (rcv_v gX0_come (by omega) (rp_ck R_40 (T0_o t0))) (RX0_come (by omega) R_40 t0 p2 p_42 L32_0 e_43 (fun h_44 R_44 => ?_))
  show Rn d _ _ 24 [some (.ref q0), some (.ref q1), some (.int m2), none, none, none, none, none] [] h_44 Q
  refine Rn.n hT 2 (pc' := 26) (L' := [some (.ref q0), some (.ref q1), some (.int m2), some (.int (0 : Int32)), none, none, none, none]) (st' := []) rfl ?_
  refine Rn.weak (ll_s (ll_s (ll_n (ll_s (ll_n (ll_n (ll_n (ll_n ll_e)))))))) (RX0_spread_l26 hd t0 t1 (fun h_45 s_45 R_45 e => ?_) hq N h_44 s_44 R_44 (0 : Int32) 0 L32_0 e)
  try dsimp only at e
  exact Rn.weak (ll_n (ll_n (ll_n (ll_n (ll_n (ll_n (ll_n (ll_n ll_e)))))))) (RX0_spread_b154 hd R_45 hq e)
set_option maxRecDepth 10000 in
theorem hX0_fewest : iv_Tb 3 tX0_fewest := iv_tb_of (m := mX0_fewest) rfl
set_option maxRecDepth 10000 in
theorem gX0_fewest : PG.2 3 = some mX0_fewest := iv_pi_of (t := tX0_fewest) rfl (by decide)
def FX0_fewest_l2 (N : Nat) (s : iv_M) (q0 : Nat) (x1 : Int) (kx : Unit → Option (Int)) : Nat → Int → Option (Int)
  | 0, _ => none
  | n + 1, x2 => (if (s q0 2) ≤ x2 then (kx ()) else ((rd s (q0 + 2) 384 x2).bind fun v_68 => (if (dv32 v_68 32) = x1 then ((rd s (q0 + 2) 384 x2).bind fun v_70 => ((rd s (q0 + 1) 384 v_70).bind fun v_71 => (some v_71))) else (FX0_fewest_l2 N s q0 x1 kx n (w32 (x2 + 1))))))
set_option maxRecDepth 10000 in
set_option maxHeartbeats 4000000 in
theorem RX0_fewest_l2 {d N nc Ls : Nat} {Xs : Nat → Int32} (hd : 0 ≤ d) {h : iv_H} {s : iv_M} (hR : Rep nc Ls Xs h s) {q0 : Nat} (t0 : T0 nc q0) {m1 : Int32} {x1 : Int} (p1 : m1.toInt = x1) {kx : Unit → Option (Int)} {r : Int} {Q : Option Value → iv_H → Prop} (hk : ∀ (u : Unit), kx u = some r → Rn d 3 (some .int) 41 [none, none, none] [] h Q) (hq : ∀ (z : Int32), z.toInt = r → Q (some (.int z)) h) : ∀ (n : Nat) (m2 : Int32) (x2 : Int) (p2 : m2.toInt = x2), FX0_fewest_l2 N s q0 x1 kx n x2 = some r → Rn d 3 (some .int) 2 [some (.ref q0), some (.int m1), some (.int m2)] [] h Q := by
  have hT := hX0_fewest
  intro n
  induction n with
  | zero =>
    intro m2 x2 p2 e
    rw [FX0_fewest_l2] at e
    cases e
  | succ n ih =>
    intro m2 x2 p2 e
    rw [FX0_fewest_l2] at e
    refine Rn.n hT 2 (pc' := 4) (L' := [some (.ref q0), some (.int m1), some (.int m2)]) (st' := [.ref q0, .int m2]) rfl ?_
    obtain ⟨z_66, g_66, p_66⟩ : ∃ z : Int32, gI h 0 2 q0 = some z ∧ z.toInt = s q0 2 := rp_gI (k := 2) hR (T0_o t0) rfl
    refine Rn.hp hT rfl rfl (gI_hp g_66) ?_
    by_cases c_67 : (s q0 2) ≤ x2
    · rw [if_pos c_67] at e
      refine Rn.bt hT rfl rfl rfl (decide_eq_true ((ti_le p_66 p2).mpr c_67)) ?_
      exact Rn.weak (ll_n (ll_n (ll_n ll_e))) (hk () e)
    · rw [if_neg c_67] at e
      refine Rn.bf hT rfl rfl rfl (decide_eq_false (fun z => c_67 ((ti_le p_66 p2).mp z))) ?_
      refine Rn.n hT 1 (pc' := 11) (L' := [some (.ref q0), some (.int m1), some (.int m2)]) (st' := [.ref q0]) rfl ?_
      refine Rn.hp hT rfl rfl (gR_hp (rp_gR hR (T0_o t0) rfl)) ?_
      refine Rn.n hT 1 (pc' := 15) (L' := [some (.ref q0), some (.int m1), some (.int m2)]) (st' := [.int m2, .ref (q0 + 2)]) rfl ?_
      obtain ⟨v_68, e_68, e⟩ := Option.bind_eq_some_iff.mp e
      obtain ⟨z_68, g_68, p_68⟩ := rp_aI hR (T0_1 t0) (T0_1l t0) p2 e_68
      refine Rn.hp hT rfl rfl (aI_hp g_68) ?_
      refine Rn.n hT 3 (pc' := 20) (L' := [some (.ref q0), some (.int m1), some (.int m2)]) (st' := [.int m1, .int (z_68 / (32 : Int32))]) rfl ?_
      by_cases c_69 : (dv32 v_68 32) = x1
      · rw [if_pos c_69] at e
        refine Rn.bf hT rfl rfl rfl (decide_eq_false (fun z => z ((ti_e (ti_div p_68 L32_32) p1).mpr c_69))) ?_
        refine Rn.n hT 1 (pc' := 24) (L' := [some (.ref q0), some (.int m1), some (.int m2)]) (st' := [.ref q0]) rfl ?_
        refine Rn.hp hT rfl rfl (gR_hp (rp_gR hR (T0_o t0) rfl)) ?_
        refine Rn.n hT 1 (pc' := 28) (L' := [some (.ref q0), some (.int m1), some (.int m2)]) (st' := [.ref q0, .ref (q0 + 1)]) rfl ?_
        refine Rn.hp hT rfl rfl (gR_hp (rp_gR hR (T0_o t0) rfl)) ?_
        refine Rn.n hT 1 (pc' := 32) (L' := [some (.ref q0), some (.int m1), some (.int m2)]) (st' := [.int m2, .ref (q0 + 2), .ref (q0 + 1)]) rfl ?_
        obtain ⟨v_70, e_70, e⟩ := Option.bind_eq_some_iff.mp e
        obtain ⟨z_70, g_70, p_70⟩ := rp_aI hR (T0_1 t0) (T0_1l t0) p2 e_70
        refine Rn.hp hT rfl rfl (aI_hp g_70) ?_
        obtain ⟨v_71, e_71, e⟩ := Option.bind_eq_some_iff.mp e
        obtain ⟨z_71, g_71, p_71⟩ := rp_aI hR (T0_0 t0) (T0_0l t0) p_70 e_71
        refine Rn.hp hT rfl rfl (aI_hp g_71) ?_
        obtain rfl := Option.some.inj e
        exact Rn.ret hT rfl rfl rfl (hq z_71 p_71)
      · rw [if_neg c_69] at e
        refine Rn.bt hT rfl rfl rfl (decide_eq_true (fun z => c_69 ((ti_e (ti_div p_68 L32_32) p1).mp z))) ?_
        refine Rn.n hT 2 (pc' := 2) (L' := [some (.ref q0), some (.int m1), some (.int (m2 + (1 : Int32)))]) (st' := []) rfl ?_
        exact Rn.weak (ll_s (ll_s (ll_s ll_e))) (ih (m2 + (1 : Int32)) (w32 (x2 + 1)) (ti_add p2 L32_1) e)
def FX0_fewest (N : Nat) (s : iv_M) (q0 : Nat) (x1 : Int) : Option (Int) := (FX0_fewest_l2 N s q0 x1 (fun (_ : Unit) => (some (-2))) N 0)
set_option maxRecDepth 10000 in
set_option maxHeartbeats 4000000 in
theorem RX0_fewest {d N nc Ls : Nat} {Xs : Nat → Int32} (hd : 1 ≤ d) {h : iv_H} {s : iv_M} (hR : Rep nc Ls Xs h s) {q0 : Nat} (t0 : T0 nc q0) {m1 : Int32} {x1 : Int} (p1 : m1.toInt = x1) {r : Int} {Q : Option Value → iv_H → Prop} (e : FX0_fewest N s q0 x1 = some r) (hq : ∀ (z : Int32), z.toInt = r → Q (some (.int z)) h) : Cl d 3 [.ref q0, .int m1] h Q := by
  obtain ⟨d, rfl⟩ : ∃ k, d = k + 1 := ⟨d - 1, by omega⟩
  have hd : 0 ≤ d := by omega
  have hT := hX0_fewest
  unfold FX0_fewest at e
  refine Cl.into (by decide) gX0_fewest rfl ?_
  show Rn d 3 (some .int) 0 [some (.ref q0), some (.int m1), none] [] h Q
  refine Rn.n hT 2 (pc' := 2) (L' := [some (.ref q0), some (.int m1), some (.int (0 : Int32))]) (st' := []) rfl ?_
  refine Rn.weak (ll_s (ll_s (ll_s ll_e))) (RX0_fewest_l2 hd hR t0 p1 (fun _ e => ?_) hq N (0 : Int32) 0 L32_0 e)
  try dsimp only at e
  refine Rn.n hT 1 (pc' := 43) (L' := [none, none, none]) (st' := [.int (-2 : Int32)]) rfl ?_
  obtain rfl := Option.some.inj e
  exact Rn.ret hT rfl rfl rfl (hq (-2 : Int32) L32_m2)
set_option maxRecDepth 10000 in
theorem hX0_reachedRooms : iv_Tb 4 tX0_reachedRooms := iv_tb_of (m := mX0_reachedRooms) rfl
set_option maxRecDepth 10000 in
theorem gX0_reachedRooms : PG.2 4 = some mX0_reachedRooms := iv_pi_of (t := tX0_reachedRooms) rfl (by decide)
def FX0_reachedRooms_l4 (N : Nat) (s : iv_M) (q0 : Nat) (kx : Int → Option (Int)) : Nat → Int → Int → Option (Int)
  | 0, _, _ => none
  | n + 1, x1, x2 => (if (s q0 2) ≤ x2 then (kx x1) else ((rd s (q0 + 2) 384 x2).bind fun v_75 => (FX0_reachedRooms_l4 N s q0 kx n (bOr x1 (sl32 1 (dv32 v_75 32))) (w32 (x2 + 1)))))
set_option maxRecDepth 10000 in
set_option maxHeartbeats 4000000 in
theorem RX0_reachedRooms_l4 {d N nc Ls : Nat} {Xs : Nat → Int32} (hd : 0 ≤ d) {h : iv_H} {s : iv_M} (hR : Rep nc Ls Xs h s) {q0 : Nat} (t0 : T0 nc q0) {kx : Int → Option (Int)} {r : Int} {Q : Option Value → iv_H → Prop} (hk : ∀ (m1 : Int32) (x1 : Int) (p1 : m1.toInt = x1), kx x1 = some r → Rn d 4 (some .int) 32 [none, some (.int m1), none] [] h Q) (hq : ∀ (z : Int32), z.toInt = r → Q (some (.int z)) h) : ∀ (n : Nat) (m1 : Int32) (x1 : Int) (p1 : m1.toInt = x1) (m2 : Int32) (x2 : Int) (p2 : m2.toInt = x2), FX0_reachedRooms_l4 N s q0 kx n x1 x2 = some r → Rn d 4 (some .int) 4 [some (.ref q0), some (.int m1), some (.int m2)] [] h Q := by
  have hT := hX0_reachedRooms
  intro n
  induction n with
  | zero =>
    intro m1 x1 p1 m2 x2 p2 e
    rw [FX0_reachedRooms_l4] at e
    cases e
  | succ n ih =>
    intro m1 x1 p1 m2 x2 p2 e
    rw [FX0_reachedRooms_l4] at e
    refine Rn.n hT 2 (pc' := 6) (L' := [some (.ref q0), some (.int m1), some (.int m2)]) (st' := [.ref q0, .int m2]) rfl ?_
    obtain ⟨z_73, g_73, p_73⟩ : ∃ z : Int32, gI h 0 2 q0 = some z ∧ z.toInt = s q0 2 := rp_gI (k := 2) hR (T0_o t0) rfl
    refine Rn.hp hT rfl rfl (gI_hp g_73) ?_
    by_cases c_74 : (s q0 2) ≤ x2
    · rw [if_pos c_74] at e
      refine Rn.bt hT rfl rfl rfl (decide_eq_true ((ti_le p_73 p2).mpr c_74)) ?_
      exact Rn.weak (ll_n (ll_s (ll_n ll_e))) (hk m1 x1 p1 e)
    · rw [if_neg c_74] at e
      refine Rn.bf hT rfl rfl rfl (decide_eq_false (fun z => c_74 ((ti_le p_73 p2).mp z))) ?_
      refine Rn.n hT 3 (pc' := 15) (L' := [some (.ref q0), some (.int m1), some (.int m2)]) (st' := [.ref q0, .int (1 : Int32), .int m1]) rfl ?_
      refine Rn.hp hT rfl rfl (gR_hp (rp_gR hR (T0_o t0) rfl)) ?_
      refine Rn.n hT 1 (pc' := 19) (L' := [some (.ref q0), some (.int m1), some (.int m2)]) (st' := [.int m2, .ref (q0 + 2), .int (1 : Int32), .int m1]) rfl ?_
      obtain ⟨v_75, e_75, e⟩ := Option.bind_eq_some_iff.mp e
      obtain ⟨z_75, g_75, p_75⟩ := rp_aI hR (T0_1 t0) (T0_1l t0) p2 e_75
      refine Rn.hp hT rfl rfl (aI_hp g_75) ?_
      refine Rn.n hT 7 (pc' := 4) (L' := [some (.ref q0), some (.int (m1 ||| ((1 : Int32) <<< ((z_75 / (32 : Int32)) &&& 31)))), some (.int (m2 + (1 : Int32)))]) (st' := []) rfl ?_
      exact Rn.weak (ll_s (ll_s (ll_s ll_e))) (ih (m1 ||| ((1 : Int32) <<< ((z_75 / (32 : Int32)) &&& 31))) (bOr x1 (sl32 1 (dv32 v_75 32))) (ti_or p1 (ti_shl L32_1 (ti_div p_75 L32_32))) (m2 + (1 : Int32)) (w32 (x2 + 1)) (ti_add p2 L32_1) e)
def FX0_reachedRooms (N : Nat) (s : iv_M) (q0 : Nat) : Option (Int) := (FX0_reachedRooms_l4 N s q0 (fun (x72_1 : Int) => (some x72_1)) N 0 0)
set_option maxRecDepth 10000 in
set_option maxHeartbeats 4000000 in
theorem RX0_reachedRooms {d N nc Ls : Nat} {Xs : Nat → Int32} (hd : 1 ≤ d) {h : iv_H} {s : iv_M} (hR : Rep nc Ls Xs h s) {q0 : Nat} (t0 : T0 nc q0) {r : Int} {Q : Option Value → iv_H → Prop} (e : FX0_reachedRooms N s q0 = some r) (hq : ∀ (z : Int32), z.toInt = r → Q (some (.int z)) h) : Cl d 4 [.ref q0] h Q := by
  obtain ⟨d, rfl⟩ : ∃ k, d = k + 1 := ⟨d - 1, by omega⟩
  have hd : 0 ≤ d := by omega
  have hT := hX0_reachedRooms
  unfold FX0_reachedRooms at e
  refine Cl.into (by decide) gX0_reachedRooms rfl ?_
  show Rn d 4 (some .int) 0 [some (.ref q0), none, none] [] h Q
  refine Rn.n hT 4 (pc' := 4) (L' := [some (.ref q0), some (.int (0 : Int32)), some (.int (0 : Int32))]) (st' := []) rfl ?_
  refine Rn.weak (ll_s (ll_s (ll_s ll_e))) (RX0_reachedRooms_l4 hd hR t0 (fun m72_1 x72_1 p72_1 e => ?_) hq N (0 : Int32) 0 L32_0 (0 : Int32) 0 L32_0 e)
  try dsimp only at e
  refine Rn.n hT 1 (pc' := 33) (L' := [none, some (.int m72_1), none]) (st' := [.int m72_1]) rfl ?_
  obtain rfl := Option.some.inj e
  exact Rn.ret hT rfl rfl rfl (hq m72_1 p72_1)
set_option maxRecDepth 10000 in
theorem hX0_reachedKeys : iv_Tb 5 tX0_reachedKeys := iv_tb_of (m := mX0_reachedKeys) rfl
set_option maxRecDepth 10000 in
theorem gX0_reachedKeys : PG.2 5 = some mX0_reachedKeys := iv_pi_of (t := tX0_reachedKeys) rfl (by decide)
def FX0_reachedKeys_l4 (N : Nat) (s : iv_M) (q0 : Nat) (kx : Int → Option (Int)) : Nat → Int → Int → Option (Int)
  | 0, _, _ => none
  | n + 1, x1, x2 => (if (s q0 2) ≤ x2 then (kx x1) else ((rd s (q0 + 2) 384 x2).bind fun v_79 => (FX0_reachedKeys_l4 N s q0 kx n (bOr x1 (Int.tmod v_79 32)) (w32 (x2 + 1)))))
set_option maxRecDepth 10000 in
set_option maxHeartbeats 4000000 in
theorem RX0_reachedKeys_l4 {d N nc Ls : Nat} {Xs : Nat → Int32} (hd : 0 ≤ d) {h : iv_H} {s : iv_M} (hR : Rep nc Ls Xs h s) {q0 : Nat} (t0 : T0 nc q0) {kx : Int → Option (Int)} {r : Int} {Q : Option Value → iv_H → Prop} (hk : ∀ (m1 : Int32) (x1 : Int) (p1 : m1.toInt = x1), kx x1 = some r → Rn d 5 (some .int) 30 [none, some (.int m1), none] [] h Q) (hq : ∀ (z : Int32), z.toInt = r → Q (some (.int z)) h) : ∀ (n : Nat) (m1 : Int32) (x1 : Int) (p1 : m1.toInt = x1) (m2 : Int32) (x2 : Int) (p2 : m2.toInt = x2), FX0_reachedKeys_l4 N s q0 kx n x1 x2 = some r → Rn d 5 (some .int) 4 [some (.ref q0), some (.int m1), some (.int m2)] [] h Q := by
  have hT := hX0_reachedKeys
  intro n
  induction n with
  | zero =>
    intro m1 x1 p1 m2 x2 p2 e
    rw [FX0_reachedKeys_l4] at e
    cases e
  | succ n ih =>
    intro m1 x1 p1 m2 x2 p2 e
    rw [FX0_reachedKeys_l4] at e
    refine Rn.n hT 2 (pc' := 6) (L' := [some (.ref q0), some (.int m1), some (.int m2)]) (st' := [.ref q0, .int m2]) rfl ?_
    obtain ⟨z_77, g_77, p_77⟩ : ∃ z : Int32, gI h 0 2 q0 = some z ∧ z.toInt = s q0 2 := rp_gI (k := 2) hR (T0_o t0) rfl
    refine Rn.hp hT rfl rfl (gI_hp g_77) ?_
    by_cases c_78 : (s q0 2) ≤ x2
    · rw [if_pos c_78] at e
      refine Rn.bt hT rfl rfl rfl (decide_eq_true ((ti_le p_77 p2).mpr c_78)) ?_
      exact Rn.weak (ll_n (ll_s (ll_n ll_e))) (hk m1 x1 p1 e)
    · rw [if_neg c_78] at e
      refine Rn.bf hT rfl rfl rfl (decide_eq_false (fun z => c_78 ((ti_le p_77 p2).mp z))) ?_
      refine Rn.n hT 2 (pc' := 14) (L' := [some (.ref q0), some (.int m1), some (.int m2)]) (st' := [.ref q0, .int m1]) rfl ?_
      refine Rn.hp hT rfl rfl (gR_hp (rp_gR hR (T0_o t0) rfl)) ?_
      refine Rn.n hT 1 (pc' := 18) (L' := [some (.ref q0), some (.int m1), some (.int m2)]) (st' := [.int m2, .ref (q0 + 2), .int m1]) rfl ?_
      obtain ⟨v_79, e_79, e⟩ := Option.bind_eq_some_iff.mp e
      obtain ⟨z_79, g_79, p_79⟩ := rp_aI hR (T0_1 t0) (T0_1l t0) p2 e_79
      refine Rn.hp hT rfl rfl (aI_hp g_79) ?_
      refine Rn.n hT 6 (pc' := 4) (L' := [some (.ref q0), some (.int (m1 ||| (z_79 - z_79 / (32 : Int32) * (32 : Int32)))), some (.int (m2 + (1 : Int32)))]) (st' := []) rfl ?_
      exact Rn.weak (ll_s (ll_s (ll_s ll_e))) (ih (m1 ||| (z_79 - z_79 / (32 : Int32) * (32 : Int32))) (bOr x1 (Int.tmod v_79 32)) (ti_or p1 (ti_rem p_79 L32_32)) (m2 + (1 : Int32)) (w32 (x2 + 1)) (ti_add p2 L32_1) e)
def FX0_reachedKeys (N : Nat) (s : iv_M) (q0 : Nat) : Option (Int) := (FX0_reachedKeys_l4 N s q0 (fun (x76_1 : Int) => (some x76_1)) N 0 0)
set_option maxRecDepth 10000 in
set_option maxHeartbeats 4000000 in
theorem RX0_reachedKeys {d N nc Ls : Nat} {Xs : Nat → Int32} (hd : 1 ≤ d) {h : iv_H} {s : iv_M} (hR : Rep nc Ls Xs h s) {q0 : Nat} (t0 : T0 nc q0) {r : Int} {Q : Option Value → iv_H → Prop} (e : FX0_reachedKeys N s q0 = some r) (hq : ∀ (z : Int32), z.toInt = r → Q (some (.int z)) h) : Cl d 5 [.ref q0] h Q := by
  obtain ⟨d, rfl⟩ : ∃ k, d = k + 1 := ⟨d - 1, by omega⟩
  have hd : 0 ≤ d := by omega
  have hT := hX0_reachedKeys
  unfold FX0_reachedKeys at e
  refine Cl.into (by decide) gX0_reachedKeys rfl ?_
  show Rn d 5 (some .int) 0 [some (.ref q0), none, none] [] h Q
  refine Rn.n hT 4 (pc' := 4) (L' := [some (.ref q0), some (.int (0 : Int32)), some (.int (0 : Int32))]) (st' := []) rfl ?_
  refine Rn.weak (ll_s (ll_s (ll_s ll_e))) (RX0_reachedKeys_l4 hd hR t0 (fun m76_1 x76_1 p76_1 e => ?_) hq N (0 : Int32) 0 L32_0 (0 : Int32) 0 L32_0 e)
  try dsimp only at e
  refine Rn.n hT 1 (pc' := 31) (L' := [none, some (.int m76_1), none]) (st' := [.int m76_1]) rfl ?_
  obtain rfl := Option.some.inj e
  exact Rn.ret hT rfl rfl rfl (hq m76_1 p76_1)
set_option maxRecDepth 10000 in
theorem hX0_besides : iv_Tb 7 tX0_besides := iv_tb_of (m := mX0_besides) rfl
set_option maxRecDepth 10000 in
theorem gX0_besides : PG.2 7 = some mX0_besides := iv_pi_of (t := tX0_besides) rfl (by decide)
def FX0_besides_b52 (N : Nat) (s : iv_M) (q1 : Nat) (x2 : Int) (x3 : Int) (x4 : Int) (x5 : Int)  (kb : Int → Int → Option (Int)) (kx : Int → Option (Int)) : Option (Int) := (kb x4 (w32 (x5 + 1)))
set_option maxRecDepth 10000 in
set_option maxHeartbeats 4000000 in
theorem RX0_besides_b52 {d N nc Ls : Nat} {Xs : Nat → Int32} (hd : 2 ≤ d) {h : iv_H} {s : iv_M} (hR : Rep nc Ls Xs h s) {q1 : Nat} (t1 : T1 nc q1) {m2 : Int32} {x2 : Int} (p2 : m2.toInt = x2) {m3 : Int32} {x3 : Int} (p3 : m3.toInt = x3) {m4 : Int32} {x4 : Int} (p4 : m4.toInt = x4) {m5 : Int32} {x5 : Int} (p5 : m5.toInt = x5)  {kb : Int → Int → Option (Int)} {kx : Int → Option (Int)} {r : Int} {Q : Option Value → iv_H → Prop} (hb : ∀ (mw4 : Int32) (xw4 : Int) (pw4 : mw4.toInt = xw4) (mw5 : Int32) (xw5 : Int) (pw5 : mw5.toInt = xw5), kb xw4 xw5 = some r → Rn d 7 (some .int) 6 [none, some (.ref q1), some (.int m2), some (.int m3), some (.int mw4), some (.int mw5), none] [] h Q) (hk : ∀ (mw4 : Int32) (xw4 : Int) (pw4 : mw4.toInt = xw4), kx xw4 = some r → Rn d 7 (some .int) 58 [none, none, none, none, some (.int mw4), none, none] [] h Q) (hq : ∀ (z : Int32), z.toInt = r → Q (some (.int z)) h) (e : FX0_besides_b52 N s q1 x2 x3 x4 x5  kb kx = some r) : Rn d 7 (some .int) 52 [none, some (.ref q1), some (.int m2), some (.int m3), some (.int m4), some (.int m5), none] [] h Q := by
  have hT := hX0_besides
  unfold FX0_besides_b52 at e
  refine Rn.n hT 2 (pc' := 6) (L' := [none, some (.ref q1), some (.int m2), some (.int m3), some (.int m4), some (.int (m5 + (1 : Int32))), none]) (st' := []) rfl ?_
  exact Rn.weak (ll_n (ll_s (ll_s (ll_s (ll_s (ll_s (ll_n ll_e))))))) (hb m4 x4 p4 (m5 + (1 : Int32)) (w32 (x5 + 1)) (ti_add p5 L32_1) e)
def FX0_besides_b43 (N : Nat) (s : iv_M) (q1 : Nat) (x2 : Int) (x3 : Int) (x4 : Int) (x5 : Int) (x6 : Int)  (kb : Int → Int → Option (Int)) (kx : Int → Option (Int)) : Option (Int) := (FX0_besides_b52 N s q1 x2 x3 (bOr x4 (sl32 1 x6)) x5 kb kx)
set_option maxRecDepth 10000 in
set_option maxHeartbeats 4000000 in
theorem RX0_besides_b43 {d N nc Ls : Nat} {Xs : Nat → Int32} (hd : 2 ≤ d) {h : iv_H} {s : iv_M} (hR : Rep nc Ls Xs h s) {q1 : Nat} (t1 : T1 nc q1) {m2 : Int32} {x2 : Int} (p2 : m2.toInt = x2) {m3 : Int32} {x3 : Int} (p3 : m3.toInt = x3) {m4 : Int32} {x4 : Int} (p4 : m4.toInt = x4) {m5 : Int32} {x5 : Int} (p5 : m5.toInt = x5) {m6 : Int32} {x6 : Int} (p6 : m6.toInt = x6)  {kb : Int → Int → Option (Int)} {kx : Int → Option (Int)} {r : Int} {Q : Option Value → iv_H → Prop} (hb : ∀ (mw4 : Int32) (xw4 : Int) (pw4 : mw4.toInt = xw4) (mw5 : Int32) (xw5 : Int) (pw5 : mw5.toInt = xw5), kb xw4 xw5 = some r → Rn d 7 (some .int) 6 [none, some (.ref q1), some (.int m2), some (.int m3), some (.int mw4), some (.int mw5), none] [] h Q) (hk : ∀ (mw4 : Int32) (xw4 : Int) (pw4 : mw4.toInt = xw4), kx xw4 = some r → Rn d 7 (some .int) 58 [none, none, none, none, some (.int mw4), none, none] [] h Q) (hq : ∀ (z : Int32), z.toInt = r → Q (some (.int z)) h) (e : FX0_besides_b43 N s q1 x2 x3 x4 x5 x6  kb kx = some r) : Rn d 7 (some .int) 43 [none, some (.ref q1), some (.int m2), some (.int m3), some (.int m4), some (.int m5), some (.int m6)] [] h Q := by
  have hT := hX0_besides
  unfold FX0_besides_b43 at e
  refine Rn.n hT 6 (pc' := 52) (L' := [none, some (.ref q1), some (.int m2), some (.int m3), some (.int (m4 ||| ((1 : Int32) <<< (m6 &&& 31)))), some (.int m5), some (.int m6)]) (st' := []) rfl ?_
  exact Rn.weak (ll_n (ll_s (ll_s (ll_s (ll_s (ll_s (ll_n ll_e))))))) (RX0_besides_b52 hd hR t1 p2 p3 (ti_or p4 (ti_shl L32_1 p6)) p5 hb hk hq e)
def FX0_besides_l6 (N : Nat) (s : iv_M) (q1 : Nat) (x2 : Int) (x3 : Int) (kx : Int → Option (Int)) : Nat → Int → Int → Option (Int)
  | 0, _, _ => none
  | n + 1, x4, x5 => (if 4 ≤ x5 then (kx x4) else ((FX1_throughDoor N s q1 x2 x5).bind fun v_82 => (if v_82 = (-1) then (FX0_besides_b52 N s q1 x2 x3 x4 x5 (FX0_besides_l6 N s q1 x2 x3 kx n) kx) else (if x3 = 0 then ((FX1_locksBetween N s q1 x2 x5 v_82).bind fun v_85 => (if v_85 = 0 then (FX0_besides_b43 N s q1 x2 x3 x4 x5 v_82 (FX0_besides_l6 N s q1 x2 x3 kx n) kx) else (FX0_besides_b52 N s q1 x2 x3 x4 x5 (FX0_besides_l6 N s q1 x2 x3 kx n) kx))) else (FX0_besides_b43 N s q1 x2 x3 x4 x5 v_82 (FX0_besides_l6 N s q1 x2 x3 kx n) kx)))))
set_option maxRecDepth 10000 in
set_option maxHeartbeats 4000000 in
theorem RX0_besides_l6 {d N nc Ls : Nat} {Xs : Nat → Int32} (hd : 2 ≤ d) {h : iv_H} {s : iv_M} (hR : Rep nc Ls Xs h s) {q1 : Nat} (t1 : T1 nc q1) {m2 : Int32} {x2 : Int} (p2 : m2.toInt = x2) {m3 : Int32} {x3 : Int} (p3 : m3.toInt = x3) {kx : Int → Option (Int)} {r : Int} {Q : Option Value → iv_H → Prop} (hk : ∀ (m4 : Int32) (x4 : Int) (p4 : m4.toInt = x4), kx x4 = some r → Rn d 7 (some .int) 58 [none, none, none, none, some (.int m4), none, none] [] h Q) (hq : ∀ (z : Int32), z.toInt = r → Q (some (.int z)) h) : ∀ (n : Nat) (m4 : Int32) (x4 : Int) (p4 : m4.toInt = x4) (m5 : Int32) (x5 : Int) (p5 : m5.toInt = x5), FX0_besides_l6 N s q1 x2 x3 kx n x4 x5 = some r → Rn d 7 (some .int) 6 [none, some (.ref q1), some (.int m2), some (.int m3), some (.int m4), some (.int m5), none] [] h Q := by
  have hT := hX0_besides
  intro n
  induction n with
  | zero =>
    intro m4 x4 p4 m5 x5 p5 e
    rw [FX0_besides_l6] at e
    cases e
  | succ n ih =>
    intro m4 x4 p4 m5 x5 p5 e
    rw [FX0_besides_l6] at e
    refine Rn.n hT 2 (pc' := 9) (L' := [none, some (.ref q1), some (.int m2), some (.int m3), some (.int m4), some (.int m5), none]) (st' := [.int (4 : Int32), .int m5]) rfl ?_
    by_cases c_81 : 4 ≤ x5
    · rw [if_pos c_81] at e
      refine Rn.bt hT rfl rfl rfl (decide_eq_true ((ti_le L32_4 p5).mpr c_81)) ?_
      exact Rn.weak (ll_n (ll_n (ll_n (ll_n (ll_s (ll_n (ll_n ll_e))))))) (hk m4 x4 p4 e)
    · rw [if_neg c_81] at e
      refine Rn.bf hT rfl rfl rfl (decide_eq_false (fun z => c_81 ((ti_le L32_4 p5).mp z))) ?_
      refine Rn.n hT 3 (pc' := 16) (L' := [none, some (.ref q1), some (.int m2), some (.int m3), some (.int m4), some (.int m5), none]) (st' := [.int m5, .int m2, .ref q1]) rfl ?_
      obtain ⟨v_82, e_82, e⟩ := Option.bind_eq_some_iff.mp e
      refine Rn.call hT rfl rfl rfl (Nat.le_of_ble_eq_true rfl) (rcv_v gX1_throughDoor (by omega) (rp_ck hR (T1_o t1))) (RX1_throughDoor (by omega) hR t1 p2 p5 e_82 (fun z_82 p_82 => ?_))
      show Rn d _ _ 19 [none, some (.ref q1), some (.int m2), some (.int m3), some (.int m4), some (.int m5), none] [.int z_82] h Q
      refine Rn.n hT 3 (pc' := 24) (L' := [none, some (.ref q1), some (.int m2), some (.int m3), some (.int m4), some (.int m5), some (.int z_82)]) (st' := [.int (-1 : Int32), .int z_82]) rfl ?_
      by_cases c_83 : v_82 = (-1)
      · rw [if_pos c_83] at e
        refine Rn.bt hT rfl rfl rfl (decide_eq_true ((ti_e p_82 L32_m1).mpr c_83)) ?_
        exact Rn.weak (ll_n (ll_s (ll_s (ll_s (ll_s (ll_s (ll_n ll_e))))))) (RX0_besides_b52 hd hR t1 p2 p3 p4 p5 ih hk hq e)
      · rw [if_neg c_83] at e
        refine Rn.bf hT rfl rfl rfl (decide_eq_false (fun z => c_83 ((ti_e p_82 L32_m1).mp z))) ?_
        refine Rn.n hT 1 (pc' := 28) (L' := [none, some (.ref q1), some (.int m2), some (.int m3), some (.int m4), some (.int m5), some (.int z_82)]) (st' := [.int m3]) rfl ?_
        by_cases c_84 : x3 = 0
        · rw [if_pos c_84] at e
          refine Rn.bf hT rfl rfl rfl (decide_eq_false (fun z => z ((ti_e p3 L32_0).mpr c_84))) ?_
          refine Rn.n hT 4 (pc' := 37) (L' := [none, some (.ref q1), some (.int m2), some (.int m3), some (.int m4), some (.int m5), some (.int z_82)]) (st' := [.int z_82, .int m5, .int m2, .ref q1]) rfl ?_
          obtain ⟨v_85, e_85, e⟩ := Option.bind_eq_some_iff.mp e
          refine Rn.call hT rfl rfl rfl (Nat.le_of_ble_eq_true rfl) (rcv_v gX1_locksBetween (by omega) (rp_ck hR (T1_o t1))) (RX1_locksBetween (by omega) hR t1 p2 p5 p_82 e_85 (fun z_85 p_85 => ?_))
          show Rn d _ _ 40 [none, some (.ref q1), some (.int m2), some (.int m3), some (.int m4), some (.int m5), some (.int z_82)] [.int z_85] h Q
          by_cases c_86 : v_85 = 0
          · rw [if_pos c_86] at e
            refine Rn.bf hT rfl rfl rfl (decide_eq_false (fun z => z ((ti_e p_85 L32_0).mpr c_86))) ?_
            exact Rn.weak (ll_n (ll_s (ll_s (ll_s (ll_s (ll_s (ll_s ll_e))))))) (RX0_besides_b43 hd hR t1 p2 p3 p4 p5 p_82 ih hk hq e)
          · rw [if_neg c_86] at e
            refine Rn.bt hT rfl rfl rfl (decide_eq_true (fun z => c_86 ((ti_e p_85 L32_0).mp z))) ?_
            exact Rn.weak (ll_n (ll_s (ll_s (ll_s (ll_s (ll_s (ll_n ll_e))))))) (RX0_besides_b52 hd hR t1 p2 p3 p4 p5 ih hk hq e)
        · rw [if_neg c_84] at e
          refine Rn.bt hT rfl rfl rfl (decide_eq_true (fun z => c_84 ((ti_e p3 L32_0).mp z))) ?_
          exact Rn.weak (ll_n (ll_s (ll_s (ll_s (ll_s (ll_s (ll_s ll_e))))))) (RX0_besides_b43 hd hR t1 p2 p3 p4 p5 p_82 ih hk hq e)
def FX0_besides (N : Nat) (s : iv_M) (q0 : Nat) (q1 : Nat) (x2 : Int) (x3 : Int) : Option (Int) := (FX0_besides_l6 N s q1 x2 x3 (fun (x80_4 : Int) => (some x80_4)) N 0 0)
set_option maxRecDepth 10000 in
set_option maxHeartbeats 4000000 in
theorem RX0_besides {d N nc Ls : Nat} {Xs : Nat → Int32} (hd : 3 ≤ d) {h : iv_H} {s : iv_M} (hR : Rep nc Ls Xs h s) {q0 : Nat} (t0 : T0 nc q0) {q1 : Nat} (t1 : T1 nc q1) {m2 : Int32} {x2 : Int} (p2 : m2.toInt = x2) {m3 : Int32} {x3 : Int} (p3 : m3.toInt = x3) {r : Int} {Q : Option Value → iv_H → Prop} (e : FX0_besides N s q0 q1 x2 x3 = some r) (hq : ∀ (z : Int32), z.toInt = r → Q (some (.int z)) h) : Cl d 7 [.ref q0, .ref q1, .int m2, .int m3] h Q := by
  obtain ⟨d, rfl⟩ : ∃ k, d = k + 1 := ⟨d - 1, by omega⟩
  have hd : 2 ≤ d := by omega
  have hT := hX0_besides
  unfold FX0_besides at e
  refine Cl.into (by decide) gX0_besides rfl ?_
  show Rn d 7 (some .int) 0 [some (.ref q0), some (.ref q1), some (.int m2), some (.int m3), none, none, none] [] h Q
  refine Rn.n hT 4 (pc' := 6) (L' := [some (.ref q0), some (.ref q1), some (.int m2), some (.int m3), some (.int (0 : Int32)), some (.int (0 : Int32)), none]) (st' := []) rfl ?_
  refine Rn.weak (ll_n (ll_s (ll_s (ll_s (ll_s (ll_s (ll_n ll_e))))))) (RX0_besides_l6 hd hR t1 p2 p3 (fun m80_4 x80_4 p80_4 e => ?_) hq N (0 : Int32) 0 L32_0 (0 : Int32) 0 L32_0 e)
  try dsimp only at e
  refine Rn.n hT 1 (pc' := 60) (L' := [none, none, none, none, some (.int m80_4), none, none]) (st' := [.int m80_4]) rfl ?_
  obtain rfl := Option.some.inj e
  exact Rn.ret hT rfl rfl rfl (hq m80_4 p80_4)
set_option maxRecDepth 10000 in
theorem hX0_hearing : iv_Tb 6 tX0_hearing := iv_tb_of (m := mX0_hearing) rfl
set_option maxRecDepth 10000 in
theorem gX0_hearing : PG.2 6 = some mX0_hearing := iv_pi_of (t := tX0_hearing) rfl (by decide)
def FX0_hearing_b60 (N : Nat) (s : iv_M) (q0 : Nat) (q1 : Nat) (x3 : Int) (x4 : Int) (x5 : Int) (x6 : Int) (x7 : Int)  (kb : Int → Int → Option (Int)) (kx : Int → Option (Int)) : Option (Int) := (kb x6 (w32 (x7 + 1)))
set_option maxRecDepth 10000 in
set_option maxHeartbeats 4000000 in
theorem RX0_hearing_b60 {d N nc Ls : Nat} {Xs : Nat → Int32} (hd : 3 ≤ d) {h : iv_H} {s : iv_M} (hR : Rep nc Ls Xs h s) {q0 : Nat} (t0 : T0 nc q0) {q1 : Nat} (t1 : T2 nc q1) {m3 : Int32} {x3 : Int} (p3 : m3.toInt = x3) {m4 : Int32} {x4 : Int} (p4 : m4.toInt = x4) {m5 : Int32} {x5 : Int} (p5 : m5.toInt = x5) {m6 : Int32} {x6 : Int} (p6 : m6.toInt = x6) {m7 : Int32} {x7 : Int} (p7 : m7.toInt = x7)  {kb : Int → Int → Option (Int)} {kx : Int → Option (Int)} {r : Int} {Q : Option Value → iv_H → Prop} (hb : ∀ (mw6 : Int32) (xw6 : Int) (pw6 : mw6.toInt = xw6) (mw7 : Int32) (xw7 : Int) (pw7 : mw7.toInt = xw7), kb xw6 xw7 = some r → Rn d 6 (some .int) 21 [some (.ref q0), some (.ref q1), none, some (.int m3), some (.int m4), some (.int m5), some (.int mw6), some (.int mw7)] [] h Q) (hk : ∀ (mw6 : Int32) (xw6 : Int) (pw6 : mw6.toInt = xw6), kx xw6 = some r → Rn d 6 (some .int) 66 [some (.ref q0), some (.ref q1), none, some (.int m3), none, some (.int m5), some (.int mw6), none] [] h Q) (hq : ∀ (z : Int32), z.toInt = r → Q (some (.int z)) h) (e : FX0_hearing_b60 N s q0 q1 x3 x4 x5 x6 x7  kb kx = some r) : Rn d 6 (some .int) 60 [some (.ref q0), some (.ref q1), none, some (.int m3), some (.int m4), some (.int m5), some (.int m6), some (.int m7)] [] h Q := by
  have hT := hX0_hearing
  unfold FX0_hearing_b60 at e
  refine Rn.n hT 2 (pc' := 21) (L' := [some (.ref q0), some (.ref q1), none, some (.int m3), some (.int m4), some (.int m5), some (.int m6), some (.int (m7 + (1 : Int32)))]) (st' := []) rfl ?_
  exact Rn.weak (ll_s (ll_s (ll_n (ll_s (ll_s (ll_s (ll_s (ll_s ll_e)))))))) (hb m6 x6 p6 (m7 + (1 : Int32)) (w32 (x7 + 1)) (ti_add p7 L32_1) e)
def FX0_hearing_l21 (N : Nat) (s : iv_M) (q0 : Nat) (q1 : Nat) (x3 : Int) (x4 : Int) (x5 : Int) (kx : Int → Option (Int)) : Nat → Int → Int → Option (Int)
  | 0, _, _ => none
  | n + 1, x6, x7 => (if (s (q1 + 1) 2) ≤ x7 then (kx x6) else (if (bAn (sr32 x4 x7) 1) = 1 then ((FX0_besides N s q0 (q1 + 1) x7 0).bind fun v_93 => (FX0_hearing_b60 N s q0 q1 x3 x4 x5 (bOr x6 v_93) x7 (FX0_hearing_l21 N s q0 q1 x3 x4 x5 kx n) kx)) else (FX0_hearing_b60 N s q0 q1 x3 x4 x5 x6 x7 (FX0_hearing_l21 N s q0 q1 x3 x4 x5 kx n) kx)))
set_option maxRecDepth 10000 in
set_option maxHeartbeats 4000000 in
theorem RX0_hearing_l21 {d N nc Ls : Nat} {Xs : Nat → Int32} (hd : 3 ≤ d) {h : iv_H} {s : iv_M} (hR : Rep nc Ls Xs h s) {q0 : Nat} (t0 : T0 nc q0) {q1 : Nat} (t1 : T2 nc q1) {m3 : Int32} {x3 : Int} (p3 : m3.toInt = x3) {m4 : Int32} {x4 : Int} (p4 : m4.toInt = x4) {m5 : Int32} {x5 : Int} (p5 : m5.toInt = x5) {kx : Int → Option (Int)} {r : Int} {Q : Option Value → iv_H → Prop} (hk : ∀ (m6 : Int32) (x6 : Int) (p6 : m6.toInt = x6), kx x6 = some r → Rn d 6 (some .int) 66 [some (.ref q0), some (.ref q1), none, some (.int m3), none, some (.int m5), some (.int m6), none] [] h Q) (hq : ∀ (z : Int32), z.toInt = r → Q (some (.int z)) h) : ∀ (n : Nat) (m6 : Int32) (x6 : Int) (p6 : m6.toInt = x6) (m7 : Int32) (x7 : Int) (p7 : m7.toInt = x7), FX0_hearing_l21 N s q0 q1 x3 x4 x5 kx n x6 x7 = some r → Rn d 6 (some .int) 21 [some (.ref q0), some (.ref q1), none, some (.int m3), some (.int m4), some (.int m5), some (.int m6), some (.int m7)] [] h Q := by
  have hT := hX0_hearing
  intro n
  induction n with
  | zero =>
    intro m6 x6 p6 m7 x7 p7 e
    rw [FX0_hearing_l21] at e
    cases e
  | succ n ih =>
    intro m6 x6 p6 m7 x7 p7 e
    rw [FX0_hearing_l21] at e
    refine Rn.n hT 2 (pc' := 24) (L' := [some (.ref q0), some (.ref q1), none, some (.int m3), some (.int m4), some (.int m5), some (.int m6), some (.int m7)]) (st' := [.ref q1, .int m7]) rfl ?_
    refine Rn.hp hT rfl rfl (gR_hp (rp_gR hR (T2_o t1) rfl)) ?_
    obtain ⟨z_90, g_90, p_90⟩ : ∃ z : Int32, gI h 1 2 (q1 + 1) = some z ∧ z.toInt = s (q1 + 1) 2 := rp_gI (k := 2) hR (T1_o (T2_9 t1)) rfl
    refine Rn.hp hT rfl rfl (gI_hp g_90) ?_
    by_cases c_91 : (s (q1 + 1) 2) ≤ x7
    · rw [if_pos c_91] at e
      refine Rn.bt hT rfl rfl rfl (decide_eq_true ((ti_le p_90 p7).mpr c_91)) ?_
      exact Rn.weak (ll_s (ll_s (ll_n (ll_s (ll_n (ll_s (ll_s (ll_n ll_e)))))))) (hk m6 x6 p6 e)
    · rw [if_neg c_91] at e
      refine Rn.bf hT rfl rfl rfl (decide_eq_false (fun z => c_91 ((ti_le p_90 p7).mp z))) ?_
      refine Rn.n hT 6 (pc' := 41) (L' := [some (.ref q0), some (.ref q1), none, some (.int m3), some (.int m4), some (.int m5), some (.int m6), some (.int m7)]) (st' := [.int (1 : Int32), .int ((m4 >>> (m7 &&& 31)) &&& (1 : Int32))]) rfl ?_
      by_cases c_92 : (bAn (sr32 x4 x7) 1) = 1
      · rw [if_pos c_92] at e
        refine Rn.bf hT rfl rfl rfl (decide_eq_false (fun z => z ((ti_e (ti_and (ti_shr p4 p7) L32_1) L32_1).mpr c_92))) ?_
        refine Rn.n hT 3 (pc' := 48) (L' := [some (.ref q0), some (.ref q1), none, some (.int m3), some (.int m4), some (.int m5), some (.int m6), some (.int m7)]) (st' := [.ref q1, .ref q0, .int m6]) rfl ?_
        refine Rn.hp hT rfl rfl (gR_hp (rp_gR hR (T2_o t1) rfl)) ?_
        refine Rn.n hT 2 (pc' := 54) (L' := [some (.ref q0), some (.ref q1), none, some (.int m3), some (.int m4), some (.int m5), some (.int m6), some (.int m7)]) (st' := [.int (0 : Int32), .int m7, .ref (q1 + 1), .ref q0, .int m6]) rfl ?_
        obtain ⟨v_93, e_93, e⟩ := Option.bind_eq_some_iff.mp e
        refine Rn.call hT rfl rfl rfl (Nat.le_of_ble_eq_true rfl) (rcv_v gX0_besides (by omega) (rp_ck hR (T0_o t0))) (RX0_besides (by omega) hR t0 (T2_9 t1) p7 L32_0 e_93 (fun z_93 p_93 => ?_))
        show Rn d _ _ 57 [some (.ref q0), some (.ref q1), none, some (.int m3), some (.int m4), some (.int m5), some (.int m6), some (.int m7)] [.int z_93, .int m6] h Q
        refine Rn.n hT 2 (pc' := 60) (L' := [some (.ref q0), some (.ref q1), none, some (.int m3), some (.int m4), some (.int m5), some (.int (m6 ||| z_93)), some (.int m7)]) (st' := []) rfl ?_
        exact Rn.weak (ll_s (ll_s (ll_n (ll_s (ll_s (ll_s (ll_s (ll_s ll_e)))))))) (RX0_hearing_b60 hd hR t0 t1 p3 p4 p5 (ti_or p6 p_93) p7 ih hk hq e)
      · rw [if_neg c_92] at e
        refine Rn.bt hT rfl rfl rfl (decide_eq_true (fun z => c_92 ((ti_e (ti_and (ti_shr p4 p7) L32_1) L32_1).mp z))) ?_
        exact Rn.weak (ll_s (ll_s (ll_n (ll_s (ll_s (ll_s (ll_s (ll_s ll_e)))))))) (RX0_hearing_b60 hd hR t0 t1 p3 p4 p5 p6 p7 ih hk hq e)
def FX0_hearing_l8 (N : Nat) (s : iv_M) (q0 : Nat) (q1 : Nat) (x3 : Int) (kx : Int → Option (Int)) : Nat → Int → Int → Option (Int)
  | 0, _, _ => none
  | n + 1, x4, x5 => (if x3 ≤ x5 then (kx x4) else (FX0_hearing_l21 N s q0 q1 x3 x4 x5 (fun (x89_6 : Int) => (FX0_hearing_l8 N s q0 q1 x3 kx n x89_6 (w32 (x5 + 1)))) N x4 0))
set_option maxRecDepth 10000 in
set_option maxHeartbeats 4000000 in
theorem RX0_hearing_l8 {d N nc Ls : Nat} {Xs : Nat → Int32} (hd : 3 ≤ d) {h : iv_H} {s : iv_M} (hR : Rep nc Ls Xs h s) {q0 : Nat} (t0 : T0 nc q0) {q1 : Nat} (t1 : T2 nc q1) {m3 : Int32} {x3 : Int} (p3 : m3.toInt = x3) {kx : Int → Option (Int)} {r : Int} {Q : Option Value → iv_H → Prop} (hk : ∀ (m4 : Int32) (x4 : Int) (p4 : m4.toInt = x4), kx x4 = some r → Rn d 6 (some .int) 76 [none, none, none, none, some (.int m4), none, none, none] [] h Q) (hq : ∀ (z : Int32), z.toInt = r → Q (some (.int z)) h) : ∀ (n : Nat) (m4 : Int32) (x4 : Int) (p4 : m4.toInt = x4) (m5 : Int32) (x5 : Int) (p5 : m5.toInt = x5), FX0_hearing_l8 N s q0 q1 x3 kx n x4 x5 = some r → Rn d 6 (some .int) 8 [some (.ref q0), some (.ref q1), none, some (.int m3), some (.int m4), some (.int m5), none, none] [] h Q := by
  have hT := hX0_hearing
  intro n
  induction n with
  | zero =>
    intro m4 x4 p4 m5 x5 p5 e
    rw [FX0_hearing_l8] at e
    cases e
  | succ n ih =>
    intro m4 x4 p4 m5 x5 p5 e
    rw [FX0_hearing_l8] at e
    refine Rn.n hT 2 (pc' := 11) (L' := [some (.ref q0), some (.ref q1), none, some (.int m3), some (.int m4), some (.int m5), none, none]) (st' := [.int m3, .int m5]) rfl ?_
    by_cases c_88 : x3 ≤ x5
    · rw [if_pos c_88] at e
      refine Rn.bt hT rfl rfl rfl (decide_eq_true ((ti_le p3 p5).mpr c_88)) ?_
      exact Rn.weak (ll_n (ll_n (ll_n (ll_n (ll_s (ll_n (ll_n (ll_n ll_e)))))))) (hk m4 x4 p4 e)
    · rw [if_neg c_88] at e
      refine Rn.bf hT rfl rfl rfl (decide_eq_false (fun z => c_88 ((ti_le p3 p5).mp z))) ?_
      refine Rn.n hT 4 (pc' := 21) (L' := [some (.ref q0), some (.ref q1), none, some (.int m3), some (.int m4), some (.int m5), some (.int m4), some (.int (0 : Int32))]) (st' := []) rfl ?_
      refine Rn.weak (ll_s (ll_s (ll_n (ll_s (ll_s (ll_s (ll_s (ll_s ll_e)))))))) (RX0_hearing_l21 hd hR t0 t1 p3 p4 p5 (fun m89_6 x89_6 p89_6 e => ?_) hq N m4 x4 p4 (0 : Int32) 0 L32_0 e)
      try dsimp only at e
      refine Rn.n hT 4 (pc' := 8) (L' := [some (.ref q0), some (.ref q1), none, some (.int m3), some (.int m89_6), some (.int (m5 + (1 : Int32))), some (.int m89_6), none]) (st' := []) rfl ?_
      exact Rn.weak (ll_s (ll_s (ll_n (ll_s (ll_s (ll_s (ll_n (ll_n ll_e)))))))) (ih m89_6 x89_6 p89_6 (m5 + (1 : Int32)) (w32 (x5 + 1)) (ti_add p5 L32_1) e)
def FX0_hearing (N : Nat) (s : iv_M) (q0 : Nat) (q1 : Nat) (x2 : Int) (x3 : Int) : Option (Int) := (FX0_hearing_l8 N s q0 q1 x3 (fun (x87_4 : Int) => (some x87_4)) N (sl32 1 x2) 0)
set_option maxRecDepth 10000 in
set_option maxHeartbeats 4000000 in
theorem RX0_hearing {d N nc Ls : Nat} {Xs : Nat → Int32} (hd : 4 ≤ d) {h : iv_H} {s : iv_M} (hR : Rep nc Ls Xs h s) {q0 : Nat} (t0 : T0 nc q0) {q1 : Nat} (t1 : T2 nc q1) {m2 : Int32} {x2 : Int} (p2 : m2.toInt = x2) {m3 : Int32} {x3 : Int} (p3 : m3.toInt = x3) {r : Int} {Q : Option Value → iv_H → Prop} (e : FX0_hearing N s q0 q1 x2 x3 = some r) (hq : ∀ (z : Int32), z.toInt = r → Q (some (.int z)) h) : Cl d 6 [.ref q0, .ref q1, .int m2, .int m3] h Q := by
  obtain ⟨d, rfl⟩ : ∃ k, d = k + 1 := ⟨d - 1, by omega⟩
  have hd : 3 ≤ d := by omega
  have hT := hX0_hearing
  unfold FX0_hearing at e
  refine Cl.into (by decide) gX0_hearing rfl ?_
  show Rn d 6 (some .int) 0 [some (.ref q0), some (.ref q1), some (.int m2), some (.int m3), none, none, none, none] [] h Q
  refine Rn.n hT 6 (pc' := 8) (L' := [some (.ref q0), some (.ref q1), some (.int m2), some (.int m3), some (.int ((1 : Int32) <<< (m2 &&& 31))), some (.int (0 : Int32)), none, none]) (st' := []) rfl ?_
  refine Rn.weak (ll_s (ll_s (ll_n (ll_s (ll_s (ll_s (ll_n (ll_n ll_e)))))))) (RX0_hearing_l8 hd hR t0 t1 p3 (fun m87_4 x87_4 p87_4 e => ?_) hq N ((1 : Int32) <<< (m2 &&& 31)) (sl32 1 x2) (ti_shl L32_1 p2) (0 : Int32) 0 L32_0 e)
  try dsimp only at e
  refine Rn.n hT 1 (pc' := 78) (L' := [none, none, none, none, some (.int m87_4), none, none, none]) (st' := [.int m87_4]) rfl ?_
  obtain rfl := Option.some.inj e
  exact Rn.ret hT rfl rfl rfl (hq m87_4 p87_4)
set_option maxRecDepth 10000 in
theorem hJ6_bitCount_0f7a4 : iv_Tb 349 tJ6_bitCount_0f7a4 := iv_tb_of (m := mJ6_bitCount_0f7a4) rfl
set_option maxRecDepth 10000 in
theorem gJ6_bitCount_0f7a4 : PG.2 349 = some mJ6_bitCount_0f7a4 := iv_pi_of (t := tJ6_bitCount_0f7a4) rfl (by decide)
def FJ6_bitCount_0f7a4 (N : Nat) (s : iv_M) (x0 : Int) : Option (Int) := (some (bAn (w32 ((w32 ((bAn (w32 ((w32 ((bAn (w32 (x0 - (bAn (us32 x0 1) 1431655765))) 858993459) + (bAn (us32 (w32 (x0 - (bAn (us32 x0 1) 1431655765))) 2) 858993459))) + (us32 (w32 ((bAn (w32 (x0 - (bAn (us32 x0 1) 1431655765))) 858993459) + (bAn (us32 (w32 (x0 - (bAn (us32 x0 1) 1431655765))) 2) 858993459))) 4))) 252645135) + (us32 (bAn (w32 ((w32 ((bAn (w32 (x0 - (bAn (us32 x0 1) 1431655765))) 858993459) + (bAn (us32 (w32 (x0 - (bAn (us32 x0 1) 1431655765))) 2) 858993459))) + (us32 (w32 ((bAn (w32 (x0 - (bAn (us32 x0 1) 1431655765))) 858993459) + (bAn (us32 (w32 (x0 - (bAn (us32 x0 1) 1431655765))) 2) 858993459))) 4))) 252645135) 8))) + (us32 (w32 ((bAn (w32 ((w32 ((bAn (w32 (x0 - (bAn (us32 x0 1) 1431655765))) 858993459) + (bAn (us32 (w32 (x0 - (bAn (us32 x0 1) 1431655765))) 2) 858993459))) + (us32 (w32 ((bAn (w32 (x0 - (bAn (us32 x0 1) 1431655765))) 858993459) + (bAn (us32 (w32 (x0 - (bAn (us32 x0 1) 1431655765))) 2) 858993459))) 4))) 252645135) + (us32 (bAn (w32 ((w32 ((bAn (w32 (x0 - (bAn (us32 x0 1) 1431655765))) 858993459) + (bAn (us32 (w32 (x0 - (bAn (us32 x0 1) 1431655765))) 2) 858993459))) + (us32 (w32 ((bAn (w32 (x0 - (bAn (us32 x0 1) 1431655765))) 858993459) + (bAn (us32 (w32 (x0 - (bAn (us32 x0 1) 1431655765))) 2) 858993459))) 4))) 252645135) 8))) 16))) 63))
set_option maxRecDepth 10000 in
set_option maxHeartbeats 4000000 in
theorem RJ6_bitCount_0f7a4 {d N nc Ls : Nat} {Xs : Nat → Int32} (hd : 1 ≤ d) {h : iv_H} {s : iv_M} (hR : Rep nc Ls Xs h s) {m0 : Int32} {x0 : Int} (p0 : m0.toInt = x0) {r : Int} {Q : Option Value → iv_H → Prop} (e : FJ6_bitCount_0f7a4 N s x0 = some r) (hq : ∀ (z : Int32), z.toInt = r → Q (some (.int z)) h) : Cl d 349 [.int m0] h Q := by
  obtain ⟨d, rfl⟩ : ∃ k, d = k + 1 := ⟨d - 1, by omega⟩
  have hd : 0 ≤ d := by omega
  have hT := hJ6_bitCount_0f7a4
  unfold FJ6_bitCount_0f7a4 at e
  refine Cl.into (by decide) gJ6_bitCount_0f7a4 rfl ?_
  show Rn d 349 (some .int) 0 [some (.int m0)] [] h Q
  refine Rn.n hT 41 (pc' := 52) (L' := [some (.int (((((((m0 - ((((m0).toUInt32 >>> (((1 : Int32)).toUInt32 &&& Int32.toUInt32 31)).toInt32) &&& (1431655765 : Int32))) &&& (858993459 : Int32)) + (((((m0 - ((((m0).toUInt32 >>> (((1 : Int32)).toUInt32 &&& Int32.toUInt32 31)).toInt32) &&& (1431655765 : Int32)))).toUInt32 >>> (((2 : Int32)).toUInt32 &&& Int32.toUInt32 31)).toInt32) &&& (858993459 : Int32))) + ((((((m0 - ((((m0).toUInt32 >>> (((1 : Int32)).toUInt32 &&& Int32.toUInt32 31)).toInt32) &&& (1431655765 : Int32))) &&& (858993459 : Int32)) + (((((m0 - ((((m0).toUInt32 >>> (((1 : Int32)).toUInt32 &&& Int32.toUInt32 31)).toInt32) &&& (1431655765 : Int32)))).toUInt32 >>> (((2 : Int32)).toUInt32 &&& Int32.toUInt32 31)).toInt32) &&& (858993459 : Int32)))).toUInt32 >>> (((4 : Int32)).toUInt32 &&& Int32.toUInt32 31)).toInt32)) &&& (252645135 : Int32)) + ((((((((m0 - ((((m0).toUInt32 >>> (((1 : Int32)).toUInt32 &&& Int32.toUInt32 31)).toInt32) &&& (1431655765 : Int32))) &&& (858993459 : Int32)) + (((((m0 - ((((m0).toUInt32 >>> (((1 : Int32)).toUInt32 &&& Int32.toUInt32 31)).toInt32) &&& (1431655765 : Int32)))).toUInt32 >>> (((2 : Int32)).toUInt32 &&& Int32.toUInt32 31)).toInt32) &&& (858993459 : Int32))) + ((((((m0 - ((((m0).toUInt32 >>> (((1 : Int32)).toUInt32 &&& Int32.toUInt32 31)).toInt32) &&& (1431655765 : Int32))) &&& (858993459 : Int32)) + (((((m0 - ((((m0).toUInt32 >>> (((1 : Int32)).toUInt32 &&& Int32.toUInt32 31)).toInt32) &&& (1431655765 : Int32)))).toUInt32 >>> (((2 : Int32)).toUInt32 &&& Int32.toUInt32 31)).toInt32) &&& (858993459 : Int32)))).toUInt32 >>> (((4 : Int32)).toUInt32 &&& Int32.toUInt32 31)).toInt32)) &&& (252645135 : Int32))).toUInt32 >>> (((8 : Int32)).toUInt32 &&& Int32.toUInt32 31)).toInt32)) + (((((((((m0 - ((((m0).toUInt32 >>> (((1 : Int32)).toUInt32 &&& Int32.toUInt32 31)).toInt32) &&& (1431655765 : Int32))) &&& (858993459 : Int32)) + (((((m0 - ((((m0).toUInt32 >>> (((1 : Int32)).toUInt32 &&& Int32.toUInt32 31)).toInt32) &&& (1431655765 : Int32)))).toUInt32 >>> (((2 : Int32)).toUInt32 &&& Int32.toUInt32 31)).toInt32) &&& (858993459 : Int32))) + ((((((m0 - ((((m0).toUInt32 >>> (((1 : Int32)).toUInt32 &&& Int32.toUInt32 31)).toInt32) &&& (1431655765 : Int32))) &&& (858993459 : Int32)) + (((((m0 - ((((m0).toUInt32 >>> (((1 : Int32)).toUInt32 &&& Int32.toUInt32 31)).toInt32) &&& (1431655765 : Int32)))).toUInt32 >>> (((2 : Int32)).toUInt32 &&& Int32.toUInt32 31)).toInt32) &&& (858993459 : Int32)))).toUInt32 >>> (((4 : Int32)).toUInt32 &&& Int32.toUInt32 31)).toInt32)) &&& (252645135 : Int32)) + ((((((((m0 - ((((m0).toUInt32 >>> (((1 : Int32)).toUInt32 &&& Int32.toUInt32 31)).toInt32) &&& (1431655765 : Int32))) &&& (858993459 : Int32)) + (((((m0 - ((((m0).toUInt32 >>> (((1 : Int32)).toUInt32 &&& Int32.toUInt32 31)).toInt32) &&& (1431655765 : Int32)))).toUInt32 >>> (((2 : Int32)).toUInt32 &&& Int32.toUInt32 31)).toInt32) &&& (858993459 : Int32))) + ((((((m0 - ((((m0).toUInt32 >>> (((1 : Int32)).toUInt32 &&& Int32.toUInt32 31)).toInt32) &&& (1431655765 : Int32))) &&& (858993459 : Int32)) + (((((m0 - ((((m0).toUInt32 >>> (((1 : Int32)).toUInt32 &&& Int32.toUInt32 31)).toInt32) &&& (1431655765 : Int32)))).toUInt32 >>> (((2 : Int32)).toUInt32 &&& Int32.toUInt32 31)).toInt32) &&& (858993459 : Int32)))).toUInt32 >>> (((4 : Int32)).toUInt32 &&& Int32.toUInt32 31)).toInt32)) &&& (252645135 : Int32))).toUInt32 >>> (((8 : Int32)).toUInt32 &&& Int32.toUInt32 31)).toInt32))).toUInt32 >>> (((16 : Int32)).toUInt32 &&& Int32.toUInt32 31)).toInt32)))]) (st' := [.int ((((((((m0 - ((((m0).toUInt32 >>> (((1 : Int32)).toUInt32 &&& Int32.toUInt32 31)).toInt32) &&& (1431655765 : Int32))) &&& (858993459 : Int32)) + (((((m0 - ((((m0).toUInt32 >>> (((1 : Int32)).toUInt32 &&& Int32.toUInt32 31)).toInt32) &&& (1431655765 : Int32)))).toUInt32 >>> (((2 : Int32)).toUInt32 &&& Int32.toUInt32 31)).toInt32) &&& (858993459 : Int32))) + ((((((m0 - ((((m0).toUInt32 >>> (((1 : Int32)).toUInt32 &&& Int32.toUInt32 31)).toInt32) &&& (1431655765 : Int32))) &&& (858993459 : Int32)) + (((((m0 - ((((m0).toUInt32 >>> (((1 : Int32)).toUInt32 &&& Int32.toUInt32 31)).toInt32) &&& (1431655765 : Int32)))).toUInt32 >>> (((2 : Int32)).toUInt32 &&& Int32.toUInt32 31)).toInt32) &&& (858993459 : Int32)))).toUInt32 >>> (((4 : Int32)).toUInt32 &&& Int32.toUInt32 31)).toInt32)) &&& (252645135 : Int32)) + ((((((((m0 - ((((m0).toUInt32 >>> (((1 : Int32)).toUInt32 &&& Int32.toUInt32 31)).toInt32) &&& (1431655765 : Int32))) &&& (858993459 : Int32)) + (((((m0 - ((((m0).toUInt32 >>> (((1 : Int32)).toUInt32 &&& Int32.toUInt32 31)).toInt32) &&& (1431655765 : Int32)))).toUInt32 >>> (((2 : Int32)).toUInt32 &&& Int32.toUInt32 31)).toInt32) &&& (858993459 : Int32))) + ((((((m0 - ((((m0).toUInt32 >>> (((1 : Int32)).toUInt32 &&& Int32.toUInt32 31)).toInt32) &&& (1431655765 : Int32))) &&& (858993459 : Int32)) + (((((m0 - ((((m0).toUInt32 >>> (((1 : Int32)).toUInt32 &&& Int32.toUInt32 31)).toInt32) &&& (1431655765 : Int32)))).toUInt32 >>> (((2 : Int32)).toUInt32 &&& Int32.toUInt32 31)).toInt32) &&& (858993459 : Int32)))).toUInt32 >>> (((4 : Int32)).toUInt32 &&& Int32.toUInt32 31)).toInt32)) &&& (252645135 : Int32))).toUInt32 >>> (((8 : Int32)).toUInt32 &&& Int32.toUInt32 31)).toInt32)) + (((((((((m0 - ((((m0).toUInt32 >>> (((1 : Int32)).toUInt32 &&& Int32.toUInt32 31)).toInt32) &&& (1431655765 : Int32))) &&& (858993459 : Int32)) + (((((m0 - ((((m0).toUInt32 >>> (((1 : Int32)).toUInt32 &&& Int32.toUInt32 31)).toInt32) &&& (1431655765 : Int32)))).toUInt32 >>> (((2 : Int32)).toUInt32 &&& Int32.toUInt32 31)).toInt32) &&& (858993459 : Int32))) + ((((((m0 - ((((m0).toUInt32 >>> (((1 : Int32)).toUInt32 &&& Int32.toUInt32 31)).toInt32) &&& (1431655765 : Int32))) &&& (858993459 : Int32)) + (((((m0 - ((((m0).toUInt32 >>> (((1 : Int32)).toUInt32 &&& Int32.toUInt32 31)).toInt32) &&& (1431655765 : Int32)))).toUInt32 >>> (((2 : Int32)).toUInt32 &&& Int32.toUInt32 31)).toInt32) &&& (858993459 : Int32)))).toUInt32 >>> (((4 : Int32)).toUInt32 &&& Int32.toUInt32 31)).toInt32)) &&& (252645135 : Int32)) + ((((((((m0 - ((((m0).toUInt32 >>> (((1 : Int32)).toUInt32 &&& Int32.toUInt32 31)).toInt32) &&& (1431655765 : Int32))) &&& (858993459 : Int32)) + (((((m0 - ((((m0).toUInt32 >>> (((1 : Int32)).toUInt32 &&& Int32.toUInt32 31)).toInt32) &&& (1431655765 : Int32)))).toUInt32 >>> (((2 : Int32)).toUInt32 &&& Int32.toUInt32 31)).toInt32) &&& (858993459 : Int32))) + ((((((m0 - ((((m0).toUInt32 >>> (((1 : Int32)).toUInt32 &&& Int32.toUInt32 31)).toInt32) &&& (1431655765 : Int32))) &&& (858993459 : Int32)) + (((((m0 - ((((m0).toUInt32 >>> (((1 : Int32)).toUInt32 &&& Int32.toUInt32 31)).toInt32) &&& (1431655765 : Int32)))).toUInt32 >>> (((2 : Int32)).toUInt32 &&& Int32.toUInt32 31)).toInt32) &&& (858993459 : Int32)))).toUInt32 >>> (((4 : Int32)).toUInt32 &&& Int32.toUInt32 31)).toInt32)) &&& (252645135 : Int32))).toUInt32 >>> (((8 : Int32)).toUInt32 &&& Int32.toUInt32 31)).toInt32))).toUInt32 >>> (((16 : Int32)).toUInt32 &&& Int32.toUInt32 31)).toInt32)) &&& (63 : Int32))]) rfl ?_
  obtain rfl := Option.some.inj e
  exact Rn.ret hT rfl rfl rfl (hq ((((((((m0 - ((((m0).toUInt32 >>> (((1 : Int32)).toUInt32 &&& Int32.toUInt32 31)).toInt32) &&& (1431655765 : Int32))) &&& (858993459 : Int32)) + (((((m0 - ((((m0).toUInt32 >>> (((1 : Int32)).toUInt32 &&& Int32.toUInt32 31)).toInt32) &&& (1431655765 : Int32)))).toUInt32 >>> (((2 : Int32)).toUInt32 &&& Int32.toUInt32 31)).toInt32) &&& (858993459 : Int32))) + ((((((m0 - ((((m0).toUInt32 >>> (((1 : Int32)).toUInt32 &&& Int32.toUInt32 31)).toInt32) &&& (1431655765 : Int32))) &&& (858993459 : Int32)) + (((((m0 - ((((m0).toUInt32 >>> (((1 : Int32)).toUInt32 &&& Int32.toUInt32 31)).toInt32) &&& (1431655765 : Int32)))).toUInt32 >>> (((2 : Int32)).toUInt32 &&& Int32.toUInt32 31)).toInt32) &&& (858993459 : Int32)))).toUInt32 >>> (((4 : Int32)).toUInt32 &&& Int32.toUInt32 31)).toInt32)) &&& (252645135 : Int32)) + ((((((((m0 - ((((m0).toUInt32 >>> (((1 : Int32)).toUInt32 &&& Int32.toUInt32 31)).toInt32) &&& (1431655765 : Int32))) &&& (858993459 : Int32)) + (((((m0 - ((((m0).toUInt32 >>> (((1 : Int32)).toUInt32 &&& Int32.toUInt32 31)).toInt32) &&& (1431655765 : Int32)))).toUInt32 >>> (((2 : Int32)).toUInt32 &&& Int32.toUInt32 31)).toInt32) &&& (858993459 : Int32))) + ((((((m0 - ((((m0).toUInt32 >>> (((1 : Int32)).toUInt32 &&& Int32.toUInt32 31)).toInt32) &&& (1431655765 : Int32))) &&& (858993459 : Int32)) + (((((m0 - ((((m0).toUInt32 >>> (((1 : Int32)).toUInt32 &&& Int32.toUInt32 31)).toInt32) &&& (1431655765 : Int32)))).toUInt32 >>> (((2 : Int32)).toUInt32 &&& Int32.toUInt32 31)).toInt32) &&& (858993459 : Int32)))).toUInt32 >>> (((4 : Int32)).toUInt32 &&& Int32.toUInt32 31)).toInt32)) &&& (252645135 : Int32))).toUInt32 >>> (((8 : Int32)).toUInt32 &&& Int32.toUInt32 31)).toInt32)) + (((((((((m0 - ((((m0).toUInt32 >>> (((1 : Int32)).toUInt32 &&& Int32.toUInt32 31)).toInt32) &&& (1431655765 : Int32))) &&& (858993459 : Int32)) + (((((m0 - ((((m0).toUInt32 >>> (((1 : Int32)).toUInt32 &&& Int32.toUInt32 31)).toInt32) &&& (1431655765 : Int32)))).toUInt32 >>> (((2 : Int32)).toUInt32 &&& Int32.toUInt32 31)).toInt32) &&& (858993459 : Int32))) + ((((((m0 - ((((m0).toUInt32 >>> (((1 : Int32)).toUInt32 &&& Int32.toUInt32 31)).toInt32) &&& (1431655765 : Int32))) &&& (858993459 : Int32)) + (((((m0 - ((((m0).toUInt32 >>> (((1 : Int32)).toUInt32 &&& Int32.toUInt32 31)).toInt32) &&& (1431655765 : Int32)))).toUInt32 >>> (((2 : Int32)).toUInt32 &&& Int32.toUInt32 31)).toInt32) &&& (858993459 : Int32)))).toUInt32 >>> (((4 : Int32)).toUInt32 &&& Int32.toUInt32 31)).toInt32)) &&& (252645135 : Int32)) + ((((((((m0 - ((((m0).toUInt32 >>> (((1 : Int32)).toUInt32 &&& Int32.toUInt32 31)).toInt32) &&& (1431655765 : Int32))) &&& (858993459 : Int32)) + (((((m0 - ((((m0).toUInt32 >>> (((1 : Int32)).toUInt32 &&& Int32.toUInt32 31)).toInt32) &&& (1431655765 : Int32)))).toUInt32 >>> (((2 : Int32)).toUInt32 &&& Int32.toUInt32 31)).toInt32) &&& (858993459 : Int32))) + ((((((m0 - ((((m0).toUInt32 >>> (((1 : Int32)).toUInt32 &&& Int32.toUInt32 31)).toInt32) &&& (1431655765 : Int32))) &&& (858993459 : Int32)) + (((((m0 - ((((m0).toUInt32 >>> (((1 : Int32)).toUInt32 &&& Int32.toUInt32 31)).toInt32) &&& (1431655765 : Int32)))).toUInt32 >>> (((2 : Int32)).toUInt32 &&& Int32.toUInt32 31)).toInt32) &&& (858993459 : Int32)))).toUInt32 >>> (((4 : Int32)).toUInt32 &&& Int32.toUInt32 31)).toInt32)) &&& (252645135 : Int32))).toUInt32 >>> (((8 : Int32)).toUInt32 &&& Int32.toUInt32 31)).toInt32))).toUInt32 >>> (((16 : Int32)).toUInt32 &&& Int32.toUInt32 31)).toInt32)) &&& (63 : Int32)) (ti_and (ti_add (ti_add (ti_and (ti_add (ti_add (ti_and (ti_sub p0 (ti_and (ti_ushr p0 L32_1) L32_1431655765)) L32_858993459) (ti_and (ti_ushr (ti_sub p0 (ti_and (ti_ushr p0 L32_1) L32_1431655765)) L32_2) L32_858993459)) (ti_ushr (ti_add (ti_and (ti_sub p0 (ti_and (ti_ushr p0 L32_1) L32_1431655765)) L32_858993459) (ti_and (ti_ushr (ti_sub p0 (ti_and (ti_ushr p0 L32_1) L32_1431655765)) L32_2) L32_858993459)) L32_4)) L32_252645135) (ti_ushr (ti_and (ti_add (ti_add (ti_and (ti_sub p0 (ti_and (ti_ushr p0 L32_1) L32_1431655765)) L32_858993459) (ti_and (ti_ushr (ti_sub p0 (ti_and (ti_ushr p0 L32_1) L32_1431655765)) L32_2) L32_858993459)) (ti_ushr (ti_add (ti_and (ti_sub p0 (ti_and (ti_ushr p0 L32_1) L32_1431655765)) L32_858993459) (ti_and (ti_ushr (ti_sub p0 (ti_and (ti_ushr p0 L32_1) L32_1431655765)) L32_2) L32_858993459)) L32_4)) L32_252645135) L32_8)) (ti_ushr (ti_add (ti_and (ti_add (ti_add (ti_and (ti_sub p0 (ti_and (ti_ushr p0 L32_1) L32_1431655765)) L32_858993459) (ti_and (ti_ushr (ti_sub p0 (ti_and (ti_ushr p0 L32_1) L32_1431655765)) L32_2) L32_858993459)) (ti_ushr (ti_add (ti_and (ti_sub p0 (ti_and (ti_ushr p0 L32_1) L32_1431655765)) L32_858993459) (ti_and (ti_ushr (ti_sub p0 (ti_and (ti_ushr p0 L32_1) L32_1431655765)) L32_2) L32_858993459)) L32_4)) L32_252645135) (ti_ushr (ti_and (ti_add (ti_add (ti_and (ti_sub p0 (ti_and (ti_ushr p0 L32_1) L32_1431655765)) L32_858993459) (ti_and (ti_ushr (ti_sub p0 (ti_and (ti_ushr p0 L32_1) L32_1431655765)) L32_2) L32_858993459)) (ti_ushr (ti_add (ti_and (ti_sub p0 (ti_and (ti_ushr p0 L32_1) L32_1431655765)) L32_858993459) (ti_and (ti_ushr (ti_sub p0 (ti_and (ti_ushr p0 L32_1) L32_1431655765)) L32_2) L32_858993459)) L32_4)) L32_252645135) L32_8)) L32_16)) L32_63))
set_option maxRecDepth 10000 in
theorem hX0_isGuarded : iv_Tb 9 tX0_isGuarded := iv_tb_of (m := mX0_isGuarded) rfl
set_option maxRecDepth 10000 in
theorem gX0_isGuarded : PG.2 9 = some mX0_isGuarded := iv_pi_of (t := tX0_isGuarded) rfl (by decide)
def FX0_isGuarded_b30 (N : Nat) (s : iv_M) (q0 : Nat) (x1 : Int) (x2 : Int) (x3 : Int)  (kb : Int → Option (Int)) (kx : Unit → Option (Int)) : Option (Int) := (kb (w32 (x3 + 1)))
set_option maxRecDepth 10000 in
set_option maxHeartbeats 4000000 in
theorem RX0_isGuarded_b30 {d N nc Ls : Nat} {Xs : Nat → Int32} (hd : 0 ≤ d) {h : iv_H} {s : iv_M} (hR : Rep nc Ls Xs h s) {q0 : Nat} (t0 : T0 nc q0) {m1 : Int32} {x1 : Int} (p1 : m1.toInt = x1) {m2 : Int32} {x2 : Int} (p2 : m2.toInt = x2) {m3 : Int32} {x3 : Int} (p3 : m3.toInt = x3)  {kb : Int → Option (Int)} {kx : Unit → Option (Int)} {r : Int} {Q : Option Value → iv_H → Prop} (hb : ∀ (mw3 : Int32) (xw3 : Int) (pw3 : mw3.toInt = xw3), kb xw3 = some r → Rn d 9 (some .boolean) 2 [some (.ref q0), some (.int m1), some (.int m2), some (.int mw3)] [] h Q) (hk : ∀ (u : Unit), kx u = some r → Rn d 9 (some .boolean) 36 [none, none, none, none] [] h Q) (hq : ∀ (z : Int32), z.toInt = r → Q (some (.int z)) h) (e : FX0_isGuarded_b30 N s q0 x1 x2 x3  kb kx = some r) : Rn d 9 (some .boolean) 30 [some (.ref q0), some (.int m1), some (.int m2), some (.int m3)] [] h Q := by
  have hT := hX0_isGuarded
  unfold FX0_isGuarded_b30 at e
  refine Rn.n hT 2 (pc' := 2) (L' := [some (.ref q0), some (.int m1), some (.int m2), some (.int (m3 + (1 : Int32)))]) (st' := []) rfl ?_
  exact Rn.weak (ll_s (ll_s (ll_s (ll_s ll_e)))) (hb (m3 + (1 : Int32)) (w32 (x3 + 1)) (ti_add p3 L32_1) e)
def FX0_isGuarded_l2 (N : Nat) (s : iv_M) (q0 : Nat) (x1 : Int) (x2 : Int) (kx : Unit → Option (Int)) : Nat → Int → Option (Int)
  | 0, _ => none
  | n + 1, x3 => (if x1 ≤ x3 then (kx ()) else (if (bAn (sr32 x2 x3) 1) = 0 then ((rd s (q0 + 3) 12 x3).bind fun v_97 => (if (bAn v_97 (bXo x2 (-1))) = 0 then (FX0_isGuarded_b30 N s q0 x1 x2 x3 (FX0_isGuarded_l2 N s q0 x1 x2 kx n) kx) else (some 0))) else (FX0_isGuarded_b30 N s q0 x1 x2 x3 (FX0_isGuarded_l2 N s q0 x1 x2 kx n) kx)))
set_option maxRecDepth 10000 in
set_option maxHeartbeats 4000000 in
theorem RX0_isGuarded_l2 {d N nc Ls : Nat} {Xs : Nat → Int32} (hd : 0 ≤ d) {h : iv_H} {s : iv_M} (hR : Rep nc Ls Xs h s) {q0 : Nat} (t0 : T0 nc q0) {m1 : Int32} {x1 : Int} (p1 : m1.toInt = x1) {m2 : Int32} {x2 : Int} (p2 : m2.toInt = x2) {kx : Unit → Option (Int)} {r : Int} {Q : Option Value → iv_H → Prop} (hk : ∀ (u : Unit), kx u = some r → Rn d 9 (some .boolean) 36 [none, none, none, none] [] h Q) (hq : ∀ (z : Int32), z.toInt = r → Q (some (.int z)) h) : ∀ (n : Nat) (m3 : Int32) (x3 : Int) (p3 : m3.toInt = x3), FX0_isGuarded_l2 N s q0 x1 x2 kx n x3 = some r → Rn d 9 (some .boolean) 2 [some (.ref q0), some (.int m1), some (.int m2), some (.int m3)] [] h Q := by
  have hT := hX0_isGuarded
  intro n
  induction n with
  | zero =>
    intro m3 x3 p3 e
    rw [FX0_isGuarded_l2] at e
    cases e
  | succ n ih =>
    intro m3 x3 p3 e
    rw [FX0_isGuarded_l2] at e
    refine Rn.n hT 2 (pc' := 4) (L' := [some (.ref q0), some (.int m1), some (.int m2), some (.int m3)]) (st' := [.int m1, .int m3]) rfl ?_
    by_cases c_95 : x1 ≤ x3
    · rw [if_pos c_95] at e
      refine Rn.bt hT rfl rfl rfl (decide_eq_true ((ti_le p1 p3).mpr c_95)) ?_
      exact Rn.weak (ll_n (ll_n (ll_n (ll_n ll_e)))) (hk () e)
    · rw [if_neg c_95] at e
      refine Rn.bf hT rfl rfl rfl (decide_eq_false (fun z => c_95 ((ti_le p1 p3).mp z))) ?_
      refine Rn.n hT 5 (pc' := 12) (L' := [some (.ref q0), some (.int m1), some (.int m2), some (.int m3)]) (st' := [.int ((m2 >>> (m3 &&& 31)) &&& (1 : Int32))]) rfl ?_
      by_cases c_96 : (bAn (sr32 x2 x3) 1) = 0
      · rw [if_pos c_96] at e
        refine Rn.bf hT rfl rfl rfl (decide_eq_false (fun z => z ((ti_e (ti_and (ti_shr p2 p3) L32_1) L32_0).mpr c_96))) ?_
        refine Rn.n hT 1 (pc' := 16) (L' := [some (.ref q0), some (.int m1), some (.int m2), some (.int m3)]) (st' := [.ref q0]) rfl ?_
        refine Rn.hp hT rfl rfl (gR_hp (rp_gR hR (T0_o t0) rfl)) ?_
        refine Rn.n hT 1 (pc' := 20) (L' := [some (.ref q0), some (.int m1), some (.int m2), some (.int m3)]) (st' := [.int m3, .ref (q0 + 3)]) rfl ?_
        obtain ⟨v_97, e_97, e⟩ := Option.bind_eq_some_iff.mp e
        obtain ⟨z_97, g_97, p_97⟩ := rp_aI hR (T0_3 t0) (T0_3l t0) p3 e_97
        refine Rn.hp hT rfl rfl (aI_hp g_97) ?_
        refine Rn.n hT 4 (pc' := 25) (L' := [some (.ref q0), some (.int m1), some (.int m2), some (.int m3)]) (st' := [.int (z_97 &&& (m2 ^^^ (-1 : Int32)))]) rfl ?_
        by_cases c_98 : (bAn v_97 (bXo x2 (-1))) = 0
        · rw [if_pos c_98] at e
          refine Rn.bt hT rfl rfl rfl (decide_eq_true ((ti_e (ti_and p_97 (ti_xor p2 L32_m1)) L32_0).mpr c_98)) ?_
          exact Rn.weak (ll_s (ll_s (ll_s (ll_s ll_e)))) (RX0_isGuarded_b30 hd hR t0 p1 p2 p3 ih hk hq e)
        · rw [if_neg c_98] at e
          refine Rn.bf hT rfl rfl rfl (decide_eq_false (fun z => c_98 ((ti_e (ti_and p_97 (ti_xor p2 L32_m1)) L32_0).mp z))) ?_
          refine Rn.n hT 1 (pc' := 29) (L' := [some (.ref q0), some (.int m1), some (.int m2), some (.int m3)]) (st' := [.int (0 : Int32)]) rfl ?_
          obtain rfl := Option.some.inj e
          exact Rn.ret hT rfl rfl rfl (hq (0 : Int32) L32_0)
      · rw [if_neg c_96] at e
        refine Rn.bt hT rfl rfl rfl (decide_eq_true (fun z => c_96 ((ti_e (ti_and (ti_shr p2 p3) L32_1) L32_0).mp z))) ?_
        exact Rn.weak (ll_s (ll_s (ll_s (ll_s ll_e)))) (RX0_isGuarded_b30 hd hR t0 p1 p2 p3 ih hk hq e)
def FX0_isGuarded (N : Nat) (s : iv_M) (q0 : Nat) (x1 : Int) (x2 : Int) : Option (Int) := (FX0_isGuarded_l2 N s q0 x1 x2 (fun (_ : Unit) => (some 1)) N 0)
set_option maxRecDepth 10000 in
set_option maxHeartbeats 4000000 in
theorem RX0_isGuarded {d N nc Ls : Nat} {Xs : Nat → Int32} (hd : 1 ≤ d) {h : iv_H} {s : iv_M} (hR : Rep nc Ls Xs h s) {q0 : Nat} (t0 : T0 nc q0) {m1 : Int32} {x1 : Int} (p1 : m1.toInt = x1) {m2 : Int32} {x2 : Int} (p2 : m2.toInt = x2) {r : Int} {Q : Option Value → iv_H → Prop} (e : FX0_isGuarded N s q0 x1 x2 = some r) (hq : ∀ (z : Int32), z.toInt = r → Q (some (.int z)) h) : Cl d 9 [.ref q0, .int m1, .int m2] h Q := by
  obtain ⟨d, rfl⟩ : ∃ k, d = k + 1 := ⟨d - 1, by omega⟩
  have hd : 0 ≤ d := by omega
  have hT := hX0_isGuarded
  unfold FX0_isGuarded at e
  refine Cl.into (by decide) gX0_isGuarded rfl ?_
  show Rn d 9 (some .boolean) 0 [some (.ref q0), some (.int m1), some (.int m2), none] [] h Q
  refine Rn.n hT 2 (pc' := 2) (L' := [some (.ref q0), some (.int m1), some (.int m2), some (.int (0 : Int32))]) (st' := []) rfl ?_
  refine Rn.weak (ll_s (ll_s (ll_s (ll_s ll_e)))) (RX0_isGuarded_l2 hd hR t0 p1 p2 (fun _ e => ?_) hq N (0 : Int32) 0 L32_0 e)
  try dsimp only at e
  refine Rn.n hT 1 (pc' := 37) (L' := [none, none, none, none]) (st' := [.int (1 : Int32)]) rfl ?_
  obtain rfl := Option.some.inj e
  exact Rn.ret hT rfl rfl rfl (hq (1 : Int32) L32_1)
set_option maxRecDepth 10000 in
theorem hX0_guarding : iv_Tb 8 tX0_guarding := iv_tb_of (m := mX0_guarding) rfl
set_option maxRecDepth 10000 in
theorem gX0_guarding : PG.2 8 = some mX0_guarding := iv_pi_of (t := tX0_guarding) rfl (by decide)
def FX0_guarding_l2 (N : Nat) (q0 : Nat) (q1 : Nat) (kx : iv_M → Option (Int × iv_M)) : Nat → iv_M → Int → Option (Int × iv_M)
  | 0, _, _ => none
  | n + 1, s, x2 => (if (s q1 2) ≤ x2 then (kx s) else ((FX0_besides N s q0 q1 x2 1).bind fun v_106 => ((wr s (q0 + 3) 12 x2 v_106).bind fun s_107 => (FX0_guarding_l2 N q0 q1 kx n s_107 (w32 (x2 + 1))))))
set_option maxRecDepth 10000 in
set_option maxHeartbeats 4000000 in
theorem RX0_guarding_l2 {d N nc Ls : Nat} {Xs : Nat → Int32} (hd : 3 ≤ d) {q0 : Nat} (t0 : T0 nc q0) {q1 : Nat} (t1 : T1 nc q1) {kx : iv_M → Option (Int × iv_M)} {r : Int × iv_M} {Q : Option Value → iv_H → Prop} (hk : ∀ (h : iv_H) (s : iv_M) (hR : Rep nc Ls Xs h s), kx s = some r → Rn d 8 (some .int) 29 [some (.ref q0), some (.ref q1), none, none] [] h Q) (hq : ∀ (z : Int32) (h1 : iv_H), z.toInt = r.1 → Rep nc Ls Xs h1 r.2 → Q (some (.int z)) h1) : ∀ (n : Nat) (h : iv_H) (s : iv_M) (hR : Rep nc Ls Xs h s) (m2 : Int32) (x2 : Int) (p2 : m2.toInt = x2), FX0_guarding_l2 N q0 q1 kx n s x2 = some r → Rn d 8 (some .int) 2 [some (.ref q0), some (.ref q1), some (.int m2), none] [] h Q := by
  have hT := hX0_guarding
  intro n
  induction n with
  | zero =>
    intro h s hR m2 x2 p2 e
    rw [FX0_guarding_l2] at e
    cases e
  | succ n ih =>
    intro h s hR m2 x2 p2 e
    rw [FX0_guarding_l2] at e
    refine Rn.n hT 2 (pc' := 4) (L' := [some (.ref q0), some (.ref q1), some (.int m2), none]) (st' := [.ref q1, .int m2]) rfl ?_
    obtain ⟨z_104, g_104, p_104⟩ : ∃ z : Int32, gI h 1 2 q1 = some z ∧ z.toInt = s q1 2 := rp_gI (k := 2) hR (T1_o t1) rfl
    refine Rn.hp hT rfl rfl (gI_hp g_104) ?_
    by_cases c_105 : (s q1 2) ≤ x2
    · rw [if_pos c_105] at e
      refine Rn.bt hT rfl rfl rfl (decide_eq_true ((ti_le p_104 p2).mpr c_105)) ?_
      exact Rn.weak (ll_s (ll_s (ll_n (ll_n ll_e)))) (hk h s hR e)
    · rw [if_neg c_105] at e
      refine Rn.bf hT rfl rfl rfl (decide_eq_false (fun z => c_105 ((ti_le p_104 p2).mp z))) ?_
      refine Rn.n hT 1 (pc' := 11) (L' := [some (.ref q0), some (.ref q1), some (.int m2), none]) (st' := [.ref q0]) rfl ?_
      refine Rn.hp hT rfl rfl (gR_hp (rp_gR hR (T0_o t0) rfl)) ?_
      refine Rn.n hT 5 (pc' := 19) (L' := [some (.ref q0), some (.ref q1), some (.int m2), none]) (st' := [.int (1 : Int32), .int m2, .ref q1, .ref q0, .int m2, .ref (q0 + 3)]) rfl ?_
      obtain ⟨v_106, e_106, e⟩ := Option.bind_eq_some_iff.mp e
      refine Rn.call hT rfl rfl rfl (Nat.le_of_ble_eq_true rfl) (rcv_v gX0_besides (by omega) (rp_ck hR (T0_o t0))) (RX0_besides (by omega) hR t0 t1 p2 L32_1 e_106 (fun z_106 p_106 => ?_))
      show Rn d _ _ 22 [some (.ref q0), some (.ref q1), some (.int m2), none] [.int z_106, .int m2, .ref (q0 + 3)] h Q
      obtain ⟨s_107, e_108, e⟩ := Option.bind_eq_some_iff.mp e
      obtain ⟨h_107, g_108, R_107⟩ := rp_wI hR (T0_3 t0) (T0_3l t0) p2 p_106 e_108
      refine Rn.hp hT rfl rfl (wI_hp g_108) ?_
      refine Rn.n hT 2 (pc' := 2) (L' := [some (.ref q0), some (.ref q1), some (.int (m2 + (1 : Int32))), none]) (st' := []) rfl ?_
      exact Rn.weak (ll_s (ll_s (ll_s (ll_n ll_e)))) (ih h_107 s_107 R_107 (m2 + (1 : Int32)) (w32 (x2 + 1)) (ti_add p2 L32_1) e)
def FX0_guarding_b69 (N : Nat) (s : iv_M) (q0 : Nat) (q1 : Nat) (x2 : Int) (x3 : Int)  (kb : iv_M → Int → Int → Option (Int × iv_M)) (kx : iv_M → Int → Option (Int × iv_M)) : Option (Int × iv_M) := (kb s x2 (w32 (x3 + (-1))))
set_option maxRecDepth 10000 in
set_option maxHeartbeats 4000000 in
theorem RX0_guarding_b69 {d N nc Ls : Nat} {Xs : Nat → Int32} (hd : 3 ≤ d) {h : iv_H} {s : iv_M} (hR : Rep nc Ls Xs h s) {q0 : Nat} (t0 : T0 nc q0) {q1 : Nat} (t1 : T1 nc q1) {m2 : Int32} {x2 : Int} (p2 : m2.toInt = x2) {m3 : Int32} {x3 : Int} (p3 : m3.toInt = x3)  {kb : iv_M → Int → Int → Option (Int × iv_M)} {kx : iv_M → Int → Option (Int × iv_M)} {r : Int × iv_M} {Q : Option Value → iv_H → Prop} (hb : ∀ (h : iv_H) (s : iv_M) (hR : Rep nc Ls Xs h s) (mw2 : Int32) (xw2 : Int) (pw2 : mw2.toInt = xw2) (mw3 : Int32) (xw3 : Int) (pw3 : mw3.toInt = xw3), kb s xw2 xw3 = some r → Rn d 8 (some .int) 40 [some (.ref q0), some (.ref q1), some (.int mw2), some (.int mw3)] [] h Q) (hk : ∀ (h : iv_H) (s : iv_M) (hR : Rep nc Ls Xs h s) (mw2 : Int32) (xw2 : Int) (pw2 : mw2.toInt = xw2), kx s xw2 = some r → Rn d 8 (some .int) 75 [none, none, some (.int mw2), none] [] h Q) (hq : ∀ (z : Int32) (h1 : iv_H), z.toInt = r.1 → Rep nc Ls Xs h1 r.2 → Q (some (.int z)) h1) (e : FX0_guarding_b69 N s q0 q1 x2 x3  kb kx = some r) : Rn d 8 (some .int) 69 [some (.ref q0), some (.ref q1), some (.int m2), some (.int m3)] [] h Q := by
  have hT := hX0_guarding
  unfold FX0_guarding_b69 at e
  refine Rn.n hT 2 (pc' := 40) (L' := [some (.ref q0), some (.ref q1), some (.int m2), some (.int (m3 + (-1 : Int32)))]) (st' := []) rfl ?_
  exact Rn.weak (ll_s (ll_s (ll_s (ll_s ll_e)))) (hb h s hR m2 x2 p2 (m3 + (-1 : Int32)) (w32 (x3 + (-1))) (ti_add p3 L32_m1) e)
def FX0_guarding_l40 (N : Nat) (q0 : Nat) (q1 : Nat) (kx : iv_M → Int → Option (Int × iv_M)) : Nat → iv_M → Int → Int → Option (Int × iv_M)
  | 0, _, _, _ => none
  | n + 1, s, x2, x3 => (if x3 < 0 then (kx s x2) else ((FJ6_bitCount_0f7a4 N s x3).bind fun v_110 => ((FJ6_bitCount_0f7a4 N s x2).bind fun v_111 => (if v_111 < v_110 then (FX0_guarding_b69 N s q0 q1 x2 x3 (FX0_guarding_l40 N q0 q1 kx n) kx) else ((FX0_isGuarded N s q0 (s q1 2) x3).bind fun v_114 => (if v_114 = 0 then (FX0_guarding_b69 N s q0 q1 x2 x3 (FX0_guarding_l40 N q0 q1 kx n) kx) else (FX0_guarding_b69 N s q0 q1 x3 x3 (FX0_guarding_l40 N q0 q1 kx n) kx)))))))
set_option maxRecDepth 10000 in
set_option maxHeartbeats 4000000 in
theorem RX0_guarding_l40 {d N nc Ls : Nat} {Xs : Nat → Int32} (hd : 3 ≤ d) {q0 : Nat} (t0 : T0 nc q0) {q1 : Nat} (t1 : T1 nc q1) {kx : iv_M → Int → Option (Int × iv_M)} {r : Int × iv_M} {Q : Option Value → iv_H → Prop} (hk : ∀ (h : iv_H) (s : iv_M) (hR : Rep nc Ls Xs h s) (m2 : Int32) (x2 : Int) (p2 : m2.toInt = x2), kx s x2 = some r → Rn d 8 (some .int) 75 [none, none, some (.int m2), none] [] h Q) (hq : ∀ (z : Int32) (h1 : iv_H), z.toInt = r.1 → Rep nc Ls Xs h1 r.2 → Q (some (.int z)) h1) : ∀ (n : Nat) (h : iv_H) (s : iv_M) (hR : Rep nc Ls Xs h s) (m2 : Int32) (x2 : Int) (p2 : m2.toInt = x2) (m3 : Int32) (x3 : Int) (p3 : m3.toInt = x3), FX0_guarding_l40 N q0 q1 kx n s x2 x3 = some r → Rn d 8 (some .int) 40 [some (.ref q0), some (.ref q1), some (.int m2), some (.int m3)] [] h Q := by
  have hT := hX0_guarding
  intro n
  induction n with
  | zero =>
    intro h s hR m2 x2 p2 m3 x3 p3 e
    rw [FX0_guarding_l40] at e
    cases e
  | succ n ih =>
    intro h s hR m2 x2 p2 m3 x3 p3 e
    rw [FX0_guarding_l40] at e
    refine Rn.n hT 1 (pc' := 41) (L' := [some (.ref q0), some (.ref q1), some (.int m2), some (.int m3)]) (st' := [.int m3]) rfl ?_
    by_cases c_109 : x3 < 0
    · rw [if_pos c_109] at e
      refine Rn.bt hT rfl rfl rfl (decide_eq_true ((ti_l p3 L32_0).mpr c_109)) ?_
      exact Rn.weak (ll_n (ll_n (ll_s (ll_n ll_e)))) (hk h s hR m2 x2 p2 e)
    · rw [if_neg c_109] at e
      refine Rn.bf hT rfl rfl rfl (decide_eq_false (fun z => c_109 ((ti_l p3 L32_0).mp z))) ?_
      refine Rn.n hT 1 (pc' := 45) (L' := [some (.ref q0), some (.ref q1), some (.int m2), some (.int m3)]) (st' := [.int m3]) rfl ?_
      obtain ⟨v_110, e_110, e⟩ := Option.bind_eq_some_iff.mp e
      refine Rn.call hT rfl rfl rfl (Nat.le_of_ble_eq_true rfl) rfl (RJ6_bitCount_0f7a4 (by omega) hR p3 e_110 (fun z_110 p_110 => ?_))
      show Rn d _ _ 48 [some (.ref q0), some (.ref q1), some (.int m2), some (.int m3)] [.int z_110] h Q
      refine Rn.n hT 1 (pc' := 49) (L' := [some (.ref q0), some (.ref q1), some (.int m2), some (.int m3)]) (st' := [.int m2, .int z_110]) rfl ?_
      obtain ⟨v_111, e_111, e⟩ := Option.bind_eq_some_iff.mp e
      refine Rn.call hT rfl rfl rfl (Nat.le_of_ble_eq_true rfl) rfl (RJ6_bitCount_0f7a4 (by omega) hR p2 e_111 (fun z_111 p_111 => ?_))
      show Rn d _ _ 52 [some (.ref q0), some (.ref q1), some (.int m2), some (.int m3)] [.int z_111, .int z_110] h Q
      by_cases c_112 : v_111 < v_110
      · rw [if_pos c_112] at e
        refine Rn.bt hT rfl rfl rfl (decide_eq_true ((ti_l p_111 p_110).mpr c_112)) ?_
        exact Rn.weak (ll_s (ll_s (ll_s (ll_s ll_e)))) (RX0_guarding_b69 hd hR t0 t1 p2 p3 ih hk hq e)
      · rw [if_neg c_112] at e
        refine Rn.bf hT rfl rfl rfl (decide_eq_false (fun z => c_112 ((ti_l p_111 p_110).mp z))) ?_
        refine Rn.n hT 2 (pc' := 57) (L' := [some (.ref q0), some (.ref q1), some (.int m2), some (.int m3)]) (st' := [.ref q1, .ref q0]) rfl ?_
        obtain ⟨z_113, g_113, p_113⟩ : ∃ z : Int32, gI h 1 2 q1 = some z ∧ z.toInt = s q1 2 := rp_gI (k := 2) hR (T1_o t1) rfl
        refine Rn.hp hT rfl rfl (gI_hp g_113) ?_
        refine Rn.n hT 1 (pc' := 61) (L' := [some (.ref q0), some (.ref q1), some (.int m2), some (.int m3)]) (st' := [.int m3, .int z_113, .ref q0]) rfl ?_
        obtain ⟨v_114, e_114, e⟩ := Option.bind_eq_some_iff.mp e
        refine Rn.call hT rfl rfl rfl (Nat.le_of_ble_eq_true rfl) (rcv_v gX0_isGuarded (by omega) (rp_ck hR (T0_o t0))) (RX0_isGuarded (by omega) hR t0 p_113 p3 e_114 (fun z_114 p_114 => ?_))
        show Rn d _ _ 64 [some (.ref q0), some (.ref q1), some (.int m2), some (.int m3)] [.int z_114] h Q
        by_cases c_115 : v_114 = 0
        · rw [if_pos c_115] at e
          refine Rn.bt hT rfl rfl rfl (decide_eq_true ((ti_e p_114 L32_0).mpr c_115)) ?_
          exact Rn.weak (ll_s (ll_s (ll_s (ll_s ll_e)))) (RX0_guarding_b69 hd hR t0 t1 p2 p3 ih hk hq e)
        · rw [if_neg c_115] at e
          refine Rn.bf hT rfl rfl rfl (decide_eq_false (fun z => c_115 ((ti_e p_114 L32_0).mp z))) ?_
          refine Rn.n hT 2 (pc' := 69) (L' := [some (.ref q0), some (.ref q1), some (.int m3), some (.int m3)]) (st' := []) rfl ?_
          exact Rn.weak (ll_s (ll_s (ll_s (ll_s ll_e)))) (RX0_guarding_b69 hd hR t0 t1 p3 p3 ih hk hq e)
def FX0_guarding (N : Nat) (s : iv_M) (q0 : Nat) (q1 : Nat) : Option (Int × iv_M) := (FX0_guarding_l2 N q0 q1 (fun (s_99 : iv_M) => (FX0_guarding_l40 N q0 q1 (fun (s_102 : iv_M) (x103_2 : Int) => (some (x103_2, s_102))) N s_99 (w32 ((sl32 1 (s_99 q1 2)) - 1)) (w32 ((sl32 1 (s_99 q1 2)) - 1)))) N s 0)
set_option maxRecDepth 10000 in
set_option maxHeartbeats 4000000 in
theorem RX0_guarding {d N nc Ls : Nat} {Xs : Nat → Int32} (hd : 4 ≤ d) {h : iv_H} {s : iv_M} (hR : Rep nc Ls Xs h s) {q0 : Nat} (t0 : T0 nc q0) {q1 : Nat} (t1 : T1 nc q1) {r : Int × iv_M} {Q : Option Value → iv_H → Prop} (e : FX0_guarding N s q0 q1 = some r) (hq : ∀ (z : Int32) (h1 : iv_H), z.toInt = r.1 → Rep nc Ls Xs h1 r.2 → Q (some (.int z)) h1) : Cl d 8 [.ref q0, .ref q1] h Q := by
  obtain ⟨d, rfl⟩ : ∃ k, d = k + 1 := ⟨d - 1, by omega⟩
  have hd : 3 ≤ d := by omega
  have hT := hX0_guarding
  unfold FX0_guarding at e
  refine Cl.into (by decide) gX0_guarding rfl ?_
  show Rn d 8 (some .int) 0 [some (.ref q0), some (.ref q1), none, none] [] h Q
  refine Rn.n hT 2 (pc' := 2) (L' := [some (.ref q0), some (.ref q1), some (.int (0 : Int32)), none]) (st' := []) rfl ?_
  refine Rn.weak (ll_s (ll_s (ll_s (ll_n ll_e)))) (RX0_guarding_l2 hd t0 t1 (fun h_99 s_99 R_99 e => ?_) hq N h s hR (0 : Int32) 0 L32_0 e)
  try dsimp only at e
  refine Rn.n hT 2 (pc' := 31) (L' := [some (.ref q0), some (.ref q1), none, none]) (st' := [.ref q1, .int (1 : Int32)]) rfl ?_
  obtain ⟨z_101, g_101, p_101⟩ : ∃ z : Int32, gI h_99 1 2 q1 = some z ∧ z.toInt = s_99 q1 2 := rp_gI (k := 2) R_99 (T1_o t1) rfl
  refine Rn.hp hT rfl rfl (gI_hp g_101) ?_
  refine Rn.n hT 6 (pc' := 40) (L' := [some (.ref q0), some (.ref q1), some (.int (((1 : Int32) <<< (z_101 &&& 31)) - (1 : Int32))), some (.int (((1 : Int32) <<< (z_101 &&& 31)) - (1 : Int32)))]) (st' := []) rfl ?_
  refine Rn.weak (ll_s (ll_s (ll_s (ll_s ll_e)))) (RX0_guarding_l40 hd t0 t1 (fun h_102 s_102 R_102 m103_2 x103_2 p103_2 e => ?_) hq N h_99 s_99 R_99 (((1 : Int32) <<< (z_101 &&& 31)) - (1 : Int32)) (w32 ((sl32 1 (s_99 q1 2)) - 1)) (ti_sub (ti_shl L32_1 p_101) L32_1) (((1 : Int32) <<< (z_101 &&& 31)) - (1 : Int32)) (w32 ((sl32 1 (s_99 q1 2)) - 1)) (ti_sub (ti_shl L32_1 p_101) L32_1) e)
  try dsimp only at e
  refine Rn.n hT 1 (pc' := 76) (L' := [none, none, some (.int m103_2), none]) (st' := [.int m103_2]) rfl ?_
  obtain rfl := Option.some.inj e
  exact Rn.ret hT rfl rfl rfl (hq m103_2 h_102 p103_2 R_102)
set_option maxRecDepth 10000 in
theorem hX1_sweep : iv_Tb 12 tX1_sweep := iv_tb_of (m := mX1_sweep) rfl
set_option maxRecDepth 10000 in
theorem gX1_sweep : PG.2 12 = some mX1_sweep := iv_pi_of (t := tX1_sweep) rfl (by decide)
def FX1_sweep (N : Nat) (s : iv_M) (q0 : Nat) : Option (iv_M) := ((FJ7_fill_53178 N s (q0 + 3) (-1)).bind fun s_117 => ((FJ7_fill_53178 N s_117 (q0 + 5) 3).bind fun s_119 => some s_119))
set_option maxRecDepth 10000 in
set_option maxHeartbeats 4000000 in
theorem RX1_sweep {d N nc Ls : Nat} {Xs : Nat → Int32} (hd : 2 ≤ d) {h : iv_H} {s : iv_M} (hR : Rep nc Ls Xs h s) {q0 : Nat} (t0 : T1 nc q0) {r : iv_M} {Q : Option Value → iv_H → Prop} (e : FX1_sweep N s q0 = some r) (hq : ∀ h1, Rep nc Ls Xs h1 r → Q none h1) : Cl d 12 [.ref q0] h Q := by
  obtain ⟨d, rfl⟩ : ∃ k, d = k + 1 := ⟨d - 1, by omega⟩
  have hd : 1 ≤ d := by omega
  have hT := hX1_sweep
  unfold FX1_sweep at e
  refine Cl.into (by decide) gX1_sweep rfl ?_
  show Rn d 12 none 0 [some (.ref q0)] [] h Q
  refine Rn.n hT 1 (pc' := 1) (L' := [some (.ref q0)]) (st' := [.ref q0]) rfl ?_
  refine Rn.hp hT rfl rfl (gR_hp (rp_gR hR (T1_o t0) rfl)) ?_
  refine Rn.n hT 1 (pc' := 5) (L' := [some (.ref q0)]) (st' := [.int (-1 : Int32), .ref (q0 + 3)]) rfl ?_
  obtain ⟨s_117, e_116, e⟩ := Option.bind_eq_some_iff.mp e
  refine Rn.call hT rfl rfl rfl (Nat.le_of_ble_eq_true rfl) rfl (RJ7_fill_53178 (by omega) hR (T1_7 t0) L32_m1 e_116 (fun h_117 R_117 => ?_))
  show Rn d _ _ 8 [some (.ref q0)] [] h_117 Q
  refine Rn.n hT 1 (pc' := 9) (L' := [some (.ref q0)]) (st' := [.ref q0]) rfl ?_
  refine Rn.hp hT rfl rfl (gR_hp (rp_gR R_117 (T1_o t0) rfl)) ?_
  refine Rn.n hT 1 (pc' := 13) (L' := [some (.ref q0)]) (st' := [.int (3 : Int32), .ref (q0 + 5)]) rfl ?_
  obtain ⟨s_119, e_118, e⟩ := Option.bind_eq_some_iff.mp e
  refine Rn.call hT rfl rfl rfl (Nat.le_of_ble_eq_true rfl) rfl (RJ7_fill_53178 (by omega) R_117 (T1_9 t0) L32_3 e_118 (fun h_119 R_119 => ?_))
  show Rn d _ _ 16 [some (.ref q0)] [] h_119 Q
  obtain rfl := Option.some.inj e
  exact Rn.ret hT rfl rfl rfl (hq h_119 R_119)
set_option maxRecDepth 10000 in
theorem hX1_cellAt : iv_Tb 15 tX1_cellAt := iv_tb_of (m := mX1_cellAt) rfl
set_option maxRecDepth 10000 in
theorem gX1_cellAt : PG.2 15 = some mX1_cellAt := iv_pi_of (t := tX1_cellAt) rfl (by decide)
def FX1_cellAt_b33 (N : Nat) (s : iv_M)  (xs0 : Int) : Option (Int) := (some xs0)
set_option maxRecDepth 10000 in
set_option maxHeartbeats 4000000 in
theorem RX1_cellAt_b33 {d N nc Ls : Nat} {Xs : Nat → Int32} (hd : 0 ≤ d) {h : iv_H} {s : iv_M} (hR : Rep nc Ls Xs h s)  {ms0 : Int32} {xs0 : Int} (ps0 : ms0.toInt = xs0) {r : Int} {Q : Option Value → iv_H → Prop} (hq : ∀ (z : Int32), z.toInt = r → Q (some (.int z)) h) (e : FX1_cellAt_b33 N s  xs0 = some r) : Rn d 15 (some .int) 33 [none, none, none] [.int ms0] h Q := by
  have hT := hX1_cellAt
  unfold FX1_cellAt_b33 at e
  obtain rfl := Option.some.inj e
  exact Rn.ret hT rfl rfl rfl (hq ms0 ps0)
def FX1_cellAt_b32 (N : Nat) (s : iv_M)   : Option (Int) := (FX1_cellAt_b33 N s (-1))
set_option maxRecDepth 10000 in
set_option maxHeartbeats 4000000 in
theorem RX1_cellAt_b32 {d N nc Ls : Nat} {Xs : Nat → Int32} (hd : 0 ≤ d) {h : iv_H} {s : iv_M} (hR : Rep nc Ls Xs h s)   {r : Int} {Q : Option Value → iv_H → Prop} (hq : ∀ (z : Int32), z.toInt = r → Q (some (.int z)) h) (e : FX1_cellAt_b32 N s   = some r) : Rn d 15 (some .int) 32 [none, none, none] [] h Q := by
  have hT := hX1_cellAt
  unfold FX1_cellAt_b32 at e
  refine Rn.n hT 1 (pc' := 33) (L' := [none, none, none]) (st' := [.int (-1 : Int32)]) rfl ?_
  exact Rn.weak (ll_n (ll_n (ll_n ll_e))) (RX1_cellAt_b33 hd hR L32_m1 hq e)
def FX1_cellAt (N : Nat) (s : iv_M) (q0 : Nat) (x1 : Int) (x2 : Int) : Option (Int) := (if x1 < 0 then (FX1_cellAt_b32 N s) else (if (s q0 0) ≤ x1 then (FX1_cellAt_b32 N s) else (if x2 < 0 then (FX1_cellAt_b32 N s) else (if (s q0 1) ≤ x2 then (FX1_cellAt_b32 N s) else (FX1_cellAt_b33 N s (w32 ((w32 (4 * x2)) + x1)))))))
set_option maxRecDepth 10000 in
set_option maxHeartbeats 4000000 in
theorem RX1_cellAt {d N nc Ls : Nat} {Xs : Nat → Int32} (hd : 1 ≤ d) {h : iv_H} {s : iv_M} (hR : Rep nc Ls Xs h s) {q0 : Nat} (t0 : T1 nc q0) {m1 : Int32} {x1 : Int} (p1 : m1.toInt = x1) {m2 : Int32} {x2 : Int} (p2 : m2.toInt = x2) {r : Int} {Q : Option Value → iv_H → Prop} (e : FX1_cellAt N s q0 x1 x2 = some r) (hq : ∀ (z : Int32), z.toInt = r → Q (some (.int z)) h) : Cl d 15 [.ref q0, .int m1, .int m2] h Q := by
  obtain ⟨d, rfl⟩ : ∃ k, d = k + 1 := ⟨d - 1, by omega⟩
  have hd : 0 ≤ d := by omega
  have hT := hX1_cellAt
  unfold FX1_cellAt at e
  refine Cl.into (by decide) gX1_cellAt rfl ?_
  show Rn d 15 (some .int) 0 [some (.ref q0), some (.int m1), some (.int m2)] [] h Q
  refine Rn.n hT 1 (pc' := 1) (L' := [some (.ref q0), some (.int m1), some (.int m2)]) (st' := [.int m1]) rfl ?_
  by_cases c_120 : x1 < 0
  · rw [if_pos c_120] at e
    refine Rn.bt hT rfl rfl rfl (decide_eq_true ((ti_l p1 L32_0).mpr c_120)) ?_
    exact Rn.weak (ll_n (ll_n (ll_n ll_e))) (RX1_cellAt_b32 hd hR hq e)
  · rw [if_neg c_120] at e
    refine Rn.bf hT rfl rfl rfl (decide_eq_false (fun z => c_120 ((ti_l p1 L32_0).mp z))) ?_
    refine Rn.n hT 2 (pc' := 6) (L' := [some (.ref q0), some (.int m1), some (.int m2)]) (st' := [.ref q0, .int m1]) rfl ?_
    obtain ⟨z_121, g_121, p_121⟩ : ∃ z : Int32, gI h 1 0 q0 = some z ∧ z.toInt = s q0 0 := rp_gI (k := 0) hR (T1_o t0) rfl
    refine Rn.hp hT rfl rfl (gI_hp g_121) ?_
    by_cases c_122 : (s q0 0) ≤ x1
    · rw [if_pos c_122] at e
      refine Rn.bt hT rfl rfl rfl (decide_eq_true ((ti_le p_121 p1).mpr c_122)) ?_
      exact Rn.weak (ll_n (ll_n (ll_n ll_e))) (RX1_cellAt_b32 hd hR hq e)
    · rw [if_neg c_122] at e
      refine Rn.bf hT rfl rfl rfl (decide_eq_false (fun z => c_122 ((ti_le p_121 p1).mp z))) ?_
      refine Rn.n hT 1 (pc' := 13) (L' := [some (.ref q0), some (.int m1), some (.int m2)]) (st' := [.int m2]) rfl ?_
      by_cases c_123 : x2 < 0
      · rw [if_pos c_123] at e
        refine Rn.bt hT rfl rfl rfl (decide_eq_true ((ti_l p2 L32_0).mpr c_123)) ?_
        exact Rn.weak (ll_n (ll_n (ll_n ll_e))) (RX1_cellAt_b32 hd hR hq e)
      · rw [if_neg c_123] at e
        refine Rn.bf hT rfl rfl rfl (decide_eq_false (fun z => c_123 ((ti_l p2 L32_0).mp z))) ?_
        refine Rn.n hT 2 (pc' := 18) (L' := [some (.ref q0), some (.int m1), some (.int m2)]) (st' := [.ref q0, .int m2]) rfl ?_
        obtain ⟨z_124, g_124, p_124⟩ : ∃ z : Int32, gI h 1 1 q0 = some z ∧ z.toInt = s q0 1 := rp_gI (k := 1) hR (T1_o t0) rfl
        refine Rn.hp hT rfl rfl (gI_hp g_124) ?_
        by_cases c_125 : (s q0 1) ≤ x2
        · rw [if_pos c_125] at e
          refine Rn.bt hT rfl rfl rfl (decide_eq_true ((ti_le p_124 p2).mpr c_125)) ?_
          exact Rn.weak (ll_n (ll_n (ll_n ll_e))) (RX1_cellAt_b32 hd hR hq e)
        · rw [if_neg c_125] at e
          refine Rn.bf hT rfl rfl rfl (decide_eq_false (fun z => c_125 ((ti_le p_124 p2).mp z))) ?_
          refine Rn.n hT 6 (pc' := 33) (L' := [some (.ref q0), some (.int m1), some (.int m2)]) (st' := [.int (((4 : Int32) * m2) + m1)]) rfl ?_
          exact Rn.weak (ll_n (ll_n (ll_n ll_e))) (RX1_cellAt_b33 hd hR (ti_add (ti_mul L32_4 p2) p1) hq e)
set_option maxRecDepth 10000 in
theorem hX1_layOut : iv_Tb 11 tX1_layOut := iv_tb_of (m := mX1_layOut) rfl
set_option maxRecDepth 10000 in
theorem gX1_layOut : PG.2 11 = some mX1_layOut := iv_pi_of (t := tX1_layOut) rfl (by decide)
def FX1_layOut_l39 (N : Nat) (q0 : Nat) (kx : iv_M → Option (iv_M)) : Nat → iv_M → Int → Option (iv_M)
  | 0, _, _ => none
  | n + 1, s, x3 => (if 16 ≤ x3 then (kx s) else ((FX1_cellAt N s q0 (bAn x3 3) (w32 ((sr32 x3 2) - 1))).bind fun v_143 => ((wr s (q0 + 6) 64 (w32 (4 * x3)) v_143).bind fun s_144 => ((FX1_cellAt N s_144 q0 (w32 ((bAn x3 3) + 1)) (sr32 x3 2)).bind fun v_146 => ((wr s_144 (q0 + 6) 64 (w32 ((w32 (4 * x3)) + 1)) v_146).bind fun s_147 => ((FX1_cellAt N s_147 q0 (bAn x3 3) (w32 ((sr32 x3 2) + 1))).bind fun v_149 => ((wr s_147 (q0 + 6) 64 (w32 ((w32 (4 * x3)) + 2)) v_149).bind fun s_150 => ((FX1_cellAt N s_150 q0 (w32 ((bAn x3 3) - 1)) (sr32 x3 2)).bind fun v_152 => ((wr s_150 (q0 + 6) 64 (w32 ((w32 (4 * x3)) + 3)) v_152).bind fun s_153 => (FX1_layOut_l39 N q0 kx n s_153 (w32 (x3 + 1))))))))))))
set_option maxRecDepth 10000 in
set_option maxHeartbeats 4000000 in
theorem RX1_layOut_l39 {d N nc Ls : Nat} {Xs : Nat → Int32} (hd : 2 ≤ d) {q0 : Nat} (t0 : T1 nc q0) {kx : iv_M → Option (iv_M)} {r : iv_M} {Q : Option Value → iv_H → Prop} (hk : ∀ (h : iv_H) (s : iv_M) (hR : Rep nc Ls Xs h s), kx s = some r → Rn d 11 none 139 [none, none, none, none, none, none] [] h Q) (hq : ∀ h1, Rep nc Ls Xs h1 r → Q none h1) : ∀ (n : Nat) (h : iv_H) (s : iv_M) (hR : Rep nc Ls Xs h s) (m3 : Int32) (x3 : Int) (p3 : m3.toInt = x3), FX1_layOut_l39 N q0 kx n s x3 = some r → Rn d 11 none 39 [some (.ref q0), none, none, some (.int m3), none, none] [] h Q := by
  have hT := hX1_layOut
  intro n
  induction n with
  | zero =>
    intro h s hR m3 x3 p3 e
    rw [FX1_layOut_l39] at e
    cases e
  | succ n ih =>
    intro h s hR m3 x3 p3 e
    rw [FX1_layOut_l39] at e
    refine Rn.n hT 2 (pc' := 42) (L' := [some (.ref q0), none, none, some (.int m3), none, none]) (st' := [.int (16 : Int32), .int m3]) rfl ?_
    by_cases c_142 : 16 ≤ x3
    · rw [if_pos c_142] at e
      refine Rn.bt hT rfl rfl rfl (decide_eq_true ((ti_le L32_16 p3).mpr c_142)) ?_
      exact Rn.weak (ll_n (ll_n (ll_n (ll_n (ll_n (ll_n ll_e)))))) (hk h s hR e)
    · rw [if_neg c_142] at e
      refine Rn.bf hT rfl rfl rfl (decide_eq_false (fun z => c_142 ((ti_le L32_16 p3).mp z))) ?_
      refine Rn.n hT 9 (pc' := 56) (L' := [some (.ref q0), none, none, some (.int m3), some (.int (m3 &&& (3 : Int32))), some (.int (m3 >>> ((2 : Int32) &&& 31)))]) (st' := [.ref q0]) rfl ?_
      refine Rn.hp hT rfl rfl (gR_hp (rp_gR hR (T1_o t0) rfl)) ?_
      refine Rn.n hT 8 (pc' := 69) (L' := [some (.ref q0), none, none, some (.int m3), some (.int (m3 &&& (3 : Int32))), some (.int (m3 >>> ((2 : Int32) &&& 31)))]) (st' := [.int ((m3 >>> ((2 : Int32) &&& 31)) - (1 : Int32)), .int (m3 &&& (3 : Int32)), .ref q0, .int ((4 : Int32) * m3), .ref (q0 + 6)]) rfl ?_
      obtain ⟨v_143, e_143, e⟩ := Option.bind_eq_some_iff.mp e
      refine Rn.call hT rfl rfl rfl (Nat.le_of_ble_eq_true rfl) (rcv_v gX1_cellAt (by omega) (rp_ck hR (T1_o t0))) (RX1_cellAt (by omega) hR t0 (ti_and p3 L32_3) (ti_sub (ti_shr p3 L32_2) L32_1) e_143 (fun z_143 p_143 => ?_))
      show Rn d _ _ 72 [some (.ref q0), none, none, some (.int m3), some (.int (m3 &&& (3 : Int32))), some (.int (m3 >>> ((2 : Int32) &&& 31)))] [.int z_143, .int ((4 : Int32) * m3), .ref (q0 + 6)] h Q
      obtain ⟨s_144, e_145, e⟩ := Option.bind_eq_some_iff.mp e
      obtain ⟨h_144, g_145, R_144⟩ := rp_wI hR (T1_10 t0) (T1_10l t0) (ti_mul L32_4 p3) p_143 e_145
      refine Rn.hp hT rfl rfl (wI_hp g_145) ?_
      refine Rn.n hT 1 (pc' := 74) (L' := [some (.ref q0), none, none, some (.int m3), some (.int (m3 &&& (3 : Int32))), some (.int (m3 >>> ((2 : Int32) &&& 31)))]) (st' := [.ref q0]) rfl ?_
      refine Rn.hp hT rfl rfl (gR_hp (rp_gR R_144 (T1_o t0) rfl)) ?_
      refine Rn.n hT 10 (pc' := 89) (L' := [some (.ref q0), none, none, some (.int m3), some (.int (m3 &&& (3 : Int32))), some (.int (m3 >>> ((2 : Int32) &&& 31)))]) (st' := [.int (m3 >>> ((2 : Int32) &&& 31)), .int ((m3 &&& (3 : Int32)) + (1 : Int32)), .ref q0, .int (((4 : Int32) * m3) + (1 : Int32)), .ref (q0 + 6)]) rfl ?_
      obtain ⟨v_146, e_146, e⟩ := Option.bind_eq_some_iff.mp e
      refine Rn.call hT rfl rfl rfl (Nat.le_of_ble_eq_true rfl) (rcv_v gX1_cellAt (by omega) (rp_ck R_144 (T1_o t0))) (RX1_cellAt (by omega) R_144 t0 (ti_add (ti_and p3 L32_3) L32_1) (ti_shr p3 L32_2) e_146 (fun z_146 p_146 => ?_))
      show Rn d _ _ 92 [some (.ref q0), none, none, some (.int m3), some (.int (m3 &&& (3 : Int32))), some (.int (m3 >>> ((2 : Int32) &&& 31)))] [.int z_146, .int (((4 : Int32) * m3) + (1 : Int32)), .ref (q0 + 6)] h_144 Q
      obtain ⟨s_147, e_148, e⟩ := Option.bind_eq_some_iff.mp e
      obtain ⟨h_147, g_148, R_147⟩ := rp_wI R_144 (T1_10 t0) (T1_10l t0) (ti_add (ti_mul L32_4 p3) L32_1) p_146 e_148
      refine Rn.hp hT rfl rfl (wI_hp g_148) ?_
      refine Rn.n hT 1 (pc' := 94) (L' := [some (.ref q0), none, none, some (.int m3), some (.int (m3 &&& (3 : Int32))), some (.int (m3 >>> ((2 : Int32) &&& 31)))]) (st' := [.ref q0]) rfl ?_
      refine Rn.hp hT rfl rfl (gR_hp (rp_gR R_147 (T1_o t0) rfl)) ?_
      refine Rn.n hT 10 (pc' := 109) (L' := [some (.ref q0), none, none, some (.int m3), some (.int (m3 &&& (3 : Int32))), some (.int (m3 >>> ((2 : Int32) &&& 31)))]) (st' := [.int ((m3 >>> ((2 : Int32) &&& 31)) + (1 : Int32)), .int (m3 &&& (3 : Int32)), .ref q0, .int (((4 : Int32) * m3) + (2 : Int32)), .ref (q0 + 6)]) rfl ?_
      obtain ⟨v_149, e_149, e⟩ := Option.bind_eq_some_iff.mp e
      refine Rn.call hT rfl rfl rfl (Nat.le_of_ble_eq_true rfl) (rcv_v gX1_cellAt (by omega) (rp_ck R_147 (T1_o t0))) (RX1_cellAt (by omega) R_147 t0 (ti_and p3 L32_3) (ti_add (ti_shr p3 L32_2) L32_1) e_149 (fun z_149 p_149 => ?_))
      show Rn d _ _ 112 [some (.ref q0), none, none, some (.int m3), some (.int (m3 &&& (3 : Int32))), some (.int (m3 >>> ((2 : Int32) &&& 31)))] [.int z_149, .int (((4 : Int32) * m3) + (2 : Int32)), .ref (q0 + 6)] h_147 Q
      obtain ⟨s_150, e_151, e⟩ := Option.bind_eq_some_iff.mp e
      obtain ⟨h_150, g_151, R_150⟩ := rp_wI R_147 (T1_10 t0) (T1_10l t0) (ti_add (ti_mul L32_4 p3) L32_2) p_149 e_151
      refine Rn.hp hT rfl rfl (wI_hp g_151) ?_
      refine Rn.n hT 1 (pc' := 114) (L' := [some (.ref q0), none, none, some (.int m3), some (.int (m3 &&& (3 : Int32))), some (.int (m3 >>> ((2 : Int32) &&& 31)))]) (st' := [.ref q0]) rfl ?_
      refine Rn.hp hT rfl rfl (gR_hp (rp_gR R_150 (T1_o t0) rfl)) ?_
      refine Rn.n hT 10 (pc' := 129) (L' := [some (.ref q0), none, none, some (.int m3), some (.int (m3 &&& (3 : Int32))), some (.int (m3 >>> ((2 : Int32) &&& 31)))]) (st' := [.int (m3 >>> ((2 : Int32) &&& 31)), .int ((m3 &&& (3 : Int32)) - (1 : Int32)), .ref q0, .int (((4 : Int32) * m3) + (3 : Int32)), .ref (q0 + 6)]) rfl ?_
      obtain ⟨v_152, e_152, e⟩ := Option.bind_eq_some_iff.mp e
      refine Rn.call hT rfl rfl rfl (Nat.le_of_ble_eq_true rfl) (rcv_v gX1_cellAt (by omega) (rp_ck R_150 (T1_o t0))) (RX1_cellAt (by omega) R_150 t0 (ti_sub (ti_and p3 L32_3) L32_1) (ti_shr p3 L32_2) e_152 (fun z_152 p_152 => ?_))
      show Rn d _ _ 132 [some (.ref q0), none, none, some (.int m3), some (.int (m3 &&& (3 : Int32))), some (.int (m3 >>> ((2 : Int32) &&& 31)))] [.int z_152, .int (((4 : Int32) * m3) + (3 : Int32)), .ref (q0 + 6)] h_150 Q
      obtain ⟨s_153, e_154, e⟩ := Option.bind_eq_some_iff.mp e
      obtain ⟨h_153, g_154, R_153⟩ := rp_wI R_150 (T1_10 t0) (T1_10l t0) (ti_add (ti_mul L32_4 p3) L32_3) p_152 e_154
      refine Rn.hp hT rfl rfl (wI_hp g_154) ?_
      refine Rn.n hT 2 (pc' := 39) (L' := [some (.ref q0), none, none, some (.int (m3 + (1 : Int32))), some (.int (m3 &&& (3 : Int32))), some (.int (m3 >>> ((2 : Int32) &&& 31)))]) (st' := []) rfl ?_
      exact Rn.weak (ll_s (ll_n (ll_n (ll_s (ll_n (ll_n ll_e)))))) (ih h_153 s_153 R_153 (m3 + (1 : Int32)) (w32 (x3 + 1)) (ti_add p3 L32_1) e)
def FX1_layOut (N : Nat) (s : iv_M) (q0 : Nat) (x1 : Int) (x2 : Int) : Option (iv_M) := ((pt s q0 0 x1).bind fun s_126 => ((pt s_126 q0 1 x2).bind fun s_128 => ((pt s_128 q0 2 0).bind fun s_130 => ((pt s_130 q0 3 0).bind fun s_132 => ((pt s_132 q0 4 0).bind fun s_134 => ((FJ7_fill_53178 N s_134 (q0 + 4) 0).bind fun s_137 => ((FX1_sweep N s_137 q0).bind fun s_139 => (FX1_layOut_l39 N q0 (fun (s_140 : iv_M) => some s_140) N s_139 0))))))))
set_option maxRecDepth 10000 in
set_option maxHeartbeats 4000000 in
theorem RX1_layOut {d N nc Ls : Nat} {Xs : Nat → Int32} (hd : 3 ≤ d) {h : iv_H} {s : iv_M} (hR : Rep nc Ls Xs h s) {q0 : Nat} (t0 : T1 nc q0) {m1 : Int32} {x1 : Int} (p1 : m1.toInt = x1) {m2 : Int32} {x2 : Int} (p2 : m2.toInt = x2) {r : iv_M} {Q : Option Value → iv_H → Prop} (e : FX1_layOut N s q0 x1 x2 = some r) (hq : ∀ h1, Rep nc Ls Xs h1 r → Q none h1) : Cl d 11 [.ref q0, .int m1, .int m2] h Q := by
  obtain ⟨d, rfl⟩ : ∃ k, d = k + 1 := ⟨d - 1, by omega⟩
  have hd : 2 ≤ d := by omega
  have hT := hX1_layOut
  unfold FX1_layOut at e
  refine Cl.into (by decide) gX1_layOut rfl ?_
  show Rn d 11 none 0 [some (.ref q0), some (.int m1), some (.int m2), none, none, none] [] h Q
  refine Rn.n hT 2 (pc' := 2) (L' := [some (.ref q0), some (.int m1), some (.int m2), none, none, none]) (st' := [.int m1, .ref q0]) rfl ?_
  obtain ⟨s_126, e_127, e⟩ := Option.bind_eq_some_iff.mp e
  obtain ⟨h_126, g_127, R_126⟩ := rp_pI (ci := 1) (k := 0) hR (T1_o t0) rfl rfl p1 e_127
  refine Rn.hp hT rfl rfl (pV_hp rfl g_127) ?_
  refine Rn.n hT 2 (pc' := 7) (L' := [some (.ref q0), some (.int m1), some (.int m2), none, none, none]) (st' := [.int m2, .ref q0]) rfl ?_
  obtain ⟨s_128, e_129, e⟩ := Option.bind_eq_some_iff.mp e
  obtain ⟨h_128, g_129, R_128⟩ := rp_pI (ci := 1) (k := 1) R_126 (T1_o t0) rfl rfl p2 e_129
  refine Rn.hp hT rfl rfl (pV_hp rfl g_129) ?_
  refine Rn.n hT 2 (pc' := 12) (L' := [some (.ref q0), some (.int m1), some (.int m2), none, none, none]) (st' := [.int (0 : Int32), .ref q0]) rfl ?_
  obtain ⟨s_130, e_131, e⟩ := Option.bind_eq_some_iff.mp e
  obtain ⟨h_130, g_131, R_130⟩ := rp_pI (ci := 1) (k := 2) R_128 (T1_o t0) rfl rfl L32_0 e_131
  refine Rn.hp hT rfl rfl (pV_hp rfl g_131) ?_
  refine Rn.n hT 2 (pc' := 17) (L' := [some (.ref q0), some (.int m1), some (.int m2), none, none, none]) (st' := [.long (0 : Int64), .ref q0]) rfl ?_
  obtain ⟨s_132, e_133, e⟩ := Option.bind_eq_some_iff.mp e
  obtain ⟨h_132, g_133, R_132⟩ := rp_pJ (ci := 1) (k := 3) R_130 (T1_o t0) rfl rfl L64_0 e_133
  refine Rn.hp hT rfl rfl (pV_hp rfl g_133) ?_
  refine Rn.n hT 2 (pc' := 22) (L' := [some (.ref q0), some (.int m1), some (.int m2), none, none, none]) (st' := [.int (0 : Int32), .ref q0]) rfl ?_
  obtain ⟨s_134, e_135, e⟩ := Option.bind_eq_some_iff.mp e
  obtain ⟨h_134, g_135, R_134⟩ := rp_pI (ci := 1) (k := 4) R_132 (T1_o t0) rfl rfl L32_0 e_135
  refine Rn.hp hT rfl rfl (pV_hp rfl g_135) ?_
  refine Rn.n hT 1 (pc' := 26) (L' := [some (.ref q0), some (.int m1), some (.int m2), none, none, none]) (st' := [.ref q0]) rfl ?_
  refine Rn.hp hT rfl rfl (gR_hp (rp_gR R_134 (T1_o t0) rfl)) ?_
  refine Rn.n hT 1 (pc' := 30) (L' := [some (.ref q0), some (.int m1), some (.int m2), none, none, none]) (st' := [.int (0 : Int32), .ref (q0 + 4)]) rfl ?_
  obtain ⟨s_137, e_136, e⟩ := Option.bind_eq_some_iff.mp e
  refine Rn.call hT rfl rfl rfl (Nat.le_of_ble_eq_true rfl) rfl (RJ7_fill_53178 (by omega) R_134 (T1_8 t0) L32_0 e_136 (fun h_137 R_137 => ?_))
  show Rn d _ _ 33 [some (.ref q0), some (.int m1), some (.int m2), none, none, none] [] h_137 Q
  refine Rn.n hT 1 (pc' := 34) (L' := [some (.ref q0), some (.int m1), some (.int m2), none, none, none]) (st' := [.ref q0]) rfl ?_
  obtain ⟨s_139, e_138, e⟩ := Option.bind_eq_some_iff.mp e
  refine Rn.call hT rfl rfl rfl (Nat.le_of_ble_eq_true rfl) (rcv_v gX1_sweep (by omega) (rp_ck R_137 (T1_o t0))) (RX1_sweep (by omega) R_137 t0 e_138 (fun h_139 R_139 => ?_))
  show Rn d _ _ 37 [some (.ref q0), some (.int m1), some (.int m2), none, none, none] [] h_139 Q
  refine Rn.n hT 2 (pc' := 39) (L' := [some (.ref q0), some (.int m1), some (.int m2), some (.int (0 : Int32)), none, none]) (st' := []) rfl ?_
  refine Rn.weak (ll_s (ll_n (ll_n (ll_s (ll_n (ll_n ll_e)))))) (RX1_layOut_l39 hd t0 (fun h_140 s_140 R_140 e => ?_) hq N h_139 s_139 R_139 (0 : Int32) 0 L32_0 e)
  try dsimp only at e
  obtain rfl := Option.some.inj e
  exact Rn.ret hT rfl rfl rfl (hq h_140 R_140)
set_option maxRecDepth 10000 in
theorem hX1_put : iv_Tb 18 tX1_put := iv_tb_of (m := mX1_put) rfl
set_option maxRecDepth 10000 in
theorem gX1_put : PG.2 18 = some mX1_put := iv_pi_of (t := tX1_put) rfl (by decide)
def FX1_put_b118 (N : Nat) (s : iv_M) (q0 : Nat) (x1 : Int) (x2 : Int) (x3 : Int) (x4 : Int) (xs0 : Int) (xs1 : Int) (qs2 : Nat) (kb : iv_M → Int → Option (iv_M)) (kx : iv_M → Option (iv_M)) : Option (iv_M) := ((wr s qs2 ((sh qs2).2 : Int) xs1 xs0).bind fun s_172 => (kb s_172 (w32 (x4 + 1))))
set_option maxRecDepth 10000 in
set_option maxHeartbeats 4000000 in
theorem RX1_put_b118 {d N nc Ls : Nat} {Xs : Nat → Int32} (hd : 0 ≤ d) {h : iv_H} {s : iv_M} (hR : Rep nc Ls Xs h s) {q0 : Nat} (t0 : T1 nc q0) {m1 : Int32} {x1 : Int} (p1 : m1.toInt = x1) {m2 : Int32} {x2 : Int} (p2 : m2.toInt = x2) {m3 : Int32} {x3 : Int} (p3 : m3.toInt = x3) {m4 : Int32} {x4 : Int} (p4 : m4.toInt = x4) {ms0 : Int32} {xs0 : Int} (ps0 : ms0.toInt = xs0) {ms1 : Int32} {xs1 : Int} (ps1 : ms1.toInt = xs1) {qs2 : Nat} (ts2 : TA 0 nc qs2) {kb : iv_M → Int → Option (iv_M)} {kx : iv_M → Option (iv_M)} {r : iv_M} {Q : Option Value → iv_H → Prop} (hb : ∀ (h : iv_H) (s : iv_M) (hR : Rep nc Ls Xs h s) (mw4 : Int32) (xw4 : Int) (pw4 : mw4.toInt = xw4), kb s xw4 = some r → Rn d 18 none 73 [some (.ref q0), some (.int m1), some (.int m2), some (.int m3), some (.int mw4), none] [] h Q) (hk : ∀ (h : iv_H) (s : iv_M) (hR : Rep nc Ls Xs h s), kx s = some r → Rn d 18 none 125 [none, none, none, none, none, none] [] h Q) (hq : ∀ h1, Rep nc Ls Xs h1 r → Q none h1) (e : FX1_put_b118 N s q0 x1 x2 x3 x4 xs0 xs1 qs2 kb kx = some r) : Rn d 18 none 118 [some (.ref q0), some (.int m1), some (.int m2), some (.int m3), some (.int m4), none] [.int ms0, .int ms1, .ref qs2] h Q := by
  have hT := hX1_put
  unfold FX1_put_b118 at e
  obtain ⟨s_172, e_173, e⟩ := Option.bind_eq_some_iff.mp e
  obtain ⟨h_172, g_173, R_172⟩ := rp_wI hR ts2 rfl ps1 ps0 e_173
  refine Rn.hp hT rfl rfl (wI_hp g_173) ?_
  refine Rn.n hT 2 (pc' := 73) (L' := [some (.ref q0), some (.int m1), some (.int m2), some (.int m3), some (.int (m4 + (1 : Int32))), none]) (st' := []) rfl ?_
  exact Rn.weak (ll_s (ll_s (ll_s (ll_s (ll_s (ll_n ll_e)))))) (hb h_172 s_172 R_172 (m4 + (1 : Int32)) (w32 (x4 + 1)) (ti_add p4 L32_1) e)
def FX1_put_l73 (N : Nat) (q0 : Nat) (x1 : Int) (x2 : Int) (x3 : Int) (kx : iv_M → Option (iv_M)) : Nat → iv_M → Int → Option (iv_M)
  | 0, _, _ => none
  | n + 1, s, x4 => (if 4 ≤ x4 then (kx s) else ((rd s (q0 + 4) 48 (w32 ((w32 (4 * x1)) + (bAn (w32 (x4 - x3)) 3)))).bind fun v_170 => (if v_170 < 3 then (FX1_put_b118 N s q0 x1 x2 x3 x4 v_170 (w32 ((w32 (4 * x2)) + x4)) (q0 + 5) (FX1_put_l73 N q0 x1 x2 x3 kx n) kx) else (FX1_put_b118 N s q0 x1 x2 x3 x4 1 (w32 ((w32 (4 * x2)) + x4)) (q0 + 5) (FX1_put_l73 N q0 x1 x2 x3 kx n) kx))))
set_option maxRecDepth 10000 in
set_option maxHeartbeats 4000000 in
theorem RX1_put_l73 {d N nc Ls : Nat} {Xs : Nat → Int32} (hd : 0 ≤ d) {q0 : Nat} (t0 : T1 nc q0) {m1 : Int32} {x1 : Int} (p1 : m1.toInt = x1) {m2 : Int32} {x2 : Int} (p2 : m2.toInt = x2) {m3 : Int32} {x3 : Int} (p3 : m3.toInt = x3) {kx : iv_M → Option (iv_M)} {r : iv_M} {Q : Option Value → iv_H → Prop} (hk : ∀ (h : iv_H) (s : iv_M) (hR : Rep nc Ls Xs h s), kx s = some r → Rn d 18 none 125 [none, none, none, none, none, none] [] h Q) (hq : ∀ h1, Rep nc Ls Xs h1 r → Q none h1) : ∀ (n : Nat) (h : iv_H) (s : iv_M) (hR : Rep nc Ls Xs h s) (m4 : Int32) (x4 : Int) (p4 : m4.toInt = x4), FX1_put_l73 N q0 x1 x2 x3 kx n s x4 = some r → Rn d 18 none 73 [some (.ref q0), some (.int m1), some (.int m2), some (.int m3), some (.int m4), none] [] h Q := by
  have hT := hX1_put
  intro n
  induction n with
  | zero =>
    intro h s hR m4 x4 p4 e
    rw [FX1_put_l73] at e
    cases e
  | succ n ih =>
    intro h s hR m4 x4 p4 e
    rw [FX1_put_l73] at e
    refine Rn.n hT 2 (pc' := 76) (L' := [some (.ref q0), some (.int m1), some (.int m2), some (.int m3), some (.int m4), none]) (st' := [.int (4 : Int32), .int m4]) rfl ?_
    by_cases c_169 : 4 ≤ x4
    · rw [if_pos c_169] at e
      refine Rn.bt hT rfl rfl rfl (decide_eq_true ((ti_le L32_4 p4).mpr c_169)) ?_
      exact Rn.weak (ll_n (ll_n (ll_n (ll_n (ll_n (ll_n ll_e)))))) (hk h s hR e)
    · rw [if_neg c_169] at e
      refine Rn.bf hT rfl rfl rfl (decide_eq_false (fun z => c_169 ((ti_le L32_4 p4).mp z))) ?_
      refine Rn.n hT 1 (pc' := 80) (L' := [some (.ref q0), some (.int m1), some (.int m2), some (.int m3), some (.int m4), none]) (st' := [.ref q0]) rfl ?_
      refine Rn.hp hT rfl rfl (gR_hp (rp_gR hR (T1_o t0) rfl)) ?_
      refine Rn.n hT 9 (pc' := 93) (L' := [some (.ref q0), some (.int m1), some (.int m2), some (.int m3), some (.int m4), none]) (st' := [.int (((4 : Int32) * m1) + ((m4 - m3) &&& (3 : Int32))), .ref (q0 + 4)]) rfl ?_
      obtain ⟨v_170, e_170, e⟩ := Option.bind_eq_some_iff.mp e
      obtain ⟨z_170, g_170, p_170⟩ := rp_aI hR (T1_8 t0) (T1_8l t0) (ti_add (ti_mul L32_4 p1) (ti_and (ti_sub p4 p3) L32_3)) e_170
      refine Rn.hp hT rfl rfl (aI_hp g_170) ?_
      refine Rn.n hT 2 (pc' := 97) (L' := [some (.ref q0), some (.int m1), some (.int m2), some (.int m3), some (.int m4), some (.int z_170)]) (st' := [.ref q0]) rfl ?_
      refine Rn.hp hT rfl rfl (gR_hp (rp_gR hR (T1_o t0) rfl)) ?_
      refine Rn.n hT 7 (pc' := 109) (L' := [some (.ref q0), some (.int m1), some (.int m2), some (.int m3), some (.int m4), some (.int z_170)]) (st' := [.int (3 : Int32), .int z_170, .int (((4 : Int32) * m2) + m4), .ref (q0 + 5)]) rfl ?_
      by_cases c_171 : v_170 < 3
      · rw [if_pos c_171] at e
        refine Rn.bt hT rfl rfl rfl (decide_eq_true ((ti_l p_170 L32_3).mpr c_171)) ?_
        refine Rn.n hT 1 (pc' := 118) (L' := [some (.ref q0), some (.int m1), some (.int m2), some (.int m3), some (.int m4), some (.int z_170)]) (st' := [.int z_170, .int (((4 : Int32) * m2) + m4), .ref (q0 + 5)]) rfl ?_
        exact Rn.weak (ll_s (ll_s (ll_s (ll_s (ll_s (ll_n ll_e)))))) (RX1_put_b118 hd hR t0 p1 p2 p3 p4 p_170 (ti_add (ti_mul L32_4 p2) p4) (T1_9 t0) ih hk hq e)
      · rw [if_neg c_171] at e
        refine Rn.bf hT rfl rfl rfl (decide_eq_false (fun z => c_171 ((ti_l p_170 L32_3).mp z))) ?_
        refine Rn.n hT 2 (pc' := 118) (L' := [some (.ref q0), some (.int m1), some (.int m2), some (.int m3), some (.int m4), some (.int z_170)]) (st' := [.int (1 : Int32), .int (((4 : Int32) * m2) + m4), .ref (q0 + 5)]) rfl ?_
        exact Rn.weak (ll_s (ll_s (ll_s (ll_s (ll_s (ll_n ll_e)))))) (RX1_put_b118 hd hR t0 p1 p2 p3 p4 L32_1 (ti_add (ti_mul L32_4 p2) p4) (T1_9 t0) ih hk hq e)
def FX1_put (N : Nat) (s : iv_M) (q0 : Nat) (x1 : Int) (x2 : Int) (x3 : Int) : Option (iv_M) := ((wr s (q0 + 1) 12 x1 x2).bind fun s_155 => ((wr s_155 (q0 + 2) 12 x1 x3).bind fun s_157 => ((wr s_157 (q0 + 3) 16 x2 x1).bind fun s_159 => ((pt s_159 q0 3 (bOr (bAn (s_159 q0 3) (bXo (sl64 15 (w32 (4 * x1))) (-1))) (sl64 x2 (w32 (4 * x1))))).bind fun s_162 => ((pt s_162 q0 4 (bOr (bAn (s_162 q0 4) (bXo (sl32 3 (w32 (2 * x1))) (-1))) (sl32 x3 (w32 (2 * x1))))).bind fun s_165 => (FX1_put_l73 N q0 x1 x2 x3 (fun (s_167 : iv_M) => some s_167) N s_165 0))))))
set_option maxRecDepth 10000 in
set_option maxHeartbeats 4000000 in
theorem RX1_put {d N nc Ls : Nat} {Xs : Nat → Int32} (hd : 1 ≤ d) {h : iv_H} {s : iv_M} (hR : Rep nc Ls Xs h s) {q0 : Nat} (t0 : T1 nc q0) {m1 : Int32} {x1 : Int} (p1 : m1.toInt = x1) {m2 : Int32} {x2 : Int} (p2 : m2.toInt = x2) {m3 : Int32} {x3 : Int} (p3 : m3.toInt = x3) {r : iv_M} {Q : Option Value → iv_H → Prop} (e : FX1_put N s q0 x1 x2 x3 = some r) (hq : ∀ h1, Rep nc Ls Xs h1 r → Q none h1) : Cl d 18 [.ref q0, .int m1, .int m2, .int m3] h Q := by
  obtain ⟨d, rfl⟩ : ∃ k, d = k + 1 := ⟨d - 1, by omega⟩
  have hd : 0 ≤ d := by omega
  have hT := hX1_put
  unfold FX1_put at e
  refine Cl.into (by decide) gX1_put rfl ?_
  show Rn d 18 none 0 [some (.ref q0), some (.int m1), some (.int m2), some (.int m3), none, none] [] h Q
  refine Rn.n hT 1 (pc' := 1) (L' := [some (.ref q0), some (.int m1), some (.int m2), some (.int m3), none, none]) (st' := [.ref q0]) rfl ?_
  refine Rn.hp hT rfl rfl (gR_hp (rp_gR hR (T1_o t0) rfl)) ?_
  refine Rn.n hT 2 (pc' := 6) (L' := [some (.ref q0), some (.int m1), some (.int m2), some (.int m3), none, none]) (st' := [.int m2, .int m1, .ref (q0 + 1)]) rfl ?_
  obtain ⟨s_155, e_156, e⟩ := Option.bind_eq_some_iff.mp e
  obtain ⟨h_155, g_156, R_155⟩ := rp_wI hR (T1_5 t0) (T1_5l t0) p1 p2 e_156
  refine Rn.hp hT rfl rfl (wI_hp g_156) ?_
  refine Rn.n hT 1 (pc' := 8) (L' := [some (.ref q0), some (.int m1), some (.int m2), some (.int m3), none, none]) (st' := [.ref q0]) rfl ?_
  refine Rn.hp hT rfl rfl (gR_hp (rp_gR R_155 (T1_o t0) rfl)) ?_
  refine Rn.n hT 2 (pc' := 13) (L' := [some (.ref q0), some (.int m1), some (.int m2), some (.int m3), none, none]) (st' := [.int m3, .int m1, .ref (q0 + 2)]) rfl ?_
  obtain ⟨s_157, e_158, e⟩ := Option.bind_eq_some_iff.mp e
  obtain ⟨h_157, g_158, R_157⟩ := rp_wI R_155 (T1_6 t0) (T1_6l t0) p1 p3 e_158
  refine Rn.hp hT rfl rfl (wI_hp g_158) ?_
  refine Rn.n hT 1 (pc' := 15) (L' := [some (.ref q0), some (.int m1), some (.int m2), some (.int m3), none, none]) (st' := [.ref q0]) rfl ?_
  refine Rn.hp hT rfl rfl (gR_hp (rp_gR R_157 (T1_o t0) rfl)) ?_
  refine Rn.n hT 2 (pc' := 20) (L' := [some (.ref q0), some (.int m1), some (.int m2), some (.int m3), none, none]) (st' := [.int m1, .int m2, .ref (q0 + 3)]) rfl ?_
  obtain ⟨s_159, e_160, e⟩ := Option.bind_eq_some_iff.mp e
  obtain ⟨h_159, g_160, R_159⟩ := rp_wI R_157 (T1_7 t0) (T1_7l t0) p2 p1 e_160
  refine Rn.hp hT rfl rfl (wI_hp g_160) ?_
  refine Rn.n hT 2 (pc' := 23) (L' := [some (.ref q0), some (.int m1), some (.int m2), some (.int m3), none, none]) (st' := [.ref q0, .ref q0]) rfl ?_
  obtain ⟨z_161, g_161, p_161⟩ : ∃ z : Int64, gJ h_159 1 3 q0 = some z ∧ z.toInt = s_159 q0 3 := rp_gJ (k := 3) R_159 (T1_o t0) rfl
  refine Rn.hp hT rfl rfl (gJ_hp g_161) ?_
  refine Rn.n hT 15 (pc' := 45) (L' := [some (.ref q0), some (.int m1), some (.int m2), some (.int m3), none, none]) (st' := [.long ((z_161 &&& (((15 : Int64) <<< ((((4 : Int32) * m1)).toInt64 &&& 63)) ^^^ (-1 : Int64))) ||| ((m2).toInt64 <<< ((((4 : Int32) * m1)).toInt64 &&& 63))), .ref q0]) rfl ?_
  obtain ⟨s_162, e_163, e⟩ := Option.bind_eq_some_iff.mp e
  obtain ⟨h_162, g_163, R_162⟩ := rp_pJ (ci := 1) (k := 3) R_159 (T1_o t0) rfl rfl (tj_or (tj_and p_161 (tj_xor (tj_shl L64_15 (ti_mul L32_4 p1)) L64_m1)) (tj_shl (ti_j p2) (ti_mul L32_4 p1))) e_163
  refine Rn.hp hT rfl rfl (pV_hp rfl g_163) ?_
  refine Rn.n hT 2 (pc' := 50) (L' := [some (.ref q0), some (.int m1), some (.int m2), some (.int m3), none, none]) (st' := [.ref q0, .ref q0]) rfl ?_
  obtain ⟨z_164, g_164, p_164⟩ : ∃ z : Int32, gI h_162 1 4 q0 = some z ∧ z.toInt = s_162 q0 4 := rp_gI (k := 4) R_162 (T1_o t0) rfl
  refine Rn.hp hT rfl rfl (gI_hp g_164) ?_
  refine Rn.n hT 14 (pc' := 67) (L' := [some (.ref q0), some (.int m1), some (.int m2), some (.int m3), none, none]) (st' := [.int ((z_164 &&& (((3 : Int32) <<< (((2 : Int32) * m1) &&& 31)) ^^^ (-1 : Int32))) ||| (m3 <<< (((2 : Int32) * m1) &&& 31))), .ref q0]) rfl ?_
  obtain ⟨s_165, e_166, e⟩ := Option.bind_eq_some_iff.mp e
  obtain ⟨h_165, g_166, R_165⟩ := rp_pI (ci := 1) (k := 4) R_162 (T1_o t0) rfl rfl (ti_or (ti_and p_164 (ti_xor (ti_shl L32_3 (ti_mul L32_2 p1)) L32_m1)) (ti_shl p3 (ti_mul L32_2 p1))) e_166
  refine Rn.hp hT rfl rfl (pV_hp rfl g_166) ?_
  refine Rn.n hT 2 (pc' := 73) (L' := [some (.ref q0), some (.int m1), some (.int m2), some (.int m3), some (.int (0 : Int32)), none]) (st' := []) rfl ?_
  refine Rn.weak (ll_s (ll_s (ll_s (ll_s (ll_s (ll_n ll_e)))))) (RX1_put_l73 hd t0 p1 p2 p3 (fun h_167 s_167 R_167 e => ?_) hq N h_165 s_165 R_165 (0 : Int32) 0 L32_0 e)
  try dsimp only at e
  obtain rfl := Option.some.inj e
  exact Rn.ret hT rfl rfl rfl (hq h_167 R_167)
set_option maxRecDepth 10000 in
theorem hX1_arrange : iv_Tb 14 tX1_arrange := iv_tb_of (m := mX1_arrange) rfl
set_option maxRecDepth 10000 in
theorem gX1_arrange : PG.2 14 = some mX1_arrange := iv_pi_of (t := tX1_arrange) rfl (by decide)
def FX1_arrange_l17 (N : Nat) (q0 : Nat) (y1 : Int) (x3 : Int) (kx : iv_M → Option (iv_M)) : Nat → iv_M → Int → Option (iv_M)
  | 0, _, _ => none
  | n + 1, s, x4 => (if (s q0 2) ≤ x4 then (kx s) else ((FX1_put N s q0 x4 (bAn (w32 (sr64 y1 (w32 (4 * x4)))) 15) (bAn (sr32 x3 (w32 (2 * x4))) 3)).bind fun s_185 => (FX1_arrange_l17 N q0 y1 x3 kx n s_185 (w32 (x4 + 1)))))
set_option maxRecDepth 10000 in
set_option maxHeartbeats 4000000 in
theorem RX1_arrange_l17 {d N nc Ls : Nat} {Xs : Nat → Int32} (hd : 2 ≤ d) {q0 : Nat} (t0 : T1 nc q0) {j1 : Int64} {y1 : Int} (p1 : j1.toInt = y1) {m3 : Int32} {x3 : Int} (p3 : m3.toInt = x3) {kx : iv_M → Option (iv_M)} {r : iv_M} {Q : Option Value → iv_H → Prop} (hk : ∀ (h : iv_H) (s : iv_M) (hR : Rep nc Ls Xs h s), kx s = some r → Rn d 14 none 56 [none, none, none, none, none] [] h Q) (hq : ∀ h1, Rep nc Ls Xs h1 r → Q none h1) : ∀ (n : Nat) (h : iv_H) (s : iv_M) (hR : Rep nc Ls Xs h s) (m4 : Int32) (x4 : Int) (p4 : m4.toInt = x4), FX1_arrange_l17 N q0 y1 x3 kx n s x4 = some r → Rn d 14 none 17 [some (.ref q0), some (.long j1), none, some (.int m3), some (.int m4)] [] h Q := by
  have hT := hX1_arrange
  intro n
  induction n with
  | zero =>
    intro h s hR m4 x4 p4 e
    rw [FX1_arrange_l17] at e
    cases e
  | succ n ih =>
    intro h s hR m4 x4 p4 e
    rw [FX1_arrange_l17] at e
    refine Rn.n hT 2 (pc' := 20) (L' := [some (.ref q0), some (.long j1), none, some (.int m3), some (.int m4)]) (st' := [.ref q0, .int m4]) rfl ?_
    obtain ⟨z_182, g_182, p_182⟩ : ∃ z : Int32, gI h 1 2 q0 = some z ∧ z.toInt = s q0 2 := rp_gI (k := 2) hR (T1_o t0) rfl
    refine Rn.hp hT rfl rfl (gI_hp g_182) ?_
    by_cases c_183 : (s q0 2) ≤ x4
    · rw [if_pos c_183] at e
      refine Rn.bt hT rfl rfl rfl (decide_eq_true ((ti_le p_182 p4).mpr c_183)) ?_
      exact Rn.weak (ll_n (ll_n (ll_n (ll_n (ll_n ll_e))))) (hk h s hR e)
    · rw [if_neg c_183] at e
      refine Rn.bf hT rfl rfl rfl (decide_eq_false (fun z => c_183 ((ti_le p_182 p4).mp z))) ?_
      refine Rn.n hT 17 (pc' := 47) (L' := [some (.ref q0), some (.long j1), none, some (.int m3), some (.int m4)]) (st' := [.int ((m3 >>> (((2 : Int32) * m4) &&& 31)) &&& (3 : Int32)), .int (((j1 >>> ((((4 : Int32) * m4)).toInt64 &&& 63))).toInt32 &&& (15 : Int32)), .int m4, .ref q0]) rfl ?_
      obtain ⟨s_185, e_184, e⟩ := Option.bind_eq_some_iff.mp e
      refine Rn.call hT rfl rfl rfl (Nat.le_of_ble_eq_true rfl) (rcv_v gX1_put (by omega) (rp_ck hR (T1_o t0))) (RX1_put (by omega) hR t0 p4 (ti_and (tj_i (tj_shr p1 (ti_mul L32_4 p4))) L32_15) (ti_and (ti_shr p3 (ti_mul L32_2 p4)) L32_3) e_184 (fun h_185 R_185 => ?_))
      show Rn d _ _ 50 [some (.ref q0), some (.long j1), none, some (.int m3), some (.int m4)] [] h_185 Q
      refine Rn.n hT 2 (pc' := 17) (L' := [some (.ref q0), some (.long j1), none, some (.int m3), some (.int (m4 + (1 : Int32)))]) (st' := []) rfl ?_
      exact Rn.weak (ll_s (ll_s (ll_n (ll_s (ll_s ll_e))))) (ih h_185 s_185 R_185 (m4 + (1 : Int32)) (w32 (x4 + 1)) (ti_add p4 L32_1) e)
def FX1_arrange (N : Nat) (s : iv_M) (q0 : Nat) (y1 : Int) (x3 : Int) : Option (iv_M) := ((pt s q0 3 0).bind fun s_174 => ((pt s_174 q0 4 0).bind fun s_176 => ((FX1_sweep N s_176 q0).bind fun s_179 => (FX1_arrange_l17 N q0 y1 x3 (fun (s_180 : iv_M) => some s_180) N s_179 0))))
set_option maxRecDepth 10000 in
set_option maxHeartbeats 4000000 in
theorem RX1_arrange {d N nc Ls : Nat} {Xs : Nat → Int32} (hd : 3 ≤ d) {h : iv_H} {s : iv_M} (hR : Rep nc Ls Xs h s) {q0 : Nat} (t0 : T1 nc q0) {j1 : Int64} {y1 : Int} (p1 : j1.toInt = y1) {m3 : Int32} {x3 : Int} (p3 : m3.toInt = x3) {r : iv_M} {Q : Option Value → iv_H → Prop} (e : FX1_arrange N s q0 y1 x3 = some r) (hq : ∀ h1, Rep nc Ls Xs h1 r → Q none h1) : Cl d 14 [.ref q0, .long j1, .int m3] h Q := by
  obtain ⟨d, rfl⟩ : ∃ k, d = k + 1 := ⟨d - 1, by omega⟩
  have hd : 2 ≤ d := by omega
  have hT := hX1_arrange
  unfold FX1_arrange at e
  refine Cl.into (by decide) gX1_arrange rfl ?_
  show Rn d 14 none 0 [some (.ref q0), some (.long j1), none, some (.int m3), none] [] h Q
  refine Rn.n hT 2 (pc' := 2) (L' := [some (.ref q0), some (.long j1), none, some (.int m3), none]) (st' := [.long (0 : Int64), .ref q0]) rfl ?_
  obtain ⟨s_174, e_175, e⟩ := Option.bind_eq_some_iff.mp e
  obtain ⟨h_174, g_175, R_174⟩ := rp_pJ (ci := 1) (k := 3) hR (T1_o t0) rfl rfl L64_0 e_175
  refine Rn.hp hT rfl rfl (pV_hp rfl g_175) ?_
  refine Rn.n hT 2 (pc' := 7) (L' := [some (.ref q0), some (.long j1), none, some (.int m3), none]) (st' := [.int (0 : Int32), .ref q0]) rfl ?_
  obtain ⟨s_176, e_177, e⟩ := Option.bind_eq_some_iff.mp e
  obtain ⟨h_176, g_177, R_176⟩ := rp_pI (ci := 1) (k := 4) R_174 (T1_o t0) rfl rfl L32_0 e_177
  refine Rn.hp hT rfl rfl (pV_hp rfl g_177) ?_
  refine Rn.n hT 1 (pc' := 11) (L' := [some (.ref q0), some (.long j1), none, some (.int m3), none]) (st' := [.ref q0]) rfl ?_
  obtain ⟨s_179, e_178, e⟩ := Option.bind_eq_some_iff.mp e
  refine Rn.call hT rfl rfl rfl (Nat.le_of_ble_eq_true rfl) (rcv_v gX1_sweep (by omega) (rp_ck R_176 (T1_o t0))) (RX1_sweep (by omega) R_176 t0 e_178 (fun h_179 R_179 => ?_))
  show Rn d _ _ 14 [some (.ref q0), some (.long j1), none, some (.int m3), none] [] h_179 Q
  refine Rn.n hT 2 (pc' := 17) (L' := [some (.ref q0), some (.long j1), none, some (.int m3), some (.int (0 : Int32))]) (st' := []) rfl ?_
  refine Rn.weak (ll_s (ll_s (ll_n (ll_s (ll_s ll_e))))) (RX1_arrange_l17 hd t0 p1 p3 (fun h_180 s_180 R_180 e => ?_) hq N h_179 s_179 R_179 (0 : Int32) 0 L32_0 e)
  try dsimp only at e
  obtain rfl := Option.some.inj e
  exact Rn.ret hT rfl rfl rfl (hq h_180 R_180)
set_option maxRecDepth 10000 in
theorem hX1_copyFrom : iv_Tb 13 tX1_copyFrom := iv_tb_of (m := mX1_copyFrom) rfl
set_option maxRecDepth 10000 in
theorem gX1_copyFrom : PG.2 13 = some mX1_copyFrom := iv_pi_of (t := tX1_copyFrom) rfl (by decide)
def FX1_copyFrom (N : Nat) (s : iv_M) (q0 : Nat) (q1 : Nat) : Option (iv_M) := ((pt s q0 0 (s q1 0)).bind fun s_187 => ((pt s_187 q0 1 (s_187 q1 1)).bind fun s_190 => ((pt s_190 q0 2 (s_190 q1 2)).bind fun s_193 => ((cp s_193 (q1 + 4) 48 0 (q0 + 4) 48 0 48).bind fun s_197 => ((cp s_197 (q1 + 6) 64 0 (q0 + 6) 64 0 64).bind fun s_200 => ((FX1_arrange N s_200 q0 (s_200 q1 3) (s_200 q1 4)).bind fun s_204 => some s_204))))))
set_option maxRecDepth 10000 in
set_option maxHeartbeats 4000000 in
theorem RX1_copyFrom {d N nc Ls : Nat} {Xs : Nat → Int32} (hd : 4 ≤ d) {h : iv_H} {s : iv_M} (hR : Rep nc Ls Xs h s) {q0 : Nat} (t0 : T1 nc q0) {q1 : Nat} (t1 : T1 nc q1) {r : iv_M} {Q : Option Value → iv_H → Prop} (e : FX1_copyFrom N s q0 q1 = some r) (hq : ∀ h1, Rep nc Ls Xs h1 r → Q none h1) : Cl d 13 [.ref q0, .ref q1] h Q := by
  obtain ⟨d, rfl⟩ : ∃ k, d = k + 1 := ⟨d - 1, by omega⟩
  have hd : 3 ≤ d := by omega
  have hT := hX1_copyFrom
  unfold FX1_copyFrom at e
  refine Cl.into (by decide) gX1_copyFrom rfl ?_
  show Rn d 13 none 0 [some (.ref q0), some (.ref q1)] [] h Q
  refine Rn.n hT 2 (pc' := 2) (L' := [some (.ref q0), some (.ref q1)]) (st' := [.ref q1, .ref q0]) rfl ?_
  obtain ⟨z_186, g_186, p_186⟩ : ∃ z : Int32, gI h 1 0 q1 = some z ∧ z.toInt = s q1 0 := rp_gI (k := 0) hR (T1_o t1) rfl
  refine Rn.hp hT rfl rfl (gI_hp g_186) ?_
  obtain ⟨s_187, e_188, e⟩ := Option.bind_eq_some_iff.mp e
  obtain ⟨h_187, g_188, R_187⟩ := rp_pI (ci := 1) (k := 0) hR (T1_o t0) rfl rfl p_186 e_188
  refine Rn.hp hT rfl rfl (pV_hp rfl g_188) ?_
  refine Rn.n hT 2 (pc' := 10) (L' := [some (.ref q0), some (.ref q1)]) (st' := [.ref q1, .ref q0]) rfl ?_
  obtain ⟨z_189, g_189, p_189⟩ : ∃ z : Int32, gI h_187 1 1 q1 = some z ∧ z.toInt = s_187 q1 1 := rp_gI (k := 1) R_187 (T1_o t1) rfl
  refine Rn.hp hT rfl rfl (gI_hp g_189) ?_
  obtain ⟨s_190, e_191, e⟩ := Option.bind_eq_some_iff.mp e
  obtain ⟨h_190, g_191, R_190⟩ := rp_pI (ci := 1) (k := 1) R_187 (T1_o t0) rfl rfl p_189 e_191
  refine Rn.hp hT rfl rfl (pV_hp rfl g_191) ?_
  refine Rn.n hT 2 (pc' := 18) (L' := [some (.ref q0), some (.ref q1)]) (st' := [.ref q1, .ref q0]) rfl ?_
  obtain ⟨z_192, g_192, p_192⟩ : ∃ z : Int32, gI h_190 1 2 q1 = some z ∧ z.toInt = s_190 q1 2 := rp_gI (k := 2) R_190 (T1_o t1) rfl
  refine Rn.hp hT rfl rfl (gI_hp g_192) ?_
  obtain ⟨s_193, e_194, e⟩ := Option.bind_eq_some_iff.mp e
  obtain ⟨h_193, g_194, R_193⟩ := rp_pI (ci := 1) (k := 2) R_190 (T1_o t0) rfl rfl p_192 e_194
  refine Rn.hp hT rfl rfl (pV_hp rfl g_194) ?_
  refine Rn.n hT 1 (pc' := 25) (L' := [some (.ref q0), some (.ref q1)]) (st' := [.ref q1]) rfl ?_
  refine Rn.hp hT rfl rfl (gR_hp (rp_gR R_193 (T1_o t1) rfl)) ?_
  refine Rn.n hT 2 (pc' := 30) (L' := [some (.ref q0), some (.ref q1)]) (st' := [.ref q0, .int (0 : Int32), .ref (q1 + 4)]) rfl ?_
  refine Rn.hp hT rfl rfl (gR_hp (rp_gR R_193 (T1_o t0) rfl)) ?_
  refine Rn.n hT 2 (pc' := 35) (L' := [some (.ref q0), some (.ref q1)]) (st' := [.ref q0, .int (0 : Int32), .ref (q0 + 4), .int (0 : Int32), .ref (q1 + 4)]) rfl ?_
  refine Rn.hp hT rfl rfl (gR_hp (rp_gR R_193 (T1_o t0) rfl)) ?_
  obtain ⟨z_195, g_195, p_195⟩ : ∃ z : Int32, aL h_193 (q0 + 4) = some z ∧ z.toInt = 48 := rp_aL R_193 (T1_8 t0) (Or.inl rfl) (T1_8l t0)
  refine Rn.hp hT rfl rfl (aL_hp g_195) ?_
  obtain ⟨s_197, e_196, e⟩ := Option.bind_eq_some_iff.mp e
  obtain ⟨h_197, g_196, R_197⟩ := rp_cp R_193 (T1_8 t1) (T1_8l t1) L32_0 (T1_8 t0) (T1_8l t0) L32_0 p_195 e_196
  refine Rn.hp hT rfl rfl (cpA_hp (Nat.le_of_ble_eq_true rfl) g_196) ?_
  refine Rn.n hT 1 (pc' := 43) (L' := [some (.ref q0), some (.ref q1)]) (st' := [.ref q1]) rfl ?_
  refine Rn.hp hT rfl rfl (gR_hp (rp_gR R_197 (T1_o t1) rfl)) ?_
  refine Rn.n hT 2 (pc' := 48) (L' := [some (.ref q0), some (.ref q1)]) (st' := [.ref q0, .int (0 : Int32), .ref (q1 + 6)]) rfl ?_
  refine Rn.hp hT rfl rfl (gR_hp (rp_gR R_197 (T1_o t0) rfl)) ?_
  refine Rn.n hT 2 (pc' := 53) (L' := [some (.ref q0), some (.ref q1)]) (st' := [.ref q0, .int (0 : Int32), .ref (q0 + 6), .int (0 : Int32), .ref (q1 + 6)]) rfl ?_
  refine Rn.hp hT rfl rfl (gR_hp (rp_gR R_197 (T1_o t0) rfl)) ?_
  obtain ⟨z_198, g_198, p_198⟩ : ∃ z : Int32, aL h_197 (q0 + 6) = some z ∧ z.toInt = 64 := rp_aL R_197 (T1_10 t0) (Or.inl rfl) (T1_10l t0)
  refine Rn.hp hT rfl rfl (aL_hp g_198) ?_
  obtain ⟨s_200, e_199, e⟩ := Option.bind_eq_some_iff.mp e
  obtain ⟨h_200, g_199, R_200⟩ := rp_cp R_197 (T1_10 t1) (T1_10l t1) L32_0 (T1_10 t0) (T1_10l t0) L32_0 p_198 e_199
  refine Rn.hp hT rfl rfl (cpA_hp (Nat.le_of_ble_eq_true rfl) g_199) ?_
  refine Rn.n hT 2 (pc' := 62) (L' := [some (.ref q0), some (.ref q1)]) (st' := [.ref q1, .ref q0]) rfl ?_
  obtain ⟨z_201, g_201, p_201⟩ : ∃ z : Int64, gJ h_200 1 3 q1 = some z ∧ z.toInt = s_200 q1 3 := rp_gJ (k := 3) R_200 (T1_o t1) rfl
  refine Rn.hp hT rfl rfl (gJ_hp g_201) ?_
  refine Rn.n hT 1 (pc' := 66) (L' := [some (.ref q0), some (.ref q1)]) (st' := [.ref q1, .long z_201, .ref q0]) rfl ?_
  obtain ⟨z_202, g_202, p_202⟩ : ∃ z : Int32, gI h_200 1 4 q1 = some z ∧ z.toInt = s_200 q1 4 := rp_gI (k := 4) R_200 (T1_o t1) rfl
  refine Rn.hp hT rfl rfl (gI_hp g_202) ?_
  obtain ⟨s_204, e_203, e⟩ := Option.bind_eq_some_iff.mp e
  refine Rn.call hT rfl rfl rfl (Nat.le_of_ble_eq_true rfl) (rcv_v gX1_arrange (by omega) (rp_ck R_200 (T1_o t0))) (RX1_arrange (by omega) R_200 t0 p_201 p_202 e_203 (fun h_204 R_204 => ?_))
  show Rn d _ _ 72 [some (.ref q0), some (.ref q1)] [] h_204 Q
  obtain rfl := Option.some.inj e
  exact Rn.ret hT rfl rfl rfl (hq h_204 R_204)
set_option maxRecDepth 10000 in
theorem hX1_isEmptyCell : iv_Tb 16 tX1_isEmptyCell := iv_tb_of (m := mX1_isEmptyCell) rfl
set_option maxRecDepth 10000 in
theorem gX1_isEmptyCell : PG.2 16 = some mX1_isEmptyCell := iv_pi_of (t := tX1_isEmptyCell) rfl (by decide)
def FX1_isEmptyCell_b35 (N : Nat) (s : iv_M)  (xs0 : Int) : Option (Int) := (if xs0 = 0 ∨ xs0 = 1 then some xs0 else none)
set_option maxRecDepth 10000 in
set_option maxHeartbeats 4000000 in
theorem RX1_isEmptyCell_b35 {d N nc Ls : Nat} {Xs : Nat → Int32} (hd : 0 ≤ d) {h : iv_H} {s : iv_M} (hR : Rep nc Ls Xs h s)  {ms0 : Int32} {xs0 : Int} (ps0 : ms0.toInt = xs0) {r : Int} {Q : Option Value → iv_H → Prop} (hq : ∀ (z : Int32), z.toInt = r → Q (some (.int z)) h) (e : FX1_isEmptyCell_b35 N s  xs0 = some r) : Rn d 16 (some .boolean) 35 [none, none] [.int ms0] h Q := by
  have hT := hX1_isEmptyCell
  unfold FX1_isEmptyCell_b35 at e
  by_cases c_211 : xs0 = 0 ∨ xs0 = 1
  · rw [if_pos c_211] at e
    obtain rfl := Option.some.inj e
    exact Rn.ret hT rfl rfl (if_pos (ti_b ps0 c_211)) (hq ms0 ps0)
  · rw [if_neg c_211] at e
    cases e
def FX1_isEmptyCell_b34 (N : Nat) (s : iv_M)   : Option (Int) := (FX1_isEmptyCell_b35 N s 0)
set_option maxRecDepth 10000 in
set_option maxHeartbeats 4000000 in
theorem RX1_isEmptyCell_b34 {d N nc Ls : Nat} {Xs : Nat → Int32} (hd : 0 ≤ d) {h : iv_H} {s : iv_M} (hR : Rep nc Ls Xs h s)   {r : Int} {Q : Option Value → iv_H → Prop} (hq : ∀ (z : Int32), z.toInt = r → Q (some (.int z)) h) (e : FX1_isEmptyCell_b34 N s   = some r) : Rn d 16 (some .boolean) 34 [none, none] [] h Q := by
  have hT := hX1_isEmptyCell
  unfold FX1_isEmptyCell_b34 at e
  refine Rn.n hT 1 (pc' := 35) (L' := [none, none]) (st' := [.int (0 : Int32)]) rfl ?_
  exact Rn.weak (ll_n (ll_n ll_e)) (RX1_isEmptyCell_b35 hd hR L32_0 hq e)
def FX1_isEmptyCell (N : Nat) (s : iv_M) (q0 : Nat) (x1 : Int) : Option (Int) := (if (s q0 0) ≤ (bAn x1 3) then (FX1_isEmptyCell_b34 N s) else (if (s q0 1) ≤ (sr32 x1 2) then (FX1_isEmptyCell_b34 N s) else ((rd s (q0 + 3) 16 x1).bind fun v_209 => (if v_209 = (-1) then (FX1_isEmptyCell_b35 N s 1) else (FX1_isEmptyCell_b34 N s)))))
set_option maxRecDepth 10000 in
set_option maxHeartbeats 4000000 in
theorem RX1_isEmptyCell {d N nc Ls : Nat} {Xs : Nat → Int32} (hd : 1 ≤ d) {h : iv_H} {s : iv_M} (hR : Rep nc Ls Xs h s) {q0 : Nat} (t0 : T1 nc q0) {m1 : Int32} {x1 : Int} (p1 : m1.toInt = x1) {r : Int} {Q : Option Value → iv_H → Prop} (e : FX1_isEmptyCell N s q0 x1 = some r) (hq : ∀ (z : Int32), z.toInt = r → Q (some (.int z)) h) : Cl d 16 [.ref q0, .int m1] h Q := by
  obtain ⟨d, rfl⟩ : ∃ k, d = k + 1 := ⟨d - 1, by omega⟩
  have hd : 0 ≤ d := by omega
  have hT := hX1_isEmptyCell
  unfold FX1_isEmptyCell at e
  refine Cl.into (by decide) gX1_isEmptyCell rfl ?_
  show Rn d 16 (some .boolean) 0 [some (.ref q0), some (.int m1)] [] h Q
  refine Rn.n hT 4 (pc' := 4) (L' := [some (.ref q0), some (.int m1)]) (st' := [.ref q0, .int (m1 &&& (3 : Int32))]) rfl ?_
  obtain ⟨z_205, g_205, p_205⟩ : ∃ z : Int32, gI h 1 0 q0 = some z ∧ z.toInt = s q0 0 := rp_gI (k := 0) hR (T1_o t0) rfl
  refine Rn.hp hT rfl rfl (gI_hp g_205) ?_
  by_cases c_206 : (s q0 0) ≤ (bAn x1 3)
  · rw [if_pos c_206] at e
    refine Rn.bt hT rfl rfl rfl (decide_eq_true ((ti_le p_205 (ti_and p1 L32_3)).mpr c_206)) ?_
    exact Rn.weak (ll_n (ll_n ll_e)) (RX1_isEmptyCell_b34 hd hR hq e)
  · rw [if_neg c_206] at e
    refine Rn.bf hT rfl rfl rfl (decide_eq_false (fun z => c_206 ((ti_le p_205 (ti_and p1 L32_3)).mp z))) ?_
    refine Rn.n hT 4 (pc' := 14) (L' := [some (.ref q0), some (.int m1)]) (st' := [.ref q0, .int (m1 >>> ((2 : Int32) &&& 31))]) rfl ?_
    obtain ⟨z_207, g_207, p_207⟩ : ∃ z : Int32, gI h 1 1 q0 = some z ∧ z.toInt = s q0 1 := rp_gI (k := 1) hR (T1_o t0) rfl
    refine Rn.hp hT rfl rfl (gI_hp g_207) ?_
    by_cases c_208 : (s q0 1) ≤ (sr32 x1 2)
    · rw [if_pos c_208] at e
      refine Rn.bt hT rfl rfl rfl (decide_eq_true ((ti_le p_207 (ti_shr p1 L32_2)).mpr c_208)) ?_
      exact Rn.weak (ll_n (ll_n ll_e)) (RX1_isEmptyCell_b34 hd hR hq e)
    · rw [if_neg c_208] at e
      refine Rn.bf hT rfl rfl rfl (decide_eq_false (fun z => c_208 ((ti_le p_207 (ti_shr p1 L32_2)).mp z))) ?_
      refine Rn.n hT 1 (pc' := 21) (L' := [some (.ref q0), some (.int m1)]) (st' := [.ref q0]) rfl ?_
      refine Rn.hp hT rfl rfl (gR_hp (rp_gR hR (T1_o t0) rfl)) ?_
      refine Rn.n hT 1 (pc' := 25) (L' := [some (.ref q0), some (.int m1)]) (st' := [.int m1, .ref (q0 + 3)]) rfl ?_
      obtain ⟨v_209, e_209, e⟩ := Option.bind_eq_some_iff.mp e
      obtain ⟨z_209, g_209, p_209⟩ := rp_aI hR (T1_7 t0) (T1_7l t0) p1 e_209
      refine Rn.hp hT rfl rfl (aI_hp g_209) ?_
      refine Rn.n hT 1 (pc' := 27) (L' := [some (.ref q0), some (.int m1)]) (st' := [.int (-1 : Int32), .int z_209]) rfl ?_
      by_cases c_210 : v_209 = (-1)
      · rw [if_pos c_210] at e
        refine Rn.bf hT rfl rfl rfl (decide_eq_false (fun z => z ((ti_e p_209 L32_m1).mpr c_210))) ?_
        refine Rn.n hT 2 (pc' := 35) (L' := [some (.ref q0), some (.int m1)]) (st' := [.int (1 : Int32)]) rfl ?_
        exact Rn.weak (ll_n (ll_n ll_e)) (RX1_isEmptyCell_b35 hd hR L32_1 hq e)
      · rw [if_neg c_210] at e
        refine Rn.bt hT rfl rfl rfl (decide_eq_true (fun z => c_210 ((ti_e p_209 L32_m1).mp z))) ?_
        exact Rn.weak (ll_n (ll_n ll_e)) (RX1_isEmptyCell_b34 hd hR hq e)
set_option maxRecDepth 10000 in
theorem hX1_emptyCells : iv_Tb 17 tX1_emptyCells := iv_tb_of (m := mX1_emptyCells) rfl
set_option maxRecDepth 10000 in
theorem gX1_emptyCells : PG.2 17 = some mX1_emptyCells := iv_pi_of (t := tX1_emptyCells) rfl (by decide)
def FX1_emptyCells (N : Nat) (s : iv_M) (q0 : Nat) : Option (Int) := (some (w32 ((w32 ((s q0 0) * (s q0 1))) - (s q0 2))))
set_option maxRecDepth 10000 in
set_option maxHeartbeats 4000000 in
theorem RX1_emptyCells {d N nc Ls : Nat} {Xs : Nat → Int32} (hd : 1 ≤ d) {h : iv_H} {s : iv_M} (hR : Rep nc Ls Xs h s) {q0 : Nat} (t0 : T1 nc q0) {r : Int} {Q : Option Value → iv_H → Prop} (e : FX1_emptyCells N s q0 = some r) (hq : ∀ (z : Int32), z.toInt = r → Q (some (.int z)) h) : Cl d 17 [.ref q0] h Q := by
  obtain ⟨d, rfl⟩ : ∃ k, d = k + 1 := ⟨d - 1, by omega⟩
  have hd : 0 ≤ d := by omega
  have hT := hX1_emptyCells
  unfold FX1_emptyCells at e
  refine Cl.into (by decide) gX1_emptyCells rfl ?_
  show Rn d 17 (some .int) 0 [some (.ref q0)] [] h Q
  refine Rn.n hT 1 (pc' := 1) (L' := [some (.ref q0)]) (st' := [.ref q0]) rfl ?_
  obtain ⟨z_212, g_212, p_212⟩ : ∃ z : Int32, gI h 1 0 q0 = some z ∧ z.toInt = s q0 0 := rp_gI (k := 0) hR (T1_o t0) rfl
  refine Rn.hp hT rfl rfl (gI_hp g_212) ?_
  refine Rn.n hT 1 (pc' := 5) (L' := [some (.ref q0)]) (st' := [.ref q0, .int z_212]) rfl ?_
  obtain ⟨z_213, g_213, p_213⟩ : ∃ z : Int32, gI h 1 1 q0 = some z ∧ z.toInt = s q0 1 := rp_gI (k := 1) hR (T1_o t0) rfl
  refine Rn.hp hT rfl rfl (gI_hp g_213) ?_
  refine Rn.n hT 2 (pc' := 10) (L' := [some (.ref q0)]) (st' := [.ref q0, .int (z_212 * z_213)]) rfl ?_
  obtain ⟨z_214, g_214, p_214⟩ : ∃ z : Int32, gI h 1 2 q0 = some z ∧ z.toInt = s q0 2 := rp_gI (k := 2) hR (T1_o t0) rfl
  refine Rn.hp hT rfl rfl (gI_hp g_214) ?_
  refine Rn.n hT 1 (pc' := 14) (L' := [some (.ref q0)]) (st' := [.int ((z_212 * z_213) - z_214)]) rfl ?_
  obtain rfl := Option.some.inj e
  exact Rn.ret hT rfl rfl rfl (hq ((z_212 * z_213) - z_214) (ti_sub (ti_mul p_212 p_213) p_214))
set_option maxRecDepth 10000 in
theorem hX1_take : iv_Tb 19 tX1_take := iv_tb_of (m := mX1_take) rfl
set_option maxRecDepth 10000 in
theorem gX1_take : PG.2 19 = some mX1_take := iv_pi_of (t := tX1_take) rfl (by decide)
def FX1_take_l16 (N : Nat) (q0 : Nat) (x2 : Int) (kx : iv_M → Option (iv_M)) : Nat → iv_M → Int → Option (iv_M)
  | 0, _, _ => none
  | n + 1, s, x3 => (if 4 ≤ x3 then (kx s) else ((wr s (q0 + 5) 64 (w32 ((w32 (4 * x2)) + x3)) 3).bind fun s_221 => (FX1_take_l16 N q0 x2 kx n s_221 (w32 (x3 + 1)))))
set_option maxRecDepth 10000 in
set_option maxHeartbeats 4000000 in
theorem RX1_take_l16 {d N nc Ls : Nat} {Xs : Nat → Int32} (hd : 0 ≤ d) {q0 : Nat} (t0 : T1 nc q0) {m2 : Int32} {x2 : Int} (p2 : m2.toInt = x2) {kx : iv_M → Option (iv_M)} {r : iv_M} {Q : Option Value → iv_H → Prop} (hk : ∀ (h : iv_H) (s : iv_M) (hR : Rep nc Ls Xs h s), kx s = some r → Rn d 19 none 38 [none, none, none, none] [] h Q) (hq : ∀ h1, Rep nc Ls Xs h1 r → Q none h1) : ∀ (n : Nat) (h : iv_H) (s : iv_M) (hR : Rep nc Ls Xs h s) (m3 : Int32) (x3 : Int) (p3 : m3.toInt = x3), FX1_take_l16 N q0 x2 kx n s x3 = some r → Rn d 19 none 16 [some (.ref q0), none, some (.int m2), some (.int m3)] [] h Q := by
  have hT := hX1_take
  intro n
  induction n with
  | zero =>
    intro h s hR m3 x3 p3 e
    rw [FX1_take_l16] at e
    cases e
  | succ n ih =>
    intro h s hR m3 x3 p3 e
    rw [FX1_take_l16] at e
    refine Rn.n hT 2 (pc' := 18) (L' := [some (.ref q0), none, some (.int m2), some (.int m3)]) (st' := [.int (4 : Int32), .int m3]) rfl ?_
    by_cases c_220 : 4 ≤ x3
    · rw [if_pos c_220] at e
      refine Rn.bt hT rfl rfl rfl (decide_eq_true ((ti_le L32_4 p3).mpr c_220)) ?_
      exact Rn.weak (ll_n (ll_n (ll_n (ll_n ll_e)))) (hk h s hR e)
    · rw [if_neg c_220] at e
      refine Rn.bf hT rfl rfl rfl (decide_eq_false (fun z => c_220 ((ti_le L32_4 p3).mp z))) ?_
      refine Rn.n hT 1 (pc' := 22) (L' := [some (.ref q0), none, some (.int m2), some (.int m3)]) (st' := [.ref q0]) rfl ?_
      refine Rn.hp hT rfl rfl (gR_hp (rp_gR hR (T1_o t0) rfl)) ?_
      refine Rn.n hT 6 (pc' := 31) (L' := [some (.ref q0), none, some (.int m2), some (.int m3)]) (st' := [.int (3 : Int32), .int (((4 : Int32) * m2) + m3), .ref (q0 + 5)]) rfl ?_
      obtain ⟨s_221, e_222, e⟩ := Option.bind_eq_some_iff.mp e
      obtain ⟨h_221, g_222, R_221⟩ := rp_wI hR (T1_9 t0) (T1_9l t0) (ti_add (ti_mul L32_4 p2) p3) L32_3 e_222
      refine Rn.hp hT rfl rfl (wI_hp g_222) ?_
      refine Rn.n hT 2 (pc' := 16) (L' := [some (.ref q0), none, some (.int m2), some (.int (m3 + (1 : Int32)))]) (st' := []) rfl ?_
      exact Rn.weak (ll_s (ll_n (ll_s (ll_s ll_e)))) (ih h_221 s_221 R_221 (m3 + (1 : Int32)) (w32 (x3 + 1)) (ti_add p3 L32_1) e)
def FX1_take (N : Nat) (s : iv_M) (q0 : Nat) (x1 : Int) : Option (iv_M) := ((rd s (q0 + 1) 12 x1).bind fun v_215 => ((wr s (q0 + 3) 16 v_215 (-1)).bind fun s_216 => (FX1_take_l16 N q0 v_215 (fun (s_218 : iv_M) => some s_218) N s_216 0)))
set_option maxRecDepth 10000 in
set_option maxHeartbeats 4000000 in
theorem RX1_take {d N nc Ls : Nat} {Xs : Nat → Int32} (hd : 1 ≤ d) {h : iv_H} {s : iv_M} (hR : Rep nc Ls Xs h s) {q0 : Nat} (t0 : T1 nc q0) {m1 : Int32} {x1 : Int} (p1 : m1.toInt = x1) {r : iv_M} {Q : Option Value → iv_H → Prop} (e : FX1_take N s q0 x1 = some r) (hq : ∀ h1, Rep nc Ls Xs h1 r → Q none h1) : Cl d 19 [.ref q0, .int m1] h Q := by
  obtain ⟨d, rfl⟩ : ∃ k, d = k + 1 := ⟨d - 1, by omega⟩
  have hd : 0 ≤ d := by omega
  have hT := hX1_take
  unfold FX1_take at e
  refine Cl.into (by decide) gX1_take rfl ?_
  show Rn d 19 none 0 [some (.ref q0), some (.int m1), none, none] [] h Q
  refine Rn.n hT 1 (pc' := 1) (L' := [some (.ref q0), some (.int m1), none, none]) (st' := [.ref q0]) rfl ?_
  refine Rn.hp hT rfl rfl (gR_hp (rp_gR hR (T1_o t0) rfl)) ?_
  refine Rn.n hT 1 (pc' := 5) (L' := [some (.ref q0), some (.int m1), none, none]) (st' := [.int m1, .ref (q0 + 1)]) rfl ?_
  obtain ⟨v_215, e_215, e⟩ := Option.bind_eq_some_iff.mp e
  obtain ⟨z_215, g_215, p_215⟩ := rp_aI hR (T1_5 t0) (T1_5l t0) p1 e_215
  refine Rn.hp hT rfl rfl (aI_hp g_215) ?_
  refine Rn.n hT 2 (pc' := 8) (L' := [some (.ref q0), some (.int m1), some (.int z_215), none]) (st' := [.ref q0]) rfl ?_
  refine Rn.hp hT rfl rfl (gR_hp (rp_gR hR (T1_o t0) rfl)) ?_
  refine Rn.n hT 2 (pc' := 13) (L' := [some (.ref q0), some (.int m1), some (.int z_215), none]) (st' := [.int (-1 : Int32), .int z_215, .ref (q0 + 3)]) rfl ?_
  obtain ⟨s_216, e_217, e⟩ := Option.bind_eq_some_iff.mp e
  obtain ⟨h_216, g_217, R_216⟩ := rp_wI hR (T1_7 t0) (T1_7l t0) p_215 L32_m1 e_217
  refine Rn.hp hT rfl rfl (wI_hp g_217) ?_
  refine Rn.n hT 2 (pc' := 16) (L' := [some (.ref q0), some (.int m1), some (.int z_215), some (.int (0 : Int32))]) (st' := []) rfl ?_
  refine Rn.weak (ll_s (ll_n (ll_s (ll_s ll_e)))) (RX1_take_l16 hd t0 p_215 (fun h_218 s_218 R_218 e => ?_) hq N h_216 s_216 R_216 (0 : Int32) 0 L32_0 e)
  try dsimp only at e
  obtain rfl := Option.some.inj e
  exact Rn.ret hT rfl rfl rfl (hq h_218 R_218)
set_option maxRecDepth 10000 in
theorem hX1_setSort : iv_Tb 21 tX1_setSort := iv_tb_of (m := mX1_setSort) rfl
set_option maxRecDepth 10000 in
theorem gX1_setSort : PG.2 21 = some mX1_setSort := iv_pi_of (t := tX1_setSort) rfl (by decide)
def FX1_setSort (N : Nat) (s : iv_M) (q0 : Nat) (x1 : Int) (x2 : Int) (x3 : Int) : Option (iv_M) := ((rd s (q0 + 2) 12 x1).bind fun v_223 => ((wr s (q0 + 4) 48 (w32 ((w32 (4 * x1)) + (bAn (w32 (x2 - v_223)) 3))) x3).bind fun s_224 => ((rd s_224 (q0 + 1) 12 x1).bind fun v_226 => ((rd s_224 (q0 + 2) 12 x1).bind fun v_227 => ((FX1_put N s_224 q0 x1 v_226 v_227).bind fun s_229 => some s_229)))))
set_option maxRecDepth 10000 in
set_option maxHeartbeats 4000000 in
theorem RX1_setSort {d N nc Ls : Nat} {Xs : Nat → Int32} (hd : 2 ≤ d) {h : iv_H} {s : iv_M} (hR : Rep nc Ls Xs h s) {q0 : Nat} (t0 : T1 nc q0) {m1 : Int32} {x1 : Int} (p1 : m1.toInt = x1) {m2 : Int32} {x2 : Int} (p2 : m2.toInt = x2) {m3 : Int32} {x3 : Int} (p3 : m3.toInt = x3) {r : iv_M} {Q : Option Value → iv_H → Prop} (e : FX1_setSort N s q0 x1 x2 x3 = some r) (hq : ∀ h1, Rep nc Ls Xs h1 r → Q none h1) : Cl d 21 [.ref q0, .int m1, .int m2, .int m3] h Q := by
  obtain ⟨d, rfl⟩ : ∃ k, d = k + 1 := ⟨d - 1, by omega⟩
  have hd : 1 ≤ d := by omega
  have hT := hX1_setSort
  unfold FX1_setSort at e
  refine Cl.into (by decide) gX1_setSort rfl ?_
  show Rn d 21 none 0 [some (.ref q0), some (.int m1), some (.int m2), some (.int m3)] [] h Q
  refine Rn.n hT 1 (pc' := 1) (L' := [some (.ref q0), some (.int m1), some (.int m2), some (.int m3)]) (st' := [.ref q0]) rfl ?_
  refine Rn.hp hT rfl rfl (gR_hp (rp_gR hR (T1_o t0) rfl)) ?_
  refine Rn.n hT 5 (pc' := 9) (L' := [some (.ref q0), some (.int m1), some (.int m2), some (.int m3)]) (st' := [.ref q0, .int m2, .int ((4 : Int32) * m1), .ref (q0 + 4)]) rfl ?_
  refine Rn.hp hT rfl rfl (gR_hp (rp_gR hR (T1_o t0) rfl)) ?_
  refine Rn.n hT 1 (pc' := 13) (L' := [some (.ref q0), some (.int m1), some (.int m2), some (.int m3)]) (st' := [.int m1, .ref (q0 + 2), .int m2, .int ((4 : Int32) * m1), .ref (q0 + 4)]) rfl ?_
  obtain ⟨v_223, e_223, e⟩ := Option.bind_eq_some_iff.mp e
  obtain ⟨z_223, g_223, p_223⟩ := rp_aI hR (T1_6 t0) (T1_6l t0) p1 e_223
  refine Rn.hp hT rfl rfl (aI_hp g_223) ?_
  refine Rn.n hT 5 (pc' := 19) (L' := [some (.ref q0), some (.int m1), some (.int m2), some (.int m3)]) (st' := [.int m3, .int (((4 : Int32) * m1) + ((m2 - z_223) &&& (3 : Int32))), .ref (q0 + 4)]) rfl ?_
  obtain ⟨s_224, e_225, e⟩ := Option.bind_eq_some_iff.mp e
  obtain ⟨h_224, g_225, R_224⟩ := rp_wI hR (T1_8 t0) (T1_8l t0) (ti_add (ti_mul L32_4 p1) (ti_and (ti_sub p2 p_223) L32_3)) p3 e_225
  refine Rn.hp hT rfl rfl (wI_hp g_225) ?_
  refine Rn.n hT 3 (pc' := 23) (L' := [some (.ref q0), some (.int m1), some (.int m2), some (.int m3)]) (st' := [.ref q0, .int m1, .ref q0]) rfl ?_
  refine Rn.hp hT rfl rfl (gR_hp (rp_gR R_224 (T1_o t0) rfl)) ?_
  refine Rn.n hT 1 (pc' := 27) (L' := [some (.ref q0), some (.int m1), some (.int m2), some (.int m3)]) (st' := [.int m1, .ref (q0 + 1), .int m1, .ref q0]) rfl ?_
  obtain ⟨v_226, e_226, e⟩ := Option.bind_eq_some_iff.mp e
  obtain ⟨z_226, g_226, p_226⟩ := rp_aI R_224 (T1_5 t0) (T1_5l t0) p1 e_226
  refine Rn.hp hT rfl rfl (aI_hp g_226) ?_
  refine Rn.n hT 1 (pc' := 29) (L' := [some (.ref q0), some (.int m1), some (.int m2), some (.int m3)]) (st' := [.ref q0, .int z_226, .int m1, .ref q0]) rfl ?_
  refine Rn.hp hT rfl rfl (gR_hp (rp_gR R_224 (T1_o t0) rfl)) ?_
  refine Rn.n hT 1 (pc' := 33) (L' := [some (.ref q0), some (.int m1), some (.int m2), some (.int m3)]) (st' := [.int m1, .ref (q0 + 2), .int z_226, .int m1, .ref q0]) rfl ?_
  obtain ⟨v_227, e_227, e⟩ := Option.bind_eq_some_iff.mp e
  obtain ⟨z_227, g_227, p_227⟩ := rp_aI R_224 (T1_6 t0) (T1_6l t0) p1 e_227
  refine Rn.hp hT rfl rfl (aI_hp g_227) ?_
  obtain ⟨s_229, e_228, e⟩ := Option.bind_eq_some_iff.mp e
  refine Rn.call hT rfl rfl rfl (Nat.le_of_ble_eq_true rfl) (rcv_v gX1_put (by omega) (rp_ck R_224 (T1_o t0))) (RX1_put (by omega) R_224 t0 p1 p_226 p_227 e_228 (fun h_229 R_229 => ?_))
  show Rn d _ _ 37 [some (.ref q0), some (.int m1), some (.int m2), some (.int m3)] [] h_229 Q
  obtain rfl := Option.some.inj e
  exact Rn.ret hT rfl rfl rfl (hq h_229 R_229)
set_option maxRecDepth 10000 in
theorem hX1_sideTo : iv_Tb 22 tX1_sideTo := iv_tb_of (m := mX1_sideTo) rfl
set_option maxRecDepth 10000 in
theorem gX1_sideTo : PG.2 22 = some mX1_sideTo := iv_pi_of (t := tX1_sideTo) rfl (by decide)
def FX1_sideTo_l2 (N : Nat) (s : iv_M) (q0 : Nat) (x1 : Int) (x2 : Int) (kx : Unit → Option (Int)) : Nat → Int → Option (Int)
  | 0, _ => none
  | n + 1, x3 => (if 4 ≤ x3 then (kx ()) else ((rd s (q0 + 6) 64 (w32 ((w32 (4 * x1)) + x3))).bind fun v_232 => (if v_232 = x2 then (some x3) else (FX1_sideTo_l2 N s q0 x1 x2 kx n (w32 (x3 + 1))))))
set_option maxRecDepth 10000 in
set_option maxHeartbeats 4000000 in
theorem RX1_sideTo_l2 {d N nc Ls : Nat} {Xs : Nat → Int32} (hd : 0 ≤ d) {h : iv_H} {s : iv_M} (hR : Rep nc Ls Xs h s) {q0 : Nat} (t0 : T1 nc q0) {m1 : Int32} {x1 : Int} (p1 : m1.toInt = x1) {m2 : Int32} {x2 : Int} (p2 : m2.toInt = x2) {kx : Unit → Option (Int)} {r : Int} {Q : Option Value → iv_H → Prop} (hk : ∀ (u : Unit), kx u = some r → Rn d 22 (some .int) 29 [none, none, none, none] [] h Q) (hq : ∀ (z : Int32), z.toInt = r → Q (some (.int z)) h) : ∀ (n : Nat) (m3 : Int32) (x3 : Int) (p3 : m3.toInt = x3), FX1_sideTo_l2 N s q0 x1 x2 kx n x3 = some r → Rn d 22 (some .int) 2 [some (.ref q0), some (.int m1), some (.int m2), some (.int m3)] [] h Q := by
  have hT := hX1_sideTo
  intro n
  induction n with
  | zero =>
    intro m3 x3 p3 e
    rw [FX1_sideTo_l2] at e
    cases e
  | succ n ih =>
    intro m3 x3 p3 e
    rw [FX1_sideTo_l2] at e
    refine Rn.n hT 2 (pc' := 4) (L' := [some (.ref q0), some (.int m1), some (.int m2), some (.int m3)]) (st' := [.int (4 : Int32), .int m3]) rfl ?_
    by_cases c_231 : 4 ≤ x3
    · rw [if_pos c_231] at e
      refine Rn.bt hT rfl rfl rfl (decide_eq_true ((ti_le L32_4 p3).mpr c_231)) ?_
      exact Rn.weak (ll_n (ll_n (ll_n (ll_n ll_e)))) (hk () e)
    · rw [if_neg c_231] at e
      refine Rn.bf hT rfl rfl rfl (decide_eq_false (fun z => c_231 ((ti_le L32_4 p3).mp z))) ?_
      refine Rn.n hT 1 (pc' := 8) (L' := [some (.ref q0), some (.int m1), some (.int m2), some (.int m3)]) (st' := [.ref q0]) rfl ?_
      refine Rn.hp hT rfl rfl (gR_hp (rp_gR hR (T1_o t0) rfl)) ?_
      refine Rn.n hT 5 (pc' := 16) (L' := [some (.ref q0), some (.int m1), some (.int m2), some (.int m3)]) (st' := [.int (((4 : Int32) * m1) + m3), .ref (q0 + 6)]) rfl ?_
      obtain ⟨v_232, e_232, e⟩ := Option.bind_eq_some_iff.mp e
      obtain ⟨z_232, g_232, p_232⟩ := rp_aI hR (T1_10 t0) (T1_10l t0) (ti_add (ti_mul L32_4 p1) p3) e_232
      refine Rn.hp hT rfl rfl (aI_hp g_232) ?_
      refine Rn.n hT 1 (pc' := 18) (L' := [some (.ref q0), some (.int m1), some (.int m2), some (.int m3)]) (st' := [.int m2, .int z_232]) rfl ?_
      by_cases c_233 : v_232 = x2
      · rw [if_pos c_233] at e
        refine Rn.bf hT rfl rfl rfl (decide_eq_false (fun z => z ((ti_e p_232 p2).mpr c_233))) ?_
        refine Rn.n hT 1 (pc' := 22) (L' := [some (.ref q0), some (.int m1), some (.int m2), some (.int m3)]) (st' := [.int m3]) rfl ?_
        obtain rfl := Option.some.inj e
        exact Rn.ret hT rfl rfl rfl (hq m3 p3)
      · rw [if_neg c_233] at e
        refine Rn.bt hT rfl rfl rfl (decide_eq_true (fun z => c_233 ((ti_e p_232 p2).mp z))) ?_
        refine Rn.n hT 2 (pc' := 2) (L' := [some (.ref q0), some (.int m1), some (.int m2), some (.int (m3 + (1 : Int32)))]) (st' := []) rfl ?_
        exact Rn.weak (ll_s (ll_s (ll_s (ll_s ll_e)))) (ih (m3 + (1 : Int32)) (w32 (x3 + 1)) (ti_add p3 L32_1) e)
def FX1_sideTo (N : Nat) (s : iv_M) (q0 : Nat) (x1 : Int) (x2 : Int) : Option (Int) := (FX1_sideTo_l2 N s q0 x1 x2 (fun (_ : Unit) => (some (-1))) N 0)
set_option maxRecDepth 10000 in
set_option maxHeartbeats 4000000 in
theorem RX1_sideTo {d N nc Ls : Nat} {Xs : Nat → Int32} (hd : 1 ≤ d) {h : iv_H} {s : iv_M} (hR : Rep nc Ls Xs h s) {q0 : Nat} (t0 : T1 nc q0) {m1 : Int32} {x1 : Int} (p1 : m1.toInt = x1) {m2 : Int32} {x2 : Int} (p2 : m2.toInt = x2) {r : Int} {Q : Option Value → iv_H → Prop} (e : FX1_sideTo N s q0 x1 x2 = some r) (hq : ∀ (z : Int32), z.toInt = r → Q (some (.int z)) h) : Cl d 22 [.ref q0, .int m1, .int m2] h Q := by
  obtain ⟨d, rfl⟩ : ∃ k, d = k + 1 := ⟨d - 1, by omega⟩
  have hd : 0 ≤ d := by omega
  have hT := hX1_sideTo
  unfold FX1_sideTo at e
  refine Cl.into (by decide) gX1_sideTo rfl ?_
  show Rn d 22 (some .int) 0 [some (.ref q0), some (.int m1), some (.int m2), none] [] h Q
  refine Rn.n hT 2 (pc' := 2) (L' := [some (.ref q0), some (.int m1), some (.int m2), some (.int (0 : Int32))]) (st' := []) rfl ?_
  refine Rn.weak (ll_s (ll_s (ll_s (ll_s ll_e)))) (RX1_sideTo_l2 hd hR t0 p1 p2 (fun _ e => ?_) hq N (0 : Int32) 0 L32_0 e)
  try dsimp only at e
  refine Rn.n hT 1 (pc' := 30) (L' := [none, none, none, none]) (st' := [.int (-1 : Int32)]) rfl ?_
  obtain rfl := Option.some.inj e
  exact Rn.ret hT rfl rfl rfl (hq (-1 : Int32) L32_m1)
set_option maxRecDepth 10000 in
theorem hX1_canGo : iv_Tb 23 tX1_canGo := iv_tb_of (m := mX1_canGo) rfl
set_option maxRecDepth 10000 in
theorem gX1_canGo : PG.2 23 = some mX1_canGo := iv_pi_of (t := tX1_canGo) rfl (by decide)
def FX1_canGo_b59 (N : Nat) (s : iv_M)  (xs0 : Int) : Option (Int) := (if xs0 = 0 ∨ xs0 = 1 then some xs0 else none)
set_option maxRecDepth 10000 in
set_option maxHeartbeats 4000000 in
theorem RX1_canGo_b59 {d N nc Ls : Nat} {Xs : Nat → Int32} (hd : 1 ≤ d) {h : iv_H} {s : iv_M} (hR : Rep nc Ls Xs h s)  {ms0 : Int32} {xs0 : Int} (ps0 : ms0.toInt = xs0) {r : Int} {Q : Option Value → iv_H → Prop} (hq : ∀ (z : Int32), z.toInt = r → Q (some (.int z)) h) (e : FX1_canGo_b59 N s  xs0 = some r) : Rn d 23 (some .boolean) 59 [none, none, none, none, none] [.int ms0] h Q := by
  have hT := hX1_canGo
  unfold FX1_canGo_b59 at e
  by_cases c_244 : xs0 = 0 ∨ xs0 = 1
  · rw [if_pos c_244] at e
    obtain rfl := Option.some.inj e
    exact Rn.ret hT rfl rfl (if_pos (ti_b ps0 c_244)) (hq ms0 ps0)
  · rw [if_neg c_244] at e
    cases e
def FX1_canGo_b58 (N : Nat) (s : iv_M)   : Option (Int) := (FX1_canGo_b59 N s 0)
set_option maxRecDepth 10000 in
set_option maxHeartbeats 4000000 in
theorem RX1_canGo_b58 {d N nc Ls : Nat} {Xs : Nat → Int32} (hd : 1 ≤ d) {h : iv_H} {s : iv_M} (hR : Rep nc Ls Xs h s)   {r : Int} {Q : Option Value → iv_H → Prop} (hq : ∀ (z : Int32), z.toInt = r → Q (some (.int z)) h) (e : FX1_canGo_b58 N s   = some r) : Rn d 23 (some .boolean) 58 [none, none, none, none, none] [] h Q := by
  have hT := hX1_canGo
  unfold FX1_canGo_b58 at e
  refine Rn.n hT 1 (pc' := 59) (L' := [none, none, none, none, none]) (st' := [.int (0 : Int32)]) rfl ?_
  exact Rn.weak (ll_n (ll_n (ll_n (ll_n (ll_n ll_e))))) (RX1_canGo_b59 hd hR L32_0 hq e)
def FX1_canGo_b88 (N : Nat) (s : iv_M)  (xs0 : Int) : Option (Int) := (if xs0 = 0 ∨ xs0 = 1 then some xs0 else none)
set_option maxRecDepth 10000 in
set_option maxHeartbeats 4000000 in
theorem RX1_canGo_b88 {d N nc Ls : Nat} {Xs : Nat → Int32} (hd : 1 ≤ d) {h : iv_H} {s : iv_M} (hR : Rep nc Ls Xs h s)  {ms0 : Int32} {xs0 : Int} (ps0 : ms0.toInt = xs0) {r : Int} {Q : Option Value → iv_H → Prop} (hq : ∀ (z : Int32), z.toInt = r → Q (some (.int z)) h) (e : FX1_canGo_b88 N s  xs0 = some r) : Rn d 23 (some .boolean) 88 [none, none, none, none, none] [.int ms0] h Q := by
  have hT := hX1_canGo
  unfold FX1_canGo_b88 at e
  by_cases c_245 : xs0 = 0 ∨ xs0 = 1
  · rw [if_pos c_245] at e
    obtain rfl := Option.some.inj e
    exact Rn.ret hT rfl rfl (if_pos (ti_b ps0 c_245)) (hq ms0 ps0)
  · rw [if_neg c_245] at e
    cases e
def FX1_canGo_b83 (N : Nat) (s : iv_M)   : Option (Int) := (FX1_canGo_b88 N s 1)
set_option maxRecDepth 10000 in
set_option maxHeartbeats 4000000 in
theorem RX1_canGo_b83 {d N nc Ls : Nat} {Xs : Nat → Int32} (hd : 1 ≤ d) {h : iv_H} {s : iv_M} (hR : Rep nc Ls Xs h s)   {r : Int} {Q : Option Value → iv_H → Prop} (hq : ∀ (z : Int32), z.toInt = r → Q (some (.int z)) h) (e : FX1_canGo_b83 N s   = some r) : Rn d 23 (some .boolean) 83 [none, none, none, none, none] [] h Q := by
  have hT := hX1_canGo
  unfold FX1_canGo_b83 at e
  refine Rn.n hT 2 (pc' := 88) (L' := [none, none, none, none, none]) (st' := [.int (1 : Int32)]) rfl ?_
  exact Rn.weak (ll_n (ll_n (ll_n (ll_n (ll_n ll_e))))) (RX1_canGo_b88 hd hR L32_1 hq e)
def FX1_canGo (N : Nat) (s : iv_M) (q0 : Nat) (x1 : Int) : Option (Int) := ((rd s (q0 + 1) 12 (bAn (sr32 x1 4) 15)).bind fun v_234 => (if (sr32 x1 8) = 1 then ((rd s (q0 + 6) 64 (w32 ((w32 (4 * v_234)) + (bAn x1 15)))).bind fun v_240 => (if v_240 = (-1) then (FX1_canGo_b58 N s) else ((rd s (q0 + 3) 16 v_240).bind fun v_242 => (if v_242 = (-1) then (FX1_canGo_b59 N s 1) else (FX1_canGo_b58 N s))))) else (if (sr32 x1 8) = 3 then (FX1_canGo_b83 N s) else ((rd s (q0 + 1) 12 (bAn x1 15)).bind fun v_237 => ((FX1_sideTo N s q0 v_234 v_237).bind fun v_238 => (if v_238 = (-1) then (FX1_canGo_b88 N s 0) else (FX1_canGo_b83 N s)))))))
set_option maxRecDepth 10000 in
set_option maxHeartbeats 4000000 in
theorem RX1_canGo {d N nc Ls : Nat} {Xs : Nat → Int32} (hd : 2 ≤ d) {h : iv_H} {s : iv_M} (hR : Rep nc Ls Xs h s) {q0 : Nat} (t0 : T1 nc q0) {m1 : Int32} {x1 : Int} (p1 : m1.toInt = x1) {r : Int} {Q : Option Value → iv_H → Prop} (e : FX1_canGo N s q0 x1 = some r) (hq : ∀ (z : Int32), z.toInt = r → Q (some (.int z)) h) : Cl d 23 [.ref q0, .int m1] h Q := by
  obtain ⟨d, rfl⟩ : ∃ k, d = k + 1 := ⟨d - 1, by omega⟩
  have hd : 1 ≤ d := by omega
  have hT := hX1_canGo
  unfold FX1_canGo at e
  refine Cl.into (by decide) gX1_canGo rfl ?_
  show Rn d 23 (some .boolean) 0 [some (.ref q0), some (.int m1), none, none, none] [] h Q
  refine Rn.n hT 1 (pc' := 1) (L' := [some (.ref q0), some (.int m1), none, none, none]) (st' := [.ref q0]) rfl ?_
  refine Rn.hp hT rfl rfl (gR_hp (rp_gR hR (T1_o t0) rfl)) ?_
  refine Rn.n hT 5 (pc' := 10) (L' := [some (.ref q0), some (.int m1), none, none, none]) (st' := [.int ((m1 >>> ((4 : Int32) &&& 31)) &&& (15 : Int32)), .ref (q0 + 1)]) rfl ?_
  obtain ⟨v_234, e_234, e⟩ := Option.bind_eq_some_iff.mp e
  obtain ⟨z_234, g_234, p_234⟩ := rp_aI hR (T1_5 t0) (T1_5l t0) (ti_and (ti_shr p1 L32_4) L32_15) e_234
  refine Rn.hp hT rfl rfl (aI_hp g_234) ?_
  refine Rn.n hT 9 (pc' := 22) (L' := [some (.ref q0), some (.int m1), some (.int z_234), some (.int (m1 &&& (15 : Int32))), none]) (st' := [.int (1 : Int32), .int (m1 >>> ((8 : Int32) &&& 31))]) rfl ?_
  by_cases c_235 : (sr32 x1 8) = 1
  · rw [if_pos c_235] at e
    refine Rn.bf hT rfl rfl rfl (decide_eq_false (fun z => z ((ti_e (ti_shr p1 L32_8) L32_1).mpr c_235))) ?_
    refine Rn.n hT 1 (pc' := 26) (L' := [some (.ref q0), some (.int m1), some (.int z_234), some (.int (m1 &&& (15 : Int32))), none]) (st' := [.ref q0]) rfl ?_
    refine Rn.hp hT rfl rfl (gR_hp (rp_gR hR (T1_o t0) rfl)) ?_
    refine Rn.n hT 5 (pc' := 34) (L' := [some (.ref q0), some (.int m1), some (.int z_234), some (.int (m1 &&& (15 : Int32))), none]) (st' := [.int (((4 : Int32) * z_234) + (m1 &&& (15 : Int32))), .ref (q0 + 6)]) rfl ?_
    obtain ⟨v_240, e_240, e⟩ := Option.bind_eq_some_iff.mp e
    obtain ⟨z_240, g_240, p_240⟩ := rp_aI hR (T1_10 t0) (T1_10l t0) (ti_add (ti_mul L32_4 p_234) (ti_and p1 L32_15)) e_240
    refine Rn.hp hT rfl rfl (aI_hp g_240) ?_
    refine Rn.n hT 3 (pc' := 40) (L' := [some (.ref q0), some (.int m1), some (.int z_234), some (.int (m1 &&& (15 : Int32))), some (.int z_240)]) (st' := [.int (-1 : Int32), .int z_240]) rfl ?_
    by_cases c_241 : v_240 = (-1)
    · rw [if_pos c_241] at e
      refine Rn.bt hT rfl rfl rfl (decide_eq_true ((ti_e p_240 L32_m1).mpr c_241)) ?_
      exact Rn.weak (ll_n (ll_n (ll_n (ll_n (ll_n ll_e))))) (RX1_canGo_b58 hd hR hq e)
    · rw [if_neg c_241] at e
      refine Rn.bf hT rfl rfl rfl (decide_eq_false (fun z => c_241 ((ti_e p_240 L32_m1).mp z))) ?_
      refine Rn.n hT 1 (pc' := 44) (L' := [some (.ref q0), some (.int m1), some (.int z_234), some (.int (m1 &&& (15 : Int32))), some (.int z_240)]) (st' := [.ref q0]) rfl ?_
      refine Rn.hp hT rfl rfl (gR_hp (rp_gR hR (T1_o t0) rfl)) ?_
      refine Rn.n hT 1 (pc' := 49) (L' := [some (.ref q0), some (.int m1), some (.int z_234), some (.int (m1 &&& (15 : Int32))), some (.int z_240)]) (st' := [.int z_240, .ref (q0 + 3)]) rfl ?_
      obtain ⟨v_242, e_242, e⟩ := Option.bind_eq_some_iff.mp e
      obtain ⟨z_242, g_242, p_242⟩ := rp_aI hR (T1_7 t0) (T1_7l t0) p_240 e_242
      refine Rn.hp hT rfl rfl (aI_hp g_242) ?_
      refine Rn.n hT 1 (pc' := 51) (L' := [some (.ref q0), some (.int m1), some (.int z_234), some (.int (m1 &&& (15 : Int32))), some (.int z_240)]) (st' := [.int (-1 : Int32), .int z_242]) rfl ?_
      by_cases c_243 : v_242 = (-1)
      · rw [if_pos c_243] at e
        refine Rn.bf hT rfl rfl rfl (decide_eq_false (fun z => z ((ti_e p_242 L32_m1).mpr c_243))) ?_
        refine Rn.n hT 2 (pc' := 59) (L' := [some (.ref q0), some (.int m1), some (.int z_234), some (.int (m1 &&& (15 : Int32))), some (.int z_240)]) (st' := [.int (1 : Int32)]) rfl ?_
        exact Rn.weak (ll_n (ll_n (ll_n (ll_n (ll_n ll_e))))) (RX1_canGo_b59 hd hR L32_1 hq e)
      · rw [if_neg c_243] at e
        refine Rn.bt hT rfl rfl rfl (decide_eq_true (fun z => c_243 ((ti_e p_242 L32_m1).mp z))) ?_
        exact Rn.weak (ll_n (ll_n (ll_n (ll_n (ll_n ll_e))))) (RX1_canGo_b58 hd hR hq e)
  · rw [if_neg c_235] at e
    refine Rn.bt hT rfl rfl rfl (decide_eq_true (fun z => c_235 ((ti_e (ti_shr p1 L32_8) L32_1).mp z))) ?_
    refine Rn.n hT 4 (pc' := 65) (L' := [some (.ref q0), some (.int m1), some (.int z_234), some (.int (m1 &&& (15 : Int32))), none]) (st' := [.int (3 : Int32), .int (m1 >>> ((8 : Int32) &&& 31))]) rfl ?_
    by_cases c_236 : (sr32 x1 8) = 3
    · rw [if_pos c_236] at e
      refine Rn.bt hT rfl rfl rfl (decide_eq_true ((ti_e (ti_shr p1 L32_8) L32_3).mpr c_236)) ?_
      exact Rn.weak (ll_n (ll_n (ll_n (ll_n (ll_n ll_e))))) (RX1_canGo_b83 hd hR hq e)
    · rw [if_neg c_236] at e
      refine Rn.bf hT rfl rfl rfl (decide_eq_false (fun z => c_236 ((ti_e (ti_shr p1 L32_8) L32_3).mp z))) ?_
      refine Rn.n hT 3 (pc' := 71) (L' := [some (.ref q0), some (.int m1), some (.int z_234), some (.int (m1 &&& (15 : Int32))), none]) (st' := [.ref q0, .int z_234, .ref q0]) rfl ?_
      refine Rn.hp hT rfl rfl (gR_hp (rp_gR hR (T1_o t0) rfl)) ?_
      refine Rn.n hT 1 (pc' := 75) (L' := [some (.ref q0), some (.int m1), some (.int z_234), some (.int (m1 &&& (15 : Int32))), none]) (st' := [.int (m1 &&& (15 : Int32)), .ref (q0 + 1), .int z_234, .ref q0]) rfl ?_
      obtain ⟨v_237, e_237, e⟩ := Option.bind_eq_some_iff.mp e
      obtain ⟨z_237, g_237, p_237⟩ := rp_aI hR (T1_5 t0) (T1_5l t0) (ti_and p1 L32_15) e_237
      refine Rn.hp hT rfl rfl (aI_hp g_237) ?_
      obtain ⟨v_238, e_238, e⟩ := Option.bind_eq_some_iff.mp e
      refine Rn.call hT rfl rfl rfl (Nat.le_of_ble_eq_true rfl) (rcv_v gX1_sideTo (by omega) (rp_ck hR (T1_o t0))) (RX1_sideTo (by omega) hR t0 p_234 p_237 e_238 (fun z_238 p_238 => ?_))
      show Rn d _ _ 79 [some (.ref q0), some (.int m1), some (.int z_234), some (.int (m1 &&& (15 : Int32))), none] [.int z_238] h Q
      refine Rn.n hT 1 (pc' := 80) (L' := [some (.ref q0), some (.int m1), some (.int z_234), some (.int (m1 &&& (15 : Int32))), none]) (st' := [.int (-1 : Int32), .int z_238]) rfl ?_
      by_cases c_239 : v_238 = (-1)
      · rw [if_pos c_239] at e
        refine Rn.bt hT rfl rfl rfl (decide_eq_true ((ti_e p_238 L32_m1).mpr c_239)) ?_
        refine Rn.n hT 1 (pc' := 88) (L' := [some (.ref q0), some (.int m1), some (.int z_234), some (.int (m1 &&& (15 : Int32))), none]) (st' := [.int (0 : Int32)]) rfl ?_
        exact Rn.weak (ll_n (ll_n (ll_n (ll_n (ll_n ll_e))))) (RX1_canGo_b88 hd hR L32_0 hq e)
      · rw [if_neg c_239] at e
        refine Rn.bf hT rfl rfl rfl (decide_eq_false (fun z => c_239 ((ti_e p_238 L32_m1).mp z))) ?_
        exact Rn.weak (ll_n (ll_n (ll_n (ll_n (ll_n ll_e))))) (RX1_canGo_b83 hd hR hq e)
set_option maxRecDepth 10000 in
theorem hX1_stir : iv_Tb 26 tX1_stir := iv_tb_of (m := mX1_stir) rfl
set_option maxRecDepth 10000 in
theorem gX1_stir : PG.2 26 = some mX1_stir := iv_pi_of (t := tX1_stir) rfl (by decide)
def FX1_stir_b154 (N : Nat) (s : iv_M)   : Option (iv_M) := some s
set_option maxRecDepth 10000 in
set_option maxHeartbeats 4000000 in
theorem RX1_stir_b154 {d N nc Ls : Nat} {Xs : Nat → Int32} (hd : 1 ≤ d) {h : iv_H} {s : iv_M} (hR : Rep nc Ls Xs h s)   {r : iv_M} {Q : Option Value → iv_H → Prop} (hq : ∀ h1, Rep nc Ls Xs h1 r → Q none h1) (e : FX1_stir_b154 N s   = some r) : Rn d 26 none 154 [none, none, none, none, none, none, none] [] h Q := by
  have hT := hX1_stir
  unfold FX1_stir_b154 at e
  obtain rfl := Option.some.inj e
  exact Rn.ret hT rfl rfl rfl (hq h hR)
def FX1_stir_b48 (N : Nat) (s : iv_M)  (xs0 : Int) (xs1 : Int) (xs2 : Int) (xs3 : Int) (qs4 : Nat) : Option (iv_M) := ((FX1_put N s qs4 xs3 xs2 (bAn (w32 (xs1 + xs0)) 3)).bind fun s_260 => (FX1_stir_b154 N s_260))
set_option maxRecDepth 10000 in
set_option maxHeartbeats 4000000 in
theorem RX1_stir_b48 {d N nc Ls : Nat} {Xs : Nat → Int32} (hd : 1 ≤ d) {h : iv_H} {s : iv_M} (hR : Rep nc Ls Xs h s)  {ms0 : Int32} {xs0 : Int} (ps0 : ms0.toInt = xs0) {ms1 : Int32} {xs1 : Int} (ps1 : ms1.toInt = xs1) {ms2 : Int32} {xs2 : Int} (ps2 : ms2.toInt = xs2) {ms3 : Int32} {xs3 : Int} (ps3 : ms3.toInt = xs3) {qs4 : Nat} (ts4 : T1 nc qs4) {r : iv_M} {Q : Option Value → iv_H → Prop} (hq : ∀ h1, Rep nc Ls Xs h1 r → Q none h1) (e : FX1_stir_b48 N s  xs0 xs1 xs2 xs3 qs4 = some r) : Rn d 26 none 48 [none, none, none, none, none, none, none] [.int ms0, .int ms1, .int ms2, .int ms3, .ref qs4] h Q := by
  have hT := hX1_stir
  unfold FX1_stir_b48 at e
  refine Rn.n hT 3 (pc' := 51) (L' := [none, none, none, none, none, none, none]) (st' := [.int ((ms1 + ms0) &&& (3 : Int32)), .int ms2, .int ms3, .ref qs4]) rfl ?_
  obtain ⟨s_260, e_259, e⟩ := Option.bind_eq_some_iff.mp e
  refine Rn.call hT rfl rfl rfl (Nat.le_of_ble_eq_true rfl) (rcv_v gX1_put (by omega) (rp_ck hR (T1_o ts4))) (RX1_put (by omega) hR ts4 ps3 ps2 (ti_and (ti_add ps1 ps0) L32_3) e_259 (fun h_260 R_260 => ?_))
  show Rn d _ _ 54 [none, none, none, none, none, none, none] [] h_260 Q
  refine Rn.n hT 1 (pc' := 154) (L' := [none, none, none, none, none, none, none]) (st' := []) rfl ?_
  exact Rn.weak (ll_n (ll_n (ll_n (ll_n (ll_n (ll_n (ll_n ll_e))))))) (RX1_stir_b154 hd R_260 hq e)
def FX1_stir_b126 (N : Nat) (s : iv_M) (q0 : Nat) (x3 : Int) (xs0 : Int) (xs1 : Int) (qs2 : Nat) : Option (iv_M) := ((rd s qs2 ((sh qs2).2 : Int) (w32 (xs1 + xs0))).bind fun v_261 => (if v_261 = (-1) then (FX1_stir_b154 N s) else ((FX1_take N s q0 x3).bind fun s_264 => ((rd s_264 (q0 + 2) 12 x3).bind fun v_265 => ((FX1_put N s_264 q0 x3 v_261 v_265).bind fun s_267 => (FX1_stir_b154 N s_267))))))
set_option maxRecDepth 10000 in
set_option maxHeartbeats 4000000 in
theorem RX1_stir_b126 {d N nc Ls : Nat} {Xs : Nat → Int32} (hd : 1 ≤ d) {h : iv_H} {s : iv_M} (hR : Rep nc Ls Xs h s) {q0 : Nat} (t0 : T1 nc q0) {m3 : Int32} {x3 : Int} (p3 : m3.toInt = x3) {ms0 : Int32} {xs0 : Int} (ps0 : ms0.toInt = xs0) {ms1 : Int32} {xs1 : Int} (ps1 : ms1.toInt = xs1) {qs2 : Nat} (ts2 : TA 0 nc qs2) {r : iv_M} {Q : Option Value → iv_H → Prop} (hq : ∀ h1, Rep nc Ls Xs h1 r → Q none h1) (e : FX1_stir_b126 N s q0 x3 xs0 xs1 qs2 = some r) : Rn d 26 none 126 [some (.ref q0), none, none, some (.int m3), none, none, none] [.int ms0, .int ms1, .ref qs2] h Q := by
  have hT := hX1_stir
  unfold FX1_stir_b126 at e
  refine Rn.n hT 1 (pc' := 127) (L' := [some (.ref q0), none, none, some (.int m3), none, none, none]) (st' := [.int (ms1 + ms0), .ref qs2]) rfl ?_
  obtain ⟨v_261, e_261, e⟩ := Option.bind_eq_some_iff.mp e
  obtain ⟨z_261, g_261, p_261⟩ := rp_aI hR ts2 rfl (ti_add ps1 ps0) e_261
  refine Rn.hp hT rfl rfl (aI_hp g_261) ?_
  refine Rn.n hT 3 (pc' := 133) (L' := [some (.ref q0), none, none, some (.int m3), none, none, some (.int z_261)]) (st' := [.int (-1 : Int32), .int z_261]) rfl ?_
  by_cases c_262 : v_261 = (-1)
  · rw [if_pos c_262] at e
    refine Rn.bt hT rfl rfl rfl (decide_eq_true ((ti_e p_261 L32_m1).mpr c_262)) ?_
    exact Rn.weak (ll_n (ll_n (ll_n (ll_n (ll_n (ll_n (ll_n ll_e))))))) (RX1_stir_b154 hd hR hq e)
  · rw [if_neg c_262] at e
    refine Rn.bf hT rfl rfl rfl (decide_eq_false (fun z => c_262 ((ti_e p_261 L32_m1).mp z))) ?_
    refine Rn.n hT 2 (pc' := 138) (L' := [some (.ref q0), none, none, some (.int m3), none, none, some (.int z_261)]) (st' := [.int m3, .ref q0]) rfl ?_
    obtain ⟨s_264, e_263, e⟩ := Option.bind_eq_some_iff.mp e
    refine Rn.call hT rfl rfl rfl (Nat.le_of_ble_eq_true rfl) (rcv_v gX1_take (by omega) (rp_ck hR (T1_o t0))) (RX1_take (by omega) hR t0 p3 e_263 (fun h_264 R_264 => ?_))
    show Rn d _ _ 141 [some (.ref q0), none, none, some (.int m3), none, none, some (.int z_261)] [] h_264 Q
    refine Rn.n hT 4 (pc' := 146) (L' := [some (.ref q0), none, none, some (.int m3), none, none, some (.int z_261)]) (st' := [.ref q0, .int z_261, .int m3, .ref q0]) rfl ?_
    refine Rn.hp hT rfl rfl (gR_hp (rp_gR R_264 (T1_o t0) rfl)) ?_
    refine Rn.n hT 1 (pc' := 150) (L' := [some (.ref q0), none, none, some (.int m3), none, none, some (.int z_261)]) (st' := [.int m3, .ref (q0 + 2), .int z_261, .int m3, .ref q0]) rfl ?_
    obtain ⟨v_265, e_265, e⟩ := Option.bind_eq_some_iff.mp e
    obtain ⟨z_265, g_265, p_265⟩ := rp_aI R_264 (T1_6 t0) (T1_6l t0) p3 e_265
    refine Rn.hp hT rfl rfl (aI_hp g_265) ?_
    obtain ⟨s_267, e_266, e⟩ := Option.bind_eq_some_iff.mp e
    refine Rn.call hT rfl rfl rfl (Nat.le_of_ble_eq_true rfl) (rcv_v gX1_put (by omega) (rp_ck R_264 (T1_o t0))) (RX1_put (by omega) R_264 t0 p3 p_261 p_265 e_266 (fun h_267 R_267 => ?_))
    show Rn d _ _ 154 [some (.ref q0), none, none, some (.int m3), none, none, some (.int z_261)] [] h_267 Q
    exact Rn.weak (ll_n (ll_n (ll_n (ll_n (ll_n (ll_n (ll_n ll_e))))))) (RX1_stir_b154 hd R_267 hq e)
def FX1_stir (N : Nat) (s : iv_M) (q0 : Nat) (x1 : Int) (x2 : Int) : Option (iv_M) := ((rd s (q0 + 1) 12 (bAn (sr32 x1 4) 15)).bind fun v_246 => (if (sr32 x1 8) = 3 then ((rd s (q0 + 2) 12 (bAn (sr32 x1 4) 15)).bind fun v_257 => (if x2 = 0 then (FX1_stir_b48 N s 3 v_257 v_246 (bAn (sr32 x1 4) 15) q0) else (FX1_stir_b48 N s 1 v_257 v_246 (bAn (sr32 x1 4) 15) q0))) else (if (sr32 x1 8) = 2 then ((rd s (q0 + 1) 12 (bAn x1 15)).bind fun v_250 => ((rd s (q0 + 2) 12 (bAn (sr32 x1 4) 15)).bind fun v_251 => ((FX1_put N s q0 (bAn (sr32 x1 4) 15) v_250 v_251).bind fun s_253 => ((rd s_253 (q0 + 2) 12 (bAn x1 15)).bind fun v_254 => ((FX1_put N s_253 q0 (bAn x1 15) v_246 v_254).bind fun s_256 => (FX1_stir_b154 N s_256)))))) else (if x2 = 0 then (FX1_stir_b126 N s q0 (bAn (sr32 x1 4) 15) (bXo (bAn x1 15) 2) (w32 (4 * v_246)) (q0 + 6)) else (FX1_stir_b126 N s q0 (bAn (sr32 x1 4) 15) (bAn x1 15) (w32 (4 * v_246)) (q0 + 6))))))
set_option maxRecDepth 10000 in
set_option maxHeartbeats 4000000 in
theorem RX1_stir {d N nc Ls : Nat} {Xs : Nat → Int32} (hd : 2 ≤ d) {h : iv_H} {s : iv_M} (hR : Rep nc Ls Xs h s) {q0 : Nat} (t0 : T1 nc q0) {m1 : Int32} {x1 : Int} (p1 : m1.toInt = x1) {m2 : Int32} {x2 : Int} (p2 : m2.toInt = x2) {r : iv_M} {Q : Option Value → iv_H → Prop} (e : FX1_stir N s q0 x1 x2 = some r) (hq : ∀ h1, Rep nc Ls Xs h1 r → Q none h1) : Cl d 26 [.ref q0, .int m1, .int m2] h Q := by
  obtain ⟨d, rfl⟩ : ∃ k, d = k + 1 := ⟨d - 1, by omega⟩
  have hd : 1 ≤ d := by omega
  have hT := hX1_stir
  unfold FX1_stir at e
  refine Cl.into (by decide) gX1_stir rfl ?_
  show Rn d 26 none 0 [some (.ref q0), some (.int m1), some (.int m2), none, none, none, none] [] h Q
  refine Rn.n hT 11 (pc' := 14) (L' := [some (.ref q0), some (.int m1), some (.int m2), some (.int ((m1 >>> ((4 : Int32) &&& 31)) &&& (15 : Int32))), some (.int (m1 &&& (15 : Int32))), none, none]) (st' := [.ref q0]) rfl ?_
  refine Rn.hp hT rfl rfl (gR_hp (rp_gR hR (T1_o t0) rfl)) ?_
  refine Rn.n hT 1 (pc' := 18) (L' := [some (.ref q0), some (.int m1), some (.int m2), some (.int ((m1 >>> ((4 : Int32) &&& 31)) &&& (15 : Int32))), some (.int (m1 &&& (15 : Int32))), none, none]) (st' := [.int ((m1 >>> ((4 : Int32) &&& 31)) &&& (15 : Int32)), .ref (q0 + 1)]) rfl ?_
  obtain ⟨v_246, e_246, e⟩ := Option.bind_eq_some_iff.mp e
  obtain ⟨z_246, g_246, p_246⟩ := rp_aI hR (T1_5 t0) (T1_5l t0) (ti_and (ti_shr p1 L32_4) L32_15) e_246
  refine Rn.hp hT rfl rfl (aI_hp g_246) ?_
  refine Rn.n hT 5 (pc' := 26) (L' := [some (.ref q0), some (.int m1), some (.int m2), some (.int ((m1 >>> ((4 : Int32) &&& 31)) &&& (15 : Int32))), some (.int (m1 &&& (15 : Int32))), some (.int z_246), none]) (st' := [.int (3 : Int32), .int (m1 >>> ((8 : Int32) &&& 31))]) rfl ?_
  by_cases c_247 : (sr32 x1 8) = 3
  · rw [if_pos c_247] at e
    refine Rn.bf hT rfl rfl rfl (decide_eq_false (fun z => z ((ti_e (ti_shr p1 L32_8) L32_3).mpr c_247))) ?_
    refine Rn.n hT 4 (pc' := 34) (L' := [some (.ref q0), some (.int m1), some (.int m2), some (.int ((m1 >>> ((4 : Int32) &&& 31)) &&& (15 : Int32))), some (.int (m1 &&& (15 : Int32))), some (.int z_246), none]) (st' := [.ref q0, .int z_246, .int ((m1 >>> ((4 : Int32) &&& 31)) &&& (15 : Int32)), .ref q0]) rfl ?_
    refine Rn.hp hT rfl rfl (gR_hp (rp_gR hR (T1_o t0) rfl)) ?_
    refine Rn.n hT 1 (pc' := 38) (L' := [some (.ref q0), some (.int m1), some (.int m2), some (.int ((m1 >>> ((4 : Int32) &&& 31)) &&& (15 : Int32))), some (.int (m1 &&& (15 : Int32))), some (.int z_246), none]) (st' := [.int ((m1 >>> ((4 : Int32) &&& 31)) &&& (15 : Int32)), .ref (q0 + 2), .int z_246, .int ((m1 >>> ((4 : Int32) &&& 31)) &&& (15 : Int32)), .ref q0]) rfl ?_
    obtain ⟨v_257, e_257, e⟩ := Option.bind_eq_some_iff.mp e
    obtain ⟨z_257, g_257, p_257⟩ := rp_aI hR (T1_6 t0) (T1_6l t0) (ti_and (ti_shr p1 L32_4) L32_15) e_257
    refine Rn.hp hT rfl rfl (aI_hp g_257) ?_
    refine Rn.n hT 1 (pc' := 40) (L' := [some (.ref q0), some (.int m1), some (.int m2), some (.int ((m1 >>> ((4 : Int32) &&& 31)) &&& (15 : Int32))), some (.int (m1 &&& (15 : Int32))), some (.int z_246), none]) (st' := [.int m2, .int z_257, .int z_246, .int ((m1 >>> ((4 : Int32) &&& 31)) &&& (15 : Int32)), .ref q0]) rfl ?_
    by_cases c_258 : x2 = 0
    · rw [if_pos c_258] at e
      refine Rn.bt hT rfl rfl rfl (decide_eq_true ((ti_e p2 L32_0).mpr c_258)) ?_
      refine Rn.n hT 1 (pc' := 48) (L' := [some (.ref q0), some (.int m1), some (.int m2), some (.int ((m1 >>> ((4 : Int32) &&& 31)) &&& (15 : Int32))), some (.int (m1 &&& (15 : Int32))), some (.int z_246), none]) (st' := [.int (3 : Int32), .int z_257, .int z_246, .int ((m1 >>> ((4 : Int32) &&& 31)) &&& (15 : Int32)), .ref q0]) rfl ?_
      exact Rn.weak (ll_n (ll_n (ll_n (ll_n (ll_n (ll_n (ll_n ll_e))))))) (RX1_stir_b48 hd hR L32_3 p_257 p_246 (ti_and (ti_shr p1 L32_4) L32_15) t0 hq e)
    · rw [if_neg c_258] at e
      refine Rn.bf hT rfl rfl rfl (decide_eq_false (fun z => c_258 ((ti_e p2 L32_0).mp z))) ?_
      refine Rn.n hT 2 (pc' := 48) (L' := [some (.ref q0), some (.int m1), some (.int m2), some (.int ((m1 >>> ((4 : Int32) &&& 31)) &&& (15 : Int32))), some (.int (m1 &&& (15 : Int32))), some (.int z_246), none]) (st' := [.int (1 : Int32), .int z_257, .int z_246, .int ((m1 >>> ((4 : Int32) &&& 31)) &&& (15 : Int32)), .ref q0]) rfl ?_
      exact Rn.weak (ll_n (ll_n (ll_n (ll_n (ll_n (ll_n (ll_n ll_e))))))) (RX1_stir_b48 hd hR L32_1 p_257 p_246 (ti_and (ti_shr p1 L32_4) L32_15) t0 hq e)
  · rw [if_neg c_247] at e
    refine Rn.bt hT rfl rfl rfl (decide_eq_true (fun z => c_247 ((ti_e (ti_shr p1 L32_8) L32_3).mp z))) ?_
    refine Rn.n hT 4 (pc' := 62) (L' := [some (.ref q0), some (.int m1), some (.int m2), some (.int ((m1 >>> ((4 : Int32) &&& 31)) &&& (15 : Int32))), some (.int (m1 &&& (15 : Int32))), some (.int z_246), none]) (st' := [.int (2 : Int32), .int (m1 >>> ((8 : Int32) &&& 31))]) rfl ?_
    by_cases c_248 : (sr32 x1 8) = 2
    · rw [if_pos c_248] at e
      refine Rn.bf hT rfl rfl rfl (decide_eq_false (fun z => z ((ti_e (ti_shr p1 L32_8) L32_2).mpr c_248))) ?_
      refine Rn.n hT 1 (pc' := 66) (L' := [some (.ref q0), some (.int m1), some (.int m2), some (.int ((m1 >>> ((4 : Int32) &&& 31)) &&& (15 : Int32))), some (.int (m1 &&& (15 : Int32))), some (.int z_246), none]) (st' := [.ref q0]) rfl ?_
      refine Rn.hp hT rfl rfl (gR_hp (rp_gR hR (T1_o t0) rfl)) ?_
      refine Rn.n hT 1 (pc' := 71) (L' := [some (.ref q0), some (.int m1), some (.int m2), some (.int ((m1 >>> ((4 : Int32) &&& 31)) &&& (15 : Int32))), some (.int (m1 &&& (15 : Int32))), some (.int z_246), none]) (st' := [.int (m1 &&& (15 : Int32)), .ref (q0 + 1)]) rfl ?_
      obtain ⟨v_250, e_250, e⟩ := Option.bind_eq_some_iff.mp e
      obtain ⟨z_250, g_250, p_250⟩ := rp_aI hR (T1_5 t0) (T1_5l t0) (ti_and p1 L32_15) e_250
      refine Rn.hp hT rfl rfl (aI_hp g_250) ?_
      refine Rn.n hT 5 (pc' := 79) (L' := [some (.ref q0), some (.int m1), some (.int m2), some (.int ((m1 >>> ((4 : Int32) &&& 31)) &&& (15 : Int32))), some (.int (m1 &&& (15 : Int32))), some (.int z_246), some (.int z_250)]) (st' := [.ref q0, .int z_250, .int ((m1 >>> ((4 : Int32) &&& 31)) &&& (15 : Int32)), .ref q0]) rfl ?_
      refine Rn.hp hT rfl rfl (gR_hp (rp_gR hR (T1_o t0) rfl)) ?_
      refine Rn.n hT 1 (pc' := 83) (L' := [some (.ref q0), some (.int m1), some (.int m2), some (.int ((m1 >>> ((4 : Int32) &&& 31)) &&& (15 : Int32))), some (.int (m1 &&& (15 : Int32))), some (.int z_246), some (.int z_250)]) (st' := [.int ((m1 >>> ((4 : Int32) &&& 31)) &&& (15 : Int32)), .ref (q0 + 2), .int z_250, .int ((m1 >>> ((4 : Int32) &&& 31)) &&& (15 : Int32)), .ref q0]) rfl ?_
      obtain ⟨v_251, e_251, e⟩ := Option.bind_eq_some_iff.mp e
      obtain ⟨z_251, g_251, p_251⟩ := rp_aI hR (T1_6 t0) (T1_6l t0) (ti_and (ti_shr p1 L32_4) L32_15) e_251
      refine Rn.hp hT rfl rfl (aI_hp g_251) ?_
      obtain ⟨s_253, e_252, e⟩ := Option.bind_eq_some_iff.mp e
      refine Rn.call hT rfl rfl rfl (Nat.le_of_ble_eq_true rfl) (rcv_v gX1_put (by omega) (rp_ck hR (T1_o t0))) (RX1_put (by omega) hR t0 (ti_and (ti_shr p1 L32_4) L32_15) p_250 p_251 e_252 (fun h_253 R_253 => ?_))
      show Rn d _ _ 87 [some (.ref q0), some (.int m1), some (.int m2), some (.int ((m1 >>> ((4 : Int32) &&& 31)) &&& (15 : Int32))), some (.int (m1 &&& (15 : Int32))), some (.int z_246), some (.int z_250)] [] h_253 Q
      refine Rn.n hT 4 (pc' := 93) (L' := [some (.ref q0), some (.int m1), some (.int m2), some (.int ((m1 >>> ((4 : Int32) &&& 31)) &&& (15 : Int32))), some (.int (m1 &&& (15 : Int32))), some (.int z_246), some (.int z_250)]) (st' := [.ref q0, .int z_246, .int (m1 &&& (15 : Int32)), .ref q0]) rfl ?_
      refine Rn.hp hT rfl rfl (gR_hp (rp_gR R_253 (T1_o t0) rfl)) ?_
      refine Rn.n hT 1 (pc' := 98) (L' := [some (.ref q0), some (.int m1), some (.int m2), some (.int ((m1 >>> ((4 : Int32) &&& 31)) &&& (15 : Int32))), some (.int (m1 &&& (15 : Int32))), some (.int z_246), some (.int z_250)]) (st' := [.int (m1 &&& (15 : Int32)), .ref (q0 + 2), .int z_246, .int (m1 &&& (15 : Int32)), .ref q0]) rfl ?_
      obtain ⟨v_254, e_254, e⟩ := Option.bind_eq_some_iff.mp e
      obtain ⟨z_254, g_254, p_254⟩ := rp_aI R_253 (T1_6 t0) (T1_6l t0) (ti_and p1 L32_15) e_254
      refine Rn.hp hT rfl rfl (aI_hp g_254) ?_
      obtain ⟨s_256, e_255, e⟩ := Option.bind_eq_some_iff.mp e
      refine Rn.call hT rfl rfl rfl (Nat.le_of_ble_eq_true rfl) (rcv_v gX1_put (by omega) (rp_ck R_253 (T1_o t0))) (RX1_put (by omega) R_253 t0 (ti_and p1 L32_15) p_246 p_254 e_255 (fun h_256 R_256 => ?_))
      show Rn d _ _ 102 [some (.ref q0), some (.int m1), some (.int m2), some (.int ((m1 >>> ((4 : Int32) &&& 31)) &&& (15 : Int32))), some (.int (m1 &&& (15 : Int32))), some (.int z_246), some (.int z_250)] [] h_256 Q
      refine Rn.n hT 1 (pc' := 154) (L' := [some (.ref q0), some (.int m1), some (.int m2), some (.int ((m1 >>> ((4 : Int32) &&& 31)) &&& (15 : Int32))), some (.int (m1 &&& (15 : Int32))), some (.int z_246), some (.int z_250)]) (st' := []) rfl ?_
      exact Rn.weak (ll_n (ll_n (ll_n (ll_n (ll_n (ll_n (ll_n ll_e))))))) (RX1_stir_b154 hd R_256 hq e)
    · rw [if_neg c_248] at e
      refine Rn.bt hT rfl rfl rfl (decide_eq_true (fun z => c_248 ((ti_e (ti_shr p1 L32_8) L32_2).mp z))) ?_
      refine Rn.n hT 1 (pc' := 106) (L' := [some (.ref q0), some (.int m1), some (.int m2), some (.int ((m1 >>> ((4 : Int32) &&& 31)) &&& (15 : Int32))), some (.int (m1 &&& (15 : Int32))), some (.int z_246), none]) (st' := [.ref q0]) rfl ?_
      refine Rn.hp hT rfl rfl (gR_hp (rp_gR hR (T1_o t0) rfl)) ?_
      refine Rn.n hT 4 (pc' := 114) (L' := [some (.ref q0), some (.int m1), some (.int m2), some (.int ((m1 >>> ((4 : Int32) &&& 31)) &&& (15 : Int32))), some (.int (m1 &&& (15 : Int32))), some (.int z_246), none]) (st' := [.int m2, .int ((4 : Int32) * z_246), .ref (q0 + 6)]) rfl ?_
      by_cases c_249 : x2 = 0
      · rw [if_pos c_249] at e
        refine Rn.bt hT rfl rfl rfl (decide_eq_true ((ti_e p2 L32_0).mpr c_249)) ?_
        refine Rn.n hT 3 (pc' := 126) (L' := [some (.ref q0), some (.int m1), some (.int m2), some (.int ((m1 >>> ((4 : Int32) &&& 31)) &&& (15 : Int32))), some (.int (m1 &&& (15 : Int32))), some (.int z_246), none]) (st' := [.int ((m1 &&& (15 : Int32)) ^^^ (2 : Int32)), .int ((4 : Int32) * z_246), .ref (q0 + 6)]) rfl ?_
        exact Rn.weak (ll_s (ll_n (ll_n (ll_s (ll_n (ll_n (ll_n ll_e))))))) (RX1_stir_b126 hd hR t0 (ti_and (ti_shr p1 L32_4) L32_15) (ti_xor (ti_and p1 L32_15) L32_2) (ti_mul L32_4 p_246) (T1_10 t0) hq e)
      · rw [if_neg c_249] at e
        refine Rn.bf hT rfl rfl rfl (decide_eq_false (fun z => c_249 ((ti_e p2 L32_0).mp z))) ?_
        refine Rn.n hT 2 (pc' := 126) (L' := [some (.ref q0), some (.int m1), some (.int m2), some (.int ((m1 >>> ((4 : Int32) &&& 31)) &&& (15 : Int32))), some (.int (m1 &&& (15 : Int32))), some (.int z_246), none]) (st' := [.int (m1 &&& (15 : Int32)), .int ((4 : Int32) * z_246), .ref (q0 + 6)]) rfl ?_
        exact Rn.weak (ll_s (ll_n (ll_n (ll_s (ll_n (ll_n (ll_n ll_e))))))) (RX1_stir_b126 hd hR t0 (ti_and (ti_shr p1 L32_4) L32_15) (ti_and p1 L32_15) (ti_mul L32_4 p_246) (T1_10 t0) hq e)
set_option maxRecDepth 10000 in
theorem hX1_go : iv_Tb 24 tX1_go := iv_tb_of (m := mX1_go) rfl
set_option maxRecDepth 10000 in
theorem gX1_go : PG.2 24 = some mX1_go := iv_pi_of (t := tX1_go) rfl (by decide)
def FX1_go (N : Nat) (s : iv_M) (q0 : Nat) (x1 : Int) : Option (iv_M) := ((FX1_stir N s q0 x1 1).bind fun s_269 => some s_269)
set_option maxRecDepth 10000 in
set_option maxHeartbeats 4000000 in
theorem RX1_go {d N nc Ls : Nat} {Xs : Nat → Int32} (hd : 3 ≤ d) {h : iv_H} {s : iv_M} (hR : Rep nc Ls Xs h s) {q0 : Nat} (t0 : T1 nc q0) {m1 : Int32} {x1 : Int} (p1 : m1.toInt = x1) {r : iv_M} {Q : Option Value → iv_H → Prop} (e : FX1_go N s q0 x1 = some r) (hq : ∀ h1, Rep nc Ls Xs h1 r → Q none h1) : Cl d 24 [.ref q0, .int m1] h Q := by
  obtain ⟨d, rfl⟩ : ∃ k, d = k + 1 := ⟨d - 1, by omega⟩
  have hd : 2 ≤ d := by omega
  have hT := hX1_go
  unfold FX1_go at e
  refine Cl.into (by decide) gX1_go rfl ?_
  show Rn d 24 none 0 [some (.ref q0), some (.int m1)] [] h Q
  refine Rn.n hT 3 (pc' := 3) (L' := [some (.ref q0), some (.int m1)]) (st' := [.int (1 : Int32), .int m1, .ref q0]) rfl ?_
  obtain ⟨s_269, e_268, e⟩ := Option.bind_eq_some_iff.mp e
  refine Rn.call hT rfl rfl rfl (Nat.le_of_ble_eq_true rfl) (rcv_v gX1_stir (by omega) (rp_ck hR (T1_o t0))) (RX1_stir (by omega) hR t0 p1 L32_1 e_268 (fun h_269 R_269 => ?_))
  show Rn d _ _ 6 [some (.ref q0), some (.int m1)] [] h_269 Q
  obtain rfl := Option.some.inj e
  exact Rn.ret hT rfl rfl rfl (hq h_269 R_269)
set_option maxRecDepth 10000 in
theorem hX1_goBack : iv_Tb 25 tX1_goBack := iv_tb_of (m := mX1_goBack) rfl
set_option maxRecDepth 10000 in
theorem gX1_goBack : PG.2 25 = some mX1_goBack := iv_pi_of (t := tX1_goBack) rfl (by decide)
def FX1_goBack (N : Nat) (s : iv_M) (q0 : Nat) (x1 : Int) : Option (iv_M) := ((FX1_stir N s q0 x1 0).bind fun s_271 => some s_271)
set_option maxRecDepth 10000 in
set_option maxHeartbeats 4000000 in
theorem RX1_goBack {d N nc Ls : Nat} {Xs : Nat → Int32} (hd : 3 ≤ d) {h : iv_H} {s : iv_M} (hR : Rep nc Ls Xs h s) {q0 : Nat} (t0 : T1 nc q0) {m1 : Int32} {x1 : Int} (p1 : m1.toInt = x1) {r : iv_M} {Q : Option Value → iv_H → Prop} (e : FX1_goBack N s q0 x1 = some r) (hq : ∀ h1, Rep nc Ls Xs h1 r → Q none h1) : Cl d 25 [.ref q0, .int m1] h Q := by
  obtain ⟨d, rfl⟩ : ∃ k, d = k + 1 := ⟨d - 1, by omega⟩
  have hd : 2 ≤ d := by omega
  have hT := hX1_goBack
  unfold FX1_goBack at e
  refine Cl.into (by decide) gX1_goBack rfl ?_
  show Rn d 25 none 0 [some (.ref q0), some (.int m1)] [] h Q
  refine Rn.n hT 3 (pc' := 3) (L' := [some (.ref q0), some (.int m1)]) (st' := [.int (0 : Int32), .int m1, .ref q0]) rfl ?_
  obtain ⟨s_271, e_270, e⟩ := Option.bind_eq_some_iff.mp e
  refine Rn.call hT rfl rfl rfl (Nat.le_of_ble_eq_true rfl) (rcv_v gX1_stir (by omega) (rp_ck hR (T1_o t0))) (RX1_stir (by omega) hR t0 p1 L32_0 e_270 (fun h_271 R_271 => ?_))
  show Rn d _ _ 6 [some (.ref q0), some (.int m1)] [] h_271 Q
  obtain rfl := Option.some.inj e
  exact Rn.ret hT rfl rfl rfl (hq h_271 R_271)
