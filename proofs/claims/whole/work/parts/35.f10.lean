-- FLAT MIRRORS, 10 (written by wip/whole/mir2.py)
set_option maxRecDepth 10000 in
theorem hX12_isAsDrafted : iv_Tb 295 tX12_isAsDrafted := iv_tb_of (m := mX12_isAsDrafted) rfl
set_option maxRecDepth 10000 in
theorem gX12_isAsDrafted : PG.2 295 = some mX12_isAsDrafted := iv_pi_of (t := tX12_isAsDrafted) rfl (by decide)
def FX12_isAsDrafted_b69 (N : Nat) (s : iv_M) (q0 : Nat) (x1 : Int) (x3 : Int) (xs0 : Int) (kb : Int → Int → Option (Int)) (kx : Int → Option (Int)) : Option (Int) := (kb xs0 (w32 (x3 + 1)))
set_option maxRecDepth 10000 in
set_option maxHeartbeats 4000000 in
theorem RX12_isAsDrafted_b69 {d N nc Ls : Nat} {Xs : Nat → Int32} (hd : 0 ≤ d) {h : iv_H} {s : iv_M} (hR : Rep nc Ls Xs h s) {q0 : Nat} (t0 : T12 nc q0) {m1 : Int32} {x1 : Int} (p1 : m1.toInt = x1) {m3 : Int32} {x3 : Int} (p3 : m3.toInt = x3) {ms0 : Int32} {xs0 : Int} (ps0 : ms0.toInt = xs0) {kb : Int → Int → Option (Int)} {kx : Int → Option (Int)} {r : Int} {Q : Option Value → iv_H → Prop} (hb : ∀ (mw2 : Int32) (xw2 : Int) (pw2 : mw2.toInt = xw2) (mw3 : Int32) (xw3 : Int) (pw3 : mw3.toInt = xw3), kb xw2 xw3 = some r → Rn d 295 (some .boolean) 4 [some (.ref q0), some (.int m1), some (.int mw2), some (.int mw3)] [] h Q) (hk : ∀ (mw2 : Int32) (xw2 : Int) (pw2 : mw2.toInt = xw2), kx xw2 = some r → Rn d 295 (some .boolean) 76 [none, none, some (.int mw2), none] [] h Q) (hq : ∀ (z : Int32), z.toInt = r → Q (some (.int z)) h) (e : FX12_isAsDrafted_b69 N s q0 x1 x3 xs0 kb kx = some r) : Rn d 295 (some .boolean) 69 [some (.ref q0), some (.int m1), none, some (.int m3)] [.int ms0] h Q := by
  have hT := hX12_isAsDrafted
  unfold FX12_isAsDrafted_b69 at e
  refine Rn.n hT 3 (pc' := 4) (L' := [some (.ref q0), some (.int m1), some (.int ms0), some (.int (m3 + (1 : Int32)))]) (st' := []) rfl ?_
  exact Rn.weak (ll_s (ll_s (ll_s (ll_s ll_e)))) (hb ms0 xs0 ps0 (m3 + (1 : Int32)) (w32 (x3 + 1)) (ti_add p3 L32_1) e)
def FX12_isAsDrafted_b68 (N : Nat) (s : iv_M) (q0 : Nat) (x1 : Int) (x3 : Int)  (kb : Int → Int → Option (Int)) (kx : Int → Option (Int)) : Option (Int) := (FX12_isAsDrafted_b69 N s q0 x1 x3 0 kb kx)
set_option maxRecDepth 10000 in
set_option maxHeartbeats 4000000 in
theorem RX12_isAsDrafted_b68 {d N nc Ls : Nat} {Xs : Nat → Int32} (hd : 0 ≤ d) {h : iv_H} {s : iv_M} (hR : Rep nc Ls Xs h s) {q0 : Nat} (t0 : T12 nc q0) {m1 : Int32} {x1 : Int} (p1 : m1.toInt = x1) {m3 : Int32} {x3 : Int} (p3 : m3.toInt = x3)  {kb : Int → Int → Option (Int)} {kx : Int → Option (Int)} {r : Int} {Q : Option Value → iv_H → Prop} (hb : ∀ (mw2 : Int32) (xw2 : Int) (pw2 : mw2.toInt = xw2) (mw3 : Int32) (xw3 : Int) (pw3 : mw3.toInt = xw3), kb xw2 xw3 = some r → Rn d 295 (some .boolean) 4 [some (.ref q0), some (.int m1), some (.int mw2), some (.int mw3)] [] h Q) (hk : ∀ (mw2 : Int32) (xw2 : Int) (pw2 : mw2.toInt = xw2), kx xw2 = some r → Rn d 295 (some .boolean) 76 [none, none, some (.int mw2), none] [] h Q) (hq : ∀ (z : Int32), z.toInt = r → Q (some (.int z)) h) (e : FX12_isAsDrafted_b68 N s q0 x1 x3  kb kx = some r) : Rn d 295 (some .boolean) 68 [some (.ref q0), some (.int m1), none, some (.int m3)] [] h Q := by
  have hT := hX12_isAsDrafted
  unfold FX12_isAsDrafted_b68 at e
  refine Rn.n hT 1 (pc' := 69) (L' := [some (.ref q0), some (.int m1), none, some (.int m3)]) (st' := [.int (0 : Int32)]) rfl ?_
  exact Rn.weak (ll_s (ll_s (ll_n (ll_s ll_e)))) (RX12_isAsDrafted_b69 hd hR t0 p1 p3 L32_0 hb hk hq e)
def FX12_isAsDrafted_l4 (N : Nat) (s : iv_M) (q0 : Nat) (x1 : Int) (kx : Int → Option (Int)) : Nat → Int → Int → Option (Int)
  | 0, _, _ => none
  | n + 1, x2, x3 => ((rd s (q0 + 1) 14 2).bind fun v_3573 => (if v_3573 ≤ x3 then (kx x2) else (if x2 = 0 then (kx x2) else ((rd s (q0 + 3) 12 x3).bind fun v_3576 => ((rd s (q0 + 10) 96 (w32 ((w32 (24 * x1)) + (w32 (2 * x3))))).bind fun v_3577 => (if v_3576 = v_3577 then ((rd s (q0 + 4) 12 x3).bind fun v_3579 => ((rd s (q0 + 10) 96 (w32 ((w32 ((w32 (24 * x1)) + (w32 (2 * x3)))) + 1))).bind fun v_3580 => (if v_3579 = v_3580 then (FX12_isAsDrafted_b69 N s q0 x1 x3 1 (FX12_isAsDrafted_l4 N s q0 x1 kx n) kx) else (FX12_isAsDrafted_b68 N s q0 x1 x3 (FX12_isAsDrafted_l4 N s q0 x1 kx n) kx)))) else (FX12_isAsDrafted_b68 N s q0 x1 x3 (FX12_isAsDrafted_l4 N s q0 x1 kx n) kx)))))))
set_option maxRecDepth 10000 in
set_option maxHeartbeats 4000000 in
theorem RX12_isAsDrafted_l4 {d N nc Ls : Nat} {Xs : Nat → Int32} (hd : 0 ≤ d) {h : iv_H} {s : iv_M} (hR : Rep nc Ls Xs h s) {q0 : Nat} (t0 : T12 nc q0) {m1 : Int32} {x1 : Int} (p1 : m1.toInt = x1) {kx : Int → Option (Int)} {r : Int} {Q : Option Value → iv_H → Prop} (hk : ∀ (m2 : Int32) (x2 : Int) (p2 : m2.toInt = x2), kx x2 = some r → Rn d 295 (some .boolean) 76 [none, none, some (.int m2), none] [] h Q) (hq : ∀ (z : Int32), z.toInt = r → Q (some (.int z)) h) : ∀ (n : Nat) (m2 : Int32) (x2 : Int) (p2 : m2.toInt = x2) (m3 : Int32) (x3 : Int) (p3 : m3.toInt = x3), FX12_isAsDrafted_l4 N s q0 x1 kx n x2 x3 = some r → Rn d 295 (some .boolean) 4 [some (.ref q0), some (.int m1), some (.int m2), some (.int m3)] [] h Q := by
  have hT := hX12_isAsDrafted
  intro n
  induction n with
  | zero =>
    intro m2 x2 p2 m3 x3 p3 e
    rw [FX12_isAsDrafted_l4] at e
    cases e
  | succ n ih =>
    intro m2 x2 p2 m3 x3 p3 e
    rw [FX12_isAsDrafted_l4] at e
    refine Rn.n hT 2 (pc' := 6) (L' := [some (.ref q0), some (.int m1), some (.int m2), some (.int m3)]) (st' := [.ref q0, .int m3]) rfl ?_
    refine Rn.hp hT rfl rfl (gR_hp (rp_gR hR (T12_o t0) rfl)) ?_
    refine Rn.n hT 1 (pc' := 10) (L' := [some (.ref q0), some (.int m1), some (.int m2), some (.int m3)]) (st' := [.int (2 : Int32), .ref (q0 + 1), .int m3]) rfl ?_
    obtain ⟨v_3573, e_3573, e⟩ := Option.bind_eq_some_iff.mp e
    obtain ⟨z_3573, g_3573, p_3573⟩ := rp_aI hR (T12_1 t0) (T12_1l t0) L32_2 e_3573
    refine Rn.hp hT rfl rfl (aI_hp g_3573) ?_
    by_cases c_3574 : v_3573 ≤ x3
    · rw [if_pos c_3574] at e
      refine Rn.bt hT rfl rfl rfl (decide_eq_true ((ti_le p_3573 p3).mpr c_3574)) ?_
      exact Rn.weak (ll_n (ll_n (ll_s (ll_n ll_e)))) (hk m2 x2 p2 e)
    · rw [if_neg c_3574] at e
      refine Rn.bf hT rfl rfl rfl (decide_eq_false (fun z => c_3574 ((ti_le p_3573 p3).mp z))) ?_
      refine Rn.n hT 1 (pc' := 15) (L' := [some (.ref q0), some (.int m1), some (.int m2), some (.int m3)]) (st' := [.int m2]) rfl ?_
      by_cases c_3575 : x2 = 0
      · rw [if_pos c_3575] at e
        refine Rn.bt hT rfl rfl rfl (decide_eq_true ((ti_e p2 L32_0).mpr c_3575)) ?_
        exact Rn.weak (ll_n (ll_n (ll_s (ll_n ll_e)))) (hk m2 x2 p2 e)
      · rw [if_neg c_3575] at e
        refine Rn.bf hT rfl rfl rfl (decide_eq_false (fun z => c_3575 ((ti_e p2 L32_0).mp z))) ?_
        refine Rn.n hT 1 (pc' := 19) (L' := [some (.ref q0), some (.int m1), some (.int m2), some (.int m3)]) (st' := [.ref q0]) rfl ?_
        refine Rn.hp hT rfl rfl (gR_hp (rp_gR hR (T12_o t0) rfl)) ?_
        refine Rn.n hT 1 (pc' := 23) (L' := [some (.ref q0), some (.int m1), some (.int m2), some (.int m3)]) (st' := [.int m3, .ref (q0 + 3)]) rfl ?_
        obtain ⟨v_3576, e_3576, e⟩ := Option.bind_eq_some_iff.mp e
        obtain ⟨z_3576, g_3576, p_3576⟩ := rp_aI hR (T12_3 t0) (T12_3l t0) p3 e_3576
        refine Rn.hp hT rfl rfl (aI_hp g_3576) ?_
        refine Rn.n hT 1 (pc' := 25) (L' := [some (.ref q0), some (.int m1), some (.int m2), some (.int m3)]) (st' := [.ref q0, .int z_3576]) rfl ?_
        refine Rn.hp hT rfl rfl (gR_hp (rp_gR hR (T12_o t0) rfl)) ?_
        refine Rn.n hT 7 (pc' := 36) (L' := [some (.ref q0), some (.int m1), some (.int m2), some (.int m3)]) (st' := [.int (((24 : Int32) * m1) + ((2 : Int32) * m3)), .ref (q0 + 10), .int z_3576]) rfl ?_
        obtain ⟨v_3577, e_3577, e⟩ := Option.bind_eq_some_iff.mp e
        obtain ⟨z_3577, g_3577, p_3577⟩ := rp_aI hR (T12_10 t0) (T12_10l t0) (ti_add (ti_mul L32_24 p1) (ti_mul L32_2 p3)) e_3577
        refine Rn.hp hT rfl rfl (aI_hp g_3577) ?_
        by_cases c_3578 : v_3576 = v_3577
        · rw [if_pos c_3578] at e
          refine Rn.bf hT rfl rfl rfl (decide_eq_false (fun z => z ((ti_e p_3576 p_3577).mpr c_3578))) ?_
          refine Rn.n hT 1 (pc' := 41) (L' := [some (.ref q0), some (.int m1), some (.int m2), some (.int m3)]) (st' := [.ref q0]) rfl ?_
          refine Rn.hp hT rfl rfl (gR_hp (rp_gR hR (T12_o t0) rfl)) ?_
          refine Rn.n hT 1 (pc' := 45) (L' := [some (.ref q0), some (.int m1), some (.int m2), some (.int m3)]) (st' := [.int m3, .ref (q0 + 4)]) rfl ?_
          obtain ⟨v_3579, e_3579, e⟩ := Option.bind_eq_some_iff.mp e
          obtain ⟨z_3579, g_3579, p_3579⟩ := rp_aI hR (T12_4 t0) (T12_4l t0) p3 e_3579
          refine Rn.hp hT rfl rfl (aI_hp g_3579) ?_
          refine Rn.n hT 1 (pc' := 47) (L' := [some (.ref q0), some (.int m1), some (.int m2), some (.int m3)]) (st' := [.ref q0, .int z_3579]) rfl ?_
          refine Rn.hp hT rfl rfl (gR_hp (rp_gR hR (T12_o t0) rfl)) ?_
          refine Rn.n hT 9 (pc' := 60) (L' := [some (.ref q0), some (.int m1), some (.int m2), some (.int m3)]) (st' := [.int ((((24 : Int32) * m1) + ((2 : Int32) * m3)) + (1 : Int32)), .ref (q0 + 10), .int z_3579]) rfl ?_
          obtain ⟨v_3580, e_3580, e⟩ := Option.bind_eq_some_iff.mp e
          obtain ⟨z_3580, g_3580, p_3580⟩ := rp_aI hR (T12_10 t0) (T12_10l t0) (ti_add (ti_add (ti_mul L32_24 p1) (ti_mul L32_2 p3)) L32_1) e_3580
          refine Rn.hp hT rfl rfl (aI_hp g_3580) ?_
          by_cases c_3581 : v_3579 = v_3580
          · rw [if_pos c_3581] at e
            refine Rn.bf hT rfl rfl rfl (decide_eq_false (fun z => z ((ti_e p_3579 p_3580).mpr c_3581))) ?_
            refine Rn.n hT 2 (pc' := 69) (L' := [some (.ref q0), some (.int m1), some (.int m2), some (.int m3)]) (st' := [.int (1 : Int32)]) rfl ?_
            exact Rn.weak (ll_s (ll_s (ll_n (ll_s ll_e)))) (RX12_isAsDrafted_b69 hd hR t0 p1 p3 L32_1 ih hk hq e)
          · rw [if_neg c_3581] at e
            refine Rn.bt hT rfl rfl rfl (decide_eq_true (fun z => c_3581 ((ti_e p_3579 p_3580).mp z))) ?_
            exact Rn.weak (ll_s (ll_s (ll_n (ll_s ll_e)))) (RX12_isAsDrafted_b68 hd hR t0 p1 p3 ih hk hq e)
        · rw [if_neg c_3578] at e
          refine Rn.bt hT rfl rfl rfl (decide_eq_true (fun z => c_3578 ((ti_e p_3576 p_3577).mp z))) ?_
          exact Rn.weak (ll_s (ll_s (ll_n (ll_s ll_e)))) (RX12_isAsDrafted_b68 hd hR t0 p1 p3 ih hk hq e)
def FX12_isAsDrafted_b76 (N : Nat) (s : iv_M) (x2 : Int)  : Option (Int) := (if x2 = 0 ∨ x2 = 1 then some x2 else none)
set_option maxRecDepth 10000 in
set_option maxHeartbeats 4000000 in
theorem RX12_isAsDrafted_b76 {d N nc Ls : Nat} {Xs : Nat → Int32} (hd : 0 ≤ d) {h : iv_H} {s : iv_M} (hR : Rep nc Ls Xs h s) {m2 : Int32} {x2 : Int} (p2 : m2.toInt = x2)  {r : Int} {Q : Option Value → iv_H → Prop} (hq : ∀ (z : Int32), z.toInt = r → Q (some (.int z)) h) (e : FX12_isAsDrafted_b76 N s x2  = some r) : Rn d 295 (some .boolean) 76 [none, none, some (.int m2), none] [] h Q := by
  have hT := hX12_isAsDrafted
  unfold FX12_isAsDrafted_b76 at e
  refine Rn.n hT 1 (pc' := 77) (L' := [none, none, some (.int m2), none]) (st' := [.int m2]) rfl ?_
  by_cases c_3582 : x2 = 0 ∨ x2 = 1
  · rw [if_pos c_3582] at e
    obtain rfl := Option.some.inj e
    exact Rn.ret hT rfl rfl (if_pos (ti_b p2 c_3582)) (hq m2 p2)
  · rw [if_neg c_3582] at e
    cases e
def FX12_isAsDrafted (N : Nat) (s : iv_M) (q0 : Nat) (x1 : Int) : Option (Int) := (FX12_isAsDrafted_l4 N s q0 x1 (fun (x3572_2 : Int) => (FX12_isAsDrafted_b76 N s x3572_2)) N 1 0)
set_option maxRecDepth 10000 in
set_option maxHeartbeats 4000000 in
theorem RX12_isAsDrafted {d N nc Ls : Nat} {Xs : Nat → Int32} (hd : 1 ≤ d) {h : iv_H} {s : iv_M} (hR : Rep nc Ls Xs h s) {q0 : Nat} (t0 : T12 nc q0) {m1 : Int32} {x1 : Int} (p1 : m1.toInt = x1) {r : Int} {Q : Option Value → iv_H → Prop} (e : FX12_isAsDrafted N s q0 x1 = some r) (hq : ∀ (z : Int32), z.toInt = r → Q (some (.int z)) h) : Cl d 295 [.ref q0, .int m1] h Q := by
  obtain ⟨d, rfl⟩ : ∃ k, d = k + 1 := ⟨d - 1, by omega⟩
  have hd : 0 ≤ d := by omega
  have hT := hX12_isAsDrafted
  unfold FX12_isAsDrafted at e
  refine Cl.into (by decide) gX12_isAsDrafted rfl ?_
  show Rn d 295 (some .boolean) 0 [some (.ref q0), some (.int m1), none, none] [] h Q
  refine Rn.n hT 4 (pc' := 4) (L' := [some (.ref q0), some (.int m1), some (.int (1 : Int32)), some (.int (0 : Int32))]) (st' := []) rfl ?_
  refine Rn.weak (ll_s (ll_s (ll_s (ll_s ll_e)))) (RX12_isAsDrafted_l4 hd hR t0 p1 (fun m3572_2 x3572_2 p3572_2 e => ?_) hq N (1 : Int32) 1 L32_1 (0 : Int32) 0 L32_0 e)
  try dsimp only at e
  exact Rn.weak (ll_n (ll_n (ll_s (ll_n ll_e)))) (RX12_isAsDrafted_b76 hd hR p3572_2 hq e)
set_option maxRecDepth 10000 in
theorem hX12_comes : iv_Tb 296 tX12_comes := iv_tb_of (m := mX12_comes) rfl
set_option maxRecDepth 10000 in
theorem gX12_comes : PG.2 296 = some mX12_comes := iv_pi_of (t := tX12_comes) rfl (by decide)
def FX12_comes_b143 (N : Nat) (s : iv_M) (q0 : Nat) (xs0 : Int) (qs1 : Nat) : Option (Int × iv_M) := ((pt s qs1 58 xs0).bind fun s_3614 => ((pt s_3614 q0 57 (w32 ((s_3614 q0 57) + 1))).bind fun s_3617 => (some (0, s_3617))))
set_option maxRecDepth 10000 in
set_option maxHeartbeats 4000000 in
theorem RX12_comes_b143 {d N nc Ls : Nat} {Xs : Nat → Int32} (hd : 1 ≤ d) {h : iv_H} {s : iv_M} (hR : Rep nc Ls Xs h s) {q0 : Nat} (t0 : T12 nc q0) {ms0 : Int32} {xs0 : Int} (ps0 : ms0.toInt = xs0) {qs1 : Nat} (ts1 : T12 nc qs1) {r : Int × iv_M} {Q : Option Value → iv_H → Prop} (hq : ∀ (z : Int32) (h1 : iv_H), z.toInt = r.1 → Rep nc Ls Xs h1 r.2 → Q (some (.int z)) h1) (e : FX12_comes_b143 N s q0 xs0 qs1 = some r) : Rn d 296 (some .boolean) 143 [some (.ref q0), none, none, none, none, none, none, none, none] [.int ms0, .ref qs1] h Q := by
  have hT := hX12_comes
  unfold FX12_comes_b143 at e
  obtain ⟨s_3614, e_3615, e⟩ := Option.bind_eq_some_iff.mp e
  obtain ⟨h_3614, g_3615, R_3614⟩ := rp_pI (ci := 12) (k := 58) hR (T12_o ts1) rfl rfl ps0 e_3615
  refine Rn.hp hT rfl rfl (pV_hp rfl g_3615) ?_
  refine Rn.n hT 2 (pc' := 148) (L' := [some (.ref q0), none, none, none, none, none, none, none, none]) (st' := [.ref q0, .ref q0]) rfl ?_
  obtain ⟨z_3616, g_3616, p_3616⟩ : ∃ z : Int32, gI h_3614 12 57 q0 = some z ∧ z.toInt = s_3614 q0 57 := rp_gI (k := 57) R_3614 (T12_o t0) rfl
  refine Rn.hp hT rfl rfl (gI_hp g_3616) ?_
  refine Rn.n hT 2 (pc' := 153) (L' := [some (.ref q0), none, none, none, none, none, none, none, none]) (st' := [.int (z_3616 + (1 : Int32)), .ref q0]) rfl ?_
  obtain ⟨s_3617, e_3618, e⟩ := Option.bind_eq_some_iff.mp e
  obtain ⟨h_3617, g_3618, R_3617⟩ := rp_pI (ci := 12) (k := 57) R_3614 (T12_o t0) rfl rfl (ti_add p_3616 L32_1) e_3618
  refine Rn.hp hT rfl rfl (pV_hp rfl g_3618) ?_
  refine Rn.n hT 1 (pc' := 157) (L' := [some (.ref q0), none, none, none, none, none, none, none, none]) (st' := [.int (0 : Int32)]) rfl ?_
  obtain rfl := Option.some.inj e
  exact Rn.ret hT rfl rfl rfl (hq (0 : Int32) h_3617 L32_0 R_3617)
def FX12_comes_b62 (N : Nat) (s : iv_M) (q0 : Nat) (x1 : Int) (x2 : Int) (y4 : Int) (x6 : Int) (x7 : Int) (x8 : Int)  : Option (Int × iv_M) := ((wr s (q0 + 40) 4096 x7 (s q0 56)).bind fun s_3594 => ((wr s_3594 (q0 + 39) 4096 x7 (s_3594 q0 57)).bind fun s_3597 => ((wr s_3597 (q0 + 35) 1501 (s_3597 q0 57) y4).bind fun s_3600 => ((wr s_3600 (q0 + 36) 1501 (s_3600 q0 57) x6).bind fun s_3603 => ((wr s_3603 (q0 + 37) 1501 (s_3603 q0 57) x1).bind fun s_3606 => ((wr s_3606 (q0 + 38) 1501 (s_3606 q0 57) x2).bind fun s_3609 => (if x8 = 0 then (FX12_comes_b143 N s_3609 q0 (s_3609 q0 58) q0) else (FX12_comes_b143 N s_3609 q0 (s_3609 q0 57) q0))))))))
set_option maxRecDepth 10000 in
set_option maxHeartbeats 4000000 in
theorem RX12_comes_b62 {d N nc Ls : Nat} {Xs : Nat → Int32} (hd : 1 ≤ d) {h : iv_H} {s : iv_M} (hR : Rep nc Ls Xs h s) {q0 : Nat} (t0 : T12 nc q0) {m1 : Int32} {x1 : Int} (p1 : m1.toInt = x1) {m2 : Int32} {x2 : Int} (p2 : m2.toInt = x2) {j4 : Int64} {y4 : Int} (p4 : j4.toInt = y4) {m6 : Int32} {x6 : Int} (p6 : m6.toInt = x6) {m7 : Int32} {x7 : Int} (p7 : m7.toInt = x7) {m8 : Int32} {x8 : Int} (p8 : m8.toInt = x8)  {r : Int × iv_M} {Q : Option Value → iv_H → Prop} (hq : ∀ (z : Int32) (h1 : iv_H), z.toInt = r.1 → Rep nc Ls Xs h1 r.2 → Q (some (.int z)) h1) (e : FX12_comes_b62 N s q0 x1 x2 y4 x6 x7 x8  = some r) : Rn d 296 (some .boolean) 62 [some (.ref q0), some (.int m1), some (.int m2), none, some (.long j4), none, some (.int m6), some (.int m7), some (.int m8)] [] h Q := by
  have hT := hX12_comes
  unfold FX12_comes_b62 at e
  refine Rn.n hT 1 (pc' := 63) (L' := [some (.ref q0), some (.int m1), some (.int m2), none, some (.long j4), none, some (.int m6), some (.int m7), some (.int m8)]) (st' := [.ref q0]) rfl ?_
  refine Rn.hp hT rfl rfl (gR_hp (rp_gR hR (T12_o t0) rfl)) ?_
  refine Rn.n hT 2 (pc' := 69) (L' := [some (.ref q0), some (.int m1), some (.int m2), none, some (.long j4), none, some (.int m6), some (.int m7), some (.int m8)]) (st' := [.ref q0, .int m7, .ref (q0 + 40)]) rfl ?_
  obtain ⟨z_3593, g_3593, p_3593⟩ : ∃ z : Int32, gI h 12 56 q0 = some z ∧ z.toInt = s q0 56 := rp_gI (k := 56) hR (T12_o t0) rfl
  refine Rn.hp hT rfl rfl (gI_hp g_3593) ?_
  obtain ⟨s_3594, e_3595, e⟩ := Option.bind_eq_some_iff.mp e
  obtain ⟨h_3594, g_3595, R_3594⟩ := rp_wI hR (T12_54 t0) (T12_54l t0) p7 p_3593 e_3595
  refine Rn.hp hT rfl rfl (wI_hp g_3595) ?_
  refine Rn.n hT 1 (pc' := 74) (L' := [some (.ref q0), some (.int m1), some (.int m2), none, some (.long j4), none, some (.int m6), some (.int m7), some (.int m8)]) (st' := [.ref q0]) rfl ?_
  refine Rn.hp hT rfl rfl (gR_hp (rp_gR R_3594 (T12_o t0) rfl)) ?_
  refine Rn.n hT 2 (pc' := 80) (L' := [some (.ref q0), some (.int m1), some (.int m2), none, some (.long j4), none, some (.int m6), some (.int m7), some (.int m8)]) (st' := [.ref q0, .int m7, .ref (q0 + 39)]) rfl ?_
  obtain ⟨z_3596, g_3596, p_3596⟩ : ∃ z : Int32, gI h_3594 12 57 q0 = some z ∧ z.toInt = s_3594 q0 57 := rp_gI (k := 57) R_3594 (T12_o t0) rfl
  refine Rn.hp hT rfl rfl (gI_hp g_3596) ?_
  obtain ⟨s_3597, e_3598, e⟩ := Option.bind_eq_some_iff.mp e
  obtain ⟨h_3597, g_3598, R_3597⟩ := rp_wI R_3594 (T12_53 t0) (T12_53l t0) p7 p_3596 e_3598
  refine Rn.hp hT rfl rfl (wI_hp g_3598) ?_
  refine Rn.n hT 1 (pc' := 85) (L' := [some (.ref q0), some (.int m1), some (.int m2), none, some (.long j4), none, some (.int m6), some (.int m7), some (.int m8)]) (st' := [.ref q0]) rfl ?_
  refine Rn.hp hT rfl rfl (gR_hp (rp_gR R_3597 (T12_o t0) rfl)) ?_
  refine Rn.n hT 1 (pc' := 89) (L' := [some (.ref q0), some (.int m1), some (.int m2), none, some (.long j4), none, some (.int m6), some (.int m7), some (.int m8)]) (st' := [.ref q0, .ref (q0 + 35)]) rfl ?_
  obtain ⟨z_3599, g_3599, p_3599⟩ : ∃ z : Int32, gI h_3597 12 57 q0 = some z ∧ z.toInt = s_3597 q0 57 := rp_gI (k := 57) R_3597 (T12_o t0) rfl
  refine Rn.hp hT rfl rfl (gI_hp g_3599) ?_
  refine Rn.n hT 1 (pc' := 94) (L' := [some (.ref q0), some (.int m1), some (.int m2), none, some (.long j4), none, some (.int m6), some (.int m7), some (.int m8)]) (st' := [.long j4, .int z_3599, .ref (q0 + 35)]) rfl ?_
  obtain ⟨s_3600, e_3601, e⟩ := Option.bind_eq_some_iff.mp e
  obtain ⟨h_3600, g_3601, R_3600⟩ := rp_wJ R_3597 (T12_49 t0) (T12_49l t0) p_3599 p4 e_3601
  refine Rn.hp hT rfl rfl (wJ_hp g_3601) ?_
  refine Rn.n hT 1 (pc' := 96) (L' := [some (.ref q0), some (.int m1), some (.int m2), none, some (.long j4), none, some (.int m6), some (.int m7), some (.int m8)]) (st' := [.ref q0]) rfl ?_
  refine Rn.hp hT rfl rfl (gR_hp (rp_gR R_3600 (T12_o t0) rfl)) ?_
  refine Rn.n hT 1 (pc' := 100) (L' := [some (.ref q0), some (.int m1), some (.int m2), none, some (.long j4), none, some (.int m6), some (.int m7), some (.int m8)]) (st' := [.ref q0, .ref (q0 + 36)]) rfl ?_
  obtain ⟨z_3602, g_3602, p_3602⟩ : ∃ z : Int32, gI h_3600 12 57 q0 = some z ∧ z.toInt = s_3600 q0 57 := rp_gI (k := 57) R_3600 (T12_o t0) rfl
  refine Rn.hp hT rfl rfl (gI_hp g_3602) ?_
  refine Rn.n hT 1 (pc' := 105) (L' := [some (.ref q0), some (.int m1), some (.int m2), none, some (.long j4), none, some (.int m6), some (.int m7), some (.int m8)]) (st' := [.int m6, .int z_3602, .ref (q0 + 36)]) rfl ?_
  obtain ⟨s_3603, e_3604, e⟩ := Option.bind_eq_some_iff.mp e
  obtain ⟨h_3603, g_3604, R_3603⟩ := rp_wI R_3600 (T12_50 t0) (T12_50l t0) p_3602 p6 e_3604
  refine Rn.hp hT rfl rfl (wI_hp g_3604) ?_
  refine Rn.n hT 1 (pc' := 107) (L' := [some (.ref q0), some (.int m1), some (.int m2), none, some (.long j4), none, some (.int m6), some (.int m7), some (.int m8)]) (st' := [.ref q0]) rfl ?_
  refine Rn.hp hT rfl rfl (gR_hp (rp_gR R_3603 (T12_o t0) rfl)) ?_
  refine Rn.n hT 1 (pc' := 111) (L' := [some (.ref q0), some (.int m1), some (.int m2), none, some (.long j4), none, some (.int m6), some (.int m7), some (.int m8)]) (st' := [.ref q0, .ref (q0 + 37)]) rfl ?_
  obtain ⟨z_3605, g_3605, p_3605⟩ : ∃ z : Int32, gI h_3603 12 57 q0 = some z ∧ z.toInt = s_3603 q0 57 := rp_gI (k := 57) R_3603 (T12_o t0) rfl
  refine Rn.hp hT rfl rfl (gI_hp g_3605) ?_
  refine Rn.n hT 1 (pc' := 115) (L' := [some (.ref q0), some (.int m1), some (.int m2), none, some (.long j4), none, some (.int m6), some (.int m7), some (.int m8)]) (st' := [.int m1, .int z_3605, .ref (q0 + 37)]) rfl ?_
  obtain ⟨s_3606, e_3607, e⟩ := Option.bind_eq_some_iff.mp e
  obtain ⟨h_3606, g_3607, R_3606⟩ := rp_wI R_3603 (T12_51 t0) (T12_51l t0) p_3605 p1 e_3607
  refine Rn.hp hT rfl rfl (wI_hp g_3607) ?_
  refine Rn.n hT 1 (pc' := 117) (L' := [some (.ref q0), some (.int m1), some (.int m2), none, some (.long j4), none, some (.int m6), some (.int m7), some (.int m8)]) (st' := [.ref q0]) rfl ?_
  refine Rn.hp hT rfl rfl (gR_hp (rp_gR R_3606 (T12_o t0) rfl)) ?_
  refine Rn.n hT 1 (pc' := 121) (L' := [some (.ref q0), some (.int m1), some (.int m2), none, some (.long j4), none, some (.int m6), some (.int m7), some (.int m8)]) (st' := [.ref q0, .ref (q0 + 38)]) rfl ?_
  obtain ⟨z_3608, g_3608, p_3608⟩ : ∃ z : Int32, gI h_3606 12 57 q0 = some z ∧ z.toInt = s_3606 q0 57 := rp_gI (k := 57) R_3606 (T12_o t0) rfl
  refine Rn.hp hT rfl rfl (gI_hp g_3608) ?_
  refine Rn.n hT 1 (pc' := 125) (L' := [some (.ref q0), some (.int m1), some (.int m2), none, some (.long j4), none, some (.int m6), some (.int m7), some (.int m8)]) (st' := [.int m2, .int z_3608, .ref (q0 + 38)]) rfl ?_
  obtain ⟨s_3609, e_3610, e⟩ := Option.bind_eq_some_iff.mp e
  obtain ⟨h_3609, g_3610, R_3609⟩ := rp_wI R_3606 (T12_52 t0) (T12_52l t0) p_3608 p2 e_3610
  refine Rn.hp hT rfl rfl (wI_hp g_3610) ?_
  refine Rn.n hT 2 (pc' := 129) (L' := [some (.ref q0), some (.int m1), some (.int m2), none, some (.long j4), none, some (.int m6), some (.int m7), some (.int m8)]) (st' := [.int m8, .ref q0]) rfl ?_
  by_cases c_3611 : x8 = 0
  · rw [if_pos c_3611] at e
    refine Rn.bt hT rfl rfl rfl (decide_eq_true ((ti_e p8 L32_0).mpr c_3611)) ?_
    refine Rn.n hT 1 (pc' := 140) (L' := [some (.ref q0), some (.int m1), some (.int m2), none, some (.long j4), none, some (.int m6), some (.int m7), some (.int m8)]) (st' := [.ref q0, .ref q0]) rfl ?_
    obtain ⟨z_3612, g_3612, p_3612⟩ : ∃ z : Int32, gI h_3609 12 58 q0 = some z ∧ z.toInt = s_3609 q0 58 := rp_gI (k := 58) R_3609 (T12_o t0) rfl
    refine Rn.hp hT rfl rfl (gI_hp g_3612) ?_
    exact Rn.weak (ll_s (ll_n (ll_n (ll_n (ll_n (ll_n (ll_n (ll_n (ll_n ll_e))))))))) (RX12_comes_b143 hd R_3609 t0 p_3612 t0 hq e)
  · rw [if_neg c_3611] at e
    refine Rn.bf hT rfl rfl rfl (decide_eq_false (fun z => c_3611 ((ti_e p8 L32_0).mp z))) ?_
    refine Rn.n hT 1 (pc' := 133) (L' := [some (.ref q0), some (.int m1), some (.int m2), none, some (.long j4), none, some (.int m6), some (.int m7), some (.int m8)]) (st' := [.ref q0, .ref q0]) rfl ?_
    obtain ⟨z_3613, g_3613, p_3613⟩ : ∃ z : Int32, gI h_3609 12 57 q0 = some z ∧ z.toInt = s_3609 q0 57 := rp_gI (k := 57) R_3609 (T12_o t0) rfl
    refine Rn.hp hT rfl rfl (gI_hp g_3613) ?_
    refine Rn.n hT 1 (pc' := 143) (L' := [some (.ref q0), some (.int m1), some (.int m2), none, some (.long j4), none, some (.int m6), some (.int m7), some (.int m8)]) (st' := [.int z_3613, .ref q0]) rfl ?_
    exact Rn.weak (ll_s (ll_n (ll_n (ll_n (ll_n (ll_n (ll_n (ll_n (ll_n ll_e))))))))) (RX12_comes_b143 hd R_3609 t0 p_3613 t0 hq e)
def FX12_comes (N : Nat) (s : iv_M) (q0 : Nat) (x1 : Int) (x2 : Int) (x3 : Int) : Option (Int × iv_M) := ((FX12_whereNow N s q0).bind fun v_3583 => ((FX12_howNow N s q0).bind fun v_3584 => ((FX12_placeOf N s q0 v_3583 v_3584).bind fun v_3585 => ((rd s (q0 + 40) 4096 v_3585).bind fun v_3586 => (if v_3586 = (s q0 56) then (some (0, s)) else ((FX12_isAsDrafted N s q0 x3).bind fun v_3589 => (if (s q0 57) = 1500 then (if v_3589 = 0 then (some (1, s)) else (FX12_comes_b62 N s q0 x1 x2 v_3583 v_3584 v_3585 v_3589)) else (FX12_comes_b62 N s q0 x1 x2 v_3583 v_3584 v_3585 v_3589))))))))
set_option maxRecDepth 10000 in
set_option maxHeartbeats 4000000 in
theorem RX12_comes {d N nc Ls : Nat} {Xs : Nat → Int32} (hd : 2 ≤ d) {h : iv_H} {s : iv_M} (hR : Rep nc Ls Xs h s) {q0 : Nat} (t0 : T12 nc q0) {m1 : Int32} {x1 : Int} (p1 : m1.toInt = x1) {m2 : Int32} {x2 : Int} (p2 : m2.toInt = x2) {m3 : Int32} {x3 : Int} (p3 : m3.toInt = x3) {r : Int × iv_M} {Q : Option Value → iv_H → Prop} (e : FX12_comes N s q0 x1 x2 x3 = some r) (hq : ∀ (z : Int32) (h1 : iv_H), z.toInt = r.1 → Rep nc Ls Xs h1 r.2 → Q (some (.int z)) h1) : Cl d 296 [.ref q0, .int m1, .int m2, .int m3] h Q := by
  obtain ⟨d, rfl⟩ : ∃ k, d = k + 1 := ⟨d - 1, by omega⟩
  have hd : 1 ≤ d := by omega
  have hT := hX12_comes
  unfold FX12_comes at e
  refine Cl.into (by decide) gX12_comes rfl ?_
  show Rn d 296 (some .boolean) 0 [some (.ref q0), some (.int m1), some (.int m2), some (.int m3), none, none, none, none, none] [] h Q
  refine Rn.n hT 1 (pc' := 1) (L' := [some (.ref q0), some (.int m1), some (.int m2), some (.int m3), none, none, none, none, none]) (st' := [.ref q0]) rfl ?_
  obtain ⟨v_3583, e_3583, e⟩ := Option.bind_eq_some_iff.mp e
  refine Rn.call hT rfl rfl rfl (Nat.le_of_ble_eq_true rfl) (rcv_v gX12_whereNow (by omega) (rp_ck hR (T12_o t0))) (RX12_whereNow (by omega) hR t0 e_3583 (fun z_3583 p_3583 => ?_))
  show Rn d _ _ 4 [some (.ref q0), some (.int m1), some (.int m2), some (.int m3), none, none, none, none, none] [.long z_3583] h Q
  refine Rn.n hT 2 (pc' := 7) (L' := [some (.ref q0), some (.int m1), some (.int m2), some (.int m3), some (.long z_3583), none, none, none, none]) (st' := [.ref q0]) rfl ?_
  obtain ⟨v_3584, e_3584, e⟩ := Option.bind_eq_some_iff.mp e
  refine Rn.call hT rfl rfl rfl (Nat.le_of_ble_eq_true rfl) (rcv_v gX12_howNow (by omega) (rp_ck hR (T12_o t0))) (RX12_howNow (by omega) hR t0 e_3584 (fun z_3584 p_3584 => ?_))
  show Rn d _ _ 10 [some (.ref q0), some (.int m1), some (.int m2), some (.int m3), some (.long z_3583), none, none, none, none] [.int z_3584] h Q
  refine Rn.n hT 4 (pc' := 17) (L' := [some (.ref q0), some (.int m1), some (.int m2), some (.int m3), some (.long z_3583), none, some (.int z_3584), none, none]) (st' := [.int z_3584, .long z_3583, .ref q0]) rfl ?_
  obtain ⟨v_3585, e_3585, e⟩ := Option.bind_eq_some_iff.mp e
  refine Rn.call hT rfl rfl rfl (Nat.le_of_ble_eq_true rfl) (rcv_v gX12_placeOf (by omega) (rp_ck hR (T12_o t0))) (RX12_placeOf (by omega) hR t0 p_3583 p_3584 e_3585 (fun z_3585 p_3585 => ?_))
  show Rn d _ _ 20 [some (.ref q0), some (.int m1), some (.int m2), some (.int m3), some (.long z_3583), none, some (.int z_3584), none, none] [.int z_3585] h Q
  refine Rn.n hT 2 (pc' := 23) (L' := [some (.ref q0), some (.int m1), some (.int m2), some (.int m3), some (.long z_3583), none, some (.int z_3584), some (.int z_3585), none]) (st' := [.ref q0]) rfl ?_
  refine Rn.hp hT rfl rfl (gR_hp (rp_gR hR (T12_o t0) rfl)) ?_
  refine Rn.n hT 1 (pc' := 28) (L' := [some (.ref q0), some (.int m1), some (.int m2), some (.int m3), some (.long z_3583), none, some (.int z_3584), some (.int z_3585), none]) (st' := [.int z_3585, .ref (q0 + 40)]) rfl ?_
  obtain ⟨v_3586, e_3586, e⟩ := Option.bind_eq_some_iff.mp e
  obtain ⟨z_3586, g_3586, p_3586⟩ := rp_aI hR (T12_54 t0) (T12_54l t0) p_3585 e_3586
  refine Rn.hp hT rfl rfl (aI_hp g_3586) ?_
  refine Rn.n hT 1 (pc' := 30) (L' := [some (.ref q0), some (.int m1), some (.int m2), some (.int m3), some (.long z_3583), none, some (.int z_3584), some (.int z_3585), none]) (st' := [.ref q0, .int z_3586]) rfl ?_
  obtain ⟨z_3587, g_3587, p_3587⟩ : ∃ z : Int32, gI h 12 56 q0 = some z ∧ z.toInt = s q0 56 := rp_gI (k := 56) hR (T12_o t0) rfl
  refine Rn.hp hT rfl rfl (gI_hp g_3587) ?_
  by_cases c_3588 : v_3586 = (s q0 56)
  · rw [if_pos c_3588] at e
    refine Rn.bf hT rfl rfl rfl (decide_eq_false (fun z => z ((ti_e p_3586 p_3587).mpr c_3588))) ?_
    refine Rn.n hT 1 (pc' := 37) (L' := [some (.ref q0), some (.int m1), some (.int m2), some (.int m3), some (.long z_3583), none, some (.int z_3584), some (.int z_3585), none]) (st' := [.int (0 : Int32)]) rfl ?_
    obtain rfl := Option.some.inj e
    exact Rn.ret hT rfl rfl rfl (hq (0 : Int32) h L32_0 hR)
  · rw [if_neg c_3588] at e
    refine Rn.bt hT rfl rfl rfl (decide_eq_true (fun z => c_3588 ((ti_e p_3586 p_3587).mp z))) ?_
    refine Rn.n hT 2 (pc' := 40) (L' := [some (.ref q0), some (.int m1), some (.int m2), some (.int m3), some (.long z_3583), none, some (.int z_3584), some (.int z_3585), none]) (st' := [.int m3, .ref q0]) rfl ?_
    obtain ⟨v_3589, e_3589, e⟩ := Option.bind_eq_some_iff.mp e
    refine Rn.call hT rfl rfl rfl (Nat.le_of_ble_eq_true rfl) (rcv_v gX12_isAsDrafted (by omega) (rp_ck hR (T12_o t0))) (RX12_isAsDrafted (by omega) hR t0 p3 e_3589 (fun z_3589 p_3589 => ?_))
    show Rn d _ _ 43 [some (.ref q0), some (.int m1), some (.int m2), some (.int m3), some (.long z_3583), none, some (.int z_3584), some (.int z_3585), none] [.int z_3589] h Q
    refine Rn.n hT 2 (pc' := 46) (L' := [some (.ref q0), some (.int m1), some (.int m2), some (.int m3), some (.long z_3583), none, some (.int z_3584), some (.int z_3585), some (.int z_3589)]) (st' := [.ref q0]) rfl ?_
    obtain ⟨z_3590, g_3590, p_3590⟩ : ∃ z : Int32, gI h 12 57 q0 = some z ∧ z.toInt = s q0 57 := rp_gI (k := 57) hR (T12_o t0) rfl
    refine Rn.hp hT rfl rfl (gI_hp g_3590) ?_
    refine Rn.n hT 1 (pc' := 52) (L' := [some (.ref q0), some (.int m1), some (.int m2), some (.int m3), some (.long z_3583), none, some (.int z_3584), some (.int z_3585), some (.int z_3589)]) (st' := [.int (1500 : Int32), .int z_3590]) rfl ?_
    by_cases c_3591 : (s q0 57) = 1500
    · rw [if_pos c_3591] at e
      refine Rn.bf hT rfl rfl rfl (decide_eq_false (fun z => z ((ti_e p_3590 L32_1500).mpr c_3591))) ?_
      refine Rn.n hT 1 (pc' := 57) (L' := [some (.ref q0), some (.int m1), some (.int m2), some (.int m3), some (.long z_3583), none, some (.int z_3584), some (.int z_3585), some (.int z_3589)]) (st' := [.int z_3589]) rfl ?_
      by_cases c_3592 : v_3589 = 0
      · rw [if_pos c_3592] at e
        refine Rn.bf hT rfl rfl rfl (decide_eq_false (fun z => z ((ti_e p_3589 L32_0).mpr c_3592))) ?_
        refine Rn.n hT 1 (pc' := 61) (L' := [some (.ref q0), some (.int m1), some (.int m2), some (.int m3), some (.long z_3583), none, some (.int z_3584), some (.int z_3585), some (.int z_3589)]) (st' := [.int (1 : Int32)]) rfl ?_
        obtain rfl := Option.some.inj e
        exact Rn.ret hT rfl rfl rfl (hq (1 : Int32) h L32_1 hR)
      · rw [if_neg c_3592] at e
        refine Rn.bt hT rfl rfl rfl (decide_eq_true (fun z => c_3592 ((ti_e p_3589 L32_0).mp z))) ?_
        exact Rn.weak (ll_s (ll_s (ll_s (ll_n (ll_s (ll_n (ll_s (ll_s (ll_s ll_e))))))))) (RX12_comes_b62 hd hR t0 p1 p2 p_3583 p_3584 p_3585 p_3589 hq e)
    · rw [if_neg c_3591] at e
      refine Rn.bt hT rfl rfl rfl (decide_eq_true (fun z => c_3591 ((ti_e p_3590 L32_1500).mp z))) ?_
      exact Rn.weak (ll_s (ll_s (ll_s (ll_n (ll_s (ll_n (ll_s (ll_s (ll_s ll_e))))))))) (RX12_comes_b62 hd hR t0 p1 p2 p_3583 p_3584 p_3585 p_3589 hq e)
set_option maxRecDepth 10000 in
theorem hX12_finds : iv_Tb 297 tX12_finds := iv_tb_of (m := mX12_finds) rfl
set_option maxRecDepth 10000 in
theorem gX12_finds : PG.2 297 = some mX12_finds := iv_pi_of (t := tX12_finds) rfl (by decide)
def FX12_finds_b124 (N : Nat) (s : iv_M) (q0 : Nat) (x1 : Int) (x2 : Int) (x3 : Int) (x4 : Int)  (kb : iv_M → Int → Int → Option (Int × iv_M)) (kx : iv_M → Int → Option (Int × iv_M)) : Option (Int × iv_M) := (kb s x2 (w32 (x4 + 1)))
set_option maxRecDepth 10000 in
set_option maxHeartbeats 4000000 in
theorem RX12_finds_b124 {d N nc Ls : Nat} {Xs : Nat → Int32} (hd : 8 ≤ d) {h : iv_H} {s : iv_M} (hR : Rep nc Ls Xs h s) {q0 : Nat} (t0 : T12 nc q0) {m1 : Int32} {x1 : Int} (p1 : m1.toInt = x1) {m2 : Int32} {x2 : Int} (p2 : m2.toInt = x2) {m3 : Int32} {x3 : Int} (p3 : m3.toInt = x3) {m4 : Int32} {x4 : Int} (p4 : m4.toInt = x4)  {kb : iv_M → Int → Int → Option (Int × iv_M)} {kx : iv_M → Int → Option (Int × iv_M)} {r : Int × iv_M} {Q : Option Value → iv_H → Prop} (hb : ∀ (h : iv_H) (s : iv_M) (hR : Rep nc Ls Xs h s) (mw2 : Int32) (xw2 : Int) (pw2 : mw2.toInt = xw2) (mw4 : Int32) (xw4 : Int) (pw4 : mw4.toInt = xw4), kb s xw2 xw4 = some r → Rn d 297 (some .int) 74 [some (.ref q0), some (.int m1), some (.int mw2), some (.int m3), some (.int mw4)] [] h Q) (hk : ∀ (h : iv_H) (s : iv_M) (hR : Rep nc Ls Xs h s) (mw2 : Int32) (xw2 : Int) (pw2 : mw2.toInt = xw2), kx s xw2 = some r → Rn d 297 (some .int) 130 [some (.ref q0), some (.int m1), some (.int mw2), some (.int m3), none] [] h Q) (hq : ∀ (z : Int32) (h1 : iv_H), z.toInt = r.1 → Rep nc Ls Xs h1 r.2 → Q (some (.int z)) h1) (e : FX12_finds_b124 N s q0 x1 x2 x3 x4  kb kx = some r) : Rn d 297 (some .int) 124 [some (.ref q0), some (.int m1), some (.int m2), some (.int m3), some (.int m4)] [] h Q := by
  have hT := hX12_finds
  unfold FX12_finds_b124 at e
  refine Rn.n hT 2 (pc' := 74) (L' := [some (.ref q0), some (.int m1), some (.int m2), some (.int m3), some (.int (m4 + (1 : Int32)))]) (st' := []) rfl ?_
  exact Rn.weak (ll_s (ll_s (ll_s (ll_s (ll_s ll_e))))) (hb h s hR m2 x2 p2 (m4 + (1 : Int32)) (w32 (x4 + 1)) (ti_add p4 L32_1) e)
def FX12_finds_l74 (N : Nat) (q0 : Nat) (x1 : Int) (x3 : Int) (kx : iv_M → Int → Option (Int × iv_M)) : Nat → iv_M → Int → Int → Option (Int × iv_M)
  | 0, _, _, _ => none
  | n + 1, s, x2, x4 => (if 204 ≤ x4 then (kx s x2) else (if (s q0 58) = (-1) then (if x2 = 0 then ((FX12_mayBe N s q0 x4).bind fun r_3646 => (fun (v_3646 : Int) (s_3647 : iv_M) => (if v_3646 = 0 then (FX12_finds_b124 N s_3647 q0 x1 x2 x3 x4 (FX12_finds_l74 N q0 x1 x3 kx n) kx) else ((FX12_does N s_3647 q0 x4).bind fun s_3650 => ((FX12_comes N s_3650 q0 x3 x4 x1).bind fun r_3651 => (fun (v_3651 : Int) (s_3652 : iv_M) => ((FX12_doesBack N s_3652 q0 x4).bind fun s_3654 => (FX12_finds_b124 N s_3654 q0 x1 v_3651 x3 x4 (FX12_finds_l74 N q0 x1 x3 kx n) kx))) r_3651.1 r_3651.2)))) r_3646.1 r_3646.2) else (kx s x2)) else (kx s x2)))
set_option maxRecDepth 10000 in
set_option maxHeartbeats 4000000 in
theorem RX12_finds_l74 {d N nc Ls : Nat} {Xs : Nat → Int32} (hd : 8 ≤ d) {q0 : Nat} (t0 : T12 nc q0) {m1 : Int32} {x1 : Int} (p1 : m1.toInt = x1) {m3 : Int32} {x3 : Int} (p3 : m3.toInt = x3) {kx : iv_M → Int → Option (Int × iv_M)} {r : Int × iv_M} {Q : Option Value → iv_H → Prop} (hk : ∀ (h : iv_H) (s : iv_M) (hR : Rep nc Ls Xs h s) (m2 : Int32) (x2 : Int) (p2 : m2.toInt = x2), kx s x2 = some r → Rn d 297 (some .int) 130 [some (.ref q0), some (.int m1), some (.int m2), some (.int m3), none] [] h Q) (hq : ∀ (z : Int32) (h1 : iv_H), z.toInt = r.1 → Rep nc Ls Xs h1 r.2 → Q (some (.int z)) h1) : ∀ (n : Nat) (h : iv_H) (s : iv_M) (hR : Rep nc Ls Xs h s) (m2 : Int32) (x2 : Int) (p2 : m2.toInt = x2) (m4 : Int32) (x4 : Int) (p4 : m4.toInt = x4), FX12_finds_l74 N q0 x1 x3 kx n s x2 x4 = some r → Rn d 297 (some .int) 74 [some (.ref q0), some (.int m1), some (.int m2), some (.int m3), some (.int m4)] [] h Q := by
  have hT := hX12_finds
  intro n
  induction n with
  | zero =>
    intro h s hR m2 x2 p2 m4 x4 p4 e
    rw [FX12_finds_l74] at e
    cases e
  | succ n ih =>
    intro h s hR m2 x2 p2 m4 x4 p4 e
    rw [FX12_finds_l74] at e
    refine Rn.n hT 2 (pc' := 79) (L' := [some (.ref q0), some (.int m1), some (.int m2), some (.int m3), some (.int m4)]) (st' := [.int (204 : Int32), .int m4]) rfl ?_
    by_cases c_3642 : 204 ≤ x4
    · rw [if_pos c_3642] at e
      refine Rn.bt hT rfl rfl rfl (decide_eq_true ((ti_le L32_204 p4).mpr c_3642)) ?_
      exact Rn.weak (ll_s (ll_s (ll_s (ll_s (ll_n ll_e))))) (hk h s hR m2 x2 p2 e)
    · rw [if_neg c_3642] at e
      refine Rn.bf hT rfl rfl rfl (decide_eq_false (fun z => c_3642 ((ti_le L32_204 p4).mp z))) ?_
      refine Rn.n hT 1 (pc' := 83) (L' := [some (.ref q0), some (.int m1), some (.int m2), some (.int m3), some (.int m4)]) (st' := [.ref q0]) rfl ?_
      obtain ⟨z_3643, g_3643, p_3643⟩ : ∃ z : Int32, gI h 12 58 q0 = some z ∧ z.toInt = s q0 58 := rp_gI (k := 58) hR (T12_o t0) rfl
      refine Rn.hp hT rfl rfl (gI_hp g_3643) ?_
      refine Rn.n hT 1 (pc' := 87) (L' := [some (.ref q0), some (.int m1), some (.int m2), some (.int m3), some (.int m4)]) (st' := [.int (-1 : Int32), .int z_3643]) rfl ?_
      by_cases c_3644 : (s q0 58) = (-1)
      · rw [if_pos c_3644] at e
        refine Rn.bf hT rfl rfl rfl (decide_eq_false (fun z => z ((ti_e p_3643 L32_m1).mpr c_3644))) ?_
        refine Rn.n hT 1 (pc' := 91) (L' := [some (.ref q0), some (.int m1), some (.int m2), some (.int m3), some (.int m4)]) (st' := [.int m2]) rfl ?_
        by_cases c_3645 : x2 = 0
        · rw [if_pos c_3645] at e
          refine Rn.bf hT rfl rfl rfl (decide_eq_false (fun z => z ((ti_e p2 L32_0).mpr c_3645))) ?_
          refine Rn.n hT 2 (pc' := 97) (L' := [some (.ref q0), some (.int m1), some (.int m2), some (.int m3), some (.int m4)]) (st' := [.int m4, .ref q0]) rfl ?_
          obtain ⟨⟨v_3646, s_3647⟩, e_3646, e⟩ := Option.bind_eq_some_iff.mp e
          try dsimp only at e
          try dsimp only at e
          refine Rn.call hT rfl rfl rfl (Nat.le_of_ble_eq_true rfl) (rcv_v gX12_mayBe (by omega) (rp_ck hR (T12_o t0))) (RX12_mayBe (by omega) hR t0 p4 e_3646 (fun z_3646 h_3647 p_3646 R_3647 => ?_))
          show Rn d _ _ 100 [some (.ref q0), some (.int m1), some (.int m2), some (.int m3), some (.int m4)] [.int z_3646] h_3647 Q
          by_cases c_3648 : v_3646 = 0
          · rw [if_pos c_3648] at e
            refine Rn.bt hT rfl rfl rfl (decide_eq_true ((ti_e p_3646 L32_0).mpr c_3648)) ?_
            exact Rn.weak (ll_s (ll_s (ll_s (ll_s (ll_s ll_e))))) (RX12_finds_b124 hd R_3647 t0 p1 p2 p3 p4 ih hk hq e)
          · rw [if_neg c_3648] at e
            refine Rn.bf hT rfl rfl rfl (decide_eq_false (fun z => c_3648 ((ti_e p_3646 L32_0).mp z))) ?_
            refine Rn.n hT 2 (pc' := 106) (L' := [some (.ref q0), some (.int m1), some (.int m2), some (.int m3), some (.int m4)]) (st' := [.int m4, .ref q0]) rfl ?_
            obtain ⟨s_3650, e_3649, e⟩ := Option.bind_eq_some_iff.mp e
            refine Rn.call hT rfl rfl rfl (Nat.le_of_ble_eq_true rfl) (rcv_v gX12_does (by omega) (rp_ck R_3647 (T12_o t0))) (RX12_does (by omega) R_3647 t0 p4 e_3649 (fun h_3650 R_3650 => ?_))
            show Rn d _ _ 109 [some (.ref q0), some (.int m1), some (.int m2), some (.int m3), some (.int m4)] [] h_3650 Q
            refine Rn.n hT 4 (pc' := 114) (L' := [some (.ref q0), some (.int m1), some (.int m2), some (.int m3), some (.int m4)]) (st' := [.int m1, .int m4, .int m3, .ref q0]) rfl ?_
            obtain ⟨⟨v_3651, s_3652⟩, e_3651, e⟩ := Option.bind_eq_some_iff.mp e
            try dsimp only at e
            try dsimp only at e
            refine Rn.call hT rfl rfl rfl (Nat.le_of_ble_eq_true rfl) (rcv_v gX12_comes (by omega) (rp_ck R_3650 (T12_o t0))) (RX12_comes (by omega) R_3650 t0 p3 p4 p1 e_3651 (fun z_3651 h_3652 p_3651 R_3652 => ?_))
            show Rn d _ _ 117 [some (.ref q0), some (.int m1), some (.int m2), some (.int m3), some (.int m4)] [.int z_3651] h_3652 Q
            refine Rn.n hT 3 (pc' := 121) (L' := [some (.ref q0), some (.int m1), some (.int z_3651), some (.int m3), some (.int m4)]) (st' := [.int m4, .ref q0]) rfl ?_
            obtain ⟨s_3654, e_3653, e⟩ := Option.bind_eq_some_iff.mp e
            refine Rn.call hT rfl rfl rfl (Nat.le_of_ble_eq_true rfl) (rcv_v gX12_doesBack (by omega) (rp_ck R_3652 (T12_o t0))) (RX12_doesBack (by omega) R_3652 t0 p4 e_3653 (fun h_3654 R_3654 => ?_))
            show Rn d _ _ 124 [some (.ref q0), some (.int m1), some (.int z_3651), some (.int m3), some (.int m4)] [] h_3654 Q
            exact Rn.weak (ll_s (ll_s (ll_s (ll_s (ll_s ll_e))))) (RX12_finds_b124 hd R_3654 t0 p1 p_3651 p3 p4 ih hk hq e)
        · rw [if_neg c_3645] at e
          refine Rn.bt hT rfl rfl rfl (decide_eq_true (fun z => c_3645 ((ti_e p2 L32_0).mp z))) ?_
          exact Rn.weak (ll_s (ll_s (ll_s (ll_s (ll_n ll_e))))) (hk h s hR m2 x2 p2 e)
      · rw [if_neg c_3644] at e
        refine Rn.bt hT rfl rfl rfl (decide_eq_true (fun z => c_3644 ((ti_e p_3643 L32_m1).mp z))) ?_
        exact Rn.weak (ll_s (ll_s (ll_s (ll_s (ll_n ll_e))))) (hk h s hR m2 x2 p2 e)
def FX12_finds_b130 (N : Nat) (s : iv_M) (q0 : Nat) (x1 : Int) (x2 : Int) (x3 : Int)  (kb : iv_M → Int → Int → Option (Int × iv_M)) (kx : iv_M → Int → Option (Int × iv_M)) : Option (Int × iv_M) := (kb s x2 (w32 (x3 + 1)))
set_option maxRecDepth 10000 in
set_option maxHeartbeats 4000000 in
theorem RX12_finds_b130 {d N nc Ls : Nat} {Xs : Nat → Int32} (hd : 8 ≤ d) {h : iv_H} {s : iv_M} (hR : Rep nc Ls Xs h s) {q0 : Nat} (t0 : T12 nc q0) {m1 : Int32} {x1 : Int} (p1 : m1.toInt = x1) {m2 : Int32} {x2 : Int} (p2 : m2.toInt = x2) {m3 : Int32} {x3 : Int} (p3 : m3.toInt = x3)  {kb : iv_M → Int → Int → Option (Int × iv_M)} {kx : iv_M → Int → Option (Int × iv_M)} {r : Int × iv_M} {Q : Option Value → iv_H → Prop} (hb : ∀ (h : iv_H) (s : iv_M) (hR : Rep nc Ls Xs h s) (mw2 : Int32) (xw2 : Int) (pw2 : mw2.toInt = xw2) (mw3 : Int32) (xw3 : Int) (pw3 : mw3.toInt = xw3), kb s xw2 xw3 = some r → Rn d 297 (some .int) 39 [some (.ref q0), some (.int m1), some (.int mw2), some (.int mw3), none] [] h Q) (hk : ∀ (h : iv_H) (s : iv_M) (hR : Rep nc Ls Xs h s) (mw2 : Int32) (xw2 : Int) (pw2 : mw2.toInt = xw2), kx s xw2 = some r → Rn d 297 (some .int) 136 [some (.ref q0), none, some (.int mw2), none, none] [] h Q) (hq : ∀ (z : Int32) (h1 : iv_H), z.toInt = r.1 → Rep nc Ls Xs h1 r.2 → Q (some (.int z)) h1) (e : FX12_finds_b130 N s q0 x1 x2 x3  kb kx = some r) : Rn d 297 (some .int) 130 [some (.ref q0), some (.int m1), some (.int m2), some (.int m3), none] [] h Q := by
  have hT := hX12_finds
  unfold FX12_finds_b130 at e
  refine Rn.n hT 2 (pc' := 39) (L' := [some (.ref q0), some (.int m1), some (.int m2), some (.int (m3 + (1 : Int32))), none]) (st' := []) rfl ?_
  exact Rn.weak (ll_s (ll_s (ll_s (ll_s (ll_n ll_e))))) (hb h s hR m2 x2 p2 (m3 + (1 : Int32)) (w32 (x3 + 1)) (ti_add p3 L32_1) e)
def FX12_finds_l39 (N : Nat) (q0 : Nat) (x1 : Int) (kx : iv_M → Int → Option (Int × iv_M)) : Nat → iv_M → Int → Int → Option (Int × iv_M)
  | 0, _, _, _ => none
  | n + 1, s, x2, x3 => (if (s q0 57) ≤ x3 then (kx s x2) else (if 1500 ≤ x3 then (kx s x2) else (if (s q0 58) = (-1) then (if x2 = 0 then ((FX12_laysSituation N s q0 x3).bind fun s_3639 => (FX12_finds_l74 N q0 x1 x3 (fun (s_3640 : iv_M) (x3641_2 : Int) => (FX12_finds_b130 N s_3640 q0 x1 x3641_2 x3 (FX12_finds_l39 N q0 x1 kx n) kx)) N s_3639 x2 0)) else (kx s x2)) else (kx s x2))))
set_option maxRecDepth 10000 in
set_option maxHeartbeats 4000000 in
theorem RX12_finds_l39 {d N nc Ls : Nat} {Xs : Nat → Int32} (hd : 8 ≤ d) {q0 : Nat} (t0 : T12 nc q0) {m1 : Int32} {x1 : Int} (p1 : m1.toInt = x1) {kx : iv_M → Int → Option (Int × iv_M)} {r : Int × iv_M} {Q : Option Value → iv_H → Prop} (hk : ∀ (h : iv_H) (s : iv_M) (hR : Rep nc Ls Xs h s) (m2 : Int32) (x2 : Int) (p2 : m2.toInt = x2), kx s x2 = some r → Rn d 297 (some .int) 136 [some (.ref q0), none, some (.int m2), none, none] [] h Q) (hq : ∀ (z : Int32) (h1 : iv_H), z.toInt = r.1 → Rep nc Ls Xs h1 r.2 → Q (some (.int z)) h1) : ∀ (n : Nat) (h : iv_H) (s : iv_M) (hR : Rep nc Ls Xs h s) (m2 : Int32) (x2 : Int) (p2 : m2.toInt = x2) (m3 : Int32) (x3 : Int) (p3 : m3.toInt = x3), FX12_finds_l39 N q0 x1 kx n s x2 x3 = some r → Rn d 297 (some .int) 39 [some (.ref q0), some (.int m1), some (.int m2), some (.int m3), none] [] h Q := by
  have hT := hX12_finds
  intro n
  induction n with
  | zero =>
    intro h s hR m2 x2 p2 m3 x3 p3 e
    rw [FX12_finds_l39] at e
    cases e
  | succ n ih =>
    intro h s hR m2 x2 p2 m3 x3 p3 e
    rw [FX12_finds_l39] at e
    refine Rn.n hT 2 (pc' := 41) (L' := [some (.ref q0), some (.int m1), some (.int m2), some (.int m3), none]) (st' := [.ref q0, .int m3]) rfl ?_
    obtain ⟨z_3632, g_3632, p_3632⟩ : ∃ z : Int32, gI h 12 57 q0 = some z ∧ z.toInt = s q0 57 := rp_gI (k := 57) hR (T12_o t0) rfl
    refine Rn.hp hT rfl rfl (gI_hp g_3632) ?_
    by_cases c_3633 : (s q0 57) ≤ x3
    · rw [if_pos c_3633] at e
      refine Rn.bt hT rfl rfl rfl (decide_eq_true ((ti_le p_3632 p3).mpr c_3633)) ?_
      exact Rn.weak (ll_s (ll_n (ll_s (ll_n (ll_n ll_e))))) (hk h s hR m2 x2 p2 e)
    · rw [if_neg c_3633] at e
      refine Rn.bf hT rfl rfl rfl (decide_eq_false (fun z => c_3633 ((ti_le p_3632 p3).mp z))) ?_
      refine Rn.n hT 2 (pc' := 51) (L' := [some (.ref q0), some (.int m1), some (.int m2), some (.int m3), none]) (st' := [.int (1500 : Int32), .int m3]) rfl ?_
      by_cases c_3634 : 1500 ≤ x3
      · rw [if_pos c_3634] at e
        refine Rn.bt hT rfl rfl rfl (decide_eq_true ((ti_le L32_1500 p3).mpr c_3634)) ?_
        exact Rn.weak (ll_s (ll_n (ll_s (ll_n (ll_n ll_e))))) (hk h s hR m2 x2 p2 e)
      · rw [if_neg c_3634] at e
        refine Rn.bf hT rfl rfl rfl (decide_eq_false (fun z => c_3634 ((ti_le L32_1500 p3).mp z))) ?_
        refine Rn.n hT 1 (pc' := 55) (L' := [some (.ref q0), some (.int m1), some (.int m2), some (.int m3), none]) (st' := [.ref q0]) rfl ?_
        obtain ⟨z_3635, g_3635, p_3635⟩ : ∃ z : Int32, gI h 12 58 q0 = some z ∧ z.toInt = s q0 58 := rp_gI (k := 58) hR (T12_o t0) rfl
        refine Rn.hp hT rfl rfl (gI_hp g_3635) ?_
        refine Rn.n hT 1 (pc' := 59) (L' := [some (.ref q0), some (.int m1), some (.int m2), some (.int m3), none]) (st' := [.int (-1 : Int32), .int z_3635]) rfl ?_
        by_cases c_3636 : (s q0 58) = (-1)
        · rw [if_pos c_3636] at e
          refine Rn.bf hT rfl rfl rfl (decide_eq_false (fun z => z ((ti_e p_3635 L32_m1).mpr c_3636))) ?_
          refine Rn.n hT 1 (pc' := 63) (L' := [some (.ref q0), some (.int m1), some (.int m2), some (.int m3), none]) (st' := [.int m2]) rfl ?_
          by_cases c_3637 : x2 = 0
          · rw [if_pos c_3637] at e
            refine Rn.bf hT rfl rfl rfl (decide_eq_false (fun z => z ((ti_e p2 L32_0).mpr c_3637))) ?_
            refine Rn.n hT 2 (pc' := 68) (L' := [some (.ref q0), some (.int m1), some (.int m2), some (.int m3), none]) (st' := [.int m3, .ref q0]) rfl ?_
            obtain ⟨s_3639, e_3638, e⟩ := Option.bind_eq_some_iff.mp e
            refine Rn.call hT rfl rfl rfl (Nat.le_of_ble_eq_true rfl) (rcv_v gX12_laysSituation (by omega) (rp_ck hR (T12_o t0))) (RX12_laysSituation (by omega) hR t0 p3 e_3638 (fun h_3639 R_3639 => ?_))
            show Rn d _ _ 71 [some (.ref q0), some (.int m1), some (.int m2), some (.int m3), none] [] h_3639 Q
            refine Rn.n hT 2 (pc' := 74) (L' := [some (.ref q0), some (.int m1), some (.int m2), some (.int m3), some (.int (0 : Int32))]) (st' := []) rfl ?_
            refine Rn.weak (ll_s (ll_s (ll_s (ll_s (ll_s ll_e))))) (RX12_finds_l74 hd t0 p1 p3 (fun h_3640 s_3640 R_3640 m3641_2 x3641_2 p3641_2 e => ?_) hq N h_3639 s_3639 R_3639 m2 x2 p2 (0 : Int32) 0 L32_0 e)
            try dsimp only at e
            exact Rn.weak (ll_s (ll_s (ll_s (ll_s (ll_n ll_e))))) (RX12_finds_b130 hd R_3640 t0 p1 p3641_2 p3 ih hk hq e)
          · rw [if_neg c_3637] at e
            refine Rn.bt hT rfl rfl rfl (decide_eq_true (fun z => c_3637 ((ti_e p2 L32_0).mp z))) ?_
            exact Rn.weak (ll_s (ll_n (ll_s (ll_n (ll_n ll_e))))) (hk h s hR m2 x2 p2 e)
        · rw [if_neg c_3636] at e
          refine Rn.bt hT rfl rfl rfl (decide_eq_true (fun z => c_3636 ((ti_e p_3635 L32_m1).mp z))) ?_
          exact Rn.weak (ll_s (ll_n (ll_s (ll_n (ll_n ll_e))))) (hk h s hR m2 x2 p2 e)
def FX12_finds_b164 (N : Nat) (s : iv_M)  (xs0 : Int) : Option (Int × iv_M) := (some (xs0, s))
set_option maxRecDepth 10000 in
set_option maxHeartbeats 4000000 in
theorem RX12_finds_b164 {d N nc Ls : Nat} {Xs : Nat → Int32} (hd : 8 ≤ d) {h : iv_H} {s : iv_M} (hR : Rep nc Ls Xs h s)  {ms0 : Int32} {xs0 : Int} (ps0 : ms0.toInt = xs0) {r : Int × iv_M} {Q : Option Value → iv_H → Prop} (hq : ∀ (z : Int32) (h1 : iv_H), z.toInt = r.1 → Rep nc Ls Xs h1 r.2 → Q (some (.int z)) h1) (e : FX12_finds_b164 N s  xs0 = some r) : Rn d 297 (some .int) 164 [none, none, none, none, none] [.int ms0] h Q := by
  have hT := hX12_finds
  unfold FX12_finds_b164 at e
  obtain rfl := Option.some.inj e
  exact Rn.ret hT rfl rfl rfl (hq ms0 h ps0 hR)
def FX12_finds_l173 (N : Nat) (q0 : Nat) (kx : iv_M → Int → Option (Int × iv_M)) : Nat → iv_M → Int → Int → Option (Int × iv_M)
  | 0, _, _, _ => none
  | n + 1, s, x3, x4 => ((rd s (q0 + 37) 1501 x4).bind fun v_3663 => (if v_3663 = (-1) then (kx s x3) else ((rd s (q0 + 37) 1501 x4).bind fun v_3665 => (FX12_finds_l173 N q0 kx n s (w32 (x3 + 1)) v_3665))))
set_option maxRecDepth 10000 in
set_option maxHeartbeats 4000000 in
theorem RX12_finds_l173 {d N nc Ls : Nat} {Xs : Nat → Int32} (hd : 8 ≤ d) {q0 : Nat} (t0 : T12 nc q0) {kx : iv_M → Int → Option (Int × iv_M)} {r : Int × iv_M} {Q : Option Value → iv_H → Prop} (hk : ∀ (h : iv_H) (s : iv_M) (hR : Rep nc Ls Xs h s) (m3 : Int32) (x3 : Int) (p3 : m3.toInt = x3), kx s x3 = some r → Rn d 297 (some .int) 199 [none, none, none, some (.int m3), none] [] h Q) (hq : ∀ (z : Int32) (h1 : iv_H), z.toInt = r.1 → Rep nc Ls Xs h1 r.2 → Q (some (.int z)) h1) : ∀ (n : Nat) (h : iv_H) (s : iv_M) (hR : Rep nc Ls Xs h s) (m3 : Int32) (x3 : Int) (p3 : m3.toInt = x3) (m4 : Int32) (x4 : Int) (p4 : m4.toInt = x4), FX12_finds_l173 N q0 kx n s x3 x4 = some r → Rn d 297 (some .int) 173 [some (.ref q0), none, none, some (.int m3), some (.int m4)] [] h Q := by
  have hT := hX12_finds
  intro n
  induction n with
  | zero =>
    intro h s hR m3 x3 p3 m4 x4 p4 e
    rw [FX12_finds_l173] at e
    cases e
  | succ n ih =>
    intro h s hR m3 x3 p3 m4 x4 p4 e
    rw [FX12_finds_l173] at e
    refine Rn.n hT 1 (pc' := 174) (L' := [some (.ref q0), none, none, some (.int m3), some (.int m4)]) (st' := [.ref q0]) rfl ?_
    refine Rn.hp hT rfl rfl (gR_hp (rp_gR hR (T12_o t0) rfl)) ?_
    refine Rn.n hT 1 (pc' := 179) (L' := [some (.ref q0), none, none, some (.int m3), some (.int m4)]) (st' := [.int m4, .ref (q0 + 37)]) rfl ?_
    obtain ⟨v_3663, e_3663, e⟩ := Option.bind_eq_some_iff.mp e
    obtain ⟨z_3663, g_3663, p_3663⟩ := rp_aI hR (T12_51 t0) (T12_51l t0) p4 e_3663
    refine Rn.hp hT rfl rfl (aI_hp g_3663) ?_
    refine Rn.n hT 1 (pc' := 181) (L' := [some (.ref q0), none, none, some (.int m3), some (.int m4)]) (st' := [.int (-1 : Int32), .int z_3663]) rfl ?_
    by_cases c_3664 : v_3663 = (-1)
    · rw [if_pos c_3664] at e
      refine Rn.bt hT rfl rfl rfl (decide_eq_true ((ti_e p_3663 L32_m1).mpr c_3664)) ?_
      exact Rn.weak (ll_n (ll_n (ll_n (ll_s (ll_n ll_e))))) (hk h s hR m3 x3 p3 e)
    · rw [if_neg c_3664] at e
      refine Rn.bf hT rfl rfl rfl (decide_eq_false (fun z => c_3664 ((ti_e p_3663 L32_m1).mp z))) ?_
      refine Rn.n hT 2 (pc' := 188) (L' := [some (.ref q0), none, none, some (.int (m3 + (1 : Int32))), some (.int m4)]) (st' := [.ref q0]) rfl ?_
      refine Rn.hp hT rfl rfl (gR_hp (rp_gR hR (T12_o t0) rfl)) ?_
      refine Rn.n hT 1 (pc' := 193) (L' := [some (.ref q0), none, none, some (.int (m3 + (1 : Int32))), some (.int m4)]) (st' := [.int m4, .ref (q0 + 37)]) rfl ?_
      obtain ⟨v_3665, e_3665, e⟩ := Option.bind_eq_some_iff.mp e
      obtain ⟨z_3665, g_3665, p_3665⟩ := rp_aI hR (T12_51 t0) (T12_51l t0) p4 e_3665
      refine Rn.hp hT rfl rfl (aI_hp g_3665) ?_
      refine Rn.n hT 2 (pc' := 173) (L' := [some (.ref q0), none, none, some (.int (m3 + (1 : Int32))), some (.int z_3665)]) (st' := []) rfl ?_
      exact Rn.weak (ll_s (ll_n (ll_n (ll_s (ll_s ll_e))))) (ih h s hR (m3 + (1 : Int32)) (w32 (x3 + 1)) (ti_add p3 L32_1) z_3665 v_3665 p_3665 e)
def FX12_finds_b136 (N : Nat) (s : iv_M) (q0 : Nat) (x2 : Int)  : Option (Int × iv_M) := ((FX12_laysFloor N s q0 (q0 + 41) 0).bind fun s_3656 => (if (s_3656 q0 58) = (-1) then (if x2 = 0 then (FX12_finds_b164 N s_3656 (-2)) else (FX12_finds_b164 N s_3656 (-3))) else (FX12_finds_l173 N q0 (fun (s_3660 : iv_M) (x3661_3 : Int) => (some (x3661_3, s_3660))) N s_3656 0 (s_3656 q0 58))))
set_option maxRecDepth 10000 in
set_option maxHeartbeats 4000000 in
theorem RX12_finds_b136 {d N nc Ls : Nat} {Xs : Nat → Int32} (hd : 8 ≤ d) {h : iv_H} {s : iv_M} (hR : Rep nc Ls Xs h s) {q0 : Nat} (t0 : T12 nc q0) {m2 : Int32} {x2 : Int} (p2 : m2.toInt = x2)  {r : Int × iv_M} {Q : Option Value → iv_H → Prop} (hq : ∀ (z : Int32) (h1 : iv_H), z.toInt = r.1 → Rep nc Ls Xs h1 r.2 → Q (some (.int z)) h1) (e : FX12_finds_b136 N s q0 x2  = some r) : Rn d 297 (some .int) 136 [some (.ref q0), none, some (.int m2), none, none] [] h Q := by
  have hT := hX12_finds
  unfold FX12_finds_b136 at e
  refine Rn.n hT 2 (pc' := 138) (L' := [some (.ref q0), none, some (.int m2), none, none]) (st' := [.ref q0, .ref q0]) rfl ?_
  refine Rn.hp hT rfl rfl (gR_hp (rp_gR hR (T12_o t0) rfl)) ?_
  refine Rn.n hT 1 (pc' := 142) (L' := [some (.ref q0), none, some (.int m2), none, none]) (st' := [.int (0 : Int32), .ref (q0 + 41), .ref q0]) rfl ?_
  obtain ⟨s_3656, e_3655, e⟩ := Option.bind_eq_some_iff.mp e
  refine Rn.call hT rfl rfl rfl (Nat.le_of_ble_eq_true rfl) (rcv_v gX12_laysFloor (by omega) (rp_ck hR (T12_o t0))) (RX12_laysFloor (by omega) hR t0 (T12_55 t0) L32_0 e_3655 (fun h_3656 R_3656 => ?_))
  show Rn d _ _ 145 [some (.ref q0), none, some (.int m2), none, none] [] h_3656 Q
  refine Rn.n hT 1 (pc' := 146) (L' := [some (.ref q0), none, some (.int m2), none, none]) (st' := [.ref q0]) rfl ?_
  obtain ⟨z_3657, g_3657, p_3657⟩ : ∃ z : Int32, gI h_3656 12 58 q0 = some z ∧ z.toInt = s_3656 q0 58 := rp_gI (k := 58) R_3656 (T12_o t0) rfl
  refine Rn.hp hT rfl rfl (gI_hp g_3657) ?_
  refine Rn.n hT 1 (pc' := 150) (L' := [some (.ref q0), none, some (.int m2), none, none]) (st' := [.int (-1 : Int32), .int z_3657]) rfl ?_
  by_cases c_3658 : (s_3656 q0 58) = (-1)
  · rw [if_pos c_3658] at e
    refine Rn.bf hT rfl rfl rfl (decide_eq_false (fun z => z ((ti_e p_3657 L32_m1).mpr c_3658))) ?_
    refine Rn.n hT 1 (pc' := 154) (L' := [some (.ref q0), none, some (.int m2), none, none]) (st' := [.int m2]) rfl ?_
    by_cases c_3662 : x2 = 0
    · rw [if_pos c_3662] at e
      refine Rn.bt hT rfl rfl rfl (decide_eq_true ((ti_e p2 L32_0).mpr c_3662)) ?_
      refine Rn.n hT 1 (pc' := 164) (L' := [some (.ref q0), none, some (.int m2), none, none]) (st' := [.int (-2 : Int32)]) rfl ?_
      exact Rn.weak (ll_n (ll_n (ll_n (ll_n (ll_n ll_e))))) (RX12_finds_b164 hd R_3656 L32_m2 hq e)
    · rw [if_neg c_3662] at e
      refine Rn.bf hT rfl rfl rfl (decide_eq_false (fun z => c_3662 ((ti_e p2 L32_0).mp z))) ?_
      refine Rn.n hT 2 (pc' := 164) (L' := [some (.ref q0), none, some (.int m2), none, none]) (st' := [.int (-3 : Int32)]) rfl ?_
      exact Rn.weak (ll_n (ll_n (ll_n (ll_n (ll_n ll_e))))) (RX12_finds_b164 hd R_3656 L32_m3 hq e)
  · rw [if_neg c_3658] at e
    refine Rn.bt hT rfl rfl rfl (decide_eq_true (fun z => c_3658 ((ti_e p_3657 L32_m1).mp z))) ?_
    refine Rn.n hT 3 (pc' := 168) (L' := [some (.ref q0), none, some (.int m2), some (.int (0 : Int32)), none]) (st' := [.ref q0]) rfl ?_
    obtain ⟨z_3659, g_3659, p_3659⟩ : ∃ z : Int32, gI h_3656 12 58 q0 = some z ∧ z.toInt = s_3656 q0 58 := rp_gI (k := 58) R_3656 (T12_o t0) rfl
    refine Rn.hp hT rfl rfl (gI_hp g_3659) ?_
    refine Rn.n hT 1 (pc' := 173) (L' := [some (.ref q0), none, some (.int m2), some (.int (0 : Int32)), some (.int z_3659)]) (st' := []) rfl ?_
    refine Rn.weak (ll_s (ll_n (ll_n (ll_s (ll_s ll_e))))) (RX12_finds_l173 hd t0 (fun h_3660 s_3660 R_3660 m3661_3 x3661_3 p3661_3 e => ?_) hq N h_3656 s_3656 R_3656 (0 : Int32) 0 L32_0 z_3659 (s_3656 q0 58) p_3659 e)
    try dsimp only at e
    refine Rn.n hT 1 (pc' := 200) (L' := [none, none, none, some (.int m3661_3), none]) (st' := [.int m3661_3]) rfl ?_
    obtain rfl := Option.some.inj e
    exact Rn.ret hT rfl rfl rfl (hq m3661_3 h_3660 p3661_3 R_3660)
def FX12_finds (N : Nat) (s : iv_M) (q0 : Nat) (x1 : Int) : Option (Int × iv_M) := ((FX12_fillsFloor N s q0 (q0 + 41) 0).bind fun s_3620 => ((pt s_3620 q0 56 (w32 ((s_3620 q0 56) + 1))).bind fun s_3622 => ((pt s_3622 q0 57 0).bind fun s_3624 => ((pt s_3624 q0 58 (-1)).bind fun s_3626 => ((FX12_comes N s_3626 q0 (-1) (-1) x1).bind fun r_3628 => (fun (v_3628 : Int) (s_3629 : iv_M) => (FX12_finds_l39 N q0 x1 (fun (s_3630 : iv_M) (x3631_2 : Int) => (FX12_finds_b136 N s_3630 q0 x3631_2)) N s_3629 v_3628 0)) r_3628.1 r_3628.2)))))
set_option maxRecDepth 10000 in
set_option maxHeartbeats 4000000 in
theorem RX12_finds {d N nc Ls : Nat} {Xs : Nat → Int32} (hd : 9 ≤ d) {h : iv_H} {s : iv_M} (hR : Rep nc Ls Xs h s) {q0 : Nat} (t0 : T12 nc q0) {m1 : Int32} {x1 : Int} (p1 : m1.toInt = x1) {r : Int × iv_M} {Q : Option Value → iv_H → Prop} (e : FX12_finds N s q0 x1 = some r) (hq : ∀ (z : Int32) (h1 : iv_H), z.toInt = r.1 → Rep nc Ls Xs h1 r.2 → Q (some (.int z)) h1) : Cl d 297 [.ref q0, .int m1] h Q := by
  obtain ⟨d, rfl⟩ : ∃ k, d = k + 1 := ⟨d - 1, by omega⟩
  have hd : 8 ≤ d := by omega
  have hT := hX12_finds
  unfold FX12_finds at e
  refine Cl.into (by decide) gX12_finds rfl ?_
  show Rn d 297 (some .int) 0 [some (.ref q0), some (.int m1), none, none, none] [] h Q
  refine Rn.n hT 2 (pc' := 2) (L' := [some (.ref q0), some (.int m1), none, none, none]) (st' := [.ref q0, .ref q0]) rfl ?_
  refine Rn.hp hT rfl rfl (gR_hp (rp_gR hR (T12_o t0) rfl)) ?_
  refine Rn.n hT 1 (pc' := 6) (L' := [some (.ref q0), some (.int m1), none, none, none]) (st' := [.int (0 : Int32), .ref (q0 + 41), .ref q0]) rfl ?_
  obtain ⟨s_3620, e_3619, e⟩ := Option.bind_eq_some_iff.mp e
  refine Rn.call hT rfl rfl rfl (Nat.le_of_ble_eq_true rfl) (rcv_v gX12_fillsFloor (by omega) (rp_ck hR (T12_o t0))) (RX12_fillsFloor (by omega) hR t0 (T12_55 t0) L32_0 e_3619 (fun h_3620 R_3620 => ?_))
  show Rn d _ _ 9 [some (.ref q0), some (.int m1), none, none, none] [] h_3620 Q
  refine Rn.n hT 2 (pc' := 11) (L' := [some (.ref q0), some (.int m1), none, none, none]) (st' := [.ref q0, .ref q0]) rfl ?_
  obtain ⟨z_3621, g_3621, p_3621⟩ : ∃ z : Int32, gI h_3620 12 56 q0 = some z ∧ z.toInt = s_3620 q0 56 := rp_gI (k := 56) R_3620 (T12_o t0) rfl
  refine Rn.hp hT rfl rfl (gI_hp g_3621) ?_
  refine Rn.n hT 2 (pc' := 16) (L' := [some (.ref q0), some (.int m1), none, none, none]) (st' := [.int (z_3621 + (1 : Int32)), .ref q0]) rfl ?_
  obtain ⟨s_3622, e_3623, e⟩ := Option.bind_eq_some_iff.mp e
  obtain ⟨h_3622, g_3623, R_3622⟩ := rp_pI (ci := 12) (k := 56) R_3620 (T12_o t0) rfl rfl (ti_add p_3621 L32_1) e_3623
  refine Rn.hp hT rfl rfl (pV_hp rfl g_3623) ?_
  refine Rn.n hT 2 (pc' := 21) (L' := [some (.ref q0), some (.int m1), none, none, none]) (st' := [.int (0 : Int32), .ref q0]) rfl ?_
  obtain ⟨s_3624, e_3625, e⟩ := Option.bind_eq_some_iff.mp e
  obtain ⟨h_3624, g_3625, R_3624⟩ := rp_pI (ci := 12) (k := 57) R_3622 (T12_o t0) rfl rfl L32_0 e_3625
  refine Rn.hp hT rfl rfl (pV_hp rfl g_3625) ?_
  refine Rn.n hT 2 (pc' := 26) (L' := [some (.ref q0), some (.int m1), none, none, none]) (st' := [.int (-1 : Int32), .ref q0]) rfl ?_
  obtain ⟨s_3626, e_3627, e⟩ := Option.bind_eq_some_iff.mp e
  obtain ⟨h_3626, g_3627, R_3626⟩ := rp_pI (ci := 12) (k := 58) R_3624 (T12_o t0) rfl rfl L32_m1 e_3627
  refine Rn.hp hT rfl rfl (pV_hp rfl g_3627) ?_
  refine Rn.n hT 4 (pc' := 33) (L' := [some (.ref q0), some (.int m1), none, none, none]) (st' := [.int m1, .int (-1 : Int32), .int (-1 : Int32), .ref q0]) rfl ?_
  obtain ⟨⟨v_3628, s_3629⟩, e_3628, e⟩ := Option.bind_eq_some_iff.mp e
  try dsimp only at e
  try dsimp only at e
  refine Rn.call hT rfl rfl rfl (Nat.le_of_ble_eq_true rfl) (rcv_v gX12_comes (by omega) (rp_ck R_3626 (T12_o t0))) (RX12_comes (by omega) R_3626 t0 L32_m1 L32_m1 p1 e_3628 (fun z_3628 h_3629 p_3628 R_3629 => ?_))
  show Rn d _ _ 36 [some (.ref q0), some (.int m1), none, none, none] [.int z_3628] h_3629 Q
  refine Rn.n hT 3 (pc' := 39) (L' := [some (.ref q0), some (.int m1), some (.int z_3628), some (.int (0 : Int32)), none]) (st' := []) rfl ?_
  refine Rn.weak (ll_s (ll_s (ll_s (ll_s (ll_n ll_e))))) (RX12_finds_l39 hd t0 p1 (fun h_3630 s_3630 R_3630 m3631_2 x3631_2 p3631_2 e => ?_) hq N h_3629 s_3629 R_3629 z_3628 v_3628 p_3628 (0 : Int32) 0 L32_0 e)
  try dsimp only at e
  exact Rn.weak (ll_s (ll_n (ll_s (ll_n (ll_n ll_e))))) (RX12_finds_b136 hd R_3630 t0 p3631_2 hq e)
set_option maxRecDepth 10000 in
theorem hX12_nights : iv_Tb 298 tX12_nights := iv_tb_of (m := mX12_nights) rfl
set_option maxRecDepth 10000 in
theorem gX12_nights : PG.2 298 = some mX12_nights := iv_pi_of (t := tX12_nights) rfl (by decide)
def FX12_nights_b17 (N : Nat) (s : iv_M)  (xs0 : Int) : Option (Int × iv_M) := (some (xs0, s))
set_option maxRecDepth 10000 in
set_option maxHeartbeats 4000000 in
theorem RX12_nights_b17 {d N nc Ls : Nat} {Xs : Nat → Int32} (hd : 9 ≤ d) {h : iv_H} {s : iv_M} (hR : Rep nc Ls Xs h s)  {ms0 : Int32} {xs0 : Int} (ps0 : ms0.toInt = xs0) {r : Int × iv_M} {Q : Option Value → iv_H → Prop} (hq : ∀ (z : Int32) (h1 : iv_H), z.toInt = r.1 → Rep nc Ls Xs h1 r.2 → Q (some (.int z)) h1) (e : FX12_nights_b17 N s  xs0 = some r) : Rn d 298 (some .int) 17 [none, none] [.int ms0] h Q := by
  have hT := hX12_nights
  unfold FX12_nights_b17 at e
  obtain rfl := Option.some.inj e
  exact Rn.ret hT rfl rfl rfl (hq ms0 h ps0 hR)
def FX12_nights (N : Nat) (s : iv_M) (q0 : Nat) (x1 : Int) : Option (Int × iv_M) := ((FX12_isDraft N s q0 x1).bind fun v_3666 => (if v_3666 = 0 then (FX12_nights_b17 N s (-1)) else ((FX12_finds N s q0 x1).bind fun r_3668 => (fun (v_3668 : Int) (s_3669 : iv_M) => (FX12_nights_b17 N s_3669 v_3668)) r_3668.1 r_3668.2)))
set_option maxRecDepth 10000 in
set_option maxHeartbeats 4000000 in
theorem RX12_nights {d N nc Ls : Nat} {Xs : Nat → Int32} (hd : 10 ≤ d) {h : iv_H} {s : iv_M} (hR : Rep nc Ls Xs h s) {q0 : Nat} (t0 : T12 nc q0) {m1 : Int32} {x1 : Int} (p1 : m1.toInt = x1) {r : Int × iv_M} {Q : Option Value → iv_H → Prop} (e : FX12_nights N s q0 x1 = some r) (hq : ∀ (z : Int32) (h1 : iv_H), z.toInt = r.1 → Rep nc Ls Xs h1 r.2 → Q (some (.int z)) h1) : Cl d 298 [.ref q0, .int m1] h Q := by
  obtain ⟨d, rfl⟩ : ∃ k, d = k + 1 := ⟨d - 1, by omega⟩
  have hd : 9 ≤ d := by omega
  have hT := hX12_nights
  unfold FX12_nights at e
  refine Cl.into (by decide) gX12_nights rfl ?_
  show Rn d 298 (some .int) 0 [some (.ref q0), some (.int m1)] [] h Q
  refine Rn.n hT 2 (pc' := 2) (L' := [some (.ref q0), some (.int m1)]) (st' := [.int m1, .ref q0]) rfl ?_
  obtain ⟨v_3666, e_3666, e⟩ := Option.bind_eq_some_iff.mp e
  refine Rn.call hT rfl rfl rfl (Nat.le_of_ble_eq_true rfl) (rcv_v gX12_isDraft (by omega) (rp_ck hR (T12_o t0))) (RX12_isDraft (by omega) hR t0 p1 e_3666 (fun z_3666 p_3666 => ?_))
  show Rn d _ _ 5 [some (.ref q0), some (.int m1)] [.int z_3666] h Q
  by_cases c_3667 : v_3666 = 0
  · rw [if_pos c_3667] at e
    refine Rn.bt hT rfl rfl rfl (decide_eq_true ((ti_e p_3666 L32_0).mpr c_3667)) ?_
    refine Rn.n hT 1 (pc' := 17) (L' := [some (.ref q0), some (.int m1)]) (st' := [.int (-1 : Int32)]) rfl ?_
    exact Rn.weak (ll_n (ll_n ll_e)) (RX12_nights_b17 hd hR L32_m1 hq e)
  · rw [if_neg c_3667] at e
    refine Rn.bf hT rfl rfl rfl (decide_eq_false (fun z => c_3667 ((ti_e p_3666 L32_0).mp z))) ?_
    refine Rn.n hT 2 (pc' := 10) (L' := [some (.ref q0), some (.int m1)]) (st' := [.int m1, .ref q0]) rfl ?_
    obtain ⟨⟨v_3668, s_3669⟩, e_3668, e⟩ := Option.bind_eq_some_iff.mp e
    try dsimp only at e
    try dsimp only at e
    refine Rn.call hT rfl rfl rfl (Nat.le_of_ble_eq_true rfl) (rcv_v gX12_finds (by omega) (rp_ck hR (T12_o t0))) (RX12_finds (by omega) hR t0 p1 e_3668 (fun z_3668 h_3669 p_3668 R_3669 => ?_))
    show Rn d _ _ 13 [some (.ref q0), some (.int m1)] [.int z_3668] h_3669 Q
    refine Rn.n hT 1 (pc' := 17) (L' := [some (.ref q0), some (.int m1)]) (st' := [.int z_3668]) rfl ?_
    exact Rn.weak (ll_n (ll_n ll_e)) (RX12_nights_b17 hd R_3669 p_3668 hq e)
set_option maxRecDepth 10000 in
theorem hX12_row : iv_Tb 299 tX12_row := iv_tb_of (m := mX12_row) rfl
set_option maxRecDepth 10000 in
theorem gX12_row : PG.2 299 = some mX12_row := iv_pi_of (t := tX12_row) rfl (by decide)
def FX12_row_b24 (N : Nat) (s : iv_M)   : Option (Int × iv_M) := (some ((-1), s))
set_option maxRecDepth 10000 in
set_option maxHeartbeats 4000000 in
theorem RX12_row_b24 {d N nc Ls : Nat} {Xs : Nat → Int32} (hd : 9 ≤ d) {h : iv_H} {s : iv_M} (hR : Rep nc Ls Xs h s)   {r : Int × iv_M} {Q : Option Value → iv_H → Prop} (hq : ∀ (z : Int32) (h1 : iv_H), z.toInt = r.1 → Rep nc Ls Xs h1 r.2 → Q (some (.int z)) h1) (e : FX12_row_b24 N s   = some r) : Rn d 299 (some .int) 24 [none, none, none, none, none, none, none] [] h Q := by
  have hT := hX12_row
  unfold FX12_row_b24 at e
  refine Rn.n hT 1 (pc' := 25) (L' := [none, none, none, none, none, none, none]) (st' := [.int (-1 : Int32)]) rfl ?_
  obtain rfl := Option.some.inj e
  exact Rn.ret hT rfl rfl rfl (hq (-1 : Int32) h L32_m1 hR)
def FX12_row_b56 (N : Nat) (s : iv_M)  (xs0 : Int) : Option (Int × iv_M) := (some (xs0, s))
set_option maxRecDepth 10000 in
set_option maxHeartbeats 4000000 in
theorem RX12_row_b56 {d N nc Ls : Nat} {Xs : Nat → Int32} (hd : 9 ≤ d) {h : iv_H} {s : iv_M} (hR : Rep nc Ls Xs h s)  {ms0 : Int32} {xs0 : Int} (ps0 : ms0.toInt = xs0) {r : Int × iv_M} {Q : Option Value → iv_H → Prop} (hq : ∀ (z : Int32) (h1 : iv_H), z.toInt = r.1 → Rep nc Ls Xs h1 r.2 → Q (some (.int z)) h1) (e : FX12_row_b56 N s  xs0 = some r) : Rn d 299 (some .int) 56 [none, none, none, none, none, none, none] [.int ms0] h Q := by
  have hT := hX12_row
  unfold FX12_row_b56 at e
  obtain rfl := Option.some.inj e
  exact Rn.ret hT rfl rfl rfl (hq ms0 h ps0 hR)
def FX12_row_b44 (N : Nat) (s : iv_M) (x4 : Int)  : Option (Int × iv_M) := (if 0 ≤ x4 then (FX12_row_b56 N s (-2)) else (FX12_row_b56 N s x4))
set_option maxRecDepth 10000 in
set_option maxHeartbeats 4000000 in
theorem RX12_row_b44 {d N nc Ls : Nat} {Xs : Nat → Int32} (hd : 9 ≤ d) {h : iv_H} {s : iv_M} (hR : Rep nc Ls Xs h s) {m4 : Int32} {x4 : Int} (p4 : m4.toInt = x4)  {r : Int × iv_M} {Q : Option Value → iv_H → Prop} (hq : ∀ (z : Int32) (h1 : iv_H), z.toInt = r.1 → Rep nc Ls Xs h1 r.2 → Q (some (.int z)) h1) (e : FX12_row_b44 N s x4  = some r) : Rn d 299 (some .int) 44 [none, none, none, none, some (.int m4), none, none] [] h Q := by
  have hT := hX12_row
  unfold FX12_row_b44 at e
  refine Rn.n hT 1 (pc' := 46) (L' := [none, none, none, none, some (.int m4), none, none]) (st' := [.int m4]) rfl ?_
  by_cases c_3684 : 0 ≤ x4
  · rw [if_pos c_3684] at e
    refine Rn.bt hT rfl rfl rfl (decide_eq_true ((ti_le L32_0 p4).mpr c_3684)) ?_
    refine Rn.n hT 1 (pc' := 56) (L' := [none, none, none, none, some (.int m4), none, none]) (st' := [.int (-2 : Int32)]) rfl ?_
    exact Rn.weak (ll_n (ll_n (ll_n (ll_n (ll_n (ll_n (ll_n ll_e))))))) (RX12_row_b56 hd hR L32_m2 hq e)
  · rw [if_neg c_3684] at e
    refine Rn.bf hT rfl rfl rfl (decide_eq_false (fun z => c_3684 ((ti_le L32_0 p4).mp z))) ?_
    refine Rn.n hT 2 (pc' := 56) (L' := [none, none, none, none, some (.int m4), none, none]) (st' := [.int m4]) rfl ?_
    exact Rn.weak (ll_n (ll_n (ll_n (ll_n (ll_n (ll_n (ll_n ll_e))))))) (RX12_row_b56 hd hR p4 hq e)
def FX12_row_l69 (N : Nat) (q0 : Nat) (x2 : Int) (x3 : Int) (kx : iv_M → Int → Option (Int × iv_M)) : Nat → iv_M → Int → Int → Option (Int × iv_M)
  | 0, _, _, _ => none
  | n + 1, s, x5, x6 => (if x6 ≤ x2 then (kx s x5) else ((rd s (q0 + 37) 1501 x5).bind fun v_3686 => (FX12_row_l69 N q0 x2 x3 kx n s v_3686 (w32 (x6 + (-1))))))
set_option maxRecDepth 10000 in
set_option maxHeartbeats 4000000 in
theorem RX12_row_l69 {d N nc Ls : Nat} {Xs : Nat → Int32} (hd : 9 ≤ d) {q0 : Nat} (t0 : T12 nc q0) {m2 : Int32} {x2 : Int} (p2 : m2.toInt = x2) {m3 : Int32} {x3 : Int} (p3 : m3.toInt = x3) {kx : iv_M → Int → Option (Int × iv_M)} {r : Int × iv_M} {Q : Option Value → iv_H → Prop} (hk : ∀ (h : iv_H) (s : iv_M) (hR : Rep nc Ls Xs h s) (m5 : Int32) (x5 : Int) (p5 : m5.toInt = x5), kx s x5 = some r → Rn d 299 (some .int) 90 [some (.ref q0), none, none, some (.int m3), none, some (.int m5), none] [] h Q) (hq : ∀ (z : Int32) (h1 : iv_H), z.toInt = r.1 → Rep nc Ls Xs h1 r.2 → Q (some (.int z)) h1) : ∀ (n : Nat) (h : iv_H) (s : iv_M) (hR : Rep nc Ls Xs h s) (m5 : Int32) (x5 : Int) (p5 : m5.toInt = x5) (m6 : Int32) (x6 : Int) (p6 : m6.toInt = x6), FX12_row_l69 N q0 x2 x3 kx n s x5 x6 = some r → Rn d 299 (some .int) 69 [some (.ref q0), none, some (.int m2), some (.int m3), none, some (.int m5), some (.int m6)] [] h Q := by
  have hT := hX12_row
  intro n
  induction n with
  | zero =>
    intro h s hR m5 x5 p5 m6 x6 p6 e
    rw [FX12_row_l69] at e
    cases e
  | succ n ih =>
    intro h s hR m5 x5 p5 m6 x6 p6 e
    rw [FX12_row_l69] at e
    refine Rn.n hT 2 (pc' := 72) (L' := [some (.ref q0), none, some (.int m2), some (.int m3), none, some (.int m5), some (.int m6)]) (st' := [.int m2, .int m6]) rfl ?_
    by_cases c_3685 : x6 ≤ x2
    · rw [if_pos c_3685] at e
      refine Rn.bt hT rfl rfl rfl (decide_eq_true ((ti_le p6 p2).mpr c_3685)) ?_
      exact Rn.weak (ll_s (ll_n (ll_n (ll_s (ll_n (ll_s (ll_n ll_e))))))) (hk h s hR m5 x5 p5 e)
    · rw [if_neg c_3685] at e
      refine Rn.bf hT rfl rfl rfl (decide_eq_false (fun z => c_3685 ((ti_le p6 p2).mp z))) ?_
      refine Rn.n hT 1 (pc' := 76) (L' := [some (.ref q0), none, some (.int m2), some (.int m3), none, some (.int m5), some (.int m6)]) (st' := [.ref q0]) rfl ?_
      refine Rn.hp hT rfl rfl (gR_hp (rp_gR hR (T12_o t0) rfl)) ?_
      refine Rn.n hT 1 (pc' := 81) (L' := [some (.ref q0), none, some (.int m2), some (.int m3), none, some (.int m5), some (.int m6)]) (st' := [.int m5, .ref (q0 + 37)]) rfl ?_
      obtain ⟨v_3686, e_3686, e⟩ := Option.bind_eq_some_iff.mp e
      obtain ⟨z_3686, g_3686, p_3686⟩ := rp_aI hR (T12_51 t0) (T12_51l t0) p5 e_3686
      refine Rn.hp hT rfl rfl (aI_hp g_3686) ?_
      refine Rn.n hT 3 (pc' := 69) (L' := [some (.ref q0), none, some (.int m2), some (.int m3), none, some (.int z_3686), some (.int (m6 + (-1 : Int32)))]) (st' := []) rfl ?_
      exact Rn.weak (ll_s (ll_n (ll_s (ll_s (ll_n (ll_s (ll_s ll_e))))))) (ih h s hR z_3686 v_3686 p_3686 (m6 + (-1 : Int32)) (w32 (x6 + (-1))) (ti_add p6 L32_m1) e)
def FX12_row (N : Nat) (s : iv_M) (q0 : Nat) (x1 : Int) (x2 : Int) (x3 : Int) : Option (Int × iv_M) := ((FX12_isDraft N s q0 x1).bind fun v_3670 => (if v_3670 = 0 then (FX12_row_b24 N s) else (if x2 < 0 then (FX12_row_b24 N s) else ((FX12_in N s x3 0 2).bind fun v_3673 => (if v_3673 = 0 then (FX12_row_b24 N s) else ((FX12_finds N s q0 x1).bind fun r_3675 => (fun (v_3675 : Int) (s_3676 : iv_M) => (if v_3675 < 0 then (FX12_row_b44 N s_3676 v_3675) else (if x2 < v_3675 then (FX12_row_l69 N q0 x2 x3 (fun (s_3680 : iv_M) (x3681_5 : Int) => ((rd s_3680 (q0 + 38) 1501 x3681_5).bind fun v_3682 => ((FX12_part N s_3680 v_3682 x3).bind fun v_3683 => (some (v_3683, s_3680))))) N s_3676 (s_3676 q0 58) (w32 (v_3675 - 1))) else (FX12_row_b44 N s_3676 v_3675)))) r_3675.1 r_3675.2))))))
set_option maxRecDepth 10000 in
set_option maxHeartbeats 4000000 in
theorem RX12_row {d N nc Ls : Nat} {Xs : Nat → Int32} (hd : 10 ≤ d) {h : iv_H} {s : iv_M} (hR : Rep nc Ls Xs h s) {q0 : Nat} (t0 : T12 nc q0) {m1 : Int32} {x1 : Int} (p1 : m1.toInt = x1) {m2 : Int32} {x2 : Int} (p2 : m2.toInt = x2) {m3 : Int32} {x3 : Int} (p3 : m3.toInt = x3) {r : Int × iv_M} {Q : Option Value → iv_H → Prop} (e : FX12_row N s q0 x1 x2 x3 = some r) (hq : ∀ (z : Int32) (h1 : iv_H), z.toInt = r.1 → Rep nc Ls Xs h1 r.2 → Q (some (.int z)) h1) : Cl d 299 [.ref q0, .int m1, .int m2, .int m3] h Q := by
  obtain ⟨d, rfl⟩ : ∃ k, d = k + 1 := ⟨d - 1, by omega⟩
  have hd : 9 ≤ d := by omega
  have hT := hX12_row
  unfold FX12_row at e
  refine Cl.into (by decide) gX12_row rfl ?_
  show Rn d 299 (some .int) 0 [some (.ref q0), some (.int m1), some (.int m2), some (.int m3), none, none, none] [] h Q
  refine Rn.n hT 2 (pc' := 2) (L' := [some (.ref q0), some (.int m1), some (.int m2), some (.int m3), none, none, none]) (st' := [.int m1, .ref q0]) rfl ?_
  obtain ⟨v_3670, e_3670, e⟩ := Option.bind_eq_some_iff.mp e
  refine Rn.call hT rfl rfl rfl (Nat.le_of_ble_eq_true rfl) (rcv_v gX12_isDraft (by omega) (rp_ck hR (T12_o t0))) (RX12_isDraft (by omega) hR t0 p1 e_3670 (fun z_3670 p_3670 => ?_))
  show Rn d _ _ 5 [some (.ref q0), some (.int m1), some (.int m2), some (.int m3), none, none, none] [.int z_3670] h Q
  by_cases c_3671 : v_3670 = 0
  · rw [if_pos c_3671] at e
    refine Rn.bt hT rfl rfl rfl (decide_eq_true ((ti_e p_3670 L32_0).mpr c_3671)) ?_
    exact Rn.weak (ll_n (ll_n (ll_n (ll_n (ll_n (ll_n (ll_n ll_e))))))) (RX12_row_b24 hd hR hq e)
  · rw [if_neg c_3671] at e
    refine Rn.bf hT rfl rfl rfl (decide_eq_false (fun z => c_3671 ((ti_e p_3670 L32_0).mp z))) ?_
    refine Rn.n hT 1 (pc' := 9) (L' := [some (.ref q0), some (.int m1), some (.int m2), some (.int m3), none, none, none]) (st' := [.int m2]) rfl ?_
    by_cases c_3672 : x2 < 0
    · rw [if_pos c_3672] at e
      refine Rn.bt hT rfl rfl rfl (decide_eq_true ((ti_l p2 L32_0).mpr c_3672)) ?_
      exact Rn.weak (ll_n (ll_n (ll_n (ll_n (ll_n (ll_n (ll_n ll_e))))))) (RX12_row_b24 hd hR hq e)
    · rw [if_neg c_3672] at e
      refine Rn.bf hT rfl rfl rfl (decide_eq_false (fun z => c_3672 ((ti_l p2 L32_0).mp z))) ?_
      refine Rn.n hT 4 (pc' := 18) (L' := [some (.ref q0), some (.int m1), some (.int m2), some (.int m3), none, none, none]) (st' := [.long (2 : Int64), .long (0 : Int64), .long ((m3).toInt64)]) rfl ?_
      obtain ⟨v_3673, e_3673, e⟩ := Option.bind_eq_some_iff.mp e
      refine Rn.call hT rfl rfl rfl (Nat.le_of_ble_eq_true rfl) rfl (RX12_in (by omega) hR (ti_j p3) L64_0 L64_2 e_3673 (fun z_3673 p_3673 => ?_))
      show Rn d _ _ 21 [some (.ref q0), some (.int m1), some (.int m2), some (.int m3), none, none, none] [.int z_3673] h Q
      by_cases c_3674 : v_3673 = 0
      · rw [if_pos c_3674] at e
        refine Rn.bf hT rfl rfl rfl (decide_eq_false (fun z => z ((ti_e p_3673 L32_0).mpr c_3674))) ?_
        exact Rn.weak (ll_n (ll_n (ll_n (ll_n (ll_n (ll_n (ll_n ll_e))))))) (RX12_row_b24 hd hR hq e)
      · rw [if_neg c_3674] at e
        refine Rn.bt hT rfl rfl rfl (decide_eq_true (fun z => c_3674 ((ti_e p_3673 L32_0).mp z))) ?_
        refine Rn.n hT 2 (pc' := 28) (L' := [some (.ref q0), some (.int m1), some (.int m2), some (.int m3), none, none, none]) (st' := [.int m1, .ref q0]) rfl ?_
        obtain ⟨⟨v_3675, s_3676⟩, e_3675, e⟩ := Option.bind_eq_some_iff.mp e
        try dsimp only at e
        try dsimp only at e
        refine Rn.call hT rfl rfl rfl (Nat.le_of_ble_eq_true rfl) (rcv_v gX12_finds (by omega) (rp_ck hR (T12_o t0))) (RX12_finds (by omega) hR t0 p1 e_3675 (fun z_3675 h_3676 p_3675 R_3676 => ?_))
        show Rn d _ _ 31 [some (.ref q0), some (.int m1), some (.int m2), some (.int m3), none, none, none] [.int z_3675] h_3676 Q
        refine Rn.n hT 2 (pc' := 35) (L' := [some (.ref q0), some (.int m1), some (.int m2), some (.int m3), some (.int z_3675), none, none]) (st' := [.int z_3675]) rfl ?_
        by_cases c_3677 : v_3675 < 0
        · rw [if_pos c_3677] at e
          refine Rn.bt hT rfl rfl rfl (decide_eq_true ((ti_l p_3675 L32_0).mpr c_3677)) ?_
          exact Rn.weak (ll_n (ll_n (ll_n (ll_n (ll_s (ll_n (ll_n ll_e))))))) (RX12_row_b44 hd R_3676 p_3675 hq e)
        · rw [if_neg c_3677] at e
          refine Rn.bf hT rfl rfl rfl (decide_eq_false (fun z => c_3677 ((ti_l p_3675 L32_0).mp z))) ?_
          refine Rn.n hT 2 (pc' := 41) (L' := [some (.ref q0), some (.int m1), some (.int m2), some (.int m3), some (.int z_3675), none, none]) (st' := [.int z_3675, .int m2]) rfl ?_
          by_cases c_3678 : x2 < v_3675
          · rw [if_pos c_3678] at e
            refine Rn.bt hT rfl rfl rfl (decide_eq_true ((ti_l p2 p_3675).mpr c_3678)) ?_
            refine Rn.n hT 1 (pc' := 58) (L' := [some (.ref q0), some (.int m1), some (.int m2), some (.int m3), some (.int z_3675), none, none]) (st' := [.ref q0]) rfl ?_
            obtain ⟨z_3679, g_3679, p_3679⟩ : ∃ z : Int32, gI h_3676 12 58 q0 = some z ∧ z.toInt = s_3676 q0 58 := rp_gI (k := 58) R_3676 (T12_o t0) rfl
            refine Rn.hp hT rfl rfl (gI_hp g_3679) ?_
            refine Rn.n hT 5 (pc' := 69) (L' := [some (.ref q0), some (.int m1), some (.int m2), some (.int m3), some (.int z_3675), some (.int z_3679), some (.int (z_3675 - (1 : Int32)))]) (st' := []) rfl ?_
            refine Rn.weak (ll_s (ll_n (ll_s (ll_s (ll_n (ll_s (ll_s ll_e))))))) (RX12_row_l69 hd t0 p2 p3 (fun h_3680 s_3680 R_3680 m3681_5 x3681_5 p3681_5 e => ?_) hq N h_3676 s_3676 R_3676 z_3679 (s_3676 q0 58) p_3679 (z_3675 - (1 : Int32)) (w32 (v_3675 - 1)) (ti_sub p_3675 L32_1) e)
            try dsimp only at e
            refine Rn.n hT 1 (pc' := 91) (L' := [some (.ref q0), none, none, some (.int m3), none, some (.int m3681_5), none]) (st' := [.ref q0]) rfl ?_
            refine Rn.hp hT rfl rfl (gR_hp (rp_gR R_3680 (T12_o t0) rfl)) ?_
            refine Rn.n hT 1 (pc' := 96) (L' := [some (.ref q0), none, none, some (.int m3), none, some (.int m3681_5), none]) (st' := [.int m3681_5, .ref (q0 + 38)]) rfl ?_
            obtain ⟨v_3682, e_3682, e⟩ := Option.bind_eq_some_iff.mp e
            obtain ⟨z_3682, g_3682, p_3682⟩ := rp_aI R_3680 (T12_52 t0) (T12_52l t0) p3681_5 e_3682
            refine Rn.hp hT rfl rfl (aI_hp g_3682) ?_
            refine Rn.n hT 1 (pc' := 98) (L' := [some (.ref q0), none, none, some (.int m3), none, some (.int m3681_5), none]) (st' := [.int m3, .int z_3682]) rfl ?_
            obtain ⟨v_3683, e_3683, e⟩ := Option.bind_eq_some_iff.mp e
            refine Rn.call hT rfl rfl rfl (Nat.le_of_ble_eq_true rfl) rfl (RX12_part (by omega) R_3680 p_3682 p3 e_3683 (fun z_3683 p_3683 => ?_))
            show Rn d _ _ 101 [some (.ref q0), none, none, some (.int m3), none, some (.int m3681_5), none] [.int z_3683] h_3680 Q
            obtain rfl := Option.some.inj e
            exact Rn.ret hT rfl rfl rfl (hq z_3683 h_3680 p_3683 R_3680)
          · rw [if_neg c_3678] at e
            refine Rn.bf hT rfl rfl rfl (decide_eq_false (fun z => c_3678 ((ti_l p2 p_3675).mp z))) ?_
            exact Rn.weak (ll_n (ll_n (ll_n (ll_n (ll_s (ll_n (ll_n ll_e))))))) (RX12_row_b44 hd R_3676 p_3675 hq e)
set_option maxRecDepth 10000 in
theorem hX12_emptyMany : iv_Tb 300 tX12_emptyMany := iv_tb_of (m := mX12_emptyMany) rfl
set_option maxRecDepth 10000 in
theorem gX12_emptyMany : PG.2 300 = some mX12_emptyMany := iv_pi_of (t := tX12_emptyMany) rfl (by decide)
def FX12_emptyMany (N : Nat) (s : iv_M) (q0 : Nat) : Option (Int) := ((rd s (q0 + 1) 14 0).bind fun v_3687 => ((rd s (q0 + 1) 14 1).bind fun v_3688 => ((rd s (q0 + 1) 14 2).bind fun v_3689 => (some (w32 ((w32 (v_3687 * v_3688)) - v_3689))))))
set_option maxRecDepth 10000 in
set_option maxHeartbeats 4000000 in
theorem RX12_emptyMany {d N nc Ls : Nat} {Xs : Nat → Int32} (hd : 1 ≤ d) {h : iv_H} {s : iv_M} (hR : Rep nc Ls Xs h s) {q0 : Nat} (t0 : T12 nc q0) {r : Int} {Q : Option Value → iv_H → Prop} (e : FX12_emptyMany N s q0 = some r) (hq : ∀ (z : Int32), z.toInt = r → Q (some (.int z)) h) : Cl d 300 [.ref q0] h Q := by
  obtain ⟨d, rfl⟩ : ∃ k, d = k + 1 := ⟨d - 1, by omega⟩
  have hd : 0 ≤ d := by omega
  have hT := hX12_emptyMany
  unfold FX12_emptyMany at e
  refine Cl.into (by decide) gX12_emptyMany rfl ?_
  show Rn d 300 (some .int) 0 [some (.ref q0)] [] h Q
  refine Rn.n hT 1 (pc' := 1) (L' := [some (.ref q0)]) (st' := [.ref q0]) rfl ?_
  refine Rn.hp hT rfl rfl (gR_hp (rp_gR hR (T12_o t0) rfl)) ?_
  refine Rn.n hT 1 (pc' := 5) (L' := [some (.ref q0)]) (st' := [.int (0 : Int32), .ref (q0 + 1)]) rfl ?_
  obtain ⟨v_3687, e_3687, e⟩ := Option.bind_eq_some_iff.mp e
  obtain ⟨z_3687, g_3687, p_3687⟩ := rp_aI hR (T12_1 t0) (T12_1l t0) L32_0 e_3687
  refine Rn.hp hT rfl rfl (aI_hp g_3687) ?_
  refine Rn.n hT 1 (pc' := 7) (L' := [some (.ref q0)]) (st' := [.ref q0, .int z_3687]) rfl ?_
  refine Rn.hp hT rfl rfl (gR_hp (rp_gR hR (T12_o t0) rfl)) ?_
  refine Rn.n hT 1 (pc' := 11) (L' := [some (.ref q0)]) (st' := [.int (1 : Int32), .ref (q0 + 1), .int z_3687]) rfl ?_
  obtain ⟨v_3688, e_3688, e⟩ := Option.bind_eq_some_iff.mp e
  obtain ⟨z_3688, g_3688, p_3688⟩ := rp_aI hR (T12_1 t0) (T12_1l t0) L32_1 e_3688
  refine Rn.hp hT rfl rfl (aI_hp g_3688) ?_
  refine Rn.n hT 2 (pc' := 14) (L' := [some (.ref q0)]) (st' := [.ref q0, .int (z_3687 * z_3688)]) rfl ?_
  refine Rn.hp hT rfl rfl (gR_hp (rp_gR hR (T12_o t0) rfl)) ?_
  refine Rn.n hT 1 (pc' := 18) (L' := [some (.ref q0)]) (st' := [.int (2 : Int32), .ref (q0 + 1), .int (z_3687 * z_3688)]) rfl ?_
  obtain ⟨v_3689, e_3689, e⟩ := Option.bind_eq_some_iff.mp e
  obtain ⟨z_3689, g_3689, p_3689⟩ := rp_aI hR (T12_1 t0) (T12_1l t0) L32_2 e_3689
  refine Rn.hp hT rfl rfl (aI_hp g_3689) ?_
  refine Rn.n hT 1 (pc' := 20) (L' := [some (.ref q0)]) (st' := [.int ((z_3687 * z_3688) - z_3689)]) rfl ?_
  obtain rfl := Option.some.inj e
  exact Rn.ret hT rfl rfl rfl (hq ((z_3687 * z_3688) - z_3689) (ti_sub (ti_mul p_3687 p_3688) p_3689))
set_option maxRecDepth 10000 in
theorem hX12_canBySlides : iv_Tb 301 tX12_canBySlides := iv_tb_of (m := mX12_canBySlides) rfl
set_option maxRecDepth 10000 in
theorem gX12_canBySlides : PG.2 301 = some mX12_canBySlides := iv_pi_of (t := tX12_canBySlides) rfl (by decide)
def FX12_canBySlides_b52 (N : Nat) (s : iv_M) (q0 : Nat) (x1 : Int) (x2 : Int) (xs0 : Int) (xs1 : Int) (qs2 : Nat) (kb : iv_M → Int → Option (Int × iv_M)) (kx : iv_M → Option (Int × iv_M)) : Option (Int × iv_M) := ((wr s qs2 ((sh qs2).2 : Int) xs1 xs0).bind fun s_3709 => (kb s_3709 (w32 (x2 + 1))))
set_option maxRecDepth 10000 in
set_option maxHeartbeats 4000000 in
theorem RX12_canBySlides_b52 {d N nc Ls : Nat} {Xs : Nat → Int32} (hd : 3 ≤ d) {h : iv_H} {s : iv_M} (hR : Rep nc Ls Xs h s) {q0 : Nat} (t0 : T12 nc q0) {m1 : Int32} {x1 : Int} (p1 : m1.toInt = x1) {m2 : Int32} {x2 : Int} (p2 : m2.toInt = x2) {ms0 : Int32} {xs0 : Int} (ps0 : ms0.toInt = xs0) {ms1 : Int32} {xs1 : Int} (ps1 : ms1.toInt = xs1) {qs2 : Nat} (ts2 : TA 0 nc qs2) {kb : iv_M → Int → Option (Int × iv_M)} {kx : iv_M → Option (Int × iv_M)} {r : Int × iv_M} {Q : Option Value → iv_H → Prop} (hb : ∀ (h : iv_H) (s : iv_M) (hR : Rep nc Ls Xs h s) (mw2 : Int32) (xw2 : Int) (pw2 : mw2.toInt = xw2), kb s xw2 = some r → Rn d 301 (some .boolean) 2 [some (.ref q0), some (.int m1), some (.int mw2), none, none, none, none] [] h Q) (hk : ∀ (h : iv_H) (s : iv_M) (hR : Rep nc Ls Xs h s), kx s = some r → Rn d 301 (some .boolean) 59 [some (.ref q0), some (.int m1), none, none, none, none, none] [] h Q) (hq : ∀ (z : Int32) (h1 : iv_H), z.toInt = r.1 → Rep nc Ls Xs h1 r.2 → Q (some (.int z)) h1) (e : FX12_canBySlides_b52 N s q0 x1 x2 xs0 xs1 qs2 kb kx = some r) : Rn d 301 (some .boolean) 52 [some (.ref q0), some (.int m1), some (.int m2), none, none, none, none] [.int ms0, .int ms1, .ref qs2] h Q := by
  have hT := hX12_canBySlides
  unfold FX12_canBySlides_b52 at e
  obtain ⟨s_3709, e_3710, e⟩ := Option.bind_eq_some_iff.mp e
  obtain ⟨h_3709, g_3710, R_3709⟩ := rp_wI hR ts2 rfl ps1 ps0 e_3710
  refine Rn.hp hT rfl rfl (wI_hp g_3710) ?_
  refine Rn.n hT 2 (pc' := 2) (L' := [some (.ref q0), some (.int m1), some (.int (m2 + (1 : Int32))), none, none, none, none]) (st' := []) rfl ?_
  exact Rn.weak (ll_s (ll_s (ll_s (ll_n (ll_n (ll_n (ll_n ll_e))))))) (hb h_3709 s_3709 R_3709 (m2 + (1 : Int32)) (w32 (x2 + 1)) (ti_add p2 L32_1) e)
def FX12_canBySlides_b32 (N : Nat) (s : iv_M) (q0 : Nat) (x1 : Int) (x2 : Int) (xs0 : Int) (xs1 : Int) (qs2 : Nat) (kb : iv_M → Int → Option (Int × iv_M)) (kx : iv_M → Option (Int × iv_M)) : Option (Int × iv_M) := ((wr s qs2 ((sh qs2).2 : Int) xs1 xs0).bind fun s_3705 => ((FX12_isFloor N s_3705 q0 x2).bind fun v_3707 => (if v_3707 = 0 then (FX12_canBySlides_b52 N s_3705 q0 x1 x2 (-2) x2 (q0 + 42) kb kx) else (FX12_canBySlides_b52 N s_3705 q0 x1 x2 (-1) x2 (q0 + 42) kb kx))))
set_option maxRecDepth 10000 in
set_option maxHeartbeats 4000000 in
theorem RX12_canBySlides_b32 {d N nc Ls : Nat} {Xs : Nat → Int32} (hd : 3 ≤ d) {h : iv_H} {s : iv_M} (hR : Rep nc Ls Xs h s) {q0 : Nat} (t0 : T12 nc q0) {m1 : Int32} {x1 : Int} (p1 : m1.toInt = x1) {m2 : Int32} {x2 : Int} (p2 : m2.toInt = x2) {ms0 : Int32} {xs0 : Int} (ps0 : ms0.toInt = xs0) {ms1 : Int32} {xs1 : Int} (ps1 : ms1.toInt = xs1) {qs2 : Nat} (ts2 : TA 0 nc qs2) {kb : iv_M → Int → Option (Int × iv_M)} {kx : iv_M → Option (Int × iv_M)} {r : Int × iv_M} {Q : Option Value → iv_H → Prop} (hb : ∀ (h : iv_H) (s : iv_M) (hR : Rep nc Ls Xs h s) (mw2 : Int32) (xw2 : Int) (pw2 : mw2.toInt = xw2), kb s xw2 = some r → Rn d 301 (some .boolean) 2 [some (.ref q0), some (.int m1), some (.int mw2), none, none, none, none] [] h Q) (hk : ∀ (h : iv_H) (s : iv_M) (hR : Rep nc Ls Xs h s), kx s = some r → Rn d 301 (some .boolean) 59 [some (.ref q0), some (.int m1), none, none, none, none, none] [] h Q) (hq : ∀ (z : Int32) (h1 : iv_H), z.toInt = r.1 → Rep nc Ls Xs h1 r.2 → Q (some (.int z)) h1) (e : FX12_canBySlides_b32 N s q0 x1 x2 xs0 xs1 qs2 kb kx = some r) : Rn d 301 (some .boolean) 32 [some (.ref q0), some (.int m1), some (.int m2), none, none, none, none] [.int ms0, .int ms1, .ref qs2] h Q := by
  have hT := hX12_canBySlides
  unfold FX12_canBySlides_b32 at e
  obtain ⟨s_3705, e_3706, e⟩ := Option.bind_eq_some_iff.mp e
  obtain ⟨h_3705, g_3706, R_3705⟩ := rp_wI hR ts2 rfl ps1 ps0 e_3706
  refine Rn.hp hT rfl rfl (wI_hp g_3706) ?_
  refine Rn.n hT 1 (pc' := 34) (L' := [some (.ref q0), some (.int m1), some (.int m2), none, none, none, none]) (st' := [.ref q0]) rfl ?_
  refine Rn.hp hT rfl rfl (gR_hp (rp_gR R_3705 (T12_o t0) rfl)) ?_
  refine Rn.n hT 3 (pc' := 40) (L' := [some (.ref q0), some (.int m1), some (.int m2), none, none, none, none]) (st' := [.int m2, .ref q0, .int m2, .ref (q0 + 42)]) rfl ?_
  obtain ⟨v_3707, e_3707, e⟩ := Option.bind_eq_some_iff.mp e
  refine Rn.call hT rfl rfl rfl (Nat.le_of_ble_eq_true rfl) (rcv_v gX12_isFloor (by omega) (rp_ck R_3705 (T12_o t0))) (RX12_isFloor (by omega) R_3705 t0 p2 e_3707 (fun z_3707 p_3707 => ?_))
  show Rn d _ _ 43 [some (.ref q0), some (.int m1), some (.int m2), none, none, none, none] [.int z_3707, .int m2, .ref (q0 + 42)] h_3705 Q
  by_cases c_3708 : v_3707 = 0
  · rw [if_pos c_3708] at e
    refine Rn.bt hT rfl rfl rfl (decide_eq_true ((ti_e p_3707 L32_0).mpr c_3708)) ?_
    refine Rn.n hT 1 (pc' := 52) (L' := [some (.ref q0), some (.int m1), some (.int m2), none, none, none, none]) (st' := [.int (-2 : Int32), .int m2, .ref (q0 + 42)]) rfl ?_
    exact Rn.weak (ll_s (ll_s (ll_s (ll_n (ll_n (ll_n (ll_n ll_e))))))) (RX12_canBySlides_b52 hd R_3705 t0 p1 p2 L32_m2 p2 (T12_59 t0) hb hk hq e)
  · rw [if_neg c_3708] at e
    refine Rn.bf hT rfl rfl rfl (decide_eq_false (fun z => c_3708 ((ti_e p_3707 L32_0).mp z))) ?_
    refine Rn.n hT 2 (pc' := 52) (L' := [some (.ref q0), some (.int m1), some (.int m2), none, none, none, none]) (st' := [.int (-1 : Int32), .int m2, .ref (q0 + 42)]) rfl ?_
    exact Rn.weak (ll_s (ll_s (ll_s (ll_n (ll_n (ll_n (ll_n ll_e))))))) (RX12_canBySlides_b52 hd R_3705 t0 p1 p2 L32_m1 p2 (T12_59 t0) hb hk hq e)
def FX12_canBySlides_l2 (N : Nat) (q0 : Nat) (x1 : Int) (kx : iv_M → Option (Int × iv_M)) : Nat → iv_M → Int → Option (Int × iv_M)
  | 0, _, _ => none
  | n + 1, s, x2 => (if 16 ≤ x2 then (kx s) else ((FX12_isFloor N s q0 x2).bind fun v_3702 => (if v_3702 = 0 then (FX12_canBySlides_b32 N s q0 x1 x2 (-2) x2 (q0 + 43) (FX12_canBySlides_l2 N q0 x1 kx n) kx) else ((rd s (q0 + 8) 16 x2).bind fun v_3704 => (FX12_canBySlides_b32 N s q0 x1 x2 v_3704 x2 (q0 + 43) (FX12_canBySlides_l2 N q0 x1 kx n) kx)))))
set_option maxRecDepth 10000 in
set_option maxHeartbeats 4000000 in
theorem RX12_canBySlides_l2 {d N nc Ls : Nat} {Xs : Nat → Int32} (hd : 3 ≤ d) {q0 : Nat} (t0 : T12 nc q0) {m1 : Int32} {x1 : Int} (p1 : m1.toInt = x1) {kx : iv_M → Option (Int × iv_M)} {r : Int × iv_M} {Q : Option Value → iv_H → Prop} (hk : ∀ (h : iv_H) (s : iv_M) (hR : Rep nc Ls Xs h s), kx s = some r → Rn d 301 (some .boolean) 59 [some (.ref q0), some (.int m1), none, none, none, none, none] [] h Q) (hq : ∀ (z : Int32) (h1 : iv_H), z.toInt = r.1 → Rep nc Ls Xs h1 r.2 → Q (some (.int z)) h1) : ∀ (n : Nat) (h : iv_H) (s : iv_M) (hR : Rep nc Ls Xs h s) (m2 : Int32) (x2 : Int) (p2 : m2.toInt = x2), FX12_canBySlides_l2 N q0 x1 kx n s x2 = some r → Rn d 301 (some .boolean) 2 [some (.ref q0), some (.int m1), some (.int m2), none, none, none, none] [] h Q := by
  have hT := hX12_canBySlides
  intro n
  induction n with
  | zero =>
    intro h s hR m2 x2 p2 e
    rw [FX12_canBySlides_l2] at e
    cases e
  | succ n ih =>
    intro h s hR m2 x2 p2 e
    rw [FX12_canBySlides_l2] at e
    refine Rn.n hT 2 (pc' := 5) (L' := [some (.ref q0), some (.int m1), some (.int m2), none, none, none, none]) (st' := [.int (16 : Int32), .int m2]) rfl ?_
    by_cases c_3701 : 16 ≤ x2
    · rw [if_pos c_3701] at e
      refine Rn.bt hT rfl rfl rfl (decide_eq_true ((ti_le L32_16 p2).mpr c_3701)) ?_
      exact Rn.weak (ll_s (ll_s (ll_n (ll_n (ll_n (ll_n (ll_n ll_e))))))) (hk h s hR e)
    · rw [if_neg c_3701] at e
      refine Rn.bf hT rfl rfl rfl (decide_eq_false (fun z => c_3701 ((ti_le L32_16 p2).mp z))) ?_
      refine Rn.n hT 1 (pc' := 9) (L' := [some (.ref q0), some (.int m1), some (.int m2), none, none, none, none]) (st' := [.ref q0]) rfl ?_
      refine Rn.hp hT rfl rfl (gR_hp (rp_gR hR (T12_o t0) rfl)) ?_
      refine Rn.n hT 3 (pc' := 15) (L' := [some (.ref q0), some (.int m1), some (.int m2), none, none, none, none]) (st' := [.int m2, .ref q0, .int m2, .ref (q0 + 43)]) rfl ?_
      obtain ⟨v_3702, e_3702, e⟩ := Option.bind_eq_some_iff.mp e
      refine Rn.call hT rfl rfl rfl (Nat.le_of_ble_eq_true rfl) (rcv_v gX12_isFloor (by omega) (rp_ck hR (T12_o t0))) (RX12_isFloor (by omega) hR t0 p2 e_3702 (fun z_3702 p_3702 => ?_))
      show Rn d _ _ 18 [some (.ref q0), some (.int m1), some (.int m2), none, none, none, none] [.int z_3702, .int m2, .ref (q0 + 43)] h Q
      by_cases c_3703 : v_3702 = 0
      · rw [if_pos c_3703] at e
        refine Rn.bt hT rfl rfl rfl (decide_eq_true ((ti_e p_3702 L32_0).mpr c_3703)) ?_
        refine Rn.n hT 1 (pc' := 32) (L' := [some (.ref q0), some (.int m1), some (.int m2), none, none, none, none]) (st' := [.int (-2 : Int32), .int m2, .ref (q0 + 43)]) rfl ?_
        exact Rn.weak (ll_s (ll_s (ll_s (ll_n (ll_n (ll_n (ll_n ll_e))))))) (RX12_canBySlides_b32 hd hR t0 p1 p2 L32_m2 p2 (T12_60 t0) ih hk hq e)
      · rw [if_neg c_3703] at e
        refine Rn.bf hT rfl rfl rfl (decide_eq_false (fun z => c_3703 ((ti_e p_3702 L32_0).mp z))) ?_
        refine Rn.n hT 1 (pc' := 22) (L' := [some (.ref q0), some (.int m1), some (.int m2), none, none, none, none]) (st' := [.ref q0, .int m2, .ref (q0 + 43)]) rfl ?_
        refine Rn.hp hT rfl rfl (gR_hp (rp_gR hR (T12_o t0) rfl)) ?_
        refine Rn.n hT 1 (pc' := 26) (L' := [some (.ref q0), some (.int m1), some (.int m2), none, none, none, none]) (st' := [.int m2, .ref (q0 + 8), .int m2, .ref (q0 + 43)]) rfl ?_
        obtain ⟨v_3704, e_3704, e⟩ := Option.bind_eq_some_iff.mp e
        obtain ⟨z_3704, g_3704, p_3704⟩ := rp_aI hR (T12_8 t0) (T12_8l t0) p2 e_3704
        refine Rn.hp hT rfl rfl (aI_hp g_3704) ?_
        refine Rn.n hT 1 (pc' := 32) (L' := [some (.ref q0), some (.int m1), some (.int m2), none, none, none, none]) (st' := [.int z_3704, .int m2, .ref (q0 + 43)]) rfl ?_
        exact Rn.weak (ll_s (ll_s (ll_s (ll_n (ll_n (ll_n (ll_n ll_e))))))) (RX12_canBySlides_b32 hd hR t0 p1 p2 p_3704 p2 (T12_60 t0) ih hk hq e)
def FX12_canBySlides_l61 (N : Nat) (q0 : Nat) (x1 : Int) (kx : iv_M → Option (Int × iv_M)) : Nat → iv_M → Int → Option (Int × iv_M)
  | 0, _, _ => none
  | n + 1, s, x2 => ((rd s (q0 + 1) 14 2).bind fun v_3711 => (if v_3711 ≤ x2 then (kx s) else ((rd s (q0 + 10) 96 (w32 ((w32 (24 * x1)) + (w32 (2 * x2))))).bind fun v_3713 => ((wr s (q0 + 42) 16 v_3713 x2).bind fun s_3714 => (FX12_canBySlides_l61 N q0 x1 kx n s_3714 (w32 (x2 + 1)))))))
set_option maxRecDepth 10000 in
set_option maxHeartbeats 4000000 in
theorem RX12_canBySlides_l61 {d N nc Ls : Nat} {Xs : Nat → Int32} (hd : 3 ≤ d) {q0 : Nat} (t0 : T12 nc q0) {m1 : Int32} {x1 : Int} (p1 : m1.toInt = x1) {kx : iv_M → Option (Int × iv_M)} {r : Int × iv_M} {Q : Option Value → iv_H → Prop} (hk : ∀ (h : iv_H) (s : iv_M) (hR : Rep nc Ls Xs h s), kx s = some r → Rn d 301 (some .boolean) 96 [some (.ref q0), none, none, none, none, none, none] [] h Q) (hq : ∀ (z : Int32) (h1 : iv_H), z.toInt = r.1 → Rep nc Ls Xs h1 r.2 → Q (some (.int z)) h1) : ∀ (n : Nat) (h : iv_H) (s : iv_M) (hR : Rep nc Ls Xs h s) (m2 : Int32) (x2 : Int) (p2 : m2.toInt = x2), FX12_canBySlides_l61 N q0 x1 kx n s x2 = some r → Rn d 301 (some .boolean) 61 [some (.ref q0), some (.int m1), some (.int m2), none, none, none, none] [] h Q := by
  have hT := hX12_canBySlides
  intro n
  induction n with
  | zero =>
    intro h s hR m2 x2 p2 e
    rw [FX12_canBySlides_l61] at e
    cases e
  | succ n ih =>
    intro h s hR m2 x2 p2 e
    rw [FX12_canBySlides_l61] at e
    refine Rn.n hT 2 (pc' := 63) (L' := [some (.ref q0), some (.int m1), some (.int m2), none, none, none, none]) (st' := [.ref q0, .int m2]) rfl ?_
    refine Rn.hp hT rfl rfl (gR_hp (rp_gR hR (T12_o t0) rfl)) ?_
    refine Rn.n hT 1 (pc' := 67) (L' := [some (.ref q0), some (.int m1), some (.int m2), none, none, none, none]) (st' := [.int (2 : Int32), .ref (q0 + 1), .int m2]) rfl ?_
    obtain ⟨v_3711, e_3711, e⟩ := Option.bind_eq_some_iff.mp e
    obtain ⟨z_3711, g_3711, p_3711⟩ := rp_aI hR (T12_1 t0) (T12_1l t0) L32_2 e_3711
    refine Rn.hp hT rfl rfl (aI_hp g_3711) ?_
    by_cases c_3712 : v_3711 ≤ x2
    · rw [if_pos c_3712] at e
      refine Rn.bt hT rfl rfl rfl (decide_eq_true ((ti_le p_3711 p2).mpr c_3712)) ?_
      exact Rn.weak (ll_s (ll_n (ll_n (ll_n (ll_n (ll_n (ll_n ll_e))))))) (hk h s hR e)
    · rw [if_neg c_3712] at e
      refine Rn.bf hT rfl rfl rfl (decide_eq_false (fun z => c_3712 ((ti_le p_3711 p2).mp z))) ?_
      refine Rn.n hT 1 (pc' := 72) (L' := [some (.ref q0), some (.int m1), some (.int m2), none, none, none, none]) (st' := [.ref q0]) rfl ?_
      refine Rn.hp hT rfl rfl (gR_hp (rp_gR hR (T12_o t0) rfl)) ?_
      refine Rn.n hT 1 (pc' := 76) (L' := [some (.ref q0), some (.int m1), some (.int m2), none, none, none, none]) (st' := [.ref q0, .ref (q0 + 42)]) rfl ?_
      refine Rn.hp hT rfl rfl (gR_hp (rp_gR hR (T12_o t0) rfl)) ?_
      refine Rn.n hT 7 (pc' := 87) (L' := [some (.ref q0), some (.int m1), some (.int m2), none, none, none, none]) (st' := [.int (((24 : Int32) * m1) + ((2 : Int32) * m2)), .ref (q0 + 10), .ref (q0 + 42)]) rfl ?_
      obtain ⟨v_3713, e_3713, e⟩ := Option.bind_eq_some_iff.mp e
      obtain ⟨z_3713, g_3713, p_3713⟩ := rp_aI hR (T12_10 t0) (T12_10l t0) (ti_add (ti_mul L32_24 p1) (ti_mul L32_2 p2)) e_3713
      refine Rn.hp hT rfl rfl (aI_hp g_3713) ?_
      refine Rn.n hT 1 (pc' := 89) (L' := [some (.ref q0), some (.int m1), some (.int m2), none, none, none, none]) (st' := [.int m2, .int z_3713, .ref (q0 + 42)]) rfl ?_
      obtain ⟨s_3714, e_3715, e⟩ := Option.bind_eq_some_iff.mp e
      obtain ⟨h_3714, g_3715, R_3714⟩ := rp_wI hR (T12_59 t0) (T12_59l t0) p_3713 p2 e_3715
      refine Rn.hp hT rfl rfl (wI_hp g_3715) ?_
      refine Rn.n hT 2 (pc' := 61) (L' := [some (.ref q0), some (.int m1), some (.int (m2 + (1 : Int32))), none, none, none, none]) (st' := []) rfl ?_
      exact Rn.weak (ll_s (ll_s (ll_s (ll_n (ll_n (ll_n (ll_n ll_e))))))) (ih h_3714 s_3714 R_3714 (m2 + (1 : Int32)) (w32 (x2 + 1)) (ti_add p2 L32_1) e)
def FX12_canBySlides_b145 (N : Nat) (s : iv_M) (q0 : Nat) (x2 : Int) (x4 : Int) (xs0 : Int) (kb : iv_M → Int → Int → Int → Option (Int × iv_M)) (kx : iv_M → Int → Int → Option (Int × iv_M)) : Option (Int × iv_M) := (kb s x2 xs0 (w32 (x4 + 1)))
set_option maxRecDepth 10000 in
set_option maxHeartbeats 4000000 in
theorem RX12_canBySlides_b145 {d N nc Ls : Nat} {Xs : Nat → Int32} (hd : 3 ≤ d) {h : iv_H} {s : iv_M} (hR : Rep nc Ls Xs h s) {q0 : Nat} (t0 : T12 nc q0) {m2 : Int32} {x2 : Int} (p2 : m2.toInt = x2) {m4 : Int32} {x4 : Int} (p4 : m4.toInt = x4) {ms0 : Int32} {xs0 : Int} (ps0 : ms0.toInt = xs0) {kb : iv_M → Int → Int → Int → Option (Int × iv_M)} {kx : iv_M → Int → Int → Option (Int × iv_M)} {r : Int × iv_M} {Q : Option Value → iv_H → Prop} (hb : ∀ (h : iv_H) (s : iv_M) (hR : Rep nc Ls Xs h s) (mw2 : Int32) (xw2 : Int) (pw2 : mw2.toInt = xw2) (mw3 : Int32) (xw3 : Int) (pw3 : mw3.toInt = xw3) (mw4 : Int32) (xw4 : Int) (pw4 : mw4.toInt = xw4), kb s xw2 xw3 xw4 = some r → Rn d 301 (some .boolean) 103 [some (.ref q0), none, some (.int mw2), some (.int mw3), some (.int mw4), none, none] [] h Q) (hk : ∀ (h : iv_H) (s : iv_M) (hR : Rep nc Ls Xs h s) (mw2 : Int32) (xw2 : Int) (pw2 : mw2.toInt = xw2) (mw3 : Int32) (xw3 : Int) (pw3 : mw3.toInt = xw3), kx s xw2 xw3 = some r → Rn d 301 (some .boolean) 152 [some (.ref q0), none, some (.int mw2), some (.int mw3), none, none, none] [] h Q) (hq : ∀ (z : Int32) (h1 : iv_H), z.toInt = r.1 → Rep nc Ls Xs h1 r.2 → Q (some (.int z)) h1) (e : FX12_canBySlides_b145 N s q0 x2 x4 xs0 kb kx = some r) : Rn d 301 (some .boolean) 145 [some (.ref q0), none, some (.int m2), none, some (.int m4), none, none] [.int ms0] h Q := by
  have hT := hX12_canBySlides
  unfold FX12_canBySlides_b145 at e
  refine Rn.n hT 3 (pc' := 103) (L' := [some (.ref q0), none, some (.int m2), some (.int ms0), some (.int (m4 + (1 : Int32))), none, none]) (st' := []) rfl ?_
  exact Rn.weak (ll_s (ll_n (ll_s (ll_s (ll_s (ll_n (ll_n ll_e))))))) (hb h s hR m2 x2 p2 ms0 xs0 ps0 (m4 + (1 : Int32)) (w32 (x4 + 1)) (ti_add p4 L32_1) e)
def FX12_canBySlides_b127 (N : Nat) (s : iv_M) (q0 : Nat) (x3 : Int) (x4 : Int) (xs0 : Int) (kb : iv_M → Int → Int → Int → Option (Int × iv_M)) (kx : iv_M → Int → Int → Option (Int × iv_M)) : Option (Int × iv_M) := ((rd s (q0 + 42) 16 x4).bind fun v_3719 => (if v_3719 = (-1) then (FX12_canBySlides_b145 N s q0 xs0 x4 x4 kb kx) else (FX12_canBySlides_b145 N s q0 xs0 x4 x3 kb kx)))
set_option maxRecDepth 10000 in
set_option maxHeartbeats 4000000 in
theorem RX12_canBySlides_b127 {d N nc Ls : Nat} {Xs : Nat → Int32} (hd : 3 ≤ d) {h : iv_H} {s : iv_M} (hR : Rep nc Ls Xs h s) {q0 : Nat} (t0 : T12 nc q0) {m3 : Int32} {x3 : Int} (p3 : m3.toInt = x3) {m4 : Int32} {x4 : Int} (p4 : m4.toInt = x4) {ms0 : Int32} {xs0 : Int} (ps0 : ms0.toInt = xs0) {kb : iv_M → Int → Int → Int → Option (Int × iv_M)} {kx : iv_M → Int → Int → Option (Int × iv_M)} {r : Int × iv_M} {Q : Option Value → iv_H → Prop} (hb : ∀ (h : iv_H) (s : iv_M) (hR : Rep nc Ls Xs h s) (mw2 : Int32) (xw2 : Int) (pw2 : mw2.toInt = xw2) (mw3 : Int32) (xw3 : Int) (pw3 : mw3.toInt = xw3) (mw4 : Int32) (xw4 : Int) (pw4 : mw4.toInt = xw4), kb s xw2 xw3 xw4 = some r → Rn d 301 (some .boolean) 103 [some (.ref q0), none, some (.int mw2), some (.int mw3), some (.int mw4), none, none] [] h Q) (hk : ∀ (h : iv_H) (s : iv_M) (hR : Rep nc Ls Xs h s) (mw2 : Int32) (xw2 : Int) (pw2 : mw2.toInt = xw2) (mw3 : Int32) (xw3 : Int) (pw3 : mw3.toInt = xw3), kx s xw2 xw3 = some r → Rn d 301 (some .boolean) 152 [some (.ref q0), none, some (.int mw2), some (.int mw3), none, none, none] [] h Q) (hq : ∀ (z : Int32) (h1 : iv_H), z.toInt = r.1 → Rep nc Ls Xs h1 r.2 → Q (some (.int z)) h1) (e : FX12_canBySlides_b127 N s q0 x3 x4 xs0 kb kx = some r) : Rn d 301 (some .boolean) 127 [some (.ref q0), none, none, some (.int m3), some (.int m4), none, none] [.int ms0] h Q := by
  have hT := hX12_canBySlides
  unfold FX12_canBySlides_b127 at e
  refine Rn.n hT 2 (pc' := 129) (L' := [some (.ref q0), none, some (.int ms0), some (.int m3), some (.int m4), none, none]) (st' := [.ref q0]) rfl ?_
  refine Rn.hp hT rfl rfl (gR_hp (rp_gR hR (T12_o t0) rfl)) ?_
  refine Rn.n hT 1 (pc' := 134) (L' := [some (.ref q0), none, some (.int ms0), some (.int m3), some (.int m4), none, none]) (st' := [.int m4, .ref (q0 + 42)]) rfl ?_
  obtain ⟨v_3719, e_3719, e⟩ := Option.bind_eq_some_iff.mp e
  obtain ⟨z_3719, g_3719, p_3719⟩ := rp_aI hR (T12_59 t0) (T12_59l t0) p4 e_3719
  refine Rn.hp hT rfl rfl (aI_hp g_3719) ?_
  refine Rn.n hT 1 (pc' := 136) (L' := [some (.ref q0), none, some (.int ms0), some (.int m3), some (.int m4), none, none]) (st' := [.int (-1 : Int32), .int z_3719]) rfl ?_
  by_cases c_3720 : v_3719 = (-1)
  · rw [if_pos c_3720] at e
    refine Rn.bf hT rfl rfl rfl (decide_eq_false (fun z => z ((ti_e p_3719 L32_m1).mpr c_3720))) ?_
    refine Rn.n hT 2 (pc' := 145) (L' := [some (.ref q0), none, some (.int ms0), some (.int m3), some (.int m4), none, none]) (st' := [.int m4]) rfl ?_
    exact Rn.weak (ll_s (ll_n (ll_s (ll_n (ll_s (ll_n (ll_n ll_e))))))) (RX12_canBySlides_b145 hd hR t0 ps0 p4 p4 hb hk hq e)
  · rw [if_neg c_3720] at e
    refine Rn.bt hT rfl rfl rfl (decide_eq_true (fun z => c_3720 ((ti_e p_3719 L32_m1).mp z))) ?_
    refine Rn.n hT 1 (pc' := 145) (L' := [some (.ref q0), none, some (.int ms0), some (.int m3), some (.int m4), none, none]) (st' := [.int m3]) rfl ?_
    exact Rn.weak (ll_s (ll_n (ll_s (ll_n (ll_s (ll_n (ll_n ll_e))))))) (RX12_canBySlides_b145 hd hR t0 ps0 p4 p3 hb hk hq e)
def FX12_canBySlides_l103 (N : Nat) (q0 : Nat) (kx : iv_M → Int → Int → Option (Int × iv_M)) : Nat → iv_M → Int → Int → Int → Option (Int × iv_M)
  | 0, _, _, _, _ => none
  | n + 1, s, x2, x3, x4 => (if 16 ≤ x4 then (kx s x2 x3) else ((rd s (q0 + 43) 16 x4).bind fun v_3717 => (if v_3717 = (-1) then (FX12_canBySlides_b127 N s q0 x3 x4 x4 (FX12_canBySlides_l103 N q0 kx n) kx) else (FX12_canBySlides_b127 N s q0 x3 x4 x2 (FX12_canBySlides_l103 N q0 kx n) kx))))
set_option maxRecDepth 10000 in
set_option maxHeartbeats 4000000 in
theorem RX12_canBySlides_l103 {d N nc Ls : Nat} {Xs : Nat → Int32} (hd : 3 ≤ d) {q0 : Nat} (t0 : T12 nc q0) {kx : iv_M → Int → Int → Option (Int × iv_M)} {r : Int × iv_M} {Q : Option Value → iv_H → Prop} (hk : ∀ (h : iv_H) (s : iv_M) (hR : Rep nc Ls Xs h s) (m2 : Int32) (x2 : Int) (p2 : m2.toInt = x2) (m3 : Int32) (x3 : Int) (p3 : m3.toInt = x3), kx s x2 x3 = some r → Rn d 301 (some .boolean) 152 [some (.ref q0), none, some (.int m2), some (.int m3), none, none, none] [] h Q) (hq : ∀ (z : Int32) (h1 : iv_H), z.toInt = r.1 → Rep nc Ls Xs h1 r.2 → Q (some (.int z)) h1) : ∀ (n : Nat) (h : iv_H) (s : iv_M) (hR : Rep nc Ls Xs h s) (m2 : Int32) (x2 : Int) (p2 : m2.toInt = x2) (m3 : Int32) (x3 : Int) (p3 : m3.toInt = x3) (m4 : Int32) (x4 : Int) (p4 : m4.toInt = x4), FX12_canBySlides_l103 N q0 kx n s x2 x3 x4 = some r → Rn d 301 (some .boolean) 103 [some (.ref q0), none, some (.int m2), some (.int m3), some (.int m4), none, none] [] h Q := by
  have hT := hX12_canBySlides
  intro n
  induction n with
  | zero =>
    intro h s hR m2 x2 p2 m3 x3 p3 m4 x4 p4 e
    rw [FX12_canBySlides_l103] at e
    cases e
  | succ n ih =>
    intro h s hR m2 x2 p2 m3 x3 p3 m4 x4 p4 e
    rw [FX12_canBySlides_l103] at e
    refine Rn.n hT 2 (pc' := 107) (L' := [some (.ref q0), none, some (.int m2), some (.int m3), some (.int m4), none, none]) (st' := [.int (16 : Int32), .int m4]) rfl ?_
    by_cases c_3716 : 16 ≤ x4
    · rw [if_pos c_3716] at e
      refine Rn.bt hT rfl rfl rfl (decide_eq_true ((ti_le L32_16 p4).mpr c_3716)) ?_
      exact Rn.weak (ll_s (ll_n (ll_s (ll_s (ll_n (ll_n (ll_n ll_e))))))) (hk h s hR m2 x2 p2 m3 x3 p3 e)
    · rw [if_neg c_3716] at e
      refine Rn.bf hT rfl rfl rfl (decide_eq_false (fun z => c_3716 ((ti_le L32_16 p4).mp z))) ?_
      refine Rn.n hT 1 (pc' := 111) (L' := [some (.ref q0), none, some (.int m2), some (.int m3), some (.int m4), none, none]) (st' := [.ref q0]) rfl ?_
      refine Rn.hp hT rfl rfl (gR_hp (rp_gR hR (T12_o t0) rfl)) ?_
      refine Rn.n hT 1 (pc' := 116) (L' := [some (.ref q0), none, some (.int m2), some (.int m3), some (.int m4), none, none]) (st' := [.int m4, .ref (q0 + 43)]) rfl ?_
      obtain ⟨v_3717, e_3717, e⟩ := Option.bind_eq_some_iff.mp e
      obtain ⟨z_3717, g_3717, p_3717⟩ := rp_aI hR (T12_60 t0) (T12_60l t0) p4 e_3717
      refine Rn.hp hT rfl rfl (aI_hp g_3717) ?_
      refine Rn.n hT 1 (pc' := 118) (L' := [some (.ref q0), none, some (.int m2), some (.int m3), some (.int m4), none, none]) (st' := [.int (-1 : Int32), .int z_3717]) rfl ?_
      by_cases c_3718 : v_3717 = (-1)
      · rw [if_pos c_3718] at e
        refine Rn.bf hT rfl rfl rfl (decide_eq_false (fun z => z ((ti_e p_3717 L32_m1).mpr c_3718))) ?_
        refine Rn.n hT 2 (pc' := 127) (L' := [some (.ref q0), none, some (.int m2), some (.int m3), some (.int m4), none, none]) (st' := [.int m4]) rfl ?_
        exact Rn.weak (ll_s (ll_n (ll_n (ll_s (ll_s (ll_n (ll_n ll_e))))))) (RX12_canBySlides_b127 hd hR t0 p3 p4 p4 ih hk hq e)
      · rw [if_neg c_3718] at e
        refine Rn.bt hT rfl rfl rfl (decide_eq_true (fun z => c_3718 ((ti_e p_3717 L32_m1).mp z))) ?_
        refine Rn.n hT 1 (pc' := 127) (L' := [some (.ref q0), none, some (.int m2), some (.int m3), some (.int m4), none, none]) (st' := [.int m2]) rfl ?_
        exact Rn.weak (ll_s (ll_n (ll_n (ll_s (ll_s (ll_n (ll_n ll_e))))))) (RX12_canBySlides_b127 hd hR t0 p3 p4 p2 ih hk hq e)
def FX12_canBySlides_l188 (N : Nat) (q0 : Nat) (x2 : Int) (x3 : Int) (x4 : Int) (x5 : Int) (kx : iv_M → Int → Option (Int × iv_M)) : Nat → iv_M → Int → Option (Int × iv_M)
  | 0, _, _ => none
  | n + 1, s, x6 => ((rd s (q0 + 43) 16 x6).bind fun v_3733 => ((rd s (q0 + 42) 16 x5).bind fun v_3734 => (if v_3733 = v_3734 then (kx s x6) else (FX12_canBySlides_l188 N q0 x2 x3 x4 x5 kx n s (w32 (x6 + 1))))))
set_option maxRecDepth 10000 in
set_option maxHeartbeats 4000000 in
theorem RX12_canBySlides_l188 {d N nc Ls : Nat} {Xs : Nat → Int32} (hd : 3 ≤ d) {q0 : Nat} (t0 : T12 nc q0) {m2 : Int32} {x2 : Int} (p2 : m2.toInt = x2) {m3 : Int32} {x3 : Int} (p3 : m3.toInt = x3) {m4 : Int32} {x4 : Int} (p4 : m4.toInt = x4) {m5 : Int32} {x5 : Int} (p5 : m5.toInt = x5) {kx : iv_M → Int → Option (Int × iv_M)} {r : Int × iv_M} {Q : Option Value → iv_H → Prop} (hk : ∀ (h : iv_H) (s : iv_M) (hR : Rep nc Ls Xs h s) (m6 : Int32) (x6 : Int) (p6 : m6.toInt = x6), kx s x6 = some r → Rn d 301 (some .boolean) 211 [some (.ref q0), none, some (.int m2), some (.int m3), some (.int m4), some (.int m5), some (.int m6)] [] h Q) (hq : ∀ (z : Int32) (h1 : iv_H), z.toInt = r.1 → Rep nc Ls Xs h1 r.2 → Q (some (.int z)) h1) : ∀ (n : Nat) (h : iv_H) (s : iv_M) (hR : Rep nc Ls Xs h s) (m6 : Int32) (x6 : Int) (p6 : m6.toInt = x6), FX12_canBySlides_l188 N q0 x2 x3 x4 x5 kx n s x6 = some r → Rn d 301 (some .boolean) 188 [some (.ref q0), none, some (.int m2), some (.int m3), some (.int m4), some (.int m5), some (.int m6)] [] h Q := by
  have hT := hX12_canBySlides
  intro n
  induction n with
  | zero =>
    intro h s hR m6 x6 p6 e
    rw [FX12_canBySlides_l188] at e
    cases e
  | succ n ih =>
    intro h s hR m6 x6 p6 e
    rw [FX12_canBySlides_l188] at e
    refine Rn.n hT 1 (pc' := 189) (L' := [some (.ref q0), none, some (.int m2), some (.int m3), some (.int m4), some (.int m5), some (.int m6)]) (st' := [.ref q0]) rfl ?_
    refine Rn.hp hT rfl rfl (gR_hp (rp_gR hR (T12_o t0) rfl)) ?_
    refine Rn.n hT 1 (pc' := 194) (L' := [some (.ref q0), none, some (.int m2), some (.int m3), some (.int m4), some (.int m5), some (.int m6)]) (st' := [.int m6, .ref (q0 + 43)]) rfl ?_
    obtain ⟨v_3733, e_3733, e⟩ := Option.bind_eq_some_iff.mp e
    obtain ⟨z_3733, g_3733, p_3733⟩ := rp_aI hR (T12_60 t0) (T12_60l t0) p6 e_3733
    refine Rn.hp hT rfl rfl (aI_hp g_3733) ?_
    refine Rn.n hT 1 (pc' := 196) (L' := [some (.ref q0), none, some (.int m2), some (.int m3), some (.int m4), some (.int m5), some (.int m6)]) (st' := [.ref q0, .int z_3733]) rfl ?_
    refine Rn.hp hT rfl rfl (gR_hp (rp_gR hR (T12_o t0) rfl)) ?_
    refine Rn.n hT 1 (pc' := 201) (L' := [some (.ref q0), none, some (.int m2), some (.int m3), some (.int m4), some (.int m5), some (.int m6)]) (st' := [.int m5, .ref (q0 + 42), .int z_3733]) rfl ?_
    obtain ⟨v_3734, e_3734, e⟩ := Option.bind_eq_some_iff.mp e
    obtain ⟨z_3734, g_3734, p_3734⟩ := rp_aI hR (T12_59 t0) (T12_59l t0) p5 e_3734
    refine Rn.hp hT rfl rfl (aI_hp g_3734) ?_
    by_cases c_3735 : v_3733 = v_3734
    · rw [if_pos c_3735] at e
      refine Rn.bt hT rfl rfl rfl (decide_eq_true ((ti_e p_3733 p_3734).mpr c_3735)) ?_
      exact Rn.weak (ll_s (ll_n (ll_s (ll_s (ll_s (ll_s (ll_s ll_e))))))) (hk h s hR m6 x6 p6 e)
    · rw [if_neg c_3735] at e
      refine Rn.bf hT rfl rfl rfl (decide_eq_false (fun z => c_3735 ((ti_e p_3733 p_3734).mp z))) ?_
      refine Rn.n hT 2 (pc' := 188) (L' := [some (.ref q0), none, some (.int m2), some (.int m3), some (.int m4), some (.int m5), some (.int (m6 + (1 : Int32)))]) (st' := []) rfl ?_
      exact Rn.weak (ll_s (ll_n (ll_s (ll_s (ll_s (ll_s (ll_s ll_e))))))) (ih h s hR (m6 + (1 : Int32)) (w32 (x6 + 1)) (ti_add p6 L32_1) e)
def FX12_canBySlides_b242 (N : Nat) (s : iv_M) (q0 : Nat) (x2 : Int) (x3 : Int) (x4 : Int) (x5 : Int)  (kb : iv_M → Int → Int → Option (Int × iv_M)) (kx : iv_M → Int → Option (Int × iv_M)) : Option (Int × iv_M) := (kb s x4 (w32 (x5 + 1)))
set_option maxRecDepth 10000 in
set_option maxHeartbeats 4000000 in
theorem RX12_canBySlides_b242 {d N nc Ls : Nat} {Xs : Nat → Int32} (hd : 3 ≤ d) {h : iv_H} {s : iv_M} (hR : Rep nc Ls Xs h s) {q0 : Nat} (t0 : T12 nc q0) {m2 : Int32} {x2 : Int} (p2 : m2.toInt = x2) {m3 : Int32} {x3 : Int} (p3 : m3.toInt = x3) {m4 : Int32} {x4 : Int} (p4 : m4.toInt = x4) {m5 : Int32} {x5 : Int} (p5 : m5.toInt = x5)  {kb : iv_M → Int → Int → Option (Int × iv_M)} {kx : iv_M → Int → Option (Int × iv_M)} {r : Int × iv_M} {Q : Option Value → iv_H → Prop} (hb : ∀ (h : iv_H) (s : iv_M) (hR : Rep nc Ls Xs h s) (mw4 : Int32) (xw4 : Int) (pw4 : mw4.toInt = xw4) (mw5 : Int32) (xw5 : Int) (pw5 : mw5.toInt = xw5), kb s xw4 xw5 = some r → Rn d 301 (some .boolean) 158 [some (.ref q0), none, some (.int m2), some (.int m3), some (.int mw4), some (.int mw5), none] [] h Q) (hk : ∀ (h : iv_H) (s : iv_M) (hR : Rep nc Ls Xs h s) (mw4 : Int32) (xw4 : Int) (pw4 : mw4.toInt = xw4), kx s xw4 = some r → Rn d 301 (some .boolean) 248 [none, none, some (.int m2), some (.int m3), some (.int mw4), none, none] [] h Q) (hq : ∀ (z : Int32) (h1 : iv_H), z.toInt = r.1 → Rep nc Ls Xs h1 r.2 → Q (some (.int z)) h1) (e : FX12_canBySlides_b242 N s q0 x2 x3 x4 x5  kb kx = some r) : Rn d 301 (some .boolean) 242 [some (.ref q0), none, some (.int m2), some (.int m3), some (.int m4), some (.int m5), none] [] h Q := by
  have hT := hX12_canBySlides
  unfold FX12_canBySlides_b242 at e
  refine Rn.n hT 2 (pc' := 158) (L' := [some (.ref q0), none, some (.int m2), some (.int m3), some (.int m4), some (.int (m5 + (1 : Int32))), none]) (st' := []) rfl ?_
  exact Rn.weak (ll_s (ll_n (ll_s (ll_s (ll_s (ll_s (ll_n ll_e))))))) (hb h s hR m4 x4 p4 (m5 + (1 : Int32)) (w32 (x5 + 1)) (ti_add p5 L32_1) e)
def FX12_canBySlides_l158 (N : Nat) (q0 : Nat) (x2 : Int) (x3 : Int) (kx : iv_M → Int → Option (Int × iv_M)) : Nat → iv_M → Int → Int → Option (Int × iv_M)
  | 0, _, _, _ => none
  | n + 1, s, x4, x5 => (if 16 ≤ x5 then (kx s x4) else ((rd s (q0 + 43) 16 x5).bind fun v_3722 => ((rd s (q0 + 42) 16 x5).bind fun v_3723 => (if v_3722 = v_3723 then (FX12_canBySlides_b242 N s q0 x2 x3 x4 x5 (FX12_canBySlides_l158 N q0 x2 x3 kx n) kx) else (FX12_canBySlides_l188 N q0 x2 x3 x4 x5 (fun (s_3725 : iv_M) (x3726_6 : Int) => ((rd s_3725 (q0 + 43) 16 x5).bind fun v_3727 => ((wr s_3725 (q0 + 43) 16 x3726_6 v_3727).bind fun s_3728 => ((rd s_3728 (q0 + 42) 16 x5).bind fun v_3730 => ((wr s_3728 (q0 + 43) 16 x5 v_3730).bind fun s_3731 => (FX12_canBySlides_b242 N s_3731 q0 x2 x3 (w32 (x4 + 1)) x5 (FX12_canBySlides_l158 N q0 x2 x3 kx n) kx)))))) N s (w32 (x5 + 1)))))))
set_option maxRecDepth 10000 in
set_option maxHeartbeats 4000000 in
theorem RX12_canBySlides_l158 {d N nc Ls : Nat} {Xs : Nat → Int32} (hd : 3 ≤ d) {q0 : Nat} (t0 : T12 nc q0) {m2 : Int32} {x2 : Int} (p2 : m2.toInt = x2) {m3 : Int32} {x3 : Int} (p3 : m3.toInt = x3) {kx : iv_M → Int → Option (Int × iv_M)} {r : Int × iv_M} {Q : Option Value → iv_H → Prop} (hk : ∀ (h : iv_H) (s : iv_M) (hR : Rep nc Ls Xs h s) (m4 : Int32) (x4 : Int) (p4 : m4.toInt = x4), kx s x4 = some r → Rn d 301 (some .boolean) 248 [none, none, some (.int m2), some (.int m3), some (.int m4), none, none] [] h Q) (hq : ∀ (z : Int32) (h1 : iv_H), z.toInt = r.1 → Rep nc Ls Xs h1 r.2 → Q (some (.int z)) h1) : ∀ (n : Nat) (h : iv_H) (s : iv_M) (hR : Rep nc Ls Xs h s) (m4 : Int32) (x4 : Int) (p4 : m4.toInt = x4) (m5 : Int32) (x5 : Int) (p5 : m5.toInt = x5), FX12_canBySlides_l158 N q0 x2 x3 kx n s x4 x5 = some r → Rn d 301 (some .boolean) 158 [some (.ref q0), none, some (.int m2), some (.int m3), some (.int m4), some (.int m5), none] [] h Q := by
  have hT := hX12_canBySlides
  intro n
  induction n with
  | zero =>
    intro h s hR m4 x4 p4 m5 x5 p5 e
    rw [FX12_canBySlides_l158] at e
    cases e
  | succ n ih =>
    intro h s hR m4 x4 p4 m5 x5 p5 e
    rw [FX12_canBySlides_l158] at e
    refine Rn.n hT 2 (pc' := 162) (L' := [some (.ref q0), none, some (.int m2), some (.int m3), some (.int m4), some (.int m5), none]) (st' := [.int (16 : Int32), .int m5]) rfl ?_
    by_cases c_3721 : 16 ≤ x5
    · rw [if_pos c_3721] at e
      refine Rn.bt hT rfl rfl rfl (decide_eq_true ((ti_le L32_16 p5).mpr c_3721)) ?_
      exact Rn.weak (ll_n (ll_n (ll_s (ll_s (ll_s (ll_n (ll_n ll_e))))))) (hk h s hR m4 x4 p4 e)
    · rw [if_neg c_3721] at e
      refine Rn.bf hT rfl rfl rfl (decide_eq_false (fun z => c_3721 ((ti_le L32_16 p5).mp z))) ?_
      refine Rn.n hT 1 (pc' := 166) (L' := [some (.ref q0), none, some (.int m2), some (.int m3), some (.int m4), some (.int m5), none]) (st' := [.ref q0]) rfl ?_
      refine Rn.hp hT rfl rfl (gR_hp (rp_gR hR (T12_o t0) rfl)) ?_
      refine Rn.n hT 1 (pc' := 171) (L' := [some (.ref q0), none, some (.int m2), some (.int m3), some (.int m4), some (.int m5), none]) (st' := [.int m5, .ref (q0 + 43)]) rfl ?_
      obtain ⟨v_3722, e_3722, e⟩ := Option.bind_eq_some_iff.mp e
      obtain ⟨z_3722, g_3722, p_3722⟩ := rp_aI hR (T12_60 t0) (T12_60l t0) p5 e_3722
      refine Rn.hp hT rfl rfl (aI_hp g_3722) ?_
      refine Rn.n hT 1 (pc' := 173) (L' := [some (.ref q0), none, some (.int m2), some (.int m3), some (.int m4), some (.int m5), none]) (st' := [.ref q0, .int z_3722]) rfl ?_
      refine Rn.hp hT rfl rfl (gR_hp (rp_gR hR (T12_o t0) rfl)) ?_
      refine Rn.n hT 1 (pc' := 178) (L' := [some (.ref q0), none, some (.int m2), some (.int m3), some (.int m4), some (.int m5), none]) (st' := [.int m5, .ref (q0 + 42), .int z_3722]) rfl ?_
      obtain ⟨v_3723, e_3723, e⟩ := Option.bind_eq_some_iff.mp e
      obtain ⟨z_3723, g_3723, p_3723⟩ := rp_aI hR (T12_59 t0) (T12_59l t0) p5 e_3723
      refine Rn.hp hT rfl rfl (aI_hp g_3723) ?_
      by_cases c_3724 : v_3722 = v_3723
      · rw [if_pos c_3724] at e
        refine Rn.bt hT rfl rfl rfl (decide_eq_true ((ti_e p_3722 p_3723).mpr c_3724)) ?_
        exact Rn.weak (ll_s (ll_n (ll_s (ll_s (ll_s (ll_s (ll_n ll_e))))))) (RX12_canBySlides_b242 hd hR t0 p2 p3 p4 p5 ih hk hq e)
      · rw [if_neg c_3724] at e
        refine Rn.bf hT rfl rfl rfl (decide_eq_false (fun z => c_3724 ((ti_e p_3722 p_3723).mp z))) ?_
        refine Rn.n hT 4 (pc' := 188) (L' := [some (.ref q0), none, some (.int m2), some (.int m3), some (.int m4), some (.int m5), some (.int (m5 + (1 : Int32)))]) (st' := []) rfl ?_
        refine Rn.weak (ll_s (ll_n (ll_s (ll_s (ll_s (ll_s (ll_s ll_e))))))) (RX12_canBySlides_l188 hd t0 p2 p3 p4 p5 (fun h_3725 s_3725 R_3725 m3726_6 x3726_6 p3726_6 e => ?_) hq N h s hR (m5 + (1 : Int32)) (w32 (x5 + 1)) (ti_add p5 L32_1) e)
        try dsimp only at e
        refine Rn.n hT 1 (pc' := 212) (L' := [some (.ref q0), none, some (.int m2), some (.int m3), some (.int m4), some (.int m5), some (.int m3726_6)]) (st' := [.ref q0]) rfl ?_
        refine Rn.hp hT rfl rfl (gR_hp (rp_gR R_3725 (T12_o t0) rfl)) ?_
        refine Rn.n hT 2 (pc' := 218) (L' := [some (.ref q0), none, some (.int m2), some (.int m3), some (.int m4), some (.int m5), some (.int m3726_6)]) (st' := [.ref q0, .int m3726_6, .ref (q0 + 43)]) rfl ?_
        refine Rn.hp hT rfl rfl (gR_hp (rp_gR R_3725 (T12_o t0) rfl)) ?_
        refine Rn.n hT 1 (pc' := 223) (L' := [some (.ref q0), none, some (.int m2), some (.int m3), some (.int m4), some (.int m5), some (.int m3726_6)]) (st' := [.int m5, .ref (q0 + 43), .int m3726_6, .ref (q0 + 43)]) rfl ?_
        obtain ⟨v_3727, e_3727, e⟩ := Option.bind_eq_some_iff.mp e
        obtain ⟨z_3727, g_3727, p_3727⟩ := rp_aI R_3725 (T12_60 t0) (T12_60l t0) p5 e_3727
        refine Rn.hp hT rfl rfl (aI_hp g_3727) ?_
        obtain ⟨s_3728, e_3729, e⟩ := Option.bind_eq_some_iff.mp e
        obtain ⟨h_3728, g_3729, R_3728⟩ := rp_wI R_3725 (T12_60 t0) (T12_60l t0) p3726_6 p_3727 e_3729
        refine Rn.hp hT rfl rfl (wI_hp g_3729) ?_
        refine Rn.n hT 1 (pc' := 226) (L' := [some (.ref q0), none, some (.int m2), some (.int m3), some (.int m4), some (.int m5), some (.int m3726_6)]) (st' := [.ref q0]) rfl ?_
        refine Rn.hp hT rfl rfl (gR_hp (rp_gR R_3728 (T12_o t0) rfl)) ?_
        refine Rn.n hT 2 (pc' := 232) (L' := [some (.ref q0), none, some (.int m2), some (.int m3), some (.int m4), some (.int m5), some (.int m3726_6)]) (st' := [.ref q0, .int m5, .ref (q0 + 43)]) rfl ?_
        refine Rn.hp hT rfl rfl (gR_hp (rp_gR R_3728 (T12_o t0) rfl)) ?_
        refine Rn.n hT 1 (pc' := 237) (L' := [some (.ref q0), none, some (.int m2), some (.int m3), some (.int m4), some (.int m5), some (.int m3726_6)]) (st' := [.int m5, .ref (q0 + 42), .int m5, .ref (q0 + 43)]) rfl ?_
        obtain ⟨v_3730, e_3730, e⟩ := Option.bind_eq_some_iff.mp e
        obtain ⟨z_3730, g_3730, p_3730⟩ := rp_aI R_3728 (T12_59 t0) (T12_59l t0) p5 e_3730
        refine Rn.hp hT rfl rfl (aI_hp g_3730) ?_
        obtain ⟨s_3731, e_3732, e⟩ := Option.bind_eq_some_iff.mp e
        obtain ⟨h_3731, g_3732, R_3731⟩ := rp_wI R_3728 (T12_60 t0) (T12_60l t0) p5 p_3730 e_3732
        refine Rn.hp hT rfl rfl (wI_hp g_3732) ?_
        refine Rn.n hT 1 (pc' := 242) (L' := [some (.ref q0), none, some (.int m2), some (.int m3), some (.int (m4 + (1 : Int32))), some (.int m5), some (.int m3726_6)]) (st' := []) rfl ?_
        exact Rn.weak (ll_s (ll_n (ll_s (ll_s (ll_s (ll_s (ll_n ll_e))))))) (RX12_canBySlides_b242 hd R_3731 t0 p2 p3 (ti_add p4 L32_1) p5 ih hk hq e)
def FX12_canBySlides_b285 (N : Nat) (s : iv_M)  (xs0 : Int) : Option (Int × iv_M) := (if xs0 = 0 ∨ xs0 = 1 then some (xs0, s) else none)
set_option maxRecDepth 10000 in
set_option maxHeartbeats 4000000 in
theorem RX12_canBySlides_b285 {d N nc Ls : Nat} {Xs : Nat → Int32} (hd : 3 ≤ d) {h : iv_H} {s : iv_M} (hR : Rep nc Ls Xs h s)  {ms0 : Int32} {xs0 : Int} (ps0 : ms0.toInt = xs0) {r : Int × iv_M} {Q : Option Value → iv_H → Prop} (hq : ∀ (z : Int32) (h1 : iv_H), z.toInt = r.1 → Rep nc Ls Xs h1 r.2 → Q (some (.int z)) h1) (e : FX12_canBySlides_b285 N s  xs0 = some r) : Rn d 301 (some .boolean) 285 [none, none, none, none, none, none, none] [.int ms0] h Q := by
  have hT := hX12_canBySlides
  unfold FX12_canBySlides_b285 at e
  by_cases c_3736 : xs0 = 0 ∨ xs0 = 1
  · rw [if_pos c_3736] at e
    obtain rfl := Option.some.inj e
    exact Rn.ret hT rfl rfl (if_pos (ti_b ps0 c_3736)) (hq ms0 h ps0 hR)
  · rw [if_neg c_3736] at e
    cases e
def FX12_canBySlides (N : Nat) (s : iv_M) (q0 : Nat) (x1 : Int) : Option (Int × iv_M) := (FX12_canBySlides_l2 N q0 x1 (fun (s_3690 : iv_M) => (FX12_canBySlides_l61 N q0 x1 (fun (s_3692 : iv_M) => (FX12_canBySlides_l103 N q0 (fun (s_3694 : iv_M) (x3695_2 : Int) (x3695_3 : Int) => (FX12_canBySlides_l158 N q0 x3695_2 x3695_3 (fun (s_3696 : iv_M) (x3697_4 : Int) => ((FX12_apart N s_3696 (Int.tmod x3695_2 4) (Int.tmod x3695_3 4)).bind fun v_3698 => ((FX12_apart N s_3696 (dv32 x3695_2 4) (dv32 x3695_3 4)).bind fun v_3699 => (if (Int.tmod x3697_4 2) = (Int.tmod (w32 (v_3698 + v_3699)) 2) then (FX12_canBySlides_b285 N s_3696 1) else (FX12_canBySlides_b285 N s_3696 0))))) N s_3694 0 0)) N s_3692 0 0 0)) N s_3690 0)) N s 0)
set_option maxRecDepth 10000 in
set_option maxHeartbeats 4000000 in
theorem RX12_canBySlides {d N nc Ls : Nat} {Xs : Nat → Int32} (hd : 4 ≤ d) {h : iv_H} {s : iv_M} (hR : Rep nc Ls Xs h s) {q0 : Nat} (t0 : T12 nc q0) {m1 : Int32} {x1 : Int} (p1 : m1.toInt = x1) {r : Int × iv_M} {Q : Option Value → iv_H → Prop} (e : FX12_canBySlides N s q0 x1 = some r) (hq : ∀ (z : Int32) (h1 : iv_H), z.toInt = r.1 → Rep nc Ls Xs h1 r.2 → Q (some (.int z)) h1) : Cl d 301 [.ref q0, .int m1] h Q := by
  obtain ⟨d, rfl⟩ : ∃ k, d = k + 1 := ⟨d - 1, by omega⟩
  have hd : 3 ≤ d := by omega
  have hT := hX12_canBySlides
  unfold FX12_canBySlides at e
  refine Cl.into (by decide) gX12_canBySlides rfl ?_
  show Rn d 301 (some .boolean) 0 [some (.ref q0), some (.int m1), none, none, none, none, none] [] h Q
  refine Rn.n hT 2 (pc' := 2) (L' := [some (.ref q0), some (.int m1), some (.int (0 : Int32)), none, none, none, none]) (st' := []) rfl ?_
  refine Rn.weak (ll_s (ll_s (ll_s (ll_n (ll_n (ll_n (ll_n ll_e))))))) (RX12_canBySlides_l2 hd t0 p1 (fun h_3690 s_3690 R_3690 e => ?_) hq N h s hR (0 : Int32) 0 L32_0 e)
  try dsimp only at e
  refine Rn.n hT 2 (pc' := 61) (L' := [some (.ref q0), some (.int m1), some (.int (0 : Int32)), none, none, none, none]) (st' := []) rfl ?_
  refine Rn.weak (ll_s (ll_s (ll_s (ll_n (ll_n (ll_n (ll_n ll_e))))))) (RX12_canBySlides_l61 hd t0 p1 (fun h_3692 s_3692 R_3692 e => ?_) hq N h_3690 s_3690 R_3690 (0 : Int32) 0 L32_0 e)
  try dsimp only at e
  refine Rn.n hT 6 (pc' := 103) (L' := [some (.ref q0), none, some (.int (0 : Int32)), some (.int (0 : Int32)), some (.int (0 : Int32)), none, none]) (st' := []) rfl ?_
  refine Rn.weak (ll_s (ll_n (ll_s (ll_s (ll_s (ll_n (ll_n ll_e))))))) (RX12_canBySlides_l103 hd t0 (fun h_3694 s_3694 R_3694 m3695_2 x3695_2 p3695_2 m3695_3 x3695_3 p3695_3 e => ?_) hq N h_3692 s_3692 R_3692 (0 : Int32) 0 L32_0 (0 : Int32) 0 L32_0 (0 : Int32) 0 L32_0 e)
  try dsimp only at e
  refine Rn.n hT 4 (pc' := 158) (L' := [some (.ref q0), none, some (.int m3695_2), some (.int m3695_3), some (.int (0 : Int32)), some (.int (0 : Int32)), none]) (st' := []) rfl ?_
  refine Rn.weak (ll_s (ll_n (ll_s (ll_s (ll_s (ll_s (ll_n ll_e))))))) (RX12_canBySlides_l158 hd t0 p3695_2 p3695_3 (fun h_3696 s_3696 R_3696 m3697_4 x3697_4 p3697_4 e => ?_) hq N h_3694 s_3694 R_3694 (0 : Int32) 0 L32_0 (0 : Int32) 0 L32_0 e)
  try dsimp only at e
  refine Rn.n hT 6 (pc' := 254) (L' := [none, none, some (.int m3695_2), some (.int m3695_3), some (.int m3697_4), none, none]) (st' := [.int (m3695_3 - m3695_3 / (4 : Int32) * (4 : Int32)), .int (m3695_2 - m3695_2 / (4 : Int32) * (4 : Int32))]) rfl ?_
  obtain ⟨v_3698, e_3698, e⟩ := Option.bind_eq_some_iff.mp e
  refine Rn.call hT rfl rfl rfl (Nat.le_of_ble_eq_true rfl) rfl (RX12_apart (by omega) R_3696 (ti_rem p3695_2 L32_4) (ti_rem p3695_3 L32_4) e_3698 (fun z_3698 p_3698 => ?_))
  show Rn d _ _ 257 [none, none, some (.int m3695_2), some (.int m3695_3), some (.int m3697_4), none, none] [.int z_3698] h_3696 Q
  refine Rn.n hT 6 (pc' := 263) (L' := [none, none, some (.int m3695_2), some (.int m3695_3), some (.int m3697_4), none, none]) (st' := [.int (m3695_3 / (4 : Int32)), .int (m3695_2 / (4 : Int32)), .int z_3698]) rfl ?_
  obtain ⟨v_3699, e_3699, e⟩ := Option.bind_eq_some_iff.mp e
  refine Rn.call hT rfl rfl rfl (Nat.le_of_ble_eq_true rfl) rfl (RX12_apart (by omega) R_3696 (ti_div p3695_2 L32_4) (ti_div p3695_3 L32_4) e_3699 (fun z_3699 p_3699 => ?_))
  show Rn d _ _ 266 [none, none, some (.int m3695_2), some (.int m3695_3), some (.int m3697_4), none, none] [.int z_3699, .int z_3698] h_3696 Q
  refine Rn.n hT 8 (pc' := 277) (L' := [none, none, some (.int m3695_2), some (.int m3695_3), some (.int m3697_4), some (.int (z_3698 + z_3699)), none]) (st' := [.int ((z_3698 + z_3699) - (z_3698 + z_3699) / (2 : Int32) * (2 : Int32)), .int (m3697_4 - m3697_4 / (2 : Int32) * (2 : Int32))]) rfl ?_
  by_cases c_3700 : (Int.tmod x3697_4 2) = (Int.tmod (w32 (v_3698 + v_3699)) 2)
  · rw [if_pos c_3700] at e
    refine Rn.bf hT rfl rfl rfl (decide_eq_false (fun z => z ((ti_e (ti_rem p3697_4 L32_2) (ti_rem (ti_add p_3698 p_3699) L32_2)).mpr c_3700))) ?_
    refine Rn.n hT 2 (pc' := 285) (L' := [none, none, some (.int m3695_2), some (.int m3695_3), some (.int m3697_4), some (.int (z_3698 + z_3699)), none]) (st' := [.int (1 : Int32)]) rfl ?_
    exact Rn.weak (ll_n (ll_n (ll_n (ll_n (ll_n (ll_n (ll_n ll_e))))))) (RX12_canBySlides_b285 hd R_3696 L32_1 hq e)
  · rw [if_neg c_3700] at e
    refine Rn.bt hT rfl rfl rfl (decide_eq_true (fun z => c_3700 ((ti_e (ti_rem p3697_4 L32_2) (ti_rem (ti_add p_3698 p_3699) L32_2)).mp z))) ?_
    refine Rn.n hT 1 (pc' := 285) (L' := [none, none, some (.int m3695_2), some (.int m3695_3), some (.int m3697_4), some (.int (z_3698 + z_3699)), none]) (st' := [.int (0 : Int32)]) rfl ?_
    exact Rn.weak (ll_n (ll_n (ll_n (ll_n (ll_n (ll_n (ll_n ll_e))))))) (RX12_canBySlides_b285 hd R_3696 L32_0 hq e)
set_option maxRecDepth 10000 in
theorem hX12_marks : iv_Tb 302 tX12_marks := iv_tb_of (m := mX12_marks) rfl
set_option maxRecDepth 10000 in
theorem gX12_marks : PG.2 302 = some mX12_marks := iv_pi_of (t := tX12_marks) rfl (by decide)
def FX12_marks_b156 (N : Nat) (s : iv_M) (q0 : Nat) (x1 : Int) (x2 : Int) (x3 : Int) (x5 : Int) (xs0 : Int) (kb : iv_M → Int → Int → Int → Int → Option (Int × iv_M)) (kx : iv_M → Int → Int → Int → Option (Int × iv_M)) : Option (Int × iv_M) := (kb s x2 x3 xs0 (w32 (x5 + 1)))
set_option maxRecDepth 10000 in
set_option maxHeartbeats 4000000 in
theorem RX12_marks_b156 {d N nc Ls : Nat} {Xs : Nat → Int32} (hd : 4 ≤ d) {h : iv_H} {s : iv_M} (hR : Rep nc Ls Xs h s) {q0 : Nat} (t0 : T12 nc q0) {m1 : Int32} {x1 : Int} (p1 : m1.toInt = x1) {m2 : Int32} {x2 : Int} (p2 : m2.toInt = x2) {m3 : Int32} {x3 : Int} (p3 : m3.toInt = x3) {m5 : Int32} {x5 : Int} (p5 : m5.toInt = x5) {ms0 : Int32} {xs0 : Int} (ps0 : ms0.toInt = xs0) {kb : iv_M → Int → Int → Int → Int → Option (Int × iv_M)} {kx : iv_M → Int → Int → Int → Option (Int × iv_M)} {r : Int × iv_M} {Q : Option Value → iv_H → Prop} (hb : ∀ (h : iv_H) (s : iv_M) (hR : Rep nc Ls Xs h s) (mw2 : Int32) (xw2 : Int) (pw2 : mw2.toInt = xw2) (mw3 : Int32) (xw3 : Int) (pw3 : mw3.toInt = xw3) (mw4 : Int32) (xw4 : Int) (pw4 : mw4.toInt = xw4) (mw5 : Int32) (xw5 : Int) (pw5 : mw5.toInt = xw5), kb s xw2 xw3 xw4 xw5 = some r → Rn d 302 (some .int) 20 [some (.ref q0), some (.int m1), some (.int mw2), some (.int mw3), some (.int mw4), some (.int mw5), none, none] [] h Q) (hk : ∀ (h : iv_H) (s : iv_M) (hR : Rep nc Ls Xs h s) (mw2 : Int32) (xw2 : Int) (pw2 : mw2.toInt = xw2) (mw3 : Int32) (xw3 : Int) (pw3 : mw3.toInt = xw3) (mw4 : Int32) (xw4 : Int) (pw4 : mw4.toInt = xw4), kx s xw2 xw3 xw4 = some r → Rn d 302 (some .int) 164 [some (.ref q0), some (.int m1), some (.int mw2), some (.int mw3), some (.int mw4), none, none, none] [] h Q) (hq : ∀ (z : Int32) (h1 : iv_H), z.toInt = r.1 → Rep nc Ls Xs h1 r.2 → Q (some (.int z)) h1) (e : FX12_marks_b156 N s q0 x1 x2 x3 x5 xs0 kb kx = some r) : Rn d 302 (some .int) 156 [some (.ref q0), some (.int m1), some (.int m2), some (.int m3), none, some (.int m5), none, none] [.int ms0] h Q := by
  have hT := hX12_marks
  unfold FX12_marks_b156 at e
  refine Rn.n hT 3 (pc' := 20) (L' := [some (.ref q0), some (.int m1), some (.int m2), some (.int m3), some (.int ms0), some (.int (m5 + (1 : Int32))), none, none]) (st' := []) rfl ?_
  exact Rn.weak (ll_s (ll_s (ll_s (ll_s (ll_s (ll_s (ll_n (ll_n ll_e)))))))) (hb h s hR m2 x2 p2 m3 x3 p3 ms0 xs0 ps0 (m5 + (1 : Int32)) (w32 (x5 + 1)) (ti_add p5 L32_1) e)
def FX12_marks_b151 (N : Nat) (s : iv_M) (q0 : Nat) (x1 : Int) (x2 : Int) (x3 : Int) (x5 : Int)  (kb : iv_M → Int → Int → Int → Int → Option (Int × iv_M)) (kx : iv_M → Int → Int → Int → Option (Int × iv_M)) : Option (Int × iv_M) := (FX12_marks_b156 N s q0 x1 x2 x3 x5 1 kb kx)
set_option maxRecDepth 10000 in
set_option maxHeartbeats 4000000 in
theorem RX12_marks_b151 {d N nc Ls : Nat} {Xs : Nat → Int32} (hd : 4 ≤ d) {h : iv_H} {s : iv_M} (hR : Rep nc Ls Xs h s) {q0 : Nat} (t0 : T12 nc q0) {m1 : Int32} {x1 : Int} (p1 : m1.toInt = x1) {m2 : Int32} {x2 : Int} (p2 : m2.toInt = x2) {m3 : Int32} {x3 : Int} (p3 : m3.toInt = x3) {m5 : Int32} {x5 : Int} (p5 : m5.toInt = x5)  {kb : iv_M → Int → Int → Int → Int → Option (Int × iv_M)} {kx : iv_M → Int → Int → Int → Option (Int × iv_M)} {r : Int × iv_M} {Q : Option Value → iv_H → Prop} (hb : ∀ (h : iv_H) (s : iv_M) (hR : Rep nc Ls Xs h s) (mw2 : Int32) (xw2 : Int) (pw2 : mw2.toInt = xw2) (mw3 : Int32) (xw3 : Int) (pw3 : mw3.toInt = xw3) (mw4 : Int32) (xw4 : Int) (pw4 : mw4.toInt = xw4) (mw5 : Int32) (xw5 : Int) (pw5 : mw5.toInt = xw5), kb s xw2 xw3 xw4 xw5 = some r → Rn d 302 (some .int) 20 [some (.ref q0), some (.int m1), some (.int mw2), some (.int mw3), some (.int mw4), some (.int mw5), none, none] [] h Q) (hk : ∀ (h : iv_H) (s : iv_M) (hR : Rep nc Ls Xs h s) (mw2 : Int32) (xw2 : Int) (pw2 : mw2.toInt = xw2) (mw3 : Int32) (xw3 : Int) (pw3 : mw3.toInt = xw3) (mw4 : Int32) (xw4 : Int) (pw4 : mw4.toInt = xw4), kx s xw2 xw3 xw4 = some r → Rn d 302 (some .int) 164 [some (.ref q0), some (.int m1), some (.int mw2), some (.int mw3), some (.int mw4), none, none, none] [] h Q) (hq : ∀ (z : Int32) (h1 : iv_H), z.toInt = r.1 → Rep nc Ls Xs h1 r.2 → Q (some (.int z)) h1) (e : FX12_marks_b151 N s q0 x1 x2 x3 x5  kb kx = some r) : Rn d 302 (some .int) 151 [some (.ref q0), some (.int m1), some (.int m2), some (.int m3), none, some (.int m5), none, none] [] h Q := by
  have hT := hX12_marks
  unfold FX12_marks_b151 at e
  refine Rn.n hT 2 (pc' := 156) (L' := [some (.ref q0), some (.int m1), some (.int m2), some (.int m3), none, some (.int m5), none, none]) (st' := [.int (1 : Int32)]) rfl ?_
  exact Rn.weak (ll_s (ll_s (ll_s (ll_s (ll_n (ll_s (ll_n (ll_n ll_e)))))))) (RX12_marks_b156 hd hR t0 p1 p2 p3 p5 L32_1 hb hk hq e)
def FX12_marks_b140 (N : Nat) (s : iv_M) (q0 : Nat) (x1 : Int) (x2 : Int) (x4 : Int) (x5 : Int) (x6 : Int) (xs0 : Int) (kb : iv_M → Int → Int → Int → Int → Option (Int × iv_M)) (kx : iv_M → Int → Int → Int → Option (Int × iv_M)) : Option (Int × iv_M) := (if x4 = 0 then (if x6 = 0 then (FX12_marks_b156 N s q0 x1 x2 xs0 x5 0 kb kx) else (FX12_marks_b151 N s q0 x1 x2 xs0 x5 kb kx)) else (FX12_marks_b151 N s q0 x1 x2 xs0 x5 kb kx))
set_option maxRecDepth 10000 in
set_option maxHeartbeats 4000000 in
theorem RX12_marks_b140 {d N nc Ls : Nat} {Xs : Nat → Int32} (hd : 4 ≤ d) {h : iv_H} {s : iv_M} (hR : Rep nc Ls Xs h s) {q0 : Nat} (t0 : T12 nc q0) {m1 : Int32} {x1 : Int} (p1 : m1.toInt = x1) {m2 : Int32} {x2 : Int} (p2 : m2.toInt = x2) {m4 : Int32} {x4 : Int} (p4 : m4.toInt = x4) {m5 : Int32} {x5 : Int} (p5 : m5.toInt = x5) {m6 : Int32} {x6 : Int} (p6 : m6.toInt = x6) {ms0 : Int32} {xs0 : Int} (ps0 : ms0.toInt = xs0) {kb : iv_M → Int → Int → Int → Int → Option (Int × iv_M)} {kx : iv_M → Int → Int → Int → Option (Int × iv_M)} {r : Int × iv_M} {Q : Option Value → iv_H → Prop} (hb : ∀ (h : iv_H) (s : iv_M) (hR : Rep nc Ls Xs h s) (mw2 : Int32) (xw2 : Int) (pw2 : mw2.toInt = xw2) (mw3 : Int32) (xw3 : Int) (pw3 : mw3.toInt = xw3) (mw4 : Int32) (xw4 : Int) (pw4 : mw4.toInt = xw4) (mw5 : Int32) (xw5 : Int) (pw5 : mw5.toInt = xw5), kb s xw2 xw3 xw4 xw5 = some r → Rn d 302 (some .int) 20 [some (.ref q0), some (.int m1), some (.int mw2), some (.int mw3), some (.int mw4), some (.int mw5), none, none] [] h Q) (hk : ∀ (h : iv_H) (s : iv_M) (hR : Rep nc Ls Xs h s) (mw2 : Int32) (xw2 : Int) (pw2 : mw2.toInt = xw2) (mw3 : Int32) (xw3 : Int) (pw3 : mw3.toInt = xw3) (mw4 : Int32) (xw4 : Int) (pw4 : mw4.toInt = xw4), kx s xw2 xw3 xw4 = some r → Rn d 302 (some .int) 164 [some (.ref q0), some (.int m1), some (.int mw2), some (.int mw3), some (.int mw4), none, none, none] [] h Q) (hq : ∀ (z : Int32) (h1 : iv_H), z.toInt = r.1 → Rep nc Ls Xs h1 r.2 → Q (some (.int z)) h1) (e : FX12_marks_b140 N s q0 x1 x2 x4 x5 x6 xs0 kb kx = some r) : Rn d 302 (some .int) 140 [some (.ref q0), some (.int m1), some (.int m2), none, some (.int m4), some (.int m5), some (.int m6), none] [.int ms0] h Q := by
  have hT := hX12_marks
  unfold FX12_marks_b140 at e
  refine Rn.n hT 2 (pc' := 143) (L' := [some (.ref q0), some (.int m1), some (.int m2), some (.int ms0), some (.int m4), some (.int m5), some (.int m6), none]) (st' := [.int m4]) rfl ?_
  by_cases c_3758 : x4 = 0
  · rw [if_pos c_3758] at e
    refine Rn.bf hT rfl rfl rfl (decide_eq_false (fun z => z ((ti_e p4 L32_0).mpr c_3758))) ?_
    refine Rn.n hT 1 (pc' := 148) (L' := [some (.ref q0), some (.int m1), some (.int m2), some (.int ms0), some (.int m4), some (.int m5), some (.int m6), none]) (st' := [.int m6]) rfl ?_
    by_cases c_3759 : x6 = 0
    · rw [if_pos c_3759] at e
      refine Rn.bt hT rfl rfl rfl (decide_eq_true ((ti_e p6 L32_0).mpr c_3759)) ?_
      refine Rn.n hT 1 (pc' := 156) (L' := [some (.ref q0), some (.int m1), some (.int m2), some (.int ms0), some (.int m4), some (.int m5), some (.int m6), none]) (st' := [.int (0 : Int32)]) rfl ?_
      exact Rn.weak (ll_s (ll_s (ll_s (ll_s (ll_n (ll_s (ll_n (ll_n ll_e)))))))) (RX12_marks_b156 hd hR t0 p1 p2 ps0 p5 L32_0 hb hk hq e)
    · rw [if_neg c_3759] at e
      refine Rn.bf hT rfl rfl rfl (decide_eq_false (fun z => c_3759 ((ti_e p6 L32_0).mp z))) ?_
      exact Rn.weak (ll_s (ll_s (ll_s (ll_s (ll_n (ll_s (ll_n (ll_n ll_e)))))))) (RX12_marks_b151 hd hR t0 p1 p2 ps0 p5 hb hk hq e)
  · rw [if_neg c_3758] at e
    refine Rn.bt hT rfl rfl rfl (decide_eq_true (fun z => c_3758 ((ti_e p4 L32_0).mp z))) ?_
    exact Rn.weak (ll_s (ll_s (ll_s (ll_s (ll_n (ll_s (ll_n (ll_n ll_e)))))))) (RX12_marks_b151 hd hR t0 p1 p2 ps0 p5 hb hk hq e)
def FX12_marks_b135 (N : Nat) (s : iv_M) (q0 : Nat) (x1 : Int) (x2 : Int) (x4 : Int) (x5 : Int) (x6 : Int)  (kb : iv_M → Int → Int → Int → Int → Option (Int × iv_M)) (kx : iv_M → Int → Int → Int → Option (Int × iv_M)) : Option (Int × iv_M) := (FX12_marks_b140 N s q0 x1 x2 x4 x5 x6 1 kb kx)
set_option maxRecDepth 10000 in
set_option maxHeartbeats 4000000 in
theorem RX12_marks_b135 {d N nc Ls : Nat} {Xs : Nat → Int32} (hd : 4 ≤ d) {h : iv_H} {s : iv_M} (hR : Rep nc Ls Xs h s) {q0 : Nat} (t0 : T12 nc q0) {m1 : Int32} {x1 : Int} (p1 : m1.toInt = x1) {m2 : Int32} {x2 : Int} (p2 : m2.toInt = x2) {m4 : Int32} {x4 : Int} (p4 : m4.toInt = x4) {m5 : Int32} {x5 : Int} (p5 : m5.toInt = x5) {m6 : Int32} {x6 : Int} (p6 : m6.toInt = x6)  {kb : iv_M → Int → Int → Int → Int → Option (Int × iv_M)} {kx : iv_M → Int → Int → Int → Option (Int × iv_M)} {r : Int × iv_M} {Q : Option Value → iv_H → Prop} (hb : ∀ (h : iv_H) (s : iv_M) (hR : Rep nc Ls Xs h s) (mw2 : Int32) (xw2 : Int) (pw2 : mw2.toInt = xw2) (mw3 : Int32) (xw3 : Int) (pw3 : mw3.toInt = xw3) (mw4 : Int32) (xw4 : Int) (pw4 : mw4.toInt = xw4) (mw5 : Int32) (xw5 : Int) (pw5 : mw5.toInt = xw5), kb s xw2 xw3 xw4 xw5 = some r → Rn d 302 (some .int) 20 [some (.ref q0), some (.int m1), some (.int mw2), some (.int mw3), some (.int mw4), some (.int mw5), none, none] [] h Q) (hk : ∀ (h : iv_H) (s : iv_M) (hR : Rep nc Ls Xs h s) (mw2 : Int32) (xw2 : Int) (pw2 : mw2.toInt = xw2) (mw3 : Int32) (xw3 : Int) (pw3 : mw3.toInt = xw3) (mw4 : Int32) (xw4 : Int) (pw4 : mw4.toInt = xw4), kx s xw2 xw3 xw4 = some r → Rn d 302 (some .int) 164 [some (.ref q0), some (.int m1), some (.int mw2), some (.int mw3), some (.int mw4), none, none, none] [] h Q) (hq : ∀ (z : Int32) (h1 : iv_H), z.toInt = r.1 → Rep nc Ls Xs h1 r.2 → Q (some (.int z)) h1) (e : FX12_marks_b135 N s q0 x1 x2 x4 x5 x6  kb kx = some r) : Rn d 302 (some .int) 135 [some (.ref q0), some (.int m1), some (.int m2), none, some (.int m4), some (.int m5), some (.int m6), none] [] h Q := by
  have hT := hX12_marks
  unfold FX12_marks_b135 at e
  refine Rn.n hT 2 (pc' := 140) (L' := [some (.ref q0), some (.int m1), some (.int m2), none, some (.int m4), some (.int m5), some (.int m6), none]) (st' := [.int (1 : Int32)]) rfl ?_
  exact Rn.weak (ll_s (ll_s (ll_s (ll_n (ll_s (ll_s (ll_s (ll_n ll_e)))))))) (RX12_marks_b140 hd hR t0 p1 p2 p4 p5 p6 L32_1 hb hk hq e)
def FX12_marks_b125 (N : Nat) (s : iv_M) (q0 : Nat) (x1 : Int) (x3 : Int) (x4 : Int) (x5 : Int) (x6 : Int) (x7 : Int) (xs0 : Int) (kb : iv_M → Int → Int → Int → Int → Option (Int × iv_M)) (kx : iv_M → Int → Int → Int → Option (Int × iv_M)) : Option (Int × iv_M) := (if x3 = 0 then (if x7 = 0 then (FX12_marks_b140 N s q0 x1 xs0 x4 x5 x6 0 kb kx) else (FX12_marks_b135 N s q0 x1 xs0 x4 x5 x6 kb kx)) else (FX12_marks_b135 N s q0 x1 xs0 x4 x5 x6 kb kx))
set_option maxRecDepth 10000 in
set_option maxHeartbeats 4000000 in
theorem RX12_marks_b125 {d N nc Ls : Nat} {Xs : Nat → Int32} (hd : 4 ≤ d) {h : iv_H} {s : iv_M} (hR : Rep nc Ls Xs h s) {q0 : Nat} (t0 : T12 nc q0) {m1 : Int32} {x1 : Int} (p1 : m1.toInt = x1) {m3 : Int32} {x3 : Int} (p3 : m3.toInt = x3) {m4 : Int32} {x4 : Int} (p4 : m4.toInt = x4) {m5 : Int32} {x5 : Int} (p5 : m5.toInt = x5) {m6 : Int32} {x6 : Int} (p6 : m6.toInt = x6) {m7 : Int32} {x7 : Int} (p7 : m7.toInt = x7) {ms0 : Int32} {xs0 : Int} (ps0 : ms0.toInt = xs0) {kb : iv_M → Int → Int → Int → Int → Option (Int × iv_M)} {kx : iv_M → Int → Int → Int → Option (Int × iv_M)} {r : Int × iv_M} {Q : Option Value → iv_H → Prop} (hb : ∀ (h : iv_H) (s : iv_M) (hR : Rep nc Ls Xs h s) (mw2 : Int32) (xw2 : Int) (pw2 : mw2.toInt = xw2) (mw3 : Int32) (xw3 : Int) (pw3 : mw3.toInt = xw3) (mw4 : Int32) (xw4 : Int) (pw4 : mw4.toInt = xw4) (mw5 : Int32) (xw5 : Int) (pw5 : mw5.toInt = xw5), kb s xw2 xw3 xw4 xw5 = some r → Rn d 302 (some .int) 20 [some (.ref q0), some (.int m1), some (.int mw2), some (.int mw3), some (.int mw4), some (.int mw5), none, none] [] h Q) (hk : ∀ (h : iv_H) (s : iv_M) (hR : Rep nc Ls Xs h s) (mw2 : Int32) (xw2 : Int) (pw2 : mw2.toInt = xw2) (mw3 : Int32) (xw3 : Int) (pw3 : mw3.toInt = xw3) (mw4 : Int32) (xw4 : Int) (pw4 : mw4.toInt = xw4), kx s xw2 xw3 xw4 = some r → Rn d 302 (some .int) 164 [some (.ref q0), some (.int m1), some (.int mw2), some (.int mw3), some (.int mw4), none, none, none] [] h Q) (hq : ∀ (z : Int32) (h1 : iv_H), z.toInt = r.1 → Rep nc Ls Xs h1 r.2 → Q (some (.int z)) h1) (e : FX12_marks_b125 N s q0 x1 x3 x4 x5 x6 x7 xs0 kb kx = some r) : Rn d 302 (some .int) 125 [some (.ref q0), some (.int m1), none, some (.int m3), some (.int m4), some (.int m5), some (.int m6), some (.int m7)] [.int ms0] h Q := by
  have hT := hX12_marks
  unfold FX12_marks_b125 at e
  refine Rn.n hT 2 (pc' := 127) (L' := [some (.ref q0), some (.int m1), some (.int ms0), some (.int m3), some (.int m4), some (.int m5), some (.int m6), some (.int m7)]) (st' := [.int m3]) rfl ?_
  by_cases c_3756 : x3 = 0
  · rw [if_pos c_3756] at e
    refine Rn.bf hT rfl rfl rfl (decide_eq_false (fun z => z ((ti_e p3 L32_0).mpr c_3756))) ?_
    refine Rn.n hT 1 (pc' := 132) (L' := [some (.ref q0), some (.int m1), some (.int ms0), some (.int m3), some (.int m4), some (.int m5), some (.int m6), some (.int m7)]) (st' := [.int m7]) rfl ?_
    by_cases c_3757 : x7 = 0
    · rw [if_pos c_3757] at e
      refine Rn.bt hT rfl rfl rfl (decide_eq_true ((ti_e p7 L32_0).mpr c_3757)) ?_
      refine Rn.n hT 1 (pc' := 140) (L' := [some (.ref q0), some (.int m1), some (.int ms0), some (.int m3), some (.int m4), some (.int m5), some (.int m6), some (.int m7)]) (st' := [.int (0 : Int32)]) rfl ?_
      exact Rn.weak (ll_s (ll_s (ll_s (ll_n (ll_s (ll_s (ll_s (ll_n ll_e)))))))) (RX12_marks_b140 hd hR t0 p1 ps0 p4 p5 p6 L32_0 hb hk hq e)
    · rw [if_neg c_3757] at e
      refine Rn.bf hT rfl rfl rfl (decide_eq_false (fun z => c_3757 ((ti_e p7 L32_0).mp z))) ?_
      exact Rn.weak (ll_s (ll_s (ll_s (ll_n (ll_s (ll_s (ll_s (ll_n ll_e)))))))) (RX12_marks_b135 hd hR t0 p1 ps0 p4 p5 p6 hb hk hq e)
  · rw [if_neg c_3756] at e
    refine Rn.bt hT rfl rfl rfl (decide_eq_true (fun z => c_3756 ((ti_e p3 L32_0).mp z))) ?_
    exact Rn.weak (ll_s (ll_s (ll_s (ll_n (ll_s (ll_s (ll_s (ll_n ll_e)))))))) (RX12_marks_b135 hd hR t0 p1 ps0 p4 p5 p6 hb hk hq e)
def FX12_marks_b120 (N : Nat) (s : iv_M) (q0 : Nat) (x1 : Int) (x3 : Int) (x4 : Int) (x5 : Int) (x6 : Int) (x7 : Int)  (kb : iv_M → Int → Int → Int → Int → Option (Int × iv_M)) (kx : iv_M → Int → Int → Int → Option (Int × iv_M)) : Option (Int × iv_M) := (FX12_marks_b125 N s q0 x1 x3 x4 x5 x6 x7 1 kb kx)
set_option maxRecDepth 10000 in
set_option maxHeartbeats 4000000 in
theorem RX12_marks_b120 {d N nc Ls : Nat} {Xs : Nat → Int32} (hd : 4 ≤ d) {h : iv_H} {s : iv_M} (hR : Rep nc Ls Xs h s) {q0 : Nat} (t0 : T12 nc q0) {m1 : Int32} {x1 : Int} (p1 : m1.toInt = x1) {m3 : Int32} {x3 : Int} (p3 : m3.toInt = x3) {m4 : Int32} {x4 : Int} (p4 : m4.toInt = x4) {m5 : Int32} {x5 : Int} (p5 : m5.toInt = x5) {m6 : Int32} {x6 : Int} (p6 : m6.toInt = x6) {m7 : Int32} {x7 : Int} (p7 : m7.toInt = x7)  {kb : iv_M → Int → Int → Int → Int → Option (Int × iv_M)} {kx : iv_M → Int → Int → Int → Option (Int × iv_M)} {r : Int × iv_M} {Q : Option Value → iv_H → Prop} (hb : ∀ (h : iv_H) (s : iv_M) (hR : Rep nc Ls Xs h s) (mw2 : Int32) (xw2 : Int) (pw2 : mw2.toInt = xw2) (mw3 : Int32) (xw3 : Int) (pw3 : mw3.toInt = xw3) (mw4 : Int32) (xw4 : Int) (pw4 : mw4.toInt = xw4) (mw5 : Int32) (xw5 : Int) (pw5 : mw5.toInt = xw5), kb s xw2 xw3 xw4 xw5 = some r → Rn d 302 (some .int) 20 [some (.ref q0), some (.int m1), some (.int mw2), some (.int mw3), some (.int mw4), some (.int mw5), none, none] [] h Q) (hk : ∀ (h : iv_H) (s : iv_M) (hR : Rep nc Ls Xs h s) (mw2 : Int32) (xw2 : Int) (pw2 : mw2.toInt = xw2) (mw3 : Int32) (xw3 : Int) (pw3 : mw3.toInt = xw3) (mw4 : Int32) (xw4 : Int) (pw4 : mw4.toInt = xw4), kx s xw2 xw3 xw4 = some r → Rn d 302 (some .int) 164 [some (.ref q0), some (.int m1), some (.int mw2), some (.int mw3), some (.int mw4), none, none, none] [] h Q) (hq : ∀ (z : Int32) (h1 : iv_H), z.toInt = r.1 → Rep nc Ls Xs h1 r.2 → Q (some (.int z)) h1) (e : FX12_marks_b120 N s q0 x1 x3 x4 x5 x6 x7  kb kx = some r) : Rn d 302 (some .int) 120 [some (.ref q0), some (.int m1), none, some (.int m3), some (.int m4), some (.int m5), some (.int m6), some (.int m7)] [] h Q := by
  have hT := hX12_marks
  unfold FX12_marks_b120 at e
  refine Rn.n hT 2 (pc' := 125) (L' := [some (.ref q0), some (.int m1), none, some (.int m3), some (.int m4), some (.int m5), some (.int m6), some (.int m7)]) (st' := [.int (1 : Int32)]) rfl ?_
  exact Rn.weak (ll_s (ll_s (ll_n (ll_s (ll_s (ll_s (ll_s (ll_s ll_e)))))))) (RX12_marks_b125 hd hR t0 p1 p3 p4 p5 p6 p7 L32_1 hb hk hq e)
def FX12_marks_b124 (N : Nat) (s : iv_M) (q0 : Nat) (x1 : Int) (x3 : Int) (x4 : Int) (x5 : Int) (x6 : Int) (x7 : Int)  (kb : iv_M → Int → Int → Int → Int → Option (Int × iv_M)) (kx : iv_M → Int → Int → Int → Option (Int × iv_M)) : Option (Int × iv_M) := (FX12_marks_b125 N s q0 x1 x3 x4 x5 x6 x7 0 kb kx)
set_option maxRecDepth 10000 in
set_option maxHeartbeats 4000000 in
theorem RX12_marks_b124 {d N nc Ls : Nat} {Xs : Nat → Int32} (hd : 4 ≤ d) {h : iv_H} {s : iv_M} (hR : Rep nc Ls Xs h s) {q0 : Nat} (t0 : T12 nc q0) {m1 : Int32} {x1 : Int} (p1 : m1.toInt = x1) {m3 : Int32} {x3 : Int} (p3 : m3.toInt = x3) {m4 : Int32} {x4 : Int} (p4 : m4.toInt = x4) {m5 : Int32} {x5 : Int} (p5 : m5.toInt = x5) {m6 : Int32} {x6 : Int} (p6 : m6.toInt = x6) {m7 : Int32} {x7 : Int} (p7 : m7.toInt = x7)  {kb : iv_M → Int → Int → Int → Int → Option (Int × iv_M)} {kx : iv_M → Int → Int → Int → Option (Int × iv_M)} {r : Int × iv_M} {Q : Option Value → iv_H → Prop} (hb : ∀ (h : iv_H) (s : iv_M) (hR : Rep nc Ls Xs h s) (mw2 : Int32) (xw2 : Int) (pw2 : mw2.toInt = xw2) (mw3 : Int32) (xw3 : Int) (pw3 : mw3.toInt = xw3) (mw4 : Int32) (xw4 : Int) (pw4 : mw4.toInt = xw4) (mw5 : Int32) (xw5 : Int) (pw5 : mw5.toInt = xw5), kb s xw2 xw3 xw4 xw5 = some r → Rn d 302 (some .int) 20 [some (.ref q0), some (.int m1), some (.int mw2), some (.int mw3), some (.int mw4), some (.int mw5), none, none] [] h Q) (hk : ∀ (h : iv_H) (s : iv_M) (hR : Rep nc Ls Xs h s) (mw2 : Int32) (xw2 : Int) (pw2 : mw2.toInt = xw2) (mw3 : Int32) (xw3 : Int) (pw3 : mw3.toInt = xw3) (mw4 : Int32) (xw4 : Int) (pw4 : mw4.toInt = xw4), kx s xw2 xw3 xw4 = some r → Rn d 302 (some .int) 164 [some (.ref q0), some (.int m1), some (.int mw2), some (.int mw3), some (.int mw4), none, none, none] [] h Q) (hq : ∀ (z : Int32) (h1 : iv_H), z.toInt = r.1 → Rep nc Ls Xs h1 r.2 → Q (some (.int z)) h1) (e : FX12_marks_b124 N s q0 x1 x3 x4 x5 x6 x7  kb kx = some r) : Rn d 302 (some .int) 124 [some (.ref q0), some (.int m1), none, some (.int m3), some (.int m4), some (.int m5), some (.int m6), some (.int m7)] [] h Q := by
  have hT := hX12_marks
  unfold FX12_marks_b124 at e
  refine Rn.n hT 1 (pc' := 125) (L' := [some (.ref q0), some (.int m1), none, some (.int m3), some (.int m4), some (.int m5), some (.int m6), some (.int m7)]) (st' := [.int (0 : Int32)]) rfl ?_
  exact Rn.weak (ll_s (ll_s (ll_n (ll_s (ll_s (ll_s (ll_s (ll_s ll_e)))))))) (RX12_marks_b125 hd hR t0 p1 p3 p4 p5 p6 p7 L32_0 hb hk hq e)
def FX12_marks_b93 (N : Nat) (s : iv_M) (q0 : Nat) (x1 : Int) (x2 : Int) (x3 : Int) (x4 : Int) (x5 : Int) (x6 : Int) (xs0 : Int) (kb : iv_M → Int → Int → Int → Int → Option (Int × iv_M)) (kx : iv_M → Int → Int → Int → Option (Int × iv_M)) : Option (Int × iv_M) := (if x2 = 0 then ((rd s (q0 + 5) 12 x5).bind fun v_3752 => (if v_3752 = 1 then (if x6 = 0 then (if xs0 = 0 then (FX12_marks_b124 N s q0 x1 x3 x4 x5 x6 xs0 kb kx) else (FX12_marks_b120 N s q0 x1 x3 x4 x5 x6 xs0 kb kx)) else (FX12_marks_b120 N s q0 x1 x3 x4 x5 x6 xs0 kb kx)) else (FX12_marks_b124 N s q0 x1 x3 x4 x5 x6 xs0 kb kx))) else (FX12_marks_b120 N s q0 x1 x3 x4 x5 x6 xs0 kb kx))
set_option maxRecDepth 10000 in
set_option maxHeartbeats 4000000 in
theorem RX12_marks_b93 {d N nc Ls : Nat} {Xs : Nat → Int32} (hd : 4 ≤ d) {h : iv_H} {s : iv_M} (hR : Rep nc Ls Xs h s) {q0 : Nat} (t0 : T12 nc q0) {m1 : Int32} {x1 : Int} (p1 : m1.toInt = x1) {m2 : Int32} {x2 : Int} (p2 : m2.toInt = x2) {m3 : Int32} {x3 : Int} (p3 : m3.toInt = x3) {m4 : Int32} {x4 : Int} (p4 : m4.toInt = x4) {m5 : Int32} {x5 : Int} (p5 : m5.toInt = x5) {m6 : Int32} {x6 : Int} (p6 : m6.toInt = x6) {ms0 : Int32} {xs0 : Int} (ps0 : ms0.toInt = xs0) {kb : iv_M → Int → Int → Int → Int → Option (Int × iv_M)} {kx : iv_M → Int → Int → Int → Option (Int × iv_M)} {r : Int × iv_M} {Q : Option Value → iv_H → Prop} (hb : ∀ (h : iv_H) (s : iv_M) (hR : Rep nc Ls Xs h s) (mw2 : Int32) (xw2 : Int) (pw2 : mw2.toInt = xw2) (mw3 : Int32) (xw3 : Int) (pw3 : mw3.toInt = xw3) (mw4 : Int32) (xw4 : Int) (pw4 : mw4.toInt = xw4) (mw5 : Int32) (xw5 : Int) (pw5 : mw5.toInt = xw5), kb s xw2 xw3 xw4 xw5 = some r → Rn d 302 (some .int) 20 [some (.ref q0), some (.int m1), some (.int mw2), some (.int mw3), some (.int mw4), some (.int mw5), none, none] [] h Q) (hk : ∀ (h : iv_H) (s : iv_M) (hR : Rep nc Ls Xs h s) (mw2 : Int32) (xw2 : Int) (pw2 : mw2.toInt = xw2) (mw3 : Int32) (xw3 : Int) (pw3 : mw3.toInt = xw3) (mw4 : Int32) (xw4 : Int) (pw4 : mw4.toInt = xw4), kx s xw2 xw3 xw4 = some r → Rn d 302 (some .int) 164 [some (.ref q0), some (.int m1), some (.int mw2), some (.int mw3), some (.int mw4), none, none, none] [] h Q) (hq : ∀ (z : Int32) (h1 : iv_H), z.toInt = r.1 → Rep nc Ls Xs h1 r.2 → Q (some (.int z)) h1) (e : FX12_marks_b93 N s q0 x1 x2 x3 x4 x5 x6 xs0 kb kx = some r) : Rn d 302 (some .int) 93 [some (.ref q0), some (.int m1), some (.int m2), some (.int m3), some (.int m4), some (.int m5), some (.int m6), none] [.int ms0] h Q := by
  have hT := hX12_marks
  unfold FX12_marks_b93 at e
  refine Rn.n hT 2 (pc' := 96) (L' := [some (.ref q0), some (.int m1), some (.int m2), some (.int m3), some (.int m4), some (.int m5), some (.int m6), some (.int ms0)]) (st' := [.int m2]) rfl ?_
  by_cases c_3751 : x2 = 0
  · rw [if_pos c_3751] at e
    refine Rn.bf hT rfl rfl rfl (decide_eq_false (fun z => z ((ti_e p2 L32_0).mpr c_3751))) ?_
    refine Rn.n hT 1 (pc' := 100) (L' := [some (.ref q0), some (.int m1), some (.int m2), some (.int m3), some (.int m4), some (.int m5), some (.int m6), some (.int ms0)]) (st' := [.ref q0]) rfl ?_
    refine Rn.hp hT rfl rfl (gR_hp (rp_gR hR (T12_o t0) rfl)) ?_
    refine Rn.n hT 1 (pc' := 105) (L' := [some (.ref q0), some (.int m1), some (.int m2), some (.int m3), some (.int m4), some (.int m5), some (.int m6), some (.int ms0)]) (st' := [.int m5, .ref (q0 + 5)]) rfl ?_
    obtain ⟨v_3752, e_3752, e⟩ := Option.bind_eq_some_iff.mp e
    obtain ⟨z_3752, g_3752, p_3752⟩ := rp_aI hR (T12_5 t0) (T12_5l t0) p5 e_3752
    refine Rn.hp hT rfl rfl (aI_hp g_3752) ?_
    refine Rn.n hT 1 (pc' := 107) (L' := [some (.ref q0), some (.int m1), some (.int m2), some (.int m3), some (.int m4), some (.int m5), some (.int m6), some (.int ms0)]) (st' := [.int (1 : Int32), .int z_3752]) rfl ?_
    by_cases c_3753 : v_3752 = 1
    · rw [if_pos c_3753] at e
      refine Rn.bf hT rfl rfl rfl (decide_eq_false (fun z => z ((ti_e p_3752 L32_1).mpr c_3753))) ?_
      refine Rn.n hT 1 (pc' := 112) (L' := [some (.ref q0), some (.int m1), some (.int m2), some (.int m3), some (.int m4), some (.int m5), some (.int m6), some (.int ms0)]) (st' := [.int m6]) rfl ?_
      by_cases c_3754 : x6 = 0
      · rw [if_pos c_3754] at e
        refine Rn.bf hT rfl rfl rfl (decide_eq_false (fun z => z ((ti_e p6 L32_0).mpr c_3754))) ?_
        refine Rn.n hT 1 (pc' := 117) (L' := [some (.ref q0), some (.int m1), some (.int m2), some (.int m3), some (.int m4), some (.int m5), some (.int m6), some (.int ms0)]) (st' := [.int ms0]) rfl ?_
        by_cases c_3755 : xs0 = 0
        · rw [if_pos c_3755] at e
          refine Rn.bt hT rfl rfl rfl (decide_eq_true ((ti_e ps0 L32_0).mpr c_3755)) ?_
          exact Rn.weak (ll_s (ll_s (ll_n (ll_s (ll_s (ll_s (ll_s (ll_s ll_e)))))))) (RX12_marks_b124 hd hR t0 p1 p3 p4 p5 p6 ps0 hb hk hq e)
        · rw [if_neg c_3755] at e
          refine Rn.bf hT rfl rfl rfl (decide_eq_false (fun z => c_3755 ((ti_e ps0 L32_0).mp z))) ?_
          exact Rn.weak (ll_s (ll_s (ll_n (ll_s (ll_s (ll_s (ll_s (ll_s ll_e)))))))) (RX12_marks_b120 hd hR t0 p1 p3 p4 p5 p6 ps0 hb hk hq e)
      · rw [if_neg c_3754] at e
        refine Rn.bt hT rfl rfl rfl (decide_eq_true (fun z => c_3754 ((ti_e p6 L32_0).mp z))) ?_
        exact Rn.weak (ll_s (ll_s (ll_n (ll_s (ll_s (ll_s (ll_s (ll_s ll_e)))))))) (RX12_marks_b120 hd hR t0 p1 p3 p4 p5 p6 ps0 hb hk hq e)
    · rw [if_neg c_3753] at e
      refine Rn.bt hT rfl rfl rfl (decide_eq_true (fun z => c_3753 ((ti_e p_3752 L32_1).mp z))) ?_
      exact Rn.weak (ll_s (ll_s (ll_n (ll_s (ll_s (ll_s (ll_s (ll_s ll_e)))))))) (RX12_marks_b124 hd hR t0 p1 p3 p4 p5 p6 ps0 hb hk hq e)
  · rw [if_neg c_3751] at e
    refine Rn.bt hT rfl rfl rfl (decide_eq_true (fun z => c_3751 ((ti_e p2 L32_0).mp z))) ?_
    exact Rn.weak (ll_s (ll_s (ll_n (ll_s (ll_s (ll_s (ll_s (ll_s ll_e)))))))) (RX12_marks_b120 hd hR t0 p1 p3 p4 p5 p6 ps0 hb hk hq e)
def FX12_marks_b60 (N : Nat) (s : iv_M) (q0 : Nat) (x1 : Int) (x2 : Int) (x3 : Int) (x4 : Int) (x5 : Int) (xs0 : Int) (kb : iv_M → Int → Int → Int → Int → Option (Int × iv_M)) (kx : iv_M → Int → Int → Int → Option (Int × iv_M)) : Option (Int × iv_M) := ((rd s (q0 + 4) 12 x5).bind fun v_3748 => ((rd s (q0 + 10) 96 (w32 ((w32 ((w32 (24 * x1)) + (w32 (2 * x5)))) + 1))).bind fun v_3749 => (if v_3748 = v_3749 then (FX12_marks_b93 N s q0 x1 x2 x3 x4 x5 xs0 0 kb kx) else (FX12_marks_b93 N s q0 x1 x2 x3 x4 x5 xs0 1 kb kx))))
set_option maxRecDepth 10000 in
set_option maxHeartbeats 4000000 in
theorem RX12_marks_b60 {d N nc Ls : Nat} {Xs : Nat → Int32} (hd : 4 ≤ d) {h : iv_H} {s : iv_M} (hR : Rep nc Ls Xs h s) {q0 : Nat} (t0 : T12 nc q0) {m1 : Int32} {x1 : Int} (p1 : m1.toInt = x1) {m2 : Int32} {x2 : Int} (p2 : m2.toInt = x2) {m3 : Int32} {x3 : Int} (p3 : m3.toInt = x3) {m4 : Int32} {x4 : Int} (p4 : m4.toInt = x4) {m5 : Int32} {x5 : Int} (p5 : m5.toInt = x5) {ms0 : Int32} {xs0 : Int} (ps0 : ms0.toInt = xs0) {kb : iv_M → Int → Int → Int → Int → Option (Int × iv_M)} {kx : iv_M → Int → Int → Int → Option (Int × iv_M)} {r : Int × iv_M} {Q : Option Value → iv_H → Prop} (hb : ∀ (h : iv_H) (s : iv_M) (hR : Rep nc Ls Xs h s) (mw2 : Int32) (xw2 : Int) (pw2 : mw2.toInt = xw2) (mw3 : Int32) (xw3 : Int) (pw3 : mw3.toInt = xw3) (mw4 : Int32) (xw4 : Int) (pw4 : mw4.toInt = xw4) (mw5 : Int32) (xw5 : Int) (pw5 : mw5.toInt = xw5), kb s xw2 xw3 xw4 xw5 = some r → Rn d 302 (some .int) 20 [some (.ref q0), some (.int m1), some (.int mw2), some (.int mw3), some (.int mw4), some (.int mw5), none, none] [] h Q) (hk : ∀ (h : iv_H) (s : iv_M) (hR : Rep nc Ls Xs h s) (mw2 : Int32) (xw2 : Int) (pw2 : mw2.toInt = xw2) (mw3 : Int32) (xw3 : Int) (pw3 : mw3.toInt = xw3) (mw4 : Int32) (xw4 : Int) (pw4 : mw4.toInt = xw4), kx s xw2 xw3 xw4 = some r → Rn d 302 (some .int) 164 [some (.ref q0), some (.int m1), some (.int mw2), some (.int mw3), some (.int mw4), none, none, none] [] h Q) (hq : ∀ (z : Int32) (h1 : iv_H), z.toInt = r.1 → Rep nc Ls Xs h1 r.2 → Q (some (.int z)) h1) (e : FX12_marks_b60 N s q0 x1 x2 x3 x4 x5 xs0 kb kx = some r) : Rn d 302 (some .int) 60 [some (.ref q0), some (.int m1), some (.int m2), some (.int m3), some (.int m4), some (.int m5), none, none] [.int ms0] h Q := by
  have hT := hX12_marks
  unfold FX12_marks_b60 at e
  refine Rn.n hT 2 (pc' := 63) (L' := [some (.ref q0), some (.int m1), some (.int m2), some (.int m3), some (.int m4), some (.int m5), some (.int ms0), none]) (st' := [.ref q0]) rfl ?_
  refine Rn.hp hT rfl rfl (gR_hp (rp_gR hR (T12_o t0) rfl)) ?_
  refine Rn.n hT 1 (pc' := 68) (L' := [some (.ref q0), some (.int m1), some (.int m2), some (.int m3), some (.int m4), some (.int m5), some (.int ms0), none]) (st' := [.int m5, .ref (q0 + 4)]) rfl ?_
  obtain ⟨v_3748, e_3748, e⟩ := Option.bind_eq_some_iff.mp e
  obtain ⟨z_3748, g_3748, p_3748⟩ := rp_aI hR (T12_4 t0) (T12_4l t0) p5 e_3748
  refine Rn.hp hT rfl rfl (aI_hp g_3748) ?_
  refine Rn.n hT 1 (pc' := 70) (L' := [some (.ref q0), some (.int m1), some (.int m2), some (.int m3), some (.int m4), some (.int m5), some (.int ms0), none]) (st' := [.ref q0, .int z_3748]) rfl ?_
  refine Rn.hp hT rfl rfl (gR_hp (rp_gR hR (T12_o t0) rfl)) ?_
  refine Rn.n hT 9 (pc' := 84) (L' := [some (.ref q0), some (.int m1), some (.int m2), some (.int m3), some (.int m4), some (.int m5), some (.int ms0), none]) (st' := [.int ((((24 : Int32) * m1) + ((2 : Int32) * m5)) + (1 : Int32)), .ref (q0 + 10), .int z_3748]) rfl ?_
  obtain ⟨v_3749, e_3749, e⟩ := Option.bind_eq_some_iff.mp e
  obtain ⟨z_3749, g_3749, p_3749⟩ := rp_aI hR (T12_10 t0) (T12_10l t0) (ti_add (ti_add (ti_mul L32_24 p1) (ti_mul L32_2 p5)) L32_1) e_3749
  refine Rn.hp hT rfl rfl (aI_hp g_3749) ?_
  by_cases c_3750 : v_3748 = v_3749
  · rw [if_pos c_3750] at e
    refine Rn.bt hT rfl rfl rfl (decide_eq_true ((ti_e p_3748 p_3749).mpr c_3750)) ?_
    refine Rn.n hT 1 (pc' := 93) (L' := [some (.ref q0), some (.int m1), some (.int m2), some (.int m3), some (.int m4), some (.int m5), some (.int ms0), none]) (st' := [.int (0 : Int32)]) rfl ?_
    exact Rn.weak (ll_s (ll_s (ll_s (ll_s (ll_s (ll_s (ll_s (ll_n ll_e)))))))) (RX12_marks_b93 hd hR t0 p1 p2 p3 p4 p5 ps0 L32_0 hb hk hq e)
  · rw [if_neg c_3750] at e
    refine Rn.bf hT rfl rfl rfl (decide_eq_false (fun z => c_3750 ((ti_e p_3748 p_3749).mp z))) ?_
    refine Rn.n hT 2 (pc' := 93) (L' := [some (.ref q0), some (.int m1), some (.int m2), some (.int m3), some (.int m4), some (.int m5), some (.int ms0), none]) (st' := [.int (1 : Int32)]) rfl ?_
    exact Rn.weak (ll_s (ll_s (ll_s (ll_s (ll_s (ll_s (ll_s (ll_n ll_e)))))))) (RX12_marks_b93 hd hR t0 p1 p2 p3 p4 p5 ps0 L32_1 hb hk hq e)
def FX12_marks_l20 (N : Nat) (q0 : Nat) (x1 : Int) (kx : iv_M → Int → Int → Int → Option (Int × iv_M)) : Nat → iv_M → Int → Int → Int → Int → Option (Int × iv_M)
  | 0, _, _, _, _, _ => none
  | n + 1, s, x2, x3, x4, x5 => ((rd s (q0 + 1) 14 2).bind fun v_3743 => (if v_3743 ≤ x5 then (kx s x2 x3 x4) else ((rd s (q0 + 3) 12 x5).bind fun v_3745 => ((rd s (q0 + 10) 96 (w32 ((w32 (24 * x1)) + (w32 (2 * x5))))).bind fun v_3746 => (if v_3745 = v_3746 then (FX12_marks_b60 N s q0 x1 x2 x3 x4 x5 0 (FX12_marks_l20 N q0 x1 kx n) kx) else (FX12_marks_b60 N s q0 x1 x2 x3 x4 x5 1 (FX12_marks_l20 N q0 x1 kx n) kx))))))
set_option maxRecDepth 10000 in
set_option maxHeartbeats 4000000 in
theorem RX12_marks_l20 {d N nc Ls : Nat} {Xs : Nat → Int32} (hd : 4 ≤ d) {q0 : Nat} (t0 : T12 nc q0) {m1 : Int32} {x1 : Int} (p1 : m1.toInt = x1) {kx : iv_M → Int → Int → Int → Option (Int × iv_M)} {r : Int × iv_M} {Q : Option Value → iv_H → Prop} (hk : ∀ (h : iv_H) (s : iv_M) (hR : Rep nc Ls Xs h s) (m2 : Int32) (x2 : Int) (p2 : m2.toInt = x2) (m3 : Int32) (x3 : Int) (p3 : m3.toInt = x3) (m4 : Int32) (x4 : Int) (p4 : m4.toInt = x4), kx s x2 x3 x4 = some r → Rn d 302 (some .int) 164 [some (.ref q0), some (.int m1), some (.int m2), some (.int m3), some (.int m4), none, none, none] [] h Q) (hq : ∀ (z : Int32) (h1 : iv_H), z.toInt = r.1 → Rep nc Ls Xs h1 r.2 → Q (some (.int z)) h1) : ∀ (n : Nat) (h : iv_H) (s : iv_M) (hR : Rep nc Ls Xs h s) (m2 : Int32) (x2 : Int) (p2 : m2.toInt = x2) (m3 : Int32) (x3 : Int) (p3 : m3.toInt = x3) (m4 : Int32) (x4 : Int) (p4 : m4.toInt = x4) (m5 : Int32) (x5 : Int) (p5 : m5.toInt = x5), FX12_marks_l20 N q0 x1 kx n s x2 x3 x4 x5 = some r → Rn d 302 (some .int) 20 [some (.ref q0), some (.int m1), some (.int m2), some (.int m3), some (.int m4), some (.int m5), none, none] [] h Q := by
  have hT := hX12_marks
  intro n
  induction n with
  | zero =>
    intro h s hR m2 x2 p2 m3 x3 p3 m4 x4 p4 m5 x5 p5 e
    rw [FX12_marks_l20] at e
    cases e
  | succ n ih =>
    intro h s hR m2 x2 p2 m3 x3 p3 m4 x4 p4 m5 x5 p5 e
    rw [FX12_marks_l20] at e
    refine Rn.n hT 2 (pc' := 23) (L' := [some (.ref q0), some (.int m1), some (.int m2), some (.int m3), some (.int m4), some (.int m5), none, none]) (st' := [.ref q0, .int m5]) rfl ?_
    refine Rn.hp hT rfl rfl (gR_hp (rp_gR hR (T12_o t0) rfl)) ?_
    refine Rn.n hT 1 (pc' := 27) (L' := [some (.ref q0), some (.int m1), some (.int m2), some (.int m3), some (.int m4), some (.int m5), none, none]) (st' := [.int (2 : Int32), .ref (q0 + 1), .int m5]) rfl ?_
    obtain ⟨v_3743, e_3743, e⟩ := Option.bind_eq_some_iff.mp e
    obtain ⟨z_3743, g_3743, p_3743⟩ := rp_aI hR (T12_1 t0) (T12_1l t0) L32_2 e_3743
    refine Rn.hp hT rfl rfl (aI_hp g_3743) ?_
    by_cases c_3744 : v_3743 ≤ x5
    · rw [if_pos c_3744] at e
      refine Rn.bt hT rfl rfl rfl (decide_eq_true ((ti_le p_3743 p5).mpr c_3744)) ?_
      exact Rn.weak (ll_s (ll_s (ll_s (ll_s (ll_s (ll_n (ll_n (ll_n ll_e)))))))) (hk h s hR m2 x2 p2 m3 x3 p3 m4 x4 p4 e)
    · rw [if_neg c_3744] at e
      refine Rn.bf hT rfl rfl rfl (decide_eq_false (fun z => c_3744 ((ti_le p_3743 p5).mp z))) ?_
      refine Rn.n hT 1 (pc' := 32) (L' := [some (.ref q0), some (.int m1), some (.int m2), some (.int m3), some (.int m4), some (.int m5), none, none]) (st' := [.ref q0]) rfl ?_
      refine Rn.hp hT rfl rfl (gR_hp (rp_gR hR (T12_o t0) rfl)) ?_
      refine Rn.n hT 1 (pc' := 37) (L' := [some (.ref q0), some (.int m1), some (.int m2), some (.int m3), some (.int m4), some (.int m5), none, none]) (st' := [.int m5, .ref (q0 + 3)]) rfl ?_
      obtain ⟨v_3745, e_3745, e⟩ := Option.bind_eq_some_iff.mp e
      obtain ⟨z_3745, g_3745, p_3745⟩ := rp_aI hR (T12_3 t0) (T12_3l t0) p5 e_3745
      refine Rn.hp hT rfl rfl (aI_hp g_3745) ?_
      refine Rn.n hT 1 (pc' := 39) (L' := [some (.ref q0), some (.int m1), some (.int m2), some (.int m3), some (.int m4), some (.int m5), none, none]) (st' := [.ref q0, .int z_3745]) rfl ?_
      refine Rn.hp hT rfl rfl (gR_hp (rp_gR hR (T12_o t0) rfl)) ?_
      refine Rn.n hT 7 (pc' := 51) (L' := [some (.ref q0), some (.int m1), some (.int m2), some (.int m3), some (.int m4), some (.int m5), none, none]) (st' := [.int (((24 : Int32) * m1) + ((2 : Int32) * m5)), .ref (q0 + 10), .int z_3745]) rfl ?_
      obtain ⟨v_3746, e_3746, e⟩ := Option.bind_eq_some_iff.mp e
      obtain ⟨z_3746, g_3746, p_3746⟩ := rp_aI hR (T12_10 t0) (T12_10l t0) (ti_add (ti_mul L32_24 p1) (ti_mul L32_2 p5)) e_3746
      refine Rn.hp hT rfl rfl (aI_hp g_3746) ?_
      by_cases c_3747 : v_3745 = v_3746
      · rw [if_pos c_3747] at e
        refine Rn.bt hT rfl rfl rfl (decide_eq_true ((ti_e p_3745 p_3746).mpr c_3747)) ?_
        refine Rn.n hT 1 (pc' := 60) (L' := [some (.ref q0), some (.int m1), some (.int m2), some (.int m3), some (.int m4), some (.int m5), none, none]) (st' := [.int (0 : Int32)]) rfl ?_
        exact Rn.weak (ll_s (ll_s (ll_s (ll_s (ll_s (ll_s (ll_n (ll_n ll_e)))))))) (RX12_marks_b60 hd hR t0 p1 p2 p3 p4 p5 L32_0 ih hk hq e)
      · rw [if_neg c_3747] at e
        refine Rn.bf hT rfl rfl rfl (decide_eq_false (fun z => c_3747 ((ti_e p_3745 p_3746).mp z))) ?_
        refine Rn.n hT 2 (pc' := 60) (L' := [some (.ref q0), some (.int m1), some (.int m2), some (.int m3), some (.int m4), some (.int m5), none, none]) (st' := [.int (1 : Int32)]) rfl ?_
        exact Rn.weak (ll_s (ll_s (ll_s (ll_s (ll_s (ll_s (ll_n (ll_n ll_e)))))))) (RX12_marks_b60 hd hR t0 p1 p2 p3 p4 p5 L32_1 ih hk hq e)
def FX12_marks_b257 (N : Nat) (s : iv_M)  (xs0 : Int) (xs1 : Int) : Option (Int × iv_M) := (some ((w32 (xs1 + xs0)), s))
set_option maxRecDepth 10000 in
set_option maxHeartbeats 4000000 in
theorem RX12_marks_b257 {d N nc Ls : Nat} {Xs : Nat → Int32} (hd : 4 ≤ d) {h : iv_H} {s : iv_M} (hR : Rep nc Ls Xs h s)  {ms0 : Int32} {xs0 : Int} (ps0 : ms0.toInt = xs0) {ms1 : Int32} {xs1 : Int} (ps1 : ms1.toInt = xs1) {r : Int × iv_M} {Q : Option Value → iv_H → Prop} (hq : ∀ (z : Int32) (h1 : iv_H), z.toInt = r.1 → Rep nc Ls Xs h1 r.2 → Q (some (.int z)) h1) (e : FX12_marks_b257 N s  xs0 xs1 = some r) : Rn d 302 (some .int) 257 [none, none, none, none, none, none, none, none] [.int ms0, .int ms1] h Q := by
  have hT := hX12_marks
  unfold FX12_marks_b257 at e
  refine Rn.n hT 1 (pc' := 258) (L' := [none, none, none, none, none, none, none, none]) (st' := [.int (ms1 + ms0)]) rfl ?_
  obtain rfl := Option.some.inj e
  exact Rn.ret hT rfl rfl rfl (hq (ms1 + ms0) h (ti_add ps1 ps0) hR)
def FX12_marks_b256 (N : Nat) (s : iv_M)  (xs0 : Int) : Option (Int × iv_M) := (FX12_marks_b257 N s 0 xs0)
set_option maxRecDepth 10000 in
set_option maxHeartbeats 4000000 in
theorem RX12_marks_b256 {d N nc Ls : Nat} {Xs : Nat → Int32} (hd : 4 ≤ d) {h : iv_H} {s : iv_M} (hR : Rep nc Ls Xs h s)  {ms0 : Int32} {xs0 : Int} (ps0 : ms0.toInt = xs0) {r : Int × iv_M} {Q : Option Value → iv_H → Prop} (hq : ∀ (z : Int32) (h1 : iv_H), z.toInt = r.1 → Rep nc Ls Xs h1 r.2 → Q (some (.int z)) h1) (e : FX12_marks_b256 N s  xs0 = some r) : Rn d 302 (some .int) 256 [none, none, none, none, none, none, none, none] [.int ms0] h Q := by
  have hT := hX12_marks
  unfold FX12_marks_b256 at e
  refine Rn.n hT 1 (pc' := 257) (L' := [none, none, none, none, none, none, none, none]) (st' := [.int (0 : Int32), .int ms0]) rfl ?_
  exact Rn.weak (ll_n (ll_n (ll_n (ll_n (ll_n (ll_n (ll_n (ll_n ll_e)))))))) (RX12_marks_b257 hd hR L32_0 ps0 hq e)
def FX12_marks_b223 (N : Nat) (s : iv_M) (q0 : Nat) (x1 : Int) (x5 : Int) (xs0 : Int) (xs1 : Int) : Option (Int × iv_M) := (if (bAn x5 2) = 0 then ((FX12_emptyMany N s q0).bind fun v_3765 => (if v_3765 = 1 then ((FX12_canBySlides N s q0 x1).bind fun r_3767 => (fun (v_3767 : Int) (s_3768 : iv_M) => (if v_3767 = 0 then (FX12_marks_b257 N s_3768 8 (w32 (xs1 + xs0))) else (FX12_marks_b256 N s_3768 (w32 (xs1 + xs0))))) r_3767.1 r_3767.2) else (FX12_marks_b256 N s (w32 (xs1 + xs0))))) else (FX12_marks_b256 N s (w32 (xs1 + xs0))))
set_option maxRecDepth 10000 in
set_option maxHeartbeats 4000000 in
theorem RX12_marks_b223 {d N nc Ls : Nat} {Xs : Nat → Int32} (hd : 4 ≤ d) {h : iv_H} {s : iv_M} (hR : Rep nc Ls Xs h s) {q0 : Nat} (t0 : T12 nc q0) {m1 : Int32} {x1 : Int} (p1 : m1.toInt = x1) {m5 : Int32} {x5 : Int} (p5 : m5.toInt = x5) {ms0 : Int32} {xs0 : Int} (ps0 : ms0.toInt = xs0) {ms1 : Int32} {xs1 : Int} (ps1 : ms1.toInt = xs1) {r : Int × iv_M} {Q : Option Value → iv_H → Prop} (hq : ∀ (z : Int32) (h1 : iv_H), z.toInt = r.1 → Rep nc Ls Xs h1 r.2 → Q (some (.int z)) h1) (e : FX12_marks_b223 N s q0 x1 x5 xs0 xs1 = some r) : Rn d 302 (some .int) 223 [some (.ref q0), some (.int m1), none, none, none, some (.int m5), none, none] [.int ms0, .int ms1] h Q := by
  have hT := hX12_marks
  unfold FX12_marks_b223 at e
  refine Rn.n hT 6 (pc' := 232) (L' := [some (.ref q0), some (.int m1), none, none, none, some (.int m5), some (.int (ms1 + ms0)), none]) (st' := [.int (m5 &&& (2 : Int32)), .int (ms1 + ms0)]) rfl ?_
  by_cases c_3764 : (bAn x5 2) = 0
  · rw [if_pos c_3764] at e
    refine Rn.bf hT rfl rfl rfl (decide_eq_false (fun z => z ((ti_e (ti_and p5 L32_2) L32_0).mpr c_3764))) ?_
    refine Rn.n hT 1 (pc' := 236) (L' := [some (.ref q0), some (.int m1), none, none, none, some (.int m5), some (.int (ms1 + ms0)), none]) (st' := [.ref q0, .int (ms1 + ms0)]) rfl ?_
    obtain ⟨v_3765, e_3765, e⟩ := Option.bind_eq_some_iff.mp e
    refine Rn.call hT rfl rfl rfl (Nat.le_of_ble_eq_true rfl) (rcv_v gX12_emptyMany (by omega) (rp_ck hR (T12_o t0))) (RX12_emptyMany (by omega) hR t0 e_3765 (fun z_3765 p_3765 => ?_))
    show Rn d _ _ 239 [some (.ref q0), some (.int m1), none, none, none, some (.int m5), some (.int (ms1 + ms0)), none] [.int z_3765, .int (ms1 + ms0)] h Q
    refine Rn.n hT 1 (pc' := 240) (L' := [some (.ref q0), some (.int m1), none, none, none, some (.int m5), some (.int (ms1 + ms0)), none]) (st' := [.int (1 : Int32), .int z_3765, .int (ms1 + ms0)]) rfl ?_
    by_cases c_3766 : v_3765 = 1
    · rw [if_pos c_3766] at e
      refine Rn.bf hT rfl rfl rfl (decide_eq_false (fun z => z ((ti_e p_3765 L32_1).mpr c_3766))) ?_
      refine Rn.n hT 2 (pc' := 245) (L' := [some (.ref q0), some (.int m1), none, none, none, some (.int m5), some (.int (ms1 + ms0)), none]) (st' := [.int m1, .ref q0, .int (ms1 + ms0)]) rfl ?_
      obtain ⟨⟨v_3767, s_3768⟩, e_3767, e⟩ := Option.bind_eq_some_iff.mp e
      try dsimp only at e
      try dsimp only at e
      refine Rn.call hT rfl rfl rfl (Nat.le_of_ble_eq_true rfl) (rcv_v gX12_canBySlides (by omega) (rp_ck hR (T12_o t0))) (RX12_canBySlides (by omega) hR t0 p1 e_3767 (fun z_3767 h_3768 p_3767 R_3768 => ?_))
      show Rn d _ _ 248 [some (.ref q0), some (.int m1), none, none, none, some (.int m5), some (.int (ms1 + ms0)), none] [.int z_3767, .int (ms1 + ms0)] h_3768 Q
      by_cases c_3769 : v_3767 = 0
      · rw [if_pos c_3769] at e
        refine Rn.bf hT rfl rfl rfl (decide_eq_false (fun z => z ((ti_e p_3767 L32_0).mpr c_3769))) ?_
        refine Rn.n hT 2 (pc' := 257) (L' := [some (.ref q0), some (.int m1), none, none, none, some (.int m5), some (.int (ms1 + ms0)), none]) (st' := [.int (8 : Int32), .int (ms1 + ms0)]) rfl ?_
        exact Rn.weak (ll_n (ll_n (ll_n (ll_n (ll_n (ll_n (ll_n (ll_n ll_e)))))))) (RX12_marks_b257 hd R_3768 L32_8 (ti_add ps1 ps0) hq e)
      · rw [if_neg c_3769] at e
        refine Rn.bt hT rfl rfl rfl (decide_eq_true (fun z => c_3769 ((ti_e p_3767 L32_0).mp z))) ?_
        exact Rn.weak (ll_n (ll_n (ll_n (ll_n (ll_n (ll_n (ll_n (ll_n ll_e)))))))) (RX12_marks_b256 hd R_3768 (ti_add ps1 ps0) hq e)
    · rw [if_neg c_3766] at e
      refine Rn.bt hT rfl rfl rfl (decide_eq_true (fun z => c_3766 ((ti_e p_3765 L32_1).mp z))) ?_
      exact Rn.weak (ll_n (ll_n (ll_n (ll_n (ll_n (ll_n (ll_n (ll_n ll_e)))))))) (RX12_marks_b256 hd hR (ti_add ps1 ps0) hq e)
  · rw [if_neg c_3764] at e
    refine Rn.bt hT rfl rfl rfl (decide_eq_true (fun z => c_3764 ((ti_e (ti_and p5 L32_2) L32_0).mp z))) ?_
    exact Rn.weak (ll_n (ll_n (ll_n (ll_n (ll_n (ll_n (ll_n (ll_n ll_e)))))))) (RX12_marks_b256 hd hR (ti_add ps1 ps0) hq e)
def FX12_marks_b222 (N : Nat) (s : iv_M) (q0 : Nat) (x1 : Int) (x5 : Int) (xs0 : Int) : Option (Int × iv_M) := (FX12_marks_b223 N s q0 x1 x5 0 xs0)
set_option maxRecDepth 10000 in
set_option maxHeartbeats 4000000 in
theorem RX12_marks_b222 {d N nc Ls : Nat} {Xs : Nat → Int32} (hd : 4 ≤ d) {h : iv_H} {s : iv_M} (hR : Rep nc Ls Xs h s) {q0 : Nat} (t0 : T12 nc q0) {m1 : Int32} {x1 : Int} (p1 : m1.toInt = x1) {m5 : Int32} {x5 : Int} (p5 : m5.toInt = x5) {ms0 : Int32} {xs0 : Int} (ps0 : ms0.toInt = xs0) {r : Int × iv_M} {Q : Option Value → iv_H → Prop} (hq : ∀ (z : Int32) (h1 : iv_H), z.toInt = r.1 → Rep nc Ls Xs h1 r.2 → Q (some (.int z)) h1) (e : FX12_marks_b222 N s q0 x1 x5 xs0 = some r) : Rn d 302 (some .int) 222 [some (.ref q0), some (.int m1), none, none, none, some (.int m5), none, none] [.int ms0] h Q := by
  have hT := hX12_marks
  unfold FX12_marks_b222 at e
  refine Rn.n hT 1 (pc' := 223) (L' := [some (.ref q0), some (.int m1), none, none, none, some (.int m5), none, none]) (st' := [.int (0 : Int32), .int ms0]) rfl ?_
  exact Rn.weak (ll_s (ll_s (ll_n (ll_n (ll_n (ll_s (ll_n (ll_n ll_e)))))))) (RX12_marks_b223 hd hR t0 p1 p5 L32_0 ps0 hq e)
def FX12_marks_b201 (N : Nat) (s : iv_M) (q0 : Nat) (x1 : Int) (x4 : Int) (x5 : Int) (xs0 : Int) (xs1 : Int) : Option (Int × iv_M) := (if (bAn x5 3) = 0 then (if x4 = 0 then (FX12_marks_b222 N s q0 x1 x5 (w32 (xs1 + xs0))) else (FX12_marks_b223 N s q0 x1 x5 4 (w32 (xs1 + xs0)))) else (FX12_marks_b222 N s q0 x1 x5 (w32 (xs1 + xs0))))
set_option maxRecDepth 10000 in
set_option maxHeartbeats 4000000 in
theorem RX12_marks_b201 {d N nc Ls : Nat} {Xs : Nat → Int32} (hd : 4 ≤ d) {h : iv_H} {s : iv_M} (hR : Rep nc Ls Xs h s) {q0 : Nat} (t0 : T12 nc q0) {m1 : Int32} {x1 : Int} (p1 : m1.toInt = x1) {m4 : Int32} {x4 : Int} (p4 : m4.toInt = x4) {m5 : Int32} {x5 : Int} (p5 : m5.toInt = x5) {ms0 : Int32} {xs0 : Int} (ps0 : ms0.toInt = xs0) {ms1 : Int32} {xs1 : Int} (ps1 : ms1.toInt = xs1) {r : Int × iv_M} {Q : Option Value → iv_H → Prop} (hq : ∀ (z : Int32) (h1 : iv_H), z.toInt = r.1 → Rep nc Ls Xs h1 r.2 → Q (some (.int z)) h1) (e : FX12_marks_b201 N s q0 x1 x4 x5 xs0 xs1 = some r) : Rn d 302 (some .int) 201 [some (.ref q0), some (.int m1), none, none, some (.int m4), some (.int m5), none, none] [.int ms0, .int ms1] h Q := by
  have hT := hX12_marks
  unfold FX12_marks_b201 at e
  refine Rn.n hT 6 (pc' := 210) (L' := [some (.ref q0), some (.int m1), none, none, some (.int m4), some (.int m5), some (.int (ms1 + ms0)), none]) (st' := [.int (m5 &&& (3 : Int32)), .int (ms1 + ms0)]) rfl ?_
  by_cases c_3762 : (bAn x5 3) = 0
  · rw [if_pos c_3762] at e
    refine Rn.bf hT rfl rfl rfl (decide_eq_false (fun z => z ((ti_e (ti_and p5 L32_3) L32_0).mpr c_3762))) ?_
    refine Rn.n hT 1 (pc' := 215) (L' := [some (.ref q0), some (.int m1), none, none, some (.int m4), some (.int m5), some (.int (ms1 + ms0)), none]) (st' := [.int m4, .int (ms1 + ms0)]) rfl ?_
    by_cases c_3763 : x4 = 0
    · rw [if_pos c_3763] at e
      refine Rn.bt hT rfl rfl rfl (decide_eq_true ((ti_e p4 L32_0).mpr c_3763)) ?_
      exact Rn.weak (ll_s (ll_s (ll_n (ll_n (ll_n (ll_s (ll_n (ll_n ll_e)))))))) (RX12_marks_b222 hd hR t0 p1 p5 (ti_add ps1 ps0) hq e)
    · rw [if_neg c_3763] at e
      refine Rn.bf hT rfl rfl rfl (decide_eq_false (fun z => c_3763 ((ti_e p4 L32_0).mp z))) ?_
      refine Rn.n hT 2 (pc' := 223) (L' := [some (.ref q0), some (.int m1), none, none, some (.int m4), some (.int m5), some (.int (ms1 + ms0)), none]) (st' := [.int (4 : Int32), .int (ms1 + ms0)]) rfl ?_
      exact Rn.weak (ll_s (ll_s (ll_n (ll_n (ll_n (ll_s (ll_n (ll_n ll_e)))))))) (RX12_marks_b223 hd hR t0 p1 p5 L32_4 (ti_add ps1 ps0) hq e)
  · rw [if_neg c_3762] at e
    refine Rn.bt hT rfl rfl rfl (decide_eq_true (fun z => c_3762 ((ti_e (ti_and p5 L32_3) L32_0).mp z))) ?_
    exact Rn.weak (ll_s (ll_s (ll_n (ll_n (ll_n (ll_s (ll_n (ll_n ll_e)))))))) (RX12_marks_b222 hd hR t0 p1 p5 (ti_add ps1 ps0) hq e)
def FX12_marks_b200 (N : Nat) (s : iv_M) (q0 : Nat) (x1 : Int) (x4 : Int) (x5 : Int) (xs0 : Int) : Option (Int × iv_M) := (FX12_marks_b201 N s q0 x1 x4 x5 0 xs0)
set_option maxRecDepth 10000 in
set_option maxHeartbeats 4000000 in
theorem RX12_marks_b200 {d N nc Ls : Nat} {Xs : Nat → Int32} (hd : 4 ≤ d) {h : iv_H} {s : iv_M} (hR : Rep nc Ls Xs h s) {q0 : Nat} (t0 : T12 nc q0) {m1 : Int32} {x1 : Int} (p1 : m1.toInt = x1) {m4 : Int32} {x4 : Int} (p4 : m4.toInt = x4) {m5 : Int32} {x5 : Int} (p5 : m5.toInt = x5) {ms0 : Int32} {xs0 : Int} (ps0 : ms0.toInt = xs0) {r : Int × iv_M} {Q : Option Value → iv_H → Prop} (hq : ∀ (z : Int32) (h1 : iv_H), z.toInt = r.1 → Rep nc Ls Xs h1 r.2 → Q (some (.int z)) h1) (e : FX12_marks_b200 N s q0 x1 x4 x5 xs0 = some r) : Rn d 302 (some .int) 200 [some (.ref q0), some (.int m1), none, none, some (.int m4), some (.int m5), none, none] [.int ms0] h Q := by
  have hT := hX12_marks
  unfold FX12_marks_b200 at e
  refine Rn.n hT 1 (pc' := 201) (L' := [some (.ref q0), some (.int m1), none, none, some (.int m4), some (.int m5), none, none]) (st' := [.int (0 : Int32), .int ms0]) rfl ?_
  exact Rn.weak (ll_s (ll_s (ll_n (ll_n (ll_s (ll_s (ll_n (ll_n ll_e)))))))) (RX12_marks_b201 hd hR t0 p1 p4 p5 L32_0 ps0 hq e)
def FX12_marks_b181 (N : Nat) (s : iv_M) (q0 : Nat) (x1 : Int) (x3 : Int) (x4 : Int) (x5 : Int) (xs0 : Int) : Option (Int × iv_M) := (if (bAn x5 4) = 0 then (if x3 = 0 then (FX12_marks_b200 N s q0 x1 x4 x5 xs0) else (FX12_marks_b201 N s q0 x1 x4 x5 2 xs0)) else (FX12_marks_b200 N s q0 x1 x4 x5 xs0))
set_option maxRecDepth 10000 in
set_option maxHeartbeats 4000000 in
theorem RX12_marks_b181 {d N nc Ls : Nat} {Xs : Nat → Int32} (hd : 4 ≤ d) {h : iv_H} {s : iv_M} (hR : Rep nc Ls Xs h s) {q0 : Nat} (t0 : T12 nc q0) {m1 : Int32} {x1 : Int} (p1 : m1.toInt = x1) {m3 : Int32} {x3 : Int} (p3 : m3.toInt = x3) {m4 : Int32} {x4 : Int} (p4 : m4.toInt = x4) {m5 : Int32} {x5 : Int} (p5 : m5.toInt = x5) {ms0 : Int32} {xs0 : Int} (ps0 : ms0.toInt = xs0) {r : Int × iv_M} {Q : Option Value → iv_H → Prop} (hq : ∀ (z : Int32) (h1 : iv_H), z.toInt = r.1 → Rep nc Ls Xs h1 r.2 → Q (some (.int z)) h1) (e : FX12_marks_b181 N s q0 x1 x3 x4 x5 xs0 = some r) : Rn d 302 (some .int) 181 [some (.ref q0), some (.int m1), none, some (.int m3), some (.int m4), some (.int m5), none, none] [.int ms0] h Q := by
  have hT := hX12_marks
  unfold FX12_marks_b181 at e
  refine Rn.n hT 5 (pc' := 189) (L' := [some (.ref q0), some (.int m1), none, some (.int m3), some (.int m4), some (.int m5), some (.int ms0), none]) (st' := [.int (m5 &&& (4 : Int32)), .int ms0]) rfl ?_
  by_cases c_3760 : (bAn x5 4) = 0
  · rw [if_pos c_3760] at e
    refine Rn.bf hT rfl rfl rfl (decide_eq_false (fun z => z ((ti_e (ti_and p5 L32_4) L32_0).mpr c_3760))) ?_
    refine Rn.n hT 1 (pc' := 193) (L' := [some (.ref q0), some (.int m1), none, some (.int m3), some (.int m4), some (.int m5), some (.int ms0), none]) (st' := [.int m3, .int ms0]) rfl ?_
    by_cases c_3761 : x3 = 0
    · rw [if_pos c_3761] at e
      refine Rn.bt hT rfl rfl rfl (decide_eq_true ((ti_e p3 L32_0).mpr c_3761)) ?_
      exact Rn.weak (ll_s (ll_s (ll_n (ll_n (ll_s (ll_s (ll_n (ll_n ll_e)))))))) (RX12_marks_b200 hd hR t0 p1 p4 p5 ps0 hq e)
    · rw [if_neg c_3761] at e
      refine Rn.bf hT rfl rfl rfl (decide_eq_false (fun z => c_3761 ((ti_e p3 L32_0).mp z))) ?_
      refine Rn.n hT 2 (pc' := 201) (L' := [some (.ref q0), some (.int m1), none, some (.int m3), some (.int m4), some (.int m5), some (.int ms0), none]) (st' := [.int (2 : Int32), .int ms0]) rfl ?_
      exact Rn.weak (ll_s (ll_s (ll_n (ll_n (ll_s (ll_s (ll_n (ll_n ll_e)))))))) (RX12_marks_b201 hd hR t0 p1 p4 p5 L32_2 ps0 hq e)
  · rw [if_neg c_3760] at e
    refine Rn.bt hT rfl rfl rfl (decide_eq_true (fun z => c_3760 ((ti_e (ti_and p5 L32_4) L32_0).mp z))) ?_
    exact Rn.weak (ll_s (ll_s (ll_n (ll_n (ll_s (ll_s (ll_n (ll_n ll_e)))))))) (RX12_marks_b200 hd hR t0 p1 p4 p5 ps0 hq e)
def FX12_marks (N : Nat) (s : iv_M) (q0 : Nat) (x1 : Int) : Option (Int × iv_M) := ((FX12_isDraft N s q0 x1).bind fun v_3737 => (if v_3737 = 0 then (some ((-1), s)) else (FX12_marks_l20 N q0 x1 (fun (s_3739 : iv_M) (x3740_2 : Int) (x3740_3 : Int) (x3740_4 : Int) => ((rd s_3739 (q0 + 1) 14 4).bind fun v_3741 => (if x3740_2 = 0 then (FX12_marks_b181 N s_3739 q0 x1 x3740_3 x3740_4 v_3741 0) else (FX12_marks_b181 N s_3739 q0 x1 x3740_3 x3740_4 v_3741 1)))) N s 0 0 0 0)))
set_option maxRecDepth 10000 in
set_option maxHeartbeats 4000000 in
theorem RX12_marks {d N nc Ls : Nat} {Xs : Nat → Int32} (hd : 5 ≤ d) {h : iv_H} {s : iv_M} (hR : Rep nc Ls Xs h s) {q0 : Nat} (t0 : T12 nc q0) {m1 : Int32} {x1 : Int} (p1 : m1.toInt = x1) {r : Int × iv_M} {Q : Option Value → iv_H → Prop} (e : FX12_marks N s q0 x1 = some r) (hq : ∀ (z : Int32) (h1 : iv_H), z.toInt = r.1 → Rep nc Ls Xs h1 r.2 → Q (some (.int z)) h1) : Cl d 302 [.ref q0, .int m1] h Q := by
  obtain ⟨d, rfl⟩ : ∃ k, d = k + 1 := ⟨d - 1, by omega⟩
  have hd : 4 ≤ d := by omega
  have hT := hX12_marks
  unfold FX12_marks at e
  refine Cl.into (by decide) gX12_marks rfl ?_
  show Rn d 302 (some .int) 0 [some (.ref q0), some (.int m1), none, none, none, none, none, none] [] h Q
  refine Rn.n hT 2 (pc' := 2) (L' := [some (.ref q0), some (.int m1), none, none, none, none, none, none]) (st' := [.int m1, .ref q0]) rfl ?_
  obtain ⟨v_3737, e_3737, e⟩ := Option.bind_eq_some_iff.mp e
  refine Rn.call hT rfl rfl rfl (Nat.le_of_ble_eq_true rfl) (rcv_v gX12_isDraft (by omega) (rp_ck hR (T12_o t0))) (RX12_isDraft (by omega) hR t0 p1 e_3737 (fun z_3737 p_3737 => ?_))
  show Rn d _ _ 5 [some (.ref q0), some (.int m1), none, none, none, none, none, none] [.int z_3737] h Q
  by_cases c_3738 : v_3737 = 0
  · rw [if_pos c_3738] at e
    refine Rn.bf hT rfl rfl rfl (decide_eq_false (fun z => z ((ti_e p_3737 L32_0).mpr c_3738))) ?_
    refine Rn.n hT 1 (pc' := 9) (L' := [some (.ref q0), some (.int m1), none, none, none, none, none, none]) (st' := [.int (-1 : Int32)]) rfl ?_
    obtain rfl := Option.some.inj e
    exact Rn.ret hT rfl rfl rfl (hq (-1 : Int32) h L32_m1 hR)
  · rw [if_neg c_3738] at e
    refine Rn.bt hT rfl rfl rfl (decide_eq_true (fun z => c_3738 ((ti_e p_3737 L32_0).mp z))) ?_
    refine Rn.n hT 8 (pc' := 20) (L' := [some (.ref q0), some (.int m1), some (.int (0 : Int32)), some (.int (0 : Int32)), some (.int (0 : Int32)), some (.int (0 : Int32)), none, none]) (st' := []) rfl ?_
    refine Rn.weak (ll_s (ll_s (ll_s (ll_s (ll_s (ll_s (ll_n (ll_n ll_e)))))))) (RX12_marks_l20 hd t0 p1 (fun h_3739 s_3739 R_3739 m3740_2 x3740_2 p3740_2 m3740_3 x3740_3 p3740_3 m3740_4 x3740_4 p3740_4 e => ?_) hq N h s hR (0 : Int32) 0 L32_0 (0 : Int32) 0 L32_0 (0 : Int32) 0 L32_0 (0 : Int32) 0 L32_0 e)
    try dsimp only at e
    refine Rn.n hT 1 (pc' := 165) (L' := [some (.ref q0), some (.int m1), some (.int m3740_2), some (.int m3740_3), some (.int m3740_4), none, none, none]) (st' := [.ref q0]) rfl ?_
    refine Rn.hp hT rfl rfl (gR_hp (rp_gR R_3739 (T12_o t0) rfl)) ?_
    refine Rn.n hT 1 (pc' := 169) (L' := [some (.ref q0), some (.int m1), some (.int m3740_2), some (.int m3740_3), some (.int m3740_4), none, none, none]) (st' := [.int (4 : Int32), .ref (q0 + 1)]) rfl ?_
    obtain ⟨v_3741, e_3741, e⟩ := Option.bind_eq_some_iff.mp e
    obtain ⟨z_3741, g_3741, p_3741⟩ := rp_aI R_3739 (T12_1 t0) (T12_1l t0) L32_4 e_3741
    refine Rn.hp hT rfl rfl (aI_hp g_3741) ?_
    refine Rn.n hT 2 (pc' := 173) (L' := [some (.ref q0), some (.int m1), some (.int m3740_2), some (.int m3740_3), some (.int m3740_4), some (.int z_3741), none, none]) (st' := [.int m3740_2]) rfl ?_
    by_cases c_3742 : x3740_2 = 0
    · rw [if_pos c_3742] at e
      refine Rn.bt hT rfl rfl rfl (decide_eq_true ((ti_e p3740_2 L32_0).mpr c_3742)) ?_
      refine Rn.n hT 1 (pc' := 181) (L' := [some (.ref q0), some (.int m1), some (.int m3740_2), some (.int m3740_3), some (.int m3740_4), some (.int z_3741), none, none]) (st' := [.int (0 : Int32)]) rfl ?_
      exact Rn.weak (ll_s (ll_s (ll_n (ll_s (ll_s (ll_s (ll_n (ll_n ll_e)))))))) (RX12_marks_b181 hd R_3739 t0 p1 p3740_3 p3740_4 p_3741 L32_0 hq e)
    · rw [if_neg c_3742] at e
      refine Rn.bf hT rfl rfl rfl (decide_eq_false (fun z => c_3742 ((ti_e p3740_2 L32_0).mp z))) ?_
      refine Rn.n hT 2 (pc' := 181) (L' := [some (.ref q0), some (.int m1), some (.int m3740_2), some (.int m3740_3), some (.int m3740_4), some (.int z_3741), none, none]) (st' := [.int (1 : Int32)]) rfl ?_
      exact Rn.weak (ll_s (ll_s (ll_n (ll_s (ll_s (ll_s (ll_n (ll_n ll_e)))))))) (RX12_marks_b181 hd R_3739 t0 p1 p3740_3 p3740_4 p_3741 L32_1 hq e)
set_option maxRecDepth 10000 in
theorem hX12_isLaidWell : iv_Tb 303 tX12_isLaidWell := iv_tb_of (m := mX12_isLaidWell) rfl
set_option maxRecDepth 10000 in
theorem gX12_isLaidWell : PG.2 303 = some mX12_isLaidWell := iv_pi_of (t := tX12_isLaidWell) rfl (by decide)
def FX12_isLaidWell_b77 (N : Nat) (s : iv_M)   : Option (Int) := (some 0)
set_option maxRecDepth 10000 in
set_option maxHeartbeats 4000000 in
theorem RX12_isLaidWell_b77 {d N nc Ls : Nat} {Xs : Nat → Int32} (hd : 3 ≤ d) {h : iv_H} {s : iv_M} (hR : Rep nc Ls Xs h s)   {r : Int} {Q : Option Value → iv_H → Prop} (hq : ∀ (z : Int32), z.toInt = r → Q (some (.int z)) h) (e : FX12_isLaidWell_b77 N s   = some r) : Rn d 303 (some .boolean) 77 [none, none, none, none, none] [] h Q := by
  have hT := hX12_isLaidWell
  unfold FX12_isLaidWell_b77 at e
  refine Rn.n hT 1 (pc' := 78) (L' := [none, none, none, none, none]) (st' := [.int (0 : Int32)]) rfl ?_
  obtain rfl := Option.some.inj e
  exact Rn.ret hT rfl rfl rfl (hq (0 : Int32) L32_0)
def FX12_isLaidWell_b79 (N : Nat) (s : iv_M) (q0 : Nat) (x1 : Int) (x2 : Int)  (kb : Int → Option (Int)) (kx : Unit → Option (Int)) : Option (Int) := (kb (w32 (x2 + 1)))
set_option maxRecDepth 10000 in
set_option maxHeartbeats 4000000 in
theorem RX12_isLaidWell_b79 {d N nc Ls : Nat} {Xs : Nat → Int32} (hd : 3 ≤ d) {h : iv_H} {s : iv_M} (hR : Rep nc Ls Xs h s) {q0 : Nat} (t0 : T12 nc q0) {m1 : Int32} {x1 : Int} (p1 : m1.toInt = x1) {m2 : Int32} {x2 : Int} (p2 : m2.toInt = x2)  {kb : Int → Option (Int)} {kx : Unit → Option (Int)} {r : Int} {Q : Option Value → iv_H → Prop} (hb : ∀ (mw2 : Int32) (xw2 : Int) (pw2 : mw2.toInt = xw2), kb xw2 = some r → Rn d 303 (some .boolean) 2 [some (.ref q0), some (.int m1), some (.int mw2), none, none] [] h Q) (hk : ∀ (u : Unit), kx u = some r → Rn d 303 (some .boolean) 85 [none, none, none, none, none] [] h Q) (hq : ∀ (z : Int32), z.toInt = r → Q (some (.int z)) h) (e : FX12_isLaidWell_b79 N s q0 x1 x2  kb kx = some r) : Rn d 303 (some .boolean) 79 [some (.ref q0), some (.int m1), some (.int m2), none, none] [] h Q := by
  have hT := hX12_isLaidWell
  unfold FX12_isLaidWell_b79 at e
  refine Rn.n hT 2 (pc' := 2) (L' := [some (.ref q0), some (.int m1), some (.int (m2 + (1 : Int32))), none, none]) (st' := []) rfl ?_
  exact Rn.weak (ll_s (ll_s (ll_s (ll_n (ll_n ll_e))))) (hb (m2 + (1 : Int32)) (w32 (x2 + 1)) (ti_add p2 L32_1) e)
def FX12_isLaidWell_b51 (N : Nat) (s : iv_M) (q0 : Nat) (x1 : Int) (x2 : Int) (x4 : Int)  (kb : Int → Option (Int)) (kx : Unit → Option (Int)) : Option (Int) := (if x4 = (-1) then (FX12_isLaidWell_b79 N s q0 x1 x2 kb kx) else ((FX12_sortAt N s q0 x1 x2).bind fun v_3780 => ((FX12_sortAt N s q0 x4 (bAn (w32 (x2 + 2)) 3)).bind fun v_3781 => (if v_3780 = v_3781 then (FX12_isLaidWell_b79 N s q0 x1 x2 kb kx) else (FX12_isLaidWell_b77 N s)))))
set_option maxRecDepth 10000 in
set_option maxHeartbeats 4000000 in
theorem RX12_isLaidWell_b51 {d N nc Ls : Nat} {Xs : Nat → Int32} (hd : 3 ≤ d) {h : iv_H} {s : iv_M} (hR : Rep nc Ls Xs h s) {q0 : Nat} (t0 : T12 nc q0) {m1 : Int32} {x1 : Int} (p1 : m1.toInt = x1) {m2 : Int32} {x2 : Int} (p2 : m2.toInt = x2) {m4 : Int32} {x4 : Int} (p4 : m4.toInt = x4)  {kb : Int → Option (Int)} {kx : Unit → Option (Int)} {r : Int} {Q : Option Value → iv_H → Prop} (hb : ∀ (mw2 : Int32) (xw2 : Int) (pw2 : mw2.toInt = xw2), kb xw2 = some r → Rn d 303 (some .boolean) 2 [some (.ref q0), some (.int m1), some (.int mw2), none, none] [] h Q) (hk : ∀ (u : Unit), kx u = some r → Rn d 303 (some .boolean) 85 [none, none, none, none, none] [] h Q) (hq : ∀ (z : Int32), z.toInt = r → Q (some (.int z)) h) (e : FX12_isLaidWell_b51 N s q0 x1 x2 x4  kb kx = some r) : Rn d 303 (some .boolean) 51 [some (.ref q0), some (.int m1), some (.int m2), none, some (.int m4)] [] h Q := by
  have hT := hX12_isLaidWell
  unfold FX12_isLaidWell_b51 at e
  refine Rn.n hT 2 (pc' := 54) (L' := [some (.ref q0), some (.int m1), some (.int m2), none, some (.int m4)]) (st' := [.int (-1 : Int32), .int m4]) rfl ?_
  by_cases c_3779 : x4 = (-1)
  · rw [if_pos c_3779] at e
    refine Rn.bt hT rfl rfl rfl (decide_eq_true ((ti_e p4 L32_m1).mpr c_3779)) ?_
    exact Rn.weak (ll_s (ll_s (ll_s (ll_n (ll_n ll_e))))) (RX12_isLaidWell_b79 hd hR t0 p1 p2 hb hk hq e)
  · rw [if_neg c_3779] at e
    refine Rn.bf hT rfl rfl rfl (decide_eq_false (fun z => c_3779 ((ti_e p4 L32_m1).mp z))) ?_
    refine Rn.n hT 3 (pc' := 60) (L' := [some (.ref q0), some (.int m1), some (.int m2), none, some (.int m4)]) (st' := [.int m2, .int m1, .ref q0]) rfl ?_
    obtain ⟨v_3780, e_3780, e⟩ := Option.bind_eq_some_iff.mp e
    refine Rn.call hT rfl rfl rfl (Nat.le_of_ble_eq_true rfl) (rcv_v gX12_sortAt (by omega) (rp_ck hR (T12_o t0))) (RX12_sortAt (by omega) hR t0 p1 p2 e_3780 (fun z_3780 p_3780 => ?_))
    show Rn d _ _ 63 [some (.ref q0), some (.int m1), some (.int m2), none, some (.int m4)] [.int z_3780] h Q
    refine Rn.n hT 7 (pc' := 71) (L' := [some (.ref q0), some (.int m1), some (.int m2), none, some (.int m4)]) (st' := [.int ((m2 + (2 : Int32)) &&& (3 : Int32)), .int m4, .ref q0, .int z_3780]) rfl ?_
    obtain ⟨v_3781, e_3781, e⟩ := Option.bind_eq_some_iff.mp e
    refine Rn.call hT rfl rfl rfl (Nat.le_of_ble_eq_true rfl) (rcv_v gX12_sortAt (by omega) (rp_ck hR (T12_o t0))) (RX12_sortAt (by omega) hR t0 p4 (ti_and (ti_add p2 L32_2) L32_3) e_3781 (fun z_3781 p_3781 => ?_))
    show Rn d _ _ 74 [some (.ref q0), some (.int m1), some (.int m2), none, some (.int m4)] [.int z_3781, .int z_3780] h Q
    by_cases c_3782 : v_3780 = v_3781
    · rw [if_pos c_3782] at e
      refine Rn.bt hT rfl rfl rfl (decide_eq_true ((ti_e p_3780 p_3781).mpr c_3782)) ?_
      exact Rn.weak (ll_s (ll_s (ll_s (ll_n (ll_n ll_e))))) (RX12_isLaidWell_b79 hd hR t0 p1 p2 hb hk hq e)
    · rw [if_neg c_3782] at e
      refine Rn.bf hT rfl rfl rfl (decide_eq_false (fun z => c_3782 ((ti_e p_3780 p_3781).mp z))) ?_
      exact Rn.weak (ll_n (ll_n (ll_n (ll_n (ll_n ll_e))))) (RX12_isLaidWell_b77 hd hR hq e)
def FX12_isLaidWell_b34 (N : Nat) (s : iv_M) (q0 : Nat) (x1 : Int) (x2 : Int) (x3 : Int) (xs0 : Int) (kb : Int → Option (Int)) (kx : Unit → Option (Int)) : Option (Int) := (if x3 = (-1) then ((FX12_sortAt N s q0 x1 x2).bind fun v_3777 => (if v_3777 = 1 then (FX12_isLaidWell_b77 N s) else (FX12_isLaidWell_b51 N s q0 x1 x2 xs0 kb kx))) else (FX12_isLaidWell_b51 N s q0 x1 x2 xs0 kb kx))
set_option maxRecDepth 10000 in
set_option maxHeartbeats 4000000 in
theorem RX12_isLaidWell_b34 {d N nc Ls : Nat} {Xs : Nat → Int32} (hd : 3 ≤ d) {h : iv_H} {s : iv_M} (hR : Rep nc Ls Xs h s) {q0 : Nat} (t0 : T12 nc q0) {m1 : Int32} {x1 : Int} (p1 : m1.toInt = x1) {m2 : Int32} {x2 : Int} (p2 : m2.toInt = x2) {m3 : Int32} {x3 : Int} (p3 : m3.toInt = x3) {ms0 : Int32} {xs0 : Int} (ps0 : ms0.toInt = xs0) {kb : Int → Option (Int)} {kx : Unit → Option (Int)} {r : Int} {Q : Option Value → iv_H → Prop} (hb : ∀ (mw2 : Int32) (xw2 : Int) (pw2 : mw2.toInt = xw2), kb xw2 = some r → Rn d 303 (some .boolean) 2 [some (.ref q0), some (.int m1), some (.int mw2), none, none] [] h Q) (hk : ∀ (u : Unit), kx u = some r → Rn d 303 (some .boolean) 85 [none, none, none, none, none] [] h Q) (hq : ∀ (z : Int32), z.toInt = r → Q (some (.int z)) h) (e : FX12_isLaidWell_b34 N s q0 x1 x2 x3 xs0 kb kx = some r) : Rn d 303 (some .boolean) 34 [some (.ref q0), some (.int m1), some (.int m2), some (.int m3), none] [.int ms0] h Q := by
  have hT := hX12_isLaidWell
  unfold FX12_isLaidWell_b34 at e
  refine Rn.n hT 3 (pc' := 38) (L' := [some (.ref q0), some (.int m1), some (.int m2), some (.int m3), some (.int ms0)]) (st' := [.int (-1 : Int32), .int m3]) rfl ?_
  by_cases c_3776 : x3 = (-1)
  · rw [if_pos c_3776] at e
    refine Rn.bf hT rfl rfl rfl (decide_eq_false (fun z => z ((ti_e p3 L32_m1).mpr c_3776))) ?_
    refine Rn.n hT 3 (pc' := 44) (L' := [some (.ref q0), some (.int m1), some (.int m2), some (.int m3), some (.int ms0)]) (st' := [.int m2, .int m1, .ref q0]) rfl ?_
    obtain ⟨v_3777, e_3777, e⟩ := Option.bind_eq_some_iff.mp e
    refine Rn.call hT rfl rfl rfl (Nat.le_of_ble_eq_true rfl) (rcv_v gX12_sortAt (by omega) (rp_ck hR (T12_o t0))) (RX12_sortAt (by omega) hR t0 p1 p2 e_3777 (fun z_3777 p_3777 => ?_))
    show Rn d _ _ 47 [some (.ref q0), some (.int m1), some (.int m2), some (.int m3), some (.int ms0)] [.int z_3777] h Q
    refine Rn.n hT 1 (pc' := 48) (L' := [some (.ref q0), some (.int m1), some (.int m2), some (.int m3), some (.int ms0)]) (st' := [.int (1 : Int32), .int z_3777]) rfl ?_
    by_cases c_3778 : v_3777 = 1
    · rw [if_pos c_3778] at e
      refine Rn.bt hT rfl rfl rfl (decide_eq_true ((ti_e p_3777 L32_1).mpr c_3778)) ?_
      exact Rn.weak (ll_n (ll_n (ll_n (ll_n (ll_n ll_e))))) (RX12_isLaidWell_b77 hd hR hq e)
    · rw [if_neg c_3778] at e
      refine Rn.bf hT rfl rfl rfl (decide_eq_false (fun z => c_3778 ((ti_e p_3777 L32_1).mp z))) ?_
      exact Rn.weak (ll_s (ll_s (ll_s (ll_n (ll_s ll_e))))) (RX12_isLaidWell_b51 hd hR t0 p1 p2 ps0 hb hk hq e)
  · rw [if_neg c_3776] at e
    refine Rn.bt hT rfl rfl rfl (decide_eq_true (fun z => c_3776 ((ti_e p3 L32_m1).mp z))) ?_
    exact Rn.weak (ll_s (ll_s (ll_s (ll_n (ll_s ll_e))))) (RX12_isLaidWell_b51 hd hR t0 p1 p2 ps0 hb hk hq e)
def FX12_isLaidWell_l2 (N : Nat) (s : iv_M) (q0 : Nat) (x1 : Int) (kx : Unit → Option (Int)) : Nat → Int → Option (Int)
  | 0, _ => none
  | n + 1, x2 => (if 4 ≤ x2 then (kx ()) else ((rd s (q0 + 3) 12 x1).bind fun v_3772 => ((FX12_by N s q0 v_3772 x2).bind fun v_3773 => (if v_3773 = (-1) then (FX12_isLaidWell_b34 N s q0 x1 x2 v_3773 (-1) (FX12_isLaidWell_l2 N s q0 x1 kx n) kx) else ((rd s (q0 + 8) 16 v_3773).bind fun v_3775 => (FX12_isLaidWell_b34 N s q0 x1 x2 v_3773 v_3775 (FX12_isLaidWell_l2 N s q0 x1 kx n) kx))))))
set_option maxRecDepth 10000 in
set_option maxHeartbeats 4000000 in
theorem RX12_isLaidWell_l2 {d N nc Ls : Nat} {Xs : Nat → Int32} (hd : 3 ≤ d) {h : iv_H} {s : iv_M} (hR : Rep nc Ls Xs h s) {q0 : Nat} (t0 : T12 nc q0) {m1 : Int32} {x1 : Int} (p1 : m1.toInt = x1) {kx : Unit → Option (Int)} {r : Int} {Q : Option Value → iv_H → Prop} (hk : ∀ (u : Unit), kx u = some r → Rn d 303 (some .boolean) 85 [none, none, none, none, none] [] h Q) (hq : ∀ (z : Int32), z.toInt = r → Q (some (.int z)) h) : ∀ (n : Nat) (m2 : Int32) (x2 : Int) (p2 : m2.toInt = x2), FX12_isLaidWell_l2 N s q0 x1 kx n x2 = some r → Rn d 303 (some .boolean) 2 [some (.ref q0), some (.int m1), some (.int m2), none, none] [] h Q := by
  have hT := hX12_isLaidWell
  intro n
  induction n with
  | zero =>
    intro m2 x2 p2 e
    rw [FX12_isLaidWell_l2] at e
    cases e
  | succ n ih =>
    intro m2 x2 p2 e
    rw [FX12_isLaidWell_l2] at e
    refine Rn.n hT 2 (pc' := 4) (L' := [some (.ref q0), some (.int m1), some (.int m2), none, none]) (st' := [.int (4 : Int32), .int m2]) rfl ?_
    by_cases c_3771 : 4 ≤ x2
    · rw [if_pos c_3771] at e
      refine Rn.bt hT rfl rfl rfl (decide_eq_true ((ti_le L32_4 p2).mpr c_3771)) ?_
      exact Rn.weak (ll_n (ll_n (ll_n (ll_n (ll_n ll_e))))) (hk () e)
    · rw [if_neg c_3771] at e
      refine Rn.bf hT rfl rfl rfl (decide_eq_false (fun z => c_3771 ((ti_le L32_4 p2).mp z))) ?_
      refine Rn.n hT 2 (pc' := 9) (L' := [some (.ref q0), some (.int m1), some (.int m2), none, none]) (st' := [.ref q0, .ref q0]) rfl ?_
      refine Rn.hp hT rfl rfl (gR_hp (rp_gR hR (T12_o t0) rfl)) ?_
      refine Rn.n hT 1 (pc' := 13) (L' := [some (.ref q0), some (.int m1), some (.int m2), none, none]) (st' := [.int m1, .ref (q0 + 3), .ref q0]) rfl ?_
      obtain ⟨v_3772, e_3772, e⟩ := Option.bind_eq_some_iff.mp e
      obtain ⟨z_3772, g_3772, p_3772⟩ := rp_aI hR (T12_3 t0) (T12_3l t0) p1 e_3772
      refine Rn.hp hT rfl rfl (aI_hp g_3772) ?_
      refine Rn.n hT 1 (pc' := 15) (L' := [some (.ref q0), some (.int m1), some (.int m2), none, none]) (st' := [.int m2, .int z_3772, .ref q0]) rfl ?_
      obtain ⟨v_3773, e_3773, e⟩ := Option.bind_eq_some_iff.mp e
      refine Rn.call hT rfl rfl rfl (Nat.le_of_ble_eq_true rfl) (rcv_v gX12_by (by omega) (rp_ck hR (T12_o t0))) (RX12_by (by omega) hR t0 p_3772 p2 e_3773 (fun z_3773 p_3773 => ?_))
      show Rn d _ _ 18 [some (.ref q0), some (.int m1), some (.int m2), none, none] [.int z_3773] h Q
      refine Rn.n hT 3 (pc' := 21) (L' := [some (.ref q0), some (.int m1), some (.int m2), some (.int z_3773), none]) (st' := [.int (-1 : Int32), .int z_3773]) rfl ?_
      by_cases c_3774 : v_3773 = (-1)
      · rw [if_pos c_3774] at e
        refine Rn.bf hT rfl rfl rfl (decide_eq_false (fun z => z ((ti_e p_3773 L32_m1).mpr c_3774))) ?_
        refine Rn.n hT 2 (pc' := 34) (L' := [some (.ref q0), some (.int m1), some (.int m2), some (.int z_3773), none]) (st' := [.int (-1 : Int32)]) rfl ?_
        exact Rn.weak (ll_s (ll_s (ll_s (ll_s (ll_n ll_e))))) (RX12_isLaidWell_b34 hd hR t0 p1 p2 p_3773 L32_m1 ih hk hq e)
      · rw [if_neg c_3774] at e
        refine Rn.bt hT rfl rfl rfl (decide_eq_true (fun z => c_3774 ((ti_e p_3773 L32_m1).mp z))) ?_
        refine Rn.n hT 1 (pc' := 29) (L' := [some (.ref q0), some (.int m1), some (.int m2), some (.int z_3773), none]) (st' := [.ref q0]) rfl ?_
        refine Rn.hp hT rfl rfl (gR_hp (rp_gR hR (T12_o t0) rfl)) ?_
        refine Rn.n hT 1 (pc' := 33) (L' := [some (.ref q0), some (.int m1), some (.int m2), some (.int z_3773), none]) (st' := [.int z_3773, .ref (q0 + 8)]) rfl ?_
        obtain ⟨v_3775, e_3775, e⟩ := Option.bind_eq_some_iff.mp e
        obtain ⟨z_3775, g_3775, p_3775⟩ := rp_aI hR (T12_8 t0) (T12_8l t0) p_3773 e_3775
        refine Rn.hp hT rfl rfl (aI_hp g_3775) ?_
        exact Rn.weak (ll_s (ll_s (ll_s (ll_s (ll_n ll_e))))) (RX12_isLaidWell_b34 hd hR t0 p1 p2 p_3773 p_3775 ih hk hq e)
def FX12_isLaidWell (N : Nat) (s : iv_M) (q0 : Nat) (x1 : Int) : Option (Int) := (FX12_isLaidWell_l2 N s q0 x1 (fun (_ : Unit) => (some 1)) N 0)
set_option maxRecDepth 10000 in
set_option maxHeartbeats 4000000 in
theorem RX12_isLaidWell {d N nc Ls : Nat} {Xs : Nat → Int32} (hd : 4 ≤ d) {h : iv_H} {s : iv_M} (hR : Rep nc Ls Xs h s) {q0 : Nat} (t0 : T12 nc q0) {m1 : Int32} {x1 : Int} (p1 : m1.toInt = x1) {r : Int} {Q : Option Value → iv_H → Prop} (e : FX12_isLaidWell N s q0 x1 = some r) (hq : ∀ (z : Int32), z.toInt = r → Q (some (.int z)) h) : Cl d 303 [.ref q0, .int m1] h Q := by
  obtain ⟨d, rfl⟩ : ∃ k, d = k + 1 := ⟨d - 1, by omega⟩
  have hd : 3 ≤ d := by omega
  have hT := hX12_isLaidWell
  unfold FX12_isLaidWell at e
  refine Cl.into (by decide) gX12_isLaidWell rfl ?_
  show Rn d 303 (some .boolean) 0 [some (.ref q0), some (.int m1), none, none, none] [] h Q
  refine Rn.n hT 2 (pc' := 2) (L' := [some (.ref q0), some (.int m1), some (.int (0 : Int32)), none, none]) (st' := []) rfl ?_
  refine Rn.weak (ll_s (ll_s (ll_s (ll_n (ll_n ll_e))))) (RX12_isLaidWell_l2 hd hR t0 p1 (fun _ e => ?_) hq N (0 : Int32) 0 L32_0 e)
  try dsimp only at e
  refine Rn.n hT 1 (pc' := 86) (L' := [none, none, none, none, none]) (st' := [.int (1 : Int32)]) rfl ?_
  obtain rfl := Option.some.inj e
  exact Rn.ret hT rfl rfl rfl (hq (1 : Int32) L32_1)
set_option maxRecDepth 10000 in
theorem hX12_areFixedWell : iv_Tb 304 tX12_areFixedWell := iv_tb_of (m := mX12_areFixedWell) rfl
set_option maxRecDepth 10000 in
theorem gX12_areFixedWell : PG.2 304 = some mX12_areFixedWell := iv_pi_of (t := tX12_areFixedWell) rfl (by decide)
def FX12_areFixedWell_b40 (N : Nat) (s : iv_M) (q0 : Nat) (x2 : Int) (xs0 : Int) (kb : Int → Int → Option (Int)) (kx : Int → Option (Int)) : Option (Int) := (kb xs0 (w32 (x2 + 1)))
set_option maxRecDepth 10000 in
set_option maxHeartbeats 4000000 in
theorem RX12_areFixedWell_b40 {d N nc Ls : Nat} {Xs : Nat → Int32} (hd : 4 ≤ d) {h : iv_H} {s : iv_M} (hR : Rep nc Ls Xs h s) {q0 : Nat} (t0 : T12 nc q0) {m2 : Int32} {x2 : Int} (p2 : m2.toInt = x2) {ms0 : Int32} {xs0 : Int} (ps0 : ms0.toInt = xs0) {kb : Int → Int → Option (Int)} {kx : Int → Option (Int)} {r : Int} {Q : Option Value → iv_H → Prop} (hb : ∀ (mw1 : Int32) (xw1 : Int) (pw1 : mw1.toInt = xw1) (mw2 : Int32) (xw2 : Int) (pw2 : mw2.toInt = xw2), kb xw1 xw2 = some r → Rn d 304 (some .boolean) 4 [some (.ref q0), some (.int mw1), some (.int mw2)] [] h Q) (hk : ∀ (mw1 : Int32) (xw1 : Int) (pw1 : mw1.toInt = xw1), kx xw1 = some r → Rn d 304 (some .boolean) 47 [none, some (.int mw1), none] [] h Q) (hq : ∀ (z : Int32), z.toInt = r → Q (some (.int z)) h) (e : FX12_areFixedWell_b40 N s q0 x2 xs0 kb kx = some r) : Rn d 304 (some .boolean) 40 [some (.ref q0), none, some (.int m2)] [.int ms0] h Q := by
  have hT := hX12_areFixedWell
  unfold FX12_areFixedWell_b40 at e
  refine Rn.n hT 3 (pc' := 4) (L' := [some (.ref q0), some (.int ms0), some (.int (m2 + (1 : Int32)))]) (st' := []) rfl ?_
  exact Rn.weak (ll_s (ll_s (ll_s ll_e))) (hb ms0 xs0 ps0 (m2 + (1 : Int32)) (w32 (x2 + 1)) (ti_add p2 L32_1) e)
def FX12_areFixedWell_b35 (N : Nat) (s : iv_M) (q0 : Nat) (x2 : Int)  (kb : Int → Int → Option (Int)) (kx : Int → Option (Int)) : Option (Int) := (FX12_areFixedWell_b40 N s q0 x2 1 kb kx)
set_option maxRecDepth 10000 in
set_option maxHeartbeats 4000000 in
theorem RX12_areFixedWell_b35 {d N nc Ls : Nat} {Xs : Nat → Int32} (hd : 4 ≤ d) {h : iv_H} {s : iv_M} (hR : Rep nc Ls Xs h s) {q0 : Nat} (t0 : T12 nc q0) {m2 : Int32} {x2 : Int} (p2 : m2.toInt = x2)  {kb : Int → Int → Option (Int)} {kx : Int → Option (Int)} {r : Int} {Q : Option Value → iv_H → Prop} (hb : ∀ (mw1 : Int32) (xw1 : Int) (pw1 : mw1.toInt = xw1) (mw2 : Int32) (xw2 : Int) (pw2 : mw2.toInt = xw2), kb xw1 xw2 = some r → Rn d 304 (some .boolean) 4 [some (.ref q0), some (.int mw1), some (.int mw2)] [] h Q) (hk : ∀ (mw1 : Int32) (xw1 : Int) (pw1 : mw1.toInt = xw1), kx xw1 = some r → Rn d 304 (some .boolean) 47 [none, some (.int mw1), none] [] h Q) (hq : ∀ (z : Int32), z.toInt = r → Q (some (.int z)) h) (e : FX12_areFixedWell_b35 N s q0 x2  kb kx = some r) : Rn d 304 (some .boolean) 35 [some (.ref q0), none, some (.int m2)] [] h Q := by
  have hT := hX12_areFixedWell
  unfold FX12_areFixedWell_b35 at e
  refine Rn.n hT 2 (pc' := 40) (L' := [some (.ref q0), none, some (.int m2)]) (st' := [.int (1 : Int32)]) rfl ?_
  exact Rn.weak (ll_s (ll_n (ll_s ll_e))) (RX12_areFixedWell_b40 hd hR t0 p2 L32_1 hb hk hq e)
def FX12_areFixedWell_b39 (N : Nat) (s : iv_M) (q0 : Nat) (x2 : Int)  (kb : Int → Int → Option (Int)) (kx : Int → Option (Int)) : Option (Int) := (FX12_areFixedWell_b40 N s q0 x2 0 kb kx)
set_option maxRecDepth 10000 in
set_option maxHeartbeats 4000000 in
theorem RX12_areFixedWell_b39 {d N nc Ls : Nat} {Xs : Nat → Int32} (hd : 4 ≤ d) {h : iv_H} {s : iv_M} (hR : Rep nc Ls Xs h s) {q0 : Nat} (t0 : T12 nc q0) {m2 : Int32} {x2 : Int} (p2 : m2.toInt = x2)  {kb : Int → Int → Option (Int)} {kx : Int → Option (Int)} {r : Int} {Q : Option Value → iv_H → Prop} (hb : ∀ (mw1 : Int32) (xw1 : Int) (pw1 : mw1.toInt = xw1) (mw2 : Int32) (xw2 : Int) (pw2 : mw2.toInt = xw2), kb xw1 xw2 = some r → Rn d 304 (some .boolean) 4 [some (.ref q0), some (.int mw1), some (.int mw2)] [] h Q) (hk : ∀ (mw1 : Int32) (xw1 : Int) (pw1 : mw1.toInt = xw1), kx xw1 = some r → Rn d 304 (some .boolean) 47 [none, some (.int mw1), none] [] h Q) (hq : ∀ (z : Int32), z.toInt = r → Q (some (.int z)) h) (e : FX12_areFixedWell_b39 N s q0 x2  kb kx = some r) : Rn d 304 (some .boolean) 39 [some (.ref q0), none, some (.int m2)] [] h Q := by
  have hT := hX12_areFixedWell
  unfold FX12_areFixedWell_b39 at e
  refine Rn.n hT 1 (pc' := 40) (L' := [some (.ref q0), none, some (.int m2)]) (st' := [.int (0 : Int32)]) rfl ?_
  exact Rn.weak (ll_s (ll_n (ll_s ll_e))) (RX12_areFixedWell_b40 hd hR t0 p2 L32_0 hb hk hq e)
def FX12_areFixedWell_l4 (N : Nat) (s : iv_M) (q0 : Nat) (kx : Int → Option (Int)) : Nat → Int → Int → Option (Int)
  | 0, _, _ => none
  | n + 1, x1, x2 => ((rd s (q0 + 1) 14 2).bind fun v_3785 => (if v_3785 ≤ x2 then (kx x1) else (if x1 = 0 then (FX12_areFixedWell_b39 N s q0 x2 (FX12_areFixedWell_l4 N s q0 kx n) kx) else ((rd s (q0 + 5) 12 x2).bind fun v_3788 => (if v_3788 = 0 then (FX12_areFixedWell_b35 N s q0 x2 (FX12_areFixedWell_l4 N s q0 kx n) kx) else ((FX12_isLaidWell N s q0 x2).bind fun v_3790 => (if v_3790 = 0 then (FX12_areFixedWell_b39 N s q0 x2 (FX12_areFixedWell_l4 N s q0 kx n) kx) else (FX12_areFixedWell_b35 N s q0 x2 (FX12_areFixedWell_l4 N s q0 kx n) kx))))))))
set_option maxRecDepth 10000 in
set_option maxHeartbeats 4000000 in
theorem RX12_areFixedWell_l4 {d N nc Ls : Nat} {Xs : Nat → Int32} (hd : 4 ≤ d) {h : iv_H} {s : iv_M} (hR : Rep nc Ls Xs h s) {q0 : Nat} (t0 : T12 nc q0) {kx : Int → Option (Int)} {r : Int} {Q : Option Value → iv_H → Prop} (hk : ∀ (m1 : Int32) (x1 : Int) (p1 : m1.toInt = x1), kx x1 = some r → Rn d 304 (some .boolean) 47 [none, some (.int m1), none] [] h Q) (hq : ∀ (z : Int32), z.toInt = r → Q (some (.int z)) h) : ∀ (n : Nat) (m1 : Int32) (x1 : Int) (p1 : m1.toInt = x1) (m2 : Int32) (x2 : Int) (p2 : m2.toInt = x2), FX12_areFixedWell_l4 N s q0 kx n x1 x2 = some r → Rn d 304 (some .boolean) 4 [some (.ref q0), some (.int m1), some (.int m2)] [] h Q := by
  have hT := hX12_areFixedWell
  intro n
  induction n with
  | zero =>
    intro m1 x1 p1 m2 x2 p2 e
    rw [FX12_areFixedWell_l4] at e
    cases e
  | succ n ih =>
    intro m1 x1 p1 m2 x2 p2 e
    rw [FX12_areFixedWell_l4] at e
    refine Rn.n hT 2 (pc' := 6) (L' := [some (.ref q0), some (.int m1), some (.int m2)]) (st' := [.ref q0, .int m2]) rfl ?_
    refine Rn.hp hT rfl rfl (gR_hp (rp_gR hR (T12_o t0) rfl)) ?_
    refine Rn.n hT 1 (pc' := 10) (L' := [some (.ref q0), some (.int m1), some (.int m2)]) (st' := [.int (2 : Int32), .ref (q0 + 1), .int m2]) rfl ?_
    obtain ⟨v_3785, e_3785, e⟩ := Option.bind_eq_some_iff.mp e
    obtain ⟨z_3785, g_3785, p_3785⟩ := rp_aI hR (T12_1 t0) (T12_1l t0) L32_2 e_3785
    refine Rn.hp hT rfl rfl (aI_hp g_3785) ?_
    by_cases c_3786 : v_3785 ≤ x2
    · rw [if_pos c_3786] at e
      refine Rn.bt hT rfl rfl rfl (decide_eq_true ((ti_le p_3785 p2).mpr c_3786)) ?_
      exact Rn.weak (ll_n (ll_s (ll_n ll_e))) (hk m1 x1 p1 e)
    · rw [if_neg c_3786] at e
      refine Rn.bf hT rfl rfl rfl (decide_eq_false (fun z => c_3786 ((ti_le p_3785 p2).mp z))) ?_
      refine Rn.n hT 1 (pc' := 15) (L' := [some (.ref q0), some (.int m1), some (.int m2)]) (st' := [.int m1]) rfl ?_
      by_cases c_3787 : x1 = 0
      · rw [if_pos c_3787] at e
        refine Rn.bt hT rfl rfl rfl (decide_eq_true ((ti_e p1 L32_0).mpr c_3787)) ?_
        exact Rn.weak (ll_s (ll_n (ll_s ll_e))) (RX12_areFixedWell_b39 hd hR t0 p2 ih hk hq e)
      · rw [if_neg c_3787] at e
        refine Rn.bf hT rfl rfl rfl (decide_eq_false (fun z => c_3787 ((ti_e p1 L32_0).mp z))) ?_
        refine Rn.n hT 1 (pc' := 19) (L' := [some (.ref q0), some (.int m1), some (.int m2)]) (st' := [.ref q0]) rfl ?_
        refine Rn.hp hT rfl rfl (gR_hp (rp_gR hR (T12_o t0) rfl)) ?_
        refine Rn.n hT 1 (pc' := 23) (L' := [some (.ref q0), some (.int m1), some (.int m2)]) (st' := [.int m2, .ref (q0 + 5)]) rfl ?_
        obtain ⟨v_3788, e_3788, e⟩ := Option.bind_eq_some_iff.mp e
        obtain ⟨z_3788, g_3788, p_3788⟩ := rp_aI hR (T12_5 t0) (T12_5l t0) p2 e_3788
        refine Rn.hp hT rfl rfl (aI_hp g_3788) ?_
        by_cases c_3789 : v_3788 = 0
        · rw [if_pos c_3789] at e
          refine Rn.bt hT rfl rfl rfl (decide_eq_true ((ti_e p_3788 L32_0).mpr c_3789)) ?_
          exact Rn.weak (ll_s (ll_n (ll_s ll_e))) (RX12_areFixedWell_b35 hd hR t0 p2 ih hk hq e)
        · rw [if_neg c_3789] at e
          refine Rn.bf hT rfl rfl rfl (decide_eq_false (fun z => c_3789 ((ti_e p_3788 L32_0).mp z))) ?_
          refine Rn.n hT 2 (pc' := 29) (L' := [some (.ref q0), some (.int m1), some (.int m2)]) (st' := [.int m2, .ref q0]) rfl ?_
          obtain ⟨v_3790, e_3790, e⟩ := Option.bind_eq_some_iff.mp e
          refine Rn.call hT rfl rfl rfl (Nat.le_of_ble_eq_true rfl) (rcv_v gX12_isLaidWell (by omega) (rp_ck hR (T12_o t0))) (RX12_isLaidWell (by omega) hR t0 p2 e_3790 (fun z_3790 p_3790 => ?_))
          show Rn d _ _ 32 [some (.ref q0), some (.int m1), some (.int m2)] [.int z_3790] h Q
          by_cases c_3791 : v_3790 = 0
          · rw [if_pos c_3791] at e
            refine Rn.bt hT rfl rfl rfl (decide_eq_true ((ti_e p_3790 L32_0).mpr c_3791)) ?_
            exact Rn.weak (ll_s (ll_n (ll_s ll_e))) (RX12_areFixedWell_b39 hd hR t0 p2 ih hk hq e)
          · rw [if_neg c_3791] at e
            refine Rn.bf hT rfl rfl rfl (decide_eq_false (fun z => c_3791 ((ti_e p_3790 L32_0).mp z))) ?_
            exact Rn.weak (ll_s (ll_n (ll_s ll_e))) (RX12_areFixedWell_b35 hd hR t0 p2 ih hk hq e)
def FX12_areFixedWell (N : Nat) (s : iv_M) (q0 : Nat) : Option (Int) := (FX12_areFixedWell_l4 N s q0 (fun (x3783_1 : Int) => (if x3783_1 = 0 ∨ x3783_1 = 1 then some x3783_1 else none)) N 1 0)
set_option maxRecDepth 10000 in
set_option maxHeartbeats 4000000 in
theorem RX12_areFixedWell {d N nc Ls : Nat} {Xs : Nat → Int32} (hd : 5 ≤ d) {h : iv_H} {s : iv_M} (hR : Rep nc Ls Xs h s) {q0 : Nat} (t0 : T12 nc q0) {r : Int} {Q : Option Value → iv_H → Prop} (e : FX12_areFixedWell N s q0 = some r) (hq : ∀ (z : Int32), z.toInt = r → Q (some (.int z)) h) : Cl d 304 [.ref q0] h Q := by
  obtain ⟨d, rfl⟩ : ∃ k, d = k + 1 := ⟨d - 1, by omega⟩
  have hd : 4 ≤ d := by omega
  have hT := hX12_areFixedWell
  unfold FX12_areFixedWell at e
  refine Cl.into (by decide) gX12_areFixedWell rfl ?_
  show Rn d 304 (some .boolean) 0 [some (.ref q0), none, none] [] h Q
  refine Rn.n hT 4 (pc' := 4) (L' := [some (.ref q0), some (.int (1 : Int32)), some (.int (0 : Int32))]) (st' := []) rfl ?_
  refine Rn.weak (ll_s (ll_s (ll_s ll_e))) (RX12_areFixedWell_l4 hd hR t0 (fun m3783_1 x3783_1 p3783_1 e => ?_) hq N (1 : Int32) 1 L32_1 (0 : Int32) 0 L32_0 e)
  try dsimp only at e
  refine Rn.n hT 1 (pc' := 48) (L' := [none, some (.int m3783_1), none]) (st' := [.int m3783_1]) rfl ?_
  by_cases c_3784 : x3783_1 = 0 ∨ x3783_1 = 1
  · rw [if_pos c_3784] at e
    obtain rfl := Option.some.inj e
    exact Rn.ret hT rfl rfl (if_pos (ti_b p3783_1 c_3784)) (hq m3783_1 p3783_1)
  · rw [if_neg c_3784] at e
    cases e
set_option maxRecDepth 10000 in
theorem hX12_takesLoose : iv_Tb 305 tX12_takesLoose := iv_tb_of (m := mX12_takesLoose) rfl
set_option maxRecDepth 10000 in
theorem gX12_takesLoose : PG.2 305 = some mX12_takesLoose := iv_pi_of (t := tX12_takesLoose) rfl (by decide)
def FX12_takesLoose_b45 (N : Nat) (s : iv_M) (q0 : Nat) (x1 : Int) (x2 : Int)  (kb : iv_M → Int → Int → Option (Int × iv_M)) (kx : iv_M → Int → Option (Int × iv_M)) : Option (Int × iv_M) := (kb s x1 (w32 (x2 + 1)))
set_option maxRecDepth 10000 in
set_option maxHeartbeats 4000000 in
theorem RX12_takesLoose_b45 {d N nc Ls : Nat} {Xs : Nat → Int32} (hd : 0 ≤ d) {h : iv_H} {s : iv_M} (hR : Rep nc Ls Xs h s) {q0 : Nat} (t0 : T12 nc q0) {m1 : Int32} {x1 : Int} (p1 : m1.toInt = x1) {m2 : Int32} {x2 : Int} (p2 : m2.toInt = x2)  {kb : iv_M → Int → Int → Option (Int × iv_M)} {kx : iv_M → Int → Option (Int × iv_M)} {r : Int × iv_M} {Q : Option Value → iv_H → Prop} (hb : ∀ (h : iv_H) (s : iv_M) (hR : Rep nc Ls Xs h s) (mw1 : Int32) (xw1 : Int) (pw1 : mw1.toInt = xw1) (mw2 : Int32) (xw2 : Int) (pw2 : mw2.toInt = xw2), kb s xw1 xw2 = some r → Rn d 305 (some .int) 4 [some (.ref q0), some (.int mw1), some (.int mw2)] [] h Q) (hk : ∀ (h : iv_H) (s : iv_M) (hR : Rep nc Ls Xs h s) (mw1 : Int32) (xw1 : Int) (pw1 : mw1.toInt = xw1), kx s xw1 = some r → Rn d 305 (some .int) 51 [none, some (.int mw1), none] [] h Q) (hq : ∀ (z : Int32) (h1 : iv_H), z.toInt = r.1 → Rep nc Ls Xs h1 r.2 → Q (some (.int z)) h1) (e : FX12_takesLoose_b45 N s q0 x1 x2  kb kx = some r) : Rn d 305 (some .int) 45 [some (.ref q0), some (.int m1), some (.int m2)] [] h Q := by
  have hT := hX12_takesLoose
  unfold FX12_takesLoose_b45 at e
  refine Rn.n hT 2 (pc' := 4) (L' := [some (.ref q0), some (.int m1), some (.int (m2 + (1 : Int32)))]) (st' := []) rfl ?_
  exact Rn.weak (ll_s (ll_s (ll_s ll_e))) (hb h s hR m1 x1 p1 (m2 + (1 : Int32)) (w32 (x2 + 1)) (ti_add p2 L32_1) e)
def FX12_takesLoose_l4 (N : Nat) (q0 : Nat) (kx : iv_M → Int → Option (Int × iv_M)) : Nat → iv_M → Int → Int → Option (Int × iv_M)
  | 0, _, _, _ => none
  | n + 1, s, x1, x2 => ((rd s (q0 + 1) 14 2).bind fun v_3794 => (if v_3794 ≤ x2 then (kx s x1) else ((rd s (q0 + 5) 12 x2).bind fun v_3796 => (if v_3796 = 0 then ((wr s (q0 + 44) 12 x1 x2).bind fun s_3798 => ((rd s_3798 (q0 + 3) 12 x2).bind fun v_3800 => ((wr s_3798 (q0 + 8) 16 v_3800 (-1)).bind fun s_3801 => (FX12_takesLoose_b45 N s_3801 q0 (w32 (x1 + 1)) x2 (FX12_takesLoose_l4 N q0 kx n) kx)))) else (FX12_takesLoose_b45 N s q0 x1 x2 (FX12_takesLoose_l4 N q0 kx n) kx)))))
set_option maxRecDepth 10000 in
set_option maxHeartbeats 4000000 in
theorem RX12_takesLoose_l4 {d N nc Ls : Nat} {Xs : Nat → Int32} (hd : 0 ≤ d) {q0 : Nat} (t0 : T12 nc q0) {kx : iv_M → Int → Option (Int × iv_M)} {r : Int × iv_M} {Q : Option Value → iv_H → Prop} (hk : ∀ (h : iv_H) (s : iv_M) (hR : Rep nc Ls Xs h s) (m1 : Int32) (x1 : Int) (p1 : m1.toInt = x1), kx s x1 = some r → Rn d 305 (some .int) 51 [none, some (.int m1), none] [] h Q) (hq : ∀ (z : Int32) (h1 : iv_H), z.toInt = r.1 → Rep nc Ls Xs h1 r.2 → Q (some (.int z)) h1) : ∀ (n : Nat) (h : iv_H) (s : iv_M) (hR : Rep nc Ls Xs h s) (m1 : Int32) (x1 : Int) (p1 : m1.toInt = x1) (m2 : Int32) (x2 : Int) (p2 : m2.toInt = x2), FX12_takesLoose_l4 N q0 kx n s x1 x2 = some r → Rn d 305 (some .int) 4 [some (.ref q0), some (.int m1), some (.int m2)] [] h Q := by
  have hT := hX12_takesLoose
  intro n
  induction n with
  | zero =>
    intro h s hR m1 x1 p1 m2 x2 p2 e
    rw [FX12_takesLoose_l4] at e
    cases e
  | succ n ih =>
    intro h s hR m1 x1 p1 m2 x2 p2 e
    rw [FX12_takesLoose_l4] at e
    refine Rn.n hT 2 (pc' := 6) (L' := [some (.ref q0), some (.int m1), some (.int m2)]) (st' := [.ref q0, .int m2]) rfl ?_
    refine Rn.hp hT rfl rfl (gR_hp (rp_gR hR (T12_o t0) rfl)) ?_
    refine Rn.n hT 1 (pc' := 10) (L' := [some (.ref q0), some (.int m1), some (.int m2)]) (st' := [.int (2 : Int32), .ref (q0 + 1), .int m2]) rfl ?_
    obtain ⟨v_3794, e_3794, e⟩ := Option.bind_eq_some_iff.mp e
    obtain ⟨z_3794, g_3794, p_3794⟩ := rp_aI hR (T12_1 t0) (T12_1l t0) L32_2 e_3794
    refine Rn.hp hT rfl rfl (aI_hp g_3794) ?_
    by_cases c_3795 : v_3794 ≤ x2
    · rw [if_pos c_3795] at e
      refine Rn.bt hT rfl rfl rfl (decide_eq_true ((ti_le p_3794 p2).mpr c_3795)) ?_
      exact Rn.weak (ll_n (ll_s (ll_n ll_e))) (hk h s hR m1 x1 p1 e)
    · rw [if_neg c_3795] at e
      refine Rn.bf hT rfl rfl rfl (decide_eq_false (fun z => c_3795 ((ti_le p_3794 p2).mp z))) ?_
      refine Rn.n hT 1 (pc' := 15) (L' := [some (.ref q0), some (.int m1), some (.int m2)]) (st' := [.ref q0]) rfl ?_
      refine Rn.hp hT rfl rfl (gR_hp (rp_gR hR (T12_o t0) rfl)) ?_
      refine Rn.n hT 1 (pc' := 19) (L' := [some (.ref q0), some (.int m1), some (.int m2)]) (st' := [.int m2, .ref (q0 + 5)]) rfl ?_
      obtain ⟨v_3796, e_3796, e⟩ := Option.bind_eq_some_iff.mp e
      obtain ⟨z_3796, g_3796, p_3796⟩ := rp_aI hR (T12_5 t0) (T12_5l t0) p2 e_3796
      refine Rn.hp hT rfl rfl (aI_hp g_3796) ?_
      by_cases c_3797 : v_3796 = 0
      · rw [if_pos c_3797] at e
        refine Rn.bf hT rfl rfl rfl (decide_eq_false (fun z => z ((ti_e p_3796 L32_0).mpr c_3797))) ?_
        refine Rn.n hT 1 (pc' := 24) (L' := [some (.ref q0), some (.int m1), some (.int m2)]) (st' := [.ref q0]) rfl ?_
        refine Rn.hp hT rfl rfl (gR_hp (rp_gR hR (T12_o t0) rfl)) ?_
        refine Rn.n hT 2 (pc' := 29) (L' := [some (.ref q0), some (.int m1), some (.int m2)]) (st' := [.int m2, .int m1, .ref (q0 + 44)]) rfl ?_
        obtain ⟨s_3798, e_3799, e⟩ := Option.bind_eq_some_iff.mp e
        obtain ⟨h_3798, g_3799, R_3798⟩ := rp_wI hR (T12_61 t0) (T12_61l t0) p1 p2 e_3799
        refine Rn.hp hT rfl rfl (wI_hp g_3799) ?_
        refine Rn.n hT 2 (pc' := 34) (L' := [some (.ref q0), some (.int (m1 + (1 : Int32))), some (.int m2)]) (st' := [.ref q0]) rfl ?_
        refine Rn.hp hT rfl rfl (gR_hp (rp_gR R_3798 (T12_o t0) rfl)) ?_
        refine Rn.n hT 1 (pc' := 38) (L' := [some (.ref q0), some (.int (m1 + (1 : Int32))), some (.int m2)]) (st' := [.ref q0, .ref (q0 + 8)]) rfl ?_
        refine Rn.hp hT rfl rfl (gR_hp (rp_gR R_3798 (T12_o t0) rfl)) ?_
        refine Rn.n hT 1 (pc' := 42) (L' := [some (.ref q0), some (.int (m1 + (1 : Int32))), some (.int m2)]) (st' := [.int m2, .ref (q0 + 3), .ref (q0 + 8)]) rfl ?_
        obtain ⟨v_3800, e_3800, e⟩ := Option.bind_eq_some_iff.mp e
        obtain ⟨z_3800, g_3800, p_3800⟩ := rp_aI R_3798 (T12_3 t0) (T12_3l t0) p2 e_3800
        refine Rn.hp hT rfl rfl (aI_hp g_3800) ?_
        refine Rn.n hT 1 (pc' := 44) (L' := [some (.ref q0), some (.int (m1 + (1 : Int32))), some (.int m2)]) (st' := [.int (-1 : Int32), .int z_3800, .ref (q0 + 8)]) rfl ?_
        obtain ⟨s_3801, e_3802, e⟩ := Option.bind_eq_some_iff.mp e
        obtain ⟨h_3801, g_3802, R_3801⟩ := rp_wI R_3798 (T12_8 t0) (T12_8l t0) p_3800 L32_m1 e_3802
        refine Rn.hp hT rfl rfl (wI_hp g_3802) ?_
        exact Rn.weak (ll_s (ll_s (ll_s ll_e))) (RX12_takesLoose_b45 hd R_3801 t0 (ti_add p1 L32_1) p2 ih hk hq e)
      · rw [if_neg c_3797] at e
        refine Rn.bt hT rfl rfl rfl (decide_eq_true (fun z => c_3797 ((ti_e p_3796 L32_0).mp z))) ?_
        exact Rn.weak (ll_s (ll_s (ll_s ll_e))) (RX12_takesLoose_b45 hd hR t0 p1 p2 ih hk hq e)
def FX12_takesLoose (N : Nat) (s : iv_M) (q0 : Nat) : Option (Int × iv_M) := (FX12_takesLoose_l4 N q0 (fun (s_3792 : iv_M) (x3793_1 : Int) => (some (x3793_1, s_3792))) N s 0 0)
set_option maxRecDepth 10000 in
set_option maxHeartbeats 4000000 in
theorem RX12_takesLoose {d N nc Ls : Nat} {Xs : Nat → Int32} (hd : 1 ≤ d) {h : iv_H} {s : iv_M} (hR : Rep nc Ls Xs h s) {q0 : Nat} (t0 : T12 nc q0) {r : Int × iv_M} {Q : Option Value → iv_H → Prop} (e : FX12_takesLoose N s q0 = some r) (hq : ∀ (z : Int32) (h1 : iv_H), z.toInt = r.1 → Rep nc Ls Xs h1 r.2 → Q (some (.int z)) h1) : Cl d 305 [.ref q0] h Q := by
  obtain ⟨d, rfl⟩ : ∃ k, d = k + 1 := ⟨d - 1, by omega⟩
  have hd : 0 ≤ d := by omega
  have hT := hX12_takesLoose
  unfold FX12_takesLoose at e
  refine Cl.into (by decide) gX12_takesLoose rfl ?_
  show Rn d 305 (some .int) 0 [some (.ref q0), none, none] [] h Q
  refine Rn.n hT 4 (pc' := 4) (L' := [some (.ref q0), some (.int (0 : Int32)), some (.int (0 : Int32))]) (st' := []) rfl ?_
  refine Rn.weak (ll_s (ll_s (ll_s ll_e))) (RX12_takesLoose_l4 hd t0 (fun h_3792 s_3792 R_3792 m3793_1 x3793_1 p3793_1 e => ?_) hq N h s hR (0 : Int32) 0 L32_0 (0 : Int32) 0 L32_0 e)
  try dsimp only at e
  refine Rn.n hT 1 (pc' := 52) (L' := [none, some (.int m3793_1), none]) (st' := [.int m3793_1]) rfl ?_
  obtain rfl := Option.some.inj e
  exact Rn.ret hT rfl rfl rfl (hq m3793_1 h_3792 p3793_1 R_3792)
set_option maxRecDepth 10000 in
theorem hX12_floors : iv_Tb 306 tX12_floors := iv_tb_of (m := mX12_floors) rfl
set_option maxRecDepth 10000 in
theorem gX12_floors : PG.2 306 = some mX12_floors := iv_pi_of (t := tX12_floors) rfl (by decide)
def FX12_floors_b351 (N : Nat) (s : iv_M) (q0 : Nat) (x1 : Int) (x2 : Int) (x3 : Int) (x4 : Int) (x5 : Int) (x6 : Int)  (kb : iv_M → Int → Int → Int → Option (Int × iv_M)) (kx : iv_M → Int → Int → Option (Int × iv_M)) : Option (Int × iv_M) := (kb s x4 x5 x6)
set_option maxRecDepth 10000 in
set_option maxHeartbeats 4000000 in
theorem RX12_floors_b351 {d N nc Ls : Nat} {Xs : Nat → Int32} (hd : 6 ≤ d) {h : iv_H} {s : iv_M} (hR : Rep nc Ls Xs h s) {q0 : Nat} (t0 : T12 nc q0) {m1 : Int32} {x1 : Int} (p1 : m1.toInt = x1) {m2 : Int32} {x2 : Int} (p2 : m2.toInt = x2) {m3 : Int32} {x3 : Int} (p3 : m3.toInt = x3) {m4 : Int32} {x4 : Int} (p4 : m4.toInt = x4) {m5 : Int32} {x5 : Int} (p5 : m5.toInt = x5) {m6 : Int32} {x6 : Int} (p6 : m6.toInt = x6)  {kb : iv_M → Int → Int → Int → Option (Int × iv_M)} {kx : iv_M → Int → Int → Option (Int × iv_M)} {r : Int × iv_M} {Q : Option Value → iv_H → Prop} (hb : ∀ (h : iv_H) (s : iv_M) (hR : Rep nc Ls Xs h s) (mw4 : Int32) (xw4 : Int) (pw4 : mw4.toInt = xw4) (mw5 : Int32) (xw5 : Int) (pw5 : mw5.toInt = xw5) (mw6 : Int32) (xw6 : Int) (pw6 : mw6.toInt = xw6), kb s xw4 xw5 xw6 = some r → Rn d 306 (some .int) 93 [some (.ref q0), some (.int m1), some (.int m2), some (.int m3), some (.int mw4), some (.int mw5), some (.int mw6), none, none, none, none] [] h Q) (hk : ∀ (h : iv_H) (s : iv_M) (hR : Rep nc Ls Xs h s) (mw4 : Int32) (xw4 : Int) (pw4 : mw4.toInt = xw4) (mw5 : Int32) (xw5 : Int) (pw5 : mw5.toInt = xw5), kx s xw4 xw5 = some r → Rn d 306 (some .int) 354 [some (.ref q0), none, none, none, some (.int mw4), some (.int mw5), none, none, none, none, none] [] h Q) (hq : ∀ (z : Int32) (h1 : iv_H), z.toInt = r.1 → Rep nc Ls Xs h1 r.2 → Q (some (.int z)) h1) (e : FX12_floors_b351 N s q0 x1 x2 x3 x4 x5 x6  kb kx = some r) : Rn d 306 (some .int) 351 [some (.ref q0), some (.int m1), some (.int m2), some (.int m3), some (.int m4), some (.int m5), some (.int m6), none, none, none, none] [] h Q := by
  have hT := hX12_floors
  unfold FX12_floors_b351 at e
  refine Rn.n hT 1 (pc' := 93) (L' := [some (.ref q0), some (.int m1), some (.int m2), some (.int m3), some (.int m4), some (.int m5), some (.int m6), none, none, none, none]) (st' := []) rfl ?_
  exact Rn.weak (ll_s (ll_s (ll_s (ll_s (ll_s (ll_s (ll_s (ll_n (ll_n (ll_n (ll_n ll_e))))))))))) (hb h s hR m4 x4 p4 m5 x5 p5 m6 x6 p6 e)
def FX12_floors_b329 (N : Nat) (s : iv_M) (q0 : Nat) (x1 : Int) (x2 : Int) (x3 : Int) (x5 : Int) (x6 : Int) (xs0 : Int) (xs1 : Int) (kb : iv_M → Int → Int → Int → Option (Int × iv_M)) (kx : iv_M → Int → Int → Option (Int × iv_M)) : Option (Int × iv_M) := (FX12_floors_b351 N s q0 x1 x2 x3 (w32 (xs1 + xs0)) x5 x6 kb kx)
set_option maxRecDepth 10000 in
set_option maxHeartbeats 4000000 in
theorem RX12_floors_b329 {d N nc Ls : Nat} {Xs : Nat → Int32} (hd : 6 ≤ d) {h : iv_H} {s : iv_M} (hR : Rep nc Ls Xs h s) {q0 : Nat} (t0 : T12 nc q0) {m1 : Int32} {x1 : Int} (p1 : m1.toInt = x1) {m2 : Int32} {x2 : Int} (p2 : m2.toInt = x2) {m3 : Int32} {x3 : Int} (p3 : m3.toInt = x3) {m5 : Int32} {x5 : Int} (p5 : m5.toInt = x5) {m6 : Int32} {x6 : Int} (p6 : m6.toInt = x6) {ms0 : Int32} {xs0 : Int} (ps0 : ms0.toInt = xs0) {ms1 : Int32} {xs1 : Int} (ps1 : ms1.toInt = xs1) {kb : iv_M → Int → Int → Int → Option (Int × iv_M)} {kx : iv_M → Int → Int → Option (Int × iv_M)} {r : Int × iv_M} {Q : Option Value → iv_H → Prop} (hb : ∀ (h : iv_H) (s : iv_M) (hR : Rep nc Ls Xs h s) (mw4 : Int32) (xw4 : Int) (pw4 : mw4.toInt = xw4) (mw5 : Int32) (xw5 : Int) (pw5 : mw5.toInt = xw5) (mw6 : Int32) (xw6 : Int) (pw6 : mw6.toInt = xw6), kb s xw4 xw5 xw6 = some r → Rn d 306 (some .int) 93 [some (.ref q0), some (.int m1), some (.int m2), some (.int m3), some (.int mw4), some (.int mw5), some (.int mw6), none, none, none, none] [] h Q) (hk : ∀ (h : iv_H) (s : iv_M) (hR : Rep nc Ls Xs h s) (mw4 : Int32) (xw4 : Int) (pw4 : mw4.toInt = xw4) (mw5 : Int32) (xw5 : Int) (pw5 : mw5.toInt = xw5), kx s xw4 xw5 = some r → Rn d 306 (some .int) 354 [some (.ref q0), none, none, none, some (.int mw4), some (.int mw5), none, none, none, none, none] [] h Q) (hq : ∀ (z : Int32) (h1 : iv_H), z.toInt = r.1 → Rep nc Ls Xs h1 r.2 → Q (some (.int z)) h1) (e : FX12_floors_b329 N s q0 x1 x2 x3 x5 x6 xs0 xs1 kb kx = some r) : Rn d 306 (some .int) 329 [some (.ref q0), some (.int m1), some (.int m2), some (.int m3), none, some (.int m5), some (.int m6), none, none, none, none] [.int ms0, .int ms1] h Q := by
  have hT := hX12_floors
  unfold FX12_floors_b329 at e
  refine Rn.n hT 3 (pc' := 351) (L' := [some (.ref q0), some (.int m1), some (.int m2), some (.int m3), some (.int (ms1 + ms0)), some (.int m5), some (.int m6), none, none, none, none]) (st' := []) rfl ?_
  exact Rn.weak (ll_s (ll_s (ll_s (ll_s (ll_s (ll_s (ll_s (ll_n (ll_n (ll_n (ll_n ll_e))))))))))) (RX12_floors_b351 hd hR t0 p1 p2 p3 (ti_add ps1 ps0) p5 p6 hb hk hq e)
def FX12_floors_b335 (N : Nat) (s : iv_M) (q0 : Nat) (x1 : Int) (x2 : Int) (x3 : Int) (x4 : Int) (x5 : Int) (x6 : Int) (x10 : Int)  (kb : iv_M → Int → Int → Int → Option (Int × iv_M)) (kx : iv_M → Int → Int → Option (Int × iv_M)) : Option (Int × iv_M) := (if x10 = 0 then (FX12_floors_b351 N s q0 x1 x2 x3 x4 x5 x6 kb kx) else ((wr s (q0 + 45) 13 (w32 (x6 + 1)) 0).bind fun s_3864 => (FX12_floors_b351 N s_3864 q0 x1 x2 x3 x4 x5 (w32 (x6 + 1)) kb kx)))
set_option maxRecDepth 10000 in
set_option maxHeartbeats 4000000 in
theorem RX12_floors_b335 {d N nc Ls : Nat} {Xs : Nat → Int32} (hd : 6 ≤ d) {h : iv_H} {s : iv_M} (hR : Rep nc Ls Xs h s) {q0 : Nat} (t0 : T12 nc q0) {m1 : Int32} {x1 : Int} (p1 : m1.toInt = x1) {m2 : Int32} {x2 : Int} (p2 : m2.toInt = x2) {m3 : Int32} {x3 : Int} (p3 : m3.toInt = x3) {m4 : Int32} {x4 : Int} (p4 : m4.toInt = x4) {m5 : Int32} {x5 : Int} (p5 : m5.toInt = x5) {m6 : Int32} {x6 : Int} (p6 : m6.toInt = x6) {m10 : Int32} {x10 : Int} (p10 : m10.toInt = x10)  {kb : iv_M → Int → Int → Int → Option (Int × iv_M)} {kx : iv_M → Int → Int → Option (Int × iv_M)} {r : Int × iv_M} {Q : Option Value → iv_H → Prop} (hb : ∀ (h : iv_H) (s : iv_M) (hR : Rep nc Ls Xs h s) (mw4 : Int32) (xw4 : Int) (pw4 : mw4.toInt = xw4) (mw5 : Int32) (xw5 : Int) (pw5 : mw5.toInt = xw5) (mw6 : Int32) (xw6 : Int) (pw6 : mw6.toInt = xw6), kb s xw4 xw5 xw6 = some r → Rn d 306 (some .int) 93 [some (.ref q0), some (.int m1), some (.int m2), some (.int m3), some (.int mw4), some (.int mw5), some (.int mw6), none, none, none, none] [] h Q) (hk : ∀ (h : iv_H) (s : iv_M) (hR : Rep nc Ls Xs h s) (mw4 : Int32) (xw4 : Int) (pw4 : mw4.toInt = xw4) (mw5 : Int32) (xw5 : Int) (pw5 : mw5.toInt = xw5), kx s xw4 xw5 = some r → Rn d 306 (some .int) 354 [some (.ref q0), none, none, none, some (.int mw4), some (.int mw5), none, none, none, none, none] [] h Q) (hq : ∀ (z : Int32) (h1 : iv_H), z.toInt = r.1 → Rep nc Ls Xs h1 r.2 → Q (some (.int z)) h1) (e : FX12_floors_b335 N s q0 x1 x2 x3 x4 x5 x6 x10  kb kx = some r) : Rn d 306 (some .int) 335 [some (.ref q0), some (.int m1), some (.int m2), some (.int m3), some (.int m4), some (.int m5), some (.int m6), none, none, none, some (.int m10)] [] h Q := by
  have hT := hX12_floors
  unfold FX12_floors_b335 at e
  refine Rn.n hT 1 (pc' := 337) (L' := [some (.ref q0), some (.int m1), some (.int m2), some (.int m3), some (.int m4), some (.int m5), some (.int m6), none, none, none, some (.int m10)]) (st' := [.int m10]) rfl ?_
  by_cases c_3863 : x10 = 0
  · rw [if_pos c_3863] at e
    refine Rn.bt hT rfl rfl rfl (decide_eq_true ((ti_e p10 L32_0).mpr c_3863)) ?_
    exact Rn.weak (ll_s (ll_s (ll_s (ll_s (ll_s (ll_s (ll_s (ll_n (ll_n (ll_n (ll_n ll_e))))))))))) (RX12_floors_b351 hd hR t0 p1 p2 p3 p4 p5 p6 hb hk hq e)
  · rw [if_neg c_3863] at e
    refine Rn.bf hT rfl rfl rfl (decide_eq_false (fun z => c_3863 ((ti_e p10 L32_0).mp z))) ?_
    refine Rn.n hT 2 (pc' := 344) (L' := [some (.ref q0), some (.int m1), some (.int m2), some (.int m3), some (.int m4), some (.int m5), some (.int (m6 + (1 : Int32))), none, none, none, some (.int m10)]) (st' := [.ref q0]) rfl ?_
    refine Rn.hp hT rfl rfl (gR_hp (rp_gR hR (T12_o t0) rfl)) ?_
    refine Rn.n hT 2 (pc' := 350) (L' := [some (.ref q0), some (.int m1), some (.int m2), some (.int m3), some (.int m4), some (.int m5), some (.int (m6 + (1 : Int32))), none, none, none, some (.int m10)]) (st' := [.int (0 : Int32), .int (m6 + (1 : Int32)), .ref (q0 + 45)]) rfl ?_
    obtain ⟨s_3864, e_3865, e⟩ := Option.bind_eq_some_iff.mp e
    obtain ⟨h_3864, g_3865, R_3864⟩ := rp_wI hR (T12_62 t0) (T12_62l t0) (ti_add p6 L32_1) L32_0 e_3865
    refine Rn.hp hT rfl rfl (wI_hp g_3865) ?_
    exact Rn.weak (ll_s (ll_s (ll_s (ll_s (ll_s (ll_s (ll_s (ll_n (ll_n (ll_n (ll_n ll_e))))))))))) (RX12_floors_b351 hd R_3864 t0 p1 p2 p3 p4 p5 (ti_add p6 L32_1) hb hk hq e)
def FX12_floors_b300 (N : Nat) (s : iv_M) (q0 : Nat) (x1 : Int) (x2 : Int) (x3 : Int) (x4 : Int) (x5 : Int) (x6 : Int) (xs0 : Int) (kb : iv_M → Int → Int → Int → Option (Int × iv_M)) (kx : iv_M → Int → Int → Option (Int × iv_M)) : Option (Int × iv_M) := (if xs0 = 0 then (FX12_floors_b335 N s q0 x1 x2 x3 x4 x5 x6 xs0 kb kx) else (if x6 = (w32 (x1 - 1)) then ((FX12_mismatches N s q0).bind fun r_3860 => (fun (v_3860 : Int) (s_3861 : iv_M) => (if v_3860 = 0 then (FX12_floors_b329 N s_3861 q0 x1 x2 x3 x5 x6 1 x4 kb kx) else (FX12_floors_b329 N s_3861 q0 x1 x2 x3 x5 x6 0 x4 kb kx))) r_3860.1 r_3860.2) else (FX12_floors_b335 N s q0 x1 x2 x3 x4 x5 x6 xs0 kb kx)))
set_option maxRecDepth 10000 in
set_option maxHeartbeats 4000000 in
theorem RX12_floors_b300 {d N nc Ls : Nat} {Xs : Nat → Int32} (hd : 6 ≤ d) {h : iv_H} {s : iv_M} (hR : Rep nc Ls Xs h s) {q0 : Nat} (t0 : T12 nc q0) {m1 : Int32} {x1 : Int} (p1 : m1.toInt = x1) {m2 : Int32} {x2 : Int} (p2 : m2.toInt = x2) {m3 : Int32} {x3 : Int} (p3 : m3.toInt = x3) {m4 : Int32} {x4 : Int} (p4 : m4.toInt = x4) {m5 : Int32} {x5 : Int} (p5 : m5.toInt = x5) {m6 : Int32} {x6 : Int} (p6 : m6.toInt = x6) {ms0 : Int32} {xs0 : Int} (ps0 : ms0.toInt = xs0) {kb : iv_M → Int → Int → Int → Option (Int × iv_M)} {kx : iv_M → Int → Int → Option (Int × iv_M)} {r : Int × iv_M} {Q : Option Value → iv_H → Prop} (hb : ∀ (h : iv_H) (s : iv_M) (hR : Rep nc Ls Xs h s) (mw4 : Int32) (xw4 : Int) (pw4 : mw4.toInt = xw4) (mw5 : Int32) (xw5 : Int) (pw5 : mw5.toInt = xw5) (mw6 : Int32) (xw6 : Int) (pw6 : mw6.toInt = xw6), kb s xw4 xw5 xw6 = some r → Rn d 306 (some .int) 93 [some (.ref q0), some (.int m1), some (.int m2), some (.int m3), some (.int mw4), some (.int mw5), some (.int mw6), none, none, none, none] [] h Q) (hk : ∀ (h : iv_H) (s : iv_M) (hR : Rep nc Ls Xs h s) (mw4 : Int32) (xw4 : Int) (pw4 : mw4.toInt = xw4) (mw5 : Int32) (xw5 : Int) (pw5 : mw5.toInt = xw5), kx s xw4 xw5 = some r → Rn d 306 (some .int) 354 [some (.ref q0), none, none, none, some (.int mw4), some (.int mw5), none, none, none, none, none] [] h Q) (hq : ∀ (z : Int32) (h1 : iv_H), z.toInt = r.1 → Rep nc Ls Xs h1 r.2 → Q (some (.int z)) h1) (e : FX12_floors_b300 N s q0 x1 x2 x3 x4 x5 x6 xs0 kb kx = some r) : Rn d 306 (some .int) 300 [some (.ref q0), some (.int m1), some (.int m2), some (.int m3), some (.int m4), some (.int m5), some (.int m6), none, none, none, none] [.int ms0] h Q := by
  have hT := hX12_floors
  unfold FX12_floors_b300 at e
  refine Rn.n hT 2 (pc' := 304) (L' := [some (.ref q0), some (.int m1), some (.int m2), some (.int m3), some (.int m4), some (.int m5), some (.int m6), none, none, none, some (.int ms0)]) (st' := [.int ms0]) rfl ?_
  by_cases c_3858 : xs0 = 0
  · rw [if_pos c_3858] at e
    refine Rn.bt hT rfl rfl rfl (decide_eq_true ((ti_e ps0 L32_0).mpr c_3858)) ?_
    exact Rn.weak (ll_s (ll_s (ll_s (ll_s (ll_s (ll_s (ll_s (ll_n (ll_n (ll_n (ll_s ll_e))))))))))) (RX12_floors_b335 hd hR t0 p1 p2 p3 p4 p5 p6 ps0 hb hk hq e)
  · rw [if_neg c_3858] at e
    refine Rn.bf hT rfl rfl rfl (decide_eq_false (fun z => c_3858 ((ti_e ps0 L32_0).mp z))) ?_
    refine Rn.n hT 4 (pc' := 312) (L' := [some (.ref q0), some (.int m1), some (.int m2), some (.int m3), some (.int m4), some (.int m5), some (.int m6), none, none, none, some (.int ms0)]) (st' := [.int (m1 - (1 : Int32)), .int m6]) rfl ?_
    by_cases c_3859 : x6 = (w32 (x1 - 1))
    · rw [if_pos c_3859] at e
      refine Rn.bf hT rfl rfl rfl (decide_eq_false (fun z => z ((ti_e p6 (ti_sub p1 L32_1)).mpr c_3859))) ?_
      refine Rn.n hT 2 (pc' := 318) (L' := [some (.ref q0), some (.int m1), some (.int m2), some (.int m3), some (.int m4), some (.int m5), some (.int m6), none, none, none, some (.int ms0)]) (st' := [.ref q0, .int m4]) rfl ?_
      obtain ⟨⟨v_3860, s_3861⟩, e_3860, e⟩ := Option.bind_eq_some_iff.mp e
      try dsimp only at e
      try dsimp only at e
      refine Rn.call hT rfl rfl rfl (Nat.le_of_ble_eq_true rfl) (rcv_v gX12_mismatches (by omega) (rp_ck hR (T12_o t0))) (RX12_mismatches (by omega) hR t0 e_3860 (fun z_3860 h_3861 p_3860 R_3861 => ?_))
      show Rn d _ _ 321 [some (.ref q0), some (.int m1), some (.int m2), some (.int m3), some (.int m4), some (.int m5), some (.int m6), none, none, none, some (.int ms0)] [.int z_3860, .int m4] h_3861 Q
      by_cases c_3862 : v_3860 = 0
      · rw [if_pos c_3862] at e
        refine Rn.bf hT rfl rfl rfl (decide_eq_false (fun z => z ((ti_e p_3860 L32_0).mpr c_3862))) ?_
        refine Rn.n hT 2 (pc' := 329) (L' := [some (.ref q0), some (.int m1), some (.int m2), some (.int m3), some (.int m4), some (.int m5), some (.int m6), none, none, none, some (.int ms0)]) (st' := [.int (1 : Int32), .int m4]) rfl ?_
        exact Rn.weak (ll_s (ll_s (ll_s (ll_s (ll_n (ll_s (ll_s (ll_n (ll_n (ll_n (ll_n ll_e))))))))))) (RX12_floors_b329 hd R_3861 t0 p1 p2 p3 p5 p6 L32_1 p4 hb hk hq e)
      · rw [if_neg c_3862] at e
        refine Rn.bt hT rfl rfl rfl (decide_eq_true (fun z => c_3862 ((ti_e p_3860 L32_0).mp z))) ?_
        refine Rn.n hT 1 (pc' := 329) (L' := [some (.ref q0), some (.int m1), some (.int m2), some (.int m3), some (.int m4), some (.int m5), some (.int m6), none, none, none, some (.int ms0)]) (st' := [.int (0 : Int32), .int m4]) rfl ?_
        exact Rn.weak (ll_s (ll_s (ll_s (ll_s (ll_n (ll_s (ll_s (ll_n (ll_n (ll_n (ll_n ll_e))))))))))) (RX12_floors_b329 hd R_3861 t0 p1 p2 p3 p5 p6 L32_0 p4 hb hk hq e)
    · rw [if_neg c_3859] at e
      refine Rn.bt hT rfl rfl rfl (decide_eq_true (fun z => c_3859 ((ti_e p6 (ti_sub p1 L32_1)).mp z))) ?_
      exact Rn.weak (ll_s (ll_s (ll_s (ll_s (ll_s (ll_s (ll_s (ll_n (ll_n (ll_n (ll_s ll_e))))))))))) (RX12_floors_b335 hd hR t0 p1 p2 p3 p4 p5 p6 ps0 hb hk hq e)
def FX12_floors_b299 (N : Nat) (s : iv_M) (q0 : Nat) (x1 : Int) (x2 : Int) (x3 : Int) (x4 : Int) (x5 : Int) (x6 : Int)  (kb : iv_M → Int → Int → Int → Option (Int × iv_M)) (kx : iv_M → Int → Int → Option (Int × iv_M)) : Option (Int × iv_M) := (FX12_floors_b300 N s q0 x1 x2 x3 x4 x5 x6 0 kb kx)
set_option maxRecDepth 10000 in
set_option maxHeartbeats 4000000 in
theorem RX12_floors_b299 {d N nc Ls : Nat} {Xs : Nat → Int32} (hd : 6 ≤ d) {h : iv_H} {s : iv_M} (hR : Rep nc Ls Xs h s) {q0 : Nat} (t0 : T12 nc q0) {m1 : Int32} {x1 : Int} (p1 : m1.toInt = x1) {m2 : Int32} {x2 : Int} (p2 : m2.toInt = x2) {m3 : Int32} {x3 : Int} (p3 : m3.toInt = x3) {m4 : Int32} {x4 : Int} (p4 : m4.toInt = x4) {m5 : Int32} {x5 : Int} (p5 : m5.toInt = x5) {m6 : Int32} {x6 : Int} (p6 : m6.toInt = x6)  {kb : iv_M → Int → Int → Int → Option (Int × iv_M)} {kx : iv_M → Int → Int → Option (Int × iv_M)} {r : Int × iv_M} {Q : Option Value → iv_H → Prop} (hb : ∀ (h : iv_H) (s : iv_M) (hR : Rep nc Ls Xs h s) (mw4 : Int32) (xw4 : Int) (pw4 : mw4.toInt = xw4) (mw5 : Int32) (xw5 : Int) (pw5 : mw5.toInt = xw5) (mw6 : Int32) (xw6 : Int) (pw6 : mw6.toInt = xw6), kb s xw4 xw5 xw6 = some r → Rn d 306 (some .int) 93 [some (.ref q0), some (.int m1), some (.int m2), some (.int m3), some (.int mw4), some (.int mw5), some (.int mw6), none, none, none, none] [] h Q) (hk : ∀ (h : iv_H) (s : iv_M) (hR : Rep nc Ls Xs h s) (mw4 : Int32) (xw4 : Int) (pw4 : mw4.toInt = xw4) (mw5 : Int32) (xw5 : Int) (pw5 : mw5.toInt = xw5), kx s xw4 xw5 = some r → Rn d 306 (some .int) 354 [some (.ref q0), none, none, none, some (.int mw4), some (.int mw5), none, none, none, none, none] [] h Q) (hq : ∀ (z : Int32) (h1 : iv_H), z.toInt = r.1 → Rep nc Ls Xs h1 r.2 → Q (some (.int z)) h1) (e : FX12_floors_b299 N s q0 x1 x2 x3 x4 x5 x6  kb kx = some r) : Rn d 306 (some .int) 299 [some (.ref q0), some (.int m1), some (.int m2), some (.int m3), some (.int m4), some (.int m5), some (.int m6), none, none, none, none] [] h Q := by
  have hT := hX12_floors
  unfold FX12_floors_b299 at e
  refine Rn.n hT 1 (pc' := 300) (L' := [some (.ref q0), some (.int m1), some (.int m2), some (.int m3), some (.int m4), some (.int m5), some (.int m6), none, none, none, none]) (st' := [.int (0 : Int32)]) rfl ?_
  exact Rn.weak (ll_s (ll_s (ll_s (ll_s (ll_s (ll_s (ll_s (ll_n (ll_n (ll_n (ll_n ll_e))))))))))) (RX12_floors_b300 hd hR t0 p1 p2 p3 p4 p5 p6 L32_0 hb hk hq e)
def FX12_floors_b272 (N : Nat) (s : iv_M) (q0 : Nat) (x1 : Int) (x2 : Int) (x3 : Int) (x4 : Int) (x5 : Int) (x6 : Int) (x7 : Int) (x9 : Int) (xs0 : Int) (xs1 : Int) (qs2 : Nat) (kb : iv_M → Int → Int → Int → Option (Int × iv_M)) (kx : iv_M → Int → Int → Option (Int × iv_M)) : Option (Int × iv_M) := ((wr s qs2 ((sh qs2).2 : Int) xs1 xs0).bind fun s_3851 => ((wr s_3851 (q0 + 8) 16 x9 x7).bind fun s_3853 => (if x2 = 0 then (FX12_floors_b299 N s_3853 q0 x1 x2 x3 x4 x5 x6 kb kx) else ((FX12_isLaidWell N s_3853 q0 x7).bind fun v_3856 => (if v_3856 = 0 then (FX12_floors_b299 N s_3853 q0 x1 x2 x3 x4 x5 x6 kb kx) else (FX12_floors_b300 N s_3853 q0 x1 x2 x3 x4 x5 x6 1 kb kx))))))
set_option maxRecDepth 10000 in
set_option maxHeartbeats 4000000 in
theorem RX12_floors_b272 {d N nc Ls : Nat} {Xs : Nat → Int32} (hd : 6 ≤ d) {h : iv_H} {s : iv_M} (hR : Rep nc Ls Xs h s) {q0 : Nat} (t0 : T12 nc q0) {m1 : Int32} {x1 : Int} (p1 : m1.toInt = x1) {m2 : Int32} {x2 : Int} (p2 : m2.toInt = x2) {m3 : Int32} {x3 : Int} (p3 : m3.toInt = x3) {m4 : Int32} {x4 : Int} (p4 : m4.toInt = x4) {m5 : Int32} {x5 : Int} (p5 : m5.toInt = x5) {m6 : Int32} {x6 : Int} (p6 : m6.toInt = x6) {m7 : Int32} {x7 : Int} (p7 : m7.toInt = x7) {m9 : Int32} {x9 : Int} (p9 : m9.toInt = x9) {ms0 : Int32} {xs0 : Int} (ps0 : ms0.toInt = xs0) {ms1 : Int32} {xs1 : Int} (ps1 : ms1.toInt = xs1) {qs2 : Nat} (ts2 : TA 0 nc qs2) {kb : iv_M → Int → Int → Int → Option (Int × iv_M)} {kx : iv_M → Int → Int → Option (Int × iv_M)} {r : Int × iv_M} {Q : Option Value → iv_H → Prop} (hb : ∀ (h : iv_H) (s : iv_M) (hR : Rep nc Ls Xs h s) (mw4 : Int32) (xw4 : Int) (pw4 : mw4.toInt = xw4) (mw5 : Int32) (xw5 : Int) (pw5 : mw5.toInt = xw5) (mw6 : Int32) (xw6 : Int) (pw6 : mw6.toInt = xw6), kb s xw4 xw5 xw6 = some r → Rn d 306 (some .int) 93 [some (.ref q0), some (.int m1), some (.int m2), some (.int m3), some (.int mw4), some (.int mw5), some (.int mw6), none, none, none, none] [] h Q) (hk : ∀ (h : iv_H) (s : iv_M) (hR : Rep nc Ls Xs h s) (mw4 : Int32) (xw4 : Int) (pw4 : mw4.toInt = xw4) (mw5 : Int32) (xw5 : Int) (pw5 : mw5.toInt = xw5), kx s xw4 xw5 = some r → Rn d 306 (some .int) 354 [some (.ref q0), none, none, none, some (.int mw4), some (.int mw5), none, none, none, none, none] [] h Q) (hq : ∀ (z : Int32) (h1 : iv_H), z.toInt = r.1 → Rep nc Ls Xs h1 r.2 → Q (some (.int z)) h1) (e : FX12_floors_b272 N s q0 x1 x2 x3 x4 x5 x6 x7 x9 xs0 xs1 qs2 kb kx = some r) : Rn d 306 (some .int) 272 [some (.ref q0), some (.int m1), some (.int m2), some (.int m3), some (.int m4), some (.int m5), some (.int m6), some (.int m7), none, some (.int m9), none] [.int ms0, .int ms1, .ref qs2] h Q := by
  have hT := hX12_floors
  unfold FX12_floors_b272 at e
  obtain ⟨s_3851, e_3852, e⟩ := Option.bind_eq_some_iff.mp e
  obtain ⟨h_3851, g_3852, R_3851⟩ := rp_wI hR ts2 rfl ps1 ps0 e_3852
  refine Rn.hp hT rfl rfl (wI_hp g_3852) ?_
  refine Rn.n hT 1 (pc' := 274) (L' := [some (.ref q0), some (.int m1), some (.int m2), some (.int m3), some (.int m4), some (.int m5), some (.int m6), some (.int m7), none, some (.int m9), none]) (st' := [.ref q0]) rfl ?_
  refine Rn.hp hT rfl rfl (gR_hp (rp_gR R_3851 (T12_o t0) rfl)) ?_
  refine Rn.n hT 2 (pc' := 281) (L' := [some (.ref q0), some (.int m1), some (.int m2), some (.int m3), some (.int m4), some (.int m5), some (.int m6), some (.int m7), none, some (.int m9), none]) (st' := [.int m7, .int m9, .ref (q0 + 8)]) rfl ?_
  obtain ⟨s_3853, e_3854, e⟩ := Option.bind_eq_some_iff.mp e
  obtain ⟨h_3853, g_3854, R_3853⟩ := rp_wI R_3851 (T12_8 t0) (T12_8l t0) p9 p7 e_3854
  refine Rn.hp hT rfl rfl (wI_hp g_3854) ?_
  refine Rn.n hT 1 (pc' := 283) (L' := [some (.ref q0), some (.int m1), some (.int m2), some (.int m3), some (.int m4), some (.int m5), some (.int m6), some (.int m7), none, some (.int m9), none]) (st' := [.int m2]) rfl ?_
  by_cases c_3855 : x2 = 0
  · rw [if_pos c_3855] at e
    refine Rn.bt hT rfl rfl rfl (decide_eq_true ((ti_e p2 L32_0).mpr c_3855)) ?_
    exact Rn.weak (ll_s (ll_s (ll_s (ll_s (ll_s (ll_s (ll_s (ll_n (ll_n (ll_n (ll_n ll_e))))))))))) (RX12_floors_b299 hd R_3853 t0 p1 p2 p3 p4 p5 p6 hb hk hq e)
  · rw [if_neg c_3855] at e
    refine Rn.bf hT rfl rfl rfl (decide_eq_false (fun z => c_3855 ((ti_e p2 L32_0).mp z))) ?_
    refine Rn.n hT 2 (pc' := 289) (L' := [some (.ref q0), some (.int m1), some (.int m2), some (.int m3), some (.int m4), some (.int m5), some (.int m6), some (.int m7), none, some (.int m9), none]) (st' := [.int m7, .ref q0]) rfl ?_
    obtain ⟨v_3856, e_3856, e⟩ := Option.bind_eq_some_iff.mp e
    refine Rn.call hT rfl rfl rfl (Nat.le_of_ble_eq_true rfl) (rcv_v gX12_isLaidWell (by omega) (rp_ck R_3853 (T12_o t0))) (RX12_isLaidWell (by omega) R_3853 t0 p7 e_3856 (fun z_3856 p_3856 => ?_))
    show Rn d _ _ 292 [some (.ref q0), some (.int m1), some (.int m2), some (.int m3), some (.int m4), some (.int m5), some (.int m6), some (.int m7), none, some (.int m9), none] [.int z_3856] h_3853 Q
    by_cases c_3857 : v_3856 = 0
    · rw [if_pos c_3857] at e
      refine Rn.bt hT rfl rfl rfl (decide_eq_true ((ti_e p_3856 L32_0).mpr c_3857)) ?_
      exact Rn.weak (ll_s (ll_s (ll_s (ll_s (ll_s (ll_s (ll_s (ll_n (ll_n (ll_n (ll_n ll_e))))))))))) (RX12_floors_b299 hd R_3853 t0 p1 p2 p3 p4 p5 p6 hb hk hq e)
    · rw [if_neg c_3857] at e
      refine Rn.bf hT rfl rfl rfl (decide_eq_false (fun z => c_3857 ((ti_e p_3856 L32_0).mp z))) ?_
      refine Rn.n hT 2 (pc' := 300) (L' := [some (.ref q0), some (.int m1), some (.int m2), some (.int m3), some (.int m4), some (.int m5), some (.int m6), some (.int m7), none, some (.int m9), none]) (st' := [.int (1 : Int32)]) rfl ?_
      exact Rn.weak (ll_s (ll_s (ll_s (ll_s (ll_s (ll_s (ll_s (ll_n (ll_n (ll_n (ll_n ll_e))))))))))) (RX12_floors_b300 hd R_3853 t0 p1 p2 p3 p4 p5 p6 L32_1 hb hk hq e)
def FX12_floors_b174 (N : Nat) (s : iv_M) (q0 : Nat) (x1 : Int) (x2 : Int) (x3 : Int) (x4 : Int) (x5 : Int) (x6 : Int) (x7 : Int)  (kb : iv_M → Int → Int → Int → Option (Int × iv_M)) (kx : iv_M → Int → Int → Option (Int × iv_M)) : Option (Int × iv_M) := ((rd s (q0 + 45) 13 x6).bind fun v_3836 => (if v_3836 = (w32 (16 * x3)) then (FX12_floors_b351 N s q0 x1 x2 x3 x4 x5 (w32 (x6 + (-1))) kb kx) else ((rd s (q0 + 45) 13 x6).bind fun v_3838 => ((wr s (q0 + 45) 13 x6 (w32 (v_3838 + 1))).bind fun s_3839 => (if x3 = 0 then none else ((wr s_3839 (q0 + 3) 12 x7 (dv32 v_3836 x3)).bind fun s_3842 => ((FX12_isFloor N s_3842 q0 (dv32 v_3836 x3)).bind fun v_3844 => (if v_3844 = 0 then (FX12_floors_b351 N s_3842 q0 x1 x2 x3 x4 x5 x6 kb kx) else ((rd s_3842 (q0 + 8) 16 (dv32 v_3836 x3)).bind fun v_3846 => (if v_3846 = (-1) then (if x3 = 1 then ((rd s_3842 (q0 + 46) 12 x7).bind fun v_3850 => (FX12_floors_b272 N s_3842 q0 x1 x2 x3 x4 (w32 (x5 + 1)) x6 x7 (dv32 v_3836 x3) v_3850 x7 (q0 + 4) kb kx)) else (if x3 = 0 then none else (FX12_floors_b272 N s_3842 q0 x1 x2 x3 x4 (w32 (x5 + 1)) x6 x7 (dv32 v_3836 x3) (Int.tmod v_3836 x3) x7 (q0 + 4) kb kx))) else (FX12_floors_b351 N s_3842 q0 x1 x2 x3 x4 x5 x6 kb kx)))))))))))
set_option maxRecDepth 10000 in
set_option maxHeartbeats 4000000 in
theorem RX12_floors_b174 {d N nc Ls : Nat} {Xs : Nat → Int32} (hd : 6 ≤ d) {h : iv_H} {s : iv_M} (hR : Rep nc Ls Xs h s) {q0 : Nat} (t0 : T12 nc q0) {m1 : Int32} {x1 : Int} (p1 : m1.toInt = x1) {m2 : Int32} {x2 : Int} (p2 : m2.toInt = x2) {m3 : Int32} {x3 : Int} (p3 : m3.toInt = x3) {m4 : Int32} {x4 : Int} (p4 : m4.toInt = x4) {m5 : Int32} {x5 : Int} (p5 : m5.toInt = x5) {m6 : Int32} {x6 : Int} (p6 : m6.toInt = x6) {m7 : Int32} {x7 : Int} (p7 : m7.toInt = x7)  {kb : iv_M → Int → Int → Int → Option (Int × iv_M)} {kx : iv_M → Int → Int → Option (Int × iv_M)} {r : Int × iv_M} {Q : Option Value → iv_H → Prop} (hb : ∀ (h : iv_H) (s : iv_M) (hR : Rep nc Ls Xs h s) (mw4 : Int32) (xw4 : Int) (pw4 : mw4.toInt = xw4) (mw5 : Int32) (xw5 : Int) (pw5 : mw5.toInt = xw5) (mw6 : Int32) (xw6 : Int) (pw6 : mw6.toInt = xw6), kb s xw4 xw5 xw6 = some r → Rn d 306 (some .int) 93 [some (.ref q0), some (.int m1), some (.int m2), some (.int m3), some (.int mw4), some (.int mw5), some (.int mw6), none, none, none, none] [] h Q) (hk : ∀ (h : iv_H) (s : iv_M) (hR : Rep nc Ls Xs h s) (mw4 : Int32) (xw4 : Int) (pw4 : mw4.toInt = xw4) (mw5 : Int32) (xw5 : Int) (pw5 : mw5.toInt = xw5), kx s xw4 xw5 = some r → Rn d 306 (some .int) 354 [some (.ref q0), none, none, none, some (.int mw4), some (.int mw5), none, none, none, none, none] [] h Q) (hq : ∀ (z : Int32) (h1 : iv_H), z.toInt = r.1 → Rep nc Ls Xs h1 r.2 → Q (some (.int z)) h1) (e : FX12_floors_b174 N s q0 x1 x2 x3 x4 x5 x6 x7  kb kx = some r) : Rn d 306 (some .int) 174 [some (.ref q0), some (.int m1), some (.int m2), some (.int m3), some (.int m4), some (.int m5), some (.int m6), some (.int m7), none, none, none] [] h Q := by
  have hT := hX12_floors
  unfold FX12_floors_b174 at e
  refine Rn.n hT 1 (pc' := 175) (L' := [some (.ref q0), some (.int m1), some (.int m2), some (.int m3), some (.int m4), some (.int m5), some (.int m6), some (.int m7), none, none, none]) (st' := [.ref q0]) rfl ?_
  refine Rn.hp hT rfl rfl (gR_hp (rp_gR hR (T12_o t0) rfl)) ?_
  refine Rn.n hT 1 (pc' := 180) (L' := [some (.ref q0), some (.int m1), some (.int m2), some (.int m3), some (.int m4), some (.int m5), some (.int m6), some (.int m7), none, none, none]) (st' := [.int m6, .ref (q0 + 45)]) rfl ?_
  obtain ⟨v_3836, e_3836, e⟩ := Option.bind_eq_some_iff.mp e
  obtain ⟨z_3836, g_3836, p_3836⟩ := rp_aI hR (T12_62 t0) (T12_62l t0) p6 e_3836
  refine Rn.hp hT rfl rfl (aI_hp g_3836) ?_
  refine Rn.n hT 5 (pc' := 189) (L' := [some (.ref q0), some (.int m1), some (.int m2), some (.int m3), some (.int m4), some (.int m5), some (.int m6), some (.int m7), some (.int z_3836), none, none]) (st' := [.int ((16 : Int32) * m3), .int z_3836]) rfl ?_
  by_cases c_3837 : v_3836 = (w32 (16 * x3))
  · rw [if_pos c_3837] at e
    refine Rn.bf hT rfl rfl rfl (decide_eq_false (fun z => z ((ti_e p_3836 (ti_mul L32_16 p3)).mpr c_3837))) ?_
    refine Rn.n hT 2 (pc' := 351) (L' := [some (.ref q0), some (.int m1), some (.int m2), some (.int m3), some (.int m4), some (.int m5), some (.int (m6 + (-1 : Int32))), some (.int m7), some (.int z_3836), none, none]) (st' := []) rfl ?_
    exact Rn.weak (ll_s (ll_s (ll_s (ll_s (ll_s (ll_s (ll_s (ll_n (ll_n (ll_n (ll_n ll_e))))))))))) (RX12_floors_b351 hd hR t0 p1 p2 p3 p4 p5 (ti_add p6 L32_m1) hb hk hq e)
  · rw [if_neg c_3837] at e
    refine Rn.bt hT rfl rfl rfl (decide_eq_true (fun z => c_3837 ((ti_e p_3836 (ti_mul L32_16 p3)).mp z))) ?_
    refine Rn.n hT 1 (pc' := 199) (L' := [some (.ref q0), some (.int m1), some (.int m2), some (.int m3), some (.int m4), some (.int m5), some (.int m6), some (.int m7), some (.int z_3836), none, none]) (st' := [.ref q0]) rfl ?_
    refine Rn.hp hT rfl rfl (gR_hp (rp_gR hR (T12_o t0) rfl)) ?_
    refine Rn.n hT 2 (pc' := 205) (L' := [some (.ref q0), some (.int m1), some (.int m2), some (.int m3), some (.int m4), some (.int m5), some (.int m6), some (.int m7), some (.int z_3836), none, none]) (st' := [.int m6, .ref (q0 + 45), .int m6, .ref (q0 + 45)]) rfl ?_
    obtain ⟨v_3838, e_3838, e⟩ := Option.bind_eq_some_iff.mp e
    obtain ⟨z_3838, g_3838, p_3838⟩ := rp_aI hR (T12_62 t0) (T12_62l t0) p6 e_3838
    refine Rn.hp hT rfl rfl (aI_hp g_3838) ?_
    refine Rn.n hT 2 (pc' := 208) (L' := [some (.ref q0), some (.int m1), some (.int m2), some (.int m3), some (.int m4), some (.int m5), some (.int m6), some (.int m7), some (.int z_3836), none, none]) (st' := [.int (z_3838 + (1 : Int32)), .int m6, .ref (q0 + 45)]) rfl ?_
    obtain ⟨s_3839, e_3840, e⟩ := Option.bind_eq_some_iff.mp e
    obtain ⟨h_3839, g_3840, R_3839⟩ := rp_wI hR (T12_62 t0) (T12_62l t0) p6 (ti_add p_3838 L32_1) e_3840
    refine Rn.hp hT rfl rfl (wI_hp g_3840) ?_
    refine Rn.n hT 2 (pc' := 212) (L' := [some (.ref q0), some (.int m1), some (.int m2), some (.int m3), some (.int m4), some (.int m5), some (.int m6), some (.int m7), some (.int z_3836), none, none]) (st' := [.int m3, .int z_3836]) rfl ?_
    by_cases c_3841 : x3 = 0
    · rw [if_pos c_3841] at e
      cases e
    · rw [if_neg c_3841] at e
      refine Rn.pu hT rfl rfl (st' := [.int (z_3836 / m3)]) (if_neg (fun z => c_3841 ((ti_e p3 L32_0).mp z))) ?_
      refine Rn.n hT 2 (pc' := 216) (L' := [some (.ref q0), some (.int m1), some (.int m2), some (.int m3), some (.int m4), some (.int m5), some (.int m6), some (.int m7), some (.int z_3836), some (.int (z_3836 / m3)), none]) (st' := [.ref q0]) rfl ?_
      refine Rn.hp hT rfl rfl (gR_hp (rp_gR R_3839 (T12_o t0) rfl)) ?_
      refine Rn.n hT 2 (pc' := 223) (L' := [some (.ref q0), some (.int m1), some (.int m2), some (.int m3), some (.int m4), some (.int m5), some (.int m6), some (.int m7), some (.int z_3836), some (.int (z_3836 / m3)), none]) (st' := [.int (z_3836 / m3), .int m7, .ref (q0 + 3)]) rfl ?_
      obtain ⟨s_3842, e_3843, e⟩ := Option.bind_eq_some_iff.mp e
      obtain ⟨h_3842, g_3843, R_3842⟩ := rp_wI R_3839 (T12_3 t0) (T12_3l t0) p7 (ti_div p_3836 p3) e_3843
      refine Rn.hp hT rfl rfl (wI_hp g_3843) ?_
      refine Rn.n hT 2 (pc' := 227) (L' := [some (.ref q0), some (.int m1), some (.int m2), some (.int m3), some (.int m4), some (.int m5), some (.int m6), some (.int m7), some (.int z_3836), some (.int (z_3836 / m3)), none]) (st' := [.int (z_3836 / m3), .ref q0]) rfl ?_
      obtain ⟨v_3844, e_3844, e⟩ := Option.bind_eq_some_iff.mp e
      refine Rn.call hT rfl rfl rfl (Nat.le_of_ble_eq_true rfl) (rcv_v gX12_isFloor (by omega) (rp_ck R_3842 (T12_o t0))) (RX12_isFloor (by omega) R_3842 t0 (ti_div p_3836 p3) e_3844 (fun z_3844 p_3844 => ?_))
      show Rn d _ _ 230 [some (.ref q0), some (.int m1), some (.int m2), some (.int m3), some (.int m4), some (.int m5), some (.int m6), some (.int m7), some (.int z_3836), some (.int (z_3836 / m3)), none] [.int z_3844] h_3842 Q
      by_cases c_3845 : v_3844 = 0
      · rw [if_pos c_3845] at e
        refine Rn.bt hT rfl rfl rfl (decide_eq_true ((ti_e p_3844 L32_0).mpr c_3845)) ?_
        exact Rn.weak (ll_s (ll_s (ll_s (ll_s (ll_s (ll_s (ll_s (ll_n (ll_n (ll_n (ll_n ll_e))))))))))) (RX12_floors_b351 hd R_3842 t0 p1 p2 p3 p4 p5 p6 hb hk hq e)
      · rw [if_neg c_3845] at e
        refine Rn.bf hT rfl rfl rfl (decide_eq_false (fun z => c_3845 ((ti_e p_3844 L32_0).mp z))) ?_
        refine Rn.n hT 1 (pc' := 234) (L' := [some (.ref q0), some (.int m1), some (.int m2), some (.int m3), some (.int m4), some (.int m5), some (.int m6), some (.int m7), some (.int z_3836), some (.int (z_3836 / m3)), none]) (st' := [.ref q0]) rfl ?_
        refine Rn.hp hT rfl rfl (gR_hp (rp_gR R_3842 (T12_o t0) rfl)) ?_
        refine Rn.n hT 1 (pc' := 239) (L' := [some (.ref q0), some (.int m1), some (.int m2), some (.int m3), some (.int m4), some (.int m5), some (.int m6), some (.int m7), some (.int z_3836), some (.int (z_3836 / m3)), none]) (st' := [.int (z_3836 / m3), .ref (q0 + 8)]) rfl ?_
        obtain ⟨v_3846, e_3846, e⟩ := Option.bind_eq_some_iff.mp e
        obtain ⟨z_3846, g_3846, p_3846⟩ := rp_aI R_3842 (T12_8 t0) (T12_8l t0) (ti_div p_3836 p3) e_3846
        refine Rn.hp hT rfl rfl (aI_hp g_3846) ?_
        refine Rn.n hT 1 (pc' := 241) (L' := [some (.ref q0), some (.int m1), some (.int m2), some (.int m3), some (.int m4), some (.int m5), some (.int m6), some (.int m7), some (.int z_3836), some (.int (z_3836 / m3)), none]) (st' := [.int (-1 : Int32), .int z_3846]) rfl ?_
        by_cases c_3847 : v_3846 = (-1)
        · rw [if_pos c_3847] at e
          refine Rn.bf hT rfl rfl rfl (decide_eq_false (fun z => z ((ti_e p_3846 L32_m1).mpr c_3847))) ?_
          refine Rn.n hT 2 (pc' := 248) (L' := [some (.ref q0), some (.int m1), some (.int m2), some (.int m3), some (.int m4), some (.int (m5 + (1 : Int32))), some (.int m6), some (.int m7), some (.int z_3836), some (.int (z_3836 / m3)), none]) (st' := [.ref q0]) rfl ?_
          refine Rn.hp hT rfl rfl (gR_hp (rp_gR R_3842 (T12_o t0) rfl)) ?_
          refine Rn.n hT 3 (pc' := 255) (L' := [some (.ref q0), some (.int m1), some (.int m2), some (.int m3), some (.int m4), some (.int (m5 + (1 : Int32))), some (.int m6), some (.int m7), some (.int z_3836), some (.int (z_3836 / m3)), none]) (st' := [.int (1 : Int32), .int m3, .int m7, .ref (q0 + 4)]) rfl ?_
          by_cases c_3848 : x3 = 1
          · rw [if_pos c_3848] at e
            refine Rn.bf hT rfl rfl rfl (decide_eq_false (fun z => z ((ti_e p3 L32_1).mpr c_3848))) ?_
            refine Rn.n hT 1 (pc' := 259) (L' := [some (.ref q0), some (.int m1), some (.int m2), some (.int m3), some (.int m4), some (.int (m5 + (1 : Int32))), some (.int m6), some (.int m7), some (.int z_3836), some (.int (z_3836 / m3)), none]) (st' := [.ref q0, .int m7, .ref (q0 + 4)]) rfl ?_
            refine Rn.hp hT rfl rfl (gR_hp (rp_gR R_3842 (T12_o t0) rfl)) ?_
            refine Rn.n hT 1 (pc' := 264) (L' := [some (.ref q0), some (.int m1), some (.int m2), some (.int m3), some (.int m4), some (.int (m5 + (1 : Int32))), some (.int m6), some (.int m7), some (.int z_3836), some (.int (z_3836 / m3)), none]) (st' := [.int m7, .ref (q0 + 46), .int m7, .ref (q0 + 4)]) rfl ?_
            obtain ⟨v_3850, e_3850, e⟩ := Option.bind_eq_some_iff.mp e
            obtain ⟨z_3850, g_3850, p_3850⟩ := rp_aI R_3842 (T12_63 t0) (T12_63l t0) p7 e_3850
            refine Rn.hp hT rfl rfl (aI_hp g_3850) ?_
            refine Rn.n hT 1 (pc' := 272) (L' := [some (.ref q0), some (.int m1), some (.int m2), some (.int m3), some (.int m4), some (.int (m5 + (1 : Int32))), some (.int m6), some (.int m7), some (.int z_3836), some (.int (z_3836 / m3)), none]) (st' := [.int z_3850, .int m7, .ref (q0 + 4)]) rfl ?_
            exact Rn.weak (ll_s (ll_s (ll_s (ll_s (ll_s (ll_s (ll_s (ll_s (ll_n (ll_s (ll_n ll_e))))))))))) (RX12_floors_b272 hd R_3842 t0 p1 p2 p3 p4 (ti_add p5 L32_1) p6 p7 (ti_div p_3836 p3) p_3850 p7 (T12_4 t0) hb hk hq e)
          · rw [if_neg c_3848] at e
            refine Rn.bt hT rfl rfl rfl (decide_eq_true (fun z => c_3848 ((ti_e p3 L32_1).mp z))) ?_
            refine Rn.n hT 2 (pc' := 271) (L' := [some (.ref q0), some (.int m1), some (.int m2), some (.int m3), some (.int m4), some (.int (m5 + (1 : Int32))), some (.int m6), some (.int m7), some (.int z_3836), some (.int (z_3836 / m3)), none]) (st' := [.int m3, .int z_3836, .int m7, .ref (q0 + 4)]) rfl ?_
            by_cases c_3849 : x3 = 0
            · rw [if_pos c_3849] at e
              cases e
            · rw [if_neg c_3849] at e
              refine Rn.pu hT rfl rfl (st' := [.int (z_3836 - z_3836 / m3 * m3), .int m7, .ref (q0 + 4)]) (if_neg (fun z => c_3849 ((ti_e p3 L32_0).mp z))) ?_
              exact Rn.weak (ll_s (ll_s (ll_s (ll_s (ll_s (ll_s (ll_s (ll_s (ll_n (ll_s (ll_n ll_e))))))))))) (RX12_floors_b272 hd R_3842 t0 p1 p2 p3 p4 (ti_add p5 L32_1) p6 p7 (ti_div p_3836 p3) (ti_rem p_3836 p3) p7 (T12_4 t0) hb hk hq e)
        · rw [if_neg c_3847] at e
          refine Rn.bt hT rfl rfl rfl (decide_eq_true (fun z => c_3847 ((ti_e p_3846 L32_m1).mp z))) ?_
          exact Rn.weak (ll_s (ll_s (ll_s (ll_s (ll_s (ll_s (ll_s (ll_n (ll_n (ll_n (ll_n ll_e))))))))))) (RX12_floors_b351 hd R_3842 t0 p1 p2 p3 p4 p5 p6 hb hk hq e)
def FX12_floors_b173 (N : Nat) (s : iv_M) (q0 : Nat) (x1 : Int) (x2 : Int) (x3 : Int) (x4 : Int) (x5 : Int) (x6 : Int) (x7 : Int) (xs0 : Int) (xs1 : Int) (qs2 : Nat) (kb : iv_M → Int → Int → Int → Option (Int × iv_M)) (kx : iv_M → Int → Int → Option (Int × iv_M)) : Option (Int × iv_M) := ((wr s qs2 ((sh qs2).2 : Int) xs1 xs0).bind fun s_3834 => (FX12_floors_b174 N s_3834 q0 x1 x2 x3 x4 x5 x6 x7 kb kx))
set_option maxRecDepth 10000 in
set_option maxHeartbeats 4000000 in
theorem RX12_floors_b173 {d N nc Ls : Nat} {Xs : Nat → Int32} (hd : 6 ≤ d) {h : iv_H} {s : iv_M} (hR : Rep nc Ls Xs h s) {q0 : Nat} (t0 : T12 nc q0) {m1 : Int32} {x1 : Int} (p1 : m1.toInt = x1) {m2 : Int32} {x2 : Int} (p2 : m2.toInt = x2) {m3 : Int32} {x3 : Int} (p3 : m3.toInt = x3) {m4 : Int32} {x4 : Int} (p4 : m4.toInt = x4) {m5 : Int32} {x5 : Int} (p5 : m5.toInt = x5) {m6 : Int32} {x6 : Int} (p6 : m6.toInt = x6) {m7 : Int32} {x7 : Int} (p7 : m7.toInt = x7) {ms0 : Int32} {xs0 : Int} (ps0 : ms0.toInt = xs0) {ms1 : Int32} {xs1 : Int} (ps1 : ms1.toInt = xs1) {qs2 : Nat} (ts2 : TA 0 nc qs2) {kb : iv_M → Int → Int → Int → Option (Int × iv_M)} {kx : iv_M → Int → Int → Option (Int × iv_M)} {r : Int × iv_M} {Q : Option Value → iv_H → Prop} (hb : ∀ (h : iv_H) (s : iv_M) (hR : Rep nc Ls Xs h s) (mw4 : Int32) (xw4 : Int) (pw4 : mw4.toInt = xw4) (mw5 : Int32) (xw5 : Int) (pw5 : mw5.toInt = xw5) (mw6 : Int32) (xw6 : Int) (pw6 : mw6.toInt = xw6), kb s xw4 xw5 xw6 = some r → Rn d 306 (some .int) 93 [some (.ref q0), some (.int m1), some (.int m2), some (.int m3), some (.int mw4), some (.int mw5), some (.int mw6), none, none, none, none] [] h Q) (hk : ∀ (h : iv_H) (s : iv_M) (hR : Rep nc Ls Xs h s) (mw4 : Int32) (xw4 : Int) (pw4 : mw4.toInt = xw4) (mw5 : Int32) (xw5 : Int) (pw5 : mw5.toInt = xw5), kx s xw4 xw5 = some r → Rn d 306 (some .int) 354 [some (.ref q0), none, none, none, some (.int mw4), some (.int mw5), none, none, none, none, none] [] h Q) (hq : ∀ (z : Int32) (h1 : iv_H), z.toInt = r.1 → Rep nc Ls Xs h1 r.2 → Q (some (.int z)) h1) (e : FX12_floors_b173 N s q0 x1 x2 x3 x4 x5 x6 x7 xs0 xs1 qs2 kb kx = some r) : Rn d 306 (some .int) 173 [some (.ref q0), some (.int m1), some (.int m2), some (.int m3), some (.int m4), some (.int m5), some (.int m6), some (.int m7), none, none, none] [.int ms0, .int ms1, .ref qs2] h Q := by
  have hT := hX12_floors
  unfold FX12_floors_b173 at e
  obtain ⟨s_3834, e_3835, e⟩ := Option.bind_eq_some_iff.mp e
  obtain ⟨h_3834, g_3835, R_3834⟩ := rp_wI hR ts2 rfl ps1 ps0 e_3835
  refine Rn.hp hT rfl rfl (wI_hp g_3835) ?_
  exact Rn.weak (ll_s (ll_s (ll_s (ll_s (ll_s (ll_s (ll_s (ll_s (ll_n (ll_n (ll_n ll_e))))))))))) (RX12_floors_b174 hd R_3834 t0 p1 p2 p3 p4 p5 p6 p7 hb hk hq e)
def FX12_floors_l93 (N : Nat) (q0 : Nat) (x1 : Int) (x2 : Int) (x3 : Int) (kx : iv_M → Int → Int → Option (Int × iv_M)) : Nat → iv_M → Int → Int → Int → Option (Int × iv_M)
  | 0, _, _, _, _ => none
  | n + 1, s, x4, x5, x6 => (if x6 < 0 then (kx s x4 x5) else (if x1 ≤ 0 then (kx s x4 x5) else (if 20000 < x5 then (kx s x4 x5) else ((rd s (q0 + 44) 12 x6).bind fun v_3825 => ((rd s (q0 + 45) 13 x6).bind fun v_3826 => (if v_3826 ≤ 0 then (FX12_floors_b174 N s q0 x1 x2 x3 x4 x5 x6 v_3825 (FX12_floors_l93 N q0 x1 x2 x3 kx n) kx) else ((rd s (q0 + 3) 12 v_3825).bind fun v_3828 => ((rd s (q0 + 3) 12 v_3825).bind fun v_3829 => ((rd s (q0 + 8) 16 v_3829).bind fun v_3830 => (if v_3830 = v_3825 then (FX12_floors_b173 N s q0 x1 x2 x3 x4 x5 x6 v_3825 (-1) v_3828 (q0 + 8) (FX12_floors_l93 N q0 x1 x2 x3 kx n) kx) else ((rd s (q0 + 3) 12 v_3825).bind fun v_3832 => ((rd s (q0 + 8) 16 v_3832).bind fun v_3833 => (FX12_floors_b173 N s q0 x1 x2 x3 x4 x5 x6 v_3825 v_3833 v_3828 (q0 + 8) (FX12_floors_l93 N q0 x1 x2 x3 kx n) kx)))))))))))))
set_option maxRecDepth 10000 in
set_option maxHeartbeats 4000000 in
theorem RX12_floors_l93 {d N nc Ls : Nat} {Xs : Nat → Int32} (hd : 6 ≤ d) {q0 : Nat} (t0 : T12 nc q0) {m1 : Int32} {x1 : Int} (p1 : m1.toInt = x1) {m2 : Int32} {x2 : Int} (p2 : m2.toInt = x2) {m3 : Int32} {x3 : Int} (p3 : m3.toInt = x3) {kx : iv_M → Int → Int → Option (Int × iv_M)} {r : Int × iv_M} {Q : Option Value → iv_H → Prop} (hk : ∀ (h : iv_H) (s : iv_M) (hR : Rep nc Ls Xs h s) (m4 : Int32) (x4 : Int) (p4 : m4.toInt = x4) (m5 : Int32) (x5 : Int) (p5 : m5.toInt = x5), kx s x4 x5 = some r → Rn d 306 (some .int) 354 [some (.ref q0), none, none, none, some (.int m4), some (.int m5), none, none, none, none, none] [] h Q) (hq : ∀ (z : Int32) (h1 : iv_H), z.toInt = r.1 → Rep nc Ls Xs h1 r.2 → Q (some (.int z)) h1) : ∀ (n : Nat) (h : iv_H) (s : iv_M) (hR : Rep nc Ls Xs h s) (m4 : Int32) (x4 : Int) (p4 : m4.toInt = x4) (m5 : Int32) (x5 : Int) (p5 : m5.toInt = x5) (m6 : Int32) (x6 : Int) (p6 : m6.toInt = x6), FX12_floors_l93 N q0 x1 x2 x3 kx n s x4 x5 x6 = some r → Rn d 306 (some .int) 93 [some (.ref q0), some (.int m1), some (.int m2), some (.int m3), some (.int m4), some (.int m5), some (.int m6), none, none, none, none] [] h Q := by
  have hT := hX12_floors
  intro n
  induction n with
  | zero =>
    intro h s hR m4 x4 p4 m5 x5 p5 m6 x6 p6 e
    rw [FX12_floors_l93] at e
    cases e
  | succ n ih =>
    intro h s hR m4 x4 p4 m5 x5 p5 m6 x6 p6 e
    rw [FX12_floors_l93] at e
    refine Rn.n hT 1 (pc' := 95) (L' := [some (.ref q0), some (.int m1), some (.int m2), some (.int m3), some (.int m4), some (.int m5), some (.int m6), none, none, none, none]) (st' := [.int m6]) rfl ?_
    by_cases c_3822 : x6 < 0
    · rw [if_pos c_3822] at e
      refine Rn.bt hT rfl rfl rfl (decide_eq_true ((ti_l p6 L32_0).mpr c_3822)) ?_
      exact Rn.weak (ll_s (ll_n (ll_n (ll_n (ll_s (ll_s (ll_n (ll_n (ll_n (ll_n (ll_n ll_e))))))))))) (hk h s hR m4 x4 p4 m5 x5 p5 e)
    · rw [if_neg c_3822] at e
      refine Rn.bf hT rfl rfl rfl (decide_eq_false (fun z => c_3822 ((ti_l p6 L32_0).mp z))) ?_
      refine Rn.n hT 1 (pc' := 99) (L' := [some (.ref q0), some (.int m1), some (.int m2), some (.int m3), some (.int m4), some (.int m5), some (.int m6), none, none, none, none]) (st' := [.int m1]) rfl ?_
      by_cases c_3823 : x1 ≤ 0
      · rw [if_pos c_3823] at e
        refine Rn.bt hT rfl rfl rfl (decide_eq_true ((ti_le p1 L32_0).mpr c_3823)) ?_
        exact Rn.weak (ll_s (ll_n (ll_n (ll_n (ll_s (ll_s (ll_n (ll_n (ll_n (ll_n (ll_n ll_e))))))))))) (hk h s hR m4 x4 p4 m5 x5 p5 e)
      · rw [if_neg c_3823] at e
        refine Rn.bf hT rfl rfl rfl (decide_eq_false (fun z => c_3823 ((ti_le p1 L32_0).mp z))) ?_
        refine Rn.n hT 2 (pc' := 107) (L' := [some (.ref q0), some (.int m1), some (.int m2), some (.int m3), some (.int m4), some (.int m5), some (.int m6), none, none, none, none]) (st' := [.int (20000 : Int32), .int m5]) rfl ?_
        by_cases c_3824 : 20000 < x5
        · rw [if_pos c_3824] at e
          refine Rn.bt hT rfl rfl rfl (decide_eq_true ((ti_l L32_20000 p5).mpr c_3824)) ?_
          exact Rn.weak (ll_s (ll_n (ll_n (ll_n (ll_s (ll_s (ll_n (ll_n (ll_n (ll_n (ll_n ll_e))))))))))) (hk h s hR m4 x4 p4 m5 x5 p5 e)
        · rw [if_neg c_3824] at e
          refine Rn.bf hT rfl rfl rfl (decide_eq_false (fun z => c_3824 ((ti_l L32_20000 p5).mp z))) ?_
          refine Rn.n hT 1 (pc' := 111) (L' := [some (.ref q0), some (.int m1), some (.int m2), some (.int m3), some (.int m4), some (.int m5), some (.int m6), none, none, none, none]) (st' := [.ref q0]) rfl ?_
          refine Rn.hp hT rfl rfl (gR_hp (rp_gR hR (T12_o t0) rfl)) ?_
          refine Rn.n hT 1 (pc' := 116) (L' := [some (.ref q0), some (.int m1), some (.int m2), some (.int m3), some (.int m4), some (.int m5), some (.int m6), none, none, none, none]) (st' := [.int m6, .ref (q0 + 44)]) rfl ?_
          obtain ⟨v_3825, e_3825, e⟩ := Option.bind_eq_some_iff.mp e
          obtain ⟨z_3825, g_3825, p_3825⟩ := rp_aI hR (T12_61 t0) (T12_61l t0) p6 e_3825
          refine Rn.hp hT rfl rfl (aI_hp g_3825) ?_
          refine Rn.n hT 2 (pc' := 120) (L' := [some (.ref q0), some (.int m1), some (.int m2), some (.int m3), some (.int m4), some (.int m5), some (.int m6), some (.int z_3825), none, none, none]) (st' := [.ref q0]) rfl ?_
          refine Rn.hp hT rfl rfl (gR_hp (rp_gR hR (T12_o t0) rfl)) ?_
          refine Rn.n hT 1 (pc' := 125) (L' := [some (.ref q0), some (.int m1), some (.int m2), some (.int m3), some (.int m4), some (.int m5), some (.int m6), some (.int z_3825), none, none, none]) (st' := [.int m6, .ref (q0 + 45)]) rfl ?_
          obtain ⟨v_3826, e_3826, e⟩ := Option.bind_eq_some_iff.mp e
          obtain ⟨z_3826, g_3826, p_3826⟩ := rp_aI hR (T12_62 t0) (T12_62l t0) p6 e_3826
          refine Rn.hp hT rfl rfl (aI_hp g_3826) ?_
          by_cases c_3827 : v_3826 ≤ 0
          · rw [if_pos c_3827] at e
            refine Rn.bt hT rfl rfl rfl (decide_eq_true ((ti_le p_3826 L32_0).mpr c_3827)) ?_
            exact Rn.weak (ll_s (ll_s (ll_s (ll_s (ll_s (ll_s (ll_s (ll_s (ll_n (ll_n (ll_n ll_e))))))))))) (RX12_floors_b174 hd hR t0 p1 p2 p3 p4 p5 p6 p_3825 ih hk hq e)
          · rw [if_neg c_3827] at e
            refine Rn.bf hT rfl rfl rfl (decide_eq_false (fun z => c_3827 ((ti_le p_3826 L32_0).mp z))) ?_
            refine Rn.n hT 1 (pc' := 130) (L' := [some (.ref q0), some (.int m1), some (.int m2), some (.int m3), some (.int m4), some (.int m5), some (.int m6), some (.int z_3825), none, none, none]) (st' := [.ref q0]) rfl ?_
            refine Rn.hp hT rfl rfl (gR_hp (rp_gR hR (T12_o t0) rfl)) ?_
            refine Rn.n hT 1 (pc' := 134) (L' := [some (.ref q0), some (.int m1), some (.int m2), some (.int m3), some (.int m4), some (.int m5), some (.int m6), some (.int z_3825), none, none, none]) (st' := [.ref q0, .ref (q0 + 8)]) rfl ?_
            refine Rn.hp hT rfl rfl (gR_hp (rp_gR hR (T12_o t0) rfl)) ?_
            refine Rn.n hT 1 (pc' := 139) (L' := [some (.ref q0), some (.int m1), some (.int m2), some (.int m3), some (.int m4), some (.int m5), some (.int m6), some (.int z_3825), none, none, none]) (st' := [.int z_3825, .ref (q0 + 3), .ref (q0 + 8)]) rfl ?_
            obtain ⟨v_3828, e_3828, e⟩ := Option.bind_eq_some_iff.mp e
            obtain ⟨z_3828, g_3828, p_3828⟩ := rp_aI hR (T12_3 t0) (T12_3l t0) p_3825 e_3828
            refine Rn.hp hT rfl rfl (aI_hp g_3828) ?_
            refine Rn.n hT 1 (pc' := 141) (L' := [some (.ref q0), some (.int m1), some (.int m2), some (.int m3), some (.int m4), some (.int m5), some (.int m6), some (.int z_3825), none, none, none]) (st' := [.ref q0, .int z_3828, .ref (q0 + 8)]) rfl ?_
            refine Rn.hp hT rfl rfl (gR_hp (rp_gR hR (T12_o t0) rfl)) ?_
            refine Rn.n hT 1 (pc' := 145) (L' := [some (.ref q0), some (.int m1), some (.int m2), some (.int m3), some (.int m4), some (.int m5), some (.int m6), some (.int z_3825), none, none, none]) (st' := [.ref q0, .ref (q0 + 8), .int z_3828, .ref (q0 + 8)]) rfl ?_
            refine Rn.hp hT rfl rfl (gR_hp (rp_gR hR (T12_o t0) rfl)) ?_
            refine Rn.n hT 1 (pc' := 150) (L' := [some (.ref q0), some (.int m1), some (.int m2), some (.int m3), some (.int m4), some (.int m5), some (.int m6), some (.int z_3825), none, none, none]) (st' := [.int z_3825, .ref (q0 + 3), .ref (q0 + 8), .int z_3828, .ref (q0 + 8)]) rfl ?_
            obtain ⟨v_3829, e_3829, e⟩ := Option.bind_eq_some_iff.mp e
            obtain ⟨z_3829, g_3829, p_3829⟩ := rp_aI hR (T12_3 t0) (T12_3l t0) p_3825 e_3829
            refine Rn.hp hT rfl rfl (aI_hp g_3829) ?_
            obtain ⟨v_3830, e_3830, e⟩ := Option.bind_eq_some_iff.mp e
            obtain ⟨z_3830, g_3830, p_3830⟩ := rp_aI hR (T12_8 t0) (T12_8l t0) p_3829 e_3830
            refine Rn.hp hT rfl rfl (aI_hp g_3830) ?_
            refine Rn.n hT 1 (pc' := 154) (L' := [some (.ref q0), some (.int m1), some (.int m2), some (.int m3), some (.int m4), some (.int m5), some (.int m6), some (.int z_3825), none, none, none]) (st' := [.int z_3825, .int z_3830, .int z_3828, .ref (q0 + 8)]) rfl ?_
            by_cases c_3831 : v_3830 = v_3825
            · rw [if_pos c_3831] at e
              refine Rn.bf hT rfl rfl rfl (decide_eq_false (fun z => z ((ti_e p_3830 p_3825).mpr c_3831))) ?_
              refine Rn.n hT 2 (pc' := 173) (L' := [some (.ref q0), some (.int m1), some (.int m2), some (.int m3), some (.int m4), some (.int m5), some (.int m6), some (.int z_3825), none, none, none]) (st' := [.int (-1 : Int32), .int z_3828, .ref (q0 + 8)]) rfl ?_
              exact Rn.weak (ll_s (ll_s (ll_s (ll_s (ll_s (ll_s (ll_s (ll_s (ll_n (ll_n (ll_n ll_e))))))))))) (RX12_floors_b173 hd hR t0 p1 p2 p3 p4 p5 p6 p_3825 L32_m1 p_3828 (T12_8 t0) ih hk hq e)
            · rw [if_neg c_3831] at e
              refine Rn.bt hT rfl rfl rfl (decide_eq_true (fun z => c_3831 ((ti_e p_3830 p_3825).mp z))) ?_
              refine Rn.n hT 1 (pc' := 162) (L' := [some (.ref q0), some (.int m1), some (.int m2), some (.int m3), some (.int m4), some (.int m5), some (.int m6), some (.int z_3825), none, none, none]) (st' := [.ref q0, .int z_3828, .ref (q0 + 8)]) rfl ?_
              refine Rn.hp hT rfl rfl (gR_hp (rp_gR hR (T12_o t0) rfl)) ?_
              refine Rn.n hT 1 (pc' := 166) (L' := [some (.ref q0), some (.int m1), some (.int m2), some (.int m3), some (.int m4), some (.int m5), some (.int m6), some (.int z_3825), none, none, none]) (st' := [.ref q0, .ref (q0 + 8), .int z_3828, .ref (q0 + 8)]) rfl ?_
              refine Rn.hp hT rfl rfl (gR_hp (rp_gR hR (T12_o t0) rfl)) ?_
              refine Rn.n hT 1 (pc' := 171) (L' := [some (.ref q0), some (.int m1), some (.int m2), some (.int m3), some (.int m4), some (.int m5), some (.int m6), some (.int z_3825), none, none, none]) (st' := [.int z_3825, .ref (q0 + 3), .ref (q0 + 8), .int z_3828, .ref (q0 + 8)]) rfl ?_
              obtain ⟨v_3832, e_3832, e⟩ := Option.bind_eq_some_iff.mp e
              obtain ⟨z_3832, g_3832, p_3832⟩ := rp_aI hR (T12_3 t0) (T12_3l t0) p_3825 e_3832
              refine Rn.hp hT rfl rfl (aI_hp g_3832) ?_
              obtain ⟨v_3833, e_3833, e⟩ := Option.bind_eq_some_iff.mp e
              obtain ⟨z_3833, g_3833, p_3833⟩ := rp_aI hR (T12_8 t0) (T12_8l t0) p_3832 e_3833
              refine Rn.hp hT rfl rfl (aI_hp g_3833) ?_
              exact Rn.weak (ll_s (ll_s (ll_s (ll_s (ll_s (ll_s (ll_s (ll_s (ll_n (ll_n (ll_n ll_e))))))))))) (RX12_floors_b173 hd hR t0 p1 p2 p3 p4 p5 p6 p_3825 p_3833 p_3828 (T12_8 t0) ih hk hq e)
def FX12_floors_b378 (N : Nat) (s : iv_M)  (xs0 : Int) : Option (Int × iv_M) := (some (xs0, s))
set_option maxRecDepth 10000 in
set_option maxHeartbeats 4000000 in
theorem RX12_floors_b378 {d N nc Ls : Nat} {Xs : Nat → Int32} (hd : 6 ≤ d) {h : iv_H} {s : iv_M} (hR : Rep nc Ls Xs h s)  {ms0 : Int32} {xs0 : Int} (ps0 : ms0.toInt = xs0) {r : Int × iv_M} {Q : Option Value → iv_H → Prop} (hq : ∀ (z : Int32) (h1 : iv_H), z.toInt = r.1 → Rep nc Ls Xs h1 r.2 → Q (some (.int z)) h1) (e : FX12_floors_b378 N s  xs0 = some r) : Rn d 306 (some .int) 378 [none, none, none, none, none, none, none, none, none, none, none] [.int ms0] h Q := by
  have hT := hX12_floors
  unfold FX12_floors_b378 at e
  obtain rfl := Option.some.inj e
  exact Rn.ret hT rfl rfl rfl (hq ms0 h ps0 hR)
def FX12_floors_b354 (N : Nat) (s : iv_M) (q0 : Nat) (x4 : Int) (x5 : Int)  : Option (Int × iv_M) := ((FX12_laysFloor N s q0 (q0 + 41) 0).bind fun s_3867 => (if x5 ≤ 20000 then (FX12_floors_b378 N s_3867 x4) else (FX12_floors_b378 N s_3867 (-3))))
set_option maxRecDepth 10000 in
set_option maxHeartbeats 4000000 in
theorem RX12_floors_b354 {d N nc Ls : Nat} {Xs : Nat → Int32} (hd : 6 ≤ d) {h : iv_H} {s : iv_M} (hR : Rep nc Ls Xs h s) {q0 : Nat} (t0 : T12 nc q0) {m4 : Int32} {x4 : Int} (p4 : m4.toInt = x4) {m5 : Int32} {x5 : Int} (p5 : m5.toInt = x5)  {r : Int × iv_M} {Q : Option Value → iv_H → Prop} (hq : ∀ (z : Int32) (h1 : iv_H), z.toInt = r.1 → Rep nc Ls Xs h1 r.2 → Q (some (.int z)) h1) (e : FX12_floors_b354 N s q0 x4 x5  = some r) : Rn d 306 (some .int) 354 [some (.ref q0), none, none, none, some (.int m4), some (.int m5), none, none, none, none, none] [] h Q := by
  have hT := hX12_floors
  unfold FX12_floors_b354 at e
  refine Rn.n hT 2 (pc' := 356) (L' := [some (.ref q0), none, none, none, some (.int m4), some (.int m5), none, none, none, none, none]) (st' := [.ref q0, .ref q0]) rfl ?_
  refine Rn.hp hT rfl rfl (gR_hp (rp_gR hR (T12_o t0) rfl)) ?_
  refine Rn.n hT 1 (pc' := 360) (L' := [some (.ref q0), none, none, none, some (.int m4), some (.int m5), none, none, none, none, none]) (st' := [.int (0 : Int32), .ref (q0 + 41), .ref q0]) rfl ?_
  obtain ⟨s_3867, e_3866, e⟩ := Option.bind_eq_some_iff.mp e
  refine Rn.call hT rfl rfl rfl (Nat.le_of_ble_eq_true rfl) (rcv_v gX12_laysFloor (by omega) (rp_ck hR (T12_o t0))) (RX12_laysFloor (by omega) hR t0 (T12_55 t0) L32_0 e_3866 (fun h_3867 R_3867 => ?_))
  show Rn d _ _ 363 [some (.ref q0), none, none, none, some (.int m4), some (.int m5), none, none, none, none, none] [] h_3867 Q
  refine Rn.n hT 2 (pc' := 368) (L' := [some (.ref q0), none, none, none, some (.int m4), some (.int m5), none, none, none, none, none]) (st' := [.int (20000 : Int32), .int m5]) rfl ?_
  by_cases c_3868 : x5 ≤ 20000
  · rw [if_pos c_3868] at e
    refine Rn.bt hT rfl rfl rfl (decide_eq_true ((ti_le p5 L32_20000).mpr c_3868)) ?_
    refine Rn.n hT 1 (pc' := 378) (L' := [some (.ref q0), none, none, none, some (.int m4), some (.int m5), none, none, none, none, none]) (st' := [.int m4]) rfl ?_
    exact Rn.weak (ll_n (ll_n (ll_n (ll_n (ll_n (ll_n (ll_n (ll_n (ll_n (ll_n (ll_n ll_e))))))))))) (RX12_floors_b378 hd R_3867 p4 hq e)
  · rw [if_neg c_3868] at e
    refine Rn.bf hT rfl rfl rfl (decide_eq_false (fun z => c_3868 ((ti_le p5 L32_20000).mp z))) ?_
    refine Rn.n hT 2 (pc' := 378) (L' := [some (.ref q0), none, none, none, some (.int m4), some (.int m5), none, none, none, none, none]) (st' := [.int (-3 : Int32)]) rfl ?_
    exact Rn.weak (ll_n (ll_n (ll_n (ll_n (ll_n (ll_n (ll_n (ll_n (ll_n (ll_n (ll_n ll_e))))))))))) (RX12_floors_b378 hd R_3867 L32_m3 hq e)
def FX12_floors_b90 (N : Nat) (s : iv_M) (q0 : Nat) (x1 : Int) (x2 : Int) (x3 : Int) (x5 : Int) (x6 : Int) (xs0 : Int) (xs1 : Int) : Option (Int × iv_M) := (FX12_floors_l93 N q0 x1 x2 x3 (fun (s_3820 : iv_M) (x3821_4 : Int) (x3821_5 : Int) => (FX12_floors_b354 N s_3820 q0 x3821_4 x3821_5)) N s (w32 (xs1 + xs0)) x5 x6)
set_option maxRecDepth 10000 in
set_option maxHeartbeats 4000000 in
theorem RX12_floors_b90 {d N nc Ls : Nat} {Xs : Nat → Int32} (hd : 6 ≤ d) {h : iv_H} {s : iv_M} (hR : Rep nc Ls Xs h s) {q0 : Nat} (t0 : T12 nc q0) {m1 : Int32} {x1 : Int} (p1 : m1.toInt = x1) {m2 : Int32} {x2 : Int} (p2 : m2.toInt = x2) {m3 : Int32} {x3 : Int} (p3 : m3.toInt = x3) {m5 : Int32} {x5 : Int} (p5 : m5.toInt = x5) {m6 : Int32} {x6 : Int} (p6 : m6.toInt = x6) {ms0 : Int32} {xs0 : Int} (ps0 : ms0.toInt = xs0) {ms1 : Int32} {xs1 : Int} (ps1 : ms1.toInt = xs1) {r : Int × iv_M} {Q : Option Value → iv_H → Prop} (hq : ∀ (z : Int32) (h1 : iv_H), z.toInt = r.1 → Rep nc Ls Xs h1 r.2 → Q (some (.int z)) h1) (e : FX12_floors_b90 N s q0 x1 x2 x3 x5 x6 xs0 xs1 = some r) : Rn d 306 (some .int) 90 [some (.ref q0), some (.int m1), some (.int m2), some (.int m3), none, some (.int m5), some (.int m6), none, none, none, none] [.int ms0, .int ms1] h Q := by
  have hT := hX12_floors
  unfold FX12_floors_b90 at e
  refine Rn.n hT 2 (pc' := 93) (L' := [some (.ref q0), some (.int m1), some (.int m2), some (.int m3), some (.int (ms1 + ms0)), some (.int m5), some (.int m6), none, none, none, none]) (st' := []) rfl ?_
  refine Rn.weak (ll_s (ll_s (ll_s (ll_s (ll_s (ll_s (ll_s (ll_n (ll_n (ll_n (ll_n ll_e))))))))))) (RX12_floors_l93 hd t0 p1 p2 p3 (fun h_3820 s_3820 R_3820 m3821_4 x3821_4 p3821_4 m3821_5 x3821_5 p3821_5 e => ?_) hq N h s hR (ms1 + ms0) (w32 (xs1 + xs0)) (ti_add ps1 ps0) m5 x5 p5 m6 x6 p6 e)
  try dsimp only at e
  exact Rn.weak (ll_s (ll_n (ll_n (ll_n (ll_s (ll_s (ll_n (ll_n (ll_n (ll_n (ll_n ll_e))))))))))) (RX12_floors_b354 hd R_3820 t0 p3821_4 p3821_5 hq e)
def FX12_floors_b89 (N : Nat) (s : iv_M) (q0 : Nat) (x1 : Int) (x2 : Int) (x3 : Int) (x5 : Int) (x6 : Int) (xs0 : Int) : Option (Int × iv_M) := (FX12_floors_b90 N s q0 x1 x2 x3 x5 x6 0 xs0)
set_option maxRecDepth 10000 in
set_option maxHeartbeats 4000000 in
theorem RX12_floors_b89 {d N nc Ls : Nat} {Xs : Nat → Int32} (hd : 6 ≤ d) {h : iv_H} {s : iv_M} (hR : Rep nc Ls Xs h s) {q0 : Nat} (t0 : T12 nc q0) {m1 : Int32} {x1 : Int} (p1 : m1.toInt = x1) {m2 : Int32} {x2 : Int} (p2 : m2.toInt = x2) {m3 : Int32} {x3 : Int} (p3 : m3.toInt = x3) {m5 : Int32} {x5 : Int} (p5 : m5.toInt = x5) {m6 : Int32} {x6 : Int} (p6 : m6.toInt = x6) {ms0 : Int32} {xs0 : Int} (ps0 : ms0.toInt = xs0) {r : Int × iv_M} {Q : Option Value → iv_H → Prop} (hq : ∀ (z : Int32) (h1 : iv_H), z.toInt = r.1 → Rep nc Ls Xs h1 r.2 → Q (some (.int z)) h1) (e : FX12_floors_b89 N s q0 x1 x2 x3 x5 x6 xs0 = some r) : Rn d 306 (some .int) 89 [some (.ref q0), some (.int m1), some (.int m2), some (.int m3), none, some (.int m5), some (.int m6), none, none, none, none] [.int ms0] h Q := by
  have hT := hX12_floors
  unfold FX12_floors_b89 at e
  refine Rn.n hT 1 (pc' := 90) (L' := [some (.ref q0), some (.int m1), some (.int m2), some (.int m3), none, some (.int m5), some (.int m6), none, none, none, none]) (st' := [.int (0 : Int32), .int ms0]) rfl ?_
  exact Rn.weak (ll_s (ll_s (ll_s (ll_s (ll_n (ll_s (ll_s (ll_n (ll_n (ll_n (ll_n ll_e))))))))))) (RX12_floors_b90 hd hR t0 p1 p2 p3 p5 p6 L32_0 ps0 hq e)
def FX12_floors_b55 (N : Nat) (s : iv_M) (q0 : Nat) (x1 : Int) (x2 : Int) (xs0 : Int) : Option (Int × iv_M) := ((wr s (q0 + 45) 13 0 0).bind fun s_3814 => (if x1 = 0 then ((FX12_mismatches N s_3814 q0).bind fun r_3817 => (fun (v_3817 : Int) (s_3818 : iv_M) => (if v_3817 = 0 then (FX12_floors_b90 N s_3818 q0 x1 x2 xs0 0 0 1 0) else (FX12_floors_b89 N s_3818 q0 x1 x2 xs0 0 0 0))) r_3817.1 r_3817.2) else (FX12_floors_b89 N s_3814 q0 x1 x2 xs0 0 0 0)))
set_option maxRecDepth 10000 in
set_option maxHeartbeats 4000000 in
theorem RX12_floors_b55 {d N nc Ls : Nat} {Xs : Nat → Int32} (hd : 6 ≤ d) {h : iv_H} {s : iv_M} (hR : Rep nc Ls Xs h s) {q0 : Nat} (t0 : T12 nc q0) {m1 : Int32} {x1 : Int} (p1 : m1.toInt = x1) {m2 : Int32} {x2 : Int} (p2 : m2.toInt = x2) {ms0 : Int32} {xs0 : Int} (ps0 : ms0.toInt = xs0) {r : Int × iv_M} {Q : Option Value → iv_H → Prop} (hq : ∀ (z : Int32) (h1 : iv_H), z.toInt = r.1 → Rep nc Ls Xs h1 r.2 → Q (some (.int z)) h1) (e : FX12_floors_b55 N s q0 x1 x2 xs0 = some r) : Rn d 306 (some .int) 55 [some (.ref q0), some (.int m1), some (.int m2), none, none, none, none, none, none, none, none] [.int ms0] h Q := by
  have hT := hX12_floors
  unfold FX12_floors_b55 at e
  refine Rn.n hT 8 (pc' := 66) (L' := [some (.ref q0), some (.int m1), some (.int m2), some (.int ms0), some (.int (0 : Int32)), some (.int (0 : Int32)), some (.int (0 : Int32)), none, none, none, none]) (st' := [.ref q0]) rfl ?_
  refine Rn.hp hT rfl rfl (gR_hp (rp_gR hR (T12_o t0) rfl)) ?_
  refine Rn.n hT 2 (pc' := 71) (L' := [some (.ref q0), some (.int m1), some (.int m2), some (.int ms0), some (.int (0 : Int32)), some (.int (0 : Int32)), some (.int (0 : Int32)), none, none, none, none]) (st' := [.int (0 : Int32), .int (0 : Int32), .ref (q0 + 45)]) rfl ?_
  obtain ⟨s_3814, e_3815, e⟩ := Option.bind_eq_some_iff.mp e
  obtain ⟨h_3814, g_3815, R_3814⟩ := rp_wI hR (T12_62 t0) (T12_62l t0) L32_0 L32_0 e_3815
  refine Rn.hp hT rfl rfl (wI_hp g_3815) ?_
  refine Rn.n hT 2 (pc' := 75) (L' := [some (.ref q0), some (.int m1), some (.int m2), some (.int ms0), some (.int (0 : Int32)), some (.int (0 : Int32)), some (.int (0 : Int32)), none, none, none, none]) (st' := [.int m1, .int (0 : Int32)]) rfl ?_
  by_cases c_3816 : x1 = 0
  · rw [if_pos c_3816] at e
    refine Rn.bf hT rfl rfl rfl (decide_eq_false (fun z => z ((ti_e p1 L32_0).mpr c_3816))) ?_
    refine Rn.n hT 1 (pc' := 79) (L' := [some (.ref q0), some (.int m1), some (.int m2), some (.int ms0), some (.int (0 : Int32)), some (.int (0 : Int32)), some (.int (0 : Int32)), none, none, none, none]) (st' := [.ref q0, .int (0 : Int32)]) rfl ?_
    obtain ⟨⟨v_3817, s_3818⟩, e_3817, e⟩ := Option.bind_eq_some_iff.mp e
    try dsimp only at e
    try dsimp only at e
    refine Rn.call hT rfl rfl rfl (Nat.le_of_ble_eq_true rfl) (rcv_v gX12_mismatches (by omega) (rp_ck R_3814 (T12_o t0))) (RX12_mismatches (by omega) R_3814 t0 e_3817 (fun z_3817 h_3818 p_3817 R_3818 => ?_))
    show Rn d _ _ 82 [some (.ref q0), some (.int m1), some (.int m2), some (.int ms0), some (.int (0 : Int32)), some (.int (0 : Int32)), some (.int (0 : Int32)), none, none, none, none] [.int z_3817, .int (0 : Int32)] h_3818 Q
    by_cases c_3819 : v_3817 = 0
    · rw [if_pos c_3819] at e
      refine Rn.bf hT rfl rfl rfl (decide_eq_false (fun z => z ((ti_e p_3817 L32_0).mpr c_3819))) ?_
      refine Rn.n hT 2 (pc' := 90) (L' := [some (.ref q0), some (.int m1), some (.int m2), some (.int ms0), some (.int (0 : Int32)), some (.int (0 : Int32)), some (.int (0 : Int32)), none, none, none, none]) (st' := [.int (1 : Int32), .int (0 : Int32)]) rfl ?_
      exact Rn.weak (ll_s (ll_s (ll_s (ll_s (ll_n (ll_s (ll_s (ll_n (ll_n (ll_n (ll_n ll_e))))))))))) (RX12_floors_b90 hd R_3818 t0 p1 p2 ps0 L32_0 L32_0 L32_1 L32_0 hq e)
    · rw [if_neg c_3819] at e
      refine Rn.bt hT rfl rfl rfl (decide_eq_true (fun z => c_3819 ((ti_e p_3817 L32_0).mp z))) ?_
      exact Rn.weak (ll_s (ll_s (ll_s (ll_s (ll_n (ll_s (ll_s (ll_n (ll_n (ll_n (ll_n ll_e))))))))))) (RX12_floors_b89 hd R_3818 t0 p1 p2 ps0 L32_0 L32_0 L32_0 hq e)
  · rw [if_neg c_3816] at e
    refine Rn.bt hT rfl rfl rfl (decide_eq_true (fun z => c_3816 ((ti_e p1 L32_0).mp z))) ?_
    exact Rn.weak (ll_s (ll_s (ll_s (ll_s (ll_n (ll_s (ll_s (ll_n (ll_n (ll_n (ll_n ll_e))))))))))) (RX12_floors_b89 hd R_3814 t0 p1 p2 ps0 L32_0 L32_0 L32_0 hq e)
def FX12_floors (N : Nat) (s : iv_M) (q0 : Nat) : Option (Int × iv_M) := ((FX12_isPalace N s q0).bind fun v_3803 => (if v_3803 = 0 then (some ((-1), s)) else ((FX12_fillsFloor N s q0 (q0 + 41) 0).bind fun s_3806 => ((FX12_copies N s_3806 (q0 + 4) (q0 + 46)).bind fun s_3808 => ((FX12_takesLoose N s_3808 q0).bind fun r_3809 => (fun (v_3809 : Int) (s_3810 : iv_M) => ((FX12_areFixedWell N s_3810 q0).bind fun v_3811 => ((rd s_3810 (q0 + 1) 14 4).bind fun v_3812 => (if (bAn v_3812 4) ≤ 0 then (FX12_floors_b55 N s_3810 q0 v_3809 v_3811 1) else (FX12_floors_b55 N s_3810 q0 v_3809 v_3811 4))))) r_3809.1 r_3809.2)))))
set_option maxRecDepth 10000 in
set_option maxHeartbeats 4000000 in
theorem RX12_floors {d N nc Ls : Nat} {Xs : Nat → Int32} (hd : 7 ≤ d) {h : iv_H} {s : iv_M} (hR : Rep nc Ls Xs h s) {q0 : Nat} (t0 : T12 nc q0) {r : Int × iv_M} {Q : Option Value → iv_H → Prop} (e : FX12_floors N s q0 = some r) (hq : ∀ (z : Int32) (h1 : iv_H), z.toInt = r.1 → Rep nc Ls Xs h1 r.2 → Q (some (.int z)) h1) : Cl d 306 [.ref q0] h Q := by
  obtain ⟨d, rfl⟩ : ∃ k, d = k + 1 := ⟨d - 1, by omega⟩
  have hd : 6 ≤ d := by omega
  have hT := hX12_floors
  unfold FX12_floors at e
  refine Cl.into (by decide) gX12_floors rfl ?_
  show Rn d 306 (some .int) 0 [some (.ref q0), none, none, none, none, none, none, none, none, none, none] [] h Q
  refine Rn.n hT 1 (pc' := 1) (L' := [some (.ref q0), none, none, none, none, none, none, none, none, none, none]) (st' := [.ref q0]) rfl ?_
  obtain ⟨v_3803, e_3803, e⟩ := Option.bind_eq_some_iff.mp e
  refine Rn.call hT rfl rfl rfl (Nat.le_of_ble_eq_true rfl) (rcv_v gX12_isPalace (by omega) (rp_ck hR (T12_o t0))) (RX12_isPalace (by omega) hR t0 e_3803 (fun z_3803 p_3803 => ?_))
  show Rn d _ _ 4 [some (.ref q0), none, none, none, none, none, none, none, none, none, none] [.int z_3803] h Q
  by_cases c_3804 : v_3803 = 0
  · rw [if_pos c_3804] at e
    refine Rn.bf hT rfl rfl rfl (decide_eq_false (fun z => z ((ti_e p_3803 L32_0).mpr c_3804))) ?_
    refine Rn.n hT 1 (pc' := 8) (L' := [some (.ref q0), none, none, none, none, none, none, none, none, none, none]) (st' := [.int (-1 : Int32)]) rfl ?_
    obtain rfl := Option.some.inj e
    exact Rn.ret hT rfl rfl rfl (hq (-1 : Int32) h L32_m1 hR)
  · rw [if_neg c_3804] at e
    refine Rn.bt hT rfl rfl rfl (decide_eq_true (fun z => c_3804 ((ti_e p_3803 L32_0).mp z))) ?_
    refine Rn.n hT 2 (pc' := 11) (L' := [some (.ref q0), none, none, none, none, none, none, none, none, none, none]) (st' := [.ref q0, .ref q0]) rfl ?_
    refine Rn.hp hT rfl rfl (gR_hp (rp_gR hR (T12_o t0) rfl)) ?_
    refine Rn.n hT 1 (pc' := 15) (L' := [some (.ref q0), none, none, none, none, none, none, none, none, none, none]) (st' := [.int (0 : Int32), .ref (q0 + 41), .ref q0]) rfl ?_
    obtain ⟨s_3806, e_3805, e⟩ := Option.bind_eq_some_iff.mp e
    refine Rn.call hT rfl rfl rfl (Nat.le_of_ble_eq_true rfl) (rcv_v gX12_fillsFloor (by omega) (rp_ck hR (T12_o t0))) (RX12_fillsFloor (by omega) hR t0 (T12_55 t0) L32_0 e_3805 (fun h_3806 R_3806 => ?_))
    show Rn d _ _ 18 [some (.ref q0), none, none, none, none, none, none, none, none, none, none] [] h_3806 Q
    refine Rn.n hT 1 (pc' := 19) (L' := [some (.ref q0), none, none, none, none, none, none, none, none, none, none]) (st' := [.ref q0]) rfl ?_
    refine Rn.hp hT rfl rfl (gR_hp (rp_gR R_3806 (T12_o t0) rfl)) ?_
    refine Rn.n hT 1 (pc' := 23) (L' := [some (.ref q0), none, none, none, none, none, none, none, none, none, none]) (st' := [.ref q0, .ref (q0 + 4)]) rfl ?_
    refine Rn.hp hT rfl rfl (gR_hp (rp_gR R_3806 (T12_o t0) rfl)) ?_
    obtain ⟨s_3808, e_3807, e⟩ := Option.bind_eq_some_iff.mp e
    refine Rn.call hT rfl rfl rfl (Nat.le_of_ble_eq_true rfl) rfl (RX12_copies (by omega) R_3806 (T12_4 t0) (T12_63 t0) e_3807 (fun h_3808 R_3808 => ?_))
    show Rn d _ _ 29 [some (.ref q0), none, none, none, none, none, none, none, none, none, none] [] h_3808 Q
    refine Rn.n hT 1 (pc' := 30) (L' := [some (.ref q0), none, none, none, none, none, none, none, none, none, none]) (st' := [.ref q0]) rfl ?_
    obtain ⟨⟨v_3809, s_3810⟩, e_3809, e⟩ := Option.bind_eq_some_iff.mp e
    try dsimp only at e
    try dsimp only at e
    refine Rn.call hT rfl rfl rfl (Nat.le_of_ble_eq_true rfl) (rcv_v gX12_takesLoose (by omega) (rp_ck R_3808 (T12_o t0))) (RX12_takesLoose (by omega) R_3808 t0 e_3809 (fun z_3809 h_3810 p_3809 R_3810 => ?_))
    show Rn d _ _ 33 [some (.ref q0), none, none, none, none, none, none, none, none, none, none] [.int z_3809] h_3810 Q
    refine Rn.n hT 2 (pc' := 35) (L' := [some (.ref q0), some (.int z_3809), none, none, none, none, none, none, none, none, none]) (st' := [.ref q0]) rfl ?_
    obtain ⟨v_3811, e_3811, e⟩ := Option.bind_eq_some_iff.mp e
    refine Rn.call hT rfl rfl rfl (Nat.le_of_ble_eq_true rfl) (rcv_v gX12_areFixedWell (by omega) (rp_ck R_3810 (T12_o t0))) (RX12_areFixedWell (by omega) R_3810 t0 e_3811 (fun z_3811 p_3811 => ?_))
    show Rn d _ _ 38 [some (.ref q0), some (.int z_3809), none, none, none, none, none, none, none, none, none] [.int z_3811] h_3810 Q
    refine Rn.n hT 2 (pc' := 40) (L' := [some (.ref q0), some (.int z_3809), some (.int z_3811), none, none, none, none, none, none, none, none]) (st' := [.ref q0]) rfl ?_
    refine Rn.hp hT rfl rfl (gR_hp (rp_gR R_3810 (T12_o t0) rfl)) ?_
    refine Rn.n hT 1 (pc' := 44) (L' := [some (.ref q0), some (.int z_3809), some (.int z_3811), none, none, none, none, none, none, none, none]) (st' := [.int (4 : Int32), .ref (q0 + 1)]) rfl ?_
    obtain ⟨v_3812, e_3812, e⟩ := Option.bind_eq_some_iff.mp e
    obtain ⟨z_3812, g_3812, p_3812⟩ := rp_aI R_3810 (T12_1 t0) (T12_1l t0) L32_4 e_3812
    refine Rn.hp hT rfl rfl (aI_hp g_3812) ?_
    refine Rn.n hT 2 (pc' := 47) (L' := [some (.ref q0), some (.int z_3809), some (.int z_3811), none, none, none, none, none, none, none, none]) (st' := [.int (z_3812 &&& (4 : Int32))]) rfl ?_
    by_cases c_3813 : (bAn v_3812 4) ≤ 0
    · rw [if_pos c_3813] at e
      refine Rn.bt hT rfl rfl rfl (decide_eq_true ((ti_le (ti_and p_3812 L32_4) L32_0).mpr c_3813)) ?_
      refine Rn.n hT 1 (pc' := 55) (L' := [some (.ref q0), some (.int z_3809), some (.int z_3811), none, none, none, none, none, none, none, none]) (st' := [.int (1 : Int32)]) rfl ?_
      exact Rn.weak (ll_s (ll_s (ll_s (ll_n (ll_n (ll_n (ll_n (ll_n (ll_n (ll_n (ll_n ll_e))))))))))) (RX12_floors_b55 hd R_3810 t0 p_3809 p_3811 L32_1 hq e)
    · rw [if_neg c_3813] at e
      refine Rn.bf hT rfl rfl rfl (decide_eq_false (fun z => c_3813 ((ti_le (ti_and p_3812 L32_4) L32_0).mp z))) ?_
      refine Rn.n hT 2 (pc' := 55) (L' := [some (.ref q0), some (.int z_3809), some (.int z_3811), none, none, none, none, none, none, none, none]) (st' := [.int (4 : Int32)]) rfl ?_
      exact Rn.weak (ll_s (ll_s (ll_s (ll_n (ll_n (ll_n (ll_n (ll_n (ll_n (ll_n (ll_n ll_e))))))))))) (RX12_floors_b55 hd R_3810 t0 p_3809 p_3811 L32_4 hq e)
set_option maxRecDepth 10000 in
theorem hX12_opens_ : iv_Tb 307 tX12_opens_ := iv_tb_of (m := mX12_opens_) rfl
set_option maxRecDepth 10000 in
theorem gX12_opens_ : PG.2 307 = some mX12_opens_ := iv_pi_of (t := tX12_opens_) rfl (by decide)
def FX12_opens__b21 (N : Nat) (s : iv_M)  (xs0 : Int) : Option (Int) := (if xs0 = 0 ∨ xs0 = 1 then some xs0 else none)
set_option maxRecDepth 10000 in
set_option maxHeartbeats 4000000 in
theorem RX12_opens__b21 {d N nc Ls : Nat} {Xs : Nat → Int32} (hd : 0 ≤ d) {h : iv_H} {s : iv_M} (hR : Rep nc Ls Xs h s)  {ms0 : Int32} {xs0 : Int} (ps0 : ms0.toInt = xs0) {r : Int} {Q : Option Value → iv_H → Prop} (hq : ∀ (z : Int32), z.toInt = r → Q (some (.int z)) h) (e : FX12_opens__b21 N s  xs0 = some r) : Rn d 307 (some .boolean) 21 [none, none] [.int ms0] h Q := by
  have hT := hX12_opens_
  unfold FX12_opens__b21 at e
  by_cases c_3871 : xs0 = 0 ∨ xs0 = 1
  · rw [if_pos c_3871] at e
    obtain rfl := Option.some.inj e
    exact Rn.ret hT rfl rfl (if_pos (ti_b ps0 c_3871)) (hq ms0 ps0)
  · rw [if_neg c_3871] at e
    cases e
def FX12_opens__b16 (N : Nat) (s : iv_M)   : Option (Int) := (FX12_opens__b21 N s 1)
set_option maxRecDepth 10000 in
set_option maxHeartbeats 4000000 in
theorem RX12_opens__b16 {d N nc Ls : Nat} {Xs : Nat → Int32} (hd : 0 ≤ d) {h : iv_H} {s : iv_M} (hR : Rep nc Ls Xs h s)   {r : Int} {Q : Option Value → iv_H → Prop} (hq : ∀ (z : Int32), z.toInt = r → Q (some (.int z)) h) (e : FX12_opens__b16 N s   = some r) : Rn d 307 (some .boolean) 16 [none, none] [] h Q := by
  have hT := hX12_opens_
  unfold FX12_opens__b16 at e
  refine Rn.n hT 2 (pc' := 21) (L' := [none, none]) (st' := [.int (1 : Int32)]) rfl ?_
  exact Rn.weak (ll_n (ll_n ll_e)) (RX12_opens__b21 hd hR L32_1 hq e)
def FX12_opens_ (N : Nat) (s : iv_M) (x0 : Int) (x1 : Int) : Option (Int) := (if x0 < 3 then (FX12_opens__b16 N s) else (if (bAn (sr32 x1 (w32 (x0 - 3))) 1) = 1 then (FX12_opens__b16 N s) else (FX12_opens__b21 N s 0)))
set_option maxRecDepth 10000 in
set_option maxHeartbeats 4000000 in
theorem RX12_opens_ {d N nc Ls : Nat} {Xs : Nat → Int32} (hd : 1 ≤ d) {h : iv_H} {s : iv_M} (hR : Rep nc Ls Xs h s) {m0 : Int32} {x0 : Int} (p0 : m0.toInt = x0) {m1 : Int32} {x1 : Int} (p1 : m1.toInt = x1) {r : Int} {Q : Option Value → iv_H → Prop} (e : FX12_opens_ N s x0 x1 = some r) (hq : ∀ (z : Int32), z.toInt = r → Q (some (.int z)) h) : Cl d 307 [.int m0, .int m1] h Q := by
  obtain ⟨d, rfl⟩ : ∃ k, d = k + 1 := ⟨d - 1, by omega⟩
  have hd : 0 ≤ d := by omega
  have hT := hX12_opens_
  unfold FX12_opens_ at e
  refine Cl.into (by decide) gX12_opens_ rfl ?_
  show Rn d 307 (some .boolean) 0 [some (.int m0), some (.int m1)] [] h Q
  refine Rn.n hT 2 (pc' := 2) (L' := [some (.int m0), some (.int m1)]) (st' := [.int (3 : Int32), .int m0]) rfl ?_
  by_cases c_3869 : x0 < 3
  · rw [if_pos c_3869] at e
    refine Rn.bt hT rfl rfl rfl (decide_eq_true ((ti_l p0 L32_3).mpr c_3869)) ?_
    exact Rn.weak (ll_n (ll_n ll_e)) (RX12_opens__b16 hd hR hq e)
  · rw [if_neg c_3869] at e
    refine Rn.bf hT rfl rfl rfl (decide_eq_false (fun z => c_3869 ((ti_l p0 L32_3).mp z))) ?_
    refine Rn.n hT 8 (pc' := 13) (L' := [some (.int m0), some (.int m1)]) (st' := [.int (1 : Int32), .int ((m1 >>> ((m0 - (3 : Int32)) &&& 31)) &&& (1 : Int32))]) rfl ?_
    by_cases c_3870 : (bAn (sr32 x1 (w32 (x0 - 3))) 1) = 1
    · rw [if_pos c_3870] at e
      refine Rn.bf hT rfl rfl rfl (decide_eq_false (fun z => z ((ti_e (ti_and (ti_shr p1 (ti_sub p0 L32_3)) L32_1) L32_1).mpr c_3870))) ?_
      exact Rn.weak (ll_n (ll_n ll_e)) (RX12_opens__b16 hd hR hq e)
    · rw [if_neg c_3870] at e
      refine Rn.bt hT rfl rfl rfl (decide_eq_true (fun z => c_3870 ((ti_e (ti_and (ti_shr p1 (ti_sub p0 L32_3)) L32_1) L32_1).mp z))) ?_
      refine Rn.n hT 1 (pc' := 21) (L' := [some (.int m0), some (.int m1)]) (st' := [.int (0 : Int32)]) rfl ?_
      exact Rn.weak (ll_n (ll_n ll_e)) (RX12_opens__b21 hd hR L32_0 hq e)
set_option maxRecDepth 10000 in
theorem hX12_bagAt : iv_Tb 308 tX12_bagAt := iv_tb_of (m := mX12_bagAt) rfl
set_option maxRecDepth 10000 in
theorem gX12_bagAt : PG.2 308 = some mX12_bagAt := iv_pi_of (t := tX12_bagAt) rfl (by decide)
def FX12_bagAt (N : Nat) (s : iv_M) (q0 : Nat) (x1 : Int) (x2 : Int) : Option (Int) := ((FX12_keysIn N s q0 x1).bind fun v_3872 => (some (bOr x2 (sr32 v_3872 1))))
set_option maxRecDepth 10000 in
set_option maxHeartbeats 4000000 in
theorem RX12_bagAt {d N nc Ls : Nat} {Xs : Nat → Int32} (hd : 2 ≤ d) {h : iv_H} {s : iv_M} (hR : Rep nc Ls Xs h s) {q0 : Nat} (t0 : T12 nc q0) {m1 : Int32} {x1 : Int} (p1 : m1.toInt = x1) {m2 : Int32} {x2 : Int} (p2 : m2.toInt = x2) {r : Int} {Q : Option Value → iv_H → Prop} (e : FX12_bagAt N s q0 x1 x2 = some r) (hq : ∀ (z : Int32), z.toInt = r → Q (some (.int z)) h) : Cl d 308 [.ref q0, .int m1, .int m2] h Q := by
  obtain ⟨d, rfl⟩ : ∃ k, d = k + 1 := ⟨d - 1, by omega⟩
  have hd : 1 ≤ d := by omega
  have hT := hX12_bagAt
  unfold FX12_bagAt at e
  refine Cl.into (by decide) gX12_bagAt rfl ?_
  show Rn d 308 (some .int) 0 [some (.ref q0), some (.int m1), some (.int m2)] [] h Q
  refine Rn.n hT 3 (pc' := 3) (L' := [some (.ref q0), some (.int m1), some (.int m2)]) (st' := [.int m1, .ref q0, .int m2]) rfl ?_
  obtain ⟨v_3872, e_3872, e⟩ := Option.bind_eq_some_iff.mp e
  refine Rn.call hT rfl rfl rfl (Nat.le_of_ble_eq_true rfl) (rcv_v gX12_keysIn (by omega) (rp_ck hR (T12_o t0))) (RX12_keysIn (by omega) hR t0 p1 e_3872 (fun z_3872 p_3872 => ?_))
  show Rn d _ _ 6 [some (.ref q0), some (.int m1), some (.int m2)] [.int z_3872, .int m2] h Q
  refine Rn.n hT 3 (pc' := 9) (L' := [some (.ref q0), some (.int m1), some (.int m2)]) (st' := [.int (m2 ||| (z_3872 >>> ((1 : Int32) &&& 31)))]) rfl ?_
  obtain rfl := Option.some.inj e
  exact Rn.ret hT rfl rfl rfl (hq (m2 ||| (z_3872 >>> ((1 : Int32) &&& 31))) (ti_or p2 (ti_shr p_3872 L32_1)))
set_option maxRecDepth 10000 in
theorem hX12_comesIn : iv_Tb 310 tX12_comesIn := iv_tb_of (m := mX12_comesIn) rfl
set_option maxRecDepth 10000 in
theorem gX12_comesIn : PG.2 310 = some mX12_comesIn := iv_pi_of (t := tX12_comesIn) rfl (by decide)
def FX12_comesIn_b48 (N : Nat) (s : iv_M)   : Option (iv_M) := some s
set_option maxRecDepth 10000 in
set_option maxHeartbeats 4000000 in
theorem RX12_comesIn_b48 {d N nc Ls : Nat} {Xs : Nat → Int32} (hd : 0 ≤ d) {h : iv_H} {s : iv_M} (hR : Rep nc Ls Xs h s)   {r : iv_M} {Q : Option Value → iv_H → Prop} (hq : ∀ h1, Rep nc Ls Xs h1 r → Q none h1) (e : FX12_comesIn_b48 N s   = some r) : Rn d 310 none 48 [none, none, none, none, none] [] h Q := by
  have hT := hX12_comesIn
  unfold FX12_comesIn_b48 at e
  obtain rfl := Option.some.inj e
  exact Rn.ret hT rfl rfl rfl (hq h hR)
def FX12_comesIn (N : Nat) (s : iv_M) (q0 : Nat) (x1 : Int) (x2 : Int) (x3 : Int) : Option (iv_M) := ((rd s (q0 + 47) 192 (w32 ((w32 (16 * x1)) + x2))).bind fun v_3873 => (if v_3873 = (-1) then ((wr s (q0 + 47) 192 (w32 ((w32 (16 * x1)) + x2)) x3).bind fun s_3875 => ((wr s_3875 (q0 + 48) 192 (s_3875 q0 66) (w32 ((w32 (16 * x1)) + x2))).bind fun s_3878 => ((pt s_3878 q0 66 (w32 ((s_3878 q0 66) + 1))).bind fun s_3881 => (FX12_comesIn_b48 N s_3881)))) else (FX12_comesIn_b48 N s)))
set_option maxRecDepth 10000 in
set_option maxHeartbeats 4000000 in
theorem RX12_comesIn {d N nc Ls : Nat} {Xs : Nat → Int32} (hd : 1 ≤ d) {h : iv_H} {s : iv_M} (hR : Rep nc Ls Xs h s) {q0 : Nat} (t0 : T12 nc q0) {m1 : Int32} {x1 : Int} (p1 : m1.toInt = x1) {m2 : Int32} {x2 : Int} (p2 : m2.toInt = x2) {m3 : Int32} {x3 : Int} (p3 : m3.toInt = x3) {r : iv_M} {Q : Option Value → iv_H → Prop} (e : FX12_comesIn N s q0 x1 x2 x3 = some r) (hq : ∀ h1, Rep nc Ls Xs h1 r → Q none h1) : Cl d 310 [.ref q0, .int m1, .int m2, .int m3] h Q := by
  obtain ⟨d, rfl⟩ : ∃ k, d = k + 1 := ⟨d - 1, by omega⟩
  have hd : 0 ≤ d := by omega
  have hT := hX12_comesIn
  unfold FX12_comesIn at e
  refine Cl.into (by decide) gX12_comesIn rfl ?_
  show Rn d 310 none 0 [some (.ref q0), some (.int m1), some (.int m2), some (.int m3), none] [] h Q
  refine Rn.n hT 7 (pc' := 9) (L' := [some (.ref q0), some (.int m1), some (.int m2), some (.int m3), some (.int (((16 : Int32) * m1) + m2))]) (st' := [.ref q0]) rfl ?_
  refine Rn.hp hT rfl rfl (gR_hp (rp_gR hR (T12_o t0) rfl)) ?_
  refine Rn.n hT 1 (pc' := 14) (L' := [some (.ref q0), some (.int m1), some (.int m2), some (.int m3), some (.int (((16 : Int32) * m1) + m2))]) (st' := [.int (((16 : Int32) * m1) + m2), .ref (q0 + 47)]) rfl ?_
  obtain ⟨v_3873, e_3873, e⟩ := Option.bind_eq_some_iff.mp e
  obtain ⟨z_3873, g_3873, p_3873⟩ := rp_aI hR (T12_64 t0) (T12_64l t0) (ti_add (ti_mul L32_16 p1) p2) e_3873
  refine Rn.hp hT rfl rfl (aI_hp g_3873) ?_
  refine Rn.n hT 1 (pc' := 16) (L' := [some (.ref q0), some (.int m1), some (.int m2), some (.int m3), some (.int (((16 : Int32) * m1) + m2))]) (st' := [.int (-1 : Int32), .int z_3873]) rfl ?_
  by_cases c_3874 : v_3873 = (-1)
  · rw [if_pos c_3874] at e
    refine Rn.bf hT rfl rfl rfl (decide_eq_false (fun z => z ((ti_e p_3873 L32_m1).mpr c_3874))) ?_
    refine Rn.n hT 1 (pc' := 20) (L' := [some (.ref q0), some (.int m1), some (.int m2), some (.int m3), some (.int (((16 : Int32) * m1) + m2))]) (st' := [.ref q0]) rfl ?_
    refine Rn.hp hT rfl rfl (gR_hp (rp_gR hR (T12_o t0) rfl)) ?_
    refine Rn.n hT 2 (pc' := 26) (L' := [some (.ref q0), some (.int m1), some (.int m2), some (.int m3), some (.int (((16 : Int32) * m1) + m2))]) (st' := [.int m3, .int (((16 : Int32) * m1) + m2), .ref (q0 + 47)]) rfl ?_
    obtain ⟨s_3875, e_3876, e⟩ := Option.bind_eq_some_iff.mp e
    obtain ⟨h_3875, g_3876, R_3875⟩ := rp_wI hR (T12_64 t0) (T12_64l t0) (ti_add (ti_mul L32_16 p1) p2) p3 e_3876
    refine Rn.hp hT rfl rfl (wI_hp g_3876) ?_
    refine Rn.n hT 1 (pc' := 28) (L' := [some (.ref q0), some (.int m1), some (.int m2), some (.int m3), some (.int (((16 : Int32) * m1) + m2))]) (st' := [.ref q0]) rfl ?_
    refine Rn.hp hT rfl rfl (gR_hp (rp_gR R_3875 (T12_o t0) rfl)) ?_
    refine Rn.n hT 1 (pc' := 32) (L' := [some (.ref q0), some (.int m1), some (.int m2), some (.int m3), some (.int (((16 : Int32) * m1) + m2))]) (st' := [.ref q0, .ref (q0 + 48)]) rfl ?_
    obtain ⟨z_3877, g_3877, p_3877⟩ : ∃ z : Int32, gI h_3875 12 66 q0 = some z ∧ z.toInt = s_3875 q0 66 := rp_gI (k := 66) R_3875 (T12_o t0) rfl
    refine Rn.hp hT rfl rfl (gI_hp g_3877) ?_
    refine Rn.n hT 1 (pc' := 37) (L' := [some (.ref q0), some (.int m1), some (.int m2), some (.int m3), some (.int (((16 : Int32) * m1) + m2))]) (st' := [.int (((16 : Int32) * m1) + m2), .int z_3877, .ref (q0 + 48)]) rfl ?_
    obtain ⟨s_3878, e_3879, e⟩ := Option.bind_eq_some_iff.mp e
    obtain ⟨h_3878, g_3879, R_3878⟩ := rp_wI R_3875 (T12_65 t0) (T12_65l t0) p_3877 (ti_add (ti_mul L32_16 p1) p2) e_3879
    refine Rn.hp hT rfl rfl (wI_hp g_3879) ?_
    refine Rn.n hT 2 (pc' := 40) (L' := [some (.ref q0), some (.int m1), some (.int m2), some (.int m3), some (.int (((16 : Int32) * m1) + m2))]) (st' := [.ref q0, .ref q0]) rfl ?_
    obtain ⟨z_3880, g_3880, p_3880⟩ : ∃ z : Int32, gI h_3878 12 66 q0 = some z ∧ z.toInt = s_3878 q0 66 := rp_gI (k := 66) R_3878 (T12_o t0) rfl
    refine Rn.hp hT rfl rfl (gI_hp g_3880) ?_
    refine Rn.n hT 2 (pc' := 45) (L' := [some (.ref q0), some (.int m1), some (.int m2), some (.int m3), some (.int (((16 : Int32) * m1) + m2))]) (st' := [.int (z_3880 + (1 : Int32)), .ref q0]) rfl ?_
    obtain ⟨s_3881, e_3882, e⟩ := Option.bind_eq_some_iff.mp e
    obtain ⟨h_3881, g_3882, R_3881⟩ := rp_pI (ci := 12) (k := 66) R_3878 (T12_o t0) rfl rfl (ti_add p_3880 L32_1) e_3882
    refine Rn.hp hT rfl rfl (pV_hp rfl g_3882) ?_
    exact Rn.weak (ll_n (ll_n (ll_n (ll_n (ll_n ll_e))))) (RX12_comesIn_b48 hd R_3881 hq e)
  · rw [if_neg c_3874] at e
    refine Rn.bt hT rfl rfl rfl (decide_eq_true (fun z => c_3874 ((ti_e p_3873 L32_m1).mp z))) ?_
    exact Rn.weak (ll_n (ll_n (ll_n (ll_n (ll_n ll_e))))) (RX12_comesIn_b48 hd hR hq e)
