-- FLAT MIRRORS, 10 (written by wip/whole/mir2.py)
set_option maxRecDepth 10000 in
theorem hX12_isAsDrafted : iv_Tb 295 tX12_isAsDrafted := iv_tb_of (m := mX12_isAsDrafted) rfl
set_option maxRecDepth 10000 in
theorem gX12_isAsDrafted : PG.2 295 = some mX12_isAsDrafted := iv_pi_of (t := tX12_isAsDrafted) rfl (by decide)
def FX12_isAsDrafted_b69 (N : Nat) (s : iv_M) (q0 : Nat) (x1 : Int) (x3 : Int) (xs0 : Int) (kb : Int → Int → Option (Int)) (kx : Int → Option (Int)) : Option (Int) := (kb xs0 (w32 (x3 + 1)))
set_option maxRecDepth 10000 in
set_option maxHeartbeats 4000000 in
theorem RX12_isAsDrafted_b69 {d N nc Ls : Nat} {Xs : Nat → Int32} (hd : 0 ≤ d) {h : iv_H} {s : iv_M} (hR : Rep nc Ls Xs h s) {q0 : Nat} (t0 : T12 nc q0) {m1 : Int32} {x1 : Int} (p1 : m1.toInt = x1) {m3 : Int32} {x3 : Int} (p3 : m3.toInt = x3) {ms0 : Int32} {xs0 : Int} (ps0 : ms0.toInt = xs0) {kb : Int → Int → Option (Int)} {kx : Int → Option (Int)} {r : Int} {Q : Option Value → iv_H → Prop} (hb : ∀ (mw2 : Int32) (xw2 : Int) (pw2 : mw2.toInt = xw2) (mw3 : Int32) (xw3 : Int) (pw3 : mw3.toInt = xw3), kb xw2 xw3 = some r → Rn d 295 (some .boolean) 4 [some (.ref q0), some (.int m1), some (.int mw2), some (.int mw3)] [] h Q) (hk : ∀ (mw2 : Int32) (xw2 : Int) (pw2 : mw2.toInt = xw2), kx xw2 = some r → Rn d 295 (some .boolean) 76 [none, none, some (.int mw2), none] [] h Q) (hq : ∀ (z : Int32), z.toInt = r → Q (some (.int z)) h) (e : FX12_isAsDrafted_b69 N s q0 x1 x3 xs0 kb kx = some r) : Rn d 295 (some .boolean) 69 [some (.ref q0), some (.int m1), none, some (.int m3)] [.int ms0] h Q := by
  have hT := hX12_isAsDrafted
  unfold FX12_isAsDrafted_b69 at e
  refine Rn.n hT 3 (pc' := 4) (L' := [some (.ref q0), some (.int m1), some (.int ms0), some (.int (m3 + (1 : Int32)))]) (st' := []) rfl ?_
  exact Rn.weak (ll_s (ll_s (ll_s (ll_s ll_e)))) (hb ms0 xs0 ps0 (m3 + (1 : Int32)) (w32 (x3 + 1)) (ti_add p3 L32_1) e)
def FX12_isAsDrafted_b68 (N : Nat) (s : iv_M) (q0 : Nat) (x1 : Int) (x3 : Int)  (kb : Int → Int → Option (Int)) (kx : Int → Option (Int)) : Option (Int) := (FX12_isAsDrafted_b69 N s q0 x1 x3 0 kb kx)
set_option maxRecDepth 10000 in
set_option maxHeartbeats 4000000 in
theorem RX12_isAsDrafted_b68 {d N nc Ls : Nat} {Xs : Nat → Int32} (hd : 0 ≤ d) {h : iv_H} {s : iv_M} (hR : Rep nc Ls Xs h s) {q0 : Nat} (t0 : T12 nc q0) {m1 : Int32} {x1 : Int} (p1 : m1.toInt = x1) {m3 : Int32} {x3 : Int} (p3 : m3.toInt = x3)  {kb : Int → Int → Option (Int)} {kx : Int → Option (Int)} {r : Int} {Q : Option Value → iv_H → Prop} (hb : ∀ (mw2 : Int32) (xw2 : Int) (pw2 : mw2.toInt = xw2) (mw3 : Int32) (xw3 : Int) (pw3 : mw3.toInt = xw3), kb xw2 xw3 = some r → Rn d 295 (some .boolean) 4 [some (.ref q0), some (.int m1), some (.int mw2), some (.int mw3)] [] h Q) (hk : ∀ (mw2 : Int32) (xw2 : Int) (pw2 : mw2.toInt = xw2), kx xw2 = some r → Rn d 295 (some .boolean) 76 [none, none, some (.int mw2), none] [] h Q) (hq : ∀ (z : Int32), z.toInt = r → Q (some (.int z)) h) (e : FX12_isAsDrafted_b68 N s q0 x1 x3  kb kx = some r) : Rn d 295 (some .boolean) 68 [some (.ref q0), some (.int m1), none, some (.int m3)] [] h Q := by
  have hT := hX12_isAsDrafted
  unfold FX12_isAsDrafted_b68 at e
  refine Rn.n hT 1 (pc' := 69) (L' := [some (.ref q0), some (.int m1), none, some (.int m3)]) (st' := [.int (0 : Int32)]) rfl ?_
  exact Rn.weak (ll_s (ll_s (ll_n (ll_s ll_e)))) (RX12_isAsDrafted_b69 hd hR t0 p1 p3 L32_0 hb hk hq e)
def FX12_isAsDrafted_l4 (N : Nat) (s : iv_M) (q0 : Nat) (x1 : Int) (kx : Int → Option (Int)) : Nat → Int → Int → Option (Int)
  | 0, _, _ => none
  | n + 1, x2, x3 => ((rd s (q0 + 1) 14 2).bind fun v_3576 => (if v_3576 ≤ x3 then (kx x2) else (if x2 = 0 then (kx x2) else ((rd s (q0 + 3) 12 x3).bind fun v_3579 => ((rd s (q0 + 10) 96 (w32 ((w32 (24 * x1)) + (w32 (2 * x3))))).bind fun v_3580 => (if v_3579 = v_3580 then ((rd s (q0 + 4) 12 x3).bind fun v_3582 => ((rd s (q0 + 10) 96 (w32 ((w32 ((w32 (24 * x1)) + (w32 (2 * x3)))) + 1))).bind fun v_3583 => (if v_3582 = v_3583 then (FX12_isAsDrafted_b69 N s q0 x1 x3 1 (FX12_isAsDrafted_l4 N s q0 x1 kx n) kx) else (FX12_isAsDrafted_b68 N s q0 x1 x3 (FX12_isAsDrafted_l4 N s q0 x1 kx n) kx)))) else (FX12_isAsDrafted_b68 N s q0 x1 x3 (FX12_isAsDrafted_l4 N s q0 x1 kx n) kx)))))))
set_option maxRecDepth 10000 in
set_option maxHeartbeats 4000000 in
theorem RX12_isAsDrafted_l4 {d N nc Ls : Nat} {Xs : Nat → Int32} (hd : 0 ≤ d) {h : iv_H} {s : iv_M} (hR : Rep nc Ls Xs h s) {q0 : Nat} (t0 : T12 nc q0) {m1 : Int32} {x1 : Int} (p1 : m1.toInt = x1) {kx : Int → Option (Int)} {r : Int} {Q : Option Value → iv_H → Prop} (hk : ∀ (m2 : Int32) (x2 : Int) (p2 : m2.toInt = x2), kx x2 = some r → Rn d 295 (some .boolean) 76 [none, none, some (.int m2), none] [] h Q) (hq : ∀ (z : Int32), z.toInt = r → Q (some (.int z)) h) : ∀ (n : Nat) (m2 : Int32) (x2 : Int) (p2 : m2.toInt = x2) (m3 : Int32) (x3 : Int) (p3 : m3.toInt = x3), FX12_isAsDrafted_l4 N s q0 x1 kx n x2 x3 = some r → Rn d 295 (some .boolean) 4 [some (.ref q0), some (.int m1), some (.int m2), some (.int m3)] [] h Q := by
  have hT := hX12_isAsDrafted
  intro n
  induction n with
  | zero =>
    intro m2 x2 p2 m3 x3 p3 e
    rw [FX12_isAsDrafted_l4] at e
    cases e
  | succ n ih =>
    intro m2 x2 p2 m3 x3 p3 e
    rw [FX12_isAsDrafted_l4] at e
    refine Rn.n hT 2 (pc' := 6) (L' := [some (.ref q0), some (.int m1), some (.int m2), some (.int m3)]) (st' := [.ref q0, .int m3]) rfl ?_
    refine Rn.hp hT rfl rfl (gR_hp (rp_gR hR (T12_o t0) rfl)) ?_
    refine Rn.n hT 1 (pc' := 10) (L' := [some (.ref q0), some (.int m1), some (.int m2), some (.int m3)]) (st' := [.int (2 : Int32), .ref (q0 + 1), .int m3]) rfl ?_
    obtain ⟨v_3576, e_3576, e⟩ := Option.bind_eq_some_iff.mp e
    obtain ⟨z_3576, g_3576, p_3576⟩ := rp_aI hR (T12_1 t0) (T12_1l t0) L32_2 e_3576
    refine Rn.hp hT rfl rfl (aI_hp g_3576) ?_
    by_cases c_3577 : v_3576 ≤ x3
    · rw [if_pos c_3577] at e
      refine Rn.bt hT rfl rfl rfl (decide_eq_true ((ti_le p_3576 p3).mpr c_3577)) ?_
      exact Rn.weak (ll_n (ll_n (ll_s (ll_n ll_e)))) (hk m2 x2 p2 e)
    · rw [if_neg c_3577] at e
      refine Rn.bf hT rfl rfl rfl (decide_eq_false (fun z => c_3577 ((ti_le p_3576 p3).mp z))) ?_
      refine Rn.n hT 1 (pc' := 15) (L' := [some (.ref q0), some (.int m1), some (.int m2), some (.int m3)]) (st' := [.int m2]) rfl ?_
      by_cases c_3578 : x2 = 0
      · rw [if_pos c_3578] at e
        refine Rn.bt hT rfl rfl rfl (decide_eq_true ((ti_e p2 L32_0).mpr c_3578)) ?_
        exact Rn.weak (ll_n (ll_n (ll_s (ll_n ll_e)))) (hk m2 x2 p2 e)
      · rw [if_neg c_3578] at e
        refine Rn.bf hT rfl rfl rfl (decide_eq_false (fun z => c_3578 ((ti_e p2 L32_0).mp z))) ?_
        refine Rn.n hT 1 (pc' := 19) (L' := [some (.ref q0), some (.int m1), some (.int m2), some (.int m3)]) (st' := [.ref q0]) rfl ?_
        refine Rn.hp hT rfl rfl (gR_hp (rp_gR hR (T12_o t0) rfl)) ?_
        refine Rn.n hT 1 (pc' := 23) (L' := [some (.ref q0), some (.int m1), some (.int m2), some (.int m3)]) (st' := [.int m3, .ref (q0 + 3)]) rfl ?_
        obtain ⟨v_3579, e_3579, e⟩ := Option.bind_eq_some_iff.mp e
        obtain ⟨z_3579, g_3579, p_3579⟩ := rp_aI hR (T12_3 t0) (T12_3l t0) p3 e_3579
        refine Rn.hp hT rfl rfl (aI_hp g_3579) ?_
        refine Rn.n hT 1 (pc' := 25) (L' := [some (.ref q0), some (.int m1), some (.int m2), some (.int m3)]) (st' := [.ref q0, .int z_3579]) rfl ?_
        refine Rn.hp hT rfl rfl (gR_hp (rp_gR hR (T12_o t0) rfl)) ?_
        refine Rn.n hT 7 (pc' := 36) (L' := [some (.ref q0), some (.int m1), some (.int m2), some (.int m3)]) (st' := [.int (((24 : Int32) * m1) + ((2 : Int32) * m3)), .ref (q0 + 10), .int z_3579]) rfl ?_
        obtain ⟨v_3580, e_3580, e⟩ := Option.bind_eq_some_iff.mp e
        obtain ⟨z_3580, g_3580, p_3580⟩ := rp_aI hR (T12_10 t0) (T12_10l t0) (ti_add (ti_mul L32_24 p1) (ti_mul L32_2 p3)) e_3580
        refine Rn.hp hT rfl rfl (aI_hp g_3580) ?_
        by_cases c_3581 : v_3579 = v_3580
        · rw [if_pos c_3581] at e
          refine Rn.bf hT rfl rfl rfl (decide_eq_false (fun z => z ((ti_e p_3579 p_3580).mpr c_3581))) ?_
          refine Rn.n hT 1 (pc' := 41) (L' := [some (.ref q0), some (.int m1), some (.int m2), some (.int m3)]) (st' := [.ref q0]) rfl ?_
          refine Rn.hp hT rfl rfl (gR_hp (rp_gR hR (T12_o t0) rfl)) ?_
          refine Rn.n hT 1 (pc' := 45) (L' := [some (.ref q0), some (.int m1), some (.int m2), some (.int m3)]) (st' := [.int m3, .ref (q0 + 4)]) rfl ?_
          obtain ⟨v_3582, e_3582, e⟩ := Option.bind_eq_some_iff.mp e
          obtain ⟨z_3582, g_3582, p_3582⟩ := rp_aI hR (T12_4 t0) (T12_4l t0) p3 e_3582
          refine Rn.hp hT rfl rfl (aI_hp g_3582) ?_
          refine Rn.n hT 1 (pc' := 47) (L' := [some (.ref q0), some (.int m1), some (.int m2), some (.int m3)]) (st' := [.ref q0, .int z_3582]) rfl ?_
          refine Rn.hp hT rfl rfl (gR_hp (rp_gR hR (T12_o t0) rfl)) ?_
          refine Rn.n hT 9 (pc' := 60) (L' := [some (.ref q0), some (.int m1), some (.int m2), some (.int m3)]) (st' := [.int ((((24 : Int32) * m1) + ((2 : Int32) * m3)) + (1 : Int32)), .ref (q0 + 10), .int z_3582]) rfl ?_
          obtain ⟨v_3583, e_3583, e⟩ := Option.bind_eq_some_iff.mp e
          obtain ⟨z_3583, g_3583, p_3583⟩ := rp_aI hR (T12_10 t0) (T12_10l t0) (ti_add (ti_add (ti_mul L32_24 p1) (ti_mul L32_2 p3)) L32_1) e_3583
          refine Rn.hp hT rfl rfl (aI_hp g_3583) ?_
          by_cases c_3584 : v_3582 = v_3583
          · rw [if_pos c_3584] at e
            refine Rn.bf hT rfl rfl rfl (decide_eq_false (fun z => z ((ti_e p_3582 p_3583).mpr c_3584))) ?_
            refine Rn.n hT 2 (pc' := 69) (L' := [some (.ref q0), some (.int m1), some (.int m2), some (.int m3)]) (st' := [.int (1 : Int32)]) rfl ?_
            exact Rn.weak (ll_s (ll_s (ll_n (ll_s ll_e)))) (RX12_isAsDrafted_b69 hd hR t0 p1 p3 L32_1 ih hk hq e)
          · rw [if_neg c_3584] at e
            refine Rn.bt hT rfl rfl rfl (decide_eq_true (fun z => c_3584 ((ti_e p_3582 p_3583).mp z))) ?_
            exact Rn.weak (ll_s (ll_s (ll_n (ll_s ll_e)))) (RX12_isAsDrafted_b68 hd hR t0 p1 p3 ih hk hq e)
        · rw [if_neg c_3581] at e
          refine Rn.bt hT rfl rfl rfl (decide_eq_true (fun z => c_3581 ((ti_e p_3579 p_3580).mp z))) ?_
          exact Rn.weak (ll_s (ll_s (ll_n (ll_s ll_e)))) (RX12_isAsDrafted_b68 hd hR t0 p1 p3 ih hk hq e)
def FX12_isAsDrafted_b76 (N : Nat) (s : iv_M) (x2 : Int)  : Option (Int) := (if x2 = 0 ∨ x2 = 1 then some x2 else none)
set_option maxRecDepth 10000 in
set_option maxHeartbeats 4000000 in
theorem RX12_isAsDrafted_b76 {d N nc Ls : Nat} {Xs : Nat → Int32} (hd : 0 ≤ d) {h : iv_H} {s : iv_M} (hR : Rep nc Ls Xs h s) {m2 : Int32} {x2 : Int} (p2 : m2.toInt = x2)  {r : Int} {Q : Option Value → iv_H → Prop} (hq : ∀ (z : Int32), z.toInt = r → Q (some (.int z)) h) (e : FX12_isAsDrafted_b76 N s x2  = some r) : Rn d 295 (some .boolean) 76 [none, none, some (.int m2), none] [] h Q := by
  have hT := hX12_isAsDrafted
  unfold FX12_isAsDrafted_b76 at e
  refine Rn.n hT 1 (pc' := 77) (L' := [none, none, some (.int m2), none]) (st' := [.int m2]) rfl ?_
  by_cases c_3585 : x2 = 0 ∨ x2 = 1
  · rw [if_pos c_3585] at e
    obtain rfl := Option.some.inj e
    exact Rn.ret hT rfl rfl (if_pos (ti_b p2 c_3585)) (hq m2 p2)
  · rw [if_neg c_3585] at e
    cases e
def FX12_isAsDrafted (N : Nat) (s : iv_M) (q0 : Nat) (x1 : Int) : Option (Int) := (FX12_isAsDrafted_l4 N s q0 x1 (fun (x3575_2 : Int) => (FX12_isAsDrafted_b76 N s x3575_2)) N 1 0)
set_option maxRecDepth 10000 in
set_option maxHeartbeats 4000000 in
theorem RX12_isAsDrafted {d N nc Ls : Nat} {Xs : Nat → Int32} (hd : 1 ≤ d) {h : iv_H} {s : iv_M} (hR : Rep nc Ls Xs h s) {q0 : Nat} (t0 : T12 nc q0) {m1 : Int32} {x1 : Int} (p1 : m1.toInt = x1) {r : Int} {Q : Option Value → iv_H → Prop} (e : FX12_isAsDrafted N s q0 x1 = some r) (hq : ∀ (z : Int32), z.toInt = r → Q (some (.int z)) h) : Cl d 295 [.ref q0, .int m1] h Q := by
  obtain ⟨d, rfl⟩ : ∃ k, d = k + 1 := ⟨d - 1, by omega⟩
  have hd : 0 ≤ d := by omega
  have hT := hX12_isAsDrafted
  unfold FX12_isAsDrafted at e
  refine Cl.into (by decide) gX12_isAsDrafted rfl ?_
  show Rn d 295 (some .boolean) 0 [some (.ref q0), some (.int m1), none, none] [] h Q
  refine Rn.n hT 4 (pc' := 4) (L' := [some (.ref q0), some (.int m1), some (.int (1 : Int32)), some (.int (0 : Int32))]) (st' := []) rfl ?_
  refine Rn.weak (ll_s (ll_s (ll_s (ll_s ll_e)))) (RX12_isAsDrafted_l4 hd hR t0 p1 (fun m3575_2 x3575_2 p3575_2 e => ?_) hq N (1 : Int32) 1 L32_1 (0 : Int32) 0 L32_0 e)
  try dsimp only at e
  exact Rn.weak (ll_n (ll_n (ll_s (ll_n ll_e)))) (RX12_isAsDrafted_b76 hd hR p3575_2 hq e)
set_option maxRecDepth 10000 in
theorem hX12_comes : iv_Tb 296 tX12_comes := iv_tb_of (m := mX12_comes) rfl
set_option maxRecDepth 10000 in
theorem gX12_comes : PG.2 296 = some mX12_comes := iv_pi_of (t := tX12_comes) rfl (by decide)
def FX12_comes_b143 (N : Nat) (s : iv_M) (q0 : Nat) (xs0 : Int) (qs1 : Nat) : Option (Int × iv_M) := ((pt s qs1 58 xs0).bind fun s_3617 => ((pt s_3617 q0 57 (w32 ((s_3617 q0 57) + 1))).bind fun s_3620 => (some (0, s_3620))))
set_option maxRecDepth 10000 in
set_option maxHeartbeats 4000000 in
theorem RX12_comes_b143 {d N nc Ls : Nat} {Xs : Nat → Int32} (hd : 1 ≤ d) {h : iv_H} {s : iv_M} (hR : Rep nc Ls Xs h s) {q0 : Nat} (t0 : T12 nc q0) {ms0 : Int32} {xs0 : Int} (ps0 : ms0.toInt = xs0) {qs1 : Nat} (ts1 : T12 nc qs1) {r : Int × iv_M} {Q : Option Value → iv_H → Prop} (hq : ∀ (z : Int32) (h1 : iv_H), z.toInt = r.1 → Rep nc Ls Xs h1 r.2 → Q (some (.int z)) h1) (e : FX12_comes_b143 N s q0 xs0 qs1 = some r) : Rn d 296 (some .boolean) 143 [some (.ref q0), none, none, none, none, none, none, none, none] [.int ms0, .ref qs1] h Q := by
  have hT := hX12_comes
  unfold FX12_comes_b143 at e
  obtain ⟨s_3617, e_3618, e⟩ := Option.bind_eq_some_iff.mp e
  obtain ⟨h_3617, g_3618, R_3617⟩ := rp_pI (ci := 12) (k := 58) hR (T12_o ts1) rfl rfl ps0 e_3618
  refine Rn.hp hT rfl rfl (pV_hp rfl g_3618) ?_
  refine Rn.n hT 2 (pc' := 148) (L' := [some (.ref q0), none, none, none, none, none, none, none, none]) (st' := [.ref q0, .ref q0]) rfl ?_
  obtain ⟨z_3619, g_3619, p_3619⟩ : ∃ z : Int32, gI h_3617 12 57 q0 = some z ∧ z.toInt = s_3617 q0 57 := rp_gI (k := 57) R_3617 (T12_o t0) rfl
  refine Rn.hp hT rfl rfl (gI_hp g_3619) ?_
  refine Rn.n hT 2 (pc' := 153) (L' := [some (.ref q0), none, none, none, none, none, none, none, none]) (st' := [.int (z_3619 + (1 : Int32)), .ref q0]) rfl ?_
  obtain ⟨s_3620, e_3621, e⟩ := Option.bind_eq_some_iff.mp e
  obtain ⟨h_3620, g_3621, R_3620⟩ := rp_pI (ci := 12) (k := 57) R_3617 (T12_o t0) rfl rfl (ti_add p_3619 L32_1) e_3621
  refine Rn.hp hT rfl rfl (pV_hp rfl g_3621) ?_
  refine Rn.n hT 1 (pc' := 157) (L' := [some (.ref q0), none, none, none, none, none, none, none, none]) (st' := [.int (0 : Int32)]) rfl ?_
  obtain rfl := Option.some.inj e
  exact Rn.ret hT rfl rfl rfl (hq (0 : Int32) h_3620 L32_0 R_3620)
def FX12_comes_b62 (N : Nat) (s : iv_M) (q0 : Nat) (x1 : Int) (x2 : Int) (y4 : Int) (x6 : Int) (x7 : Int) (x8 : Int)  : Option (Int × iv_M) := ((wr s (q0 + 40) 4096 x7 (s q0 56)).bind fun s_3597 => ((wr s_3597 (q0 + 39) 4096 x7 (s_3597 q0 57)).bind fun s_3600 => ((wr s_3600 (q0 + 35) 1501 (s_3600 q0 57) y4).bind fun s_3603 => ((wr s_3603 (q0 + 36) 1501 (s_3603 q0 57) x6).bind fun s_3606 => ((wr s_3606 (q0 + 37) 1501 (s_3606 q0 57) x1).bind fun s_3609 => ((wr s_3609 (q0 + 38) 1501 (s_3609 q0 57) x2).bind fun s_3612 => (if x8 = 0 then (FX12_comes_b143 N s_3612 q0 (s_3612 q0 58) q0) else (FX12_comes_b143 N s_3612 q0 (s_3612 q0 57) q0))))))))
set_option maxRecDepth 10000 in
set_option maxHeartbeats 4000000 in
theorem RX12_comes_b62 {d N nc Ls : Nat} {Xs : Nat → Int32} (hd : 1 ≤ d) {h : iv_H} {s : iv_M} (hR : Rep nc Ls Xs h s) {q0 : Nat} (t0 : T12 nc q0) {m1 : Int32} {x1 : Int} (p1 : m1.toInt = x1) {m2 : Int32} {x2 : Int} (p2 : m2.toInt = x2) {j4 : Int64} {y4 : Int} (p4 : j4.toInt = y4) {m6 : Int32} {x6 : Int} (p6 : m6.toInt = x6) {m7 : Int32} {x7 : Int} (p7 : m7.toInt = x7) {m8 : Int32} {x8 : Int} (p8 : m8.toInt = x8)  {r : Int × iv_M} {Q : Option Value → iv_H → Prop} (hq : ∀ (z : Int32) (h1 : iv_H), z.toInt = r.1 → Rep nc Ls Xs h1 r.2 → Q (some (.int z)) h1) (e : FX12_comes_b62 N s q0 x1 x2 y4 x6 x7 x8  = some r) : Rn d 296 (some .boolean) 62 [some (.ref q0), some (.int m1), some (.int m2), none, some (.long j4), none, some (.int m6), some (.int m7), some (.int m8)] [] h Q := by
  have hT := hX12_comes
  unfold FX12_comes_b62 at e
  refine Rn.n hT 1 (pc' := 63) (L' := [some (.ref q0), some (.int m1), some (.int m2), none, some (.long j4), none, some (.int m6), some (.int m7), some (.int m8)]) (st' := [.ref q0]) rfl ?_
  refine Rn.hp hT rfl rfl (gR_hp (rp_gR hR (T12_o t0) rfl)) ?_
  refine Rn.n hT 2 (pc' := 69) (L' := [some (.ref q0), some (.int m1), some (.int m2), none, some (.long j4), none, some (.int m6), some (.int m7), some (.int m8)]) (st' := [.ref q0, .int m7, .ref (q0 + 40)]) rfl ?_
  obtain ⟨z_3596, g_3596, p_3596⟩ : ∃ z : Int32, gI h 12 56 q0 = some z ∧ z.toInt = s q0 56 := rp_gI (k := 56) hR (T12_o t0) rfl
  refine Rn.hp hT rfl rfl (gI_hp g_3596) ?_
  obtain ⟨s_3597, e_3598, e⟩ := Option.bind_eq_some_iff.mp e
  obtain ⟨h_3597, g_3598, R_3597⟩ := rp_wI hR (T12_54 t0) (T12_54l t0) p7 p_3596 e_3598
  refine Rn.hp hT rfl rfl (wI_hp g_3598) ?_
  refine Rn.n hT 1 (pc' := 74) (L' := [some (.ref q0), some (.int m1), some (.int m2), none, some (.long j4), none, some (.int m6), some (.int m7), some (.int m8)]) (st' := [.ref q0]) rfl ?_
  refine Rn.hp hT rfl rfl (gR_hp (rp_gR R_3597 (T12_o t0) rfl)) ?_
  refine Rn.n hT 2 (pc' := 80) (L' := [some (.ref q0), some (.int m1), some (.int m2), none, some (.long j4), none, some (.int m6), some (.int m7), some (.int m8)]) (st' := [.ref q0, .int m7, .ref (q0 + 39)]) rfl ?_
  obtain ⟨z_3599, g_3599, p_3599⟩ : ∃ z : Int32, gI h_3597 12 57 q0 = some z ∧ z.toInt = s_3597 q0 57 := rp_gI (k := 57) R_3597 (T12_o t0) rfl
  refine Rn.hp hT rfl rfl (gI_hp g_3599) ?_
  obtain ⟨s_3600, e_3601, e⟩ := Option.bind_eq_some_iff.mp e
  obtain ⟨h_3600, g_3601, R_3600⟩ := rp_wI R_3597 (T12_53 t0) (T12_53l t0) p7 p_3599 e_3601
  refine Rn.hp hT rfl rfl (wI_hp g_3601) ?_
  refine Rn.n hT 1 (pc' := 85) (L' := [some (.ref q0), some (.int m1), some (.int m2), none, some (.long j4), none, some (.int m6), some (.int m7), some (.int m8)]) (st' := [.ref q0]) rfl ?_
  refine Rn.hp hT rfl rfl (gR_hp (rp_gR R_3600 (T12_o t0) rfl)) ?_
  refine Rn.n hT 1 (pc' := 89) (L' := [some (.ref q0), some (.int m1), some (.int m2), none, some (.long j4), none, some (.int m6), some (.int m7), some (.int m8)]) (st' := [.ref q0, .ref (q0 + 35)]) rfl ?_
  obtain ⟨z_3602, g_3602, p_3602⟩ : ∃ z : Int32, gI h_3600 12 57 q0 = some z ∧ z.toInt = s_3600 q0 57 := rp_gI (k := 57) R_3600 (T12_o t0) rfl
  refine Rn.hp hT rfl rfl (gI_hp g_3602) ?_
  refine Rn.n hT 1 (pc' := 94) (L' := [some (.ref q0), some (.int m1), some (.int m2), none, some (.long j4), none, some (.int m6), some (.int m7), some (.int m8)]) (st' := [.long j4, .int z_3602, .ref (q0 + 35)]) rfl ?_
  obtain ⟨s_3603, e_3604, e⟩ := Option.bind_eq_some_iff.mp e
  obtain ⟨h_3603, g_3604, R_3603⟩ := rp_wJ R_3600 (T12_49 t0) (T12_49l t0) p_3602 p4 e_3604
  refine Rn.hp hT rfl rfl (wJ_hp g_3604) ?_
  refine Rn.n hT 1 (pc' := 96) (L' := [some (.ref q0), some (.int m1), some (.int m2), none, some (.long j4), none, some (.int m6), some (.int m7), some (.int m8)]) (st' := [.ref q0]) rfl ?_
  refine Rn.hp hT rfl rfl (gR_hp (rp_gR R_3603 (T12_o t0) rfl)) ?_
  refine Rn.n hT 1 (pc' := 100) (L' := [some (.ref q0), some (.int m1), some (.int m2), none, some (.long j4), none, some (.int m6), some (.int m7), some (.int m8)]) (st' := [.ref q0, .ref (q0 + 36)]) rfl ?_
  obtain ⟨z_3605, g_3605, p_3605⟩ : ∃ z : Int32, gI h_3603 12 57 q0 = some z ∧ z.toInt = s_3603 q0 57 := rp_gI (k := 57) R_3603 (T12_o t0) rfl
  refine Rn.hp hT rfl rfl (gI_hp g_3605) ?_
  refine Rn.n hT 1 (pc' := 105) (L' := [some (.ref q0), some (.int m1), some (.int m2), none, some (.long j4), none, some (.int m6), some (.int m7), some (.int m8)]) (st' := [.int m6, .int z_3605, .ref (q0 + 36)]) rfl ?_
  obtain ⟨s_3606, e_3607, e⟩ := Option.bind_eq_some_iff.mp e
  obtain ⟨h_3606, g_3607, R_3606⟩ := rp_wI R_3603 (T12_50 t0) (T12_50l t0) p_3605 p6 e_3607
  refine Rn.hp hT rfl rfl (wI_hp g_3607) ?_
  refine Rn.n hT 1 (pc' := 107) (L' := [some (.ref q0), some (.int m1), some (.int m2), none, some (.long j4), none, some (.int m6), some (.int m7), some (.int m8)]) (st' := [.ref q0]) rfl ?_
  refine Rn.hp hT rfl rfl (gR_hp (rp_gR R_3606 (T12_o t0) rfl)) ?_
  refine Rn.n hT 1 (pc' := 111) (L' := [some (.ref q0), some (.int m1), some (.int m2), none, some (.long j4), none, some (.int m6), some (.int m7), some (.int m8)]) (st' := [.ref q0, .ref (q0 + 37)]) rfl ?_
  obtain ⟨z_3608, g_3608, p_3608⟩ : ∃ z : Int32, gI h_3606 12 57 q0 = some z ∧ z.toInt = s_3606 q0 57 := rp_gI (k := 57) R_3606 (T12_o t0) rfl
  refine Rn.hp hT rfl rfl (gI_hp g_3608) ?_
  refine Rn.n hT 1 (pc' := 115) (L' := [some (.ref q0), some (.int m1), some (.int m2), none, some (.long j4), none, some (.int m6), some (.int m7), some (.int m8)]) (st' := [.int m1, .int z_3608, .ref (q0 + 37)]) rfl ?_
  obtain ⟨s_3609, e_3610, e⟩ := Option.bind_eq_some_iff.mp e
  obtain ⟨h_3609, g_3610, R_3609⟩ := rp_wI R_3606 (T12_51 t0) (T12_51l t0) p_3608 p1 e_3610
  refine Rn.hp hT rfl rfl (wI_hp g_3610) ?_
  refine Rn.n hT 1 (pc' := 117) (L' := [some (.ref q0), some (.int m1), some (.int m2), none, some (.long j4), none, some (.int m6), some (.int m7), some (.int m8)]) (st' := [.ref q0]) rfl ?_
  refine Rn.hp hT rfl rfl (gR_hp (rp_gR R_3609 (T12_o t0) rfl)) ?_
  refine Rn.n hT 1 (pc' := 121) (L' := [some (.ref q0), some (.int m1), some (.int m2), none, some (.long j4), none, some (.int m6), some (.int m7), some (.int m8)]) (st' := [.ref q0, .ref (q0 + 38)]) rfl ?_
  obtain ⟨z_3611, g_3611, p_3611⟩ : ∃ z : Int32, gI h_3609 12 57 q0 = some z ∧ z.toInt = s_3609 q0 57 := rp_gI (k := 57) R_3609 (T12_o t0) rfl
  refine Rn.hp hT rfl rfl (gI_hp g_3611) ?_
  refine Rn.n hT 1 (pc' := 125) (L' := [some (.ref q0), some (.int m1), some (.int m2), none, some (.long j4), none, some (.int m6), some (.int m7), some (.int m8)]) (st' := [.int m2, .int z_3611, .ref (q0 + 38)]) rfl ?_
  obtain ⟨s_3612, e_3613, e⟩ := Option.bind_eq_some_iff.mp e
  obtain ⟨h_3612, g_3613, R_3612⟩ := rp_wI R_3609 (T12_52 t0) (T12_52l t0) p_3611 p2 e_3613
  refine Rn.hp hT rfl rfl (wI_hp g_3613) ?_
  refine Rn.n hT 2 (pc' := 129) (L' := [some (.ref q0), some (.int m1), some (.int m2), none, some (.long j4), none, some (.int m6), some (.int m7), some (.int m8)]) (st' := [.int m8, .ref q0]) rfl ?_
  by_cases c_3614 : x8 = 0
  · rw [if_pos c_3614] at e
    refine Rn.bt hT rfl rfl rfl (decide_eq_true ((ti_e p8 L32_0).mpr c_3614)) ?_
    refine Rn.n hT 1 (pc' := 140) (L' := [some (.ref q0), some (.int m1), some (.int m2), none, some (.long j4), none, some (.int m6), some (.int m7), some (.int m8)]) (st' := [.ref q0, .ref q0]) rfl ?_
    obtain ⟨z_3615, g_3615, p_3615⟩ : ∃ z : Int32, gI h_3612 12 58 q0 = some z ∧ z.toInt = s_3612 q0 58 := rp_gI (k := 58) R_3612 (T12_o t0) rfl
    refine Rn.hp hT rfl rfl (gI_hp g_3615) ?_
    exact Rn.weak (ll_s (ll_n (ll_n (ll_n (ll_n (ll_n (ll_n (ll_n (ll_n ll_e))))))))) (RX12_comes_b143 hd R_3612 t0 p_3615 t0 hq e)
  · rw [if_neg c_3614] at e
    refine Rn.bf hT rfl rfl rfl (decide_eq_false (fun z => c_3614 ((ti_e p8 L32_0).mp z))) ?_
    refine Rn.n hT 1 (pc' := 133) (L' := [some (.ref q0), some (.int m1), some (.int m2), none, some (.long j4), none, some (.int m6), some (.int m7), some (.int m8)]) (st' := [.ref q0, .ref q0]) rfl ?_
    obtain ⟨z_3616, g_3616, p_3616⟩ : ∃ z : Int32, gI h_3612 12 57 q0 = some z ∧ z.toInt = s_3612 q0 57 := rp_gI (k := 57) R_3612 (T12_o t0) rfl
    refine Rn.hp hT rfl rfl (gI_hp g_3616) ?_
    refine Rn.n hT 1 (pc' := 143) (L' := [some (.ref q0), some (.int m1), some (.int m2), none, some (.long j4), none, some (.int m6), some (.int m7), some (.int m8)]) (st' := [.int z_3616, .ref q0]) rfl ?_
    exact Rn.weak (ll_s (ll_n (ll_n (ll_n (ll_n (ll_n (ll_n (ll_n (ll_n ll_e))))))))) (RX12_comes_b143 hd R_3612 t0 p_3616 t0 hq e)
def FX12_comes (N : Nat) (s : iv_M) (q0 : Nat) (x1 : Int) (x2 : Int) (x3 : Int) : Option (Int × iv_M) := ((FX12_whereNow N s q0).bind fun v_3586 => ((FX12_howNow N s q0).bind fun v_3587 => ((FX12_placeOf N s q0 v_3586 v_3587).bind fun v_3588 => ((rd s (q0 + 40) 4096 v_3588).bind fun v_3589 => (if v_3589 = (s q0 56) then (some (0, s)) else ((FX12_isAsDrafted N s q0 x3).bind fun v_3592 => (if (s q0 57) = 1500 then (if v_3592 = 0 then (some (1, s)) else (FX12_comes_b62 N s q0 x1 x2 v_3586 v_3587 v_3588 v_3592)) else (FX12_comes_b62 N s q0 x1 x2 v_3586 v_3587 v_3588 v_3592))))))))
set_option maxRecDepth 10000 in
set_option maxHeartbeats 4000000 in
theorem RX12_comes {d N nc Ls : Nat} {Xs : Nat → Int32} (hd : 2 ≤ d) {h : iv_H} {s : iv_M} (hR : Rep nc Ls Xs h s) {q0 : Nat} (t0 : T12 nc q0) {m1 : Int32} {x1 : Int} (p1 : m1.toInt = x1) {m2 : Int32} {x2 : Int} (p2 : m2.toInt = x2) {m3 : Int32} {x3 : Int} (p3 : m3.toInt = x3) {r : Int × iv_M} {Q : Option Value → iv_H → Prop} (e : FX12_comes N s q0 x1 x2 x3 = some r) (hq : ∀ (z : Int32) (h1 : iv_H), z.toInt = r.1 → Rep nc Ls Xs h1 r.2 → Q (some (.int z)) h1) : Cl d 296 [.ref q0, .int m1, .int m2, .int m3] h Q := by
  obtain ⟨d, rfl⟩ : ∃ k, d = k + 1 := ⟨d - 1, by omega⟩
  have hd : 1 ≤ d := by omega
  have hT := hX12_comes
  unfold FX12_comes at e
  refine Cl.into (by decide) gX12_comes rfl ?_
  show Rn d 296 (some .boolean) 0 [some (.ref q0), some (.int m1), some (.int m2), some (.int m3), none, none, none, none, none] [] h Q
  refine Rn.n hT 1 (pc' := 1) (L' := [some (.ref q0), some (.int m1), some (.int m2), some (.int m3), none, none, none, none, none]) (st' := [.ref q0]) rfl ?_
  obtain ⟨v_3586, e_3586, e⟩ := Option.bind_eq_some_iff.mp e
  refine Rn.call hT rfl rfl rfl (Nat.le_of_ble_eq_true rfl) (rcv_v gX12_whereNow (by omega) (rp_ck hR (T12_o t0))) (RX12_whereNow (by omega) hR t0 e_3586 (fun z_3586 p_3586 => ?_))
  show Rn d _ _ 4 [some (.ref q0), some (.int m1), some (.int m2), some (.int m3), none, none, none, none, none] [.long z_3586] h Q
  refine Rn.n hT 2 (pc' := 7) (L' := [some (.ref q0), some (.int m1), some (.int m2), some (.int m3), some (.long z_3586), none, none, none, none]) (st' := [.ref q0]) rfl ?_
  obtain ⟨v_3587, e_3587, e⟩ := Option.bind_eq_some_iff.mp e
  refine Rn.call hT rfl rfl rfl (Nat.le_of_ble_eq_true rfl) (rcv_v gX12_howNow (by omega) (rp_ck hR (T12_o t0))) (RX12_howNow (by omega) hR t0 e_3587 (fun z_3587 p_3587 => ?_))
  show Rn d _ _ 10 [some (.ref q0), some (.int m1), some (.int m2), some (.int m3), some (.long z_3586), none, none, none, none] [.int z_3587] h Q
  refine Rn.n hT 4 (pc' := 17) (L' := [some (.ref q0), some (.int m1), some (.int m2), some (.int m3), some (.long z_3586), none, some (.int z_3587), none, none]) (st' := [.int z_3587, .long z_3586, .ref q0]) rfl ?_
  obtain ⟨v_3588, e_3588, e⟩ := Option.bind_eq_some_iff.mp e
  refine Rn.call hT rfl rfl rfl (Nat.le_of_ble_eq_true rfl) (rcv_v gX12_placeOf (by omega) (rp_ck hR (T12_o t0))) (RX12_placeOf (by omega) hR t0 p_3586 p_3587 e_3588 (fun z_3588 p_3588 => ?_))
  show Rn d _ _ 20 [some (.ref q0), some (.int m1), some (.int m2), some (.int m3), some (.long z_3586), none, some (.int z_3587), none, none] [.int z_3588] h Q
  refine Rn.n hT 2 (pc' := 23) (L' := [some (.ref q0), some (.int m1), some (.int m2), some (.int m3), some (.long z_3586), none, some (.int z_3587), some (.int z_3588), none]) (st' := [.ref q0]) rfl ?_
  refine Rn.hp hT rfl rfl (gR_hp (rp_gR hR (T12_o t0) rfl)) ?_
  refine Rn.n hT 1 (pc' := 28) (L' := [some (.ref q0), some (.int m1), some (.int m2), some (.int m3), some (.long z_3586), none, some (.int z_3587), some (.int z_3588), none]) (st' := [.int z_3588, .ref (q0 + 40)]) rfl ?_
  obtain ⟨v_3589, e_3589, e⟩ := Option.bind_eq_some_iff.mp e
  obtain ⟨z_3589, g_3589, p_3589⟩ := rp_aI hR (T12_54 t0) (T12_54l t0) p_3588 e_3589
  refine Rn.hp hT rfl rfl (aI_hp g_3589) ?_
  refine Rn.n hT 1 (pc' := 30) (L' := [some (.ref q0), some (.int m1), some (.int m2), some (.int m3), some (.long z_3586), none, some (.int z_3587), some (.int z_3588), none]) (st' := [.ref q0, .int z_3589]) rfl ?_
  obtain ⟨z_3590, g_3590, p_3590⟩ : ∃ z : Int32, gI h 12 56 q0 = some z ∧ z.toInt = s q0 56 := rp_gI (k := 56) hR (T12_o t0) rfl
  refine Rn.hp hT rfl rfl (gI_hp g_3590) ?_
  by_cases c_3591 : v_3589 = (s q0 56)
  · rw [if_pos c_3591] at e
    refine Rn.bf hT rfl rfl rfl (decide_eq_false (fun z => z ((ti_e p_3589 p_3590).mpr c_3591))) ?_
    refine Rn.n hT 1 (pc' := 37) (L' := [some (.ref q0), some (.int m1), some (.int m2), some (.int m3), some (.long z_3586), none, some (.int z_3587), some (.int z_3588), none]) (st' := [.int (0 : Int32)]) rfl ?_
    obtain rfl := Option.some.inj e
    exact Rn.ret hT rfl rfl rfl (hq (0 : Int32) h L32_0 hR)
  · rw [if_neg c_3591] at e
    refine Rn.bt hT rfl rfl rfl (decide_eq_true (fun z => c_3591 ((ti_e p_3589 p_3590).mp z))) ?_
    refine Rn.n hT 2 (pc' := 40) (L' := [some (.ref q0), some (.int m1), some (.int m2), some (.int m3), some (.long z_3586), none, some (.int z_3587), some (.int z_3588), none]) (st' := [.int m3, .ref q0]) rfl ?_
    obtain ⟨v_3592, e_3592, e⟩ := Option.bind_eq_some_iff.mp e
    refine Rn.call hT rfl rfl rfl (Nat.le_of_ble_eq_true rfl) (rcv_v gX12_isAsDrafted (by omega) (rp_ck hR (T12_o t0))) (RX12_isAsDrafted (by omega) hR t0 p3 e_3592 (fun z_3592 p_3592 => ?_))
    show Rn d _ _ 43 [some (.ref q0), some (.int m1), some (.int m2), some (.int m3), some (.long z_3586), none, some (.int z_3587), some (.int z_3588), none] [.int z_3592] h Q
    refine Rn.n hT 2 (pc' := 46) (L' := [some (.ref q0), some (.int m1), some (.int m2), some (.int m3), some (.long z_3586), none, some (.int z_3587), some (.int z_3588), some (.int z_3592)]) (st' := [.ref q0]) rfl ?_
    obtain ⟨z_3593, g_3593, p_3593⟩ : ∃ z : Int32, gI h 12 57 q0 = some z ∧ z.toInt = s q0 57 := rp_gI (k := 57) hR (T12_o t0) rfl
    refine Rn.hp hT rfl rfl (gI_hp g_3593) ?_
    refine Rn.n hT 1 (pc' := 52) (L' := [some (.ref q0), some (.int m1), some (.int m2), some (.int m3), some (.long z_3586), none, some (.int z_3587), some (.int z_3588), some (.int z_3592)]) (st' := [.int (1500 : Int32), .int z_3593]) rfl ?_
    by_cases c_3594 : (s q0 57) = 1500
    · rw [if_pos c_3594] at e
      refine Rn.bf hT rfl rfl rfl (decide_eq_false (fun z => z ((ti_e p_3593 L32_1500).mpr c_3594))) ?_
      refine Rn.n hT 1 (pc' := 57) (L' := [some (.ref q0), some (.int m1), some (.int m2), some (.int m3), some (.long z_3586), none, some (.int z_3587), some (.int z_3588), some (.int z_3592)]) (st' := [.int z_3592]) rfl ?_
      by_cases c_3595 : v_3592 = 0
      · rw [if_pos c_3595] at e
        refine Rn.bf hT rfl rfl rfl (decide_eq_false (fun z => z ((ti_e p_3592 L32_0).mpr c_3595))) ?_
        refine Rn.n hT 1 (pc' := 61) (L' := [some (.ref q0), some (.int m1), some (.int m2), some (.int m3), some (.long z_3586), none, some (.int z_3587), some (.int z_3588), some (.int z_3592)]) (st' := [.int (1 : Int32)]) rfl ?_
        obtain rfl := Option.some.inj e
        exact Rn.ret hT rfl rfl rfl (hq (1 : Int32) h L32_1 hR)
      · rw [if_neg c_3595] at e
        refine Rn.bt hT rfl rfl rfl (decide_eq_true (fun z => c_3595 ((ti_e p_3592 L32_0).mp z))) ?_
        exact Rn.weak (ll_s (ll_s (ll_s (ll_n (ll_s (ll_n (ll_s (ll_s (ll_s ll_e))))))))) (RX12_comes_b62 hd hR t0 p1 p2 p_3586 p_3587 p_3588 p_3592 hq e)
    · rw [if_neg c_3594] at e
      refine Rn.bt hT rfl rfl rfl (decide_eq_true (fun z => c_3594 ((ti_e p_3593 L32_1500).mp z))) ?_
      exact Rn.weak (ll_s (ll_s (ll_s (ll_n (ll_s (ll_n (ll_s (ll_s (ll_s ll_e))))))))) (RX12_comes_b62 hd hR t0 p1 p2 p_3586 p_3587 p_3588 p_3592 hq e)
set_option maxRecDepth 10000 in
theorem hX12_finds : iv_Tb 297 tX12_finds := iv_tb_of (m := mX12_finds) rfl
set_option maxRecDepth 10000 in
theorem gX12_finds : PG.2 297 = some mX12_finds := iv_pi_of (t := tX12_finds) rfl (by decide)
def FX12_finds_b124 (N : Nat) (s : iv_M) (q0 : Nat) (x1 : Int) (x2 : Int) (x3 : Int) (x4 : Int)  (kb : iv_M → Int → Int → Option (Int × iv_M)) (kx : iv_M → Int → Option (Int × iv_M)) : Option (Int × iv_M) := (kb s x2 (w32 (x4 + 1)))
set_option maxRecDepth 10000 in
set_option maxHeartbeats 4000000 in
theorem RX12_finds_b124 {d N nc Ls : Nat} {Xs : Nat → Int32} (hd : 8 ≤ d) {h : iv_H} {s : iv_M} (hR : Rep nc Ls Xs h s) {q0 : Nat} (t0 : T12 nc q0) {m1 : Int32} {x1 : Int} (p1 : m1.toInt = x1) {m2 : Int32} {x2 : Int} (p2 : m2.toInt = x2) {m3 : Int32} {x3 : Int} (p3 : m3.toInt = x3) {m4 : Int32} {x4 : Int} (p4 : m4.toInt = x4)  {kb : iv_M → Int → Int → Option (Int × iv_M)} {kx : iv_M → Int → Option (Int × iv_M)} {r : Int × iv_M} {Q : Option Value → iv_H → Prop} (hb : ∀ (h : iv_H) (s : iv_M) (hR : Rep nc Ls Xs h s) (mw2 : Int32) (xw2 : Int) (pw2 : mw2.toInt = xw2) (mw4 : Int32) (xw4 : Int) (pw4 : mw4.toInt = xw4), kb s xw2 xw4 = some r → Rn d 297 (some .int) 74 [some (.ref q0), some (.int m1), some (.int mw2), some (.int m3), some (.int mw4)] [] h Q) (hk : ∀ (h : iv_H) (s : iv_M) (hR : Rep nc Ls Xs h s) (mw2 : Int32) (xw2 : Int) (pw2 : mw2.toInt = xw2), kx s xw2 = some r → Rn d 297 (some .int) 130 [some (.ref q0), some (.int m1), some (.int mw2), some (.int m3), none] [] h Q) (hq : ∀ (z : Int32) (h1 : iv_H), z.toInt = r.1 → Rep nc Ls Xs h1 r.2 → Q (some (.int z)) h1) (e : FX12_finds_b124 N s q0 x1 x2 x3 x4  kb kx = some r) : Rn d 297 (some .int) 124 [some (.ref q0), some (.int m1), some (.int m2), some (.int m3), some (.int m4)] [] h Q := by
  have hT := hX12_finds
  unfold FX12_finds_b124 at e
  refine Rn.n hT 2 (pc' := 74) (L' := [some (.ref q0), some (.int m1), some (.int m2), some (.int m3), some (.int (m4 + (1 : Int32)))]) (st' := []) rfl ?_
  exact Rn.weak (ll_s (ll_s (ll_s (ll_s (ll_s ll_e))))) (hb h s hR m2 x2 p2 (m4 + (1 : Int32)) (w32 (x4 + 1)) (ti_add p4 L32_1) e)
def FX12_finds_l74 (N : Nat) (q0 : Nat) (x1 : Int) (x3 : Int) (kx : iv_M → Int → Option (Int × iv_M)) : Nat → iv_M → Int → Int → Option (Int × iv_M)
  | 0, _, _, _ => none
  | n + 1, s, x2, x4 => (if 204 ≤ x4 then (kx s x2) else (if (s q0 58) = (-1) then (if x2 = 0 then ((FX12_mayBe N s q0 x4).bind fun r_3649 => (fun (v_3649 : Int) (s_3650 : iv_M) => (if v_3649 = 0 then (FX12_finds_b124 N s_3650 q0 x1 x2 x3 x4 (FX12_finds_l74 N q0 x1 x3 kx n) kx) else ((FX12_does N s_3650 q0 x4).bind fun s_3653 => ((FX12_comes N s_3653 q0 x3 x4 x1).bind fun r_3654 => (fun (v_3654 : Int) (s_3655 : iv_M) => ((FX12_doesBack N s_3655 q0 x4).bind fun s_3657 => (FX12_finds_b124 N s_3657 q0 x1 v_3654 x3 x4 (FX12_finds_l74 N q0 x1 x3 kx n) kx))) r_3654.1 r_3654.2)))) r_3649.1 r_3649.2) else (kx s x2)) else (kx s x2)))
set_option maxRecDepth 10000 in
set_option maxHeartbeats 4000000 in
theorem RX12_finds_l74 {d N nc Ls : Nat} {Xs : Nat → Int32} (hd : 8 ≤ d) {q0 : Nat} (t0 : T12 nc q0) {m1 : Int32} {x1 : Int} (p1 : m1.toInt = x1) {m3 : Int32} {x3 : Int} (p3 : m3.toInt = x3) {kx : iv_M → Int → Option (Int × iv_M)} {r : Int × iv_M} {Q : Option Value → iv_H → Prop} (hk : ∀ (h : iv_H) (s : iv_M) (hR : Rep nc Ls Xs h s) (m2 : Int32) (x2 : Int) (p2 : m2.toInt = x2), kx s x2 = some r → Rn d 297 (some .int) 130 [some (.ref q0), some (.int m1), some (.int m2), some (.int m3), none] [] h Q) (hq : ∀ (z : Int32) (h1 : iv_H), z.toInt = r.1 → Rep nc Ls Xs h1 r.2 → Q (some (.int z)) h1) : ∀ (n : Nat) (h : iv_H) (s : iv_M) (hR : Rep nc Ls Xs h s) (m2 : Int32) (x2 : Int) (p2 : m2.toInt = x2) (m4 : Int32) (x4 : Int) (p4 : m4.toInt = x4), FX12_finds_l74 N q0 x1 x3 kx n s x2 x4 = some r → Rn d 297 (some .int) 74 [some (.ref q0), some (.int m1), some (.int m2), some (.int m3), some (.int m4)] [] h Q := by
  have hT := hX12_finds
  intro n
  induction n with
  | zero =>
    intro h s hR m2 x2 p2 m4 x4 p4 e
    rw [FX12_finds_l74] at e
    cases e
  | succ n ih =>
    intro h s hR m2 x2 p2 m4 x4 p4 e
    rw [FX12_finds_l74] at e
    refine Rn.n hT 2 (pc' := 79) (L' := [some (.ref q0), some (.int m1), some (.int m2), some (.int m3), some (.int m4)]) (st' := [.int (204 : Int32), .int m4]) rfl ?_
    by_cases c_3645 : 204 ≤ x4
    · rw [if_pos c_3645] at e
      refine Rn.bt hT rfl rfl rfl (decide_eq_true ((ti_le L32_204 p4).mpr c_3645)) ?_
      exact Rn.weak (ll_s (ll_s (ll_s (ll_s (ll_n ll_e))))) (hk h s hR m2 x2 p2 e)
    · rw [if_neg c_3645] at e
      refine Rn.bf hT rfl rfl rfl (decide_eq_false (fun z => c_3645 ((ti_le L32_204 p4).mp z))) ?_
      refine Rn.n hT 1 (pc' := 83) (L' := [some (.ref q0), some (.int m1), some (.int m2), some (.int m3), some (.int m4)]) (st' := [.ref q0]) rfl ?_
      obtain ⟨z_3646, g_3646, p_3646⟩ : ∃ z : Int32, gI h 12 58 q0 = some z ∧ z.toInt = s q0 58 := rp_gI (k := 58) hR (T12_o t0) rfl
      refine Rn.hp hT rfl rfl (gI_hp g_3646) ?_
      refine Rn.n hT 1 (pc' := 87) (L' := [some (.ref q0), some (.int m1), some (.int m2), some (.int m3), some (.int m4)]) (st' := [.int (-1 : Int32), .int z_3646]) rfl ?_
      by_cases c_3647 : (s q0 58) = (-1)
      · rw [if_pos c_3647] at e
        refine Rn.bf hT rfl rfl rfl (decide_eq_false (fun z => z ((ti_e p_3646 L32_m1).mpr c_3647))) ?_
        refine Rn.n hT 1 (pc' := 91) (L' := [some (.ref q0), some (.int m1), some (.int m2), some (.int m3), some (.int m4)]) (st' := [.int m2]) rfl ?_
        by_cases c_3648 : x2 = 0
        · rw [if_pos c_3648] at e
          refine Rn.bf hT rfl rfl rfl (decide_eq_false (fun z => z ((ti_e p2 L32_0).mpr c_3648))) ?_
          refine Rn.n hT 2 (pc' := 97) (L' := [some (.ref q0), some (.int m1), some (.int m2), some (.int m3), some (.int m4)]) (st' := [.int m4, .ref q0]) rfl ?_
          obtain ⟨⟨v_3649, s_3650⟩, e_3649, e⟩ := Option.bind_eq_some_iff.mp e
          try dsimp only at e
          try dsimp only at e
          refine Rn.call hT rfl rfl rfl (Nat.le_of_ble_eq_true rfl) (rcv_v gX12_mayBe (by omega) (rp_ck hR (T12_o t0))) (RX12_mayBe (by omega) hR t0 p4 e_3649 (fun z_3649 h_3650 p_3649 R_3650 => ?_))
          show Rn d _ _ 100 [some (.ref q0), some (.int m1), some (.int m2), some (.int m3), some (.int m4)] [.int z_3649] h_3650 Q
          by_cases c_3651 : v_3649 = 0
          · rw [if_pos c_3651] at e
            refine Rn.bt hT rfl rfl rfl (decide_eq_true ((ti_e p_3649 L32_0).mpr c_3651)) ?_
            exact Rn.weak (ll_s (ll_s (ll_s (ll_s (ll_s ll_e))))) (RX12_finds_b124 hd R_3650 t0 p1 p2 p3 p4 ih hk hq e)
          · rw [if_neg c_3651] at e
            refine Rn.bf hT rfl rfl rfl (decide_eq_false (fun z => c_3651 ((ti_e p_3649 L32_0).mp z))) ?_
            refine Rn.n hT 2 (pc' := 106) (L' := [some (.ref q0), some (.int m1), some (.int m2), some (.int m3), some (.int m4)]) (st' := [.int m4, .ref q0]) rfl ?_
            obtain ⟨s_3653, e_3652, e⟩ := Option.bind_eq_some_iff.mp e
            refine Rn.call hT rfl rfl rfl (Nat.le_of_ble_eq_true rfl) (rcv_v gX12_does (by omega) (rp_ck R_3650 (T12_o t0))) (RX12_does (by omega) R_3650 t0 p4 e_3652 (fun h_3653 R_3653 => ?_))
            show Rn d _ _ 109 [some (.ref q0), some (.int m1), some (.int m2), some (.int m3), some (.int m4)] [] h_3653 Q
            refine Rn.n hT 4 (pc' := 114) (L' := [some (.ref q0), some (.int m1), some (.int m2), some (.int m3), some (.int m4)]) (st' := [.int m1, .int m4, .int m3, .ref q0]) rfl ?_
            obtain ⟨⟨v_3654, s_3655⟩, e_3654, e⟩ := Option.bind_eq_some_iff.mp e
            try dsimp only at e
            try dsimp only at e
            refine Rn.call hT rfl rfl rfl (Nat.le_of_ble_eq_true rfl) (rcv_v gX12_comes (by omega) (rp_ck R_3653 (T12_o t0))) (RX12_comes (by omega) R_3653 t0 p3 p4 p1 e_3654 (fun z_3654 h_3655 p_3654 R_3655 => ?_))
            show Rn d _ _ 117 [some (.ref q0), some (.int m1), some (.int m2), some (.int m3), some (.int m4)] [.int z_3654] h_3655 Q
            refine Rn.n hT 3 (pc' := 121) (L' := [some (.ref q0), some (.int m1), some (.int z_3654), some (.int m3), some (.int m4)]) (st' := [.int m4, .ref q0]) rfl ?_
            obtain ⟨s_3657, e_3656, e⟩ := Option.bind_eq_some_iff.mp e
            refine Rn.call hT rfl rfl rfl (Nat.le_of_ble_eq_true rfl) (rcv_v gX12_doesBack (by omega) (rp_ck R_3655 (T12_o t0))) (RX12_doesBack (by omega) R_3655 t0 p4 e_3656 (fun h_3657 R_3657 => ?_))
            show Rn d _ _ 124 [some (.ref q0), some (.int m1), some (.int z_3654), some (.int m3), some (.int m4)] [] h_3657 Q
            exact Rn.weak (ll_s (ll_s (ll_s (ll_s (ll_s ll_e))))) (RX12_finds_b124 hd R_3657 t0 p1 p_3654 p3 p4 ih hk hq e)
        · rw [if_neg c_3648] at e
          refine Rn.bt hT rfl rfl rfl (decide_eq_true (fun z => c_3648 ((ti_e p2 L32_0).mp z))) ?_
          exact Rn.weak (ll_s (ll_s (ll_s (ll_s (ll_n ll_e))))) (hk h s hR m2 x2 p2 e)
      · rw [if_neg c_3647] at e
        refine Rn.bt hT rfl rfl rfl (decide_eq_true (fun z => c_3647 ((ti_e p_3646 L32_m1).mp z))) ?_
        exact Rn.weak (ll_s (ll_s (ll_s (ll_s (ll_n ll_e))))) (hk h s hR m2 x2 p2 e)
def FX12_finds_b130 (N : Nat) (s : iv_M) (q0 : Nat) (x1 : Int) (x2 : Int) (x3 : Int)  (kb : iv_M → Int → Int → Option (Int × iv_M)) (kx : iv_M → Int → Option (Int × iv_M)) : Option (Int × iv_M) := (kb s x2 (w32 (x3 + 1)))
set_option maxRecDepth 10000 in
set_option maxHeartbeats 4000000 in
theorem RX12_finds_b130 {d N nc Ls : Nat} {Xs : Nat → Int32} (hd : 8 ≤ d) {h : iv_H} {s : iv_M} (hR : Rep nc Ls Xs h s) {q0 : Nat} (t0 : T12 nc q0) {m1 : Int32} {x1 : Int} (p1 : m1.toInt = x1) {m2 : Int32} {x2 : Int} (p2 : m2.toInt = x2) {m3 : Int32} {x3 : Int} (p3 : m3.toInt = x3)  {kb : iv_M → Int → Int → Option (Int × iv_M)} {kx : iv_M → Int → Option (Int × iv_M)} {r : Int × iv_M} {Q : Option Value → iv_H → Prop} (hb : ∀ (h : iv_H) (s : iv_M) (hR : Rep nc Ls Xs h s) (mw2 : Int32) (xw2 : Int) (pw2 : mw2.toInt = xw2) (mw3 : Int32) (xw3 : Int) (pw3 : mw3.toInt = xw3), kb s xw2 xw3 = some r → Rn d 297 (some .int) 39 [some (.ref q0), some (.int m1), some (.int mw2), some (.int mw3), none] [] h Q) (hk : ∀ (h : iv_H) (s : iv_M) (hR : Rep nc Ls Xs h s) (mw2 : Int32) (xw2 : Int) (pw2 : mw2.toInt = xw2), kx s xw2 = some r → Rn d 297 (some .int) 136 [some (.ref q0), none, some (.int mw2), none, none] [] h Q) (hq : ∀ (z : Int32) (h1 : iv_H), z.toInt = r.1 → Rep nc Ls Xs h1 r.2 → Q (some (.int z)) h1) (e : FX12_finds_b130 N s q0 x1 x2 x3  kb kx = some r) : Rn d 297 (some .int) 130 [some (.ref q0), some (.int m1), some (.int m2), some (.int m3), none] [] h Q := by
  have hT := hX12_finds
  unfold FX12_finds_b130 at e
  refine Rn.n hT 2 (pc' := 39) (L' := [some (.ref q0), some (.int m1), some (.int m2), some (.int (m3 + (1 : Int32))), none]) (st' := []) rfl ?_
  exact Rn.weak (ll_s (ll_s (ll_s (ll_s (ll_n ll_e))))) (hb h s hR m2 x2 p2 (m3 + (1 : Int32)) (w32 (x3 + 1)) (ti_add p3 L32_1) e)
def FX12_finds_l39 (N : Nat) (q0 : Nat) (x1 : Int) (kx : iv_M → Int → Option (Int × iv_M)) : Nat → iv_M → Int → Int → Option (Int × iv_M)
  | 0, _, _, _ => none
  | n + 1, s, x2, x3 => (if (s q0 57) ≤ x3 then (kx s x2) else (if 1500 ≤ x3 then (kx s x2) else (if (s q0 58) = (-1) then (if x2 = 0 then ((FX12_laysSituation N s q0 x3).bind fun s_3642 => (FX12_finds_l74 N q0 x1 x3 (fun (s_3643 : iv_M) (x3644_2 : Int) => (FX12_finds_b130 N s_3643 q0 x1 x3644_2 x3 (FX12_finds_l39 N q0 x1 kx n) kx)) N s_3642 x2 0)) else (kx s x2)) else (kx s x2))))
set_option maxRecDepth 10000 in
set_option maxHeartbeats 4000000 in
theorem RX12_finds_l39 {d N nc Ls : Nat} {Xs : Nat → Int32} (hd : 8 ≤ d) {q0 : Nat} (t0 : T12 nc q0) {m1 : Int32} {x1 : Int} (p1 : m1.toInt = x1) {kx : iv_M → Int → Option (Int × iv_M)} {r : Int × iv_M} {Q : Option Value → iv_H → Prop} (hk : ∀ (h : iv_H) (s : iv_M) (hR : Rep nc Ls Xs h s) (m2 : Int32) (x2 : Int) (p2 : m2.toInt = x2), kx s x2 = some r → Rn d 297 (some .int) 136 [some (.ref q0), none, some (.int m2), none, none] [] h Q) (hq : ∀ (z : Int32) (h1 : iv_H), z.toInt = r.1 → Rep nc Ls Xs h1 r.2 → Q (some (.int z)) h1) : ∀ (n : Nat) (h : iv_H) (s : iv_M) (hR : Rep nc Ls Xs h s) (m2 : Int32) (x2 : Int) (p2 : m2.toInt = x2) (m3 : Int32) (x3 : Int) (p3 : m3.toInt = x3), FX12_finds_l39 N q0 x1 kx n s x2 x3 = some r → Rn d 297 (some .int) 39 [some (.ref q0), some (.int m1), some (.int m2), some (.int m3), none] [] h Q := by
  have hT := hX12_finds
  intro n
  induction n with
  | zero =>
    intro h s hR m2 x2 p2 m3 x3 p3 e
    rw [FX12_finds_l39] at e
    cases e
  | succ n ih =>
    intro h s hR m2 x2 p2 m3 x3 p3 e
    rw [FX12_finds_l39] at e
    refine Rn.n hT 2 (pc' := 41) (L' := [some (.ref q0), some (.int m1), some (.int m2), some (.int m3), none]) (st' := [.ref q0, .int m3]) rfl ?_
    obtain ⟨z_3635, g_3635, p_3635⟩ : ∃ z : Int32, gI h 12 57 q0 = some z ∧ z.toInt = s q0 57 := rp_gI (k := 57) hR (T12_o t0) rfl
    refine Rn.hp hT rfl rfl (gI_hp g_3635) ?_
    by_cases c_3636 : (s q0 57) ≤ x3
    · rw [if_pos c_3636] at e
      refine Rn.bt hT rfl rfl rfl (decide_eq_true ((ti_le p_3635 p3).mpr c_3636)) ?_
      exact Rn.weak (ll_s (ll_n (ll_s (ll_n (ll_n ll_e))))) (hk h s hR m2 x2 p2 e)
    · rw [if_neg c_3636] at e
      refine Rn.bf hT rfl rfl rfl (decide_eq_false (fun z => c_3636 ((ti_le p_3635 p3).mp z))) ?_
      refine Rn.n hT 2 (pc' := 51) (L' := [some (.ref q0), some (.int m1), some (.int m2), some (.int m3), none]) (st' := [.int (1500 : Int32), .int m3]) rfl ?_
      by_cases c_3637 : 1500 ≤ x3
      · rw [if_pos c_3637] at e
        refine Rn.bt hT rfl rfl rfl (decide_eq_true ((ti_le L32_1500 p3).mpr c_3637)) ?_
        exact Rn.weak (ll_s (ll_n (ll_s (ll_n (ll_n ll_e))))) (hk h s hR m2 x2 p2 e)
      · rw [if_neg c_3637] at e
        refine Rn.bf hT rfl rfl rfl (decide_eq_false (fun z => c_3637 ((ti_le L32_1500 p3).mp z))) ?_
        refine Rn.n hT 1 (pc' := 55) (L' := [some (.ref q0), some (.int m1), some (.int m2), some (.int m3), none]) (st' := [.ref q0]) rfl ?_
        obtain ⟨z_3638, g_3638, p_3638⟩ : ∃ z : Int32, gI h 12 58 q0 = some z ∧ z.toInt = s q0 58 := rp_gI (k := 58) hR (T12_o t0) rfl
        refine Rn.hp hT rfl rfl (gI_hp g_3638) ?_
        refine Rn.n hT 1 (pc' := 59) (L' := [some (.ref q0), some (.int m1), some (.int m2), some (.int m3), none]) (st' := [.int (-1 : Int32), .int z_3638]) rfl ?_
        by_cases c_3639 : (s q0 58) = (-1)
        · rw [if_pos c_3639] at e
          refine Rn.bf hT rfl rfl rfl (decide_eq_false (fun z => z ((ti_e p_3638 L32_m1).mpr c_3639))) ?_
          refine Rn.n hT 1 (pc' := 63) (L' := [some (.ref q0), some (.int m1), some (.int m2), some (.int m3), none]) (st' := [.int m2]) rfl ?_
          by_cases c_3640 : x2 = 0
          · rw [if_pos c_3640] at e
            refine Rn.bf hT rfl rfl rfl (decide_eq_false (fun z => z ((ti_e p2 L32_0).mpr c_3640))) ?_
            refine Rn.n hT 2 (pc' := 68) (L' := [some (.ref q0), some (.int m1), some (.int m2), some (.int m3), none]) (st' := [.int m3, .ref q0]) rfl ?_
            obtain ⟨s_3642, e_3641, e⟩ := Option.bind_eq_some_iff.mp e
            refine Rn.call hT rfl rfl rfl (Nat.le_of_ble_eq_true rfl) (rcv_v gX12_laysSituation (by omega) (rp_ck hR (T12_o t0))) (RX12_laysSituation (by omega) hR t0 p3 e_3641 (fun h_3642 R_3642 => ?_))
            show Rn d _ _ 71 [some (.ref q0), some (.int m1), some (.int m2), some (.int m3), none] [] h_3642 Q
            refine Rn.n hT 2 (pc' := 74) (L' := [some (.ref q0), some (.int m1), some (.int m2), some (.int m3), some (.int (0 : Int32))]) (st' := []) rfl ?_
            refine Rn.weak (ll_s (ll_s (ll_s (ll_s (ll_s ll_e))))) (RX12_finds_l74 hd t0 p1 p3 (fun h_3643 s_3643 R_3643 m3644_2 x3644_2 p3644_2 e => ?_) hq N h_3642 s_3642 R_3642 m2 x2 p2 (0 : Int32) 0 L32_0 e)
            try dsimp only at e
            exact Rn.weak (ll_s (ll_s (ll_s (ll_s (ll_n ll_e))))) (RX12_finds_b130 hd R_3643 t0 p1 p3644_2 p3 ih hk hq e)
          · rw [if_neg c_3640] at e
            refine Rn.bt hT rfl rfl rfl (decide_eq_true (fun z => c_3640 ((ti_e p2 L32_0).mp z))) ?_
            exact Rn.weak (ll_s (ll_n (ll_s (ll_n (ll_n ll_e))))) (hk h s hR m2 x2 p2 e)
        · rw [if_neg c_3639] at e
          refine Rn.bt hT rfl rfl rfl (decide_eq_true (fun z => c_3639 ((ti_e p_3638 L32_m1).mp z))) ?_
          exact Rn.weak (ll_s (ll_n (ll_s (ll_n (ll_n ll_e))))) (hk h s hR m2 x2 p2 e)
def FX12_finds_b164 (N : Nat) (s : iv_M)  (xs0 : Int) : Option (Int × iv_M) := (some (xs0, s))
set_option maxRecDepth 10000 in
set_option maxHeartbeats 4000000 in
theorem RX12_finds_b164 {d N nc Ls : Nat} {Xs : Nat → Int32} (hd : 8 ≤ d) {h : iv_H} {s : iv_M} (hR : Rep nc Ls Xs h s)  {ms0 : Int32} {xs0 : Int} (ps0 : ms0.toInt = xs0) {r : Int × iv_M} {Q : Option Value → iv_H → Prop} (hq : ∀ (z : Int32) (h1 : iv_H), z.toInt = r.1 → Rep nc Ls Xs h1 r.2 → Q (some (.int z)) h1) (e : FX12_finds_b164 N s  xs0 = some r) : Rn d 297 (some .int) 164 [none, none, none, none, none] [.int ms0] h Q := by
  have hT := hX12_finds
  unfold FX12_finds_b164 at e
  obtain rfl := Option.some.inj e
  exact Rn.ret hT rfl rfl rfl (hq ms0 h ps0 hR)
def FX12_finds_l173 (N : Nat) (q0 : Nat) (kx : iv_M → Int → Option (Int × iv_M)) : Nat → iv_M → Int → Int → Option (Int × iv_M)
  | 0, _, _, _ => none
  | n + 1, s, x3, x4 => ((rd s (q0 + 37) 1501 x4).bind fun v_3666 => (if v_3666 = (-1) then (kx s x3) else ((rd s (q0 + 37) 1501 x4).bind fun v_3668 => (FX12_finds_l173 N q0 kx n s (w32 (x3 + 1)) v_3668))))
set_option maxRecDepth 10000 in
set_option maxHeartbeats 4000000 in
theorem RX12_finds_l173 {d N nc Ls : Nat} {Xs : Nat → Int32} (hd : 8 ≤ d) {q0 : Nat} (t0 : T12 nc q0) {kx : iv_M → Int → Option (Int × iv_M)} {r : Int × iv_M} {Q : Option Value → iv_H → Prop} (hk : ∀ (h : iv_H) (s : iv_M) (hR : Rep nc Ls Xs h s) (m3 : Int32) (x3 : Int) (p3 : m3.toInt = x3), kx s x3 = some r → Rn d 297 (some .int) 199 [none, none, none, some (.int m3), none] [] h Q) (hq : ∀ (z : Int32) (h1 : iv_H), z.toInt = r.1 → Rep nc Ls Xs h1 r.2 → Q (some (.int z)) h1) : ∀ (n : Nat) (h : iv_H) (s : iv_M) (hR : Rep nc Ls Xs h s) (m3 : Int32) (x3 : Int) (p3 : m3.toInt = x3) (m4 : Int32) (x4 : Int) (p4 : m4.toInt = x4), FX12_finds_l173 N q0 kx n s x3 x4 = some r → Rn d 297 (some .int) 173 [some (.ref q0), none, none, some (.int m3), some (.int m4)] [] h Q := by
  have hT := hX12_finds
  intro n
  induction n with
  | zero =>
    intro h s hR m3 x3 p3 m4 x4 p4 e
    rw [FX12_finds_l173] at e
    cases e
  | succ n ih =>
    intro h s hR m3 x3 p3 m4 x4 p4 e
    rw [FX12_finds_l173] at e
    refine Rn.n hT 1 (pc' := 174) (L' := [some (.ref q0), none, none, some (.int m3), some (.int m4)]) (st' := [.ref q0]) rfl ?_
    refine Rn.hp hT rfl rfl (gR_hp (rp_gR hR (T12_o t0) rfl)) ?_
    refine Rn.n hT 1 (pc' := 179) (L' := [some (.ref q0), none, none, some (.int m3), some (.int m4)]) (st' := [.int m4, .ref (q0 + 37)]) rfl ?_
    obtain ⟨v_3666, e_3666, e⟩ := Option.bind_eq_some_iff.mp e
    obtain ⟨z_3666, g_3666, p_3666⟩ := rp_aI hR (T12_51 t0) (T12_51l t0) p4 e_3666
    refine Rn.hp hT rfl rfl (aI_hp g_3666) ?_
    refine Rn.n hT 1 (pc' := 181) (L' := [some (.ref q0), none, none, some (.int m3), some (.int m4)]) (st' := [.int (-1 : Int32), .int z_3666]) rfl ?_
    by_cases c_3667 : v_3666 = (-1)
    · rw [if_pos c_3667] at e
      refine Rn.bt hT rfl rfl rfl (decide_eq_true ((ti_e p_3666 L32_m1).mpr c_3667)) ?_
      exact Rn.weak (ll_n (ll_n (ll_n (ll_s (ll_n ll_e))))) (hk h s hR m3 x3 p3 e)
    · rw [if_neg c_3667] at e
      refine Rn.bf hT rfl rfl rfl (decide_eq_false (fun z => c_3667 ((ti_e p_3666 L32_m1).mp z))) ?_
      refine Rn.n hT 2 (pc' := 188) (L' := [some (.ref q0), none, none, some (.int (m3 + (1 : Int32))), some (.int m4)]) (st' := [.ref q0]) rfl ?_
      refine Rn.hp hT rfl rfl (gR_hp (rp_gR hR (T12_o t0) rfl)) ?_
      refine Rn.n hT 1 (pc' := 193) (L' := [some (.ref q0), none, none, some (.int (m3 + (1 : Int32))), some (.int m4)]) (st' := [.int m4, .ref (q0 + 37)]) rfl ?_
      obtain ⟨v_3668, e_3668, e⟩ := Option.bind_eq_some_iff.mp e
      obtain ⟨z_3668, g_3668, p_3668⟩ := rp_aI hR (T12_51 t0) (T12_51l t0) p4 e_3668
      refine Rn.hp hT rfl rfl (aI_hp g_3668) ?_
      refine Rn.n hT 2 (pc' := 173) (L' := [some (.ref q0), none, none, some (.int (m3 + (1 : Int32))), some (.int z_3668)]) (st' := []) rfl ?_
      exact Rn.weak (ll_s (ll_n (ll_n (ll_s (ll_s ll_e))))) (ih h s hR (m3 + (1 : Int32)) (w32 (x3 + 1)) (ti_add p3 L32_1) z_3668 v_3668 p_3668 e)
def FX12_finds_b136 (N : Nat) (s : iv_M) (q0 : Nat) (x2 : Int)  : Option (Int × iv_M) := ((FX12_laysFloor N s q0 (q0 + 41) 0).bind fun s_3659 => (if (s_3659 q0 58) = (-1) then (if x2 = 0 then (FX12_finds_b164 N s_3659 (-2)) else (FX12_finds_b164 N s_3659 (-3))) else (FX12_finds_l173 N q0 (fun (s_3663 : iv_M) (x3664_3 : Int) => (some (x3664_3, s_3663))) N s_3659 0 (s_3659 q0 58))))
set_option maxRecDepth 10000 in
set_option maxHeartbeats 4000000 in
theorem RX12_finds_b136 {d N nc Ls : Nat} {Xs : Nat → Int32} (hd : 8 ≤ d) {h : iv_H} {s : iv_M} (hR : Rep nc Ls Xs h s) {q0 : Nat} (t0 : T12 nc q0) {m2 : Int32} {x2 : Int} (p2 : m2.toInt = x2)  {r : Int × iv_M} {Q : Option Value → iv_H → Prop} (hq : ∀ (z : Int32) (h1 : iv_H), z.toInt = r.1 → Rep nc Ls Xs h1 r.2 → Q (some (.int z)) h1) (e : FX12_finds_b136 N s q0 x2  = some r) : Rn d 297 (some .int) 136 [some (.ref q0), none, some (.int m2), none, none] [] h Q := by
  have hT := hX12_finds
  unfold FX12_finds_b136 at e
  refine Rn.n hT 2 (pc' := 138) (L' := [some (.ref q0), none, some (.int m2), none, none]) (st' := [.ref q0, .ref q0]) rfl ?_
  refine Rn.hp hT rfl rfl (gR_hp (rp_gR hR (T12_o t0) rfl)) ?_
  refine Rn.n hT 1 (pc' := 142) (L' := [some (.ref q0), none, some (.int m2), none, none]) (st' := [.int (0 : Int32), .ref (q0 + 41), .ref q0]) rfl ?_
  obtain ⟨s_3659, e_3658, e⟩ := Option.bind_eq_some_iff.mp e
  refine Rn.call hT rfl rfl rfl (Nat.le_of_ble_eq_true rfl) (rcv_v gX12_laysFloor (by omega) (rp_ck hR (T12_o t0))) (RX12_laysFloor (by omega) hR t0 (T12_55 t0) L32_0 e_3658 (fun h_3659 R_3659 => ?_))
  show Rn d _ _ 145 [some (.ref q0), none, some (.int m2), none, none] [] h_3659 Q
  refine Rn.n hT 1 (pc' := 146) (L' := [some (.ref q0), none, some (.int m2), none, none]) (st' := [.ref q0]) rfl ?_
  obtain ⟨z_3660, g_3660, p_3660⟩ : ∃ z : Int32, gI h_3659 12 58 q0 = some z ∧ z.toInt = s_3659 q0 58 := rp_gI (k := 58) R_3659 (T12_o t0) rfl
  refine Rn.hp hT rfl rfl (gI_hp g_3660) ?_
  refine Rn.n hT 1 (pc' := 150) (L' := [some (.ref q0), none, some (.int m2), none, none]) (st' := [.int (-1 : Int32), .int z_3660]) rfl ?_
  by_cases c_3661 : (s_3659 q0 58) = (-1)
  · rw [if_pos c_3661] at e
    refine Rn.bf hT rfl rfl rfl (decide_eq_false (fun z => z ((ti_e p_3660 L32_m1).mpr c_3661))) ?_
    refine Rn.n hT 1 (pc' := 154) (L' := [some (.ref q0), none, some (.int m2), none, none]) (st' := [.int m2]) rfl ?_
    by_cases c_3665 : x2 = 0
    · rw [if_pos c_3665] at e
      refine Rn.bt hT rfl rfl rfl (decide_eq_true ((ti_e p2 L32_0).mpr c_3665)) ?_
      refine Rn.n hT 1 (pc' := 164) (L' := [some (.ref q0), none, some (.int m2), none, none]) (st' := [.int (-2 : Int32)]) rfl ?_
      exact Rn.weak (ll_n (ll_n (ll_n (ll_n (ll_n ll_e))))) (RX12_finds_b164 hd R_3659 L32_m2 hq e)
    · rw [if_neg c_3665] at e
      refine Rn.bf hT rfl rfl rfl (decide_eq_false (fun z => c_3665 ((ti_e p2 L32_0).mp z))) ?_
      refine Rn.n hT 2 (pc' := 164) (L' := [some (.ref q0), none, some (.int m2), none, none]) (st' := [.int (-3 : Int32)]) rfl ?_
      exact Rn.weak (ll_n (ll_n (ll_n (ll_n (ll_n ll_e))))) (RX12_finds_b164 hd R_3659 L32_m3 hq e)
  · rw [if_neg c_3661] at e
    refine Rn.bt hT rfl rfl rfl (decide_eq_true (fun z => c_3661 ((ti_e p_3660 L32_m1).mp z))) ?_
    refine Rn.n hT 3 (pc' := 168) (L' := [some (.ref q0), none, some (.int m2), some (.int (0 : Int32)), none]) (st' := [.ref q0]) rfl ?_
    obtain ⟨z_3662, g_3662, p_3662⟩ : ∃ z : Int32, gI h_3659 12 58 q0 = some z ∧ z.toInt = s_3659 q0 58 := rp_gI (k := 58) R_3659 (T12_o t0) rfl
    refine Rn.hp hT rfl rfl (gI_hp g_3662) ?_
    refine Rn.n hT 1 (pc' := 173) (L' := [some (.ref q0), none, some (.int m2), some (.int (0 : Int32)), some (.int z_3662)]) (st' := []) rfl ?_
    refine Rn.weak (ll_s (ll_n (ll_n (ll_s (ll_s ll_e))))) (RX12_finds_l173 hd t0 (fun h_3663 s_3663 R_3663 m3664_3 x3664_3 p3664_3 e => ?_) hq N h_3659 s_3659 R_3659 (0 : Int32) 0 L32_0 z_3662 (s_3659 q0 58) p_3662 e)
    try dsimp only at e
    refine Rn.n hT 1 (pc' := 200) (L' := [none, none, none, some (.int m3664_3), none]) (st' := [.int m3664_3]) rfl ?_
    obtain rfl := Option.some.inj e
    exact Rn.ret hT rfl rfl rfl (hq m3664_3 h_3663 p3664_3 R_3663)
def FX12_finds (N : Nat) (s : iv_M) (q0 : Nat) (x1 : Int) : Option (Int × iv_M) := ((FX12_fillsFloor N s q0 (q0 + 41) 0).bind fun s_3623 => ((pt s_3623 q0 56 (w32 ((s_3623 q0 56) + 1))).bind fun s_3625 => ((pt s_3625 q0 57 0).bind fun s_3627 => ((pt s_3627 q0 58 (-1)).bind fun s_3629 => ((FX12_comes N s_3629 q0 (-1) (-1) x1).bind fun r_3631 => (fun (v_3631 : Int) (s_3632 : iv_M) => (FX12_finds_l39 N q0 x1 (fun (s_3633 : iv_M) (x3634_2 : Int) => (FX12_finds_b136 N s_3633 q0 x3634_2)) N s_3632 v_3631 0)) r_3631.1 r_3631.2)))))
set_option maxRecDepth 10000 in
set_option maxHeartbeats 4000000 in
theorem RX12_finds {d N nc Ls : Nat} {Xs : Nat → Int32} (hd : 9 ≤ d) {h : iv_H} {s : iv_M} (hR : Rep nc Ls Xs h s) {q0 : Nat} (t0 : T12 nc q0) {m1 : Int32} {x1 : Int} (p1 : m1.toInt = x1) {r : Int × iv_M} {Q : Option Value → iv_H → Prop} (e : FX12_finds N s q0 x1 = some r) (hq : ∀ (z : Int32) (h1 : iv_H), z.toInt = r.1 → Rep nc Ls Xs h1 r.2 → Q (some (.int z)) h1) : Cl d 297 [.ref q0, .int m1] h Q := by
  obtain ⟨d, rfl⟩ : ∃ k, d = k + 1 := ⟨d - 1, by omega⟩
  have hd : 8 ≤ d := by omega
  have hT := hX12_finds
  unfold FX12_finds at e
  refine Cl.into (by decide) gX12_finds rfl ?_
  show Rn d 297 (some .int) 0 [some (.ref q0), some (.int m1), none, none, none] [] h Q
  refine Rn.n hT 2 (pc' := 2) (L' := [some (.ref q0), some (.int m1), none, none, none]) (st' := [.ref q0, .ref q0]) rfl ?_
  refine Rn.hp hT rfl rfl (gR_hp (rp_gR hR (T12_o t0) rfl)) ?_
  refine Rn.n hT 1 (pc' := 6) (L' := [some (.ref q0), some (.int m1), none, none, none]) (st' := [.int (0 : Int32), .ref (q0 + 41), .ref q0]) rfl ?_
  obtain ⟨s_3623, e_3622, e⟩ := Option.bind_eq_some_iff.mp e
  refine Rn.call hT rfl rfl rfl (Nat.le_of_ble_eq_true rfl) (rcv_v gX12_fillsFloor (by omega) (rp_ck hR (T12_o t0))) (RX12_fillsFloor (by omega) hR t0 (T12_55 t0) L32_0 e_3622 (fun h_3623 R_3623 => ?_))
  show Rn d _ _ 9 [some (.ref q0), some (.int m1), none, none, none] [] h_3623 Q
  refine Rn.n hT 2 (pc' := 11) (L' := [some (.ref q0), some (.int m1), none, none, none]) (st' := [.ref q0, .ref q0]) rfl ?_
  obtain ⟨z_3624, g_3624, p_3624⟩ : ∃ z : Int32, gI h_3623 12 56 q0 = some z ∧ z.toInt = s_3623 q0 56 := rp_gI (k := 56) R_3623 (T12_o t0) rfl
  refine Rn.hp hT rfl rfl (gI_hp g_3624) ?_
  refine Rn.n hT 2 (pc' := 16) (L' := [some (.ref q0), some (.int m1), none, none, none]) (st' := [.int (z_3624 + (1 : Int32)), .ref q0]) rfl ?_
  obtain ⟨s_3625, e_3626, e⟩ := Option.bind_eq_some_iff.mp e
  obtain ⟨h_3625, g_3626, R_3625⟩ := rp_pI (ci := 12) (k := 56) R_3623 (T12_o t0) rfl rfl (ti_add p_3624 L32_1) e_3626
  refine Rn.hp hT rfl rfl (pV_hp rfl g_3626) ?_
  refine Rn.n hT 2 (pc' := 21) (L' := [some (.ref q0), some (.int m1), none, none, none]) (st' := [.int (0 : Int32), .ref q0]) rfl ?_
  obtain ⟨s_3627, e_3628, e⟩ := Option.bind_eq_some_iff.mp e
  obtain ⟨h_3627, g_3628, R_3627⟩ := rp_pI (ci := 12) (k := 57) R_3625 (T12_o t0) rfl rfl L32_0 e_3628
  refine Rn.hp hT rfl rfl (pV_hp rfl g_3628) ?_
  refine Rn.n hT 2 (pc' := 26) (L' := [some (.ref q0), some (.int m1), none, none, none]) (st' := [.int (-1 : Int32), .ref q0]) rfl ?_
  obtain ⟨s_3629, e_3630, e⟩ := Option.bind_eq_some_iff.mp e
  obtain ⟨h_3629, g_3630, R_3629⟩ := rp_pI (ci := 12) (k := 58) R_3627 (T12_o t0) rfl rfl L32_m1 e_3630
  refine Rn.hp hT rfl rfl (pV_hp rfl g_3630) ?_
  refine Rn.n hT 4 (pc' := 33) (L' := [some (.ref q0), some (.int m1), none, none, none]) (st' := [.int m1, .int (-1 : Int32), .int (-1 : Int32), .ref q0]) rfl ?_
  obtain ⟨⟨v_3631, s_3632⟩, e_3631, e⟩ := Option.bind_eq_some_iff.mp e
  try dsimp only at e
  try dsimp only at e
  refine Rn.call hT rfl rfl rfl (Nat.le_of_ble_eq_true rfl) (rcv_v gX12_comes (by omega) (rp_ck R_3629 (T12_o t0))) (RX12_comes (by omega) R_3629 t0 L32_m1 L32_m1 p1 e_3631 (fun z_3631 h_3632 p_3631 R_3632 => ?_))
  show Rn d _ _ 36 [some (.ref q0), some (.int m1), none, none, none] [.int z_3631] h_3632 Q
  refine Rn.n hT 3 (pc' := 39) (L' := [some (.ref q0), some (.int m1), some (.int z_3631), some (.int (0 : Int32)), none]) (st' := []) rfl ?_
  refine Rn.weak (ll_s (ll_s (ll_s (ll_s (ll_n ll_e))))) (RX12_finds_l39 hd t0 p1 (fun h_3633 s_3633 R_3633 m3634_2 x3634_2 p3634_2 e => ?_) hq N h_3632 s_3632 R_3632 z_3631 v_3631 p_3631 (0 : Int32) 0 L32_0 e)
  try dsimp only at e
  exact Rn.weak (ll_s (ll_n (ll_s (ll_n (ll_n ll_e))))) (RX12_finds_b136 hd R_3633 t0 p3634_2 hq e)
set_option maxRecDepth 10000 in
theorem hX12_nights : iv_Tb 298 tX12_nights := iv_tb_of (m := mX12_nights) rfl
set_option maxRecDepth 10000 in
theorem gX12_nights : PG.2 298 = some mX12_nights := iv_pi_of (t := tX12_nights) rfl (by decide)
def FX12_nights_b17 (N : Nat) (s : iv_M)  (xs0 : Int) : Option (Int × iv_M) := (some (xs0, s))
set_option maxRecDepth 10000 in
set_option maxHeartbeats 4000000 in
theorem RX12_nights_b17 {d N nc Ls : Nat} {Xs : Nat → Int32} (hd : 9 ≤ d) {h : iv_H} {s : iv_M} (hR : Rep nc Ls Xs h s)  {ms0 : Int32} {xs0 : Int} (ps0 : ms0.toInt = xs0) {r : Int × iv_M} {Q : Option Value → iv_H → Prop} (hq : ∀ (z : Int32) (h1 : iv_H), z.toInt = r.1 → Rep nc Ls Xs h1 r.2 → Q (some (.int z)) h1) (e : FX12_nights_b17 N s  xs0 = some r) : Rn d 298 (some .int) 17 [none, none] [.int ms0] h Q := by
  have hT := hX12_nights
  unfold FX12_nights_b17 at e
  obtain rfl := Option.some.inj e
  exact Rn.ret hT rfl rfl rfl (hq ms0 h ps0 hR)
def FX12_nights (N : Nat) (s : iv_M) (q0 : Nat) (x1 : Int) : Option (Int × iv_M) := ((FX12_isDraft N s q0 x1).bind fun v_3669 => (if v_3669 = 0 then (FX12_nights_b17 N s (-1)) else ((FX12_finds N s q0 x1).bind fun r_3671 => (fun (v_3671 : Int) (s_3672 : iv_M) => (FX12_nights_b17 N s_3672 v_3671)) r_3671.1 r_3671.2)))
set_option maxRecDepth 10000 in
set_option maxHeartbeats 4000000 in
theorem RX12_nights {d N nc Ls : Nat} {Xs : Nat → Int32} (hd : 10 ≤ d) {h : iv_H} {s : iv_M} (hR : Rep nc Ls Xs h s) {q0 : Nat} (t0 : T12 nc q0) {m1 : Int32} {x1 : Int} (p1 : m1.toInt = x1) {r : Int × iv_M} {Q : Option Value → iv_H → Prop} (e : FX12_nights N s q0 x1 = some r) (hq : ∀ (z : Int32) (h1 : iv_H), z.toInt = r.1 → Rep nc Ls Xs h1 r.2 → Q (some (.int z)) h1) : Cl d 298 [.ref q0, .int m1] h Q := by
  obtain ⟨d, rfl⟩ : ∃ k, d = k + 1 := ⟨d - 1, by omega⟩
  have hd : 9 ≤ d := by omega
  have hT := hX12_nights
  unfold FX12_nights at e
  refine Cl.into (by decide) gX12_nights rfl ?_
  show Rn d 298 (some .int) 0 [some (.ref q0), some (.int m1)] [] h Q
  refine Rn.n hT 2 (pc' := 2) (L' := [some (.ref q0), some (.int m1)]) (st' := [.int m1, .ref q0]) rfl ?_
  obtain ⟨v_3669, e_3669, e⟩ := Option.bind_eq_some_iff.mp e
  refine Rn.call hT rfl rfl rfl (Nat.le_of_ble_eq_true rfl) (rcv_v gX12_isDraft (by omega) (rp_ck hR (T12_o t0))) (RX12_isDraft (by omega) hR t0 p1 e_3669 (fun z_3669 p_3669 => ?_))
  show Rn d _ _ 5 [some (.ref q0), some (.int m1)] [.int z_3669] h Q
  by_cases c_3670 : v_3669 = 0
  · rw [if_pos c_3670] at e
    refine Rn.bt hT rfl rfl rfl (decide_eq_true ((ti_e p_3669 L32_0).mpr c_3670)) ?_
    refine Rn.n hT 1 (pc' := 17) (L' := [some (.ref q0), some (.int m1)]) (st' := [.int (-1 : Int32)]) rfl ?_
    exact Rn.weak (ll_n (ll_n ll_e)) (RX12_nights_b17 hd hR L32_m1 hq e)
  · rw [if_neg c_3670] at e
    refine Rn.bf hT rfl rfl rfl (decide_eq_false (fun z => c_3670 ((ti_e p_3669 L32_0).mp z))) ?_
    refine Rn.n hT 2 (pc' := 10) (L' := [some (.ref q0), some (.int m1)]) (st' := [.int m1, .ref q0]) rfl ?_
    obtain ⟨⟨v_3671, s_3672⟩, e_3671, e⟩ := Option.bind_eq_some_iff.mp e
    try dsimp only at e
    try dsimp only at e
    refine Rn.call hT rfl rfl rfl (Nat.le_of_ble_eq_true rfl) (rcv_v gX12_finds (by omega) (rp_ck hR (T12_o t0))) (RX12_finds (by omega) hR t0 p1 e_3671 (fun z_3671 h_3672 p_3671 R_3672 => ?_))
    show Rn d _ _ 13 [some (.ref q0), some (.int m1)] [.int z_3671] h_3672 Q
    refine Rn.n hT 1 (pc' := 17) (L' := [some (.ref q0), some (.int m1)]) (st' := [.int z_3671]) rfl ?_
    exact Rn.weak (ll_n (ll_n ll_e)) (RX12_nights_b17 hd R_3672 p_3671 hq e)
set_option maxRecDepth 10000 in
theorem hX12_row : iv_Tb 299 tX12_row := iv_tb_of (m := mX12_row) rfl
set_option maxRecDepth 10000 in
theorem gX12_row : PG.2 299 = some mX12_row := iv_pi_of (t := tX12_row) rfl (by decide)
def FX12_row_b24 (N : Nat) (s : iv_M)   : Option (Int × iv_M) := (some ((-1), s))
set_option maxRecDepth 10000 in
set_option maxHeartbeats 4000000 in
theorem RX12_row_b24 {d N nc Ls : Nat} {Xs : Nat → Int32} (hd : 9 ≤ d) {h : iv_H} {s : iv_M} (hR : Rep nc Ls Xs h s)   {r : Int × iv_M} {Q : Option Value → iv_H → Prop} (hq : ∀ (z : Int32) (h1 : iv_H), z.toInt = r.1 → Rep nc Ls Xs h1 r.2 → Q (some (.int z)) h1) (e : FX12_row_b24 N s   = some r) : Rn d 299 (some .int) 24 [none, none, none, none, none, none, none] [] h Q := by
  have hT := hX12_row
  unfold FX12_row_b24 at e
  refine Rn.n hT 1 (pc' := 25) (L' := [none, none, none, none, none, none, none]) (st' := [.int (-1 : Int32)]) rfl ?_
  obtain rfl := Option.some.inj e
  exact Rn.ret hT rfl rfl rfl (hq (-1 : Int32) h L32_m1 hR)
def FX12_row_b56 (N : Nat) (s : iv_M)  (xs0 : Int) : Option (Int × iv_M) := (some (xs0, s))
set_option maxRecDepth 10000 in
set_option maxHeartbeats 4000000 in
theorem RX12_row_b56 {d N nc Ls : Nat} {Xs : Nat → Int32} (hd : 9 ≤ d) {h : iv_H} {s : iv_M} (hR : Rep nc Ls Xs h s)  {ms0 : Int32} {xs0 : Int} (ps0 : ms0.toInt = xs0) {r : Int × iv_M} {Q : Option Value → iv_H → Prop} (hq : ∀ (z : Int32) (h1 : iv_H), z.toInt = r.1 → Rep nc Ls Xs h1 r.2 → Q (some (.int z)) h1) (e : FX12_row_b56 N s  xs0 = some r) : Rn d 299 (some .int) 56 [none, none, none, none, none, none, none] [.int ms0] h Q := by
  have hT := hX12_row
  unfold FX12_row_b56 at e
  obtain rfl := Option.some.inj e
  exact Rn.ret hT rfl rfl rfl (hq ms0 h ps0 hR)
def FX12_row_b44 (N : Nat) (s : iv_M) (x4 : Int)  : Option (Int × iv_M) := (if 0 ≤ x4 then (FX12_row_b56 N s (-2)) else (FX12_row_b56 N s x4))
set_option maxRecDepth 10000 in
set_option maxHeartbeats 4000000 in
theorem RX12_row_b44 {d N nc Ls : Nat} {Xs : Nat → Int32} (hd : 9 ≤ d) {h : iv_H} {s : iv_M} (hR : Rep nc Ls Xs h s) {m4 : Int32} {x4 : Int} (p4 : m4.toInt = x4)  {r : Int × iv_M} {Q : Option Value → iv_H → Prop} (hq : ∀ (z : Int32) (h1 : iv_H), z.toInt = r.1 → Rep nc Ls Xs h1 r.2 → Q (some (.int z)) h1) (e : FX12_row_b44 N s x4  = some r) : Rn d 299 (some .int) 44 [none, none, none, none, some (.int m4), none, none] [] h Q := by
  have hT := hX12_row
  unfold FX12_row_b44 at e
  refine Rn.n hT 1 (pc' := 46) (L' := [none, none, none, none, some (.int m4), none, none]) (st' := [.int m4]) rfl ?_
  by_cases c_3687 : 0 ≤ x4
  · rw [if_pos c_3687] at e
    refine Rn.bt hT rfl rfl rfl (decide_eq_true ((ti_le L32_0 p4).mpr c_3687)) ?_
    refine Rn.n hT 1 (pc' := 56) (L' := [none, none, none, none, some (.int m4), none, none]) (st' := [.int (-2 : Int32)]) rfl ?_
    exact Rn.weak (ll_n (ll_n (ll_n (ll_n (ll_n (ll_n (ll_n ll_e))))))) (RX12_row_b56 hd hR L32_m2 hq e)
  · rw [if_neg c_3687] at e
    refine Rn.bf hT rfl rfl rfl (decide_eq_false (fun z => c_3687 ((ti_le L32_0 p4).mp z))) ?_
    refine Rn.n hT 2 (pc' := 56) (L' := [none, none, none, none, some (.int m4), none, none]) (st' := [.int m4]) rfl ?_
    exact Rn.weak (ll_n (ll_n (ll_n (ll_n (ll_n (ll_n (ll_n ll_e))))))) (RX12_row_b56 hd hR p4 hq e)
def FX12_row_l69 (N : Nat) (q0 : Nat) (x2 : Int) (x3 : Int) (kx : iv_M → Int → Option (Int × iv_M)) : Nat → iv_M → Int → Int → Option (Int × iv_M)
  | 0, _, _, _ => none
  | n + 1, s, x5, x6 => (if x6 ≤ x2 then (kx s x5) else ((rd s (q0 + 37) 1501 x5).bind fun v_3689 => (FX12_row_l69 N q0 x2 x3 kx n s v_3689 (w32 (x6 + (-1))))))
set_option maxRecDepth 10000 in
set_option maxHeartbeats 4000000 in
theorem RX12_row_l69 {d N nc Ls : Nat} {Xs : Nat → Int32} (hd : 9 ≤ d) {q0 : Nat} (t0 : T12 nc q0) {m2 : Int32} {x2 : Int} (p2 : m2.toInt = x2) {m3 : Int32} {x3 : Int} (p3 : m3.toInt = x3) {kx : iv_M → Int → Option (Int × iv_M)} {r : Int × iv_M} {Q : Option Value → iv_H → Prop} (hk : ∀ (h : iv_H) (s : iv_M) (hR : Rep nc Ls Xs h s) (m5 : Int32) (x5 : Int) (p5 : m5.toInt = x5), kx s x5 = some r → Rn d 299 (some .int) 90 [some (.ref q0), none, none, some (.int m3), none, some (.int m5), none] [] h Q) (hq : ∀ (z : Int32) (h1 : iv_H), z.toInt = r.1 → Rep nc Ls Xs h1 r.2 → Q (some (.int z)) h1) : ∀ (n : Nat) (h : iv_H) (s : iv_M) (hR : Rep nc Ls Xs h s) (m5 : Int32) (x5 : Int) (p5 : m5.toInt = x5) (m6 : Int32) (x6 : Int) (p6 : m6.toInt = x6), FX12_row_l69 N q0 x2 x3 kx n s x5 x6 = some r → Rn d 299 (some .int) 69 [some (.ref q0), none, some (.int m2), some (.int m3), none, some (.int m5), some (.int m6)] [] h Q := by
  have hT := hX12_row
  intro n
  induction n with
  | zero =>
    intro h s hR m5 x5 p5 m6 x6 p6 e
    rw [FX12_row_l69] at e
    cases e
  | succ n ih =>
    intro h s hR m5 x5 p5 m6 x6 p6 e
    rw [FX12_row_l69] at e
    refine Rn.n hT 2 (pc' := 72) (L' := [some (.ref q0), none, some (.int m2), some (.int m3), none, some (.int m5), some (.int m6)]) (st' := [.int m2, .int m6]) rfl ?_
    by_cases c_3688 : x6 ≤ x2
    · rw [if_pos c_3688] at e
      refine Rn.bt hT rfl rfl rfl (decide_eq_true ((ti_le p6 p2).mpr c_3688)) ?_
      exact Rn.weak (ll_s (ll_n (ll_n (ll_s (ll_n (ll_s (ll_n ll_e))))))) (hk h s hR m5 x5 p5 e)
    · rw [if_neg c_3688] at e
      refine Rn.bf hT rfl rfl rfl (decide_eq_false (fun z => c_3688 ((ti_le p6 p2).mp z))) ?_
      refine Rn.n hT 1 (pc' := 76) (L' := [some (.ref q0), none, some (.int m2), some (.int m3), none, some (.int m5), some (.int m6)]) (st' := [.ref q0]) rfl ?_
      refine Rn.hp hT rfl rfl (gR_hp (rp_gR hR (T12_o t0) rfl)) ?_
      refine Rn.n hT 1 (pc' := 81) (L' := [some (.ref q0), none, some (.int m2), some (.int m3), none, some (.int m5), some (.int m6)]) (st' := [.int m5, .ref (q0 + 37)]) rfl ?_
      obtain ⟨v_3689, e_3689, e⟩ := Option.bind_eq_some_iff.mp e
      obtain ⟨z_3689, g_3689, p_3689⟩ := rp_aI hR (T12_51 t0) (T12_51l t0) p5 e_3689
      refine Rn.hp hT rfl rfl (aI_hp g_3689) ?_
      refine Rn.n hT 3 (pc' := 69) (L' := [some (.ref q0), none, some (.int m2), some (.int m3), none, some (.int z_3689), some (.int (m6 + (-1 : Int32)))]) (st' := []) rfl ?_
      exact Rn.weak (ll_s (ll_n (ll_s (ll_s (ll_n (ll_s (ll_s ll_e))))))) (ih h s hR z_3689 v_3689 p_3689 (m6 + (-1 : Int32)) (w32 (x6 + (-1))) (ti_add p6 L32_m1) e)
def FX12_row (N : Nat) (s : iv_M) (q0 : Nat) (x1 : Int) (x2 : Int) (x3 : Int) : Option (Int × iv_M) := ((FX12_isDraft N s q0 x1).bind fun v_3673 => (if v_3673 = 0 then (FX12_row_b24 N s) else (if x2 < 0 then (FX12_row_b24 N s) else ((FX12_in N s x3 0 2).bind fun v_3676 => (if v_3676 = 0 then (FX12_row_b24 N s) else ((FX12_finds N s q0 x1).bind fun r_3678 => (fun (v_3678 : Int) (s_3679 : iv_M) => (if v_3678 < 0 then (FX12_row_b44 N s_3679 v_3678) else (if x2 < v_3678 then (FX12_row_l69 N q0 x2 x3 (fun (s_3683 : iv_M) (x3684_5 : Int) => ((rd s_3683 (q0 + 38) 1501 x3684_5).bind fun v_3685 => ((FX12_part N s_3683 v_3685 x3).bind fun v_3686 => (some (v_3686, s_3683))))) N s_3679 (s_3679 q0 58) (w32 (v_3678 - 1))) else (FX12_row_b44 N s_3679 v_3678)))) r_3678.1 r_3678.2))))))
set_option maxRecDepth 10000 in
set_option maxHeartbeats 4000000 in
theorem RX12_row {d N nc Ls : Nat} {Xs : Nat → Int32} (hd : 10 ≤ d) {h : iv_H} {s : iv_M} (hR : Rep nc Ls Xs h s) {q0 : Nat} (t0 : T12 nc q0) {m1 : Int32} {x1 : Int} (p1 : m1.toInt = x1) {m2 : Int32} {x2 : Int} (p2 : m2.toInt = x2) {m3 : Int32} {x3 : Int} (p3 : m3.toInt = x3) {r : Int × iv_M} {Q : Option Value → iv_H → Prop} (e : FX12_row N s q0 x1 x2 x3 = some r) (hq : ∀ (z : Int32) (h1 : iv_H), z.toInt = r.1 → Rep nc Ls Xs h1 r.2 → Q (some (.int z)) h1) : Cl d 299 [.ref q0, .int m1, .int m2, .int m3] h Q := by
  obtain ⟨d, rfl⟩ : ∃ k, d = k + 1 := ⟨d - 1, by omega⟩
  have hd : 9 ≤ d := by omega
  have hT := hX12_row
  unfold FX12_row at e
  refine Cl.into (by decide) gX12_row rfl ?_
  show Rn d 299 (some .int) 0 [some (.ref q0), some (.int m1), some (.int m2), some (.int m3), none, none, none] [] h Q
  refine Rn.n hT 2 (pc' := 2) (L' := [some (.ref q0), some (.int m1), some (.int m2), some (.int m3), none, none, none]) (st' := [.int m1, .ref q0]) rfl ?_
  obtain ⟨v_3673, e_3673, e⟩ := Option.bind_eq_some_iff.mp e
  refine Rn.call hT rfl rfl rfl (Nat.le_of_ble_eq_true rfl) (rcv_v gX12_isDraft (by omega) (rp_ck hR (T12_o t0))) (RX12_isDraft (by omega) hR t0 p1 e_3673 (fun z_3673 p_3673 => ?_))
  show Rn d _ _ 5 [some (.ref q0), some (.int m1), some (.int m2), some (.int m3), none, none, none] [.int z_3673] h Q
  by_cases c_3674 : v_3673 = 0
  · rw [if_pos c_3674] at e
    refine Rn.bt hT rfl rfl rfl (decide_eq_true ((ti_e p_3673 L32_0).mpr c_3674)) ?_
    exact Rn.weak (ll_n (ll_n (ll_n (ll_n (ll_n (ll_n (ll_n ll_e))))))) (RX12_row_b24 hd hR hq e)
  · rw [if_neg c_3674] at e
    refine Rn.bf hT rfl rfl rfl (decide_eq_false (fun z => c_3674 ((ti_e p_3673 L32_0).mp z))) ?_
    refine Rn.n hT 1 (pc' := 9) (L' := [some (.ref q0), some (.int m1), some (.int m2), some (.int m3), none, none, none]) (st' := [.int m2]) rfl ?_
    by_cases c_3675 : x2 < 0
    · rw [if_pos c_3675] at e
      refine Rn.bt hT rfl rfl rfl (decide_eq_true ((ti_l p2 L32_0).mpr c_3675)) ?_
      exact Rn.weak (ll_n (ll_n (ll_n (ll_n (ll_n (ll_n (ll_n ll_e))))))) (RX12_row_b24 hd hR hq e)
    · rw [if_neg c_3675] at e
      refine Rn.bf hT rfl rfl rfl (decide_eq_false (fun z => c_3675 ((ti_l p2 L32_0).mp z))) ?_
      refine Rn.n hT 4 (pc' := 18) (L' := [some (.ref q0), some (.int m1), some (.int m2), some (.int m3), none, none, none]) (st' := [.long (2 : Int64), .long (0 : Int64), .long ((m3).toInt64)]) rfl ?_
      obtain ⟨v_3676, e_3676, e⟩ := Option.bind_eq_some_iff.mp e
      refine Rn.call hT rfl rfl rfl (Nat.le_of_ble_eq_true rfl) rfl (RX12_in (by omega) hR (ti_j p3) L64_0 L64_2 e_3676 (fun z_3676 p_3676 => ?_))
      show Rn d _ _ 21 [some (.ref q0), some (.int m1), some (.int m2), some (.int m3), none, none, none] [.int z_3676] h Q
      by_cases c_3677 : v_3676 = 0
      · rw [if_pos c_3677] at e
        refine Rn.bf hT rfl rfl rfl (decide_eq_false (fun z => z ((ti_e p_3676 L32_0).mpr c_3677))) ?_
        exact Rn.weak (ll_n (ll_n (ll_n (ll_n (ll_n (ll_n (ll_n ll_e))))))) (RX12_row_b24 hd hR hq e)
      · rw [if_neg c_3677] at e
        refine Rn.bt hT rfl rfl rfl (decide_eq_true (fun z => c_3677 ((ti_e p_3676 L32_0).mp z))) ?_
        refine Rn.n hT 2 (pc' := 28) (L' := [some (.ref q0), some (.int m1), some (.int m2), some (.int m3), none, none, none]) (st' := [.int m1, .ref q0]) rfl ?_
        obtain ⟨⟨v_3678, s_3679⟩, e_3678, e⟩ := Option.bind_eq_some_iff.mp e
        try dsimp only at e
        try dsimp only at e
        refine Rn.call hT rfl rfl rfl (Nat.le_of_ble_eq_true rfl) (rcv_v gX12_finds (by omega) (rp_ck hR (T12_o t0))) (RX12_finds (by omega) hR t0 p1 e_3678 (fun z_3678 h_3679 p_3678 R_3679 => ?_))
        show Rn d _ _ 31 [some (.ref q0), some (.int m1), some (.int m2), some (.int m3), none, none, none] [.int z_3678] h_3679 Q
        refine Rn.n hT 2 (pc' := 35) (L' := [some (.ref q0), some (.int m1), some (.int m2), some (.int m3), some (.int z_3678), none, none]) (st' := [.int z_3678]) rfl ?_
        by_cases c_3680 : v_3678 < 0
        · rw [if_pos c_3680] at e
          refine Rn.bt hT rfl rfl rfl (decide_eq_true ((ti_l p_3678 L32_0).mpr c_3680)) ?_
          exact Rn.weak (ll_n (ll_n (ll_n (ll_n (ll_s (ll_n (ll_n ll_e))))))) (RX12_row_b44 hd R_3679 p_3678 hq e)
        · rw [if_neg c_3680] at e
          refine Rn.bf hT rfl rfl rfl (decide_eq_false (fun z => c_3680 ((ti_l p_3678 L32_0).mp z))) ?_
          refine Rn.n hT 2 (pc' := 41) (L' := [some (.ref q0), some (.int m1), some (.int m2), some (.int m3), some (.int z_3678), none, none]) (st' := [.int z_3678, .int m2]) rfl ?_
          by_cases c_3681 : x2 < v_3678
          · rw [if_pos c_3681] at e
            refine Rn.bt hT rfl rfl rfl (decide_eq_true ((ti_l p2 p_3678).mpr c_3681)) ?_
            refine Rn.n hT 1 (pc' := 58) (L' := [some (.ref q0), some (.int m1), some (.int m2), some (.int m3), some (.int z_3678), none, none]) (st' := [.ref q0]) rfl ?_
            obtain ⟨z_3682, g_3682, p_3682⟩ : ∃ z : Int32, gI h_3679 12 58 q0 = some z ∧ z.toInt = s_3679 q0 58 := rp_gI (k := 58) R_3679 (T12_o t0) rfl
            refine Rn.hp hT rfl rfl (gI_hp g_3682) ?_
            refine Rn.n hT 5 (pc' := 69) (L' := [some (.ref q0), some (.int m1), some (.int m2), some (.int m3), some (.int z_3678), some (.int z_3682), some (.int (z_3678 - (1 : Int32)))]) (st' := []) rfl ?_
            refine Rn.weak (ll_s (ll_n (ll_s (ll_s (ll_n (ll_s (ll_s ll_e))))))) (RX12_row_l69 hd t0 p2 p3 (fun h_3683 s_3683 R_3683 m3684_5 x3684_5 p3684_5 e => ?_) hq N h_3679 s_3679 R_3679 z_3682 (s_3679 q0 58) p_3682 (z_3678 - (1 : Int32)) (w32 (v_3678 - 1)) (ti_sub p_3678 L32_1) e)
            try dsimp only at e
            refine Rn.n hT 1 (pc' := 91) (L' := [some (.ref q0), none, none, some (.int m3), none, some (.int m3684_5), none]) (st' := [.ref q0]) rfl ?_
            refine Rn.hp hT rfl rfl (gR_hp (rp_gR R_3683 (T12_o t0) rfl)) ?_
            refine Rn.n hT 1 (pc' := 96) (L' := [some (.ref q0), none, none, some (.int m3), none, some (.int m3684_5), none]) (st' := [.int m3684_5, .ref (q0 + 38)]) rfl ?_
            obtain ⟨v_3685, e_3685, e⟩ := Option.bind_eq_some_iff.mp e
            obtain ⟨z_3685, g_3685, p_3685⟩ := rp_aI R_3683 (T12_52 t0) (T12_52l t0) p3684_5 e_3685
            refine Rn.hp hT rfl rfl (aI_hp g_3685) ?_
            refine Rn.n hT 1 (pc' := 98) (L' := [some (.ref q0), none, none, some (.int m3), none, some (.int m3684_5), none]) (st' := [.int m3, .int z_3685]) rfl ?_
            obtain ⟨v_3686, e_3686, e⟩ := Option.bind_eq_some_iff.mp e
            refine Rn.call hT rfl rfl rfl (Nat.le_of_ble_eq_true rfl) rfl (RX12_part (by omega) R_3683 p_3685 p3 e_3686 (fun z_3686 p_3686 => ?_))
            show Rn d _ _ 101 [some (.ref q0), none, none, some (.int m3), none, some (.int m3684_5), none] [.int z_3686] h_3683 Q
            obtain rfl := Option.some.inj e
            exact Rn.ret hT rfl rfl rfl (hq z_3686 h_3683 p_3686 R_3683)
          · rw [if_neg c_3681] at e
            refine Rn.bf hT rfl rfl rfl (decide_eq_false (fun z => c_3681 ((ti_l p2 p_3678).mp z))) ?_
            exact Rn.weak (ll_n (ll_n (ll_n (ll_n (ll_s (ll_n (ll_n ll_e))))))) (RX12_row_b44 hd R_3679 p_3678 hq e)
set_option maxRecDepth 10000 in
theorem hX12_emptyMany : iv_Tb 300 tX12_emptyMany := iv_tb_of (m := mX12_emptyMany) rfl
set_option maxRecDepth 10000 in
theorem gX12_emptyMany : PG.2 300 = some mX12_emptyMany := iv_pi_of (t := tX12_emptyMany) rfl (by decide)
def FX12_emptyMany (N : Nat) (s : iv_M) (q0 : Nat) : Option (Int) := ((rd s (q0 + 1) 14 0).bind fun v_3690 => ((rd s (q0 + 1) 14 1).bind fun v_3691 => ((rd s (q0 + 1) 14 2).bind fun v_3692 => (some (w32 ((w32 (v_3690 * v_3691)) - v_3692))))))
set_option maxRecDepth 10000 in
set_option maxHeartbeats 4000000 in
theorem RX12_emptyMany {d N nc Ls : Nat} {Xs : Nat → Int32} (hd : 1 ≤ d) {h : iv_H} {s : iv_M} (hR : Rep nc Ls Xs h s) {q0 : Nat} (t0 : T12 nc q0) {r : Int} {Q : Option Value → iv_H → Prop} (e : FX12_emptyMany N s q0 = some r) (hq : ∀ (z : Int32), z.toInt = r → Q (some (.int z)) h) : Cl d 300 [.ref q0] h Q := by
  obtain ⟨d, rfl⟩ : ∃ k, d = k + 1 := ⟨d - 1, by omega⟩
  have hd : 0 ≤ d := by omega
  have hT := hX12_emptyMany
  unfold FX12_emptyMany at e
  refine Cl.into (by decide) gX12_emptyMany rfl ?_
  show Rn d 300 (some .int) 0 [some (.ref q0)] [] h Q
  refine Rn.n hT 1 (pc' := 1) (L' := [some (.ref q0)]) (st' := [.ref q0]) rfl ?_
  refine Rn.hp hT rfl rfl (gR_hp (rp_gR hR (T12_o t0) rfl)) ?_
  refine Rn.n hT 1 (pc' := 5) (L' := [some (.ref q0)]) (st' := [.int (0 : Int32), .ref (q0 + 1)]) rfl ?_
  obtain ⟨v_3690, e_3690, e⟩ := Option.bind_eq_some_iff.mp e
  obtain ⟨z_3690, g_3690, p_3690⟩ := rp_aI hR (T12_1 t0) (T12_1l t0) L32_0 e_3690
  refine Rn.hp hT rfl rfl (aI_hp g_3690) ?_
  refine Rn.n hT 1 (pc' := 7) (L' := [some (.ref q0)]) (st' := [.ref q0, .int z_3690]) rfl ?_
  refine Rn.hp hT rfl rfl (gR_hp (rp_gR hR (T12_o t0) rfl)) ?_
  refine Rn.n hT 1 (pc' := 11) (L' := [some (.ref q0)]) (st' := [.int (1 : Int32), .ref (q0 + 1), .int z_3690]) rfl ?_
  obtain ⟨v_3691, e_3691, e⟩ := Option.bind_eq_some_iff.mp e
  obtain ⟨z_3691, g_3691, p_3691⟩ := rp_aI hR (T12_1 t0) (T12_1l t0) L32_1 e_3691
  refine Rn.hp hT rfl rfl (aI_hp g_3691) ?_
  refine Rn.n hT 2 (pc' := 14) (L' := [some (.ref q0)]) (st' := [.ref q0, .int (z_3690 * z_3691)]) rfl ?_
  refine Rn.hp hT rfl rfl (gR_hp (rp_gR hR (T12_o t0) rfl)) ?_
  refine Rn.n hT 1 (pc' := 18) (L' := [some (.ref q0)]) (st' := [.int (2 : Int32), .ref (q0 + 1), .int (z_3690 * z_3691)]) rfl ?_
  obtain ⟨v_3692, e_3692, e⟩ := Option.bind_eq_some_iff.mp e
  obtain ⟨z_3692, g_3692, p_3692⟩ := rp_aI hR (T12_1 t0) (T12_1l t0) L32_2 e_3692
  refine Rn.hp hT rfl rfl (aI_hp g_3692) ?_
  refine Rn.n hT 1 (pc' := 20) (L' := [some (.ref q0)]) (st' := [.int ((z_3690 * z_3691) - z_3692)]) rfl ?_
  obtain rfl := Option.some.inj e
  exact Rn.ret hT rfl rfl rfl (hq ((z_3690 * z_3691) - z_3692) (ti_sub (ti_mul p_3690 p_3691) p_3692))
set_option maxRecDepth 10000 in
theorem hX12_canBySlides : iv_Tb 301 tX12_canBySlides := iv_tb_of (m := mX12_canBySlides) rfl
set_option maxRecDepth 10000 in
theorem gX12_canBySlides : PG.2 301 = some mX12_canBySlides := iv_pi_of (t := tX12_canBySlides) rfl (by decide)
def FX12_canBySlides_b52 (N : Nat) (s : iv_M) (q0 : Nat) (x1 : Int) (x2 : Int) (xs0 : Int) (xs1 : Int) (qs2 : Nat) (kb : iv_M → Int → Option (Int × iv_M)) (kx : iv_M → Option (Int × iv_M)) : Option (Int × iv_M) := ((wr s qs2 ((sh qs2).2 : Int) xs1 xs0).bind fun s_3712 => (kb s_3712 (w32 (x2 + 1))))
set_option maxRecDepth 10000 in
set_option maxHeartbeats 4000000 in
theorem RX12_canBySlides_b52 {d N nc Ls : Nat} {Xs : Nat → Int32} (hd : 3 ≤ d) {h : iv_H} {s : iv_M} (hR : Rep nc Ls Xs h s) {q0 : Nat} (t0 : T12 nc q0) {m1 : Int32} {x1 : Int} (p1 : m1.toInt = x1) {m2 : Int32} {x2 : Int} (p2 : m2.toInt = x2) {ms0 : Int32} {xs0 : Int} (ps0 : ms0.toInt = xs0) {ms1 : Int32} {xs1 : Int} (ps1 : ms1.toInt = xs1) {qs2 : Nat} (ts2 : TA 0 nc qs2) {kb : iv_M → Int → Option (Int × iv_M)} {kx : iv_M → Option (Int × iv_M)} {r : Int × iv_M} {Q : Option Value → iv_H → Prop} (hb : ∀ (h : iv_H) (s : iv_M) (hR : Rep nc Ls Xs h s) (mw2 : Int32) (xw2 : Int) (pw2 : mw2.toInt = xw2), kb s xw2 = some r → Rn d 301 (some .boolean) 2 [some (.ref q0), some (.int m1), some (.int mw2), none, none, none, none] [] h Q) (hk : ∀ (h : iv_H) (s : iv_M) (hR : Rep nc Ls Xs h s), kx s = some r → Rn d 301 (some .boolean) 59 [some (.ref q0), some (.int m1), none, none, none, none, none] [] h Q) (hq : ∀ (z : Int32) (h1 : iv_H), z.toInt = r.1 → Rep nc Ls Xs h1 r.2 → Q (some (.int z)) h1) (e : FX12_canBySlides_b52 N s q0 x1 x2 xs0 xs1 qs2 kb kx = some r) : Rn d 301 (some .boolean) 52 [some (.ref q0), some (.int m1), some (.int m2), none, none, none, none] [.int ms0, .int ms1, .ref qs2] h Q := by
  have hT := hX12_canBySlides
  unfold FX12_canBySlides_b52 at e
  obtain ⟨s_3712, e_3713, e⟩ := Option.bind_eq_some_iff.mp e
  obtain ⟨h_3712, g_3713, R_3712⟩ := rp_wI hR ts2 rfl ps1 ps0 e_3713
  refine Rn.hp hT rfl rfl (wI_hp g_3713) ?_
  refine Rn.n hT 2 (pc' := 2) (L' := [some (.ref q0), some (.int m1), some (.int (m2 + (1 : Int32))), none, none, none, none]) (st' := []) rfl ?_
  exact Rn.weak (ll_s (ll_s (ll_s (ll_n (ll_n (ll_n (ll_n ll_e))))))) (hb h_3712 s_3712 R_3712 (m2 + (1 : Int32)) (w32 (x2 + 1)) (ti_add p2 L32_1) e)
def FX12_canBySlides_b32 (N : Nat) (s : iv_M) (q0 : Nat) (x1 : Int) (x2 : Int) (xs0 : Int) (xs1 : Int) (qs2 : Nat) (kb : iv_M → Int → Option (Int × iv_M)) (kx : iv_M → Option (Int × iv_M)) : Option (Int × iv_M) := ((wr s qs2 ((sh qs2).2 : Int) xs1 xs0).bind fun s_3708 => ((FX12_isFloor N s_3708 q0 x2).bind fun v_3710 => (if v_3710 = 0 then (FX12_canBySlides_b52 N s_3708 q0 x1 x2 (-2) x2 (q0 + 42) kb kx) else (FX12_canBySlides_b52 N s_3708 q0 x1 x2 (-1) x2 (q0 + 42) kb kx))))
set_option maxRecDepth 10000 in
set_option maxHeartbeats 4000000 in
theorem RX12_canBySlides_b32 {d N nc Ls : Nat} {Xs : Nat → Int32} (hd : 3 ≤ d) {h : iv_H} {s : iv_M} (hR : Rep nc Ls Xs h s) {q0 : Nat} (t0 : T12 nc q0) {m1 : Int32} {x1 : Int} (p1 : m1.toInt = x1) {m2 : Int32} {x2 : Int} (p2 : m2.toInt = x2) {ms0 : Int32} {xs0 : Int} (ps0 : ms0.toInt = xs0) {ms1 : Int32} {xs1 : Int} (ps1 : ms1.toInt = xs1) {qs2 : Nat} (ts2 : TA 0 nc qs2) {kb : iv_M → Int → Option (Int × iv_M)} {kx : iv_M → Option (Int × iv_M)} {r : Int × iv_M} {Q : Option Value → iv_H → Prop} (hb : ∀ (h : iv_H) (s : iv_M) (hR : Rep nc Ls Xs h s) (mw2 : Int32) (xw2 : Int) (pw2 : mw2.toInt = xw2), kb s xw2 = some r → Rn d 301 (some .boolean) 2 [some (.ref q0), some (.int m1), some (.int mw2), none, none, none, none] [] h Q) (hk : ∀ (h : iv_H) (s : iv_M) (hR : Rep nc Ls Xs h s), kx s = some r → Rn d 301 (some .boolean) 59 [some (.ref q0), some (.int m1), none, none, none, none, none] [] h Q) (hq : ∀ (z : Int32) (h1 : iv_H), z.toInt = r.1 → Rep nc Ls Xs h1 r.2 → Q (some (.int z)) h1) (e : FX12_canBySlides_b32 N s q0 x1 x2 xs0 xs1 qs2 kb kx = some r) : Rn d 301 (some .boolean) 32 [some (.ref q0), some (.int m1), some (.int m2), none, none, none, none] [.int ms0, .int ms1, .ref qs2] h Q := by
  have hT := hX12_canBySlides
  unfold FX12_canBySlides_b32 at e
  obtain ⟨s_3708, e_3709, e⟩ := Option.bind_eq_some_iff.mp e
  obtain ⟨h_3708, g_3709, R_3708⟩ := rp_wI hR ts2 rfl ps1 ps0 e_3709
  refine Rn.hp hT rfl rfl (wI_hp g_3709) ?_
  refine Rn.n hT 1 (pc' := 34) (L' := [some (.ref q0), some (.int m1), some (.int m2), none, none, none, none]) (st' := [.ref q0]) rfl ?_
  refine Rn.hp hT rfl rfl (gR_hp (rp_gR R_3708 (T12_o t0) rfl)) ?_
  refine Rn.n hT 3 (pc' := 40) (L' := [some (.ref q0), some (.int m1), some (.int m2), none, none, none, none]) (st' := [.int m2, .ref q0, .int m2, .ref (q0 + 42)]) rfl ?_
  obtain ⟨v_3710, e_3710, e⟩ := Option.bind_eq_some_iff.mp e
  refine Rn.call hT rfl rfl rfl (Nat.le_of_ble_eq_true rfl) (rcv_v gX12_isFloor (by omega) (rp_ck R_3708 (T12_o t0))) (RX12_isFloor (by omega) R_3708 t0 p2 e_3710 (fun z_3710 p_3710 => ?_))
  show Rn d _ _ 43 [some (.ref q0), some (.int m1), some (.int m2), none, none, none, none] [.int z_3710, .int m2, .ref (q0 + 42)] h_3708 Q
  by_cases c_3711 : v_3710 = 0
  · rw [if_pos c_3711] at e
    refine Rn.bt hT rfl rfl rfl (decide_eq_true ((ti_e p_3710 L32_0).mpr c_3711)) ?_
    refine Rn.n hT 1 (pc' := 52) (L' := [some (.ref q0), some (.int m1), some (.int m2), none, none, none, none]) (st' := [.int (-2 : Int32), .int m2, .ref (q0 + 42)]) rfl ?_
    exact Rn.weak (ll_s (ll_s (ll_s (ll_n (ll_n (ll_n (ll_n ll_e))))))) (RX12_canBySlides_b52 hd R_3708 t0 p1 p2 L32_m2 p2 (T12_59 t0) hb hk hq e)
  · rw [if_neg c_3711] at e
    refine Rn.bf hT rfl rfl rfl (decide_eq_false (fun z => c_3711 ((ti_e p_3710 L32_0).mp z))) ?_
    refine Rn.n hT 2 (pc' := 52) (L' := [some (.ref q0), some (.int m1), some (.int m2), none, none, none, none]) (st' := [.int (-1 : Int32), .int m2, .ref (q0 + 42)]) rfl ?_
    exact Rn.weak (ll_s (ll_s (ll_s (ll_n (ll_n (ll_n (ll_n ll_e))))))) (RX12_canBySlides_b52 hd R_3708 t0 p1 p2 L32_m1 p2 (T12_59 t0) hb hk hq e)
def FX12_canBySlides_l2 (N : Nat) (q0 : Nat) (x1 : Int) (kx : iv_M → Option (Int × iv_M)) : Nat → iv_M → Int → Option (Int × iv_M)
  | 0, _, _ => none
  | n + 1, s, x2 => (if 16 ≤ x2 then (kx s) else ((FX12_isFloor N s q0 x2).bind fun v_3705 => (if v_3705 = 0 then (FX12_canBySlides_b32 N s q0 x1 x2 (-2) x2 (q0 + 43) (FX12_canBySlides_l2 N q0 x1 kx n) kx) else ((rd s (q0 + 8) 16 x2).bind fun v_3707 => (FX12_canBySlides_b32 N s q0 x1 x2 v_3707 x2 (q0 + 43) (FX12_canBySlides_l2 N q0 x1 kx n) kx)))))
set_option maxRecDepth 10000 in
set_option maxHeartbeats 4000000 in
theorem RX12_canBySlides_l2 {d N nc Ls : Nat} {Xs : Nat → Int32} (hd : 3 ≤ d) {q0 : Nat} (t0 : T12 nc q0) {m1 : Int32} {x1 : Int} (p1 : m1.toInt = x1) {kx : iv_M → Option (Int × iv_M)} {r : Int × iv_M} {Q : Option Value → iv_H → Prop} (hk : ∀ (h : iv_H) (s : iv_M) (hR : Rep nc Ls Xs h s), kx s = some r → Rn d 301 (some .boolean) 59 [some (.ref q0), some (.int m1), none, none, none, none, none] [] h Q) (hq : ∀ (z : Int32) (h1 : iv_H), z.toInt = r.1 → Rep nc Ls Xs h1 r.2 → Q (some (.int z)) h1) : ∀ (n : Nat) (h : iv_H) (s : iv_M) (hR : Rep nc Ls Xs h s) (m2 : Int32) (x2 : Int) (p2 : m2.toInt = x2), FX12_canBySlides_l2 N q0 x1 kx n s x2 = some r → Rn d 301 (some .boolean) 2 [some (.ref q0), some (.int m1), some (.int m2), none, none, none, none] [] h Q := by
  have hT := hX12_canBySlides
  intro n
  induction n with
  | zero =>
    intro h s hR m2 x2 p2 e
    rw [FX12_canBySlides_l2] at e
    cases e
  | succ n ih =>
    intro h s hR m2 x2 p2 e
    rw [FX12_canBySlides_l2] at e
    refine Rn.n hT 2 (pc' := 5) (L' := [some (.ref q0), some (.int m1), some (.int m2), none, none, none, none]) (st' := [.int (16 : Int32), .int m2]) rfl ?_
    by_cases c_3704 : 16 ≤ x2
    · rw [if_pos c_3704] at e
      refine Rn.bt hT rfl rfl rfl (decide_eq_true ((ti_le L32_16 p2).mpr c_3704)) ?_
      exact Rn.weak (ll_s (ll_s (ll_n (ll_n (ll_n (ll_n (ll_n ll_e))))))) (hk h s hR e)
    · rw [if_neg c_3704] at e
      refine Rn.bf hT rfl rfl rfl (decide_eq_false (fun z => c_3704 ((ti_le L32_16 p2).mp z))) ?_
      refine Rn.n hT 1 (pc' := 9) (L' := [some (.ref q0), some (.int m1), some (.int m2), none, none, none, none]) (st' := [.ref q0]) rfl ?_
      refine Rn.hp hT rfl rfl (gR_hp (rp_gR hR (T12_o t0) rfl)) ?_
      refine Rn.n hT 3 (pc' := 15) (L' := [some (.ref q0), some (.int m1), some (.int m2), none, none, none, none]) (st' := [.int m2, .ref q0, .int m2, .ref (q0 + 43)]) rfl ?_
      obtain ⟨v_3705, e_3705, e⟩ := Option.bind_eq_some_iff.mp e
      refine Rn.call hT rfl rfl rfl (Nat.le_of_ble_eq_true rfl) (rcv_v gX12_isFloor (by omega) (rp_ck hR (T12_o t0))) (RX12_isFloor (by omega) hR t0 p2 e_3705 (fun z_3705 p_3705 => ?_))
      show Rn d _ _ 18 [some (.ref q0), some (.int m1), some (.int m2), none, none, none, none] [.int z_3705, .int m2, .ref (q0 + 43)] h Q
      by_cases c_3706 : v_3705 = 0
      · rw [if_pos c_3706] at e
        refine Rn.bt hT rfl rfl rfl (decide_eq_true ((ti_e p_3705 L32_0).mpr c_3706)) ?_
        refine Rn.n hT 1 (pc' := 32) (L' := [some (.ref q0), some (.int m1), some (.int m2), none, none, none, none]) (st' := [.int (-2 : Int32), .int m2, .ref (q0 + 43)]) rfl ?_
        exact Rn.weak (ll_s (ll_s (ll_s (ll_n (ll_n (ll_n (ll_n ll_e))))))) (RX12_canBySlides_b32 hd hR t0 p1 p2 L32_m2 p2 (T12_60 t0) ih hk hq e)
      · rw [if_neg c_3706] at e
        refine Rn.bf hT rfl rfl rfl (decide_eq_false (fun z => c_3706 ((ti_e p_3705 L32_0).mp z))) ?_
        refine Rn.n hT 1 (pc' := 22) (L' := [some (.ref q0), some (.int m1), some (.int m2), none, none, none, none]) (st' := [.ref q0, .int m2, .ref (q0 + 43)]) rfl ?_
        refine Rn.hp hT rfl rfl (gR_hp (rp_gR hR (T12_o t0) rfl)) ?_
        refine Rn.n hT 1 (pc' := 26) (L' := [some (.ref q0), some (.int m1), some (.int m2), none, none, none, none]) (st' := [.int m2, .ref (q0 + 8), .int m2, .ref (q0 + 43)]) rfl ?_
        obtain ⟨v_3707, e_3707, e⟩ := Option.bind_eq_some_iff.mp e
        obtain ⟨z_3707, g_3707, p_3707⟩ := rp_aI hR (T12_8 t0) (T12_8l t0) p2 e_3707
        refine Rn.hp hT rfl rfl (aI_hp g_3707) ?_
        refine Rn.n hT 1 (pc' := 32) (L' := [some (.ref q0), some (.int m1), some (.int m2), none, none, none, none]) (st' := [.int z_3707, .int m2, .ref (q0 + 43)]) rfl ?_
        exact Rn.weak (ll_s (ll_s (ll_s (ll_n (ll_n (ll_n (ll_n ll_e))))))) (RX12_canBySlides_b32 hd hR t0 p1 p2 p_3707 p2 (T12_60 t0) ih hk hq e)
def FX12_canBySlides_l61 (N : Nat) (q0 : Nat) (x1 : Int) (kx : iv_M → Option (Int × iv_M)) : Nat → iv_M → Int → Option (Int × iv_M)
  | 0, _, _ => none
  | n + 1, s, x2 => ((rd s (q0 + 1) 14 2).bind fun v_3714 => (if v_3714 ≤ x2 then (kx s) else ((rd s (q0 + 10) 96 (w32 ((w32 (24 * x1)) + (w32 (2 * x2))))).bind fun v_3716 => ((wr s (q0 + 42) 16 v_3716 x2).bind fun s_3717 => (FX12_canBySlides_l61 N q0 x1 kx n s_3717 (w32 (x2 + 1)))))))
set_option maxRecDepth 10000 in
set_option maxHeartbeats 4000000 in
theorem RX12_canBySlides_l61 {d N nc Ls : Nat} {Xs : Nat → Int32} (hd : 3 ≤ d) {q0 : Nat} (t0 : T12 nc q0) {m1 : Int32} {x1 : Int} (p1 : m1.toInt = x1) {kx : iv_M → Option (Int × iv_M)} {r : Int × iv_M} {Q : Option Value → iv_H → Prop} (hk : ∀ (h : iv_H) (s : iv_M) (hR : Rep nc Ls Xs h s), kx s = some r → Rn d 301 (some .boolean) 96 [some (.ref q0), none, none, none, none, none, none] [] h Q) (hq : ∀ (z : Int32) (h1 : iv_H), z.toInt = r.1 → Rep nc Ls Xs h1 r.2 → Q (some (.int z)) h1) : ∀ (n : Nat) (h : iv_H) (s : iv_M) (hR : Rep nc Ls Xs h s) (m2 : Int32) (x2 : Int) (p2 : m2.toInt = x2), FX12_canBySlides_l61 N q0 x1 kx n s x2 = some r → Rn d 301 (some .boolean) 61 [some (.ref q0), some (.int m1), some (.int m2), none, none, none, none] [] h Q := by
  have hT := hX12_canBySlides
  intro n
  induction n with
  | zero =>
    intro h s hR m2 x2 p2 e
    rw [FX12_canBySlides_l61] at e
    cases e
  | succ n ih =>
    intro h s hR m2 x2 p2 e
    rw [FX12_canBySlides_l61] at e
    refine Rn.n hT 2 (pc' := 63) (L' := [some (.ref q0), some (.int m1), some (.int m2), none, none, none, none]) (st' := [.ref q0, .int m2]) rfl ?_
    refine Rn.hp hT rfl rfl (gR_hp (rp_gR hR (T12_o t0) rfl)) ?_
    refine Rn.n hT 1 (pc' := 67) (L' := [some (.ref q0), some (.int m1), some (.int m2), none, none, none, none]) (st' := [.int (2 : Int32), .ref (q0 + 1), .int m2]) rfl ?_
    obtain ⟨v_3714, e_3714, e⟩ := Option.bind_eq_some_iff.mp e
    obtain ⟨z_3714, g_3714, p_3714⟩ := rp_aI hR (T12_1 t0) (T12_1l t0) L32_2 e_3714
    refine Rn.hp hT rfl rfl (aI_hp g_3714) ?_
    by_cases c_3715 : v_3714 ≤ x2
    · rw [if_pos c_3715] at e
      refine Rn.bt hT rfl rfl rfl (decide_eq_true ((ti_le p_3714 p2).mpr c_3715)) ?_
      exact Rn.weak (ll_s (ll_n (ll_n (ll_n (ll_n (ll_n (ll_n ll_e))))))) (hk h s hR e)
    · rw [if_neg c_3715] at e
      refine Rn.bf hT rfl rfl rfl (decide_eq_false (fun z => c_3715 ((ti_le p_3714 p2).mp z))) ?_
      refine Rn.n hT 1 (pc' := 72) (L' := [some (.ref q0), some (.int m1), some (.int m2), none, none, none, none]) (st' := [.ref q0]) rfl ?_
      refine Rn.hp hT rfl rfl (gR_hp (rp_gR hR (T12_o t0) rfl)) ?_
      refine Rn.n hT 1 (pc' := 76) (L' := [some (.ref q0), some (.int m1), some (.int m2), none, none, none, none]) (st' := [.ref q0, .ref (q0 + 42)]) rfl ?_
      refine Rn.hp hT rfl rfl (gR_hp (rp_gR hR (T12_o t0) rfl)) ?_
      refine Rn.n hT 7 (pc' := 87) (L' := [some (.ref q0), some (.int m1), some (.int m2), none, none, none, none]) (st' := [.int (((24 : Int32) * m1) + ((2 : Int32) * m2)), .ref (q0 + 10), .ref (q0 + 42)]) rfl ?_
      obtain ⟨v_3716, e_3716, e⟩ := Option.bind_eq_some_iff.mp e
      obtain ⟨z_3716, g_3716, p_3716⟩ := rp_aI hR (T12_10 t0) (T12_10l t0) (ti_add (ti_mul L32_24 p1) (ti_mul L32_2 p2)) e_3716
      refine Rn.hp hT rfl rfl (aI_hp g_3716) ?_
      refine Rn.n hT 1 (pc' := 89) (L' := [some (.ref q0), some (.int m1), some (.int m2), none, none, none, none]) (st' := [.int m2, .int z_3716, .ref (q0 + 42)]) rfl ?_
      obtain ⟨s_3717, e_3718, e⟩ := Option.bind_eq_some_iff.mp e
      obtain ⟨h_3717, g_3718, R_3717⟩ := rp_wI hR (T12_59 t0) (T12_59l t0) p_3716 p2 e_3718
      refine Rn.hp hT rfl rfl (wI_hp g_3718) ?_
      refine Rn.n hT 2 (pc' := 61) (L' := [some (.ref q0), some (.int m1), some (.int (m2 + (1 : Int32))), none, none, none, none]) (st' := []) rfl ?_
      exact Rn.weak (ll_s (ll_s (ll_s (ll_n (ll_n (ll_n (ll_n ll_e))))))) (ih h_3717 s_3717 R_3717 (m2 + (1 : Int32)) (w32 (x2 + 1)) (ti_add p2 L32_1) e)
def FX12_canBySlides_b145 (N : Nat) (s : iv_M) (q0 : Nat) (x2 : Int) (x4 : Int) (xs0 : Int) (kb : iv_M → Int → Int → Int → Option (Int × iv_M)) (kx : iv_M → Int → Int → Option (Int × iv_M)) : Option (Int × iv_M) := (kb s x2 xs0 (w32 (x4 + 1)))
set_option maxRecDepth 10000 in
set_option maxHeartbeats 4000000 in
theorem RX12_canBySlides_b145 {d N nc Ls : Nat} {Xs : Nat → Int32} (hd : 3 ≤ d) {h : iv_H} {s : iv_M} (hR : Rep nc Ls Xs h s) {q0 : Nat} (t0 : T12 nc q0) {m2 : Int32} {x2 : Int} (p2 : m2.toInt = x2) {m4 : Int32} {x4 : Int} (p4 : m4.toInt = x4) {ms0 : Int32} {xs0 : Int} (ps0 : ms0.toInt = xs0) {kb : iv_M → Int → Int → Int → Option (Int × iv_M)} {kx : iv_M → Int → Int → Option (Int × iv_M)} {r : Int × iv_M} {Q : Option Value → iv_H → Prop} (hb : ∀ (h : iv_H) (s : iv_M) (hR : Rep nc Ls Xs h s) (mw2 : Int32) (xw2 : Int) (pw2 : mw2.toInt = xw2) (mw3 : Int32) (xw3 : Int) (pw3 : mw3.toInt = xw3) (mw4 : Int32) (xw4 : Int) (pw4 : mw4.toInt = xw4), kb s xw2 xw3 xw4 = some r → Rn d 301 (some .boolean) 103 [some (.ref q0), none, some (.int mw2), some (.int mw3), some (.int mw4), none, none] [] h Q) (hk : ∀ (h : iv_H) (s : iv_M) (hR : Rep nc Ls Xs h s) (mw2 : Int32) (xw2 : Int) (pw2 : mw2.toInt = xw2) (mw3 : Int32) (xw3 : Int) (pw3 : mw3.toInt = xw3), kx s xw2 xw3 = some r → Rn d 301 (some .boolean) 152 [some (.ref q0), none, some (.int mw2), some (.int mw3), none, none, none] [] h Q) (hq : ∀ (z : Int32) (h1 : iv_H), z.toInt = r.1 → Rep nc Ls Xs h1 r.2 → Q (some (.int z)) h1) (e : FX12_canBySlides_b145 N s q0 x2 x4 xs0 kb kx = some r) : Rn d 301 (some .boolean) 145 [some (.ref q0), none, some (.int m2), none, some (.int m4), none, none] [.int ms0] h Q := by
  have hT := hX12_canBySlides
  unfold FX12_canBySlides_b145 at e
  refine Rn.n hT 3 (pc' := 103) (L' := [some (.ref q0), none, some (.int m2), some (.int ms0), some (.int (m4 + (1 : Int32))), none, none]) (st' := []) rfl ?_
  exact Rn.weak (ll_s (ll_n (ll_s (ll_s (ll_s (ll_n (ll_n ll_e))))))) (hb h s hR m2 x2 p2 ms0 xs0 ps0 (m4 + (1 : Int32)) (w32 (x4 + 1)) (ti_add p4 L32_1) e)
def FX12_canBySlides_b127 (N : Nat) (s : iv_M) (q0 : Nat) (x3 : Int) (x4 : Int) (xs0 : Int) (kb : iv_M → Int → Int → Int → Option (Int × iv_M)) (kx : iv_M → Int → Int → Option (Int × iv_M)) : Option (Int × iv_M) := ((rd s (q0 + 42) 16 x4).bind fun v_3722 => (if v_3722 = (-1) then (FX12_canBySlides_b145 N s q0 xs0 x4 x4 kb kx) else (FX12_canBySlides_b145 N s q0 xs0 x4 x3 kb kx)))
set_option maxRecDepth 10000 in
set_option maxHeartbeats 4000000 in
theorem RX12_canBySlides_b127 {d N nc Ls : Nat} {Xs : Nat → Int32} (hd : 3 ≤ d) {h : iv_H} {s : iv_M} (hR : Rep nc Ls Xs h s) {q0 : Nat} (t0 : T12 nc q0) {m3 : Int32} {x3 : Int} (p3 : m3.toInt = x3) {m4 : Int32} {x4 : Int} (p4 : m4.toInt = x4) {ms0 : Int32} {xs0 : Int} (ps0 : ms0.toInt = xs0) {kb : iv_M → Int → Int → Int → Option (Int × iv_M)} {kx : iv_M → Int → Int → Option (Int × iv_M)} {r : Int × iv_M} {Q : Option Value → iv_H → Prop} (hb : ∀ (h : iv_H) (s : iv_M) (hR : Rep nc Ls Xs h s) (mw2 : Int32) (xw2 : Int) (pw2 : mw2.toInt = xw2) (mw3 : Int32) (xw3 : Int) (pw3 : mw3.toInt = xw3) (mw4 : Int32) (xw4 : Int) (pw4 : mw4.toInt = xw4), kb s xw2 xw3 xw4 = some r → Rn d 301 (some .boolean) 103 [some (.ref q0), none, some (.int mw2), some (.int mw3), some (.int mw4), none, none] [] h Q) (hk : ∀ (h : iv_H) (s : iv_M) (hR : Rep nc Ls Xs h s) (mw2 : Int32) (xw2 : Int) (pw2 : mw2.toInt = xw2) (mw3 : Int32) (xw3 : Int) (pw3 : mw3.toInt = xw3), kx s xw2 xw3 = some r → Rn d 301 (some .boolean) 152 [some (.ref q0), none, some (.int mw2), some (.int mw3), none, none, none] [] h Q) (hq : ∀ (z : Int32) (h1 : iv_H), z.toInt = r.1 → Rep nc Ls Xs h1 r.2 → Q (some (.int z)) h1) (e : FX12_canBySlides_b127 N s q0 x3 x4 xs0 kb kx = some r) : Rn d 301 (some .boolean) 127 [some (.ref q0), none, none, some (.int m3), some (.int m4), none, none] [.int ms0] h Q := by
  have hT := hX12_canBySlides
  unfold FX12_canBySlides_b127 at e
  refine Rn.n hT 2 (pc' := 129) (L' := [some (.ref q0), none, some (.int ms0), some (.int m3), some (.int m4), none, none]) (st' := [.ref q0]) rfl ?_
  refine Rn.hp hT rfl rfl (gR_hp (rp_gR hR (T12_o t0) rfl)) ?_
  refine Rn.n hT 1 (pc' := 134) (L' := [some (.ref q0), none, some (.int ms0), some (.int m3), some (.int m4), none, none]) (st' := [.int m4, .ref (q0 + 42)]) rfl ?_
  obtain ⟨v_3722, e_3722, e⟩ := Option.bind_eq_some_iff.mp e
  obtain ⟨z_3722, g_3722, p_3722⟩ := rp_aI hR (T12_59 t0) (T12_59l t0) p4 e_3722
  refine Rn.hp hT rfl rfl (aI_hp g_3722) ?_
  refine Rn.n hT 1 (pc' := 136) (L' := [some (.ref q0), none, some (.int ms0), some (.int m3), some (.int m4), none, none]) (st' := [.int (-1 : Int32), .int z_3722]) rfl ?_
  by_cases c_3723 : v_3722 = (-1)
  · rw [if_pos c_3723] at e
    refine Rn.bf hT rfl rfl rfl (decide_eq_false (fun z => z ((ti_e p_3722 L32_m1).mpr c_3723))) ?_
    refine Rn.n hT 2 (pc' := 145) (L' := [some (.ref q0), none, some (.int ms0), some (.int m3), some (.int m4), none, none]) (st' := [.int m4]) rfl ?_
    exact Rn.weak (ll_s (ll_n (ll_s (ll_n (ll_s (ll_n (ll_n ll_e))))))) (RX12_canBySlides_b145 hd hR t0 ps0 p4 p4 hb hk hq e)
  · rw [if_neg c_3723] at e
    refine Rn.bt hT rfl rfl rfl (decide_eq_true (fun z => c_3723 ((ti_e p_3722 L32_m1).mp z))) ?_
    refine Rn.n hT 1 (pc' := 145) (L' := [some (.ref q0), none, some (.int ms0), some (.int m3), some (.int m4), none, none]) (st' := [.int m3]) rfl ?_
    exact Rn.weak (ll_s (ll_n (ll_s (ll_n (ll_s (ll_n (ll_n ll_e))))))) (RX12_canBySlides_b145 hd hR t0 ps0 p4 p3 hb hk hq e)
def FX12_canBySlides_l103 (N : Nat) (q0 : Nat) (kx : iv_M → Int → Int → Option (Int × iv_M)) : Nat → iv_M → Int → Int → Int → Option (Int × iv_M)
  | 0, _, _, _, _ => none
  | n + 1, s, x2, x3, x4 => (if 16 ≤ x4 then (kx s x2 x3) else ((rd s (q0 + 43) 16 x4).bind fun v_3720 => (if v_3720 = (-1) then (FX12_canBySlides_b127 N s q0 x3 x4 x4 (FX12_canBySlides_l103 N q0 kx n) kx) else (FX12_canBySlides_b127 N s q0 x3 x4 x2 (FX12_canBySlides_l103 N q0 kx n) kx))))
set_option maxRecDepth 10000 in
set_option maxHeartbeats 4000000 in
theorem RX12_canBySlides_l103 {d N nc Ls : Nat} {Xs : Nat → Int32} (hd : 3 ≤ d) {q0 : Nat} (t0 : T12 nc q0) {kx : iv_M → Int → Int → Option (Int × iv_M)} {r : Int × iv_M} {Q : Option Value → iv_H → Prop} (hk : ∀ (h : iv_H) (s : iv_M) (hR : Rep nc Ls Xs h s) (m2 : Int32) (x2 : Int) (p2 : m2.toInt = x2) (m3 : Int32) (x3 : Int) (p3 : m3.toInt = x3), kx s x2 x3 = some r → Rn d 301 (some .boolean) 152 [some (.ref q0), none, some (.int m2), some (.int m3), none, none, none] [] h Q) (hq : ∀ (z : Int32) (h1 : iv_H), z.toInt = r.1 → Rep nc Ls Xs h1 r.2 → Q (some (.int z)) h1) : ∀ (n : Nat) (h : iv_H) (s : iv_M) (hR : Rep nc Ls Xs h s) (m2 : Int32) (x2 : Int) (p2 : m2.toInt = x2) (m3 : Int32) (x3 : Int) (p3 : m3.toInt = x3) (m4 : Int32) (x4 : Int) (p4 : m4.toInt = x4), FX12_canBySlides_l103 N q0 kx n s x2 x3 x4 = some r → Rn d 301 (some .boolean) 103 [some (.ref q0), none, some (.int m2), some (.int m3), some (.int m4), none, none] [] h Q := by
  have hT := hX12_canBySlides
  intro n
  induction n with
  | zero =>
    intro h s hR m2 x2 p2 m3 x3 p3 m4 x4 p4 e
    rw [FX12_canBySlides_l103] at e
    cases e
  | succ n ih =>
    intro h s hR m2 x2 p2 m3 x3 p3 m4 x4 p4 e
    rw [FX12_canBySlides_l103] at e
    refine Rn.n hT 2 (pc' := 107) (L' := [some (.ref q0), none, some (.int m2), some (.int m3), some (.int m4), none, none]) (st' := [.int (16 : Int32), .int m4]) rfl ?_
    by_cases c_3719 : 16 ≤ x4
    · rw [if_pos c_3719] at e
      refine Rn.bt hT rfl rfl rfl (decide_eq_true ((ti_le L32_16 p4).mpr c_3719)) ?_
      exact Rn.weak (ll_s (ll_n (ll_s (ll_s (ll_n (ll_n (ll_n ll_e))))))) (hk h s hR m2 x2 p2 m3 x3 p3 e)
    · rw [if_neg c_3719] at e
      refine Rn.bf hT rfl rfl rfl (decide_eq_false (fun z => c_3719 ((ti_le L32_16 p4).mp z))) ?_
      refine Rn.n hT 1 (pc' := 111) (L' := [some (.ref q0), none, some (.int m2), some (.int m3), some (.int m4), none, none]) (st' := [.ref q0]) rfl ?_
      refine Rn.hp hT rfl rfl (gR_hp (rp_gR hR (T12_o t0) rfl)) ?_
      refine Rn.n hT 1 (pc' := 116) (L' := [some (.ref q0), none, some (.int m2), some (.int m3), some (.int m4), none, none]) (st' := [.int m4, .ref (q0 + 43)]) rfl ?_
      obtain ⟨v_3720, e_3720, e⟩ := Option.bind_eq_some_iff.mp e
      obtain ⟨z_3720, g_3720, p_3720⟩ := rp_aI hR (T12_60 t0) (T12_60l t0) p4 e_3720
      refine Rn.hp hT rfl rfl (aI_hp g_3720) ?_
      refine Rn.n hT 1 (pc' := 118) (L' := [some (.ref q0), none, some (.int m2), some (.int m3), some (.int m4), none, none]) (st' := [.int (-1 : Int32), .int z_3720]) rfl ?_
      by_cases c_3721 : v_3720 = (-1)
      · rw [if_pos c_3721] at e
        refine Rn.bf hT rfl rfl rfl (decide_eq_false (fun z => z ((ti_e p_3720 L32_m1).mpr c_3721))) ?_
        refine Rn.n hT 2 (pc' := 127) (L' := [some (.ref q0), none, some (.int m2), some (.int m3), some (.int m4), none, none]) (st' := [.int m4]) rfl ?_
        exact Rn.weak (ll_s (ll_n (ll_n (ll_s (ll_s (ll_n (ll_n ll_e))))))) (RX12_canBySlides_b127 hd hR t0 p3 p4 p4 ih hk hq e)
      · rw [if_neg c_3721] at e
        refine Rn.bt hT rfl rfl rfl (decide_eq_true (fun z => c_3721 ((ti_e p_3720 L32_m1).mp z))) ?_
        refine Rn.n hT 1 (pc' := 127) (L' := [some (.ref q0), none, some (.int m2), some (.int m3), some (.int m4), none, none]) (st' := [.int m2]) rfl ?_
        exact Rn.weak (ll_s (ll_n (ll_n (ll_s (ll_s (ll_n (ll_n ll_e))))))) (RX12_canBySlides_b127 hd hR t0 p3 p4 p2 ih hk hq e)
def FX12_canBySlides_l188 (N : Nat) (q0 : Nat) (x2 : Int) (x3 : Int) (x4 : Int) (x5 : Int) (kx : iv_M → Int → Option (Int × iv_M)) : Nat → iv_M → Int → Option (Int × iv_M)
  | 0, _, _ => none
  | n + 1, s, x6 => ((rd s (q0 + 43) 16 x6).bind fun v_3736 => ((rd s (q0 + 42) 16 x5).bind fun v_3737 => (if v_3736 = v_3737 then (kx s x6) else (FX12_canBySlides_l188 N q0 x2 x3 x4 x5 kx n s (w32 (x6 + 1))))))
set_option maxRecDepth 10000 in
set_option maxHeartbeats 4000000 in
theorem RX12_canBySlides_l188 {d N nc Ls : Nat} {Xs : Nat → Int32} (hd : 3 ≤ d) {q0 : Nat} (t0 : T12 nc q0) {m2 : Int32} {x2 : Int} (p2 : m2.toInt = x2) {m3 : Int32} {x3 : Int} (p3 : m3.toInt = x3) {m4 : Int32} {x4 : Int} (p4 : m4.toInt = x4) {m5 : Int32} {x5 : Int} (p5 : m5.toInt = x5) {kx : iv_M → Int → Option (Int × iv_M)} {r : Int × iv_M} {Q : Option Value → iv_H → Prop} (hk : ∀ (h : iv_H) (s : iv_M) (hR : Rep nc Ls Xs h s) (m6 : Int32) (x6 : Int) (p6 : m6.toInt = x6), kx s x6 = some r → Rn d 301 (some .boolean) 211 [some (.ref q0), none, some (.int m2), some (.int m3), some (.int m4), some (.int m5), some (.int m6)] [] h Q) (hq : ∀ (z : Int32) (h1 : iv_H), z.toInt = r.1 → Rep nc Ls Xs h1 r.2 → Q (some (.int z)) h1) : ∀ (n : Nat) (h : iv_H) (s : iv_M) (hR : Rep nc Ls Xs h s) (m6 : Int32) (x6 : Int) (p6 : m6.toInt = x6), FX12_canBySlides_l188 N q0 x2 x3 x4 x5 kx n s x6 = some r → Rn d 301 (some .boolean) 188 [some (.ref q0), none, some (.int m2), some (.int m3), some (.int m4), some (.int m5), some (.int m6)] [] h Q := by
  have hT := hX12_canBySlides
  intro n
  induction n with
  | zero =>
    intro h s hR m6 x6 p6 e
    rw [FX12_canBySlides_l188] at e
    cases e
  | succ n ih =>
    intro h s hR m6 x6 p6 e
    rw [FX12_canBySlides_l188] at e
    refine Rn.n hT 1 (pc' := 189) (L' := [some (.ref q0), none, some (.int m2), some (.int m3), some (.int m4), some (.int m5), some (.int m6)]) (st' := [.ref q0]) rfl ?_
    refine Rn.hp hT rfl rfl (gR_hp (rp_gR hR (T12_o t0) rfl)) ?_
    refine Rn.n hT 1 (pc' := 194) (L' := [some (.ref q0), none, some (.int m2), some (.int m3), some (.int m4), some (.int m5), some (.int m6)]) (st' := [.int m6, .ref (q0 + 43)]) rfl ?_
    obtain ⟨v_3736, e_3736, e⟩ := Option.bind_eq_some_iff.mp e
    obtain ⟨z_3736, g_3736, p_3736⟩ := rp_aI hR (T12_60 t0) (T12_60l t0) p6 e_3736
    refine Rn.hp hT rfl rfl (aI_hp g_3736) ?_
    refine Rn.n hT 1 (pc' := 196) (L' := [some (.ref q0), none, some (.int m2), some (.int m3), some (.int m4), some (.int m5), some (.int m6)]) (st' := [.ref q0, .int z_3736]) rfl ?_
    refine Rn.hp hT rfl rfl (gR_hp (rp_gR hR (T12_o t0) rfl)) ?_
    refine Rn.n hT 1 (pc' := 201) (L' := [some (.ref q0), none, some (.int m2), some (.int m3), some (.int m4), some (.int m5), some (.int m6)]) (st' := [.int m5, .ref (q0 + 42), .int z_3736]) rfl ?_
    obtain ⟨v_3737, e_3737, e⟩ := Option.bind_eq_some_iff.mp e
    obtain ⟨z_3737, g_3737, p_3737⟩ := rp_aI hR (T12_59 t0) (T12_59l t0) p5 e_3737
    refine Rn.hp hT rfl rfl (aI_hp g_3737) ?_
    by_cases c_3738 : v_3736 = v_3737
    · rw [if_pos c_3738] at e
      refine Rn.bt hT rfl rfl rfl (decide_eq_true ((ti_e p_3736 p_3737).mpr c_3738)) ?_
      exact Rn.weak (ll_s (ll_n (ll_s (ll_s (ll_s (ll_s (ll_s ll_e))))))) (hk h s hR m6 x6 p6 e)
    · rw [if_neg c_3738] at e
      refine Rn.bf hT rfl rfl rfl (decide_eq_false (fun z => c_3738 ((ti_e p_3736 p_3737).mp z))) ?_
      refine Rn.n hT 2 (pc' := 188) (L' := [some (.ref q0), none, some (.int m2), some (.int m3), some (.int m4), some (.int m5), some (.int (m6 + (1 : Int32)))]) (st' := []) rfl ?_
      exact Rn.weak (ll_s (ll_n (ll_s (ll_s (ll_s (ll_s (ll_s ll_e))))))) (ih h s hR (m6 + (1 : Int32)) (w32 (x6 + 1)) (ti_add p6 L32_1) e)
def FX12_canBySlides_b242 (N : Nat) (s : iv_M) (q0 : Nat) (x2 : Int) (x3 : Int) (x4 : Int) (x5 : Int)  (kb : iv_M → Int → Int → Option (Int × iv_M)) (kx : iv_M → Int → Option (Int × iv_M)) : Option (Int × iv_M) := (kb s x4 (w32 (x5 + 1)))
set_option maxRecDepth 10000 in
set_option maxHeartbeats 4000000 in
theorem RX12_canBySlides_b242 {d N nc Ls : Nat} {Xs : Nat → Int32} (hd : 3 ≤ d) {h : iv_H} {s : iv_M} (hR : Rep nc Ls Xs h s) {q0 : Nat} (t0 : T12 nc q0) {m2 : Int32} {x2 : Int} (p2 : m2.toInt = x2) {m3 : Int32} {x3 : Int} (p3 : m3.toInt = x3) {m4 : Int32} {x4 : Int} (p4 : m4.toInt = x4) {m5 : Int32} {x5 : Int} (p5 : m5.toInt = x5)  {kb : iv_M → Int → Int → Option (Int × iv_M)} {kx : iv_M → Int → Option (Int × iv_M)} {r : Int × iv_M} {Q : Option Value → iv_H → Prop} (hb : ∀ (h : iv_H) (s : iv_M) (hR : Rep nc Ls Xs h s) (mw4 : Int32) (xw4 : Int) (pw4 : mw4.toInt = xw4) (mw5 : Int32) (xw5 : Int) (pw5 : mw5.toInt = xw5), kb s xw4 xw5 = some r → Rn d 301 (some .boolean) 158 [some (.ref q0), none, some (.int m2), some (.int m3), some (.int mw4), some (.int mw5), none] [] h Q) (hk : ∀ (h : iv_H) (s : iv_M) (hR : Rep nc Ls Xs h s) (mw4 : Int32) (xw4 : Int) (pw4 : mw4.toInt = xw4), kx s xw4 = some r → Rn d 301 (some .boolean) 248 [none, none, some (.int m2), some (.int m3), some (.int mw4), none, none] [] h Q) (hq : ∀ (z : Int32) (h1 : iv_H), z.toInt = r.1 → Rep nc Ls Xs h1 r.2 → Q (some (.int z)) h1) (e : FX12_canBySlides_b242 N s q0 x2 x3 x4 x5  kb kx = some r) : Rn d 301 (some .boolean) 242 [some (.ref q0), none, some (.int m2), some (.int m3), some (.int m4), some (.int m5), none] [] h Q := by
  have hT := hX12_canBySlides
  unfold FX12_canBySlides_b242 at e
  refine Rn.n hT 2 (pc' := 158) (L' := [some (.ref q0), none, some (.int m2), some (.int m3), some (.int m4), some (.int (m5 + (1 : Int32))), none]) (st' := []) rfl ?_
  exact Rn.weak (ll_s (ll_n (ll_s (ll_s (ll_s (ll_s (ll_n ll_e))))))) (hb h s hR m4 x4 p4 (m5 + (1 : Int32)) (w32 (x5 + 1)) (ti_add p5 L32_1) e)
def FX12_canBySlides_l158 (N : Nat) (q0 : Nat) (x2 : Int) (x3 : Int) (kx : iv_M → Int → Option (Int × iv_M)) : Nat → iv_M → Int → Int → Option (Int × iv_M)
  | 0, _, _, _ => none
  | n + 1, s, x4, x5 => (if 16 ≤ x5 then (kx s x4) else ((rd s (q0 + 43) 16 x5).bind fun v_3725 => ((rd s (q0 + 42) 16 x5).bind fun v_3726 => (if v_3725 = v_3726 then (FX12_canBySlides_b242 N s q0 x2 x3 x4 x5 (FX12_canBySlides_l158 N q0 x2 x3 kx n) kx) else (FX12_canBySlides_l188 N q0 x2 x3 x4 x5 (fun (s_3728 : iv_M) (x3729_6 : Int) => ((rd s_3728 (q0 + 43) 16 x5).bind fun v_3730 => ((wr s_3728 (q0 + 43) 16 x3729_6 v_3730).bind fun s_3731 => ((rd s_3731 (q0 + 42) 16 x5).bind fun v_3733 => ((wr s_3731 (q0 + 43) 16 x5 v_3733).bind fun s_3734 => (FX12_canBySlides_b242 N s_3734 q0 x2 x3 (w32 (x4 + 1)) x5 (FX12_canBySlides_l158 N q0 x2 x3 kx n) kx)))))) N s (w32 (x5 + 1)))))))
set_option maxRecDepth 10000 in
set_option maxHeartbeats 4000000 in
theorem RX12_canBySlides_l158 {d N nc Ls : Nat} {Xs : Nat → Int32} (hd : 3 ≤ d) {q0 : Nat} (t0 : T12 nc q0) {m2 : Int32} {x2 : Int} (p2 : m2.toInt = x2) {m3 : Int32} {x3 : Int} (p3 : m3.toInt = x3) {kx : iv_M → Int → Option (Int × iv_M)} {r : Int × iv_M} {Q : Option Value → iv_H → Prop} (hk : ∀ (h : iv_H) (s : iv_M) (hR : Rep nc Ls Xs h s) (m4 : Int32) (x4 : Int) (p4 : m4.toInt = x4), kx s x4 = some r → Rn d 301 (some .boolean) 248 [none, none, some (.int m2), some (.int m3), some (.int m4), none, none] [] h Q) (hq : ∀ (z : Int32) (h1 : iv_H), z.toInt = r.1 → Rep nc Ls Xs h1 r.2 → Q (some (.int z)) h1) : ∀ (n : Nat) (h : iv_H) (s : iv_M) (hR : Rep nc Ls Xs h s) (m4 : Int32) (x4 : Int) (p4 : m4.toInt = x4) (m5 : Int32) (x5 : Int) (p5 : m5.toInt = x5), FX12_canBySlides_l158 N q0 x2 x3 kx n s x4 x5 = some r → Rn d 301 (some .boolean) 158 [some (.ref q0), none, some (.int m2), some (.int m3), some (.int m4), some (.int m5), none] [] h Q := by
  have hT := hX12_canBySlides
  intro n
  induction n with
  | zero =>
    intro h s hR m4 x4 p4 m5 x5 p5 e
    rw [FX12_canBySlides_l158] at e
    cases e
  | succ n ih =>
    intro h s hR m4 x4 p4 m5 x5 p5 e
    rw [FX12_canBySlides_l158] at e
    refine Rn.n hT 2 (pc' := 162) (L' := [some (.ref q0), none, some (.int m2), some (.int m3), some (.int m4), some (.int m5), none]) (st' := [.int (16 : Int32), .int m5]) rfl ?_
    by_cases c_3724 : 16 ≤ x5
    · rw [if_pos c_3724] at e
      refine Rn.bt hT rfl rfl rfl (decide_eq_true ((ti_le L32_16 p5).mpr c_3724)) ?_
      exact Rn.weak (ll_n (ll_n (ll_s (ll_s (ll_s (ll_n (ll_n ll_e))))))) (hk h s hR m4 x4 p4 e)
    · rw [if_neg c_3724] at e
      refine Rn.bf hT rfl rfl rfl (decide_eq_false (fun z => c_3724 ((ti_le L32_16 p5).mp z))) ?_
      refine Rn.n hT 1 (pc' := 166) (L' := [some (.ref q0), none, some (.int m2), some (.int m3), some (.int m4), some (.int m5), none]) (st' := [.ref q0]) rfl ?_
      refine Rn.hp hT rfl rfl (gR_hp (rp_gR hR (T12_o t0) rfl)) ?_
      refine Rn.n hT 1 (pc' := 171) (L' := [some (.ref q0), none, some (.int m2), some (.int m3), some (.int m4), some (.int m5), none]) (st' := [.int m5, .ref (q0 + 43)]) rfl ?_
      obtain ⟨v_3725, e_3725, e⟩ := Option.bind_eq_some_iff.mp e
      obtain ⟨z_3725, g_3725, p_3725⟩ := rp_aI hR (T12_60 t0) (T12_60l t0) p5 e_3725
      refine Rn.hp hT rfl rfl (aI_hp g_3725) ?_
      refine Rn.n hT 1 (pc' := 173) (L' := [some (.ref q0), none, some (.int m2), some (.int m3), some (.int m4), some (.int m5), none]) (st' := [.ref q0, .int z_3725]) rfl ?_
      refine Rn.hp hT rfl rfl (gR_hp (rp_gR hR (T12_o t0) rfl)) ?_
      refine Rn.n hT 1 (pc' := 178) (L' := [some (.ref q0), none, some (.int m2), some (.int m3), some (.int m4), some (.int m5), none]) (st' := [.int m5, .ref (q0 + 42), .int z_3725]) rfl ?_
      obtain ⟨v_3726, e_3726, e⟩ := Option.bind_eq_some_iff.mp e
      obtain ⟨z_3726, g_3726, p_3726⟩ := rp_aI hR (T12_59 t0) (T12_59l t0) p5 e_3726
      refine Rn.hp hT rfl rfl (aI_hp g_3726) ?_
      by_cases c_3727 : v_3725 = v_3726
      · rw [if_pos c_3727] at e
        refine Rn.bt hT rfl rfl rfl (decide_eq_true ((ti_e p_3725 p_3726).mpr c_3727)) ?_
        exact Rn.weak (ll_s (ll_n (ll_s (ll_s (ll_s (ll_s (ll_n ll_e))))))) (RX12_canBySlides_b242 hd hR t0 p2 p3 p4 p5 ih hk hq e)
      · rw [if_neg c_3727] at e
        refine Rn.bf hT rfl rfl rfl (decide_eq_false (fun z => c_3727 ((ti_e p_3725 p_3726).mp z))) ?_
        refine Rn.n hT 4 (pc' := 188) (L' := [some (.ref q0), none, some (.int m2), some (.int m3), some (.int m4), some (.int m5), some (.int (m5 + (1 : Int32)))]) (st' := []) rfl ?_
        refine Rn.weak (ll_s (ll_n (ll_s (ll_s (ll_s (ll_s (ll_s ll_e))))))) (RX12_canBySlides_l188 hd t0 p2 p3 p4 p5 (fun h_3728 s_3728 R_3728 m3729_6 x3729_6 p3729_6 e => ?_) hq N h s hR (m5 + (1 : Int32)) (w32 (x5 + 1)) (ti_add p5 L32_1) e)
        try dsimp only at e
        refine Rn.n hT 1 (pc' := 212) (L' := [some (.ref q0), none, some (.int m2), some (.int m3), some (.int m4), some (.int m5), some (.int m3729_6)]) (st' := [.ref q0]) rfl ?_
        refine Rn.hp hT rfl rfl (gR_hp (rp_gR R_3728 (T12_o t0) rfl)) ?_
        refine Rn.n hT 2 (pc' := 218) (L' := [some (.ref q0), none, some (.int m2), some (.int m3), some (.int m4), some (.int m5), some (.int m3729_6)]) (st' := [.ref q0, .int m3729_6, .ref (q0 + 43)]) rfl ?_
        refine Rn.hp hT rfl rfl (gR_hp (rp_gR R_3728 (T12_o t0) rfl)) ?_
        refine Rn.n hT 1 (pc' := 223) (L' := [some (.ref q0), none, some (.int m2), some (.int m3), some (.int m4), some (.int m5), some (.int m3729_6)]) (st' := [.int m5, .ref (q0 + 43), .int m3729_6, .ref (q0 + 43)]) rfl ?_
        obtain ⟨v_3730, e_3730, e⟩ := Option.bind_eq_some_iff.mp e
        obtain ⟨z_3730, g_3730, p_3730⟩ := rp_aI R_3728 (T12_60 t0) (T12_60l t0) p5 e_3730
        refine Rn.hp hT rfl rfl (aI_hp g_3730) ?_
        obtain ⟨s_3731, e_3732, e⟩ := Option.bind_eq_some_iff.mp e
        obtain ⟨h_3731, g_3732, R_3731⟩ := rp_wI R_3728 (T12_60 t0) (T12_60l t0) p3729_6 p_3730 e_3732
        refine Rn.hp hT rfl rfl (wI_hp g_3732) ?_
        refine Rn.n hT 1 (pc' := 226) (L' := [some (.ref q0), none, some (.int m2), some (.int m3), some (.int m4), some (.int m5), some (.int m3729_6)]) (st' := [.ref q0]) rfl ?_
        refine Rn.hp hT rfl rfl (gR_hp (rp_gR R_3731 (T12_o t0) rfl)) ?_
        refine Rn.n hT 2 (pc' := 232) (L' := [some (.ref q0), none, some (.int m2), some (.int m3), some (.int m4), some (.int m5), some (.int m3729_6)]) (st' := [.ref q0, .int m5, .ref (q0 + 43)]) rfl ?_
        refine Rn.hp hT rfl rfl (gR_hp (rp_gR R_3731 (T12_o t0) rfl)) ?_
        refine Rn.n hT 1 (pc' := 237) (L' := [some (.ref q0), none, some (.int m2), some (.int m3), some (.int m4), some (.int m5), some (.int m3729_6)]) (st' := [.int m5, .ref (q0 + 42), .int m5, .ref (q0 + 43)]) rfl ?_
        obtain ⟨v_3733, e_3733, e⟩ := Option.bind_eq_some_iff.mp e
        obtain ⟨z_3733, g_3733, p_3733⟩ := rp_aI R_3731 (T12_59 t0) (T12_59l t0) p5 e_3733
        refine Rn.hp hT rfl rfl (aI_hp g_3733) ?_
        obtain ⟨s_3734, e_3735, e⟩ := Option.bind_eq_some_iff.mp e
        obtain ⟨h_3734, g_3735, R_3734⟩ := rp_wI R_3731 (T12_60 t0) (T12_60l t0) p5 p_3733 e_3735
        refine Rn.hp hT rfl rfl (wI_hp g_3735) ?_
        refine Rn.n hT 1 (pc' := 242) (L' := [some (.ref q0), none, some (.int m2), some (.int m3), some (.int (m4 + (1 : Int32))), some (.int m5), some (.int m3729_6)]) (st' := []) rfl ?_
        exact Rn.weak (ll_s (ll_n (ll_s (ll_s (ll_s (ll_s (ll_n ll_e))))))) (RX12_canBySlides_b242 hd R_3734 t0 p2 p3 (ti_add p4 L32_1) p5 ih hk hq e)
def FX12_canBySlides_b285 (N : Nat) (s : iv_M)  (xs0 : Int) : Option (Int × iv_M) := (if xs0 = 0 ∨ xs0 = 1 then some (xs0, s) else none)
set_option maxRecDepth 10000 in
set_option maxHeartbeats 4000000 in
theorem RX12_canBySlides_b285 {d N nc Ls : Nat} {Xs : Nat → Int32} (hd : 3 ≤ d) {h : iv_H} {s : iv_M} (hR : Rep nc Ls Xs h s)  {ms0 : Int32} {xs0 : Int} (ps0 : ms0.toInt = xs0) {r : Int × iv_M} {Q : Option Value → iv_H → Prop} (hq : ∀ (z : Int32) (h1 : iv_H), z.toInt = r.1 → Rep nc Ls Xs h1 r.2 → Q (some (.int z)) h1) (e : FX12_canBySlides_b285 N s  xs0 = some r) : Rn d 301 (some .boolean) 285 [none, none, none, none, none, none, none] [.int ms0] h Q := by
  have hT := hX12_canBySlides
  unfold FX12_canBySlides_b285 at e
  by_cases c_3739 : xs0 = 0 ∨ xs0 = 1
  · rw [if_pos c_3739] at e
    obtain rfl := Option.some.inj e
    exact Rn.ret hT rfl rfl (if_pos (ti_b ps0 c_3739)) (hq ms0 h ps0 hR)
  · rw [if_neg c_3739] at e
    cases e
def FX12_canBySlides (N : Nat) (s : iv_M) (q0 : Nat) (x1 : Int) : Option (Int × iv_M) := (FX12_canBySlides_l2 N q0 x1 (fun (s_3693 : iv_M) => (FX12_canBySlides_l61 N q0 x1 (fun (s_3695 : iv_M) => (FX12_canBySlides_l103 N q0 (fun (s_3697 : iv_M) (x3698_2 : Int) (x3698_3 : Int) => (FX12_canBySlides_l158 N q0 x3698_2 x3698_3 (fun (s_3699 : iv_M) (x3700_4 : Int) => ((FX12_apart N s_3699 (Int.tmod x3698_2 4) (Int.tmod x3698_3 4)).bind fun v_3701 => ((FX12_apart N s_3699 (dv32 x3698_2 4) (dv32 x3698_3 4)).bind fun v_3702 => (if (Int.tmod x3700_4 2) = (Int.tmod (w32 (v_3701 + v_3702)) 2) then (FX12_canBySlides_b285 N s_3699 1) else (FX12_canBySlides_b285 N s_3699 0))))) N s_3697 0 0)) N s_3695 0 0 0)) N s_3693 0)) N s 0)
set_option maxRecDepth 10000 in
set_option maxHeartbeats 4000000 in
theorem RX12_canBySlides {d N nc Ls : Nat} {Xs : Nat → Int32} (hd : 4 ≤ d) {h : iv_H} {s : iv_M} (hR : Rep nc Ls Xs h s) {q0 : Nat} (t0 : T12 nc q0) {m1 : Int32} {x1 : Int} (p1 : m1.toInt = x1) {r : Int × iv_M} {Q : Option Value → iv_H → Prop} (e : FX12_canBySlides N s q0 x1 = some r) (hq : ∀ (z : Int32) (h1 : iv_H), z.toInt = r.1 → Rep nc Ls Xs h1 r.2 → Q (some (.int z)) h1) : Cl d 301 [.ref q0, .int m1] h Q := by
  obtain ⟨d, rfl⟩ : ∃ k, d = k + 1 := ⟨d - 1, by omega⟩
  have hd : 3 ≤ d := by omega
  have hT := hX12_canBySlides
  unfold FX12_canBySlides at e
  refine Cl.into (by decide) gX12_canBySlides rfl ?_
  show Rn d 301 (some .boolean) 0 [some (.ref q0), some (.int m1), none, none, none, none, none] [] h Q
  refine Rn.n hT 2 (pc' := 2) (L' := [some (.ref q0), some (.int m1), some (.int (0 : Int32)), none, none, none, none]) (st' := []) rfl ?_
  refine Rn.weak (ll_s (ll_s (ll_s (ll_n (ll_n (ll_n (ll_n ll_e))))))) (RX12_canBySlides_l2 hd t0 p1 (fun h_3693 s_3693 R_3693 e => ?_) hq N h s hR (0 : Int32) 0 L32_0 e)
  try dsimp only at e
  refine Rn.n hT 2 (pc' := 61) (L' := [some (.ref q0), some (.int m1), some (.int (0 : Int32)), none, none, none, none]) (st' := []) rfl ?_
  refine Rn.weak (ll_s (ll_s (ll_s (ll_n (ll_n (ll_n (ll_n ll_e))))))) (RX12_canBySlides_l61 hd t0 p1 (fun h_3695 s_3695 R_3695 e => ?_) hq N h_3693 s_3693 R_3693 (0 : Int32) 0 L32_0 e)
  try dsimp only at e
  refine Rn.n hT 6 (pc' := 103) (L' := [some (.ref q0), none, some (.int (0 : Int32)), some (.int (0 : Int32)), some (.int (0 : Int32)), none, none]) (st' := []) rfl ?_
  refine Rn.weak (ll_s (ll_n (ll_s (ll_s (ll_s (ll_n (ll_n ll_e))))))) (RX12_canBySlides_l103 hd t0 (fun h_3697 s_3697 R_3697 m3698_2 x3698_2 p3698_2 m3698_3 x3698_3 p3698_3 e => ?_) hq N h_3695 s_3695 R_3695 (0 : Int32) 0 L32_0 (0 : Int32) 0 L32_0 (0 : Int32) 0 L32_0 e)
  try dsimp only at e
  refine Rn.n hT 4 (pc' := 158) (L' := [some (.ref q0), none, some (.int m3698_2), some (.int m3698_3), some (.int (0 : Int32)), some (.int (0 : Int32)), none]) (st' := []) rfl ?_
  refine Rn.weak (ll_s (ll_n (ll_s (ll_s (ll_s (ll_s (ll_n ll_e))))))) (RX12_canBySlides_l158 hd t0 p3698_2 p3698_3 (fun h_3699 s_3699 R_3699 m3700_4 x3700_4 p3700_4 e => ?_) hq N h_3697 s_3697 R_3697 (0 : Int32) 0 L32_0 (0 : Int32) 0 L32_0 e)
  try dsimp only at e
  refine Rn.n hT 6 (pc' := 254) (L' := [none, none, some (.int m3698_2), some (.int m3698_3), some (.int m3700_4), none, none]) (st' := [.int (m3698_3 - m3698_3 / (4 : Int32) * (4 : Int32)), .int (m3698_2 - m3698_2 / (4 : Int32) * (4 : Int32))]) rfl ?_
  obtain ⟨v_3701, e_3701, e⟩ := Option.bind_eq_some_iff.mp e
  refine Rn.call hT rfl rfl rfl (Nat.le_of_ble_eq_true rfl) rfl (RX12_apart (by omega) R_3699 (ti_rem p3698_2 L32_4) (ti_rem p3698_3 L32_4) e_3701 (fun z_3701 p_3701 => ?_))
  show Rn d _ _ 257 [none, none, some (.int m3698_2), some (.int m3698_3), some (.int m3700_4), none, none] [.int z_3701] h_3699 Q
  refine Rn.n hT 6 (pc' := 263) (L' := [none, none, some (.int m3698_2), some (.int m3698_3), some (.int m3700_4), none, none]) (st' := [.int (m3698_3 / (4 : Int32)), .int (m3698_2 / (4 : Int32)), .int z_3701]) rfl ?_
  obtain ⟨v_3702, e_3702, e⟩ := Option.bind_eq_some_iff.mp e
  refine Rn.call hT rfl rfl rfl (Nat.le_of_ble_eq_true rfl) rfl (RX12_apart (by omega) R_3699 (ti_div p3698_2 L32_4) (ti_div p3698_3 L32_4) e_3702 (fun z_3702 p_3702 => ?_))
  show Rn d _ _ 266 [none, none, some (.int m3698_2), some (.int m3698_3), some (.int m3700_4), none, none] [.int z_3702, .int z_3701] h_3699 Q
  refine Rn.n hT 8 (pc' := 277) (L' := [none, none, some (.int m3698_2), some (.int m3698_3), some (.int m3700_4), some (.int (z_3701 + z_3702)), none]) (st' := [.int ((z_3701 + z_3702) - (z_3701 + z_3702) / (2 : Int32) * (2 : Int32)), .int (m3700_4 - m3700_4 / (2 : Int32) * (2 : Int32))]) rfl ?_
  by_cases c_3703 : (Int.tmod x3700_4 2) = (Int.tmod (w32 (v_3701 + v_3702)) 2)
  · rw [if_pos c_3703] at e
    refine Rn.bf hT rfl rfl rfl (decide_eq_false (fun z => z ((ti_e (ti_rem p3700_4 L32_2) (ti_rem (ti_add p_3701 p_3702) L32_2)).mpr c_3703))) ?_
    refine Rn.n hT 2 (pc' := 285) (L' := [none, none, some (.int m3698_2), some (.int m3698_3), some (.int m3700_4), some (.int (z_3701 + z_3702)), none]) (st' := [.int (1 : Int32)]) rfl ?_
    exact Rn.weak (ll_n (ll_n (ll_n (ll_n (ll_n (ll_n (ll_n ll_e))))))) (RX12_canBySlides_b285 hd R_3699 L32_1 hq e)
  · rw [if_neg c_3703] at e
    refine Rn.bt hT rfl rfl rfl (decide_eq_true (fun z => c_3703 ((ti_e (ti_rem p3700_4 L32_2) (ti_rem (ti_add p_3701 p_3702) L32_2)).mp z))) ?_
    refine Rn.n hT 1 (pc' := 285) (L' := [none, none, some (.int m3698_2), some (.int m3698_3), some (.int m3700_4), some (.int (z_3701 + z_3702)), none]) (st' := [.int (0 : Int32)]) rfl ?_
    exact Rn.weak (ll_n (ll_n (ll_n (ll_n (ll_n (ll_n (ll_n ll_e))))))) (RX12_canBySlides_b285 hd R_3699 L32_0 hq e)
set_option maxRecDepth 10000 in
theorem hX12_marks : iv_Tb 302 tX12_marks := iv_tb_of (m := mX12_marks) rfl
set_option maxRecDepth 10000 in
theorem gX12_marks : PG.2 302 = some mX12_marks := iv_pi_of (t := tX12_marks) rfl (by decide)
def FX12_marks_b156 (N : Nat) (s : iv_M) (q0 : Nat) (x1 : Int) (x2 : Int) (x3 : Int) (x5 : Int) (xs0 : Int) (kb : iv_M → Int → Int → Int → Int → Option (Int × iv_M)) (kx : iv_M → Int → Int → Int → Option (Int × iv_M)) : Option (Int × iv_M) := (kb s x2 x3 xs0 (w32 (x5 + 1)))
set_option maxRecDepth 10000 in
set_option maxHeartbeats 4000000 in
theorem RX12_marks_b156 {d N nc Ls : Nat} {Xs : Nat → Int32} (hd : 4 ≤ d) {h : iv_H} {s : iv_M} (hR : Rep nc Ls Xs h s) {q0 : Nat} (t0 : T12 nc q0) {m1 : Int32} {x1 : Int} (p1 : m1.toInt = x1) {m2 : Int32} {x2 : Int} (p2 : m2.toInt = x2) {m3 : Int32} {x3 : Int} (p3 : m3.toInt = x3) {m5 : Int32} {x5 : Int} (p5 : m5.toInt = x5) {ms0 : Int32} {xs0 : Int} (ps0 : ms0.toInt = xs0) {kb : iv_M → Int → Int → Int → Int → Option (Int × iv_M)} {kx : iv_M → Int → Int → Int → Option (Int × iv_M)} {r : Int × iv_M} {Q : Option Value → iv_H → Prop} (hb : ∀ (h : iv_H) (s : iv_M) (hR : Rep nc Ls Xs h s) (mw2 : Int32) (xw2 : Int) (pw2 : mw2.toInt = xw2) (mw3 : Int32) (xw3 : Int) (pw3 : mw3.toInt = xw3) (mw4 : Int32) (xw4 : Int) (pw4 : mw4.toInt = xw4) (mw5 : Int32) (xw5 : Int) (pw5 : mw5.toInt = xw5), kb s xw2 xw3 xw4 xw5 = some r → Rn d 302 (some .int) 20 [some (.ref q0), some (.int m1), some (.int mw2), some (.int mw3), some (.int mw4), some (.int mw5), none, none] [] h Q) (hk : ∀ (h : iv_H) (s : iv_M) (hR : Rep nc Ls Xs h s) (mw2 : Int32) (xw2 : Int) (pw2 : mw2.toInt = xw2) (mw3 : Int32) (xw3 : Int) (pw3 : mw3.toInt = xw3) (mw4 : Int32) (xw4 : Int) (pw4 : mw4.toInt = xw4), kx s xw2 xw3 xw4 = some r → Rn d 302 (some .int) 164 [some (.ref q0), some (.int m1), some (.int mw2), some (.int mw3), some (.int mw4), none, none, none] [] h Q) (hq : ∀ (z : Int32) (h1 : iv_H), z.toInt = r.1 → Rep nc Ls Xs h1 r.2 → Q (some (.int z)) h1) (e : FX12_marks_b156 N s q0 x1 x2 x3 x5 xs0 kb kx = some r) : Rn d 302 (some .int) 156 [some (.ref q0), some (.int m1), some (.int m2), some (.int m3), none, some (.int m5), none, none] [.int ms0] h Q := by
  have hT := hX12_marks
  unfold FX12_marks_b156 at e
  refine Rn.n hT 3 (pc' := 20) (L' := [some (.ref q0), some (.int m1), some (.int m2), some (.int m3), some (.int ms0), some (.int (m5 + (1 : Int32))), none, none]) (st' := []) rfl ?_
  exact Rn.weak (ll_s (ll_s (ll_s (ll_s (ll_s (ll_s (ll_n (ll_n ll_e)))))))) (hb h s hR m2 x2 p2 m3 x3 p3 ms0 xs0 ps0 (m5 + (1 : Int32)) (w32 (x5 + 1)) (ti_add p5 L32_1) e)
def FX12_marks_b151 (N : Nat) (s : iv_M) (q0 : Nat) (x1 : Int) (x2 : Int) (x3 : Int) (x5 : Int)  (kb : iv_M → Int → Int → Int → Int → Option (Int × iv_M)) (kx : iv_M → Int → Int → Int → Option (Int × iv_M)) : Option (Int × iv_M) := (FX12_marks_b156 N s q0 x1 x2 x3 x5 1 kb kx)
set_option maxRecDepth 10000 in
set_option maxHeartbeats 4000000 in
theorem RX12_marks_b151 {d N nc Ls : Nat} {Xs : Nat → Int32} (hd : 4 ≤ d) {h : iv_H} {s : iv_M} (hR : Rep nc Ls Xs h s) {q0 : Nat} (t0 : T12 nc q0) {m1 : Int32} {x1 : Int} (p1 : m1.toInt = x1) {m2 : Int32} {x2 : Int} (p2 : m2.toInt = x2) {m3 : Int32} {x3 : Int} (p3 : m3.toInt = x3) {m5 : Int32} {x5 : Int} (p5 : m5.toInt = x5)  {kb : iv_M → Int → Int → Int → Int → Option (Int × iv_M)} {kx : iv_M → Int → Int → Int → Option (Int × iv_M)} {r : Int × iv_M} {Q : Option Value → iv_H → Prop} (hb : ∀ (h : iv_H) (s : iv_M) (hR : Rep nc Ls Xs h s) (mw2 : Int32) (xw2 : Int) (pw2 : mw2.toInt = xw2) (mw3 : Int32) (xw3 : Int) (pw3 : mw3.toInt = xw3) (mw4 : Int32) (xw4 : Int) (pw4 : mw4.toInt = xw4) (mw5 : Int32) (xw5 : Int) (pw5 : mw5.toInt = xw5), kb s xw2 xw3 xw4 xw5 = some r → Rn d 302 (some .int) 20 [some (.ref q0), some (.int m1), some (.int mw2), some (.int mw3), some (.int mw4), some (.int mw5), none, none] [] h Q) (hk : ∀ (h : iv_H) (s : iv_M) (hR : Rep nc Ls Xs h s) (mw2 : Int32) (xw2 : Int) (pw2 : mw2.toInt = xw2) (mw3 : Int32) (xw3 : Int) (pw3 : mw3.toInt = xw3) (mw4 : Int32) (xw4 : Int) (pw4 : mw4.toInt = xw4), kx s xw2 xw3 xw4 = some r → Rn d 302 (some .int) 164 [some (.ref q0), some (.int m1), some (.int mw2), some (.int mw3), some (.int mw4), none, none, none] [] h Q) (hq : ∀ (z : Int32) (h1 : iv_H), z.toInt = r.1 → Rep nc Ls Xs h1 r.2 → Q (some (.int z)) h1) (e : FX12_marks_b151 N s q0 x1 x2 x3 x5  kb kx = some r) : Rn d 302 (some .int) 151 [some (.ref q0), some (.int m1), some (.int m2), some (.int m3), none, some (.int m5), none, none] [] h Q := by
  have hT := hX12_marks
  unfold FX12_marks_b151 at e
  refine Rn.n hT 2 (pc' := 156) (L' := [some (.ref q0), some (.int m1), some (.int m2), some (.int m3), none, some (.int m5), none, none]) (st' := [.int (1 : Int32)]) rfl ?_
  exact Rn.weak (ll_s (ll_s (ll_s (ll_s (ll_n (ll_s (ll_n (ll_n ll_e)))))))) (RX12_marks_b156 hd hR t0 p1 p2 p3 p5 L32_1 hb hk hq e)
def FX12_marks_b140 (N : Nat) (s : iv_M) (q0 : Nat) (x1 : Int) (x2 : Int) (x4 : Int) (x5 : Int) (x6 : Int) (xs0 : Int) (kb : iv_M → Int → Int → Int → Int → Option (Int × iv_M)) (kx : iv_M → Int → Int → Int → Option (Int × iv_M)) : Option (Int × iv_M) := (if x4 = 0 then (if x6 = 0 then (FX12_marks_b156 N s q0 x1 x2 xs0 x5 0 kb kx) else (FX12_marks_b151 N s q0 x1 x2 xs0 x5 kb kx)) else (FX12_marks_b151 N s q0 x1 x2 xs0 x5 kb kx))
set_option maxRecDepth 10000 in
set_option maxHeartbeats 4000000 in
theorem RX12_marks_b140 {d N nc Ls : Nat} {Xs : Nat → Int32} (hd : 4 ≤ d) {h : iv_H} {s : iv_M} (hR : Rep nc Ls Xs h s) {q0 : Nat} (t0 : T12 nc q0) {m1 : Int32} {x1 : Int} (p1 : m1.toInt = x1) {m2 : Int32} {x2 : Int} (p2 : m2.toInt = x2) {m4 : Int32} {x4 : Int} (p4 : m4.toInt = x4) {m5 : Int32} {x5 : Int} (p5 : m5.toInt = x5) {m6 : Int32} {x6 : Int} (p6 : m6.toInt = x6) {ms0 : Int32} {xs0 : Int} (ps0 : ms0.toInt = xs0) {kb : iv_M → Int → Int → Int → Int → Option (Int × iv_M)} {kx : iv_M → Int → Int → Int → Option (Int × iv_M)} {r : Int × iv_M} {Q : Option Value → iv_H → Prop} (hb : ∀ (h : iv_H) (s : iv_M) (hR : Rep nc Ls Xs h s) (mw2 : Int32) (xw2 : Int) (pw2 : mw2.toInt = xw2) (mw3 : Int32) (xw3 : Int) (pw3 : mw3.toInt = xw3) (mw4 : Int32) (xw4 : Int) (pw4 : mw4.toInt = xw4) (mw5 : Int32) (xw5 : Int) (pw5 : mw5.toInt = xw5), kb s xw2 xw3 xw4 xw5 = some r → Rn d 302 (some .int) 20 [some (.ref q0), some (.int m1), some (.int mw2), some (.int mw3), some (.int mw4), some (.int mw5), none, none] [] h Q) (hk : ∀ (h : iv_H) (s : iv_M) (hR : Rep nc Ls Xs h s) (mw2 : Int32) (xw2 : Int) (pw2 : mw2.toInt = xw2) (mw3 : Int32) (xw3 : Int) (pw3 : mw3.toInt = xw3) (mw4 : Int32) (xw4 : Int) (pw4 : mw4.toInt = xw4), kx s xw2 xw3 xw4 = some r → Rn d 302 (some .int) 164 [some (.ref q0), some (.int m1), some (.int mw2), some (.int mw3), some (.int mw4), none, none, none] [] h Q) (hq : ∀ (z : Int32) (h1 : iv_H), z.toInt = r.1 → Rep nc Ls Xs h1 r.2 → Q (some (.int z)) h1) (e : FX12_marks_b140 N s q0 x1 x2 x4 x5 x6 xs0 kb kx = some r) : Rn d 302 (some .int) 140 [some (.ref q0), some (.int m1), some (.int m2), none, some (.int m4), some (.int m5), some (.int m6), none] [.int ms0] h Q := by
  have hT := hX12_marks
  unfold FX12_marks_b140 at e
  refine Rn.n hT 2 (pc' := 143) (L' := [some (.ref q0), some (.int m1), some (.int m2), some (.int ms0), some (.int m4), some (.int m5), some (.int m6), none]) (st' := [.int m4]) rfl ?_
  by_cases c_3761 : x4 = 0
  · rw [if_pos c_3761] at e
    refine Rn.bf hT rfl rfl rfl (decide_eq_false (fun z => z ((ti_e p4 L32_0).mpr c_3761))) ?_
    refine Rn.n hT 1 (pc' := 148) (L' := [some (.ref q0), some (.int m1), some (.int m2), some (.int ms0), some (.int m4), some (.int m5), some (.int m6), none]) (st' := [.int m6]) rfl ?_
    by_cases c_3762 : x6 = 0
    · rw [if_pos c_3762] at e
      refine Rn.bt hT rfl rfl rfl (decide_eq_true ((ti_e p6 L32_0).mpr c_3762)) ?_
      refine Rn.n hT 1 (pc' := 156) (L' := [some (.ref q0), some (.int m1), some (.int m2), some (.int ms0), some (.int m4), some (.int m5), some (.int m6), none]) (st' := [.int (0 : Int32)]) rfl ?_
      exact Rn.weak (ll_s (ll_s (ll_s (ll_s (ll_n (ll_s (ll_n (ll_n ll_e)))))))) (RX12_marks_b156 hd hR t0 p1 p2 ps0 p5 L32_0 hb hk hq e)
    · rw [if_neg c_3762] at e
      refine Rn.bf hT rfl rfl rfl (decide_eq_false (fun z => c_3762 ((ti_e p6 L32_0).mp z))) ?_
      exact Rn.weak (ll_s (ll_s (ll_s (ll_s (ll_n (ll_s (ll_n (ll_n ll_e)))))))) (RX12_marks_b151 hd hR t0 p1 p2 ps0 p5 hb hk hq e)
  · rw [if_neg c_3761] at e
    refine Rn.bt hT rfl rfl rfl (decide_eq_true (fun z => c_3761 ((ti_e p4 L32_0).mp z))) ?_
    exact Rn.weak (ll_s (ll_s (ll_s (ll_s (ll_n (ll_s (ll_n (ll_n ll_e)))))))) (RX12_marks_b151 hd hR t0 p1 p2 ps0 p5 hb hk hq e)
def FX12_marks_b135 (N : Nat) (s : iv_M) (q0 : Nat) (x1 : Int) (x2 : Int) (x4 : Int) (x5 : Int) (x6 : Int)  (kb : iv_M → Int → Int → Int → Int → Option (Int × iv_M)) (kx : iv_M → Int → Int → Int → Option (Int × iv_M)) : Option (Int × iv_M) := (FX12_marks_b140 N s q0 x1 x2 x4 x5 x6 1 kb kx)
set_option maxRecDepth 10000 in
set_option maxHeartbeats 4000000 in
theorem RX12_marks_b135 {d N nc Ls : Nat} {Xs : Nat → Int32} (hd : 4 ≤ d) {h : iv_H} {s : iv_M} (hR : Rep nc Ls Xs h s) {q0 : Nat} (t0 : T12 nc q0) {m1 : Int32} {x1 : Int} (p1 : m1.toInt = x1) {m2 : Int32} {x2 : Int} (p2 : m2.toInt = x2) {m4 : Int32} {x4 : Int} (p4 : m4.toInt = x4) {m5 : Int32} {x5 : Int} (p5 : m5.toInt = x5) {m6 : Int32} {x6 : Int} (p6 : m6.toInt = x6)  {kb : iv_M → Int → Int → Int → Int → Option (Int × iv_M)} {kx : iv_M → Int → Int → Int → Option (Int × iv_M)} {r : Int × iv_M} {Q : Option Value → iv_H → Prop} (hb : ∀ (h : iv_H) (s : iv_M) (hR : Rep nc Ls Xs h s) (mw2 : Int32) (xw2 : Int) (pw2 : mw2.toInt = xw2) (mw3 : Int32) (xw3 : Int) (pw3 : mw3.toInt = xw3) (mw4 : Int32) (xw4 : Int) (pw4 : mw4.toInt = xw4) (mw5 : Int32) (xw5 : Int) (pw5 : mw5.toInt = xw5), kb s xw2 xw3 xw4 xw5 = some r → Rn d 302 (some .int) 20 [some (.ref q0), some (.int m1), some (.int mw2), some (.int mw3), some (.int mw4), some (.int mw5), none, none] [] h Q) (hk : ∀ (h : iv_H) (s : iv_M) (hR : Rep nc Ls Xs h s) (mw2 : Int32) (xw2 : Int) (pw2 : mw2.toInt = xw2) (mw3 : Int32) (xw3 : Int) (pw3 : mw3.toInt = xw3) (mw4 : Int32) (xw4 : Int) (pw4 : mw4.toInt = xw4), kx s xw2 xw3 xw4 = some r → Rn d 302 (some .int) 164 [some (.ref q0), some (.int m1), some (.int mw2), some (.int mw3), some (.int mw4), none, none, none] [] h Q) (hq : ∀ (z : Int32) (h1 : iv_H), z.toInt = r.1 → Rep nc Ls Xs h1 r.2 → Q (some (.int z)) h1) (e : FX12_marks_b135 N s q0 x1 x2 x4 x5 x6  kb kx = some r) : Rn d 302 (some .int) 135 [some (.ref q0), some (.int m1), some (.int m2), none, some (.int m4), some (.int m5), some (.int m6), none] [] h Q := by
  have hT := hX12_marks
  unfold FX12_marks_b135 at e
  refine Rn.n hT 2 (pc' := 140) (L' := [some (.ref q0), some (.int m1), some (.int m2), none, some (.int m4), some (.int m5), some (.int m6), none]) (st' := [.int (1 : Int32)]) rfl ?_
  exact Rn.weak (ll_s (ll_s (ll_s (ll_n (ll_s (ll_s (ll_s (ll_n ll_e)))))))) (RX12_marks_b140 hd hR t0 p1 p2 p4 p5 p6 L32_1 hb hk hq e)
def FX12_marks_b125 (N : Nat) (s : iv_M) (q0 : Nat) (x1 : Int) (x3 : Int) (x4 : Int) (x5 : Int) (x6 : Int) (x7 : Int) (xs0 : Int) (kb : iv_M → Int → Int → Int → Int → Option (Int × iv_M)) (kx : iv_M → Int → Int → Int → Option (Int × iv_M)) : Option (Int × iv_M) := (if x3 = 0 then (if x7 = 0 then (FX12_marks_b140 N s q0 x1 xs0 x4 x5 x6 0 kb kx) else (FX12_marks_b135 N s q0 x1 xs0 x4 x5 x6 kb kx)) else (FX12_marks_b135 N s q0 x1 xs0 x4 x5 x6 kb kx))
set_option maxRecDepth 10000 in
set_option maxHeartbeats 4000000 in
theorem RX12_marks_b125 {d N nc Ls : Nat} {Xs : Nat → Int32} (hd : 4 ≤ d) {h : iv_H} {s : iv_M} (hR : Rep nc Ls Xs h s) {q0 : Nat} (t0 : T12 nc q0) {m1 : Int32} {x1 : Int} (p1 : m1.toInt = x1) {m3 : Int32} {x3 : Int} (p3 : m3.toInt = x3) {m4 : Int32} {x4 : Int} (p4 : m4.toInt = x4) {m5 : Int32} {x5 : Int} (p5 : m5.toInt = x5) {m6 : Int32} {x6 : Int} (p6 : m6.toInt = x6) {m7 : Int32} {x7 : Int} (p7 : m7.toInt = x7) {ms0 : Int32} {xs0 : Int} (ps0 : ms0.toInt = xs0) {kb : iv_M → Int → Int → Int → Int → Option (Int × iv_M)} {kx : iv_M → Int → Int → Int → Option (Int × iv_M)} {r : Int × iv_M} {Q : Option Value → iv_H → Prop} (hb : ∀ (h : iv_H) (s : iv_M) (hR : Rep nc Ls Xs h s) (mw2 : Int32) (xw2 : Int) (pw2 : mw2.toInt = xw2) (mw3 : Int32) (xw3 : Int) (pw3 : mw3.toInt = xw3) (mw4 : Int32) (xw4 : Int) (pw4 : mw4.toInt = xw4) (mw5 : Int32) (xw5 : Int) (pw5 : mw5.toInt = xw5), kb s xw2 xw3 xw4 xw5 = some r → Rn d 302 (some .int) 20 [some (.ref q0), some (.int m1), some (.int mw2), some (.int mw3), some (.int mw4), some (.int mw5), none, none] [] h Q) (hk : ∀ (h : iv_H) (s : iv_M) (hR : Rep nc Ls Xs h s) (mw2 : Int32) (xw2 : Int) (pw2 : mw2.toInt = xw2) (mw3 : Int32) (xw3 : Int) (pw3 : mw3.toInt = xw3) (mw4 : Int32) (xw4 : Int) (pw4 : mw4.toInt = xw4), kx s xw2 xw3 xw4 = some r → Rn d 302 (some .int) 164 [some (.ref q0), some (.int m1), some (.int mw2), some (.int mw3), some (.int mw4), none, none, none] [] h Q) (hq : ∀ (z : Int32) (h1 : iv_H), z.toInt = r.1 → Rep nc Ls Xs h1 r.2 → Q (some (.int z)) h1) (e : FX12_marks_b125 N s q0 x1 x3 x4 x5 x6 x7 xs0 kb kx = some r) : Rn d 302 (some .int) 125 [some (.ref q0), some (.int m1), none, some (.int m3), some (.int m4), some (.int m5), some (.int m6), some (.int m7)] [.int ms0] h Q := by
  have hT := hX12_marks
  unfold FX12_marks_b125 at e
  refine Rn.n hT 2 (pc' := 127) (L' := [some (.ref q0), some (.int m1), some (.int ms0), some (.int m3), some (.int m4), some (.int m5), some (.int m6), some (.int m7)]) (st' := [.int m3]) rfl ?_
  by_cases c_3759 : x3 = 0
  · rw [if_pos c_3759] at e
    refine Rn.bf hT rfl rfl rfl (decide_eq_false (fun z => z ((ti_e p3 L32_0).mpr c_3759))) ?_
    refine Rn.n hT 1 (pc' := 132) (L' := [some (.ref q0), some (.int m1), some (.int ms0), some (.int m3), some (.int m4), some (.int m5), some (.int m6), some (.int m7)]) (st' := [.int m7]) rfl ?_
    by_cases c_3760 : x7 = 0
    · rw [if_pos c_3760] at e
      refine Rn.bt hT rfl rfl rfl (decide_eq_true ((ti_e p7 L32_0).mpr c_3760)) ?_
      refine Rn.n hT 1 (pc' := 140) (L' := [some (.ref q0), some (.int m1), some (.int ms0), some (.int m3), some (.int m4), some (.int m5), some (.int m6), some (.int m7)]) (st' := [.int (0 : Int32)]) rfl ?_
      exact Rn.weak (ll_s (ll_s (ll_s (ll_n (ll_s (ll_s (ll_s (ll_n ll_e)))))))) (RX12_marks_b140 hd hR t0 p1 ps0 p4 p5 p6 L32_0 hb hk hq e)
    · rw [if_neg c_3760] at e
      refine Rn.bf hT rfl rfl rfl (decide_eq_false (fun z => c_3760 ((ti_e p7 L32_0).mp z))) ?_
      exact Rn.weak (ll_s (ll_s (ll_s (ll_n (ll_s (ll_s (ll_s (ll_n ll_e)))))))) (RX12_marks_b135 hd hR t0 p1 ps0 p4 p5 p6 hb hk hq e)
  · rw [if_neg c_3759] at e
    refine Rn.bt hT rfl rfl rfl (decide_eq_true (fun z => c_3759 ((ti_e p3 L32_0).mp z))) ?_
    exact Rn.weak (ll_s (ll_s (ll_s (ll_n (ll_s (ll_s (ll_s (ll_n ll_e)))))))) (RX12_marks_b135 hd hR t0 p1 ps0 p4 p5 p6 hb hk hq e)
def FX12_marks_b120 (N : Nat) (s : iv_M) (q0 : Nat) (x1 : Int) (x3 : Int) (x4 : Int) (x5 : Int) (x6 : Int) (x7 : Int)  (kb : iv_M → Int → Int → Int → Int → Option (Int × iv_M)) (kx : iv_M → Int → Int → Int → Option (Int × iv_M)) : Option (Int × iv_M) := (FX12_marks_b125 N s q0 x1 x3 x4 x5 x6 x7 1 kb kx)
set_option maxRecDepth 10000 in
set_option maxHeartbeats 4000000 in
theorem RX12_marks_b120 {d N nc Ls : Nat} {Xs : Nat → Int32} (hd : 4 ≤ d) {h : iv_H} {s : iv_M} (hR : Rep nc Ls Xs h s) {q0 : Nat} (t0 : T12 nc q0) {m1 : Int32} {x1 : Int} (p1 : m1.toInt = x1) {m3 : Int32} {x3 : Int} (p3 : m3.toInt = x3) {m4 : Int32} {x4 : Int} (p4 : m4.toInt = x4) {m5 : Int32} {x5 : Int} (p5 : m5.toInt = x5) {m6 : Int32} {x6 : Int} (p6 : m6.toInt = x6) {m7 : Int32} {x7 : Int} (p7 : m7.toInt = x7)  {kb : iv_M → Int → Int → Int → Int → Option (Int × iv_M)} {kx : iv_M → Int → Int → Int → Option (Int × iv_M)} {r : Int × iv_M} {Q : Option Value → iv_H → Prop} (hb : ∀ (h : iv_H) (s : iv_M) (hR : Rep nc Ls Xs h s) (mw2 : Int32) (xw2 : Int) (pw2 : mw2.toInt = xw2) (mw3 : Int32) (xw3 : Int) (pw3 : mw3.toInt = xw3) (mw4 : Int32) (xw4 : Int) (pw4 : mw4.toInt = xw4) (mw5 : Int32) (xw5 : Int) (pw5 : mw5.toInt = xw5), kb s xw2 xw3 xw4 xw5 = some r → Rn d 302 (some .int) 20 [some (.ref q0), some (.int m1), some (.int mw2), some (.int mw3), some (.int mw4), some (.int mw5), none, none] [] h Q) (hk : ∀ (h : iv_H) (s : iv_M) (hR : Rep nc Ls Xs h s) (mw2 : Int32) (xw2 : Int) (pw2 : mw2.toInt = xw2) (mw3 : Int32) (xw3 : Int) (pw3 : mw3.toInt = xw3) (mw4 : Int32) (xw4 : Int) (pw4 : mw4.toInt = xw4), kx s xw2 xw3 xw4 = some r → Rn d 302 (some .int) 164 [some (.ref q0), some (.int m1), some (.int mw2), some (.int mw3), some (.int mw4), none, none, none] [] h Q) (hq : ∀ (z : Int32) (h1 : iv_H), z.toInt = r.1 → Rep nc Ls Xs h1 r.2 → Q (some (.int z)) h1) (e : FX12_marks_b120 N s q0 x1 x3 x4 x5 x6 x7  kb kx = some r) : Rn d 302 (some .int) 120 [some (.ref q0), some (.int m1), none, some (.int m3), some (.int m4), some (.int m5), some (.int m6), some (.int m7)] [] h Q := by
  have hT := hX12_marks
  unfold FX12_marks_b120 at e
  refine Rn.n hT 2 (pc' := 125) (L' := [some (.ref q0), some (.int m1), none, some (.int m3), some (.int m4), some (.int m5), some (.int m6), some (.int m7)]) (st' := [.int (1 : Int32)]) rfl ?_
  exact Rn.weak (ll_s (ll_s (ll_n (ll_s (ll_s (ll_s (ll_s (ll_s ll_e)))))))) (RX12_marks_b125 hd hR t0 p1 p3 p4 p5 p6 p7 L32_1 hb hk hq e)
def FX12_marks_b124 (N : Nat) (s : iv_M) (q0 : Nat) (x1 : Int) (x3 : Int) (x4 : Int) (x5 : Int) (x6 : Int) (x7 : Int)  (kb : iv_M → Int → Int → Int → Int → Option (Int × iv_M)) (kx : iv_M → Int → Int → Int → Option (Int × iv_M)) : Option (Int × iv_M) := (FX12_marks_b125 N s q0 x1 x3 x4 x5 x6 x7 0 kb kx)
set_option maxRecDepth 10000 in
set_option maxHeartbeats 4000000 in
theorem RX12_marks_b124 {d N nc Ls : Nat} {Xs : Nat → Int32} (hd : 4 ≤ d) {h : iv_H} {s : iv_M} (hR : Rep nc Ls Xs h s) {q0 : Nat} (t0 : T12 nc q0) {m1 : Int32} {x1 : Int} (p1 : m1.toInt = x1) {m3 : Int32} {x3 : Int} (p3 : m3.toInt = x3) {m4 : Int32} {x4 : Int} (p4 : m4.toInt = x4) {m5 : Int32} {x5 : Int} (p5 : m5.toInt = x5) {m6 : Int32} {x6 : Int} (p6 : m6.toInt = x6) {m7 : Int32} {x7 : Int} (p7 : m7.toInt = x7)  {kb : iv_M → Int → Int → Int → Int → Option (Int × iv_M)} {kx : iv_M → Int → Int → Int → Option (Int × iv_M)} {r : Int × iv_M} {Q : Option Value → iv_H → Prop} (hb : ∀ (h : iv_H) (s : iv_M) (hR : Rep nc Ls Xs h s) (mw2 : Int32) (xw2 : Int) (pw2 : mw2.toInt = xw2) (mw3 : Int32) (xw3 : Int) (pw3 : mw3.toInt = xw3) (mw4 : Int32) (xw4 : Int) (pw4 : mw4.toInt = xw4) (mw5 : Int32) (xw5 : Int) (pw5 : mw5.toInt = xw5), kb s xw2 xw3 xw4 xw5 = some r → Rn d 302 (some .int) 20 [some (.ref q0), some (.int m1), some (.int mw2), some (.int mw3), some (.int mw4), some (.int mw5), none, none] [] h Q) (hk : ∀ (h : iv_H) (s : iv_M) (hR : Rep nc Ls Xs h s) (mw2 : Int32) (xw2 : Int) (pw2 : mw2.toInt = xw2) (mw3 : Int32) (xw3 : Int) (pw3 : mw3.toInt = xw3) (mw4 : Int32) (xw4 : Int) (pw4 : mw4.toInt = xw4), kx s xw2 xw3 xw4 = some r → Rn d 302 (some .int) 164 [some (.ref q0), some (.int m1), some (.int mw2), some (.int mw3), some (.int mw4), none, none, none] [] h Q) (hq : ∀ (z : Int32) (h1 : iv_H), z.toInt = r.1 → Rep nc Ls Xs h1 r.2 → Q (some (.int z)) h1) (e : FX12_marks_b124 N s q0 x1 x3 x4 x5 x6 x7  kb kx = some r) : Rn d 302 (some .int) 124 [some (.ref q0), some (.int m1), none, some (.int m3), some (.int m4), some (.int m5), some (.int m6), some (.int m7)] [] h Q := by
  have hT := hX12_marks
  unfold FX12_marks_b124 at e
  refine Rn.n hT 1 (pc' := 125) (L' := [some (.ref q0), some (.int m1), none, some (.int m3), some (.int m4), some (.int m5), some (.int m6), some (.int m7)]) (st' := [.int (0 : Int32)]) rfl ?_
  exact Rn.weak (ll_s (ll_s (ll_n (ll_s (ll_s (ll_s (ll_s (ll_s ll_e)))))))) (RX12_marks_b125 hd hR t0 p1 p3 p4 p5 p6 p7 L32_0 hb hk hq e)
def FX12_marks_b93 (N : Nat) (s : iv_M) (q0 : Nat) (x1 : Int) (x2 : Int) (x3 : Int) (x4 : Int) (x5 : Int) (x6 : Int) (xs0 : Int) (kb : iv_M → Int → Int → Int → Int → Option (Int × iv_M)) (kx : iv_M → Int → Int → Int → Option (Int × iv_M)) : Option (Int × iv_M) := (if x2 = 0 then ((rd s (q0 + 5) 12 x5).bind fun v_3755 => (if v_3755 = 1 then (if x6 = 0 then (if xs0 = 0 then (FX12_marks_b124 N s q0 x1 x3 x4 x5 x6 xs0 kb kx) else (FX12_marks_b120 N s q0 x1 x3 x4 x5 x6 xs0 kb kx)) else (FX12_marks_b120 N s q0 x1 x3 x4 x5 x6 xs0 kb kx)) else (FX12_marks_b124 N s q0 x1 x3 x4 x5 x6 xs0 kb kx))) else (FX12_marks_b120 N s q0 x1 x3 x4 x5 x6 xs0 kb kx))
set_option maxRecDepth 10000 in
set_option maxHeartbeats 4000000 in
theorem RX12_marks_b93 {d N nc Ls : Nat} {Xs : Nat → Int32} (hd : 4 ≤ d) {h : iv_H} {s : iv_M} (hR : Rep nc Ls Xs h s) {q0 : Nat} (t0 : T12 nc q0) {m1 : Int32} {x1 : Int} (p1 : m1.toInt = x1) {m2 : Int32} {x2 : Int} (p2 : m2.toInt = x2) {m3 : Int32} {x3 : Int} (p3 : m3.toInt = x3) {m4 : Int32} {x4 : Int} (p4 : m4.toInt = x4) {m5 : Int32} {x5 : Int} (p5 : m5.toInt = x5) {m6 : Int32} {x6 : Int} (p6 : m6.toInt = x6) {ms0 : Int32} {xs0 : Int} (ps0 : ms0.toInt = xs0) {kb : iv_M → Int → Int → Int → Int → Option (Int × iv_M)} {kx : iv_M → Int → Int → Int → Option (Int × iv_M)} {r : Int × iv_M} {Q : Option Value → iv_H → Prop} (hb : ∀ (h : iv_H) (s : iv_M) (hR : Rep nc Ls Xs h s) (mw2 : Int32) (xw2 : Int) (pw2 : mw2.toInt = xw2) (mw3 : Int32) (xw3 : Int) (pw3 : mw3.toInt = xw3) (mw4 : Int32) (xw4 : Int) (pw4 : mw4.toInt = xw4) (mw5 : Int32) (xw5 : Int) (pw5 : mw5.toInt = xw5), kb s xw2 xw3 xw4 xw5 = some r → Rn d 302 (some .int) 20 [some (.ref q0), some (.int m1), some (.int mw2), some (.int mw3), some (.int mw4), some (.int mw5), none, none] [] h Q) (hk : ∀ (h : iv_H) (s : iv_M) (hR : Rep nc Ls Xs h s) (mw2 : Int32) (xw2 : Int) (pw2 : mw2.toInt = xw2) (mw3 : Int32) (xw3 : Int) (pw3 : mw3.toInt = xw3) (mw4 : Int32) (xw4 : Int) (pw4 : mw4.toInt = xw4), kx s xw2 xw3 xw4 = some r → Rn d 302 (some .int) 164 [some (.ref q0), some (.int m1), some (.int mw2), some (.int mw3), some (.int mw4), none, none, none] [] h Q) (hq : ∀ (z : Int32) (h1 : iv_H), z.toInt = r.1 → Rep nc Ls Xs h1 r.2 → Q (some (.int z)) h1) (e : FX12_marks_b93 N s q0 x1 x2 x3 x4 x5 x6 xs0 kb kx = some r) : Rn d 302 (some .int) 93 [some (.ref q0), some (.int m1), some (.int m2), some (.int m3), some (.int m4), some (.int m5), some (.int m6), none] [.int ms0] h Q := by
  have hT := hX12_marks
  unfold FX12_marks_b93 at e
  refine Rn.n hT 2 (pc' := 96) (L' := [some (.ref q0), some (.int m1), some (.int m2), some (.int m3), some (.int m4), some (.int m5), some (.int m6), some (.int ms0)]) (st' := [.int m2]) rfl ?_
  by_cases c_3754 : x2 = 0
  · rw [if_pos c_3754] at e
    refine Rn.bf hT rfl rfl rfl (decide_eq_false (fun z => z ((ti_e p2 L32_0).mpr c_3754))) ?_
    refine Rn.n hT 1 (pc' := 100) (L' := [some (.ref q0), some (.int m1), some (.int m2), some (.int m3), some (.int m4), some (.int m5), some (.int m6), some (.int ms0)]) (st' := [.ref q0]) rfl ?_
    refine Rn.hp hT rfl rfl (gR_hp (rp_gR hR (T12_o t0) rfl)) ?_
    refine Rn.n hT 1 (pc' := 105) (L' := [some (.ref q0), some (.int m1), some (.int m2), some (.int m3), some (.int m4), some (.int m5), some (.int m6), some (.int ms0)]) (st' := [.int m5, .ref (q0 + 5)]) rfl ?_
    obtain ⟨v_3755, e_3755, e⟩ := Option.bind_eq_some_iff.mp e
    obtain ⟨z_3755, g_3755, p_3755⟩ := rp_aI hR (T12_5 t0) (T12_5l t0) p5 e_3755
    refine Rn.hp hT rfl rfl (aI_hp g_3755) ?_
    refine Rn.n hT 1 (pc' := 107) (L' := [some (.ref q0), some (.int m1), some (.int m2), some (.int m3), some (.int m4), some (.int m5), some (.int m6), some (.int ms0)]) (st' := [.int (1 : Int32), .int z_3755]) rfl ?_
    by_cases c_3756 : v_3755 = 1
    · rw [if_pos c_3756] at e
      refine Rn.bf hT rfl rfl rfl (decide_eq_false (fun z => z ((ti_e p_3755 L32_1).mpr c_3756))) ?_
      refine Rn.n hT 1 (pc' := 112) (L' := [some (.ref q0), some (.int m1), some (.int m2), some (.int m3), some (.int m4), some (.int m5), some (.int m6), some (.int ms0)]) (st' := [.int m6]) rfl ?_
      by_cases c_3757 : x6 = 0
      · rw [if_pos c_3757] at e
        refine Rn.bf hT rfl rfl rfl (decide_eq_false (fun z => z ((ti_e p6 L32_0).mpr c_3757))) ?_
        refine Rn.n hT 1 (pc' := 117) (L' := [some (.ref q0), some (.int m1), some (.int m2), some (.int m3), some (.int m4), some (.int m5), some (.int m6), some (.int ms0)]) (st' := [.int ms0]) rfl ?_
        by_cases c_3758 : xs0 = 0
        · rw [if_pos c_3758] at e
          refine Rn.bt hT rfl rfl rfl (decide_eq_true ((ti_e ps0 L32_0).mpr c_3758)) ?_
          exact Rn.weak (ll_s (ll_s (ll_n (ll_s (ll_s (ll_s (ll_s (ll_s ll_e)))))))) (RX12_marks_b124 hd hR t0 p1 p3 p4 p5 p6 ps0 hb hk hq e)
        · rw [if_neg c_3758] at e
          refine Rn.bf hT rfl rfl rfl (decide_eq_false (fun z => c_3758 ((ti_e ps0 L32_0).mp z))) ?_
          exact Rn.weak (ll_s (ll_s (ll_n (ll_s (ll_s (ll_s (ll_s (ll_s ll_e)))))))) (RX12_marks_b120 hd hR t0 p1 p3 p4 p5 p6 ps0 hb hk hq e)
      · rw [if_neg c_3757] at e
        refine Rn.bt hT rfl rfl rfl (decide_eq_true (fun z => c_3757 ((ti_e p6 L32_0).mp z))) ?_
        exact Rn.weak (ll_s (ll_s (ll_n (ll_s (ll_s (ll_s (ll_s (ll_s ll_e)))))))) (RX12_marks_b120 hd hR t0 p1 p3 p4 p5 p6 ps0 hb hk hq e)
    · rw [if_neg c_3756] at e
      refine Rn.bt hT rfl rfl rfl (decide_eq_true (fun z => c_3756 ((ti_e p_3755 L32_1).mp z))) ?_
      exact Rn.weak (ll_s (ll_s (ll_n (ll_s (ll_s (ll_s (ll_s (ll_s ll_e)))))))) (RX12_marks_b124 hd hR t0 p1 p3 p4 p5 p6 ps0 hb hk hq e)
  · rw [if_neg c_3754] at e
    refine Rn.bt hT rfl rfl rfl (decide_eq_true (fun z => c_3754 ((ti_e p2 L32_0).mp z))) ?_
    exact Rn.weak (ll_s (ll_s (ll_n (ll_s (ll_s (ll_s (ll_s (ll_s ll_e)))))))) (RX12_marks_b120 hd hR t0 p1 p3 p4 p5 p6 ps0 hb hk hq e)
def FX12_marks_b60 (N : Nat) (s : iv_M) (q0 : Nat) (x1 : Int) (x2 : Int) (x3 : Int) (x4 : Int) (x5 : Int) (xs0 : Int) (kb : iv_M → Int → Int → Int → Int → Option (Int × iv_M)) (kx : iv_M → Int → Int → Int → Option (Int × iv_M)) : Option (Int × iv_M) := ((rd s (q0 + 4) 12 x5).bind fun v_3751 => ((rd s (q0 + 10) 96 (w32 ((w32 ((w32 (24 * x1)) + (w32 (2 * x5)))) + 1))).bind fun v_3752 => (if v_3751 = v_3752 then (FX12_marks_b93 N s q0 x1 x2 x3 x4 x5 xs0 0 kb kx) else (FX12_marks_b93 N s q0 x1 x2 x3 x4 x5 xs0 1 kb kx))))
set_option maxRecDepth 10000 in
set_option maxHeartbeats 4000000 in
theorem RX12_marks_b60 {d N nc Ls : Nat} {Xs : Nat → Int32} (hd : 4 ≤ d) {h : iv_H} {s : iv_M} (hR : Rep nc Ls Xs h s) {q0 : Nat} (t0 : T12 nc q0) {m1 : Int32} {x1 : Int} (p1 : m1.toInt = x1) {m2 : Int32} {x2 : Int} (p2 : m2.toInt = x2) {m3 : Int32} {x3 : Int} (p3 : m3.toInt = x3) {m4 : Int32} {x4 : Int} (p4 : m4.toInt = x4) {m5 : Int32} {x5 : Int} (p5 : m5.toInt = x5) {ms0 : Int32} {xs0 : Int} (ps0 : ms0.toInt = xs0) {kb : iv_M → Int → Int → Int → Int → Option (Int × iv_M)} {kx : iv_M → Int → Int → Int → Option (Int × iv_M)} {r : Int × iv_M} {Q : Option Value → iv_H → Prop} (hb : ∀ (h : iv_H) (s : iv_M) (hR : Rep nc Ls Xs h s) (mw2 : Int32) (xw2 : Int) (pw2 : mw2.toInt = xw2) (mw3 : Int32) (xw3 : Int) (pw3 : mw3.toInt = xw3) (mw4 : Int32) (xw4 : Int) (pw4 : mw4.toInt = xw4) (mw5 : Int32) (xw5 : Int) (pw5 : mw5.toInt = xw5), kb s xw2 xw3 xw4 xw5 = some r → Rn d 302 (some .int) 20 [some (.ref q0), some (.int m1), some (.int mw2), some (.int mw3), some (.int mw4), some (.int mw5), none, none] [] h Q) (hk : ∀ (h : iv_H) (s : iv_M) (hR : Rep nc Ls Xs h s) (mw2 : Int32) (xw2 : Int) (pw2 : mw2.toInt = xw2) (mw3 : Int32) (xw3 : Int) (pw3 : mw3.toInt = xw3) (mw4 : Int32) (xw4 : Int) (pw4 : mw4.toInt = xw4), kx s xw2 xw3 xw4 = some r → Rn d 302 (some .int) 164 [some (.ref q0), some (.int m1), some (.int mw2), some (.int mw3), some (.int mw4), none, none, none] [] h Q) (hq : ∀ (z : Int32) (h1 : iv_H), z.toInt = r.1 → Rep nc Ls Xs h1 r.2 → Q (some (.int z)) h1) (e : FX12_marks_b60 N s q0 x1 x2 x3 x4 x5 xs0 kb kx = some r) : Rn d 302 (some .int) 60 [some (.ref q0), some (.int m1), some (.int m2), some (.int m3), some (.int m4), some (.int m5), none, none] [.int ms0] h Q := by
  have hT := hX12_marks
  unfold FX12_marks_b60 at e
  refine Rn.n hT 2 (pc' := 63) (L' := [some (.ref q0), some (.int m1), some (.int m2), some (.int m3), some (.int m4), some (.int m5), some (.int ms0), none]) (st' := [.ref q0]) rfl ?_
  refine Rn.hp hT rfl rfl (gR_hp (rp_gR hR (T12_o t0) rfl)) ?_
  refine Rn.n hT 1 (pc' := 68) (L' := [some (.ref q0), some (.int m1), some (.int m2), some (.int m3), some (.int m4), some (.int m5), some (.int ms0), none]) (st' := [.int m5, .ref (q0 + 4)]) rfl ?_
  obtain ⟨v_3751, e_3751, e⟩ := Option.bind_eq_some_iff.mp e
  obtain ⟨z_3751, g_3751, p_3751⟩ := rp_aI hR (T12_4 t0) (T12_4l t0) p5 e_3751
  refine Rn.hp hT rfl rfl (aI_hp g_3751) ?_
  refine Rn.n hT 1 (pc' := 70) (L' := [some (.ref q0), some (.int m1), some (.int m2), some (.int m3), some (.int m4), some (.int m5), some (.int ms0), none]) (st' := [.ref q0, .int z_3751]) rfl ?_
  refine Rn.hp hT rfl rfl (gR_hp (rp_gR hR (T12_o t0) rfl)) ?_
  refine Rn.n hT 9 (pc' := 84) (L' := [some (.ref q0), some (.int m1), some (.int m2), some (.int m3), some (.int m4), some (.int m5), some (.int ms0), none]) (st' := [.int ((((24 : Int32) * m1) + ((2 : Int32) * m5)) + (1 : Int32)), .ref (q0 + 10), .int z_3751]) rfl ?_
  obtain ⟨v_3752, e_3752, e⟩ := Option.bind_eq_some_iff.mp e
  obtain ⟨z_3752, g_3752, p_3752⟩ := rp_aI hR (T12_10 t0) (T12_10l t0) (ti_add (ti_add (ti_mul L32_24 p1) (ti_mul L32_2 p5)) L32_1) e_3752
  refine Rn.hp hT rfl rfl (aI_hp g_3752) ?_
  by_cases c_3753 : v_3751 = v_3752
  · rw [if_pos c_3753] at e
    refine Rn.bt hT rfl rfl rfl (decide_eq_true ((ti_e p_3751 p_3752).mpr c_3753)) ?_
    refine Rn.n hT 1 (pc' := 93) (L' := [some (.ref q0), some (.int m1), some (.int m2), some (.int m3), some (.int m4), some (.int m5), some (.int ms0), none]) (st' := [.int (0 : Int32)]) rfl ?_
    exact Rn.weak (ll_s (ll_s (ll_s (ll_s (ll_s (ll_s (ll_s (ll_n ll_e)))))))) (RX12_marks_b93 hd hR t0 p1 p2 p3 p4 p5 ps0 L32_0 hb hk hq e)
  · rw [if_neg c_3753] at e
    refine Rn.bf hT rfl rfl rfl (decide_eq_false (fun z => c_3753 ((ti_e p_3751 p_3752).mp z))) ?_
    refine Rn.n hT 2 (pc' := 93) (L' := [some (.ref q0), some (.int m1), some (.int m2), some (.int m3), some (.int m4), some (.int m5), some (.int ms0), none]) (st' := [.int (1 : Int32)]) rfl ?_
    exact Rn.weak (ll_s (ll_s (ll_s (ll_s (ll_s (ll_s (ll_s (ll_n ll_e)))))))) (RX12_marks_b93 hd hR t0 p1 p2 p3 p4 p5 ps0 L32_1 hb hk hq e)
def FX12_marks_l20 (N : Nat) (q0 : Nat) (x1 : Int) (kx : iv_M → Int → Int → Int → Option (Int × iv_M)) : Nat → iv_M → Int → Int → Int → Int → Option (Int × iv_M)
  | 0, _, _, _, _, _ => none
  | n + 1, s, x2, x3, x4, x5 => ((rd s (q0 + 1) 14 2).bind fun v_3746 => (if v_3746 ≤ x5 then (kx s x2 x3 x4) else ((rd s (q0 + 3) 12 x5).bind fun v_3748 => ((rd s (q0 + 10) 96 (w32 ((w32 (24 * x1)) + (w32 (2 * x5))))).bind fun v_3749 => (if v_3748 = v_3749 then (FX12_marks_b60 N s q0 x1 x2 x3 x4 x5 0 (FX12_marks_l20 N q0 x1 kx n) kx) else (FX12_marks_b60 N s q0 x1 x2 x3 x4 x5 1 (FX12_marks_l20 N q0 x1 kx n) kx))))))
set_option maxRecDepth 10000 in
set_option maxHeartbeats 4000000 in
theorem RX12_marks_l20 {d N nc Ls : Nat} {Xs : Nat → Int32} (hd : 4 ≤ d) {q0 : Nat} (t0 : T12 nc q0) {m1 : Int32} {x1 : Int} (p1 : m1.toInt = x1) {kx : iv_M → Int → Int → Int → Option (Int × iv_M)} {r : Int × iv_M} {Q : Option Value → iv_H → Prop} (hk : ∀ (h : iv_H) (s : iv_M) (hR : Rep nc Ls Xs h s) (m2 : Int32) (x2 : Int) (p2 : m2.toInt = x2) (m3 : Int32) (x3 : Int) (p3 : m3.toInt = x3) (m4 : Int32) (x4 : Int) (p4 : m4.toInt = x4), kx s x2 x3 x4 = some r → Rn d 302 (some .int) 164 [some (.ref q0), some (.int m1), some (.int m2), some (.int m3), some (.int m4), none, none, none] [] h Q) (hq : ∀ (z : Int32) (h1 : iv_H), z.toInt = r.1 → Rep nc Ls Xs h1 r.2 → Q (some (.int z)) h1) : ∀ (n : Nat) (h : iv_H) (s : iv_M) (hR : Rep nc Ls Xs h s) (m2 : Int32) (x2 : Int) (p2 : m2.toInt = x2) (m3 : Int32) (x3 : Int) (p3 : m3.toInt = x3) (m4 : Int32) (x4 : Int) (p4 : m4.toInt = x4) (m5 : Int32) (x5 : Int) (p5 : m5.toInt = x5), FX12_marks_l20 N q0 x1 kx n s x2 x3 x4 x5 = some r → Rn d 302 (some .int) 20 [some (.ref q0), some (.int m1), some (.int m2), some (.int m3), some (.int m4), some (.int m5), none, none] [] h Q := by
  have hT := hX12_marks
  intro n
  induction n with
  | zero =>
    intro h s hR m2 x2 p2 m3 x3 p3 m4 x4 p4 m5 x5 p5 e
    rw [FX12_marks_l20] at e
    cases e
  | succ n ih =>
    intro h s hR m2 x2 p2 m3 x3 p3 m4 x4 p4 m5 x5 p5 e
    rw [FX12_marks_l20] at e
    refine Rn.n hT 2 (pc' := 23) (L' := [some (.ref q0), some (.int m1), some (.int m2), some (.int m3), some (.int m4), some (.int m5), none, none]) (st' := [.ref q0, .int m5]) rfl ?_
    refine Rn.hp hT rfl rfl (gR_hp (rp_gR hR (T12_o t0) rfl)) ?_
    refine Rn.n hT 1 (pc' := 27) (L' := [some (.ref q0), some (.int m1), some (.int m2), some (.int m3), some (.int m4), some (.int m5), none, none]) (st' := [.int (2 : Int32), .ref (q0 + 1), .int m5]) rfl ?_
    obtain ⟨v_3746, e_3746, e⟩ := Option.bind_eq_some_iff.mp e
    obtain ⟨z_3746, g_3746, p_3746⟩ := rp_aI hR (T12_1 t0) (T12_1l t0) L32_2 e_3746
    refine Rn.hp hT rfl rfl (aI_hp g_3746) ?_
    by_cases c_3747 : v_3746 ≤ x5
    · rw [if_pos c_3747] at e
      refine Rn.bt hT rfl rfl rfl (decide_eq_true ((ti_le p_3746 p5).mpr c_3747)) ?_
      exact Rn.weak (ll_s (ll_s (ll_s (ll_s (ll_s (ll_n (ll_n (ll_n ll_e)))))))) (hk h s hR m2 x2 p2 m3 x3 p3 m4 x4 p4 e)
    · rw [if_neg c_3747] at e
      refine Rn.bf hT rfl rfl rfl (decide_eq_false (fun z => c_3747 ((ti_le p_3746 p5).mp z))) ?_
      refine Rn.n hT 1 (pc' := 32) (L' := [some (.ref q0), some (.int m1), some (.int m2), some (.int m3), some (.int m4), some (.int m5), none, none]) (st' := [.ref q0]) rfl ?_
      refine Rn.hp hT rfl rfl (gR_hp (rp_gR hR (T12_o t0) rfl)) ?_
      refine Rn.n hT 1 (pc' := 37) (L' := [some (.ref q0), some (.int m1), some (.int m2), some (.int m3), some (.int m4), some (.int m5), none, none]) (st' := [.int m5, .ref (q0 + 3)]) rfl ?_
      obtain ⟨v_3748, e_3748, e⟩ := Option.bind_eq_some_iff.mp e
      obtain ⟨z_3748, g_3748, p_3748⟩ := rp_aI hR (T12_3 t0) (T12_3l t0) p5 e_3748
      refine Rn.hp hT rfl rfl (aI_hp g_3748) ?_
      refine Rn.n hT 1 (pc' := 39) (L' := [some (.ref q0), some (.int m1), some (.int m2), some (.int m3), some (.int m4), some (.int m5), none, none]) (st' := [.ref q0, .int z_3748]) rfl ?_
      refine Rn.hp hT rfl rfl (gR_hp (rp_gR hR (T12_o t0) rfl)) ?_
      refine Rn.n hT 7 (pc' := 51) (L' := [some (.ref q0), some (.int m1), some (.int m2), some (.int m3), some (.int m4), some (.int m5), none, none]) (st' := [.int (((24 : Int32) * m1) + ((2 : Int32) * m5)), .ref (q0 + 10), .int z_3748]) rfl ?_
      obtain ⟨v_3749, e_3749, e⟩ := Option.bind_eq_some_iff.mp e
      obtain ⟨z_3749, g_3749, p_3749⟩ := rp_aI hR (T12_10 t0) (T12_10l t0) (ti_add (ti_mul L32_24 p1) (ti_mul L32_2 p5)) e_3749
      refine Rn.hp hT rfl rfl (aI_hp g_3749) ?_
      by_cases c_3750 : v_3748 = v_3749
      · rw [if_pos c_3750] at e
        refine Rn.bt hT rfl rfl rfl (decide_eq_true ((ti_e p_3748 p_3749).mpr c_3750)) ?_
        refine Rn.n hT 1 (pc' := 60) (L' := [some (.ref q0), some (.int m1), some (.int m2), some (.int m3), some (.int m4), some (.int m5), none, none]) (st' := [.int (0 : Int32)]) rfl ?_
        exact Rn.weak (ll_s (ll_s (ll_s (ll_s (ll_s (ll_s (ll_n (ll_n ll_e)))))))) (RX12_marks_b60 hd hR t0 p1 p2 p3 p4 p5 L32_0 ih hk hq e)
      · rw [if_neg c_3750] at e
        refine Rn.bf hT rfl rfl rfl (decide_eq_false (fun z => c_3750 ((ti_e p_3748 p_3749).mp z))) ?_
        refine Rn.n hT 2 (pc' := 60) (L' := [some (.ref q0), some (.int m1), some (.int m2), some (.int m3), some (.int m4), some (.int m5), none, none]) (st' := [.int (1 : Int32)]) rfl ?_
        exact Rn.weak (ll_s (ll_s (ll_s (ll_s (ll_s (ll_s (ll_n (ll_n ll_e)))))))) (RX12_marks_b60 hd hR t0 p1 p2 p3 p4 p5 L32_1 ih hk hq e)
def FX12_marks_b257 (N : Nat) (s : iv_M)  (xs0 : Int) (xs1 : Int) : Option (Int × iv_M) := (some ((w32 (xs1 + xs0)), s))
set_option maxRecDepth 10000 in
set_option maxHeartbeats 4000000 in
theorem RX12_marks_b257 {d N nc Ls : Nat} {Xs : Nat → Int32} (hd : 4 ≤ d) {h : iv_H} {s : iv_M} (hR : Rep nc Ls Xs h s)  {ms0 : Int32} {xs0 : Int} (ps0 : ms0.toInt = xs0) {ms1 : Int32} {xs1 : Int} (ps1 : ms1.toInt = xs1) {r : Int × iv_M} {Q : Option Value → iv_H → Prop} (hq : ∀ (z : Int32) (h1 : iv_H), z.toInt = r.1 → Rep nc Ls Xs h1 r.2 → Q (some (.int z)) h1) (e : FX12_marks_b257 N s  xs0 xs1 = some r) : Rn d 302 (some .int) 257 [none, none, none, none, none, none, none, none] [.int ms0, .int ms1] h Q := by
  have hT := hX12_marks
  unfold FX12_marks_b257 at e
  refine Rn.n hT 1 (pc' := 258) (L' := [none, none, none, none, none, none, none, none]) (st' := [.int (ms1 + ms0)]) rfl ?_
  obtain rfl := Option.some.inj e
  exact Rn.ret hT rfl rfl rfl (hq (ms1 + ms0) h (ti_add ps1 ps0) hR)
def FX12_marks_b256 (N : Nat) (s : iv_M)  (xs0 : Int) : Option (Int × iv_M) := (FX12_marks_b257 N s 0 xs0)
set_option maxRecDepth 10000 in
set_option maxHeartbeats 4000000 in
theorem RX12_marks_b256 {d N nc Ls : Nat} {Xs : Nat → Int32} (hd : 4 ≤ d) {h : iv_H} {s : iv_M} (hR : Rep nc Ls Xs h s)  {ms0 : Int32} {xs0 : Int} (ps0 : ms0.toInt = xs0) {r : Int × iv_M} {Q : Option Value → iv_H → Prop} (hq : ∀ (z : Int32) (h1 : iv_H), z.toInt = r.1 → Rep nc Ls Xs h1 r.2 → Q (some (.int z)) h1) (e : FX12_marks_b256 N s  xs0 = some r) : Rn d 302 (some .int) 256 [none, none, none, none, none, none, none, none] [.int ms0] h Q := by
  have hT := hX12_marks
  unfold FX12_marks_b256 at e
  refine Rn.n hT 1 (pc' := 257) (L' := [none, none, none, none, none, none, none, none]) (st' := [.int (0 : Int32), .int ms0]) rfl ?_
  exact Rn.weak (ll_n (ll_n (ll_n (ll_n (ll_n (ll_n (ll_n (ll_n ll_e)))))))) (RX12_marks_b257 hd hR L32_0 ps0 hq e)
def FX12_marks_b223 (N : Nat) (s : iv_M) (q0 : Nat) (x1 : Int) (x5 : Int) (xs0 : Int) (xs1 : Int) : Option (Int × iv_M) := (if (bAn x5 2) = 0 then ((FX12_emptyMany N s q0).bind fun v_3768 => (if v_3768 = 1 then ((FX12_canBySlides N s q0 x1).bind fun r_3770 => (fun (v_3770 : Int) (s_3771 : iv_M) => (if v_3770 = 0 then (FX12_marks_b257 N s_3771 8 (w32 (xs1 + xs0))) else (FX12_marks_b256 N s_3771 (w32 (xs1 + xs0))))) r_3770.1 r_3770.2) else (FX12_marks_b256 N s (w32 (xs1 + xs0))))) else (FX12_marks_b256 N s (w32 (xs1 + xs0))))
set_option maxRecDepth 10000 in
set_option maxHeartbeats 4000000 in
theorem RX12_marks_b223 {d N nc Ls : Nat} {Xs : Nat → Int32} (hd : 4 ≤ d) {h : iv_H} {s : iv_M} (hR : Rep nc Ls Xs h s) {q0 : Nat} (t0 : T12 nc q0) {m1 : Int32} {x1 : Int} (p1 : m1.toInt = x1) {m5 : Int32} {x5 : Int} (p5 : m5.toInt = x5) {ms0 : Int32} {xs0 : Int} (ps0 : ms0.toInt = xs0) {ms1 : Int32} {xs1 : Int} (ps1 : ms1.toInt = xs1) {r : Int × iv_M} {Q : Option Value → iv_H → Prop} (hq : ∀ (z : Int32) (h1 : iv_H), z.toInt = r.1 → Rep nc Ls Xs h1 r.2 → Q (some (.int z)) h1) (e : FX12_marks_b223 N s q0 x1 x5 xs0 xs1 = some r) : Rn d 302 (some .int) 223 [some (.ref q0), some (.int m1), none, none, none, some (.int m5), none, none] [.int ms0, .int ms1] h Q := by
  have hT := hX12_marks
  unfold FX12_marks_b223 at e
  refine Rn.n hT 6 (pc' := 232) (L' := [some (.ref q0), some (.int m1), none, none, none, some (.int m5), some (.int (ms1 + ms0)), none]) (st' := [.int (m5 &&& (2 : Int32)), .int (ms1 + ms0)]) rfl ?_
  by_cases c_3767 : (bAn x5 2) = 0
  · rw [if_pos c_3767] at e
    refine Rn.bf hT rfl rfl rfl (decide_eq_false (fun z => z ((ti_e (ti_and p5 L32_2) L32_0).mpr c_3767))) ?_
    refine Rn.n hT 1 (pc' := 236) (L' := [some (.ref q0), some (.int m1), none, none, none, some (.int m5), some (.int (ms1 + ms0)), none]) (st' := [.ref q0, .int (ms1 + ms0)]) rfl ?_
    obtain ⟨v_3768, e_3768, e⟩ := Option.bind_eq_some_iff.mp e
    refine Rn.call hT rfl rfl rfl (Nat.le_of_ble_eq_true rfl) (rcv_v gX12_emptyMany (by omega) (rp_ck hR (T12_o t0))) (RX12_emptyMany (by omega) hR t0 e_3768 (fun z_3768 p_3768 => ?_))
    show Rn d _ _ 239 [some (.ref q0), some (.int m1), none, none, none, some (.int m5), some (.int (ms1 + ms0)), none] [.int z_3768, .int (ms1 + ms0)] h Q
    refine Rn.n hT 1 (pc' := 240) (L' := [some (.ref q0), some (.int m1), none, none, none, some (.int m5), some (.int (ms1 + ms0)), none]) (st' := [.int (1 : Int32), .int z_3768, .int (ms1 + ms0)]) rfl ?_
    by_cases c_3769 : v_3768 = 1
    · rw [if_pos c_3769] at e
      refine Rn.bf hT rfl rfl rfl (decide_eq_false (fun z => z ((ti_e p_3768 L32_1).mpr c_3769))) ?_
      refine Rn.n hT 2 (pc' := 245) (L' := [some (.ref q0), some (.int m1), none, none, none, some (.int m5), some (.int (ms1 + ms0)), none]) (st' := [.int m1, .ref q0, .int (ms1 + ms0)]) rfl ?_
      obtain ⟨⟨v_3770, s_3771⟩, e_3770, e⟩ := Option.bind_eq_some_iff.mp e
      try dsimp only at e
      try dsimp only at e
      refine Rn.call hT rfl rfl rfl (Nat.le_of_ble_eq_true rfl) (rcv_v gX12_canBySlides (by omega) (rp_ck hR (T12_o t0))) (RX12_canBySlides (by omega) hR t0 p1 e_3770 (fun z_3770 h_3771 p_3770 R_3771 => ?_))
      show Rn d _ _ 248 [some (.ref q0), some (.int m1), none, none, none, some (.int m5), some (.int (ms1 + ms0)), none] [.int z_3770, .int (ms1 + ms0)] h_3771 Q
      by_cases c_3772 : v_3770 = 0
      · rw [if_pos c_3772] at e
        refine Rn.bf hT rfl rfl rfl (decide_eq_false (fun z => z ((ti_e p_3770 L32_0).mpr c_3772))) ?_
        refine Rn.n hT 2 (pc' := 257) (L' := [some (.ref q0), some (.int m1), none, none, none, some (.int m5), some (.int (ms1 + ms0)), none]) (st' := [.int (8 : Int32), .int (ms1 + ms0)]) rfl ?_
        exact Rn.weak (ll_n (ll_n (ll_n (ll_n (ll_n (ll_n (ll_n (ll_n ll_e)))))))) (RX12_marks_b257 hd R_3771 L32_8 (ti_add ps1 ps0) hq e)
      · rw [if_neg c_3772] at e
        refine Rn.bt hT rfl rfl rfl (decide_eq_true (fun z => c_3772 ((ti_e p_3770 L32_0).mp z))) ?_
        exact Rn.weak (ll_n (ll_n (ll_n (ll_n (ll_n (ll_n (ll_n (ll_n ll_e)))))))) (RX12_marks_b256 hd R_3771 (ti_add ps1 ps0) hq e)
    · rw [if_neg c_3769] at e
      refine Rn.bt hT rfl rfl rfl (decide_eq_true (fun z => c_3769 ((ti_e p_3768 L32_1).mp z))) ?_
      exact Rn.weak (ll_n (ll_n (ll_n (ll_n (ll_n (ll_n (ll_n (ll_n ll_e)))))))) (RX12_marks_b256 hd hR (ti_add ps1 ps0) hq e)
  · rw [if_neg c_3767] at e
    refine Rn.bt hT rfl rfl rfl (decide_eq_true (fun z => c_3767 ((ti_e (ti_and p5 L32_2) L32_0).mp z))) ?_
    exact Rn.weak (ll_n (ll_n (ll_n (ll_n (ll_n (ll_n (ll_n (ll_n ll_e)))))))) (RX12_marks_b256 hd hR (ti_add ps1 ps0) hq e)
def FX12_marks_b222 (N : Nat) (s : iv_M) (q0 : Nat) (x1 : Int) (x5 : Int) (xs0 : Int) : Option (Int × iv_M) := (FX12_marks_b223 N s q0 x1 x5 0 xs0)
set_option maxRecDepth 10000 in
set_option maxHeartbeats 4000000 in
theorem RX12_marks_b222 {d N nc Ls : Nat} {Xs : Nat → Int32} (hd : 4 ≤ d) {h : iv_H} {s : iv_M} (hR : Rep nc Ls Xs h s) {q0 : Nat} (t0 : T12 nc q0) {m1 : Int32} {x1 : Int} (p1 : m1.toInt = x1) {m5 : Int32} {x5 : Int} (p5 : m5.toInt = x5) {ms0 : Int32} {xs0 : Int} (ps0 : ms0.toInt = xs0) {r : Int × iv_M} {Q : Option Value → iv_H → Prop} (hq : ∀ (z : Int32) (h1 : iv_H), z.toInt = r.1 → Rep nc Ls Xs h1 r.2 → Q (some (.int z)) h1) (e : FX12_marks_b222 N s q0 x1 x5 xs0 = some r) : Rn d 302 (some .int) 222 [some (.ref q0), some (.int m1), none, none, none, some (.int m5), none, none] [.int ms0] h Q := by
  have hT := hX12_marks
  unfold FX12_marks_b222 at e
  refine Rn.n hT 1 (pc' := 223) (L' := [some (.ref q0), some (.int m1), none, none, none, some (.int m5), none, none]) (st' := [.int (0 : Int32), .int ms0]) rfl ?_
  exact Rn.weak (ll_s (ll_s (ll_n (ll_n (ll_n (ll_s (ll_n (ll_n ll_e)))))))) (RX12_marks_b223 hd hR t0 p1 p5 L32_0 ps0 hq e)
def FX12_marks_b201 (N : Nat) (s : iv_M) (q0 : Nat) (x1 : Int) (x4 : Int) (x5 : Int) (xs0 : Int) (xs1 : Int) : Option (Int × iv_M) := (if (bAn x5 3) = 0 then (if x4 = 0 then (FX12_marks_b222 N s q0 x1 x5 (w32 (xs1 + xs0))) else (FX12_marks_b223 N s q0 x1 x5 4 (w32 (xs1 + xs0)))) else (FX12_marks_b222 N s q0 x1 x5 (w32 (xs1 + xs0))))
set_option maxRecDepth 10000 in
set_option maxHeartbeats 4000000 in
theorem RX12_marks_b201 {d N nc Ls : Nat} {Xs : Nat → Int32} (hd : 4 ≤ d) {h : iv_H} {s : iv_M} (hR : Rep nc Ls Xs h s) {q0 : Nat} (t0 : T12 nc q0) {m1 : Int32} {x1 : Int} (p1 : m1.toInt = x1) {m4 : Int32} {x4 : Int} (p4 : m4.toInt = x4) {m5 : Int32} {x5 : Int} (p5 : m5.toInt = x5) {ms0 : Int32} {xs0 : Int} (ps0 : ms0.toInt = xs0) {ms1 : Int32} {xs1 : Int} (ps1 : ms1.toInt = xs1) {r : Int × iv_M} {Q : Option Value → iv_H → Prop} (hq : ∀ (z : Int32) (h1 : iv_H), z.toInt = r.1 → Rep nc Ls Xs h1 r.2 → Q (some (.int z)) h1) (e : FX12_marks_b201 N s q0 x1 x4 x5 xs0 xs1 = some r) : Rn d 302 (some .int) 201 [some (.ref q0), some (.int m1), none, none, some (.int m4), some (.int m5), none, none] [.int ms0, .int ms1] h Q := by
  have hT := hX12_marks
  unfold FX12_marks_b201 at e
  refine Rn.n hT 6 (pc' := 210) (L' := [some (.ref q0), some (.int m1), none, none, some (.int m4), some (.int m5), some (.int (ms1 + ms0)), none]) (st' := [.int (m5 &&& (3 : Int32)), .int (ms1 + ms0)]) rfl ?_
  by_cases c_3765 : (bAn x5 3) = 0
  · rw [if_pos c_3765] at e
    refine Rn.bf hT rfl rfl rfl (decide_eq_false (fun z => z ((ti_e (ti_and p5 L32_3) L32_0).mpr c_3765))) ?_
    refine Rn.n hT 1 (pc' := 215) (L' := [some (.ref q0), some (.int m1), none, none, some (.int m4), some (.int m5), some (.int (ms1 + ms0)), none]) (st' := [.int m4, .int (ms1 + ms0)]) rfl ?_
    by_cases c_3766 : x4 = 0
    · rw [if_pos c_3766] at e
      refine Rn.bt hT rfl rfl rfl (decide_eq_true ((ti_e p4 L32_0).mpr c_3766)) ?_
      exact Rn.weak (ll_s (ll_s (ll_n (ll_n (ll_n (ll_s (ll_n (ll_n ll_e)))))))) (RX12_marks_b222 hd hR t0 p1 p5 (ti_add ps1 ps0) hq e)
    · rw [if_neg c_3766] at e
      refine Rn.bf hT rfl rfl rfl (decide_eq_false (fun z => c_3766 ((ti_e p4 L32_0).mp z))) ?_
      refine Rn.n hT 2 (pc' := 223) (L' := [some (.ref q0), some (.int m1), none, none, some (.int m4), some (.int m5), some (.int (ms1 + ms0)), none]) (st' := [.int (4 : Int32), .int (ms1 + ms0)]) rfl ?_
      exact Rn.weak (ll_s (ll_s (ll_n (ll_n (ll_n (ll_s (ll_n (ll_n ll_e)))))))) (RX12_marks_b223 hd hR t0 p1 p5 L32_4 (ti_add ps1 ps0) hq e)
  · rw [if_neg c_3765] at e
    refine Rn.bt hT rfl rfl rfl (decide_eq_true (fun z => c_3765 ((ti_e (ti_and p5 L32_3) L32_0).mp z))) ?_
    exact Rn.weak (ll_s (ll_s (ll_n (ll_n (ll_n (ll_s (ll_n (ll_n ll_e)))))))) (RX12_marks_b222 hd hR t0 p1 p5 (ti_add ps1 ps0) hq e)
def FX12_marks_b200 (N : Nat) (s : iv_M) (q0 : Nat) (x1 : Int) (x4 : Int) (x5 : Int) (xs0 : Int) : Option (Int × iv_M) := (FX12_marks_b201 N s q0 x1 x4 x5 0 xs0)
set_option maxRecDepth 10000 in
set_option maxHeartbeats 4000000 in
theorem RX12_marks_b200 {d N nc Ls : Nat} {Xs : Nat → Int32} (hd : 4 ≤ d) {h : iv_H} {s : iv_M} (hR : Rep nc Ls Xs h s) {q0 : Nat} (t0 : T12 nc q0) {m1 : Int32} {x1 : Int} (p1 : m1.toInt = x1) {m4 : Int32} {x4 : Int} (p4 : m4.toInt = x4) {m5 : Int32} {x5 : Int} (p5 : m5.toInt = x5) {ms0 : Int32} {xs0 : Int} (ps0 : ms0.toInt = xs0) {r : Int × iv_M} {Q : Option Value → iv_H → Prop} (hq : ∀ (z : Int32) (h1 : iv_H), z.toInt = r.1 → Rep nc Ls Xs h1 r.2 → Q (some (.int z)) h1) (e : FX12_marks_b200 N s q0 x1 x4 x5 xs0 = some r) : Rn d 302 (some .int) 200 [some (.ref q0), some (.int m1), none, none, some (.int m4), some (.int m5), none, none] [.int ms0] h Q := by
  have hT := hX12_marks
  unfold FX12_marks_b200 at e
  refine Rn.n hT 1 (pc' := 201) (L' := [some (.ref q0), some (.int m1), none, none, some (.int m4), some (.int m5), none, none]) (st' := [.int (0 : Int32), .int ms0]) rfl ?_
  exact Rn.weak (ll_s (ll_s (ll_n (ll_n (ll_s (ll_s (ll_n (ll_n ll_e)))))))) (RX12_marks_b201 hd hR t0 p1 p4 p5 L32_0 ps0 hq e)
def FX12_marks_b181 (N : Nat) (s : iv_M) (q0 : Nat) (x1 : Int) (x3 : Int) (x4 : Int) (x5 : Int) (xs0 : Int) : Option (Int × iv_M) := (if (bAn x5 4) = 0 then (if x3 = 0 then (FX12_marks_b200 N s q0 x1 x4 x5 xs0) else (FX12_marks_b201 N s q0 x1 x4 x5 2 xs0)) else (FX12_marks_b200 N s q0 x1 x4 x5 xs0))
set_option maxRecDepth 10000 in
set_option maxHeartbeats 4000000 in
theorem RX12_marks_b181 {d N nc Ls : Nat} {Xs : Nat → Int32} (hd : 4 ≤ d) {h : iv_H} {s : iv_M} (hR : Rep nc Ls Xs h s) {q0 : Nat} (t0 : T12 nc q0) {m1 : Int32} {x1 : Int} (p1 : m1.toInt = x1) {m3 : Int32} {x3 : Int} (p3 : m3.toInt = x3) {m4 : Int32} {x4 : Int} (p4 : m4.toInt = x4) {m5 : Int32} {x5 : Int} (p5 : m5.toInt = x5) {ms0 : Int32} {xs0 : Int} (ps0 : ms0.toInt = xs0) {r : Int × iv_M} {Q : Option Value → iv_H → Prop} (hq : ∀ (z : Int32) (h1 : iv_H), z.toInt = r.1 → Rep nc Ls Xs h1 r.2 → Q (some (.int z)) h1) (e : FX12_marks_b181 N s q0 x1 x3 x4 x5 xs0 = some r) : Rn d 302 (some .int) 181 [some (.ref q0), some (.int m1), none, some (.int m3), some (.int m4), some (.int m5), none, none] [.int ms0] h Q := by
  have hT := hX12_marks
  unfold FX12_marks_b181 at e
  refine Rn.n hT 5 (pc' := 189) (L' := [some (.ref q0), some (.int m1), none, some (.int m3), some (.int m4), some (.int m5), some (.int ms0), none]) (st' := [.int (m5 &&& (4 : Int32)), .int ms0]) rfl ?_
  by_cases c_3763 : (bAn x5 4) = 0
  · rw [if_pos c_3763] at e
    refine Rn.bf hT rfl rfl rfl (decide_eq_false (fun z => z ((ti_e (ti_and p5 L32_4) L32_0).mpr c_3763))) ?_
    refine Rn.n hT 1 (pc' := 193) (L' := [some (.ref q0), some (.int m1), none, some (.int m3), some (.int m4), some (.int m5), some (.int ms0), none]) (st' := [.int m3, .int ms0]) rfl ?_
    by_cases c_3764 : x3 = 0
    · rw [if_pos c_3764] at e
      refine Rn.bt hT rfl rfl rfl (decide_eq_true ((ti_e p3 L32_0).mpr c_3764)) ?_
      exact Rn.weak (ll_s (ll_s (ll_n (ll_n (ll_s (ll_s (ll_n (ll_n ll_e)))))))) (RX12_marks_b200 hd hR t0 p1 p4 p5 ps0 hq e)
    · rw [if_neg c_3764] at e
      refine Rn.bf hT rfl rfl rfl (decide_eq_false (fun z => c_3764 ((ti_e p3 L32_0).mp z))) ?_
      refine Rn.n hT 2 (pc' := 201) (L' := [some (.ref q0), some (.int m1), none, some (.int m3), some (.int m4), some (.int m5), some (.int ms0), none]) (st' := [.int (2 : Int32), .int ms0]) rfl ?_
      exact Rn.weak (ll_s (ll_s (ll_n (ll_n (ll_s (ll_s (ll_n (ll_n ll_e)))))))) (RX12_marks_b201 hd hR t0 p1 p4 p5 L32_2 ps0 hq e)
  · rw [if_neg c_3763] at e
    refine Rn.bt hT rfl rfl rfl (decide_eq_true (fun z => c_3763 ((ti_e (ti_and p5 L32_4) L32_0).mp z))) ?_
    exact Rn.weak (ll_s (ll_s (ll_n (ll_n (ll_s (ll_s (ll_n (ll_n ll_e)))))))) (RX12_marks_b200 hd hR t0 p1 p4 p5 ps0 hq e)
def FX12_marks (N : Nat) (s : iv_M) (q0 : Nat) (x1 : Int) : Option (Int × iv_M) := ((FX12_isDraft N s q0 x1).bind fun v_3740 => (if v_3740 = 0 then (some ((-1), s)) else (FX12_marks_l20 N q0 x1 (fun (s_3742 : iv_M) (x3743_2 : Int) (x3743_3 : Int) (x3743_4 : Int) => ((rd s_3742 (q0 + 1) 14 4).bind fun v_3744 => (if x3743_2 = 0 then (FX12_marks_b181 N s_3742 q0 x1 x3743_3 x3743_4 v_3744 0) else (FX12_marks_b181 N s_3742 q0 x1 x3743_3 x3743_4 v_3744 1)))) N s 0 0 0 0)))
set_option maxRecDepth 10000 in
set_option maxHeartbeats 4000000 in
theorem RX12_marks {d N nc Ls : Nat} {Xs : Nat → Int32} (hd : 5 ≤ d) {h : iv_H} {s : iv_M} (hR : Rep nc Ls Xs h s) {q0 : Nat} (t0 : T12 nc q0) {m1 : Int32} {x1 : Int} (p1 : m1.toInt = x1) {r : Int × iv_M} {Q : Option Value → iv_H → Prop} (e : FX12_marks N s q0 x1 = some r) (hq : ∀ (z : Int32) (h1 : iv_H), z.toInt = r.1 → Rep nc Ls Xs h1 r.2 → Q (some (.int z)) h1) : Cl d 302 [.ref q0, .int m1] h Q := by
  obtain ⟨d, rfl⟩ : ∃ k, d = k + 1 := ⟨d - 1, by omega⟩
  have hd : 4 ≤ d := by omega
  have hT := hX12_marks
  unfold FX12_marks at e
  refine Cl.into (by decide) gX12_marks rfl ?_
  show Rn d 302 (some .int) 0 [some (.ref q0), some (.int m1), none, none, none, none, none, none] [] h Q
  refine Rn.n hT 2 (pc' := 2) (L' := [some (.ref q0), some (.int m1), none, none, none, none, none, none]) (st' := [.int m1, .ref q0]) rfl ?_
  obtain ⟨v_3740, e_3740, e⟩ := Option.bind_eq_some_iff.mp e
  refine Rn.call hT rfl rfl rfl (Nat.le_of_ble_eq_true rfl) (rcv_v gX12_isDraft (by omega) (rp_ck hR (T12_o t0))) (RX12_isDraft (by omega) hR t0 p1 e_3740 (fun z_3740 p_3740 => ?_))
  show Rn d _ _ 5 [some (.ref q0), some (.int m1), none, none, none, none, none, none] [.int z_3740] h Q
  by_cases c_3741 : v_3740 = 0
  · rw [if_pos c_3741] at e
    refine Rn.bf hT rfl rfl rfl (decide_eq_false (fun z => z ((ti_e p_3740 L32_0).mpr c_3741))) ?_
    refine Rn.n hT 1 (pc' := 9) (L' := [some (.ref q0), some (.int m1), none, none, none, none, none, none]) (st' := [.int (-1 : Int32)]) rfl ?_
    obtain rfl := Option.some.inj e
    exact Rn.ret hT rfl rfl rfl (hq (-1 : Int32) h L32_m1 hR)
  · rw [if_neg c_3741] at e
    refine Rn.bt hT rfl rfl rfl (decide_eq_true (fun z => c_3741 ((ti_e p_3740 L32_0).mp z))) ?_
    refine Rn.n hT 8 (pc' := 20) (L' := [some (.ref q0), some (.int m1), some (.int (0 : Int32)), some (.int (0 : Int32)), some (.int (0 : Int32)), some (.int (0 : Int32)), none, none]) (st' := []) rfl ?_
    refine Rn.weak (ll_s (ll_s (ll_s (ll_s (ll_s (ll_s (ll_n (ll_n ll_e)))))))) (RX12_marks_l20 hd t0 p1 (fun h_3742 s_3742 R_3742 m3743_2 x3743_2 p3743_2 m3743_3 x3743_3 p3743_3 m3743_4 x3743_4 p3743_4 e => ?_) hq N h s hR (0 : Int32) 0 L32_0 (0 : Int32) 0 L32_0 (0 : Int32) 0 L32_0 (0 : Int32) 0 L32_0 e)
    try dsimp only at e
    refine Rn.n hT 1 (pc' := 165) (L' := [some (.ref q0), some (.int m1), some (.int m3743_2), some (.int m3743_3), some (.int m3743_4), none, none, none]) (st' := [.ref q0]) rfl ?_
    refine Rn.hp hT rfl rfl (gR_hp (rp_gR R_3742 (T12_o t0) rfl)) ?_
    refine Rn.n hT 1 (pc' := 169) (L' := [some (.ref q0), some (.int m1), some (.int m3743_2), some (.int m3743_3), some (.int m3743_4), none, none, none]) (st' := [.int (4 : Int32), .ref (q0 + 1)]) rfl ?_
    obtain ⟨v_3744, e_3744, e⟩ := Option.bind_eq_some_iff.mp e
    obtain ⟨z_3744, g_3744, p_3744⟩ := rp_aI R_3742 (T12_1 t0) (T12_1l t0) L32_4 e_3744
    refine Rn.hp hT rfl rfl (aI_hp g_3744) ?_
    refine Rn.n hT 2 (pc' := 173) (L' := [some (.ref q0), some (.int m1), some (.int m3743_2), some (.int m3743_3), some (.int m3743_4), some (.int z_3744), none, none]) (st' := [.int m3743_2]) rfl ?_
    by_cases c_3745 : x3743_2 = 0
    · rw [if_pos c_3745] at e
      refine Rn.bt hT rfl rfl rfl (decide_eq_true ((ti_e p3743_2 L32_0).mpr c_3745)) ?_
      refine Rn.n hT 1 (pc' := 181) (L' := [some (.ref q0), some (.int m1), some (.int m3743_2), some (.int m3743_3), some (.int m3743_4), some (.int z_3744), none, none]) (st' := [.int (0 : Int32)]) rfl ?_
      exact Rn.weak (ll_s (ll_s (ll_n (ll_s (ll_s (ll_s (ll_n (ll_n ll_e)))))))) (RX12_marks_b181 hd R_3742 t0 p1 p3743_3 p3743_4 p_3744 L32_0 hq e)
    · rw [if_neg c_3745] at e
      refine Rn.bf hT rfl rfl rfl (decide_eq_false (fun z => c_3745 ((ti_e p3743_2 L32_0).mp z))) ?_
      refine Rn.n hT 2 (pc' := 181) (L' := [some (.ref q0), some (.int m1), some (.int m3743_2), some (.int m3743_3), some (.int m3743_4), some (.int z_3744), none, none]) (st' := [.int (1 : Int32)]) rfl ?_
      exact Rn.weak (ll_s (ll_s (ll_n (ll_s (ll_s (ll_s (ll_n (ll_n ll_e)))))))) (RX12_marks_b181 hd R_3742 t0 p1 p3743_3 p3743_4 p_3744 L32_1 hq e)
set_option maxRecDepth 10000 in
theorem hX12_isLaidWell : iv_Tb 303 tX12_isLaidWell := iv_tb_of (m := mX12_isLaidWell) rfl
set_option maxRecDepth 10000 in
theorem gX12_isLaidWell : PG.2 303 = some mX12_isLaidWell := iv_pi_of (t := tX12_isLaidWell) rfl (by decide)
def FX12_isLaidWell_b77 (N : Nat) (s : iv_M)   : Option (Int) := (some 0)
set_option maxRecDepth 10000 in
set_option maxHeartbeats 4000000 in
theorem RX12_isLaidWell_b77 {d N nc Ls : Nat} {Xs : Nat → Int32} (hd : 3 ≤ d) {h : iv_H} {s : iv_M} (hR : Rep nc Ls Xs h s)   {r : Int} {Q : Option Value → iv_H → Prop} (hq : ∀ (z : Int32), z.toInt = r → Q (some (.int z)) h) (e : FX12_isLaidWell_b77 N s   = some r) : Rn d 303 (some .boolean) 77 [none, none, none, none, none] [] h Q := by
  have hT := hX12_isLaidWell
  unfold FX12_isLaidWell_b77 at e
  refine Rn.n hT 1 (pc' := 78) (L' := [none, none, none, none, none]) (st' := [.int (0 : Int32)]) rfl ?_
  obtain rfl := Option.some.inj e
  exact Rn.ret hT rfl rfl rfl (hq (0 : Int32) L32_0)
def FX12_isLaidWell_b79 (N : Nat) (s : iv_M) (q0 : Nat) (x1 : Int) (x2 : Int)  (kb : Int → Option (Int)) (kx : Unit → Option (Int)) : Option (Int) := (kb (w32 (x2 + 1)))
set_option maxRecDepth 10000 in
set_option maxHeartbeats 4000000 in
theorem RX12_isLaidWell_b79 {d N nc Ls : Nat} {Xs : Nat → Int32} (hd : 3 ≤ d) {h : iv_H} {s : iv_M} (hR : Rep nc Ls Xs h s) {q0 : Nat} (t0 : T12 nc q0) {m1 : Int32} {x1 : Int} (p1 : m1.toInt = x1) {m2 : Int32} {x2 : Int} (p2 : m2.toInt = x2)  {kb : Int → Option (Int)} {kx : Unit → Option (Int)} {r : Int} {Q : Option Value → iv_H → Prop} (hb : ∀ (mw2 : Int32) (xw2 : Int) (pw2 : mw2.toInt = xw2), kb xw2 = some r → Rn d 303 (some .boolean) 2 [some (.ref q0), some (.int m1), some (.int mw2), none, none] [] h Q) (hk : ∀ (u : Unit), kx u = some r → Rn d 303 (some .boolean) 85 [none, none, none, none, none] [] h Q) (hq : ∀ (z : Int32), z.toInt = r → Q (some (.int z)) h) (e : FX12_isLaidWell_b79 N s q0 x1 x2  kb kx = some r) : Rn d 303 (some .boolean) 79 [some (.ref q0), some (.int m1), some (.int m2), none, none] [] h Q := by
  have hT := hX12_isLaidWell
  unfold FX12_isLaidWell_b79 at e
  refine Rn.n hT 2 (pc' := 2) (L' := [some (.ref q0), some (.int m1), some (.int (m2 + (1 : Int32))), none, none]) (st' := []) rfl ?_
  exact Rn.weak (ll_s (ll_s (ll_s (ll_n (ll_n ll_e))))) (hb (m2 + (1 : Int32)) (w32 (x2 + 1)) (ti_add p2 L32_1) e)
def FX12_isLaidWell_b51 (N : Nat) (s : iv_M) (q0 : Nat) (x1 : Int) (x2 : Int) (x4 : Int)  (kb : Int → Option (Int)) (kx : Unit → Option (Int)) : Option (Int) := (if x4 = (-1) then (FX12_isLaidWell_b79 N s q0 x1 x2 kb kx) else ((FX12_sortAt N s q0 x1 x2).bind fun v_3783 => ((FX12_sortAt N s q0 x4 (bAn (w32 (x2 + 2)) 3)).bind fun v_3784 => (if v_3783 = v_3784 then (FX12_isLaidWell_b79 N s q0 x1 x2 kb kx) else (FX12_isLaidWell_b77 N s)))))
set_option maxRecDepth 10000 in
set_option maxHeartbeats 4000000 in
theorem RX12_isLaidWell_b51 {d N nc Ls : Nat} {Xs : Nat → Int32} (hd : 3 ≤ d) {h : iv_H} {s : iv_M} (hR : Rep nc Ls Xs h s) {q0 : Nat} (t0 : T12 nc q0) {m1 : Int32} {x1 : Int} (p1 : m1.toInt = x1) {m2 : Int32} {x2 : Int} (p2 : m2.toInt = x2) {m4 : Int32} {x4 : Int} (p4 : m4.toInt = x4)  {kb : Int → Option (Int)} {kx : Unit → Option (Int)} {r : Int} {Q : Option Value → iv_H → Prop} (hb : ∀ (mw2 : Int32) (xw2 : Int) (pw2 : mw2.toInt = xw2), kb xw2 = some r → Rn d 303 (some .boolean) 2 [some (.ref q0), some (.int m1), some (.int mw2), none, none] [] h Q) (hk : ∀ (u : Unit), kx u = some r → Rn d 303 (some .boolean) 85 [none, none, none, none, none] [] h Q) (hq : ∀ (z : Int32), z.toInt = r → Q (some (.int z)) h) (e : FX12_isLaidWell_b51 N s q0 x1 x2 x4  kb kx = some r) : Rn d 303 (some .boolean) 51 [some (.ref q0), some (.int m1), some (.int m2), none, some (.int m4)] [] h Q := by
  have hT := hX12_isLaidWell
  unfold FX12_isLaidWell_b51 at e
  refine Rn.n hT 2 (pc' := 54) (L' := [some (.ref q0), some (.int m1), some (.int m2), none, some (.int m4)]) (st' := [.int (-1 : Int32), .int m4]) rfl ?_
  by_cases c_3782 : x4 = (-1)
  · rw [if_pos c_3782] at e
    refine Rn.bt hT rfl rfl rfl (decide_eq_true ((ti_e p4 L32_m1).mpr c_3782)) ?_
    exact Rn.weak (ll_s (ll_s (ll_s (ll_n (ll_n ll_e))))) (RX12_isLaidWell_b79 hd hR t0 p1 p2 hb hk hq e)
  · rw [if_neg c_3782] at e
    refine Rn.bf hT rfl rfl rfl (decide_eq_false (fun z => c_3782 ((ti_e p4 L32_m1).mp z))) ?_
    refine Rn.n hT 3 (pc' := 60) (L' := [some (.ref q0), some (.int m1), some (.int m2), none, some (.int m4)]) (st' := [.int m2, .int m1, .ref q0]) rfl ?_
    obtain ⟨v_3783, e_3783, e⟩ := Option.bind_eq_some_iff.mp e
    refine Rn.call hT rfl rfl rfl (Nat.le_of_ble_eq_true rfl) (rcv_v gX12_sortAt (by omega) (rp_ck hR (T12_o t0))) (RX12_sortAt (by omega) hR t0 p1 p2 e_3783 (fun z_3783 p_3783 => ?_))
    show Rn d _ _ 63 [some (.ref q0), some (.int m1), some (.int m2), none, some (.int m4)] [.int z_3783] h Q
    refine Rn.n hT 7 (pc' := 71) (L' := [some (.ref q0), some (.int m1), some (.int m2), none, some (.int m4)]) (st' := [.int ((m2 + (2 : Int32)) &&& (3 : Int32)), .int m4, .ref q0, .int z_3783]) rfl ?_
    obtain ⟨v_3784, e_3784, e⟩ := Option.bind_eq_some_iff.mp e
    refine Rn.call hT rfl rfl rfl (Nat.le_of_ble_eq_true rfl) (rcv_v gX12_sortAt (by omega) (rp_ck hR (T12_o t0))) (RX12_sortAt (by omega) hR t0 p4 (ti_and (ti_add p2 L32_2) L32_3) e_3784 (fun z_3784 p_3784 => ?_))
    show Rn d _ _ 74 [some (.ref q0), some (.int m1), some (.int m2), none, some (.int m4)] [.int z_3784, .int z_3783] h Q
    by_cases c_3785 : v_3783 = v_3784
    · rw [if_pos c_3785] at e
      refine Rn.bt hT rfl rfl rfl (decide_eq_true ((ti_e p_3783 p_3784).mpr c_3785)) ?_
      exact Rn.weak (ll_s (ll_s (ll_s (ll_n (ll_n ll_e))))) (RX12_isLaidWell_b79 hd hR t0 p1 p2 hb hk hq e)
    · rw [if_neg c_3785] at e
      refine Rn.bf hT rfl rfl rfl (decide_eq_false (fun z => c_3785 ((ti_e p_3783 p_3784).mp z))) ?_
      exact Rn.weak (ll_n (ll_n (ll_n (ll_n (ll_n ll_e))))) (RX12_isLaidWell_b77 hd hR hq e)
def FX12_isLaidWell_b34 (N : Nat) (s : iv_M) (q0 : Nat) (x1 : Int) (x2 : Int) (x3 : Int) (xs0 : Int) (kb : Int → Option (Int)) (kx : Unit → Option (Int)) : Option (Int) := (if x3 = (-1) then ((FX12_sortAt N s q0 x1 x2).bind fun v_3780 => (if v_3780 = 1 then (FX12_isLaidWell_b77 N s) else (FX12_isLaidWell_b51 N s q0 x1 x2 xs0 kb kx))) else (FX12_isLaidWell_b51 N s q0 x1 x2 xs0 kb kx))
set_option maxRecDepth 10000 in
set_option maxHeartbeats 4000000 in
theorem RX12_isLaidWell_b34 {d N nc Ls : Nat} {Xs : Nat → Int32} (hd : 3 ≤ d) {h : iv_H} {s : iv_M} (hR : Rep nc Ls Xs h s) {q0 : Nat} (t0 : T12 nc q0) {m1 : Int32} {x1 : Int} (p1 : m1.toInt = x1) {m2 : Int32} {x2 : Int} (p2 : m2.toInt = x2) {m3 : Int32} {x3 : Int} (p3 : m3.toInt = x3) {ms0 : Int32} {xs0 : Int} (ps0 : ms0.toInt = xs0) {kb : Int → Option (Int)} {kx : Unit → Option (Int)} {r : Int} {Q : Option Value → iv_H → Prop} (hb : ∀ (mw2 : Int32) (xw2 : Int) (pw2 : mw2.toInt = xw2), kb xw2 = some r → Rn d 303 (some .boolean) 2 [some (.ref q0), some (.int m1), some (.int mw2), none, none] [] h Q) (hk : ∀ (u : Unit), kx u = some r → Rn d 303 (some .boolean) 85 [none, none, none, none, none] [] h Q) (hq : ∀ (z : Int32), z.toInt = r → Q (some (.int z)) h) (e : FX12_isLaidWell_b34 N s q0 x1 x2 x3 xs0 kb kx = some r) : Rn d 303 (some .boolean) 34 [some (.ref q0), some (.int m1), some (.int m2), some (.int m3), none] [.int ms0] h Q := by
  have hT := hX12_isLaidWell
  unfold FX12_isLaidWell_b34 at e
  refine Rn.n hT 3 (pc' := 38) (L' := [some (.ref q0), some (.int m1), some (.int m2), some (.int m3), some (.int ms0)]) (st' := [.int (-1 : Int32), .int m3]) rfl ?_
  by_cases c_3779 : x3 = (-1)
  · rw [if_pos c_3779] at e
    refine Rn.bf hT rfl rfl rfl (decide_eq_false (fun z => z ((ti_e p3 L32_m1).mpr c_3779))) ?_
    refine Rn.n hT 3 (pc' := 44) (L' := [some (.ref q0), some (.int m1), some (.int m2), some (.int m3), some (.int ms0)]) (st' := [.int m2, .int m1, .ref q0]) rfl ?_
    obtain ⟨v_3780, e_3780, e⟩ := Option.bind_eq_some_iff.mp e
    refine Rn.call hT rfl rfl rfl (Nat.le_of_ble_eq_true rfl) (rcv_v gX12_sortAt (by omega) (rp_ck hR (T12_o t0))) (RX12_sortAt (by omega) hR t0 p1 p2 e_3780 (fun z_3780 p_3780 => ?_))
    show Rn d _ _ 47 [some (.ref q0), some (.int m1), some (.int m2), some (.int m3), some (.int ms0)] [.int z_3780] h Q
    refine Rn.n hT 1 (pc' := 48) (L' := [some (.ref q0), some (.int m1), some (.int m2), some (.int m3), some (.int ms0)]) (st' := [.int (1 : Int32), .int z_3780]) rfl ?_
    by_cases c_3781 : v_3780 = 1
    · rw [if_pos c_3781] at e
      refine Rn.bt hT rfl rfl rfl (decide_eq_true ((ti_e p_3780 L32_1).mpr c_3781)) ?_
      exact Rn.weak (ll_n (ll_n (ll_n (ll_n (ll_n ll_e))))) (RX12_isLaidWell_b77 hd hR hq e)
    · rw [if_neg c_3781] at e
      refine Rn.bf hT rfl rfl rfl (decide_eq_false (fun z => c_3781 ((ti_e p_3780 L32_1).mp z))) ?_
      exact Rn.weak (ll_s (ll_s (ll_s (ll_n (ll_s ll_e))))) (RX12_isLaidWell_b51 hd hR t0 p1 p2 ps0 hb hk hq e)
  · rw [if_neg c_3779] at e
    refine Rn.bt hT rfl rfl rfl (decide_eq_true (fun z => c_3779 ((ti_e p3 L32_m1).mp z))) ?_
    exact Rn.weak (ll_s (ll_s (ll_s (ll_n (ll_s ll_e))))) (RX12_isLaidWell_b51 hd hR t0 p1 p2 ps0 hb hk hq e)
def FX12_isLaidWell_l2 (N : Nat) (s : iv_M) (q0 : Nat) (x1 : Int) (kx : Unit → Option (Int)) : Nat → Int → Option (Int)
  | 0, _ => none
  | n + 1, x2 => (if 4 ≤ x2 then (kx ()) else ((rd s (q0 + 3) 12 x1).bind fun v_3775 => ((FX12_by N s q0 v_3775 x2).bind fun v_3776 => (if v_3776 = (-1) then (FX12_isLaidWell_b34 N s q0 x1 x2 v_3776 (-1) (FX12_isLaidWell_l2 N s q0 x1 kx n) kx) else ((rd s (q0 + 8) 16 v_3776).bind fun v_3778 => (FX12_isLaidWell_b34 N s q0 x1 x2 v_3776 v_3778 (FX12_isLaidWell_l2 N s q0 x1 kx n) kx))))))
set_option maxRecDepth 10000 in
set_option maxHeartbeats 4000000 in
theorem RX12_isLaidWell_l2 {d N nc Ls : Nat} {Xs : Nat → Int32} (hd : 3 ≤ d) {h : iv_H} {s : iv_M} (hR : Rep nc Ls Xs h s) {q0 : Nat} (t0 : T12 nc q0) {m1 : Int32} {x1 : Int} (p1 : m1.toInt = x1) {kx : Unit → Option (Int)} {r : Int} {Q : Option Value → iv_H → Prop} (hk : ∀ (u : Unit), kx u = some r → Rn d 303 (some .boolean) 85 [none, none, none, none, none] [] h Q) (hq : ∀ (z : Int32), z.toInt = r → Q (some (.int z)) h) : ∀ (n : Nat) (m2 : Int32) (x2 : Int) (p2 : m2.toInt = x2), FX12_isLaidWell_l2 N s q0 x1 kx n x2 = some r → Rn d 303 (some .boolean) 2 [some (.ref q0), some (.int m1), some (.int m2), none, none] [] h Q := by
  have hT := hX12_isLaidWell
  intro n
  induction n with
  | zero =>
    intro m2 x2 p2 e
    rw [FX12_isLaidWell_l2] at e
    cases e
  | succ n ih =>
    intro m2 x2 p2 e
    rw [FX12_isLaidWell_l2] at e
    refine Rn.n hT 2 (pc' := 4) (L' := [some (.ref q0), some (.int m1), some (.int m2), none, none]) (st' := [.int (4 : Int32), .int m2]) rfl ?_
    by_cases c_3774 : 4 ≤ x2
    · rw [if_pos c_3774] at e
      refine Rn.bt hT rfl rfl rfl (decide_eq_true ((ti_le L32_4 p2).mpr c_3774)) ?_
      exact Rn.weak (ll_n (ll_n (ll_n (ll_n (ll_n ll_e))))) (hk () e)
    · rw [if_neg c_3774] at e
      refine Rn.bf hT rfl rfl rfl (decide_eq_false (fun z => c_3774 ((ti_le L32_4 p2).mp z))) ?_
      refine Rn.n hT 2 (pc' := 9) (L' := [some (.ref q0), some (.int m1), some (.int m2), none, none]) (st' := [.ref q0, .ref q0]) rfl ?_
      refine Rn.hp hT rfl rfl (gR_hp (rp_gR hR (T12_o t0) rfl)) ?_
      refine Rn.n hT 1 (pc' := 13) (L' := [some (.ref q0), some (.int m1), some (.int m2), none, none]) (st' := [.int m1, .ref (q0 + 3), .ref q0]) rfl ?_
      obtain ⟨v_3775, e_3775, e⟩ := Option.bind_eq_some_iff.mp e
      obtain ⟨z_3775, g_3775, p_3775⟩ := rp_aI hR (T12_3 t0) (T12_3l t0) p1 e_3775
      refine Rn.hp hT rfl rfl (aI_hp g_3775) ?_
      refine Rn.n hT 1 (pc' := 15) (L' := [some (.ref q0), some (.int m1), some (.int m2), none, none]) (st' := [.int m2, .int z_3775, .ref q0]) rfl ?_
      obtain ⟨v_3776, e_3776, e⟩ := Option.bind_eq_some_iff.mp e
      refine Rn.call hT rfl rfl rfl (Nat.le_of_ble_eq_true rfl) (rcv_v gX12_by (by omega) (rp_ck hR (T12_o t0))) (RX12_by (by omega) hR t0 p_3775 p2 e_3776 (fun z_3776 p_3776 => ?_))
      show Rn d _ _ 18 [some (.ref q0), some (.int m1), some (.int m2), none, none] [.int z_3776] h Q
      refine Rn.n hT 3 (pc' := 21) (L' := [some (.ref q0), some (.int m1), some (.int m2), some (.int z_3776), none]) (st' := [.int (-1 : Int32), .int z_3776]) rfl ?_
      by_cases c_3777 : v_3776 = (-1)
      · rw [if_pos c_3777] at e
        refine Rn.bf hT rfl rfl rfl (decide_eq_false (fun z => z ((ti_e p_3776 L32_m1).mpr c_3777))) ?_
        refine Rn.n hT 2 (pc' := 34) (L' := [some (.ref q0), some (.int m1), some (.int m2), some (.int z_3776), none]) (st' := [.int (-1 : Int32)]) rfl ?_
        exact Rn.weak (ll_s (ll_s (ll_s (ll_s (ll_n ll_e))))) (RX12_isLaidWell_b34 hd hR t0 p1 p2 p_3776 L32_m1 ih hk hq e)
      · rw [if_neg c_3777] at e
        refine Rn.bt hT rfl rfl rfl (decide_eq_true (fun z => c_3777 ((ti_e p_3776 L32_m1).mp z))) ?_
        refine Rn.n hT 1 (pc' := 29) (L' := [some (.ref q0), some (.int m1), some (.int m2), some (.int z_3776), none]) (st' := [.ref q0]) rfl ?_
        refine Rn.hp hT rfl rfl (gR_hp (rp_gR hR (T12_o t0) rfl)) ?_
        refine Rn.n hT 1 (pc' := 33) (L' := [some (.ref q0), some (.int m1), some (.int m2), some (.int z_3776), none]) (st' := [.int z_3776, .ref (q0 + 8)]) rfl ?_
        obtain ⟨v_3778, e_3778, e⟩ := Option.bind_eq_some_iff.mp e
        obtain ⟨z_3778, g_3778, p_3778⟩ := rp_aI hR (T12_8 t0) (T12_8l t0) p_3776 e_3778
        refine Rn.hp hT rfl rfl (aI_hp g_3778) ?_
        exact Rn.weak (ll_s (ll_s (ll_s (ll_s (ll_n ll_e))))) (RX12_isLaidWell_b34 hd hR t0 p1 p2 p_3776 p_3778 ih hk hq e)
def FX12_isLaidWell (N : Nat) (s : iv_M) (q0 : Nat) (x1 : Int) : Option (Int) := (FX12_isLaidWell_l2 N s q0 x1 (fun (_ : Unit) => (some 1)) N 0)
set_option maxRecDepth 10000 in
set_option maxHeartbeats 4000000 in
theorem RX12_isLaidWell {d N nc Ls : Nat} {Xs : Nat → Int32} (hd : 4 ≤ d) {h : iv_H} {s : iv_M} (hR : Rep nc Ls Xs h s) {q0 : Nat} (t0 : T12 nc q0) {m1 : Int32} {x1 : Int} (p1 : m1.toInt = x1) {r : Int} {Q : Option Value → iv_H → Prop} (e : FX12_isLaidWell N s q0 x1 = some r) (hq : ∀ (z : Int32), z.toInt = r → Q (some (.int z)) h) : Cl d 303 [.ref q0, .int m1] h Q := by
  obtain ⟨d, rfl⟩ : ∃ k, d = k + 1 := ⟨d - 1, by omega⟩
  have hd : 3 ≤ d := by omega
  have hT := hX12_isLaidWell
  unfold FX12_isLaidWell at e
  refine Cl.into (by decide) gX12_isLaidWell rfl ?_
  show Rn d 303 (some .boolean) 0 [some (.ref q0), some (.int m1), none, none, none] [] h Q
  refine Rn.n hT 2 (pc' := 2) (L' := [some (.ref q0), some (.int m1), some (.int (0 : Int32)), none, none]) (st' := []) rfl ?_
  refine Rn.weak (ll_s (ll_s (ll_s (ll_n (ll_n ll_e))))) (RX12_isLaidWell_l2 hd hR t0 p1 (fun _ e => ?_) hq N (0 : Int32) 0 L32_0 e)
  try dsimp only at e
  refine Rn.n hT 1 (pc' := 86) (L' := [none, none, none, none, none]) (st' := [.int (1 : Int32)]) rfl ?_
  obtain rfl := Option.some.inj e
  exact Rn.ret hT rfl rfl rfl (hq (1 : Int32) L32_1)
set_option maxRecDepth 10000 in
theorem hX12_areFixedWell : iv_Tb 304 tX12_areFixedWell := iv_tb_of (m := mX12_areFixedWell) rfl
set_option maxRecDepth 10000 in
theorem gX12_areFixedWell : PG.2 304 = some mX12_areFixedWell := iv_pi_of (t := tX12_areFixedWell) rfl (by decide)
def FX12_areFixedWell_b40 (N : Nat) (s : iv_M) (q0 : Nat) (x2 : Int) (xs0 : Int) (kb : Int → Int → Option (Int)) (kx : Int → Option (Int)) : Option (Int) := (kb xs0 (w32 (x2 + 1)))
set_option maxRecDepth 10000 in
set_option maxHeartbeats 4000000 in
theorem RX12_areFixedWell_b40 {d N nc Ls : Nat} {Xs : Nat → Int32} (hd : 4 ≤ d) {h : iv_H} {s : iv_M} (hR : Rep nc Ls Xs h s) {q0 : Nat} (t0 : T12 nc q0) {m2 : Int32} {x2 : Int} (p2 : m2.toInt = x2) {ms0 : Int32} {xs0 : Int} (ps0 : ms0.toInt = xs0) {kb : Int → Int → Option (Int)} {kx : Int → Option (Int)} {r : Int} {Q : Option Value → iv_H → Prop} (hb : ∀ (mw1 : Int32) (xw1 : Int) (pw1 : mw1.toInt = xw1) (mw2 : Int32) (xw2 : Int) (pw2 : mw2.toInt = xw2), kb xw1 xw2 = some r → Rn d 304 (some .boolean) 4 [some (.ref q0), some (.int mw1), some (.int mw2)] [] h Q) (hk : ∀ (mw1 : Int32) (xw1 : Int) (pw1 : mw1.toInt = xw1), kx xw1 = some r → Rn d 304 (some .boolean) 47 [none, some (.int mw1), none] [] h Q) (hq : ∀ (z : Int32), z.toInt = r → Q (some (.int z)) h) (e : FX12_areFixedWell_b40 N s q0 x2 xs0 kb kx = some r) : Rn d 304 (some .boolean) 40 [some (.ref q0), none, some (.int m2)] [.int ms0] h Q := by
  have hT := hX12_areFixedWell
  unfold FX12_areFixedWell_b40 at e
  refine Rn.n hT 3 (pc' := 4) (L' := [some (.ref q0), some (.int ms0), some (.int (m2 + (1 : Int32)))]) (st' := []) rfl ?_
  exact Rn.weak (ll_s (ll_s (ll_s ll_e))) (hb ms0 xs0 ps0 (m2 + (1 : Int32)) (w32 (x2 + 1)) (ti_add p2 L32_1) e)
def FX12_areFixedWell_b35 (N : Nat) (s : iv_M) (q0 : Nat) (x2 : Int)  (kb : Int → Int → Option (Int)) (kx : Int → Option (Int)) : Option (Int) := (FX12_areFixedWell_b40 N s q0 x2 1 kb kx)
set_option maxRecDepth 10000 in
set_option maxHeartbeats 4000000 in
theorem RX12_areFixedWell_b35 {d N nc Ls : Nat} {Xs : Nat → Int32} (hd : 4 ≤ d) {h : iv_H} {s : iv_M} (hR : Rep nc Ls Xs h s) {q0 : Nat} (t0 : T12 nc q0) {m2 : Int32} {x2 : Int} (p2 : m2.toInt = x2)  {kb : Int → Int → Option (Int)} {kx : Int → Option (Int)} {r : Int} {Q : Option Value → iv_H → Prop} (hb : ∀ (mw1 : Int32) (xw1 : Int) (pw1 : mw1.toInt = xw1) (mw2 : Int32) (xw2 : Int) (pw2 : mw2.toInt = xw2), kb xw1 xw2 = some r → Rn d 304 (some .boolean) 4 [some (.ref q0), some (.int mw1), some (.int mw2)] [] h Q) (hk : ∀ (mw1 : Int32) (xw1 : Int) (pw1 : mw1.toInt = xw1), kx xw1 = some r → Rn d 304 (some .boolean) 47 [none, some (.int mw1), none] [] h Q) (hq : ∀ (z : Int32), z.toInt = r → Q (some (.int z)) h) (e : FX12_areFixedWell_b35 N s q0 x2  kb kx = some r) : Rn d 304 (some .boolean) 35 [some (.ref q0), none, some (.int m2)] [] h Q := by
  have hT := hX12_areFixedWell
  unfold FX12_areFixedWell_b35 at e
  refine Rn.n hT 2 (pc' := 40) (L' := [some (.ref q0), none, some (.int m2)]) (st' := [.int (1 : Int32)]) rfl ?_
  exact Rn.weak (ll_s (ll_n (ll_s ll_e))) (RX12_areFixedWell_b40 hd hR t0 p2 L32_1 hb hk hq e)
def FX12_areFixedWell_b39 (N : Nat) (s : iv_M) (q0 : Nat) (x2 : Int)  (kb : Int → Int → Option (Int)) (kx : Int → Option (Int)) : Option (Int) := (FX12_areFixedWell_b40 N s q0 x2 0 kb kx)
set_option maxRecDepth 10000 in
set_option maxHeartbeats 4000000 in
theorem RX12_areFixedWell_b39 {d N nc Ls : Nat} {Xs : Nat → Int32} (hd : 4 ≤ d) {h : iv_H} {s : iv_M} (hR : Rep nc Ls Xs h s) {q0 : Nat} (t0 : T12 nc q0) {m2 : Int32} {x2 : Int} (p2 : m2.toInt = x2)  {kb : Int → Int → Option (Int)} {kx : Int → Option (Int)} {r : Int} {Q : Option Value → iv_H → Prop} (hb : ∀ (mw1 : Int32) (xw1 : Int) (pw1 : mw1.toInt = xw1) (mw2 : Int32) (xw2 : Int) (pw2 : mw2.toInt = xw2), kb xw1 xw2 = some r → Rn d 304 (some .boolean) 4 [some (.ref q0), some (.int mw1), some (.int mw2)] [] h Q) (hk : ∀ (mw1 : Int32) (xw1 : Int) (pw1 : mw1.toInt = xw1), kx xw1 = some r → Rn d 304 (some .boolean) 47 [none, some (.int mw1), none] [] h Q) (hq : ∀ (z : Int32), z.toInt = r → Q (some (.int z)) h) (e : FX12_areFixedWell_b39 N s q0 x2  kb kx = some r) : Rn d 304 (some .boolean) 39 [some (.ref q0), none, some (.int m2)] [] h Q := by
  have hT := hX12_areFixedWell
  unfold FX12_areFixedWell_b39 at e
  refine Rn.n hT 1 (pc' := 40) (L' := [some (.ref q0), none, some (.int m2)]) (st' := [.int (0 : Int32)]) rfl ?_
  exact Rn.weak (ll_s (ll_n (ll_s ll_e))) (RX12_areFixedWell_b40 hd hR t0 p2 L32_0 hb hk hq e)
def FX12_areFixedWell_l4 (N : Nat) (s : iv_M) (q0 : Nat) (kx : Int → Option (Int)) : Nat → Int → Int → Option (Int)
  | 0, _, _ => none
  | n + 1, x1, x2 => ((rd s (q0 + 1) 14 2).bind fun v_3788 => (if v_3788 ≤ x2 then (kx x1) else (if x1 = 0 then (FX12_areFixedWell_b39 N s q0 x2 (FX12_areFixedWell_l4 N s q0 kx n) kx) else ((rd s (q0 + 5) 12 x2).bind fun v_3791 => (if v_3791 = 0 then (FX12_areFixedWell_b35 N s q0 x2 (FX12_areFixedWell_l4 N s q0 kx n) kx) else ((FX12_isLaidWell N s q0 x2).bind fun v_3793 => (if v_3793 = 0 then (FX12_areFixedWell_b39 N s q0 x2 (FX12_areFixedWell_l4 N s q0 kx n) kx) else (FX12_areFixedWell_b35 N s q0 x2 (FX12_areFixedWell_l4 N s q0 kx n) kx))))))))
set_option maxRecDepth 10000 in
set_option maxHeartbeats 4000000 in
theorem RX12_areFixedWell_l4 {d N nc Ls : Nat} {Xs : Nat → Int32} (hd : 4 ≤ d) {h : iv_H} {s : iv_M} (hR : Rep nc Ls Xs h s) {q0 : Nat} (t0 : T12 nc q0) {kx : Int → Option (Int)} {r : Int} {Q : Option Value → iv_H → Prop} (hk : ∀ (m1 : Int32) (x1 : Int) (p1 : m1.toInt = x1), kx x1 = some r → Rn d 304 (some .boolean) 47 [none, some (.int m1), none] [] h Q) (hq : ∀ (z : Int32), z.toInt = r → Q (some (.int z)) h) : ∀ (n : Nat) (m1 : Int32) (x1 : Int) (p1 : m1.toInt = x1) (m2 : Int32) (x2 : Int) (p2 : m2.toInt = x2), FX12_areFixedWell_l4 N s q0 kx n x1 x2 = some r → Rn d 304 (some .boolean) 4 [some (.ref q0), some (.int m1), some (.int m2)] [] h Q := by
  have hT := hX12_areFixedWell
  intro n
  induction n with
  | zero =>
    intro m1 x1 p1 m2 x2 p2 e
    rw [FX12_areFixedWell_l4] at e
    cases e
  | succ n ih =>
    intro m1 x1 p1 m2 x2 p2 e
    rw [FX12_areFixedWell_l4] at e
    refine Rn.n hT 2 (pc' := 6) (L' := [some (.ref q0), some (.int m1), some (.int m2)]) (st' := [.ref q0, .int m2]) rfl ?_
    refine Rn.hp hT rfl rfl (gR_hp (rp_gR hR (T12_o t0) rfl)) ?_
    refine Rn.n hT 1 (pc' := 10) (L' := [some (.ref q0), some (.int m1), some (.int m2)]) (st' := [.int (2 : Int32), .ref (q0 + 1), .int m2]) rfl ?_
    obtain ⟨v_3788, e_3788, e⟩ := Option.bind_eq_some_iff.mp e
    obtain ⟨z_3788, g_3788, p_3788⟩ := rp_aI hR (T12_1 t0) (T12_1l t0) L32_2 e_3788
    refine Rn.hp hT rfl rfl (aI_hp g_3788) ?_
    by_cases c_3789 : v_3788 ≤ x2
    · rw [if_pos c_3789] at e
      refine Rn.bt hT rfl rfl rfl (decide_eq_true ((ti_le p_3788 p2).mpr c_3789)) ?_
      exact Rn.weak (ll_n (ll_s (ll_n ll_e))) (hk m1 x1 p1 e)
    · rw [if_neg c_3789] at e
      refine Rn.bf hT rfl rfl rfl (decide_eq_false (fun z => c_3789 ((ti_le p_3788 p2).mp z))) ?_
      refine Rn.n hT 1 (pc' := 15) (L' := [some (.ref q0), some (.int m1), some (.int m2)]) (st' := [.int m1]) rfl ?_
      by_cases c_3790 : x1 = 0
      · rw [if_pos c_3790] at e
        refine Rn.bt hT rfl rfl rfl (decide_eq_true ((ti_e p1 L32_0).mpr c_3790)) ?_
        exact Rn.weak (ll_s (ll_n (ll_s ll_e))) (RX12_areFixedWell_b39 hd hR t0 p2 ih hk hq e)
      · rw [if_neg c_3790] at e
        refine Rn.bf hT rfl rfl rfl (decide_eq_false (fun z => c_3790 ((ti_e p1 L32_0).mp z))) ?_
        refine Rn.n hT 1 (pc' := 19) (L' := [some (.ref q0), some (.int m1), some (.int m2)]) (st' := [.ref q0]) rfl ?_
        refine Rn.hp hT rfl rfl (gR_hp (rp_gR hR (T12_o t0) rfl)) ?_
        refine Rn.n hT 1 (pc' := 23) (L' := [some (.ref q0), some (.int m1), some (.int m2)]) (st' := [.int m2, .ref (q0 + 5)]) rfl ?_
        obtain ⟨v_3791, e_3791, e⟩ := Option.bind_eq_some_iff.mp e
        obtain ⟨z_3791, g_3791, p_3791⟩ := rp_aI hR (T12_5 t0) (T12_5l t0) p2 e_3791
        refine Rn.hp hT rfl rfl (aI_hp g_3791) ?_
        by_cases c_3792 : v_3791 = 0
        · rw [if_pos c_3792] at e
          refine Rn.bt hT rfl rfl rfl (decide_eq_true ((ti_e p_3791 L32_0).mpr c_3792)) ?_
          exact Rn.weak (ll_s (ll_n (ll_s ll_e))) (RX12_areFixedWell_b35 hd hR t0 p2 ih hk hq e)
        · rw [if_neg c_3792] at e
          refine Rn.bf hT rfl rfl rfl (decide_eq_false (fun z => c_3792 ((ti_e p_3791 L32_0).mp z))) ?_
          refine Rn.n hT 2 (pc' := 29) (L' := [some (.ref q0), some (.int m1), some (.int m2)]) (st' := [.int m2, .ref q0]) rfl ?_
          obtain ⟨v_3793, e_3793, e⟩ := Option.bind_eq_some_iff.mp e
          refine Rn.call hT rfl rfl rfl (Nat.le_of_ble_eq_true rfl) (rcv_v gX12_isLaidWell (by omega) (rp_ck hR (T12_o t0))) (RX12_isLaidWell (by omega) hR t0 p2 e_3793 (fun z_3793 p_3793 => ?_))
          show Rn d _ _ 32 [some (.ref q0), some (.int m1), some (.int m2)] [.int z_3793] h Q
          by_cases c_3794 : v_3793 = 0
          · rw [if_pos c_3794] at e
            refine Rn.bt hT rfl rfl rfl (decide_eq_true ((ti_e p_3793 L32_0).mpr c_3794)) ?_
            exact Rn.weak (ll_s (ll_n (ll_s ll_e))) (RX12_areFixedWell_b39 hd hR t0 p2 ih hk hq e)
          · rw [if_neg c_3794] at e
            refine Rn.bf hT rfl rfl rfl (decide_eq_false (fun z => c_3794 ((ti_e p_3793 L32_0).mp z))) ?_
            exact Rn.weak (ll_s (ll_n (ll_s ll_e))) (RX12_areFixedWell_b35 hd hR t0 p2 ih hk hq e)
def FX12_areFixedWell (N : Nat) (s : iv_M) (q0 : Nat) : Option (Int) := (FX12_areFixedWell_l4 N s q0 (fun (x3786_1 : Int) => (if x3786_1 = 0 ∨ x3786_1 = 1 then some x3786_1 else none)) N 1 0)
set_option maxRecDepth 10000 in
set_option maxHeartbeats 4000000 in
theorem RX12_areFixedWell {d N nc Ls : Nat} {Xs : Nat → Int32} (hd : 5 ≤ d) {h : iv_H} {s : iv_M} (hR : Rep nc Ls Xs h s) {q0 : Nat} (t0 : T12 nc q0) {r : Int} {Q : Option Value → iv_H → Prop} (e : FX12_areFixedWell N s q0 = some r) (hq : ∀ (z : Int32), z.toInt = r → Q (some (.int z)) h) : Cl d 304 [.ref q0] h Q := by
  obtain ⟨d, rfl⟩ : ∃ k, d = k + 1 := ⟨d - 1, by omega⟩
  have hd : 4 ≤ d := by omega
  have hT := hX12_areFixedWell
  unfold FX12_areFixedWell at e
  refine Cl.into (by decide) gX12_areFixedWell rfl ?_
  show Rn d 304 (some .boolean) 0 [some (.ref q0), none, none] [] h Q
  refine Rn.n hT 4 (pc' := 4) (L' := [some (.ref q0), some (.int (1 : Int32)), some (.int (0 : Int32))]) (st' := []) rfl ?_
  refine Rn.weak (ll_s (ll_s (ll_s ll_e))) (RX12_areFixedWell_l4 hd hR t0 (fun m3786_1 x3786_1 p3786_1 e => ?_) hq N (1 : Int32) 1 L32_1 (0 : Int32) 0 L32_0 e)
  try dsimp only at e
  refine Rn.n hT 1 (pc' := 48) (L' := [none, some (.int m3786_1), none]) (st' := [.int m3786_1]) rfl ?_
  by_cases c_3787 : x3786_1 = 0 ∨ x3786_1 = 1
  · rw [if_pos c_3787] at e
    obtain rfl := Option.some.inj e
    exact Rn.ret hT rfl rfl (if_pos (ti_b p3786_1 c_3787)) (hq m3786_1 p3786_1)
  · rw [if_neg c_3787] at e
    cases e
set_option maxRecDepth 10000 in
theorem hX12_takesLoose : iv_Tb 305 tX12_takesLoose := iv_tb_of (m := mX12_takesLoose) rfl
set_option maxRecDepth 10000 in
theorem gX12_takesLoose : PG.2 305 = some mX12_takesLoose := iv_pi_of (t := tX12_takesLoose) rfl (by decide)
def FX12_takesLoose_b45 (N : Nat) (s : iv_M) (q0 : Nat) (x1 : Int) (x2 : Int)  (kb : iv_M → Int → Int → Option (Int × iv_M)) (kx : iv_M → Int → Option (Int × iv_M)) : Option (Int × iv_M) := (kb s x1 (w32 (x2 + 1)))
set_option maxRecDepth 10000 in
set_option maxHeartbeats 4000000 in
theorem RX12_takesLoose_b45 {d N nc Ls : Nat} {Xs : Nat → Int32} (hd : 0 ≤ d) {h : iv_H} {s : iv_M} (hR : Rep nc Ls Xs h s) {q0 : Nat} (t0 : T12 nc q0) {m1 : Int32} {x1 : Int} (p1 : m1.toInt = x1) {m2 : Int32} {x2 : Int} (p2 : m2.toInt = x2)  {kb : iv_M → Int → Int → Option (Int × iv_M)} {kx : iv_M → Int → Option (Int × iv_M)} {r : Int × iv_M} {Q : Option Value → iv_H → Prop} (hb : ∀ (h : iv_H) (s : iv_M) (hR : Rep nc Ls Xs h s) (mw1 : Int32) (xw1 : Int) (pw1 : mw1.toInt = xw1) (mw2 : Int32) (xw2 : Int) (pw2 : mw2.toInt = xw2), kb s xw1 xw2 = some r → Rn d 305 (some .int) 4 [some (.ref q0), some (.int mw1), some (.int mw2)] [] h Q) (hk : ∀ (h : iv_H) (s : iv_M) (hR : Rep nc Ls Xs h s) (mw1 : Int32) (xw1 : Int) (pw1 : mw1.toInt = xw1), kx s xw1 = some r → Rn d 305 (some .int) 51 [none, some (.int mw1), none] [] h Q) (hq : ∀ (z : Int32) (h1 : iv_H), z.toInt = r.1 → Rep nc Ls Xs h1 r.2 → Q (some (.int z)) h1) (e : FX12_takesLoose_b45 N s q0 x1 x2  kb kx = some r) : Rn d 305 (some .int) 45 [some (.ref q0), some (.int m1), some (.int m2)] [] h Q := by
  have hT := hX12_takesLoose
  unfold FX12_takesLoose_b45 at e
  refine Rn.n hT 2 (pc' := 4) (L' := [some (.ref q0), some (.int m1), some (.int (m2 + (1 : Int32)))]) (st' := []) rfl ?_
  exact Rn.weak (ll_s (ll_s (ll_s ll_e))) (hb h s hR m1 x1 p1 (m2 + (1 : Int32)) (w32 (x2 + 1)) (ti_add p2 L32_1) e)
def FX12_takesLoose_l4 (N : Nat) (q0 : Nat) (kx : iv_M → Int → Option (Int × iv_M)) : Nat → iv_M → Int → Int → Option (Int × iv_M)
  | 0, _, _, _ => none
  | n + 1, s, x1, x2 => ((rd s (q0 + 1) 14 2).bind fun v_3797 => (if v_3797 ≤ x2 then (kx s x1) else ((rd s (q0 + 5) 12 x2).bind fun v_3799 => (if v_3799 = 0 then ((wr s (q0 + 44) 12 x1 x2).bind fun s_3801 => ((rd s_3801 (q0 + 3) 12 x2).bind fun v_3803 => ((wr s_3801 (q0 + 8) 16 v_3803 (-1)).bind fun s_3804 => (FX12_takesLoose_b45 N s_3804 q0 (w32 (x1 + 1)) x2 (FX12_takesLoose_l4 N q0 kx n) kx)))) else (FX12_takesLoose_b45 N s q0 x1 x2 (FX12_takesLoose_l4 N q0 kx n) kx)))))
set_option maxRecDepth 10000 in
set_option maxHeartbeats 4000000 in
theorem RX12_takesLoose_l4 {d N nc Ls : Nat} {Xs : Nat → Int32} (hd : 0 ≤ d) {q0 : Nat} (t0 : T12 nc q0) {kx : iv_M → Int → Option (Int × iv_M)} {r : Int × iv_M} {Q : Option Value → iv_H → Prop} (hk : ∀ (h : iv_H) (s : iv_M) (hR : Rep nc Ls Xs h s) (m1 : Int32) (x1 : Int) (p1 : m1.toInt = x1), kx s x1 = some r → Rn d 305 (some .int) 51 [none, some (.int m1), none] [] h Q) (hq : ∀ (z : Int32) (h1 : iv_H), z.toInt = r.1 → Rep nc Ls Xs h1 r.2 → Q (some (.int z)) h1) : ∀ (n : Nat) (h : iv_H) (s : iv_M) (hR : Rep nc Ls Xs h s) (m1 : Int32) (x1 : Int) (p1 : m1.toInt = x1) (m2 : Int32) (x2 : Int) (p2 : m2.toInt = x2), FX12_takesLoose_l4 N q0 kx n s x1 x2 = some r → Rn d 305 (some .int) 4 [some (.ref q0), some (.int m1), some (.int m2)] [] h Q := by
  have hT := hX12_takesLoose
  intro n
  induction n with
  | zero =>
    intro h s hR m1 x1 p1 m2 x2 p2 e
    rw [FX12_takesLoose_l4] at e
    cases e
  | succ n ih =>
    intro h s hR m1 x1 p1 m2 x2 p2 e
    rw [FX12_takesLoose_l4] at e
    refine Rn.n hT 2 (pc' := 6) (L' := [some (.ref q0), some (.int m1), some (.int m2)]) (st' := [.ref q0, .int m2]) rfl ?_
    refine Rn.hp hT rfl rfl (gR_hp (rp_gR hR (T12_o t0) rfl)) ?_
    refine Rn.n hT 1 (pc' := 10) (L' := [some (.ref q0), some (.int m1), some (.int m2)]) (st' := [.int (2 : Int32), .ref (q0 + 1), .int m2]) rfl ?_
    obtain ⟨v_3797, e_3797, e⟩ := Option.bind_eq_some_iff.mp e
    obtain ⟨z_3797, g_3797, p_3797⟩ := rp_aI hR (T12_1 t0) (T12_1l t0) L32_2 e_3797
    refine Rn.hp hT rfl rfl (aI_hp g_3797) ?_
    by_cases c_3798 : v_3797 ≤ x2
    · rw [if_pos c_3798] at e
      refine Rn.bt hT rfl rfl rfl (decide_eq_true ((ti_le p_3797 p2).mpr c_3798)) ?_
      exact Rn.weak (ll_n (ll_s (ll_n ll_e))) (hk h s hR m1 x1 p1 e)
    · rw [if_neg c_3798] at e
      refine Rn.bf hT rfl rfl rfl (decide_eq_false (fun z => c_3798 ((ti_le p_3797 p2).mp z))) ?_
      refine Rn.n hT 1 (pc' := 15) (L' := [some (.ref q0), some (.int m1), some (.int m2)]) (st' := [.ref q0]) rfl ?_
      refine Rn.hp hT rfl rfl (gR_hp (rp_gR hR (T12_o t0) rfl)) ?_
      refine Rn.n hT 1 (pc' := 19) (L' := [some (.ref q0), some (.int m1), some (.int m2)]) (st' := [.int m2, .ref (q0 + 5)]) rfl ?_
      obtain ⟨v_3799, e_3799, e⟩ := Option.bind_eq_some_iff.mp e
      obtain ⟨z_3799, g_3799, p_3799⟩ := rp_aI hR (T12_5 t0) (T12_5l t0) p2 e_3799
      refine Rn.hp hT rfl rfl (aI_hp g_3799) ?_
      by_cases c_3800 : v_3799 = 0
      · rw [if_pos c_3800] at e
        refine Rn.bf hT rfl rfl rfl (decide_eq_false (fun z => z ((ti_e p_3799 L32_0).mpr c_3800))) ?_
        refine Rn.n hT 1 (pc' := 24) (L' := [some (.ref q0), some (.int m1), some (.int m2)]) (st' := [.ref q0]) rfl ?_
        refine Rn.hp hT rfl rfl (gR_hp (rp_gR hR (T12_o t0) rfl)) ?_
        refine Rn.n hT 2 (pc' := 29) (L' := [some (.ref q0), some (.int m1), some (.int m2)]) (st' := [.int m2, .int m1, .ref (q0 + 44)]) rfl ?_
        obtain ⟨s_3801, e_3802, e⟩ := Option.bind_eq_some_iff.mp e
        obtain ⟨h_3801, g_3802, R_3801⟩ := rp_wI hR (T12_61 t0) (T12_61l t0) p1 p2 e_3802
        refine Rn.hp hT rfl rfl (wI_hp g_3802) ?_
        refine Rn.n hT 2 (pc' := 34) (L' := [some (.ref q0), some (.int (m1 + (1 : Int32))), some (.int m2)]) (st' := [.ref q0]) rfl ?_
        refine Rn.hp hT rfl rfl (gR_hp (rp_gR R_3801 (T12_o t0) rfl)) ?_
        refine Rn.n hT 1 (pc' := 38) (L' := [some (.ref q0), some (.int (m1 + (1 : Int32))), some (.int m2)]) (st' := [.ref q0, .ref (q0 + 8)]) rfl ?_
        refine Rn.hp hT rfl rfl (gR_hp (rp_gR R_3801 (T12_o t0) rfl)) ?_
        refine Rn.n hT 1 (pc' := 42) (L' := [some (.ref q0), some (.int (m1 + (1 : Int32))), some (.int m2)]) (st' := [.int m2, .ref (q0 + 3), .ref (q0 + 8)]) rfl ?_
        obtain ⟨v_3803, e_3803, e⟩ := Option.bind_eq_some_iff.mp e
        obtain ⟨z_3803, g_3803, p_3803⟩ := rp_aI R_3801 (T12_3 t0) (T12_3l t0) p2 e_3803
        refine Rn.hp hT rfl rfl (aI_hp g_3803) ?_
        refine Rn.n hT 1 (pc' := 44) (L' := [some (.ref q0), some (.int (m1 + (1 : Int32))), some (.int m2)]) (st' := [.int (-1 : Int32), .int z_3803, .ref (q0 + 8)]) rfl ?_
        obtain ⟨s_3804, e_3805, e⟩ := Option.bind_eq_some_iff.mp e
        obtain ⟨h_3804, g_3805, R_3804⟩ := rp_wI R_3801 (T12_8 t0) (T12_8l t0) p_3803 L32_m1 e_3805
        refine Rn.hp hT rfl rfl (wI_hp g_3805) ?_
        exact Rn.weak (ll_s (ll_s (ll_s ll_e))) (RX12_takesLoose_b45 hd R_3804 t0 (ti_add p1 L32_1) p2 ih hk hq e)
      · rw [if_neg c_3800] at e
        refine Rn.bt hT rfl rfl rfl (decide_eq_true (fun z => c_3800 ((ti_e p_3799 L32_0).mp z))) ?_
        exact Rn.weak (ll_s (ll_s (ll_s ll_e))) (RX12_takesLoose_b45 hd hR t0 p1 p2 ih hk hq e)
def FX12_takesLoose (N : Nat) (s : iv_M) (q0 : Nat) : Option (Int × iv_M) := (FX12_takesLoose_l4 N q0 (fun (s_3795 : iv_M) (x3796_1 : Int) => (some (x3796_1, s_3795))) N s 0 0)
set_option maxRecDepth 10000 in
set_option maxHeartbeats 4000000 in
theorem RX12_takesLoose {d N nc Ls : Nat} {Xs : Nat → Int32} (hd : 1 ≤ d) {h : iv_H} {s : iv_M} (hR : Rep nc Ls Xs h s) {q0 : Nat} (t0 : T12 nc q0) {r : Int × iv_M} {Q : Option Value → iv_H → Prop} (e : FX12_takesLoose N s q0 = some r) (hq : ∀ (z : Int32) (h1 : iv_H), z.toInt = r.1 → Rep nc Ls Xs h1 r.2 → Q (some (.int z)) h1) : Cl d 305 [.ref q0] h Q := by
  obtain ⟨d, rfl⟩ : ∃ k, d = k + 1 := ⟨d - 1, by omega⟩
  have hd : 0 ≤ d := by omega
  have hT := hX12_takesLoose
  unfold FX12_takesLoose at e
  refine Cl.into (by decide) gX12_takesLoose rfl ?_
  show Rn d 305 (some .int) 0 [some (.ref q0), none, none] [] h Q
  refine Rn.n hT 4 (pc' := 4) (L' := [some (.ref q0), some (.int (0 : Int32)), some (.int (0 : Int32))]) (st' := []) rfl ?_
  refine Rn.weak (ll_s (ll_s (ll_s ll_e))) (RX12_takesLoose_l4 hd t0 (fun h_3795 s_3795 R_3795 m3796_1 x3796_1 p3796_1 e => ?_) hq N h s hR (0 : Int32) 0 L32_0 (0 : Int32) 0 L32_0 e)
  try dsimp only at e
  refine Rn.n hT 1 (pc' := 52) (L' := [none, some (.int m3796_1), none]) (st' := [.int m3796_1]) rfl ?_
  obtain rfl := Option.some.inj e
  exact Rn.ret hT rfl rfl rfl (hq m3796_1 h_3795 p3796_1 R_3795)
set_option maxRecDepth 10000 in
theorem hX12_floors : iv_Tb 306 tX12_floors := iv_tb_of (m := mX12_floors) rfl
set_option maxRecDepth 10000 in
theorem gX12_floors : PG.2 306 = some mX12_floors := iv_pi_of (t := tX12_floors) rfl (by decide)
def FX12_floors_b351 (N : Nat) (s : iv_M) (q0 : Nat) (x1 : Int) (x2 : Int) (x3 : Int) (x4 : Int) (x5 : Int) (x6 : Int)  (kb : iv_M → Int → Int → Int → Option (Int × iv_M)) (kx : iv_M → Int → Int → Option (Int × iv_M)) : Option (Int × iv_M) := (kb s x4 x5 x6)
set_option maxRecDepth 10000 in
set_option maxHeartbeats 4000000 in
theorem RX12_floors_b351 {d N nc Ls : Nat} {Xs : Nat → Int32} (hd : 6 ≤ d) {h : iv_H} {s : iv_M} (hR : Rep nc Ls Xs h s) {q0 : Nat} (t0 : T12 nc q0) {m1 : Int32} {x1 : Int} (p1 : m1.toInt = x1) {m2 : Int32} {x2 : Int} (p2 : m2.toInt = x2) {m3 : Int32} {x3 : Int} (p3 : m3.toInt = x3) {m4 : Int32} {x4 : Int} (p4 : m4.toInt = x4) {m5 : Int32} {x5 : Int} (p5 : m5.toInt = x5) {m6 : Int32} {x6 : Int} (p6 : m6.toInt = x6)  {kb : iv_M → Int → Int → Int → Option (Int × iv_M)} {kx : iv_M → Int → Int → Option (Int × iv_M)} {r : Int × iv_M} {Q : Option Value → iv_H → Prop} (hb : ∀ (h : iv_H) (s : iv_M) (hR : Rep nc Ls Xs h s) (mw4 : Int32) (xw4 : Int) (pw4 : mw4.toInt = xw4) (mw5 : Int32) (xw5 : Int) (pw5 : mw5.toInt = xw5) (mw6 : Int32) (xw6 : Int) (pw6 : mw6.toInt = xw6), kb s xw4 xw5 xw6 = some r → Rn d 306 (some .int) 93 [some (.ref q0), some (.int m1), some (.int m2), some (.int m3), some (.int mw4), some (.int mw5), some (.int mw6), none, none, none, none] [] h Q) (hk : ∀ (h : iv_H) (s : iv_M) (hR : Rep nc Ls Xs h s) (mw4 : Int32) (xw4 : Int) (pw4 : mw4.toInt = xw4) (mw5 : Int32) (xw5 : Int) (pw5 : mw5.toInt = xw5), kx s xw4 xw5 = some r → Rn d 306 (some .int) 354 [some (.ref q0), none, none, none, some (.int mw4), some (.int mw5), none, none, none, none, none] [] h Q) (hq : ∀ (z : Int32) (h1 : iv_H), z.toInt = r.1 → Rep nc Ls Xs h1 r.2 → Q (some (.int z)) h1) (e : FX12_floors_b351 N s q0 x1 x2 x3 x4 x5 x6  kb kx = some r) : Rn d 306 (some .int) 351 [some (.ref q0), some (.int m1), some (.int m2), some (.int m3), some (.int m4), some (.int m5), some (.int m6), none, none, none, none] [] h Q := by
  have hT := hX12_floors
  unfold FX12_floors_b351 at e
  refine Rn.n hT 1 (pc' := 93) (L' := [some (.ref q0), some (.int m1), some (.int m2), some (.int m3), some (.int m4), some (.int m5), some (.int m6), none, none, none, none]) (st' := []) rfl ?_
  exact Rn.weak (ll_s (ll_s (ll_s (ll_s (ll_s (ll_s (ll_s (ll_n (ll_n (ll_n (ll_n ll_e))))))))))) (hb h s hR m4 x4 p4 m5 x5 p5 m6 x6 p6 e)
def FX12_floors_b329 (N : Nat) (s : iv_M) (q0 : Nat) (x1 : Int) (x2 : Int) (x3 : Int) (x5 : Int) (x6 : Int) (xs0 : Int) (xs1 : Int) (kb : iv_M → Int → Int → Int → Option (Int × iv_M)) (kx : iv_M → Int → Int → Option (Int × iv_M)) : Option (Int × iv_M) := (FX12_floors_b351 N s q0 x1 x2 x3 (w32 (xs1 + xs0)) x5 x6 kb kx)
set_option maxRecDepth 10000 in
set_option maxHeartbeats 4000000 in
theorem RX12_floors_b329 {d N nc Ls : Nat} {Xs : Nat → Int32} (hd : 6 ≤ d) {h : iv_H} {s : iv_M} (hR : Rep nc Ls Xs h s) {q0 : Nat} (t0 : T12 nc q0) {m1 : Int32} {x1 : Int} (p1 : m1.toInt = x1) {m2 : Int32} {x2 : Int} (p2 : m2.toInt = x2) {m3 : Int32} {x3 : Int} (p3 : m3.toInt = x3) {m5 : Int32} {x5 : Int} (p5 : m5.toInt = x5) {m6 : Int32} {x6 : Int} (p6 : m6.toInt = x6) {ms0 : Int32} {xs0 : Int} (ps0 : ms0.toInt = xs0) {ms1 : Int32} {xs1 : Int} (ps1 : ms1.toInt = xs1) {kb : iv_M → Int → Int → Int → Option (Int × iv_M)} {kx : iv_M → Int → Int → Option (Int × iv_M)} {r : Int × iv_M} {Q : Option Value → iv_H → Prop} (hb : ∀ (h : iv_H) (s : iv_M) (hR : Rep nc Ls Xs h s) (mw4 : Int32) (xw4 : Int) (pw4 : mw4.toInt = xw4) (mw5 : Int32) (xw5 : Int) (pw5 : mw5.toInt = xw5) (mw6 : Int32) (xw6 : Int) (pw6 : mw6.toInt = xw6), kb s xw4 xw5 xw6 = some r → Rn d 306 (some .int) 93 [some (.ref q0), some (.int m1), some (.int m2), some (.int m3), some (.int mw4), some (.int mw5), some (.int mw6), none, none, none, none] [] h Q) (hk : ∀ (h : iv_H) (s : iv_M) (hR : Rep nc Ls Xs h s) (mw4 : Int32) (xw4 : Int) (pw4 : mw4.toInt = xw4) (mw5 : Int32) (xw5 : Int) (pw5 : mw5.toInt = xw5), kx s xw4 xw5 = some r → Rn d 306 (some .int) 354 [some (.ref q0), none, none, none, some (.int mw4), some (.int mw5), none, none, none, none, none] [] h Q) (hq : ∀ (z : Int32) (h1 : iv_H), z.toInt = r.1 → Rep nc Ls Xs h1 r.2 → Q (some (.int z)) h1) (e : FX12_floors_b329 N s q0 x1 x2 x3 x5 x6 xs0 xs1 kb kx = some r) : Rn d 306 (some .int) 329 [some (.ref q0), some (.int m1), some (.int m2), some (.int m3), none, some (.int m5), some (.int m6), none, none, none, none] [.int ms0, .int ms1] h Q := by
  have hT := hX12_floors
  unfold FX12_floors_b329 at e
  refine Rn.n hT 3 (pc' := 351) (L' := [some (.ref q0), some (.int m1), some (.int m2), some (.int m3), some (.int (ms1 + ms0)), some (.int m5), some (.int m6), none, none, none, none]) (st' := []) rfl ?_
  exact Rn.weak (ll_s (ll_s (ll_s (ll_s (ll_s (ll_s (ll_s (ll_n (ll_n (ll_n (ll_n ll_e))))))))))) (RX12_floors_b351 hd hR t0 p1 p2 p3 (ti_add ps1 ps0) p5 p6 hb hk hq e)
def FX12_floors_b335 (N : Nat) (s : iv_M) (q0 : Nat) (x1 : Int) (x2 : Int) (x3 : Int) (x4 : Int) (x5 : Int) (x6 : Int) (x10 : Int)  (kb : iv_M → Int → Int → Int → Option (Int × iv_M)) (kx : iv_M → Int → Int → Option (Int × iv_M)) : Option (Int × iv_M) := (if x10 = 0 then (FX12_floors_b351 N s q0 x1 x2 x3 x4 x5 x6 kb kx) else ((wr s (q0 + 45) 13 (w32 (x6 + 1)) 0).bind fun s_3867 => (FX12_floors_b351 N s_3867 q0 x1 x2 x3 x4 x5 (w32 (x6 + 1)) kb kx)))
set_option maxRecDepth 10000 in
set_option maxHeartbeats 4000000 in
theorem RX12_floors_b335 {d N nc Ls : Nat} {Xs : Nat → Int32} (hd : 6 ≤ d) {h : iv_H} {s : iv_M} (hR : Rep nc Ls Xs h s) {q0 : Nat} (t0 : T12 nc q0) {m1 : Int32} {x1 : Int} (p1 : m1.toInt = x1) {m2 : Int32} {x2 : Int} (p2 : m2.toInt = x2) {m3 : Int32} {x3 : Int} (p3 : m3.toInt = x3) {m4 : Int32} {x4 : Int} (p4 : m4.toInt = x4) {m5 : Int32} {x5 : Int} (p5 : m5.toInt = x5) {m6 : Int32} {x6 : Int} (p6 : m6.toInt = x6) {m10 : Int32} {x10 : Int} (p10 : m10.toInt = x10)  {kb : iv_M → Int → Int → Int → Option (Int × iv_M)} {kx : iv_M → Int → Int → Option (Int × iv_M)} {r : Int × iv_M} {Q : Option Value → iv_H → Prop} (hb : ∀ (h : iv_H) (s : iv_M) (hR : Rep nc Ls Xs h s) (mw4 : Int32) (xw4 : Int) (pw4 : mw4.toInt = xw4) (mw5 : Int32) (xw5 : Int) (pw5 : mw5.toInt = xw5) (mw6 : Int32) (xw6 : Int) (pw6 : mw6.toInt = xw6), kb s xw4 xw5 xw6 = some r → Rn d 306 (some .int) 93 [some (.ref q0), some (.int m1), some (.int m2), some (.int m3), some (.int mw4), some (.int mw5), some (.int mw6), none, none, none, none] [] h Q) (hk : ∀ (h : iv_H) (s : iv_M) (hR : Rep nc Ls Xs h s) (mw4 : Int32) (xw4 : Int) (pw4 : mw4.toInt = xw4) (mw5 : Int32) (xw5 : Int) (pw5 : mw5.toInt = xw5), kx s xw4 xw5 = some r → Rn d 306 (some .int) 354 [some (.ref q0), none, none, none, some (.int mw4), some (.int mw5), none, none, none, none, none] [] h Q) (hq : ∀ (z : Int32) (h1 : iv_H), z.toInt = r.1 → Rep nc Ls Xs h1 r.2 → Q (some (.int z)) h1) (e : FX12_floors_b335 N s q0 x1 x2 x3 x4 x5 x6 x10  kb kx = some r) : Rn d 306 (some .int) 335 [some (.ref q0), some (.int m1), some (.int m2), some (.int m3), some (.int m4), some (.int m5), some (.int m6), none, none, none, some (.int m10)] [] h Q := by
  have hT := hX12_floors
  unfold FX12_floors_b335 at e
  refine Rn.n hT 1 (pc' := 337) (L' := [some (.ref q0), some (.int m1), some (.int m2), some (.int m3), some (.int m4), some (.int m5), some (.int m6), none, none, none, some (.int m10)]) (st' := [.int m10]) rfl ?_
  by_cases c_3866 : x10 = 0
  · rw [if_pos c_3866] at e
    refine Rn.bt hT rfl rfl rfl (decide_eq_true ((ti_e p10 L32_0).mpr c_3866)) ?_
    exact Rn.weak (ll_s (ll_s (ll_s (ll_s (ll_s (ll_s (ll_s (ll_n (ll_n (ll_n (ll_n ll_e))))))))))) (RX12_floors_b351 hd hR t0 p1 p2 p3 p4 p5 p6 hb hk hq e)
  · rw [if_neg c_3866] at e
    refine Rn.bf hT rfl rfl rfl (decide_eq_false (fun z => c_3866 ((ti_e p10 L32_0).mp z))) ?_
    refine Rn.n hT 2 (pc' := 344) (L' := [some (.ref q0), some (.int m1), some (.int m2), some (.int m3), some (.int m4), some (.int m5), some (.int (m6 + (1 : Int32))), none, none, none, some (.int m10)]) (st' := [.ref q0]) rfl ?_
    refine Rn.hp hT rfl rfl (gR_hp (rp_gR hR (T12_o t0) rfl)) ?_
    refine Rn.n hT 2 (pc' := 350) (L' := [some (.ref q0), some (.int m1), some (.int m2), some (.int m3), some (.int m4), some (.int m5), some (.int (m6 + (1 : Int32))), none, none, none, some (.int m10)]) (st' := [.int (0 : Int32), .int (m6 + (1 : Int32)), .ref (q0 + 45)]) rfl ?_
    obtain ⟨s_3867, e_3868, e⟩ := Option.bind_eq_some_iff.mp e
    obtain ⟨h_3867, g_3868, R_3867⟩ := rp_wI hR (T12_62 t0) (T12_62l t0) (ti_add p6 L32_1) L32_0 e_3868
    refine Rn.hp hT rfl rfl (wI_hp g_3868) ?_
    exact Rn.weak (ll_s (ll_s (ll_s (ll_s (ll_s (ll_s (ll_s (ll_n (ll_n (ll_n (ll_n ll_e))))))))))) (RX12_floors_b351 hd R_3867 t0 p1 p2 p3 p4 p5 (ti_add p6 L32_1) hb hk hq e)
def FX12_floors_b300 (N : Nat) (s : iv_M) (q0 : Nat) (x1 : Int) (x2 : Int) (x3 : Int) (x4 : Int) (x5 : Int) (x6 : Int) (xs0 : Int) (kb : iv_M → Int → Int → Int → Option (Int × iv_M)) (kx : iv_M → Int → Int → Option (Int × iv_M)) : Option (Int × iv_M) := (if xs0 = 0 then (FX12_floors_b335 N s q0 x1 x2 x3 x4 x5 x6 xs0 kb kx) else (if x6 = (w32 (x1 - 1)) then ((FX12_mismatches N s q0).bind fun r_3863 => (fun (v_3863 : Int) (s_3864 : iv_M) => (if v_3863 = 0 then (FX12_floors_b329 N s_3864 q0 x1 x2 x3 x5 x6 1 x4 kb kx) else (FX12_floors_b329 N s_3864 q0 x1 x2 x3 x5 x6 0 x4 kb kx))) r_3863.1 r_3863.2) else (FX12_floors_b335 N s q0 x1 x2 x3 x4 x5 x6 xs0 kb kx)))
set_option maxRecDepth 10000 in
set_option maxHeartbeats 4000000 in
theorem RX12_floors_b300 {d N nc Ls : Nat} {Xs : Nat → Int32} (hd : 6 ≤ d) {h : iv_H} {s : iv_M} (hR : Rep nc Ls Xs h s) {q0 : Nat} (t0 : T12 nc q0) {m1 : Int32} {x1 : Int} (p1 : m1.toInt = x1) {m2 : Int32} {x2 : Int} (p2 : m2.toInt = x2) {m3 : Int32} {x3 : Int} (p3 : m3.toInt = x3) {m4 : Int32} {x4 : Int} (p4 : m4.toInt = x4) {m5 : Int32} {x5 : Int} (p5 : m5.toInt = x5) {m6 : Int32} {x6 : Int} (p6 : m6.toInt = x6) {ms0 : Int32} {xs0 : Int} (ps0 : ms0.toInt = xs0) {kb : iv_M → Int → Int → Int → Option (Int × iv_M)} {kx : iv_M → Int → Int → Option (Int × iv_M)} {r : Int × iv_M} {Q : Option Value → iv_H → Prop} (hb : ∀ (h : iv_H) (s : iv_M) (hR : Rep nc Ls Xs h s) (mw4 : Int32) (xw4 : Int) (pw4 : mw4.toInt = xw4) (mw5 : Int32) (xw5 : Int) (pw5 : mw5.toInt = xw5) (mw6 : Int32) (xw6 : Int) (pw6 : mw6.toInt = xw6), kb s xw4 xw5 xw6 = some r → Rn d 306 (some .int) 93 [some (.ref q0), some (.int m1), some (.int m2), some (.int m3), some (.int mw4), some (.int mw5), some (.int mw6), none, none, none, none] [] h Q) (hk : ∀ (h : iv_H) (s : iv_M) (hR : Rep nc Ls Xs h s) (mw4 : Int32) (xw4 : Int) (pw4 : mw4.toInt = xw4) (mw5 : Int32) (xw5 : Int) (pw5 : mw5.toInt = xw5), kx s xw4 xw5 = some r → Rn d 306 (some .int) 354 [some (.ref q0), none, none, none, some (.int mw4), some (.int mw5), none, none, none, none, none] [] h Q) (hq : ∀ (z : Int32) (h1 : iv_H), z.toInt = r.1 → Rep nc Ls Xs h1 r.2 → Q (some (.int z)) h1) (e : FX12_floors_b300 N s q0 x1 x2 x3 x4 x5 x6 xs0 kb kx = some r) : Rn d 306 (some .int) 300 [some (.ref q0), some (.int m1), some (.int m2), some (.int m3), some (.int m4), some (.int m5), some (.int m6), none, none, none, none] [.int ms0] h Q := by
  have hT := hX12_floors
  unfold FX12_floors_b300 at e
  refine Rn.n hT 2 (pc' := 304) (L' := [some (.ref q0), some (.int m1), some (.int m2), some (.int m3), some (.int m4), some (.int m5), some (.int m6), none, none, none, some (.int ms0)]) (st' := [.int ms0]) rfl ?_
  by_cases c_3861 : xs0 = 0
  · rw [if_pos c_3861] at e
    refine Rn.bt hT rfl rfl rfl (decide_eq_true ((ti_e ps0 L32_0).mpr c_3861)) ?_
    exact Rn.weak (ll_s (ll_s (ll_s (ll_s (ll_s (ll_s (ll_s (ll_n (ll_n (ll_n (ll_s ll_e))))))))))) (RX12_floors_b335 hd hR t0 p1 p2 p3 p4 p5 p6 ps0 hb hk hq e)
  · rw [if_neg c_3861] at e
    refine Rn.bf hT rfl rfl rfl (decide_eq_false (fun z => c_3861 ((ti_e ps0 L32_0).mp z))) ?_
    refine Rn.n hT 4 (pc' := 312) (L' := [some (.ref q0), some (.int m1), some (.int m2), some (.int m3), some (.int m4), some (.int m5), some (.int m6), none, none, none, some (.int ms0)]) (st' := [.int (m1 - (1 : Int32)), .int m6]) rfl ?_
    by_cases c_3862 : x6 = (w32 (x1 - 1))
    · rw [if_pos c_3862] at e
      refine Rn.bf hT rfl rfl rfl (decide_eq_false (fun z => z ((ti_e p6 (ti_sub p1 L32_1)).mpr c_3862))) ?_
      refine Rn.n hT 2 (pc' := 318) (L' := [some (.ref q0), some (.int m1), some (.int m2), some (.int m3), some (.int m4), some (.int m5), some (.int m6), none, none, none, some (.int ms0)]) (st' := [.ref q0, .int m4]) rfl ?_
      obtain ⟨⟨v_3863, s_3864⟩, e_3863, e⟩ := Option.bind_eq_some_iff.mp e
      try dsimp only at e
      try dsimp only at e
      refine Rn.call hT rfl rfl rfl (Nat.le_of_ble_eq_true rfl) (rcv_v gX12_mismatches (by omega) (rp_ck hR (T12_o t0))) (RX12_mismatches (by omega) hR t0 e_3863 (fun z_3863 h_3864 p_3863 R_3864 => ?_))
      show Rn d _ _ 321 [some (.ref q0), some (.int m1), some (.int m2), some (.int m3), some (.int m4), some (.int m5), some (.int m6), none, none, none, some (.int ms0)] [.int z_3863, .int m4] h_3864 Q
      by_cases c_3865 : v_3863 = 0
      · rw [if_pos c_3865] at e
        refine Rn.bf hT rfl rfl rfl (decide_eq_false (fun z => z ((ti_e p_3863 L32_0).mpr c_3865))) ?_
        refine Rn.n hT 2 (pc' := 329) (L' := [some (.ref q0), some (.int m1), some (.int m2), some (.int m3), some (.int m4), some (.int m5), some (.int m6), none, none, none, some (.int ms0)]) (st' := [.int (1 : Int32), .int m4]) rfl ?_
        exact Rn.weak (ll_s (ll_s (ll_s (ll_s (ll_n (ll_s (ll_s (ll_n (ll_n (ll_n (ll_n ll_e))))))))))) (RX12_floors_b329 hd R_3864 t0 p1 p2 p3 p5 p6 L32_1 p4 hb hk hq e)
      · rw [if_neg c_3865] at e
        refine Rn.bt hT rfl rfl rfl (decide_eq_true (fun z => c_3865 ((ti_e p_3863 L32_0).mp z))) ?_
        refine Rn.n hT 1 (pc' := 329) (L' := [some (.ref q0), some (.int m1), some (.int m2), some (.int m3), some (.int m4), some (.int m5), some (.int m6), none, none, none, some (.int ms0)]) (st' := [.int (0 : Int32), .int m4]) rfl ?_
        exact Rn.weak (ll_s (ll_s (ll_s (ll_s (ll_n (ll_s (ll_s (ll_n (ll_n (ll_n (ll_n ll_e))))))))))) (RX12_floors_b329 hd R_3864 t0 p1 p2 p3 p5 p6 L32_0 p4 hb hk hq e)
    · rw [if_neg c_3862] at e
      refine Rn.bt hT rfl rfl rfl (decide_eq_true (fun z => c_3862 ((ti_e p6 (ti_sub p1 L32_1)).mp z))) ?_
      exact Rn.weak (ll_s (ll_s (ll_s (ll_s (ll_s (ll_s (ll_s (ll_n (ll_n (ll_n (ll_s ll_e))))))))))) (RX12_floors_b335 hd hR t0 p1 p2 p3 p4 p5 p6 ps0 hb hk hq e)
def FX12_floors_b299 (N : Nat) (s : iv_M) (q0 : Nat) (x1 : Int) (x2 : Int) (x3 : Int) (x4 : Int) (x5 : Int) (x6 : Int)  (kb : iv_M → Int → Int → Int → Option (Int × iv_M)) (kx : iv_M → Int → Int → Option (Int × iv_M)) : Option (Int × iv_M) := (FX12_floors_b300 N s q0 x1 x2 x3 x4 x5 x6 0 kb kx)
set_option maxRecDepth 10000 in
set_option maxHeartbeats 4000000 in
theorem RX12_floors_b299 {d N nc Ls : Nat} {Xs : Nat → Int32} (hd : 6 ≤ d) {h : iv_H} {s : iv_M} (hR : Rep nc Ls Xs h s) {q0 : Nat} (t0 : T12 nc q0) {m1 : Int32} {x1 : Int} (p1 : m1.toInt = x1) {m2 : Int32} {x2 : Int} (p2 : m2.toInt = x2) {m3 : Int32} {x3 : Int} (p3 : m3.toInt = x3) {m4 : Int32} {x4 : Int} (p4 : m4.toInt = x4) {m5 : Int32} {x5 : Int} (p5 : m5.toInt = x5) {m6 : Int32} {x6 : Int} (p6 : m6.toInt = x6)  {kb : iv_M → Int → Int → Int → Option (Int × iv_M)} {kx : iv_M → Int → Int → Option (Int × iv_M)} {r : Int × iv_M} {Q : Option Value → iv_H → Prop} (hb : ∀ (h : iv_H) (s : iv_M) (hR : Rep nc Ls Xs h s) (mw4 : Int32) (xw4 : Int) (pw4 : mw4.toInt = xw4) (mw5 : Int32) (xw5 : Int) (pw5 : mw5.toInt = xw5) (mw6 : Int32) (xw6 : Int) (pw6 : mw6.toInt = xw6), kb s xw4 xw5 xw6 = some r → Rn d 306 (some .int) 93 [some (.ref q0), some (.int m1), some (.int m2), some (.int m3), some (.int mw4), some (.int mw5), some (.int mw6), none, none, none, none] [] h Q) (hk : ∀ (h : iv_H) (s : iv_M) (hR : Rep nc Ls Xs h s) (mw4 : Int32) (xw4 : Int) (pw4 : mw4.toInt = xw4) (mw5 : Int32) (xw5 : Int) (pw5 : mw5.toInt = xw5), kx s xw4 xw5 = some r → Rn d 306 (some .int) 354 [some (.ref q0), none, none, none, some (.int mw4), some (.int mw5), none, none, none, none, none] [] h Q) (hq : ∀ (z : Int32) (h1 : iv_H), z.toInt = r.1 → Rep nc Ls Xs h1 r.2 → Q (some (.int z)) h1) (e : FX12_floors_b299 N s q0 x1 x2 x3 x4 x5 x6  kb kx = some r) : Rn d 306 (some .int) 299 [some (.ref q0), some (.int m1), some (.int m2), some (.int m3), some (.int m4), some (.int m5), some (.int m6), none, none, none, none] [] h Q := by
  have hT := hX12_floors
  unfold FX12_floors_b299 at e
  refine Rn.n hT 1 (pc' := 300) (L' := [some (.ref q0), some (.int m1), some (.int m2), some (.int m3), some (.int m4), some (.int m5), some (.int m6), none, none, none, none]) (st' := [.int (0 : Int32)]) rfl ?_
  exact Rn.weak (ll_s (ll_s (ll_s (ll_s (ll_s (ll_s (ll_s (ll_n (ll_n (ll_n (ll_n ll_e))))))))))) (RX12_floors_b300 hd hR t0 p1 p2 p3 p4 p5 p6 L32_0 hb hk hq e)
def FX12_floors_b272 (N : Nat) (s : iv_M) (q0 : Nat) (x1 : Int) (x2 : Int) (x3 : Int) (x4 : Int) (x5 : Int) (x6 : Int) (x7 : Int) (x9 : Int) (xs0 : Int) (xs1 : Int) (qs2 : Nat) (kb : iv_M → Int → Int → Int → Option (Int × iv_M)) (kx : iv_M → Int → Int → Option (Int × iv_M)) : Option (Int × iv_M) := ((wr s qs2 ((sh qs2).2 : Int) xs1 xs0).bind fun s_3854 => ((wr s_3854 (q0 + 8) 16 x9 x7).bind fun s_3856 => (if x2 = 0 then (FX12_floors_b299 N s_3856 q0 x1 x2 x3 x4 x5 x6 kb kx) else ((FX12_isLaidWell N s_3856 q0 x7).bind fun v_3859 => (if v_3859 = 0 then (FX12_floors_b299 N s_3856 q0 x1 x2 x3 x4 x5 x6 kb kx) else (FX12_floors_b300 N s_3856 q0 x1 x2 x3 x4 x5 x6 1 kb kx))))))
set_option maxRecDepth 10000 in
set_option maxHeartbeats 4000000 in
theorem RX12_floors_b272 {d N nc Ls : Nat} {Xs : Nat → Int32} (hd : 6 ≤ d) {h : iv_H} {s : iv_M} (hR : Rep nc Ls Xs h s) {q0 : Nat} (t0 : T12 nc q0) {m1 : Int32} {x1 : Int} (p1 : m1.toInt = x1) {m2 : Int32} {x2 : Int} (p2 : m2.toInt = x2) {m3 : Int32} {x3 : Int} (p3 : m3.toInt = x3) {m4 : Int32} {x4 : Int} (p4 : m4.toInt = x4) {m5 : Int32} {x5 : Int} (p5 : m5.toInt = x5) {m6 : Int32} {x6 : Int} (p6 : m6.toInt = x6) {m7 : Int32} {x7 : Int} (p7 : m7.toInt = x7) {m9 : Int32} {x9 : Int} (p9 : m9.toInt = x9) {ms0 : Int32} {xs0 : Int} (ps0 : ms0.toInt = xs0) {ms1 : Int32} {xs1 : Int} (ps1 : ms1.toInt = xs1) {qs2 : Nat} (ts2 : TA 0 nc qs2) {kb : iv_M → Int → Int → Int → Option (Int × iv_M)} {kx : iv_M → Int → Int → Option (Int × iv_M)} {r : Int × iv_M} {Q : Option Value → iv_H → Prop} (hb : ∀ (h : iv_H) (s : iv_M) (hR : Rep nc Ls Xs h s) (mw4 : Int32) (xw4 : Int) (pw4 : mw4.toInt = xw4) (mw5 : Int32) (xw5 : Int) (pw5 : mw5.toInt = xw5) (mw6 : Int32) (xw6 : Int) (pw6 : mw6.toInt = xw6), kb s xw4 xw5 xw6 = some r → Rn d 306 (some .int) 93 [some (.ref q0), some (.int m1), some (.int m2), some (.int m3), some (.int mw4), some (.int mw5), some (.int mw6), none, none, none, none] [] h Q) (hk : ∀ (h : iv_H) (s : iv_M) (hR : Rep nc Ls Xs h s) (mw4 : Int32) (xw4 : Int) (pw4 : mw4.toInt = xw4) (mw5 : Int32) (xw5 : Int) (pw5 : mw5.toInt = xw5), kx s xw4 xw5 = some r → Rn d 306 (some .int) 354 [some (.ref q0), none, none, none, some (.int mw4), some (.int mw5), none, none, none, none, none] [] h Q) (hq : ∀ (z : Int32) (h1 : iv_H), z.toInt = r.1 → Rep nc Ls Xs h1 r.2 → Q (some (.int z)) h1) (e : FX12_floors_b272 N s q0 x1 x2 x3 x4 x5 x6 x7 x9 xs0 xs1 qs2 kb kx = some r) : Rn d 306 (some .int) 272 [some (.ref q0), some (.int m1), some (.int m2), some (.int m3), some (.int m4), some (.int m5), some (.int m6), some (.int m7), none, some (.int m9), none] [.int ms0, .int ms1, .ref qs2] h Q := by
  have hT := hX12_floors
  unfold FX12_floors_b272 at e
  obtain ⟨s_3854, e_3855, e⟩ := Option.bind_eq_some_iff.mp e
  obtain ⟨h_3854, g_3855, R_3854⟩ := rp_wI hR ts2 rfl ps1 ps0 e_3855
  refine Rn.hp hT rfl rfl (wI_hp g_3855) ?_
  refine Rn.n hT 1 (pc' := 274) (L' := [some (.ref q0), some (.int m1), some (.int m2), some (.int m3), some (.int m4), some (.int m5), some (.int m6), some (.int m7), none, some (.int m9), none]) (st' := [.ref q0]) rfl ?_
  refine Rn.hp hT rfl rfl (gR_hp (rp_gR R_3854 (T12_o t0) rfl)) ?_
  refine Rn.n hT 2 (pc' := 281) (L' := [some (.ref q0), some (.int m1), some (.int m2), some (.int m3), some (.int m4), some (.int m5), some (.int m6), some (.int m7), none, some (.int m9), none]) (st' := [.int m7, .int m9, .ref (q0 + 8)]) rfl ?_
  obtain ⟨s_3856, e_3857, e⟩ := Option.bind_eq_some_iff.mp e
  obtain ⟨h_3856, g_3857, R_3856⟩ := rp_wI R_3854 (T12_8 t0) (T12_8l t0) p9 p7 e_3857
  refine Rn.hp hT rfl rfl (wI_hp g_3857) ?_
  refine Rn.n hT 1 (pc' := 283) (L' := [some (.ref q0), some (.int m1), some (.int m2), some (.int m3), some (.int m4), some (.int m5), some (.int m6), some (.int m7), none, some (.int m9), none]) (st' := [.int m2]) rfl ?_
  by_cases c_3858 : x2 = 0
  · rw [if_pos c_3858] at e
    refine Rn.bt hT rfl rfl rfl (decide_eq_true ((ti_e p2 L32_0).mpr c_3858)) ?_
    exact Rn.weak (ll_s (ll_s (ll_s (ll_s (ll_s (ll_s (ll_s (ll_n (ll_n (ll_n (ll_n ll_e))))))))))) (RX12_floors_b299 hd R_3856 t0 p1 p2 p3 p4 p5 p6 hb hk hq e)
  · rw [if_neg c_3858] at e
    refine Rn.bf hT rfl rfl rfl (decide_eq_false (fun z => c_3858 ((ti_e p2 L32_0).mp z))) ?_
    refine Rn.n hT 2 (pc' := 289) (L' := [some (.ref q0), some (.int m1), some (.int m2), some (.int m3), some (.int m4), some (.int m5), some (.int m6), some (.int m7), none, some (.int m9), none]) (st' := [.int m7, .ref q0]) rfl ?_
    obtain ⟨v_3859, e_3859, e⟩ := Option.bind_eq_some_iff.mp e
    refine Rn.call hT rfl rfl rfl (Nat.le_of_ble_eq_true rfl) (rcv_v gX12_isLaidWell (by omega) (rp_ck R_3856 (T12_o t0))) (RX12_isLaidWell (by omega) R_3856 t0 p7 e_3859 (fun z_3859 p_3859 => ?_))
    show Rn d _ _ 292 [some (.ref q0), some (.int m1), some (.int m2), some (.int m3), some (.int m4), some (.int m5), some (.int m6), some (.int m7), none, some (.int m9), none] [.int z_3859] h_3856 Q
    by_cases c_3860 : v_3859 = 0
    · rw [if_pos c_3860] at e
      refine Rn.bt hT rfl rfl rfl (decide_eq_true ((ti_e p_3859 L32_0).mpr c_3860)) ?_
      exact Rn.weak (ll_s (ll_s (ll_s (ll_s (ll_s (ll_s (ll_s (ll_n (ll_n (ll_n (ll_n ll_e))))))))))) (RX12_floors_b299 hd R_3856 t0 p1 p2 p3 p4 p5 p6 hb hk hq e)
    · rw [if_neg c_3860] at e
      refine Rn.bf hT rfl rfl rfl (decide_eq_false (fun z => c_3860 ((ti_e p_3859 L32_0).mp z))) ?_
      refine Rn.n hT 2 (pc' := 300) (L' := [some (.ref q0), some (.int m1), some (.int m2), some (.int m3), some (.int m4), some (.int m5), some (.int m6), some (.int m7), none, some (.int m9), none]) (st' := [.int (1 : Int32)]) rfl ?_
      exact Rn.weak (ll_s (ll_s (ll_s (ll_s (ll_s (ll_s (ll_s (ll_n (ll_n (ll_n (ll_n ll_e))))))))))) (RX12_floors_b300 hd R_3856 t0 p1 p2 p3 p4 p5 p6 L32_1 hb hk hq e)
def FX12_floors_b174 (N : Nat) (s : iv_M) (q0 : Nat) (x1 : Int) (x2 : Int) (x3 : Int) (x4 : Int) (x5 : Int) (x6 : Int) (x7 : Int)  (kb : iv_M → Int → Int → Int → Option (Int × iv_M)) (kx : iv_M → Int → Int → Option (Int × iv_M)) : Option (Int × iv_M) := ((rd s (q0 + 45) 13 x6).bind fun v_3839 => (if v_3839 = (w32 (16 * x3)) then (FX12_floors_b351 N s q0 x1 x2 x3 x4 x5 (w32 (x6 + (-1))) kb kx) else ((rd s (q0 + 45) 13 x6).bind fun v_3841 => ((wr s (q0 + 45) 13 x6 (w32 (v_3841 + 1))).bind fun s_3842 => (if x3 = 0 then none else ((wr s_3842 (q0 + 3) 12 x7 (dv32 v_3839 x3)).bind fun s_3845 => ((FX12_isFloor N s_3845 q0 (dv32 v_3839 x3)).bind fun v_3847 => (if v_3847 = 0 then (FX12_floors_b351 N s_3845 q0 x1 x2 x3 x4 x5 x6 kb kx) else ((rd s_3845 (q0 + 8) 16 (dv32 v_3839 x3)).bind fun v_3849 => (if v_3849 = (-1) then (if x3 = 1 then ((rd s_3845 (q0 + 46) 12 x7).bind fun v_3853 => (FX12_floors_b272 N s_3845 q0 x1 x2 x3 x4 (w32 (x5 + 1)) x6 x7 (dv32 v_3839 x3) v_3853 x7 (q0 + 4) kb kx)) else (if x3 = 0 then none else (FX12_floors_b272 N s_3845 q0 x1 x2 x3 x4 (w32 (x5 + 1)) x6 x7 (dv32 v_3839 x3) (Int.tmod v_3839 x3) x7 (q0 + 4) kb kx))) else (FX12_floors_b351 N s_3845 q0 x1 x2 x3 x4 x5 x6 kb kx)))))))))))
set_option maxRecDepth 10000 in
set_option maxHeartbeats 4000000 in
theorem RX12_floors_b174 {d N nc Ls : Nat} {Xs : Nat → Int32} (hd : 6 ≤ d) {h : iv_H} {s : iv_M} (hR : Rep nc Ls Xs h s) {q0 : Nat} (t0 : T12 nc q0) {m1 : Int32} {x1 : Int} (p1 : m1.toInt = x1) {m2 : Int32} {x2 : Int} (p2 : m2.toInt = x2) {m3 : Int32} {x3 : Int} (p3 : m3.toInt = x3) {m4 : Int32} {x4 : Int} (p4 : m4.toInt = x4) {m5 : Int32} {x5 : Int} (p5 : m5.toInt = x5) {m6 : Int32} {x6 : Int} (p6 : m6.toInt = x6) {m7 : Int32} {x7 : Int} (p7 : m7.toInt = x7)  {kb : iv_M → Int → Int → Int → Option (Int × iv_M)} {kx : iv_M → Int → Int → Option (Int × iv_M)} {r : Int × iv_M} {Q : Option Value → iv_H → Prop} (hb : ∀ (h : iv_H) (s : iv_M) (hR : Rep nc Ls Xs h s) (mw4 : Int32) (xw4 : Int) (pw4 : mw4.toInt = xw4) (mw5 : Int32) (xw5 : Int) (pw5 : mw5.toInt = xw5) (mw6 : Int32) (xw6 : Int) (pw6 : mw6.toInt = xw6), kb s xw4 xw5 xw6 = some r → Rn d 306 (some .int) 93 [some (.ref q0), some (.int m1), some (.int m2), some (.int m3), some (.int mw4), some (.int mw5), some (.int mw6), none, none, none, none] [] h Q) (hk : ∀ (h : iv_H) (s : iv_M) (hR : Rep nc Ls Xs h s) (mw4 : Int32) (xw4 : Int) (pw4 : mw4.toInt = xw4) (mw5 : Int32) (xw5 : Int) (pw5 : mw5.toInt = xw5), kx s xw4 xw5 = some r → Rn d 306 (some .int) 354 [some (.ref q0), none, none, none, some (.int mw4), some (.int mw5), none, none, none, none, none] [] h Q) (hq : ∀ (z : Int32) (h1 : iv_H), z.toInt = r.1 → Rep nc Ls Xs h1 r.2 → Q (some (.int z)) h1) (e : FX12_floors_b174 N s q0 x1 x2 x3 x4 x5 x6 x7  kb kx = some r) : Rn d 306 (some .int) 174 [some (.ref q0), some (.int m1), some (.int m2), some (.int m3), some (.int m4), some (.int m5), some (.int m6), some (.int m7), none, none, none] [] h Q := by
  have hT := hX12_floors
  unfold FX12_floors_b174 at e
  refine Rn.n hT 1 (pc' := 175) (L' := [some (.ref q0), some (.int m1), some (.int m2), some (.int m3), some (.int m4), some (.int m5), some (.int m6), some (.int m7), none, none, none]) (st' := [.ref q0]) rfl ?_
  refine Rn.hp hT rfl rfl (gR_hp (rp_gR hR (T12_o t0) rfl)) ?_
  refine Rn.n hT 1 (pc' := 180) (L' := [some (.ref q0), some (.int m1), some (.int m2), some (.int m3), some (.int m4), some (.int m5), some (.int m6), some (.int m7), none, none, none]) (st' := [.int m6, .ref (q0 + 45)]) rfl ?_
  obtain ⟨v_3839, e_3839, e⟩ := Option.bind_eq_some_iff.mp e
  obtain ⟨z_3839, g_3839, p_3839⟩ := rp_aI hR (T12_62 t0) (T12_62l t0) p6 e_3839
  refine Rn.hp hT rfl rfl (aI_hp g_3839) ?_
  refine Rn.n hT 5 (pc' := 189) (L' := [some (.ref q0), some (.int m1), some (.int m2), some (.int m3), some (.int m4), some (.int m5), some (.int m6), some (.int m7), some (.int z_3839), none, none]) (st' := [.int ((16 : Int32) * m3), .int z_3839]) rfl ?_
  by_cases c_3840 : v_3839 = (w32 (16 * x3))
  · rw [if_pos c_3840] at e
    refine Rn.bf hT rfl rfl rfl (decide_eq_false (fun z => z ((ti_e p_3839 (ti_mul L32_16 p3)).mpr c_3840))) ?_
    refine Rn.n hT 2 (pc' := 351) (L' := [some (.ref q0), some (.int m1), some (.int m2), some (.int m3), some (.int m4), some (.int m5), some (.int (m6 + (-1 : Int32))), some (.int m7), some (.int z_3839), none, none]) (st' := []) rfl ?_
    exact Rn.weak (ll_s (ll_s (ll_s (ll_s (ll_s (ll_s (ll_s (ll_n (ll_n (ll_n (ll_n ll_e))))))))))) (RX12_floors_b351 hd hR t0 p1 p2 p3 p4 p5 (ti_add p6 L32_m1) hb hk hq e)
  · rw [if_neg c_3840] at e
    refine Rn.bt hT rfl rfl rfl (decide_eq_true (fun z => c_3840 ((ti_e p_3839 (ti_mul L32_16 p3)).mp z))) ?_
    refine Rn.n hT 1 (pc' := 199) (L' := [some (.ref q0), some (.int m1), some (.int m2), some (.int m3), some (.int m4), some (.int m5), some (.int m6), some (.int m7), some (.int z_3839), none, none]) (st' := [.ref q0]) rfl ?_
    refine Rn.hp hT rfl rfl (gR_hp (rp_gR hR (T12_o t0) rfl)) ?_
    refine Rn.n hT 2 (pc' := 205) (L' := [some (.ref q0), some (.int m1), some (.int m2), some (.int m3), some (.int m4), some (.int m5), some (.int m6), some (.int m7), some (.int z_3839), none, none]) (st' := [.int m6, .ref (q0 + 45), .int m6, .ref (q0 + 45)]) rfl ?_
    obtain ⟨v_3841, e_3841, e⟩ := Option.bind_eq_some_iff.mp e
    obtain ⟨z_3841, g_3841, p_3841⟩ := rp_aI hR (T12_62 t0) (T12_62l t0) p6 e_3841
    refine Rn.hp hT rfl rfl (aI_hp g_3841) ?_
    refine Rn.n hT 2 (pc' := 208) (L' := [some (.ref q0), some (.int m1), some (.int m2), some (.int m3), some (.int m4), some (.int m5), some (.int m6), some (.int m7), some (.int z_3839), none, none]) (st' := [.int (z_3841 + (1 : Int32)), .int m6, .ref (q0 + 45)]) rfl ?_
    obtain ⟨s_3842, e_3843, e⟩ := Option.bind_eq_some_iff.mp e
    obtain ⟨h_3842, g_3843, R_3842⟩ := rp_wI hR (T12_62 t0) (T12_62l t0) p6 (ti_add p_3841 L32_1) e_3843
    refine Rn.hp hT rfl rfl (wI_hp g_3843) ?_
    refine Rn.n hT 2 (pc' := 212) (L' := [some (.ref q0), some (.int m1), some (.int m2), some (.int m3), some (.int m4), some (.int m5), some (.int m6), some (.int m7), some (.int z_3839), none, none]) (st' := [.int m3, .int z_3839]) rfl ?_
    by_cases c_3844 : x3 = 0
    · rw [if_pos c_3844] at e
      cases e
    · rw [if_neg c_3844] at e
      refine Rn.pu hT rfl rfl (st' := [.int (z_3839 / m3)]) (if_neg (fun z => c_3844 ((ti_e p3 L32_0).mp z))) ?_
      refine Rn.n hT 2 (pc' := 216) (L' := [some (.ref q0), some (.int m1), some (.int m2), some (.int m3), some (.int m4), some (.int m5), some (.int m6), some (.int m7), some (.int z_3839), some (.int (z_3839 / m3)), none]) (st' := [.ref q0]) rfl ?_
      refine Rn.hp hT rfl rfl (gR_hp (rp_gR R_3842 (T12_o t0) rfl)) ?_
      refine Rn.n hT 2 (pc' := 223) (L' := [some (.ref q0), some (.int m1), some (.int m2), some (.int m3), some (.int m4), some (.int m5), some (.int m6), some (.int m7), some (.int z_3839), some (.int (z_3839 / m3)), none]) (st' := [.int (z_3839 / m3), .int m7, .ref (q0 + 3)]) rfl ?_
      obtain ⟨s_3845, e_3846, e⟩ := Option.bind_eq_some_iff.mp e
      obtain ⟨h_3845, g_3846, R_3845⟩ := rp_wI R_3842 (T12_3 t0) (T12_3l t0) p7 (ti_div p_3839 p3) e_3846
      refine Rn.hp hT rfl rfl (wI_hp g_3846) ?_
      refine Rn.n hT 2 (pc' := 227) (L' := [some (.ref q0), some (.int m1), some (.int m2), some (.int m3), some (.int m4), some (.int m5), some (.int m6), some (.int m7), some (.int z_3839), some (.int (z_3839 / m3)), none]) (st' := [.int (z_3839 / m3), .ref q0]) rfl ?_
      obtain ⟨v_3847, e_3847, e⟩ := Option.bind_eq_some_iff.mp e
      refine Rn.call hT rfl rfl rfl (Nat.le_of_ble_eq_true rfl) (rcv_v gX12_isFloor (by omega) (rp_ck R_3845 (T12_o t0))) (RX12_isFloor (by omega) R_3845 t0 (ti_div p_3839 p3) e_3847 (fun z_3847 p_3847 => ?_))
      show Rn d _ _ 230 [some (.ref q0), some (.int m1), some (.int m2), some (.int m3), some (.int m4), some (.int m5), some (.int m6), some (.int m7), some (.int z_3839), some (.int (z_3839 / m3)), none] [.int z_3847] h_3845 Q
      by_cases c_3848 : v_3847 = 0
      · rw [if_pos c_3848] at e
        refine Rn.bt hT rfl rfl rfl (decide_eq_true ((ti_e p_3847 L32_0).mpr c_3848)) ?_
        exact Rn.weak (ll_s (ll_s (ll_s (ll_s (ll_s (ll_s (ll_s (ll_n (ll_n (ll_n (ll_n ll_e))))))))))) (RX12_floors_b351 hd R_3845 t0 p1 p2 p3 p4 p5 p6 hb hk hq e)
      · rw [if_neg c_3848] at e
        refine Rn.bf hT rfl rfl rfl (decide_eq_false (fun z => c_3848 ((ti_e p_3847 L32_0).mp z))) ?_
        refine Rn.n hT 1 (pc' := 234) (L' := [some (.ref q0), some (.int m1), some (.int m2), some (.int m3), some (.int m4), some (.int m5), some (.int m6), some (.int m7), some (.int z_3839), some (.int (z_3839 / m3)), none]) (st' := [.ref q0]) rfl ?_
        refine Rn.hp hT rfl rfl (gR_hp (rp_gR R_3845 (T12_o t0) rfl)) ?_
        refine Rn.n hT 1 (pc' := 239) (L' := [some (.ref q0), some (.int m1), some (.int m2), some (.int m3), some (.int m4), some (.int m5), some (.int m6), some (.int m7), some (.int z_3839), some (.int (z_3839 / m3)), none]) (st' := [.int (z_3839 / m3), .ref (q0 + 8)]) rfl ?_
        obtain ⟨v_3849, e_3849, e⟩ := Option.bind_eq_some_iff.mp e
        obtain ⟨z_3849, g_3849, p_3849⟩ := rp_aI R_3845 (T12_8 t0) (T12_8l t0) (ti_div p_3839 p3) e_3849
        refine Rn.hp hT rfl rfl (aI_hp g_3849) ?_
        refine Rn.n hT 1 (pc' := 241) (L' := [some (.ref q0), some (.int m1), some (.int m2), some (.int m3), some (.int m4), some (.int m5), some (.int m6), some (.int m7), some (.int z_3839), some (.int (z_3839 / m3)), none]) (st' := [.int (-1 : Int32), .int z_3849]) rfl ?_
        by_cases c_3850 : v_3849 = (-1)
        · rw [if_pos c_3850] at e
          refine Rn.bf hT rfl rfl rfl (decide_eq_false (fun z => z ((ti_e p_3849 L32_m1).mpr c_3850))) ?_
          refine Rn.n hT 2 (pc' := 248) (L' := [some (.ref q0), some (.int m1), some (.int m2), some (.int m3), some (.int m4), some (.int (m5 + (1 : Int32))), some (.int m6), some (.int m7), some (.int z_3839), some (.int (z_3839 / m3)), none]) (st' := [.ref q0]) rfl ?_
          refine Rn.hp hT rfl rfl (gR_hp (rp_gR R_3845 (T12_o t0) rfl)) ?_
          refine Rn.n hT 3 (pc' := 255) (L' := [some (.ref q0), some (.int m1), some (.int m2), some (.int m3), some (.int m4), some (.int (m5 + (1 : Int32))), some (.int m6), some (.int m7), some (.int z_3839), some (.int (z_3839 / m3)), none]) (st' := [.int (1 : Int32), .int m3, .int m7, .ref (q0 + 4)]) rfl ?_
          by_cases c_3851 : x3 = 1
          · rw [if_pos c_3851] at e
            refine Rn.bf hT rfl rfl rfl (decide_eq_false (fun z => z ((ti_e p3 L32_1).mpr c_3851))) ?_
            refine Rn.n hT 1 (pc' := 259) (L' := [some (.ref q0), some (.int m1), some (.int m2), some (.int m3), some (.int m4), some (.int (m5 + (1 : Int32))), some (.int m6), some (.int m7), some (.int z_3839), some (.int (z_3839 / m3)), none]) (st' := [.ref q0, .int m7, .ref (q0 + 4)]) rfl ?_
            refine Rn.hp hT rfl rfl (gR_hp (rp_gR R_3845 (T12_o t0) rfl)) ?_
            refine Rn.n hT 1 (pc' := 264) (L' := [some (.ref q0), some (.int m1), some (.int m2), some (.int m3), some (.int m4), some (.int (m5 + (1 : Int32))), some (.int m6), some (.int m7), some (.int z_3839), some (.int (z_3839 / m3)), none]) (st' := [.int m7, .ref (q0 + 46), .int m7, .ref (q0 + 4)]) rfl ?_
            obtain ⟨v_3853, e_3853, e⟩ := Option.bind_eq_some_iff.mp e
            obtain ⟨z_3853, g_3853, p_3853⟩ := rp_aI R_3845 (T12_63 t0) (T12_63l t0) p7 e_3853
            refine Rn.hp hT rfl rfl (aI_hp g_3853) ?_
            refine Rn.n hT 1 (pc' := 272) (L' := [some (.ref q0), some (.int m1), some (.int m2), some (.int m3), some (.int m4), some (.int (m5 + (1 : Int32))), some (.int m6), some (.int m7), some (.int z_3839), some (.int (z_3839 / m3)), none]) (st' := [.int z_3853, .int m7, .ref (q0 + 4)]) rfl ?_
            exact Rn.weak (ll_s (ll_s (ll_s (ll_s (ll_s (ll_s (ll_s (ll_s (ll_n (ll_s (ll_n ll_e))))))))))) (RX12_floors_b272 hd R_3845 t0 p1 p2 p3 p4 (ti_add p5 L32_1) p6 p7 (ti_div p_3839 p3) p_3853 p7 (T12_4 t0) hb hk hq e)
          · rw [if_neg c_3851] at e
            refine Rn.bt hT rfl rfl rfl (decide_eq_true (fun z => c_3851 ((ti_e p3 L32_1).mp z))) ?_
            refine Rn.n hT 2 (pc' := 271) (L' := [some (.ref q0), some (.int m1), some (.int m2), some (.int m3), some (.int m4), some (.int (m5 + (1 : Int32))), some (.int m6), some (.int m7), some (.int z_3839), some (.int (z_3839 / m3)), none]) (st' := [.int m3, .int z_3839, .int m7, .ref (q0 + 4)]) rfl ?_
            by_cases c_3852 : x3 = 0
            · rw [if_pos c_3852] at e
              cases e
            · rw [if_neg c_3852] at e
              refine Rn.pu hT rfl rfl (st' := [.int (z_3839 - z_3839 / m3 * m3), .int m7, .ref (q0 + 4)]) (if_neg (fun z => c_3852 ((ti_e p3 L32_0).mp z))) ?_
              exact Rn.weak (ll_s (ll_s (ll_s (ll_s (ll_s (ll_s (ll_s (ll_s (ll_n (ll_s (ll_n ll_e))))))))))) (RX12_floors_b272 hd R_3845 t0 p1 p2 p3 p4 (ti_add p5 L32_1) p6 p7 (ti_div p_3839 p3) (ti_rem p_3839 p3) p7 (T12_4 t0) hb hk hq e)
        · rw [if_neg c_3850] at e
          refine Rn.bt hT rfl rfl rfl (decide_eq_true (fun z => c_3850 ((ti_e p_3849 L32_m1).mp z))) ?_
          exact Rn.weak (ll_s (ll_s (ll_s (ll_s (ll_s (ll_s (ll_s (ll_n (ll_n (ll_n (ll_n ll_e))))))))))) (RX12_floors_b351 hd R_3845 t0 p1 p2 p3 p4 p5 p6 hb hk hq e)
def FX12_floors_b173 (N : Nat) (s : iv_M) (q0 : Nat) (x1 : Int) (x2 : Int) (x3 : Int) (x4 : Int) (x5 : Int) (x6 : Int) (x7 : Int) (xs0 : Int) (xs1 : Int) (qs2 : Nat) (kb : iv_M → Int → Int → Int → Option (Int × iv_M)) (kx : iv_M → Int → Int → Option (Int × iv_M)) : Option (Int × iv_M) := ((wr s qs2 ((sh qs2).2 : Int) xs1 xs0).bind fun s_3837 => (FX12_floors_b174 N s_3837 q0 x1 x2 x3 x4 x5 x6 x7 kb kx))
set_option maxRecDepth 10000 in
set_option maxHeartbeats 4000000 in
theorem RX12_floors_b173 {d N nc Ls : Nat} {Xs : Nat → Int32} (hd : 6 ≤ d) {h : iv_H} {s : iv_M} (hR : Rep nc Ls Xs h s) {q0 : Nat} (t0 : T12 nc q0) {m1 : Int32} {x1 : Int} (p1 : m1.toInt = x1) {m2 : Int32} {x2 : Int} (p2 : m2.toInt = x2) {m3 : Int32} {x3 : Int} (p3 : m3.toInt = x3) {m4 : Int32} {x4 : Int} (p4 : m4.toInt = x4) {m5 : Int32} {x5 : Int} (p5 : m5.toInt = x5) {m6 : Int32} {x6 : Int} (p6 : m6.toInt = x6) {m7 : Int32} {x7 : Int} (p7 : m7.toInt = x7) {ms0 : Int32} {xs0 : Int} (ps0 : ms0.toInt = xs0) {ms1 : Int32} {xs1 : Int} (ps1 : ms1.toInt = xs1) {qs2 : Nat} (ts2 : TA 0 nc qs2) {kb : iv_M → Int → Int → Int → Option (Int × iv_M)} {kx : iv_M → Int → Int → Option (Int × iv_M)} {r : Int × iv_M} {Q : Option Value → iv_H → Prop} (hb : ∀ (h : iv_H) (s : iv_M) (hR : Rep nc Ls Xs h s) (mw4 : Int32) (xw4 : Int) (pw4 : mw4.toInt = xw4) (mw5 : Int32) (xw5 : Int) (pw5 : mw5.toInt = xw5) (mw6 : Int32) (xw6 : Int) (pw6 : mw6.toInt = xw6), kb s xw4 xw5 xw6 = some r → Rn d 306 (some .int) 93 [some (.ref q0), some (.int m1), some (.int m2), some (.int m3), some (.int mw4), some (.int mw5), some (.int mw6), none, none, none, none] [] h Q) (hk : ∀ (h : iv_H) (s : iv_M) (hR : Rep nc Ls Xs h s) (mw4 : Int32) (xw4 : Int) (pw4 : mw4.toInt = xw4) (mw5 : Int32) (xw5 : Int) (pw5 : mw5.toInt = xw5), kx s xw4 xw5 = some r → Rn d 306 (some .int) 354 [some (.ref q0), none, none, none, some (.int mw4), some (.int mw5), none, none, none, none, none] [] h Q) (hq : ∀ (z : Int32) (h1 : iv_H), z.toInt = r.1 → Rep nc Ls Xs h1 r.2 → Q (some (.int z)) h1) (e : FX12_floors_b173 N s q0 x1 x2 x3 x4 x5 x6 x7 xs0 xs1 qs2 kb kx = some r) : Rn d 306 (some .int) 173 [some (.ref q0), some (.int m1), some (.int m2), some (.int m3), some (.int m4), some (.int m5), some (.int m6), some (.int m7), none, none, none] [.int ms0, .int ms1, .ref qs2] h Q := by
  have hT := hX12_floors
  unfold FX12_floors_b173 at e
  obtain ⟨s_3837, e_3838, e⟩ := Option.bind_eq_some_iff.mp e
  obtain ⟨h_3837, g_3838, R_3837⟩ := rp_wI hR ts2 rfl ps1 ps0 e_3838
  refine Rn.hp hT rfl rfl (wI_hp g_3838) ?_
  exact Rn.weak (ll_s (ll_s (ll_s (ll_s (ll_s (ll_s (ll_s (ll_s (ll_n (ll_n (ll_n ll_e))))))))))) (RX12_floors_b174 hd R_3837 t0 p1 p2 p3 p4 p5 p6 p7 hb hk hq e)
def FX12_floors_l93 (N : Nat) (q0 : Nat) (x1 : Int) (x2 : Int) (x3 : Int) (kx : iv_M → Int → Int → Option (Int × iv_M)) : Nat → iv_M → Int → Int → Int → Option (Int × iv_M)
  | 0, _, _, _, _ => none
  | n + 1, s, x4, x5, x6 => (if x6 < 0 then (kx s x4 x5) else (if x1 ≤ 0 then (kx s x4 x5) else (if 20000 < x5 then (kx s x4 x5) else ((rd s (q0 + 44) 12 x6).bind fun v_3828 => ((rd s (q0 + 45) 13 x6).bind fun v_3829 => (if v_3829 ≤ 0 then (FX12_floors_b174 N s q0 x1 x2 x3 x4 x5 x6 v_3828 (FX12_floors_l93 N q0 x1 x2 x3 kx n) kx) else ((rd s (q0 + 3) 12 v_3828).bind fun v_3831 => ((rd s (q0 + 3) 12 v_3828).bind fun v_3832 => ((rd s (q0 + 8) 16 v_3832).bind fun v_3833 => (if v_3833 = v_3828 then (FX12_floors_b173 N s q0 x1 x2 x3 x4 x5 x6 v_3828 (-1) v_3831 (q0 + 8) (FX12_floors_l93 N q0 x1 x2 x3 kx n) kx) else ((rd s (q0 + 3) 12 v_3828).bind fun v_3835 => ((rd s (q0 + 8) 16 v_3835).bind fun v_3836 => (FX12_floors_b173 N s q0 x1 x2 x3 x4 x5 x6 v_3828 v_3836 v_3831 (q0 + 8) (FX12_floors_l93 N q0 x1 x2 x3 kx n) kx)))))))))))))
set_option maxRecDepth 10000 in
set_option maxHeartbeats 4000000 in
theorem RX12_floors_l93 {d N nc Ls : Nat} {Xs : Nat → Int32} (hd : 6 ≤ d) {q0 : Nat} (t0 : T12 nc q0) {m1 : Int32} {x1 : Int} (p1 : m1.toInt = x1) {m2 : Int32} {x2 : Int} (p2 : m2.toInt = x2) {m3 : Int32} {x3 : Int} (p3 : m3.toInt = x3) {kx : iv_M → Int → Int → Option (Int × iv_M)} {r : Int × iv_M} {Q : Option Value → iv_H → Prop} (hk : ∀ (h : iv_H) (s : iv_M) (hR : Rep nc Ls Xs h s) (m4 : Int32) (x4 : Int) (p4 : m4.toInt = x4) (m5 : Int32) (x5 : Int) (p5 : m5.toInt = x5), kx s x4 x5 = some r → Rn d 306 (some .int) 354 [some (.ref q0), none, none, none, some (.int m4), some (.int m5), none, none, none, none, none] [] h Q) (hq : ∀ (z : Int32) (h1 : iv_H), z.toInt = r.1 → Rep nc Ls Xs h1 r.2 → Q (some (.int z)) h1) : ∀ (n : Nat) (h : iv_H) (s : iv_M) (hR : Rep nc Ls Xs h s) (m4 : Int32) (x4 : Int) (p4 : m4.toInt = x4) (m5 : Int32) (x5 : Int) (p5 : m5.toInt = x5) (m6 : Int32) (x6 : Int) (p6 : m6.toInt = x6), FX12_floors_l93 N q0 x1 x2 x3 kx n s x4 x5 x6 = some r → Rn d 306 (some .int) 93 [some (.ref q0), some (.int m1), some (.int m2), some (.int m3), some (.int m4), some (.int m5), some (.int m6), none, none, none, none] [] h Q := by
  have hT := hX12_floors
  intro n
  induction n with
  | zero =>
    intro h s hR m4 x4 p4 m5 x5 p5 m6 x6 p6 e
    rw [FX12_floors_l93] at e
    cases e
  | succ n ih =>
    intro h s hR m4 x4 p4 m5 x5 p5 m6 x6 p6 e
    rw [FX12_floors_l93] at e
    refine Rn.n hT 1 (pc' := 95) (L' := [some (.ref q0), some (.int m1), some (.int m2), some (.int m3), some (.int m4), some (.int m5), some (.int m6), none, none, none, none]) (st' := [.int m6]) rfl ?_
    by_cases c_3825 : x6 < 0
    · rw [if_pos c_3825] at e
      refine Rn.bt hT rfl rfl rfl (decide_eq_true ((ti_l p6 L32_0).mpr c_3825)) ?_
      exact Rn.weak (ll_s (ll_n (ll_n (ll_n (ll_s (ll_s (ll_n (ll_n (ll_n (ll_n (ll_n ll_e))))))))))) (hk h s hR m4 x4 p4 m5 x5 p5 e)
    · rw [if_neg c_3825] at e
      refine Rn.bf hT rfl rfl rfl (decide_eq_false (fun z => c_3825 ((ti_l p6 L32_0).mp z))) ?_
      refine Rn.n hT 1 (pc' := 99) (L' := [some (.ref q0), some (.int m1), some (.int m2), some (.int m3), some (.int m4), some (.int m5), some (.int m6), none, none, none, none]) (st' := [.int m1]) rfl ?_
      by_cases c_3826 : x1 ≤ 0
      · rw [if_pos c_3826] at e
        refine Rn.bt hT rfl rfl rfl (decide_eq_true ((ti_le p1 L32_0).mpr c_3826)) ?_
        exact Rn.weak (ll_s (ll_n (ll_n (ll_n (ll_s (ll_s (ll_n (ll_n (ll_n (ll_n (ll_n ll_e))))))))))) (hk h s hR m4 x4 p4 m5 x5 p5 e)
      · rw [if_neg c_3826] at e
        refine Rn.bf hT rfl rfl rfl (decide_eq_false (fun z => c_3826 ((ti_le p1 L32_0).mp z))) ?_
        refine Rn.n hT 2 (pc' := 107) (L' := [some (.ref q0), some (.int m1), some (.int m2), some (.int m3), some (.int m4), some (.int m5), some (.int m6), none, none, none, none]) (st' := [.int (20000 : Int32), .int m5]) rfl ?_
        by_cases c_3827 : 20000 < x5
        · rw [if_pos c_3827] at e
          refine Rn.bt hT rfl rfl rfl (decide_eq_true ((ti_l L32_20000 p5).mpr c_3827)) ?_
          exact Rn.weak (ll_s (ll_n (ll_n (ll_n (ll_s (ll_s (ll_n (ll_n (ll_n (ll_n (ll_n ll_e))))))))))) (hk h s hR m4 x4 p4 m5 x5 p5 e)
        · rw [if_neg c_3827] at e
          refine Rn.bf hT rfl rfl rfl (decide_eq_false (fun z => c_3827 ((ti_l L32_20000 p5).mp z))) ?_
          refine Rn.n hT 1 (pc' := 111) (L' := [some (.ref q0), some (.int m1), some (.int m2), some (.int m3), some (.int m4), some (.int m5), some (.int m6), none, none, none, none]) (st' := [.ref q0]) rfl ?_
          refine Rn.hp hT rfl rfl (gR_hp (rp_gR hR (T12_o t0) rfl)) ?_
          refine Rn.n hT 1 (pc' := 116) (L' := [some (.ref q0), some (.int m1), some (.int m2), some (.int m3), some (.int m4), some (.int m5), some (.int m6), none, none, none, none]) (st' := [.int m6, .ref (q0 + 44)]) rfl ?_
          obtain ⟨v_3828, e_3828, e⟩ := Option.bind_eq_some_iff.mp e
          obtain ⟨z_3828, g_3828, p_3828⟩ := rp_aI hR (T12_61 t0) (T12_61l t0) p6 e_3828
          refine Rn.hp hT rfl rfl (aI_hp g_3828) ?_
          refine Rn.n hT 2 (pc' := 120) (L' := [some (.ref q0), some (.int m1), some (.int m2), some (.int m3), some (.int m4), some (.int m5), some (.int m6), some (.int z_3828), none, none, none]) (st' := [.ref q0]) rfl ?_
          refine Rn.hp hT rfl rfl (gR_hp (rp_gR hR (T12_o t0) rfl)) ?_
          refine Rn.n hT 1 (pc' := 125) (L' := [some (.ref q0), some (.int m1), some (.int m2), some (.int m3), some (.int m4), some (.int m5), some (.int m6), some (.int z_3828), none, none, none]) (st' := [.int m6, .ref (q0 + 45)]) rfl ?_
          obtain ⟨v_3829, e_3829, e⟩ := Option.bind_eq_some_iff.mp e
          obtain ⟨z_3829, g_3829, p_3829⟩ := rp_aI hR (T12_62 t0) (T12_62l t0) p6 e_3829
          refine Rn.hp hT rfl rfl (aI_hp g_3829) ?_
          by_cases c_3830 : v_3829 ≤ 0
          · rw [if_pos c_3830] at e
            refine Rn.bt hT rfl rfl rfl (decide_eq_true ((ti_le p_3829 L32_0).mpr c_3830)) ?_
            exact Rn.weak (ll_s (ll_s (ll_s (ll_s (ll_s (ll_s (ll_s (ll_s (ll_n (ll_n (ll_n ll_e))))))))))) (RX12_floors_b174 hd hR t0 p1 p2 p3 p4 p5 p6 p_3828 ih hk hq e)
          · rw [if_neg c_3830] at e
            refine Rn.bf hT rfl rfl rfl (decide_eq_false (fun z => c_3830 ((ti_le p_3829 L32_0).mp z))) ?_
            refine Rn.n hT 1 (pc' := 130) (L' := [some (.ref q0), some (.int m1), some (.int m2), some (.int m3), some (.int m4), some (.int m5), some (.int m6), some (.int z_3828), none, none, none]) (st' := [.ref q0]) rfl ?_
            refine Rn.hp hT rfl rfl (gR_hp (rp_gR hR (T12_o t0) rfl)) ?_
            refine Rn.n hT 1 (pc' := 134) (L' := [some (.ref q0), some (.int m1), some (.int m2), some (.int m3), some (.int m4), some (.int m5), some (.int m6), some (.int z_3828), none, none, none]) (st' := [.ref q0, .ref (q0 + 8)]) rfl ?_
            refine Rn.hp hT rfl rfl (gR_hp (rp_gR hR (T12_o t0) rfl)) ?_
            refine Rn.n hT 1 (pc' := 139) (L' := [some (.ref q0), some (.int m1), some (.int m2), some (.int m3), some (.int m4), some (.int m5), some (.int m6), some (.int z_3828), none, none, none]) (st' := [.int z_3828, .ref (q0 + 3), .ref (q0 + 8)]) rfl ?_
            obtain ⟨v_3831, e_3831, e⟩ := Option.bind_eq_some_iff.mp e
            obtain ⟨z_3831, g_3831, p_3831⟩ := rp_aI hR (T12_3 t0) (T12_3l t0) p_3828 e_3831
            refine Rn.hp hT rfl rfl (aI_hp g_3831) ?_
            refine Rn.n hT 1 (pc' := 141) (L' := [some (.ref q0), some (.int m1), some (.int m2), some (.int m3), some (.int m4), some (.int m5), some (.int m6), some (.int z_3828), none, none, none]) (st' := [.ref q0, .int z_3831, .ref (q0 + 8)]) rfl ?_
            refine Rn.hp hT rfl rfl (gR_hp (rp_gR hR (T12_o t0) rfl)) ?_
            refine Rn.n hT 1 (pc' := 145) (L' := [some (.ref q0), some (.int m1), some (.int m2), some (.int m3), some (.int m4), some (.int m5), some (.int m6), some (.int z_3828), none, none, none]) (st' := [.ref q0, .ref (q0 + 8), .int z_3831, .ref (q0 + 8)]) rfl ?_
            refine Rn.hp hT rfl rfl (gR_hp (rp_gR hR (T12_o t0) rfl)) ?_
            refine Rn.n hT 1 (pc' := 150) (L' := [some (.ref q0), some (.int m1), some (.int m2), some (.int m3), some (.int m4), some (.int m5), some (.int m6), some (.int z_3828), none, none, none]) (st' := [.int z_3828, .ref (q0 + 3), .ref (q0 + 8), .int z_3831, .ref (q0 + 8)]) rfl ?_
            obtain ⟨v_3832, e_3832, e⟩ := Option.bind_eq_some_iff.mp e
            obtain ⟨z_3832, g_3832, p_3832⟩ := rp_aI hR (T12_3 t0) (T12_3l t0) p_3828 e_3832
            refine Rn.hp hT rfl rfl (aI_hp g_3832) ?_
            obtain ⟨v_3833, e_3833, e⟩ := Option.bind_eq_some_iff.mp e
            obtain ⟨z_3833, g_3833, p_3833⟩ := rp_aI hR (T12_8 t0) (T12_8l t0) p_3832 e_3833
            refine Rn.hp hT rfl rfl (aI_hp g_3833) ?_
            refine Rn.n hT 1 (pc' := 154) (L' := [some (.ref q0), some (.int m1), some (.int m2), some (.int m3), some (.int m4), some (.int m5), some (.int m6), some (.int z_3828), none, none, none]) (st' := [.int z_3828, .int z_3833, .int z_3831, .ref (q0 + 8)]) rfl ?_
            by_cases c_3834 : v_3833 = v_3828
            · rw [if_pos c_3834] at e
              refine Rn.bf hT rfl rfl rfl (decide_eq_false (fun z => z ((ti_e p_3833 p_3828).mpr c_3834))) ?_
              refine Rn.n hT 2 (pc' := 173) (L' := [some (.ref q0), some (.int m1), some (.int m2), some (.int m3), some (.int m4), some (.int m5), some (.int m6), some (.int z_3828), none, none, none]) (st' := [.int (-1 : Int32), .int z_3831, .ref (q0 + 8)]) rfl ?_
              exact Rn.weak (ll_s (ll_s (ll_s (ll_s (ll_s (ll_s (ll_s (ll_s (ll_n (ll_n (ll_n ll_e))))))))))) (RX12_floors_b173 hd hR t0 p1 p2 p3 p4 p5 p6 p_3828 L32_m1 p_3831 (T12_8 t0) ih hk hq e)
            · rw [if_neg c_3834] at e
              refine Rn.bt hT rfl rfl rfl (decide_eq_true (fun z => c_3834 ((ti_e p_3833 p_3828).mp z))) ?_
              refine Rn.n hT 1 (pc' := 162) (L' := [some (.ref q0), some (.int m1), some (.int m2), some (.int m3), some (.int m4), some (.int m5), some (.int m6), some (.int z_3828), none, none, none]) (st' := [.ref q0, .int z_3831, .ref (q0 + 8)]) rfl ?_
              refine Rn.hp hT rfl rfl (gR_hp (rp_gR hR (T12_o t0) rfl)) ?_
              refine Rn.n hT 1 (pc' := 166) (L' := [some (.ref q0), some (.int m1), some (.int m2), some (.int m3), some (.int m4), some (.int m5), some (.int m6), some (.int z_3828), none, none, none]) (st' := [.ref q0, .ref (q0 + 8), .int z_3831, .ref (q0 + 8)]) rfl ?_
              refine Rn.hp hT rfl rfl (gR_hp (rp_gR hR (T12_o t0) rfl)) ?_
              refine Rn.n hT 1 (pc' := 171) (L' := [some (.ref q0), some (.int m1), some (.int m2), some (.int m3), some (.int m4), some (.int m5), some (.int m6), some (.int z_3828), none, none, none]) (st' := [.int z_3828, .ref (q0 + 3), .ref (q0 + 8), .int z_3831, .ref (q0 + 8)]) rfl ?_
              obtain ⟨v_3835, e_3835, e⟩ := Option.bind_eq_some_iff.mp e
              obtain ⟨z_3835, g_3835, p_3835⟩ := rp_aI hR (T12_3 t0) (T12_3l t0) p_3828 e_3835
              refine Rn.hp hT rfl rfl (aI_hp g_3835) ?_
              obtain ⟨v_3836, e_3836, e⟩ := Option.bind_eq_some_iff.mp e
              obtain ⟨z_3836, g_3836, p_3836⟩ := rp_aI hR (T12_8 t0) (T12_8l t0) p_3835 e_3836
              refine Rn.hp hT rfl rfl (aI_hp g_3836) ?_
              exact Rn.weak (ll_s (ll_s (ll_s (ll_s (ll_s (ll_s (ll_s (ll_s (ll_n (ll_n (ll_n ll_e))))))))))) (RX12_floors_b173 hd hR t0 p1 p2 p3 p4 p5 p6 p_3828 p_3836 p_3831 (T12_8 t0) ih hk hq e)
def FX12_floors_b378 (N : Nat) (s : iv_M)  (xs0 : Int) : Option (Int × iv_M) := (some (xs0, s))
set_option maxRecDepth 10000 in
set_option maxHeartbeats 4000000 in
theorem RX12_floors_b378 {d N nc Ls : Nat} {Xs : Nat → Int32} (hd : 6 ≤ d) {h : iv_H} {s : iv_M} (hR : Rep nc Ls Xs h s)  {ms0 : Int32} {xs0 : Int} (ps0 : ms0.toInt = xs0) {r : Int × iv_M} {Q : Option Value → iv_H → Prop} (hq : ∀ (z : Int32) (h1 : iv_H), z.toInt = r.1 → Rep nc Ls Xs h1 r.2 → Q (some (.int z)) h1) (e : FX12_floors_b378 N s  xs0 = some r) : Rn d 306 (some .int) 378 [none, none, none, none, none, none, none, none, none, none, none] [.int ms0] h Q := by
  have hT := hX12_floors
  unfold FX12_floors_b378 at e
  obtain rfl := Option.some.inj e
  exact Rn.ret hT rfl rfl rfl (hq ms0 h ps0 hR)
def FX12_floors_b354 (N : Nat) (s : iv_M) (q0 : Nat) (x4 : Int) (x5 : Int)  : Option (Int × iv_M) := ((FX12_laysFloor N s q0 (q0 + 41) 0).bind fun s_3870 => (if x5 ≤ 20000 then (FX12_floors_b378 N s_3870 x4) else (FX12_floors_b378 N s_3870 (-3))))
set_option maxRecDepth 10000 in
set_option maxHeartbeats 4000000 in
theorem RX12_floors_b354 {d N nc Ls : Nat} {Xs : Nat → Int32} (hd : 6 ≤ d) {h : iv_H} {s : iv_M} (hR : Rep nc Ls Xs h s) {q0 : Nat} (t0 : T12 nc q0) {m4 : Int32} {x4 : Int} (p4 : m4.toInt = x4) {m5 : Int32} {x5 : Int} (p5 : m5.toInt = x5)  {r : Int × iv_M} {Q : Option Value → iv_H → Prop} (hq : ∀ (z : Int32) (h1 : iv_H), z.toInt = r.1 → Rep nc Ls Xs h1 r.2 → Q (some (.int z)) h1) (e : FX12_floors_b354 N s q0 x4 x5  = some r) : Rn d 306 (some .int) 354 [some (.ref q0), none, none, none, some (.int m4), some (.int m5), none, none, none, none, none] [] h Q := by
  have hT := hX12_floors
  unfold FX12_floors_b354 at e
  refine Rn.n hT 2 (pc' := 356) (L' := [some (.ref q0), none, none, none, some (.int m4), some (.int m5), none, none, none, none, none]) (st' := [.ref q0, .ref q0]) rfl ?_
  refine Rn.hp hT rfl rfl (gR_hp (rp_gR hR (T12_o t0) rfl)) ?_
  refine Rn.n hT 1 (pc' := 360) (L' := [some (.ref q0), none, none, none, some (.int m4), some (.int m5), none, none, none, none, none]) (st' := [.int (0 : Int32), .ref (q0 + 41), .ref q0]) rfl ?_
  obtain ⟨s_3870, e_3869, e⟩ := Option.bind_eq_some_iff.mp e
  refine Rn.call hT rfl rfl rfl (Nat.le_of_ble_eq_true rfl) (rcv_v gX12_laysFloor (by omega) (rp_ck hR (T12_o t0))) (RX12_laysFloor (by omega) hR t0 (T12_55 t0) L32_0 e_3869 (fun h_3870 R_3870 => ?_))
  show Rn d _ _ 363 [some (.ref q0), none, none, none, some (.int m4), some (.int m5), none, none, none, none, none] [] h_3870 Q
  refine Rn.n hT 2 (pc' := 368) (L' := [some (.ref q0), none, none, none, some (.int m4), some (.int m5), none, none, none, none, none]) (st' := [.int (20000 : Int32), .int m5]) rfl ?_
  by_cases c_3871 : x5 ≤ 20000
  · rw [if_pos c_3871] at e
    refine Rn.bt hT rfl rfl rfl (decide_eq_true ((ti_le p5 L32_20000).mpr c_3871)) ?_
    refine Rn.n hT 1 (pc' := 378) (L' := [some (.ref q0), none, none, none, some (.int m4), some (.int m5), none, none, none, none, none]) (st' := [.int m4]) rfl ?_
    exact Rn.weak (ll_n (ll_n (ll_n (ll_n (ll_n (ll_n (ll_n (ll_n (ll_n (ll_n (ll_n ll_e))))))))))) (RX12_floors_b378 hd R_3870 p4 hq e)
  · rw [if_neg c_3871] at e
    refine Rn.bf hT rfl rfl rfl (decide_eq_false (fun z => c_3871 ((ti_le p5 L32_20000).mp z))) ?_
    refine Rn.n hT 2 (pc' := 378) (L' := [some (.ref q0), none, none, none, some (.int m4), some (.int m5), none, none, none, none, none]) (st' := [.int (-3 : Int32)]) rfl ?_
    exact Rn.weak (ll_n (ll_n (ll_n (ll_n (ll_n (ll_n (ll_n (ll_n (ll_n (ll_n (ll_n ll_e))))))))))) (RX12_floors_b378 hd R_3870 L32_m3 hq e)
def FX12_floors_b90 (N : Nat) (s : iv_M) (q0 : Nat) (x1 : Int) (x2 : Int) (x3 : Int) (x5 : Int) (x6 : Int) (xs0 : Int) (xs1 : Int) : Option (Int × iv_M) := (FX12_floors_l93 N q0 x1 x2 x3 (fun (s_3823 : iv_M) (x3824_4 : Int) (x3824_5 : Int) => (FX12_floors_b354 N s_3823 q0 x3824_4 x3824_5)) N s (w32 (xs1 + xs0)) x5 x6)
set_option maxRecDepth 10000 in
set_option maxHeartbeats 4000000 in
theorem RX12_floors_b90 {d N nc Ls : Nat} {Xs : Nat → Int32} (hd : 6 ≤ d) {h : iv_H} {s : iv_M} (hR : Rep nc Ls Xs h s) {q0 : Nat} (t0 : T12 nc q0) {m1 : Int32} {x1 : Int} (p1 : m1.toInt = x1) {m2 : Int32} {x2 : Int} (p2 : m2.toInt = x2) {m3 : Int32} {x3 : Int} (p3 : m3.toInt = x3) {m5 : Int32} {x5 : Int} (p5 : m5.toInt = x5) {m6 : Int32} {x6 : Int} (p6 : m6.toInt = x6) {ms0 : Int32} {xs0 : Int} (ps0 : ms0.toInt = xs0) {ms1 : Int32} {xs1 : Int} (ps1 : ms1.toInt = xs1) {r : Int × iv_M} {Q : Option Value → iv_H → Prop} (hq : ∀ (z : Int32) (h1 : iv_H), z.toInt = r.1 → Rep nc Ls Xs h1 r.2 → Q (some (.int z)) h1) (e : FX12_floors_b90 N s q0 x1 x2 x3 x5 x6 xs0 xs1 = some r) : Rn d 306 (some .int) 90 [some (.ref q0), some (.int m1), some (.int m2), some (.int m3), none, some (.int m5), some (.int m6), none, none, none, none] [.int ms0, .int ms1] h Q := by
  have hT := hX12_floors
  unfold FX12_floors_b90 at e
  refine Rn.n hT 2 (pc' := 93) (L' := [some (.ref q0), some (.int m1), some (.int m2), some (.int m3), some (.int (ms1 + ms0)), some (.int m5), some (.int m6), none, none, none, none]) (st' := []) rfl ?_
  refine Rn.weak (ll_s (ll_s (ll_s (ll_s (ll_s (ll_s (ll_s (ll_n (ll_n (ll_n (ll_n ll_e))))))))))) (RX12_floors_l93 hd t0 p1 p2 p3 (fun h_3823 s_3823 R_3823 m3824_4 x3824_4 p3824_4 m3824_5 x3824_5 p3824_5 e => ?_) hq N h s hR (ms1 + ms0) (w32 (xs1 + xs0)) (ti_add ps1 ps0) m5 x5 p5 m6 x6 p6 e)
  try dsimp only at e
  exact Rn.weak (ll_s (ll_n (ll_n (ll_n (ll_s (ll_s (ll_n (ll_n (ll_n (ll_n (ll_n ll_e))))))))))) (RX12_floors_b354 hd R_3823 t0 p3824_4 p3824_5 hq e)
def FX12_floors_b89 (N : Nat) (s : iv_M) (q0 : Nat) (x1 : Int) (x2 : Int) (x3 : Int) (x5 : Int) (x6 : Int) (xs0 : Int) : Option (Int × iv_M) := (FX12_floors_b90 N s q0 x1 x2 x3 x5 x6 0 xs0)
set_option maxRecDepth 10000 in
set_option maxHeartbeats 4000000 in
theorem RX12_floors_b89 {d N nc Ls : Nat} {Xs : Nat → Int32} (hd : 6 ≤ d) {h : iv_H} {s : iv_M} (hR : Rep nc Ls Xs h s) {q0 : Nat} (t0 : T12 nc q0) {m1 : Int32} {x1 : Int} (p1 : m1.toInt = x1) {m2 : Int32} {x2 : Int} (p2 : m2.toInt = x2) {m3 : Int32} {x3 : Int} (p3 : m3.toInt = x3) {m5 : Int32} {x5 : Int} (p5 : m5.toInt = x5) {m6 : Int32} {x6 : Int} (p6 : m6.toInt = x6) {ms0 : Int32} {xs0 : Int} (ps0 : ms0.toInt = xs0) {r : Int × iv_M} {Q : Option Value → iv_H → Prop} (hq : ∀ (z : Int32) (h1 : iv_H), z.toInt = r.1 → Rep nc Ls Xs h1 r.2 → Q (some (.int z)) h1) (e : FX12_floors_b89 N s q0 x1 x2 x3 x5 x6 xs0 = some r) : Rn d 306 (some .int) 89 [some (.ref q0), some (.int m1), some (.int m2), some (.int m3), none, some (.int m5), some (.int m6), none, none, none, none] [.int ms0] h Q := by
  have hT := hX12_floors
  unfold FX12_floors_b89 at e
  refine Rn.n hT 1 (pc' := 90) (L' := [some (.ref q0), some (.int m1), some (.int m2), some (.int m3), none, some (.int m5), some (.int m6), none, none, none, none]) (st' := [.int (0 : Int32), .int ms0]) rfl ?_
  exact Rn.weak (ll_s (ll_s (ll_s (ll_s (ll_n (ll_s (ll_s (ll_n (ll_n (ll_n (ll_n ll_e))))))))))) (RX12_floors_b90 hd hR t0 p1 p2 p3 p5 p6 L32_0 ps0 hq e)
def FX12_floors_b55 (N : Nat) (s : iv_M) (q0 : Nat) (x1 : Int) (x2 : Int) (xs0 : Int) : Option (Int × iv_M) := ((wr s (q0 + 45) 13 0 0).bind fun s_3817 => (if x1 = 0 then ((FX12_mismatches N s_3817 q0).bind fun r_3820 => (fun (v_3820 : Int) (s_3821 : iv_M) => (if v_3820 = 0 then (FX12_floors_b90 N s_3821 q0 x1 x2 xs0 0 0 1 0) else (FX12_floors_b89 N s_3821 q0 x1 x2 xs0 0 0 0))) r_3820.1 r_3820.2) else (FX12_floors_b89 N s_3817 q0 x1 x2 xs0 0 0 0)))
set_option maxRecDepth 10000 in
set_option maxHeartbeats 4000000 in
theorem RX12_floors_b55 {d N nc Ls : Nat} {Xs : Nat → Int32} (hd : 6 ≤ d) {h : iv_H} {s : iv_M} (hR : Rep nc Ls Xs h s) {q0 : Nat} (t0 : T12 nc q0) {m1 : Int32} {x1 : Int} (p1 : m1.toInt = x1) {m2 : Int32} {x2 : Int} (p2 : m2.toInt = x2) {ms0 : Int32} {xs0 : Int} (ps0 : ms0.toInt = xs0) {r : Int × iv_M} {Q : Option Value → iv_H → Prop} (hq : ∀ (z : Int32) (h1 : iv_H), z.toInt = r.1 → Rep nc Ls Xs h1 r.2 → Q (some (.int z)) h1) (e : FX12_floors_b55 N s q0 x1 x2 xs0 = some r) : Rn d 306 (some .int) 55 [some (.ref q0), some (.int m1), some (.int m2), none, none, none, none, none, none, none, none] [.int ms0] h Q := by
  have hT := hX12_floors
  unfold FX12_floors_b55 at e
  refine Rn.n hT 8 (pc' := 66) (L' := [some (.ref q0), some (.int m1), some (.int m2), some (.int ms0), some (.int (0 : Int32)), some (.int (0 : Int32)), some (.int (0 : Int32)), none, none, none, none]) (st' := [.ref q0]) rfl ?_
  refine Rn.hp hT rfl rfl (gR_hp (rp_gR hR (T12_o t0) rfl)) ?_
  refine Rn.n hT 2 (pc' := 71) (L' := [some (.ref q0), some (.int m1), some (.int m2), some (.int ms0), some (.int (0 : Int32)), some (.int (0 : Int32)), some (.int (0 : Int32)), none, none, none, none]) (st' := [.int (0 : Int32), .int (0 : Int32), .ref (q0 + 45)]) rfl ?_
  obtain ⟨s_3817, e_3818, e⟩ := Option.bind_eq_some_iff.mp e
  obtain ⟨h_3817, g_3818, R_3817⟩ := rp_wI hR (T12_62 t0) (T12_62l t0) L32_0 L32_0 e_3818
  refine Rn.hp hT rfl rfl (wI_hp g_3818) ?_
  refine Rn.n hT 2 (pc' := 75) (L' := [some (.ref q0), some (.int m1), some (.int m2), some (.int ms0), some (.int (0 : Int32)), some (.int (0 : Int32)), some (.int (0 : Int32)), none, none, none, none]) (st' := [.int m1, .int (0 : Int32)]) rfl ?_
  by_cases c_3819 : x1 = 0
  · rw [if_pos c_3819] at e
    refine Rn.bf hT rfl rfl rfl (decide_eq_false (fun z => z ((ti_e p1 L32_0).mpr c_3819))) ?_
    refine Rn.n hT 1 (pc' := 79) (L' := [some (.ref q0), some (.int m1), some (.int m2), some (.int ms0), some (.int (0 : Int32)), some (.int (0 : Int32)), some (.int (0 : Int32)), none, none, none, none]) (st' := [.ref q0, .int (0 : Int32)]) rfl ?_
    obtain ⟨⟨v_3820, s_3821⟩, e_3820, e⟩ := Option.bind_eq_some_iff.mp e
    try dsimp only at e
    try dsimp only at e
    refine Rn.call hT rfl rfl rfl (Nat.le_of_ble_eq_true rfl) (rcv_v gX12_mismatches (by omega) (rp_ck R_3817 (T12_o t0))) (RX12_mismatches (by omega) R_3817 t0 e_3820 (fun z_3820 h_3821 p_3820 R_3821 => ?_))
    show Rn d _ _ 82 [some (.ref q0), some (.int m1), some (.int m2), some (.int ms0), some (.int (0 : Int32)), some (.int (0 : Int32)), some (.int (0 : Int32)), none, none, none, none] [.int z_3820, .int (0 : Int32)] h_3821 Q
    by_cases c_3822 : v_3820 = 0
    · rw [if_pos c_3822] at e
      refine Rn.bf hT rfl rfl rfl (decide_eq_false (fun z => z ((ti_e p_3820 L32_0).mpr c_3822))) ?_
      refine Rn.n hT 2 (pc' := 90) (L' := [some (.ref q0), some (.int m1), some (.int m2), some (.int ms0), some (.int (0 : Int32)), some (.int (0 : Int32)), some (.int (0 : Int32)), none, none, none, none]) (st' := [.int (1 : Int32), .int (0 : Int32)]) rfl ?_
      exact Rn.weak (ll_s (ll_s (ll_s (ll_s (ll_n (ll_s (ll_s (ll_n (ll_n (ll_n (ll_n ll_e))))))))))) (RX12_floors_b90 hd R_3821 t0 p1 p2 ps0 L32_0 L32_0 L32_1 L32_0 hq e)
    · rw [if_neg c_3822] at e
      refine Rn.bt hT rfl rfl rfl (decide_eq_true (fun z => c_3822 ((ti_e p_3820 L32_0).mp z))) ?_
      exact Rn.weak (ll_s (ll_s (ll_s (ll_s (ll_n (ll_s (ll_s (ll_n (ll_n (ll_n (ll_n ll_e))))))))))) (RX12_floors_b89 hd R_3821 t0 p1 p2 ps0 L32_0 L32_0 L32_0 hq e)
  · rw [if_neg c_3819] at e
    refine Rn.bt hT rfl rfl rfl (decide_eq_true (fun z => c_3819 ((ti_e p1 L32_0).mp z))) ?_
    exact Rn.weak (ll_s (ll_s (ll_s (ll_s (ll_n (ll_s (ll_s (ll_n (ll_n (ll_n (ll_n ll_e))))))))))) (RX12_floors_b89 hd R_3817 t0 p1 p2 ps0 L32_0 L32_0 L32_0 hq e)
def FX12_floors (N : Nat) (s : iv_M) (q0 : Nat) : Option (Int × iv_M) := ((FX12_isPalace N s q0).bind fun v_3806 => (if v_3806 = 0 then (some ((-1), s)) else ((FX12_fillsFloor N s q0 (q0 + 41) 0).bind fun s_3809 => ((FX12_copies N s_3809 (q0 + 4) (q0 + 46)).bind fun s_3811 => ((FX12_takesLoose N s_3811 q0).bind fun r_3812 => (fun (v_3812 : Int) (s_3813 : iv_M) => ((FX12_areFixedWell N s_3813 q0).bind fun v_3814 => ((rd s_3813 (q0 + 1) 14 4).bind fun v_3815 => (if (bAn v_3815 4) ≤ 0 then (FX12_floors_b55 N s_3813 q0 v_3812 v_3814 1) else (FX12_floors_b55 N s_3813 q0 v_3812 v_3814 4))))) r_3812.1 r_3812.2)))))
set_option maxRecDepth 10000 in
set_option maxHeartbeats 4000000 in
theorem RX12_floors {d N nc Ls : Nat} {Xs : Nat → Int32} (hd : 7 ≤ d) {h : iv_H} {s : iv_M} (hR : Rep nc Ls Xs h s) {q0 : Nat} (t0 : T12 nc q0) {r : Int × iv_M} {Q : Option Value → iv_H → Prop} (e : FX12_floors N s q0 = some r) (hq : ∀ (z : Int32) (h1 : iv_H), z.toInt = r.1 → Rep nc Ls Xs h1 r.2 → Q (some (.int z)) h1) : Cl d 306 [.ref q0] h Q := by
  obtain ⟨d, rfl⟩ : ∃ k, d = k + 1 := ⟨d - 1, by omega⟩
  have hd : 6 ≤ d := by omega
  have hT := hX12_floors
  unfold FX12_floors at e
  refine Cl.into (by decide) gX12_floors rfl ?_
  show Rn d 306 (some .int) 0 [some (.ref q0), none, none, none, none, none, none, none, none, none, none] [] h Q
  refine Rn.n hT 1 (pc' := 1) (L' := [some (.ref q0), none, none, none, none, none, none, none, none, none, none]) (st' := [.ref q0]) rfl ?_
  obtain ⟨v_3806, e_3806, e⟩ := Option.bind_eq_some_iff.mp e
  refine Rn.call hT rfl rfl rfl (Nat.le_of_ble_eq_true rfl) (rcv_v gX12_isPalace (by omega) (rp_ck hR (T12_o t0))) (RX12_isPalace (by omega) hR t0 e_3806 (fun z_3806 p_3806 => ?_))
  show Rn d _ _ 4 [some (.ref q0), none, none, none, none, none, none, none, none, none, none] [.int z_3806] h Q
  by_cases c_3807 : v_3806 = 0
  · rw [if_pos c_3807] at e
    refine Rn.bf hT rfl rfl rfl (decide_eq_false (fun z => z ((ti_e p_3806 L32_0).mpr c_3807))) ?_
    refine Rn.n hT 1 (pc' := 8) (L' := [some (.ref q0), none, none, none, none, none, none, none, none, none, none]) (st' := [.int (-1 : Int32)]) rfl ?_
    obtain rfl := Option.some.inj e
    exact Rn.ret hT rfl rfl rfl (hq (-1 : Int32) h L32_m1 hR)
  · rw [if_neg c_3807] at e
    refine Rn.bt hT rfl rfl rfl (decide_eq_true (fun z => c_3807 ((ti_e p_3806 L32_0).mp z))) ?_
    refine Rn.n hT 2 (pc' := 11) (L' := [some (.ref q0), none, none, none, none, none, none, none, none, none, none]) (st' := [.ref q0, .ref q0]) rfl ?_
    refine Rn.hp hT rfl rfl (gR_hp (rp_gR hR (T12_o t0) rfl)) ?_
    refine Rn.n hT 1 (pc' := 15) (L' := [some (.ref q0), none, none, none, none, none, none, none, none, none, none]) (st' := [.int (0 : Int32), .ref (q0 + 41), .ref q0]) rfl ?_
    obtain ⟨s_3809, e_3808, e⟩ := Option.bind_eq_some_iff.mp e
    refine Rn.call hT rfl rfl rfl (Nat.le_of_ble_eq_true rfl) (rcv_v gX12_fillsFloor (by omega) (rp_ck hR (T12_o t0))) (RX12_fillsFloor (by omega) hR t0 (T12_55 t0) L32_0 e_3808 (fun h_3809 R_3809 => ?_))
    show Rn d _ _ 18 [some (.ref q0), none, none, none, none, none, none, none, none, none, none] [] h_3809 Q
    refine Rn.n hT 1 (pc' := 19) (L' := [some (.ref q0), none, none, none, none, none, none, none, none, none, none]) (st' := [.ref q0]) rfl ?_
    refine Rn.hp hT rfl rfl (gR_hp (rp_gR R_3809 (T12_o t0) rfl)) ?_
    refine Rn.n hT 1 (pc' := 23) (L' := [some (.ref q0), none, none, none, none, none, none, none, none, none, none]) (st' := [.ref q0, .ref (q0 + 4)]) rfl ?_
    refine Rn.hp hT rfl rfl (gR_hp (rp_gR R_3809 (T12_o t0) rfl)) ?_
    obtain ⟨s_3811, e_3810, e⟩ := Option.bind_eq_some_iff.mp e
    refine Rn.call hT rfl rfl rfl (Nat.le_of_ble_eq_true rfl) rfl (RX12_copies (by omega) R_3809 (T12_4 t0) (T12_63 t0) e_3810 (fun h_3811 R_3811 => ?_))
    show Rn d _ _ 29 [some (.ref q0), none, none, none, none, none, none, none, none, none, none] [] h_3811 Q
    refine Rn.n hT 1 (pc' := 30) (L' := [some (.ref q0), none, none, none, none, none, none, none, none, none, none]) (st' := [.ref q0]) rfl ?_
    obtain ⟨⟨v_3812, s_3813⟩, e_3812, e⟩ := Option.bind_eq_some_iff.mp e
    try dsimp only at e
    try dsimp only at e
    refine Rn.call hT rfl rfl rfl (Nat.le_of_ble_eq_true rfl) (rcv_v gX12_takesLoose (by omega) (rp_ck R_3811 (T12_o t0))) (RX12_takesLoose (by omega) R_3811 t0 e_3812 (fun z_3812 h_3813 p_3812 R_3813 => ?_))
    show Rn d _ _ 33 [some (.ref q0), none, none, none, none, none, none, none, none, none, none] [.int z_3812] h_3813 Q
    refine Rn.n hT 2 (pc' := 35) (L' := [some (.ref q0), some (.int z_3812), none, none, none, none, none, none, none, none, none]) (st' := [.ref q0]) rfl ?_
    obtain ⟨v_3814, e_3814, e⟩ := Option.bind_eq_some_iff.mp e
    refine Rn.call hT rfl rfl rfl (Nat.le_of_ble_eq_true rfl) (rcv_v gX12_areFixedWell (by omega) (rp_ck R_3813 (T12_o t0))) (RX12_areFixedWell (by omega) R_3813 t0 e_3814 (fun z_3814 p_3814 => ?_))
    show Rn d _ _ 38 [some (.ref q0), some (.int z_3812), none, none, none, none, none, none, none, none, none] [.int z_3814] h_3813 Q
    refine Rn.n hT 2 (pc' := 40) (L' := [some (.ref q0), some (.int z_3812), some (.int z_3814), none, none, none, none, none, none, none, none]) (st' := [.ref q0]) rfl ?_
    refine Rn.hp hT rfl rfl (gR_hp (rp_gR R_3813 (T12_o t0) rfl)) ?_
    refine Rn.n hT 1 (pc' := 44) (L' := [some (.ref q0), some (.int z_3812), some (.int z_3814), none, none, none, none, none, none, none, none]) (st' := [.int (4 : Int32), .ref (q0 + 1)]) rfl ?_
    obtain ⟨v_3815, e_3815, e⟩ := Option.bind_eq_some_iff.mp e
    obtain ⟨z_3815, g_3815, p_3815⟩ := rp_aI R_3813 (T12_1 t0) (T12_1l t0) L32_4 e_3815
    refine Rn.hp hT rfl rfl (aI_hp g_3815) ?_
    refine Rn.n hT 2 (pc' := 47) (L' := [some (.ref q0), some (.int z_3812), some (.int z_3814), none, none, none, none, none, none, none, none]) (st' := [.int (z_3815 &&& (4 : Int32))]) rfl ?_
    by_cases c_3816 : (bAn v_3815 4) ≤ 0
    · rw [if_pos c_3816] at e
      refine Rn.bt hT rfl rfl rfl (decide_eq_true ((ti_le (ti_and p_3815 L32_4) L32_0).mpr c_3816)) ?_
      refine Rn.n hT 1 (pc' := 55) (L' := [some (.ref q0), some (.int z_3812), some (.int z_3814), none, none, none, none, none, none, none, none]) (st' := [.int (1 : Int32)]) rfl ?_
      exact Rn.weak (ll_s (ll_s (ll_s (ll_n (ll_n (ll_n (ll_n (ll_n (ll_n (ll_n (ll_n ll_e))))))))))) (RX12_floors_b55 hd R_3813 t0 p_3812 p_3814 L32_1 hq e)
    · rw [if_neg c_3816] at e
      refine Rn.bf hT rfl rfl rfl (decide_eq_false (fun z => c_3816 ((ti_le (ti_and p_3815 L32_4) L32_0).mp z))) ?_
      refine Rn.n hT 2 (pc' := 55) (L' := [some (.ref q0), some (.int z_3812), some (.int z_3814), none, none, none, none, none, none, none, none]) (st' := [.int (4 : Int32)]) rfl ?_
      exact Rn.weak (ll_s (ll_s (ll_s (ll_n (ll_n (ll_n (ll_n (ll_n (ll_n (ll_n (ll_n ll_e))))))))))) (RX12_floors_b55 hd R_3813 t0 p_3812 p_3814 L32_4 hq e)
set_option maxRecDepth 10000 in
theorem hX12_opens_ : iv_Tb 307 tX12_opens_ := iv_tb_of (m := mX12_opens_) rfl
set_option maxRecDepth 10000 in
theorem gX12_opens_ : PG.2 307 = some mX12_opens_ := iv_pi_of (t := tX12_opens_) rfl (by decide)
def FX12_opens__b21 (N : Nat) (s : iv_M)  (xs0 : Int) : Option (Int) := (if xs0 = 0 ∨ xs0 = 1 then some xs0 else none)
set_option maxRecDepth 10000 in
set_option maxHeartbeats 4000000 in
theorem RX12_opens__b21 {d N nc Ls : Nat} {Xs : Nat → Int32} (hd : 0 ≤ d) {h : iv_H} {s : iv_M} (hR : Rep nc Ls Xs h s)  {ms0 : Int32} {xs0 : Int} (ps0 : ms0.toInt = xs0) {r : Int} {Q : Option Value → iv_H → Prop} (hq : ∀ (z : Int32), z.toInt = r → Q (some (.int z)) h) (e : FX12_opens__b21 N s  xs0 = some r) : Rn d 307 (some .boolean) 21 [none, none] [.int ms0] h Q := by
  have hT := hX12_opens_
  unfold FX12_opens__b21 at e
  by_cases c_3874 : xs0 = 0 ∨ xs0 = 1
  · rw [if_pos c_3874] at e
    obtain rfl := Option.some.inj e
    exact Rn.ret hT rfl rfl (if_pos (ti_b ps0 c_3874)) (hq ms0 ps0)
  · rw [if_neg c_3874] at e
    cases e
def FX12_opens__b16 (N : Nat) (s : iv_M)   : Option (Int) := (FX12_opens__b21 N s 1)
set_option maxRecDepth 10000 in
set_option maxHeartbeats 4000000 in
theorem RX12_opens__b16 {d N nc Ls : Nat} {Xs : Nat → Int32} (hd : 0 ≤ d) {h : iv_H} {s : iv_M} (hR : Rep nc Ls Xs h s)   {r : Int} {Q : Option Value → iv_H → Prop} (hq : ∀ (z : Int32), z.toInt = r → Q (some (.int z)) h) (e : FX12_opens__b16 N s   = some r) : Rn d 307 (some .boolean) 16 [none, none] [] h Q := by
  have hT := hX12_opens_
  unfold FX12_opens__b16 at e
  refine Rn.n hT 2 (pc' := 21) (L' := [none, none]) (st' := [.int (1 : Int32)]) rfl ?_
  exact Rn.weak (ll_n (ll_n ll_e)) (RX12_opens__b21 hd hR L32_1 hq e)
def FX12_opens_ (N : Nat) (s : iv_M) (x0 : Int) (x1 : Int) : Option (Int) := (if x0 < 3 then (FX12_opens__b16 N s) else (if (bAn (sr32 x1 (w32 (x0 - 3))) 1) = 1 then (FX12_opens__b16 N s) else (FX12_opens__b21 N s 0)))
set_option maxRecDepth 10000 in
set_option maxHeartbeats 4000000 in
theorem RX12_opens_ {d N nc Ls : Nat} {Xs : Nat → Int32} (hd : 1 ≤ d) {h : iv_H} {s : iv_M} (hR : Rep nc Ls Xs h s) {m0 : Int32} {x0 : Int} (p0 : m0.toInt = x0) {m1 : Int32} {x1 : Int} (p1 : m1.toInt = x1) {r : Int} {Q : Option Value → iv_H → Prop} (e : FX12_opens_ N s x0 x1 = some r) (hq : ∀ (z : Int32), z.toInt = r → Q (some (.int z)) h) : Cl d 307 [.int m0, .int m1] h Q := by
  obtain ⟨d, rfl⟩ : ∃ k, d = k + 1 := ⟨d - 1, by omega⟩
  have hd : 0 ≤ d := by omega
  have hT := hX12_opens_
  unfold FX12_opens_ at e
  refine Cl.into (by decide) gX12_opens_ rfl ?_
  show Rn d 307 (some .boolean) 0 [some (.int m0), some (.int m1)] [] h Q
  refine Rn.n hT 2 (pc' := 2) (L' := [some (.int m0), some (.int m1)]) (st' := [.int (3 : Int32), .int m0]) rfl ?_
  by_cases c_3872 : x0 < 3
  · rw [if_pos c_3872] at e
    refine Rn.bt hT rfl rfl rfl (decide_eq_true ((ti_l p0 L32_3).mpr c_3872)) ?_
    exact Rn.weak (ll_n (ll_n ll_e)) (RX12_opens__b16 hd hR hq e)
  · rw [if_neg c_3872] at e
    refine Rn.bf hT rfl rfl rfl (decide_eq_false (fun z => c_3872 ((ti_l p0 L32_3).mp z))) ?_
    refine Rn.n hT 8 (pc' := 13) (L' := [some (.int m0), some (.int m1)]) (st' := [.int (1 : Int32), .int ((m1 >>> ((m0 - (3 : Int32)) &&& 31)) &&& (1 : Int32))]) rfl ?_
    by_cases c_3873 : (bAn (sr32 x1 (w32 (x0 - 3))) 1) = 1
    · rw [if_pos c_3873] at e
      refine Rn.bf hT rfl rfl rfl (decide_eq_false (fun z => z ((ti_e (ti_and (ti_shr p1 (ti_sub p0 L32_3)) L32_1) L32_1).mpr c_3873))) ?_
      exact Rn.weak (ll_n (ll_n ll_e)) (RX12_opens__b16 hd hR hq e)
    · rw [if_neg c_3873] at e
      refine Rn.bt hT rfl rfl rfl (decide_eq_true (fun z => c_3873 ((ti_e (ti_and (ti_shr p1 (ti_sub p0 L32_3)) L32_1) L32_1).mp z))) ?_
      refine Rn.n hT 1 (pc' := 21) (L' := [some (.int m0), some (.int m1)]) (st' := [.int (0 : Int32)]) rfl ?_
      exact Rn.weak (ll_n (ll_n ll_e)) (RX12_opens__b21 hd hR L32_0 hq e)
set_option maxRecDepth 10000 in
theorem hX12_bagAt : iv_Tb 308 tX12_bagAt := iv_tb_of (m := mX12_bagAt) rfl
set_option maxRecDepth 10000 in
theorem gX12_bagAt : PG.2 308 = some mX12_bagAt := iv_pi_of (t := tX12_bagAt) rfl (by decide)
def FX12_bagAt (N : Nat) (s : iv_M) (q0 : Nat) (x1 : Int) (x2 : Int) : Option (Int) := ((FX12_keysIn N s q0 x1).bind fun v_3875 => (some (bOr x2 (sr32 v_3875 1))))
set_option maxRecDepth 10000 in
set_option maxHeartbeats 4000000 in
theorem RX12_bagAt {d N nc Ls : Nat} {Xs : Nat → Int32} (hd : 2 ≤ d) {h : iv_H} {s : iv_M} (hR : Rep nc Ls Xs h s) {q0 : Nat} (t0 : T12 nc q0) {m1 : Int32} {x1 : Int} (p1 : m1.toInt = x1) {m2 : Int32} {x2 : Int} (p2 : m2.toInt = x2) {r : Int} {Q : Option Value → iv_H → Prop} (e : FX12_bagAt N s q0 x1 x2 = some r) (hq : ∀ (z : Int32), z.toInt = r → Q (some (.int z)) h) : Cl d 308 [.ref q0, .int m1, .int m2] h Q := by
  obtain ⟨d, rfl⟩ : ∃ k, d = k + 1 := ⟨d - 1, by omega⟩
  have hd : 1 ≤ d := by omega
  have hT := hX12_bagAt
  unfold FX12_bagAt at e
  refine Cl.into (by decide) gX12_bagAt rfl ?_
  show Rn d 308 (some .int) 0 [some (.ref q0), some (.int m1), some (.int m2)] [] h Q
  refine Rn.n hT 3 (pc' := 3) (L' := [some (.ref q0), some (.int m1), some (.int m2)]) (st' := [.int m1, .ref q0, .int m2]) rfl ?_
  obtain ⟨v_3875, e_3875, e⟩ := Option.bind_eq_some_iff.mp e
  refine Rn.call hT rfl rfl rfl (Nat.le_of_ble_eq_true rfl) (rcv_v gX12_keysIn (by omega) (rp_ck hR (T12_o t0))) (RX12_keysIn (by omega) hR t0 p1 e_3875 (fun z_3875 p_3875 => ?_))
  show Rn d _ _ 6 [some (.ref q0), some (.int m1), some (.int m2)] [.int z_3875, .int m2] h Q
  refine Rn.n hT 3 (pc' := 9) (L' := [some (.ref q0), some (.int m1), some (.int m2)]) (st' := [.int (m2 ||| (z_3875 >>> ((1 : Int32) &&& 31)))]) rfl ?_
  obtain rfl := Option.some.inj e
  exact Rn.ret hT rfl rfl rfl (hq (m2 ||| (z_3875 >>> ((1 : Int32) &&& 31))) (ti_or p2 (ti_shr p_3875 L32_1)))
set_option maxRecDepth 10000 in
theorem hX12_comesIn : iv_Tb 310 tX12_comesIn := iv_tb_of (m := mX12_comesIn) rfl
set_option maxRecDepth 10000 in
theorem gX12_comesIn : PG.2 310 = some mX12_comesIn := iv_pi_of (t := tX12_comesIn) rfl (by decide)
def FX12_comesIn_b48 (N : Nat) (s : iv_M)   : Option (iv_M) := some s
set_option maxRecDepth 10000 in
set_option maxHeartbeats 4000000 in
theorem RX12_comesIn_b48 {d N nc Ls : Nat} {Xs : Nat → Int32} (hd : 0 ≤ d) {h : iv_H} {s : iv_M} (hR : Rep nc Ls Xs h s)   {r : iv_M} {Q : Option Value → iv_H → Prop} (hq : ∀ h1, Rep nc Ls Xs h1 r → Q none h1) (e : FX12_comesIn_b48 N s   = some r) : Rn d 310 none 48 [none, none, none, none, none] [] h Q := by
  have hT := hX12_comesIn
  unfold FX12_comesIn_b48 at e
  obtain rfl := Option.some.inj e
  exact Rn.ret hT rfl rfl rfl (hq h hR)
def FX12_comesIn (N : Nat) (s : iv_M) (q0 : Nat) (x1 : Int) (x2 : Int) (x3 : Int) : Option (iv_M) := ((rd s (q0 + 47) 192 (w32 ((w32 (16 * x1)) + x2))).bind fun v_3876 => (if v_3876 = (-1) then ((wr s (q0 + 47) 192 (w32 ((w32 (16 * x1)) + x2)) x3).bind fun s_3878 => ((wr s_3878 (q0 + 48) 192 (s_3878 q0 66) (w32 ((w32 (16 * x1)) + x2))).bind fun s_3881 => ((pt s_3881 q0 66 (w32 ((s_3881 q0 66) + 1))).bind fun s_3884 => (FX12_comesIn_b48 N s_3884)))) else (FX12_comesIn_b48 N s)))
set_option maxRecDepth 10000 in
set_option maxHeartbeats 4000000 in
theorem RX12_comesIn {d N nc Ls : Nat} {Xs : Nat → Int32} (hd : 1 ≤ d) {h : iv_H} {s : iv_M} (hR : Rep nc Ls Xs h s) {q0 : Nat} (t0 : T12 nc q0) {m1 : Int32} {x1 : Int} (p1 : m1.toInt = x1) {m2 : Int32} {x2 : Int} (p2 : m2.toInt = x2) {m3 : Int32} {x3 : Int} (p3 : m3.toInt = x3) {r : iv_M} {Q : Option Value → iv_H → Prop} (e : FX12_comesIn N s q0 x1 x2 x3 = some r) (hq : ∀ h1, Rep nc Ls Xs h1 r → Q none h1) : Cl d 310 [.ref q0, .int m1, .int m2, .int m3] h Q := by
  obtain ⟨d, rfl⟩ : ∃ k, d = k + 1 := ⟨d - 1, by omega⟩
  have hd : 0 ≤ d := by omega
  have hT := hX12_comesIn
  unfold FX12_comesIn at e
  refine Cl.into (by decide) gX12_comesIn rfl ?_
  show Rn d 310 none 0 [some (.ref q0), some (.int m1), some (.int m2), some (.int m3), none] [] h Q
  refine Rn.n hT 7 (pc' := 9) (L' := [some (.ref q0), some (.int m1), some (.int m2), some (.int m3), some (.int (((16 : Int32) * m1) + m2))]) (st' := [.ref q0]) rfl ?_
  refine Rn.hp hT rfl rfl (gR_hp (rp_gR hR (T12_o t0) rfl)) ?_
  refine Rn.n hT 1 (pc' := 14) (L' := [some (.ref q0), some (.int m1), some (.int m2), some (.int m3), some (.int (((16 : Int32) * m1) + m2))]) (st' := [.int (((16 : Int32) * m1) + m2), .ref (q0 + 47)]) rfl ?_
  obtain ⟨v_3876, e_3876, e⟩ := Option.bind_eq_some_iff.mp e
  obtain ⟨z_3876, g_3876, p_3876⟩ := rp_aI hR (T12_64 t0) (T12_64l t0) (ti_add (ti_mul L32_16 p1) p2) e_3876
  refine Rn.hp hT rfl rfl (aI_hp g_3876) ?_
  refine Rn.n hT 1 (pc' := 16) (L' := [some (.ref q0), some (.int m1), some (.int m2), some (.int m3), some (.int (((16 : Int32) * m1) + m2))]) (st' := [.int (-1 : Int32), .int z_3876]) rfl ?_
  by_cases c_3877 : v_3876 = (-1)
  · rw [if_pos c_3877] at e
    refine Rn.bf hT rfl rfl rfl (decide_eq_false (fun z => z ((ti_e p_3876 L32_m1).mpr c_3877))) ?_
    refine Rn.n hT 1 (pc' := 20) (L' := [some (.ref q0), some (.int m1), some (.int m2), some (.int m3), some (.int (((16 : Int32) * m1) + m2))]) (st' := [.ref q0]) rfl ?_
    refine Rn.hp hT rfl rfl (gR_hp (rp_gR hR (T12_o t0) rfl)) ?_
    refine Rn.n hT 2 (pc' := 26) (L' := [some (.ref q0), some (.int m1), some (.int m2), some (.int m3), some (.int (((16 : Int32) * m1) + m2))]) (st' := [.int m3, .int (((16 : Int32) * m1) + m2), .ref (q0 + 47)]) rfl ?_
    obtain ⟨s_3878, e_3879, e⟩ := Option.bind_eq_some_iff.mp e
    obtain ⟨h_3878, g_3879, R_3878⟩ := rp_wI hR (T12_64 t0) (T12_64l t0) (ti_add (ti_mul L32_16 p1) p2) p3 e_3879
    refine Rn.hp hT rfl rfl (wI_hp g_3879) ?_
    refine Rn.n hT 1 (pc' := 28) (L' := [some (.ref q0), some (.int m1), some (.int m2), some (.int m3), some (.int (((16 : Int32) * m1) + m2))]) (st' := [.ref q0]) rfl ?_
    refine Rn.hp hT rfl rfl (gR_hp (rp_gR R_3878 (T12_o t0) rfl)) ?_
    refine Rn.n hT 1 (pc' := 32) (L' := [some (.ref q0), some (.int m1), some (.int m2), some (.int m3), some (.int (((16 : Int32) * m1) + m2))]) (st' := [.ref q0, .ref (q0 + 48)]) rfl ?_
    obtain ⟨z_3880, g_3880, p_3880⟩ : ∃ z : Int32, gI h_3878 12 66 q0 = some z ∧ z.toInt = s_3878 q0 66 := rp_gI (k := 66) R_3878 (T12_o t0) rfl
    refine Rn.hp hT rfl rfl (gI_hp g_3880) ?_
    refine Rn.n hT 1 (pc' := 37) (L' := [some (.ref q0), some (.int m1), some (.int m2), some (.int m3), some (.int (((16 : Int32) * m1) + m2))]) (st' := [.int (((16 : Int32) * m1) + m2), .int z_3880, .ref (q0 + 48)]) rfl ?_
    obtain ⟨s_3881, e_3882, e⟩ := Option.bind_eq_some_iff.mp e
    obtain ⟨h_3881, g_3882, R_3881⟩ := rp_wI R_3878 (T12_65 t0) (T12_65l t0) p_3880 (ti_add (ti_mul L32_16 p1) p2) e_3882
    refine Rn.hp hT rfl rfl (wI_hp g_3882) ?_
    refine Rn.n hT 2 (pc' := 40) (L' := [some (.ref q0), some (.int m1), some (.int m2), some (.int m3), some (.int (((16 : Int32) * m1) + m2))]) (st' := [.ref q0, .ref q0]) rfl ?_
    obtain ⟨z_3883, g_3883, p_3883⟩ : ∃ z : Int32, gI h_3881 12 66 q0 = some z ∧ z.toInt = s_3881 q0 66 := rp_gI (k := 66) R_3881 (T12_o t0) rfl
    refine Rn.hp hT rfl rfl (gI_hp g_3883) ?_
    refine Rn.n hT 2 (pc' := 45) (L' := [some (.ref q0), some (.int m1), some (.int m2), some (.int m3), some (.int (((16 : Int32) * m1) + m2))]) (st' := [.int (z_3883 + (1 : Int32)), .ref q0]) rfl ?_
    obtain ⟨s_3884, e_3885, e⟩ := Option.bind_eq_some_iff.mp e
    obtain ⟨h_3884, g_3885, R_3884⟩ := rp_pI (ci := 12) (k := 66) R_3881 (T12_o t0) rfl rfl (ti_add p_3883 L32_1) e_3885
    refine Rn.hp hT rfl rfl (pV_hp rfl g_3885) ?_
    exact Rn.weak (ll_n (ll_n (ll_n (ll_n (ll_n ll_e))))) (RX12_comesIn_b48 hd R_3884 hq e)
  · rw [if_neg c_3877] at e
    refine Rn.bt hT rfl rfl rfl (decide_eq_true (fun z => c_3877 ((ti_e p_3876 L32_m1).mp z))) ?_
    exact Rn.weak (ll_n (ll_n (ll_n (ll_n (ll_n ll_e))))) (RX12_comesIn_b48 hd hR hq e)
