-- FLAT MIRRORS, 11 (written by wip/whole/mir2.py)
set_option maxRecDepth 10000 in
theorem hX12_goesByDay : iv_Tb 309 tX12_goesByDay := iv_tb_of (m := mX12_goesByDay) rfl
set_option maxRecDepth 10000 in
theorem gX12_goesByDay : PG.2 309 = some mX12_goesByDay := iv_pi_of (t := tX12_goesByDay) rfl (by decide)
def FX12_goesByDay_l2 (N : Nat) (q0 : Nat) (x1 : Int) (kx : iv_M → Option (iv_M)) : Nat → iv_M → Int → Option (iv_M)
  | 0, _, _ => none
  | n + 1, s, x2 => (if 192 ≤ x2 then (kx s) else ((wr s (q0 + 47) 192 x2 (-1)).bind fun s_3894 => (FX12_goesByDay_l2 N q0 x1 kx n s_3894 (w32 (x2 + 1)))))
set_option maxRecDepth 10000 in
set_option maxHeartbeats 4000000 in
theorem RX12_goesByDay_l2 {d N nc Ls : Nat} {Xs : Nat → Int32} (hd : 5 ≤ d) {q0 : Nat} (t0 : T12 nc q0) {m1 : Int32} {x1 : Int} (p1 : m1.toInt = x1) {kx : iv_M → Option (iv_M)} {r : iv_M} {Q : Option Value → iv_H → Prop} (hk : ∀ (h : iv_H) (s : iv_M) (hR : Rep nc Ls Xs h s), kx s = some r → Rn d 309 none 24 [some (.ref q0), some (.int m1), none, none, none, none, none] [] h Q) (hq : ∀ h1, Rep nc Ls Xs h1 r → Q none h1) : ∀ (n : Nat) (h : iv_H) (s : iv_M) (hR : Rep nc Ls Xs h s) (m2 : Int32) (x2 : Int) (p2 : m2.toInt = x2), FX12_goesByDay_l2 N q0 x1 kx n s x2 = some r → Rn d 309 none 2 [some (.ref q0), some (.int m1), some (.int m2), none, none, none, none] [] h Q := by
  have hT := hX12_goesByDay
  intro n
  induction n with
  | zero =>
    intro h s hR m2 x2 p2 e
    rw [FX12_goesByDay_l2] at e
    cases e
  | succ n ih =>
    intro h s hR m2 x2 p2 e
    rw [FX12_goesByDay_l2] at e
    refine Rn.n hT 2 (pc' := 4) (L' := [some (.ref q0), some (.int m1), some (.int m2), none, none, none, none]) (st' := [.ref q0, .int m2]) rfl ?_
    refine Rn.hp hT rfl rfl (gR_hp (rp_gR hR (T12_o t0) rfl)) ?_
    obtain ⟨z_3892, g_3892, p_3892⟩ : ∃ z : Int32, aL h (q0 + 47) = some z ∧ z.toInt = 192 := rp_aL hR (T12_64 t0) (Or.inl rfl) (T12_64l t0)
    refine Rn.hp hT rfl rfl (aL_hp g_3892) ?_
    by_cases c_3893 : 192 ≤ x2
    · rw [if_pos c_3893] at e
      refine Rn.bt hT rfl rfl rfl (decide_eq_true ((ti_le p_3892 p2).mpr c_3893)) ?_
      exact Rn.weak (ll_s (ll_s (ll_n (ll_n (ll_n (ll_n (ll_n ll_e))))))) (hk h s hR e)
    · rw [if_neg c_3893] at e
      refine Rn.bf hT rfl rfl rfl (decide_eq_false (fun z => c_3893 ((ti_le p_3892 p2).mp z))) ?_
      refine Rn.n hT 1 (pc' := 12) (L' := [some (.ref q0), some (.int m1), some (.int m2), none, none, none, none]) (st' := [.ref q0]) rfl ?_
      refine Rn.hp hT rfl rfl (gR_hp (rp_gR hR (T12_o t0) rfl)) ?_
      refine Rn.n hT 2 (pc' := 17) (L' := [some (.ref q0), some (.int m1), some (.int m2), none, none, none, none]) (st' := [.int (-1 : Int32), .int m2, .ref (q0 + 47)]) rfl ?_
      obtain ⟨s_3894, e_3895, e⟩ := Option.bind_eq_some_iff.mp e
      obtain ⟨h_3894, g_3895, R_3894⟩ := rp_wI hR (T12_64 t0) (T12_64l t0) p2 L32_m1 e_3895
      refine Rn.hp hT rfl rfl (wI_hp g_3895) ?_
      refine Rn.n hT 2 (pc' := 2) (L' := [some (.ref q0), some (.int m1), some (.int (m2 + (1 : Int32))), none, none, none, none]) (st' := []) rfl ?_
      exact Rn.weak (ll_s (ll_s (ll_s (ll_n (ll_n (ll_n (ll_n ll_e))))))) (ih h_3894 s_3894 R_3894 (m2 + (1 : Int32)) (w32 (x2 + 1)) (ti_add p2 L32_1) e)
def FX12_goesByDay_b162 (N : Nat) (s : iv_M) (q0 : Nat) (x2 : Int) (x3 : Int) (x4 : Int) (x5 : Int)  (kb : iv_M → Int → Option (iv_M)) (kx : iv_M → Option (iv_M)) : Option (iv_M) := (kb s (w32 (x5 + 1)))
set_option maxRecDepth 10000 in
set_option maxHeartbeats 4000000 in
theorem RX12_goesByDay_b162 {d N nc Ls : Nat} {Xs : Nat → Int32} (hd : 5 ≤ d) {h : iv_H} {s : iv_M} (hR : Rep nc Ls Xs h s) {q0 : Nat} (t0 : T12 nc q0) {m2 : Int32} {x2 : Int} (p2 : m2.toInt = x2) {m3 : Int32} {x3 : Int} (p3 : m3.toInt = x3) {m4 : Int32} {x4 : Int} (p4 : m4.toInt = x4) {m5 : Int32} {x5 : Int} (p5 : m5.toInt = x5)  {kb : iv_M → Int → Option (iv_M)} {kx : iv_M → Option (iv_M)} {r : iv_M} {Q : Option Value → iv_H → Prop} (hb : ∀ (h : iv_H) (s : iv_M) (hR : Rep nc Ls Xs h s) (mw5 : Int32) (xw5 : Int) (pw5 : mw5.toInt = xw5), kb s xw5 = some r → Rn d 309 none 75 [some (.ref q0), none, some (.int m2), some (.int m3), some (.int m4), some (.int mw5), none] [] h Q) (hk : ∀ (h : iv_H) (s : iv_M) (hR : Rep nc Ls Xs h s), kx s = some r → Rn d 309 none 168 [some (.ref q0), none, some (.int m2), none, none, none, none] [] h Q) (hq : ∀ h1, Rep nc Ls Xs h1 r → Q none h1) (e : FX12_goesByDay_b162 N s q0 x2 x3 x4 x5  kb kx = some r) : Rn d 309 none 162 [some (.ref q0), none, some (.int m2), some (.int m3), some (.int m4), some (.int m5), none] [] h Q := by
  have hT := hX12_goesByDay
  unfold FX12_goesByDay_b162 at e
  refine Rn.n hT 2 (pc' := 75) (L' := [some (.ref q0), none, some (.int m2), some (.int m3), some (.int m4), some (.int (m5 + (1 : Int32))), none]) (st' := []) rfl ?_
  exact Rn.weak (ll_s (ll_n (ll_s (ll_s (ll_s (ll_s (ll_n ll_e))))))) (hb h s hR (m5 + (1 : Int32)) (w32 (x5 + 1)) (ti_add p5 L32_1) e)
def FX12_goesByDay_l75 (N : Nat) (q0 : Nat) (x2 : Int) (x3 : Int) (x4 : Int) (kx : iv_M → Option (iv_M)) : Nat → iv_M → Int → Option (iv_M)
  | 0, _, _ => none
  | n + 1, s, x5 => (if 4 ≤ x5 then (kx s) else ((FX12_faced N s q0 x3 x5).bind fun v_3903 => ((FX12_isDoorToDoor N s q0 x3 x5).bind fun v_3904 => (if v_3904 = 0 then (FX12_goesByDay_b162 N s q0 x2 x3 x4 x5 (FX12_goesByDay_l75 N q0 x2 x3 x4 kx n) kx) else ((FX12_sideOf N s q0 x3 x5).bind fun v_3906 => ((FX12_opens_ N s v_3906 x4).bind fun v_3907 => (if v_3907 = 0 then (FX12_goesByDay_b162 N s q0 x2 x3 x4 x5 (FX12_goesByDay_l75 N q0 x2 x3 x4 kx n) kx) else ((FX12_sideOf N s q0 v_3903 (bAn (w32 (x5 + 2)) 3)).bind fun v_3909 => ((FX12_opens_ N s v_3909 x4).bind fun v_3910 => (if v_3910 = 0 then (FX12_goesByDay_b162 N s q0 x2 x3 x4 x5 (FX12_goesByDay_l75 N q0 x2 x3 x4 kx n) kx) else ((FX12_bagAt N s q0 v_3903 x4).bind fun v_3912 => ((rd s (q0 + 48) 192 x2).bind fun v_3913 => ((rd s (q0 + 47) 192 v_3913).bind fun v_3914 => ((FX12_comesIn N s q0 v_3903 v_3912 (w32 (v_3914 + 1))).bind fun s_3916 => (FX12_goesByDay_b162 N s_3916 q0 x2 x3 x4 x5 (FX12_goesByDay_l75 N q0 x2 x3 x4 kx n) kx)))))))))))))))
set_option maxRecDepth 10000 in
set_option maxHeartbeats 4000000 in
theorem RX12_goesByDay_l75 {d N nc Ls : Nat} {Xs : Nat → Int32} (hd : 5 ≤ d) {q0 : Nat} (t0 : T12 nc q0) {m2 : Int32} {x2 : Int} (p2 : m2.toInt = x2) {m3 : Int32} {x3 : Int} (p3 : m3.toInt = x3) {m4 : Int32} {x4 : Int} (p4 : m4.toInt = x4) {kx : iv_M → Option (iv_M)} {r : iv_M} {Q : Option Value → iv_H → Prop} (hk : ∀ (h : iv_H) (s : iv_M) (hR : Rep nc Ls Xs h s), kx s = some r → Rn d 309 none 168 [some (.ref q0), none, some (.int m2), none, none, none, none] [] h Q) (hq : ∀ h1, Rep nc Ls Xs h1 r → Q none h1) : ∀ (n : Nat) (h : iv_H) (s : iv_M) (hR : Rep nc Ls Xs h s) (m5 : Int32) (x5 : Int) (p5 : m5.toInt = x5), FX12_goesByDay_l75 N q0 x2 x3 x4 kx n s x5 = some r → Rn d 309 none 75 [some (.ref q0), none, some (.int m2), some (.int m3), some (.int m4), some (.int m5), none] [] h Q := by
  have hT := hX12_goesByDay
  intro n
  induction n with
  | zero =>
    intro h s hR m5 x5 p5 e
    rw [FX12_goesByDay_l75] at e
    cases e
  | succ n ih =>
    intro h s hR m5 x5 p5 e
    rw [FX12_goesByDay_l75] at e
    refine Rn.n hT 2 (pc' := 78) (L' := [some (.ref q0), none, some (.int m2), some (.int m3), some (.int m4), some (.int m5), none]) (st' := [.int (4 : Int32), .int m5]) rfl ?_
    by_cases c_3902 : 4 ≤ x5
    · rw [if_pos c_3902] at e
      refine Rn.bt hT rfl rfl rfl (decide_eq_true ((ti_le L32_4 p5).mpr c_3902)) ?_
      exact Rn.weak (ll_s (ll_n (ll_s (ll_n (ll_n (ll_n (ll_n ll_e))))))) (hk h s hR e)
    · rw [if_neg c_3902] at e
      refine Rn.bf hT rfl rfl rfl (decide_eq_false (fun z => c_3902 ((ti_le L32_4 p5).mp z))) ?_
      refine Rn.n hT 3 (pc' := 85) (L' := [some (.ref q0), none, some (.int m2), some (.int m3), some (.int m4), some (.int m5), none]) (st' := [.int m5, .int m3, .ref q0]) rfl ?_
      obtain ⟨v_3903, e_3903, e⟩ := Option.bind_eq_some_iff.mp e
      refine Rn.call hT rfl rfl rfl (Nat.le_of_ble_eq_true rfl) (rcv_v gX12_faced (by omega) (rp_ck hR (T12_o t0))) (RX12_faced (by omega) hR t0 p3 p5 e_3903 (fun z_3903 p_3903 => ?_))
      show Rn d _ _ 88 [some (.ref q0), none, some (.int m2), some (.int m3), some (.int m4), some (.int m5), none] [.int z_3903] h Q
      refine Rn.n hT 4 (pc' := 94) (L' := [some (.ref q0), none, some (.int m2), some (.int m3), some (.int m4), some (.int m5), some (.int z_3903)]) (st' := [.int m5, .int m3, .ref q0]) rfl ?_
      obtain ⟨v_3904, e_3904, e⟩ := Option.bind_eq_some_iff.mp e
      refine Rn.call hT rfl rfl rfl (Nat.le_of_ble_eq_true rfl) (rcv_v gX12_isDoorToDoor (by omega) (rp_ck hR (T12_o t0))) (RX12_isDoorToDoor (by omega) hR t0 p3 p5 e_3904 (fun z_3904 p_3904 => ?_))
      show Rn d _ _ 97 [some (.ref q0), none, some (.int m2), some (.int m3), some (.int m4), some (.int m5), some (.int z_3903)] [.int z_3904] h Q
      by_cases c_3905 : v_3904 = 0
      · rw [if_pos c_3905] at e
        refine Rn.bt hT rfl rfl rfl (decide_eq_true ((ti_e p_3904 L32_0).mpr c_3905)) ?_
        exact Rn.weak (ll_s (ll_n (ll_s (ll_s (ll_s (ll_s (ll_n ll_e))))))) (RX12_goesByDay_b162 hd hR t0 p2 p3 p4 p5 ih hk hq e)
      · rw [if_neg c_3905] at e
        refine Rn.bf hT rfl rfl rfl (decide_eq_false (fun z => c_3905 ((ti_e p_3904 L32_0).mp z))) ?_
        refine Rn.n hT 3 (pc' := 104) (L' := [some (.ref q0), none, some (.int m2), some (.int m3), some (.int m4), some (.int m5), some (.int z_3903)]) (st' := [.int m5, .int m3, .ref q0]) rfl ?_
        obtain ⟨v_3906, e_3906, e⟩ := Option.bind_eq_some_iff.mp e
        refine Rn.call hT rfl rfl rfl (Nat.le_of_ble_eq_true rfl) (rcv_v gX12_sideOf (by omega) (rp_ck hR (T12_o t0))) (RX12_sideOf (by omega) hR t0 p3 p5 e_3906 (fun z_3906 p_3906 => ?_))
        show Rn d _ _ 107 [some (.ref q0), none, some (.int m2), some (.int m3), some (.int m4), some (.int m5), some (.int z_3903)] [.int z_3906] h Q
        refine Rn.n hT 1 (pc' := 109) (L' := [some (.ref q0), none, some (.int m2), some (.int m3), some (.int m4), some (.int m5), some (.int z_3903)]) (st' := [.int m4, .int z_3906]) rfl ?_
        obtain ⟨v_3907, e_3907, e⟩ := Option.bind_eq_some_iff.mp e
        refine Rn.call hT rfl rfl rfl (Nat.le_of_ble_eq_true rfl) rfl (RX12_opens_ (by omega) hR p_3906 p4 e_3907 (fun z_3907 p_3907 => ?_))
        show Rn d _ _ 112 [some (.ref q0), none, some (.int m2), some (.int m3), some (.int m4), some (.int m5), some (.int z_3903)] [.int z_3907] h Q
        by_cases c_3908 : v_3907 = 0
        · rw [if_pos c_3908] at e
          refine Rn.bt hT rfl rfl rfl (decide_eq_true ((ti_e p_3907 L32_0).mpr c_3908)) ?_
          exact Rn.weak (ll_s (ll_n (ll_s (ll_s (ll_s (ll_s (ll_n ll_e))))))) (RX12_goesByDay_b162 hd hR t0 p2 p3 p4 p5 ih hk hq e)
        · rw [if_neg c_3908] at e
          refine Rn.bf hT rfl rfl rfl (decide_eq_false (fun z => c_3908 ((ti_e p_3907 L32_0).mp z))) ?_
          refine Rn.n hT 7 (pc' := 124) (L' := [some (.ref q0), none, some (.int m2), some (.int m3), some (.int m4), some (.int m5), some (.int z_3903)]) (st' := [.int ((m5 + (2 : Int32)) &&& (3 : Int32)), .int z_3903, .ref q0]) rfl ?_
          obtain ⟨v_3909, e_3909, e⟩ := Option.bind_eq_some_iff.mp e
          refine Rn.call hT rfl rfl rfl (Nat.le_of_ble_eq_true rfl) (rcv_v gX12_sideOf (by omega) (rp_ck hR (T12_o t0))) (RX12_sideOf (by omega) hR t0 p_3903 (ti_and (ti_add p5 L32_2) L32_3) e_3909 (fun z_3909 p_3909 => ?_))
          show Rn d _ _ 127 [some (.ref q0), none, some (.int m2), some (.int m3), some (.int m4), some (.int m5), some (.int z_3903)] [.int z_3909] h Q
          refine Rn.n hT 1 (pc' := 129) (L' := [some (.ref q0), none, some (.int m2), some (.int m3), some (.int m4), some (.int m5), some (.int z_3903)]) (st' := [.int m4, .int z_3909]) rfl ?_
          obtain ⟨v_3910, e_3910, e⟩ := Option.bind_eq_some_iff.mp e
          refine Rn.call hT rfl rfl rfl (Nat.le_of_ble_eq_true rfl) rfl (RX12_opens_ (by omega) hR p_3909 p4 e_3910 (fun z_3910 p_3910 => ?_))
          show Rn d _ _ 132 [some (.ref q0), none, some (.int m2), some (.int m3), some (.int m4), some (.int m5), some (.int z_3903)] [.int z_3910] h Q
          by_cases c_3911 : v_3910 = 0
          · rw [if_pos c_3911] at e
            refine Rn.bt hT rfl rfl rfl (decide_eq_true ((ti_e p_3910 L32_0).mpr c_3911)) ?_
            exact Rn.weak (ll_s (ll_n (ll_s (ll_s (ll_s (ll_s (ll_n ll_e))))))) (RX12_goesByDay_b162 hd hR t0 p2 p3 p4 p5 ih hk hq e)
          · rw [if_neg c_3911] at e
            refine Rn.bf hT rfl rfl rfl (decide_eq_false (fun z => c_3911 ((ti_e p_3910 L32_0).mp z))) ?_
            refine Rn.n hT 5 (pc' := 143) (L' := [some (.ref q0), none, some (.int m2), some (.int m3), some (.int m4), some (.int m5), some (.int z_3903)]) (st' := [.int m4, .int z_3903, .ref q0, .int z_3903, .ref q0]) rfl ?_
            obtain ⟨v_3912, e_3912, e⟩ := Option.bind_eq_some_iff.mp e
            refine Rn.call hT rfl rfl rfl (Nat.le_of_ble_eq_true rfl) (rcv_v gX12_bagAt (by omega) (rp_ck hR (T12_o t0))) (RX12_bagAt (by omega) hR t0 p_3903 p4 e_3912 (fun z_3912 p_3912 => ?_))
            show Rn d _ _ 146 [some (.ref q0), none, some (.int m2), some (.int m3), some (.int m4), some (.int m5), some (.int z_3903)] [.int z_3912, .int z_3903, .ref q0] h Q
            refine Rn.n hT 1 (pc' := 147) (L' := [some (.ref q0), none, some (.int m2), some (.int m3), some (.int m4), some (.int m5), some (.int z_3903)]) (st' := [.ref q0, .int z_3912, .int z_3903, .ref q0]) rfl ?_
            refine Rn.hp hT rfl rfl (gR_hp (rp_gR hR (T12_o t0) rfl)) ?_
            refine Rn.n hT 1 (pc' := 151) (L' := [some (.ref q0), none, some (.int m2), some (.int m3), some (.int m4), some (.int m5), some (.int z_3903)]) (st' := [.ref q0, .ref (q0 + 47), .int z_3912, .int z_3903, .ref q0]) rfl ?_
            refine Rn.hp hT rfl rfl (gR_hp (rp_gR hR (T12_o t0) rfl)) ?_
            refine Rn.n hT 1 (pc' := 155) (L' := [some (.ref q0), none, some (.int m2), some (.int m3), some (.int m4), some (.int m5), some (.int z_3903)]) (st' := [.int m2, .ref (q0 + 48), .ref (q0 + 47), .int z_3912, .int z_3903, .ref q0]) rfl ?_
            obtain ⟨v_3913, e_3913, e⟩ := Option.bind_eq_some_iff.mp e
            obtain ⟨z_3913, g_3913, p_3913⟩ := rp_aI hR (T12_65 t0) (T12_65l t0) p2 e_3913
            refine Rn.hp hT rfl rfl (aI_hp g_3913) ?_
            obtain ⟨v_3914, e_3914, e⟩ := Option.bind_eq_some_iff.mp e
            obtain ⟨z_3914, g_3914, p_3914⟩ := rp_aI hR (T12_64 t0) (T12_64l t0) p_3913 e_3914
            refine Rn.hp hT rfl rfl (aI_hp g_3914) ?_
            refine Rn.n hT 2 (pc' := 159) (L' := [some (.ref q0), none, some (.int m2), some (.int m3), some (.int m4), some (.int m5), some (.int z_3903)]) (st' := [.int (z_3914 + (1 : Int32)), .int z_3912, .int z_3903, .ref q0]) rfl ?_
            obtain ⟨s_3916, e_3915, e⟩ := Option.bind_eq_some_iff.mp e
            refine Rn.call hT rfl rfl rfl (Nat.le_of_ble_eq_true rfl) (rcv_v gX12_comesIn (by omega) (rp_ck hR (T12_o t0))) (RX12_comesIn (by omega) hR t0 p_3903 p_3912 (ti_add p_3914 L32_1) e_3915 (fun h_3916 R_3916 => ?_))
            show Rn d _ _ 162 [some (.ref q0), none, some (.int m2), some (.int m3), some (.int m4), some (.int m5), some (.int z_3903)] [] h_3916 Q
            exact Rn.weak (ll_s (ll_n (ll_s (ll_s (ll_s (ll_s (ll_n ll_e))))))) (RX12_goesByDay_b162 hd R_3916 t0 p2 p3 p4 p5 ih hk hq e)
def FX12_goesByDay_l43 (N : Nat) (q0 : Nat) (kx : iv_M → Option (iv_M)) : Nat → iv_M → Int → Option (iv_M)
  | 0, _, _ => none
  | n + 1, s, x2 => (if (s q0 66) ≤ x2 then (kx s) else ((rd s (q0 + 48) 192 x2).bind fun v_3898 => ((rd s (q0 + 48) 192 x2).bind fun v_3899 => (FX12_goesByDay_l75 N q0 x2 (dv32 v_3898 16) (Int.tmod v_3899 16) (fun (s_3900 : iv_M) => (FX12_goesByDay_l43 N q0 kx n s_3900 (w32 (x2 + 1)))) N s 0))))
set_option maxRecDepth 10000 in
set_option maxHeartbeats 4000000 in
theorem RX12_goesByDay_l43 {d N nc Ls : Nat} {Xs : Nat → Int32} (hd : 5 ≤ d) {q0 : Nat} (t0 : T12 nc q0) {kx : iv_M → Option (iv_M)} {r : iv_M} {Q : Option Value → iv_H → Prop} (hk : ∀ (h : iv_H) (s : iv_M) (hR : Rep nc Ls Xs h s), kx s = some r → Rn d 309 none 174 [none, none, none, none, none, none, none] [] h Q) (hq : ∀ h1, Rep nc Ls Xs h1 r → Q none h1) : ∀ (n : Nat) (h : iv_H) (s : iv_M) (hR : Rep nc Ls Xs h s) (m2 : Int32) (x2 : Int) (p2 : m2.toInt = x2), FX12_goesByDay_l43 N q0 kx n s x2 = some r → Rn d 309 none 43 [some (.ref q0), none, some (.int m2), none, none, none, none] [] h Q := by
  have hT := hX12_goesByDay
  intro n
  induction n with
  | zero =>
    intro h s hR m2 x2 p2 e
    rw [FX12_goesByDay_l43] at e
    cases e
  | succ n ih =>
    intro h s hR m2 x2 p2 e
    rw [FX12_goesByDay_l43] at e
    refine Rn.n hT 2 (pc' := 45) (L' := [some (.ref q0), none, some (.int m2), none, none, none, none]) (st' := [.ref q0, .int m2]) rfl ?_
    obtain ⟨z_3896, g_3896, p_3896⟩ : ∃ z : Int32, gI h 12 66 q0 = some z ∧ z.toInt = s q0 66 := rp_gI (k := 66) hR (T12_o t0) rfl
    refine Rn.hp hT rfl rfl (gI_hp g_3896) ?_
    by_cases c_3897 : (s q0 66) ≤ x2
    · rw [if_pos c_3897] at e
      refine Rn.bt hT rfl rfl rfl (decide_eq_true ((ti_le p_3896 p2).mpr c_3897)) ?_
      exact Rn.weak (ll_n (ll_n (ll_n (ll_n (ll_n (ll_n (ll_n ll_e))))))) (hk h s hR e)
    · rw [if_neg c_3897] at e
      refine Rn.bf hT rfl rfl rfl (decide_eq_false (fun z => c_3897 ((ti_le p_3896 p2).mp z))) ?_
      refine Rn.n hT 1 (pc' := 52) (L' := [some (.ref q0), none, some (.int m2), none, none, none, none]) (st' := [.ref q0]) rfl ?_
      refine Rn.hp hT rfl rfl (gR_hp (rp_gR hR (T12_o t0) rfl)) ?_
      refine Rn.n hT 1 (pc' := 56) (L' := [some (.ref q0), none, some (.int m2), none, none, none, none]) (st' := [.int m2, .ref (q0 + 48)]) rfl ?_
      obtain ⟨v_3898, e_3898, e⟩ := Option.bind_eq_some_iff.mp e
      obtain ⟨z_3898, g_3898, p_3898⟩ := rp_aI hR (T12_65 t0) (T12_65l t0) p2 e_3898
      refine Rn.hp hT rfl rfl (aI_hp g_3898) ?_
      refine Rn.n hT 4 (pc' := 62) (L' := [some (.ref q0), none, some (.int m2), some (.int (z_3898 / (16 : Int32))), none, none, none]) (st' := [.ref q0]) rfl ?_
      refine Rn.hp hT rfl rfl (gR_hp (rp_gR hR (T12_o t0) rfl)) ?_
      refine Rn.n hT 1 (pc' := 66) (L' := [some (.ref q0), none, some (.int m2), some (.int (z_3898 / (16 : Int32))), none, none, none]) (st' := [.int m2, .ref (q0 + 48)]) rfl ?_
      obtain ⟨v_3899, e_3899, e⟩ := Option.bind_eq_some_iff.mp e
      obtain ⟨z_3899, g_3899, p_3899⟩ := rp_aI hR (T12_65 t0) (T12_65l t0) p2 e_3899
      refine Rn.hp hT rfl rfl (aI_hp g_3899) ?_
      refine Rn.n hT 5 (pc' := 75) (L' := [some (.ref q0), none, some (.int m2), some (.int (z_3898 / (16 : Int32))), some (.int (z_3899 - z_3899 / (16 : Int32) * (16 : Int32))), some (.int (0 : Int32)), none]) (st' := []) rfl ?_
      refine Rn.weak (ll_s (ll_n (ll_s (ll_s (ll_s (ll_s (ll_n ll_e))))))) (RX12_goesByDay_l75 hd t0 p2 (ti_div p_3898 L32_16) (ti_rem p_3899 L32_16) (fun h_3900 s_3900 R_3900 e => ?_) hq N h s hR (0 : Int32) 0 L32_0 e)
      try dsimp only at e
      refine Rn.n hT 2 (pc' := 43) (L' := [some (.ref q0), none, some (.int (m2 + (1 : Int32))), none, none, none, none]) (st' := []) rfl ?_
      exact Rn.weak (ll_s (ll_n (ll_s (ll_n (ll_n (ll_n (ll_n ll_e))))))) (ih h_3900 s_3900 R_3900 (m2 + (1 : Int32)) (w32 (x2 + 1)) (ti_add p2 L32_1) e)
def FX12_goesByDay (N : Nat) (s : iv_M) (q0 : Nat) (x1 : Int) : Option (iv_M) := (FX12_goesByDay_l2 N q0 x1 (fun (s_3883 : iv_M) => ((pt s_3883 q0 66 0).bind fun s_3885 => ((FX12_bagAt N s_3885 q0 x1 0).bind fun v_3887 => ((FX12_comesIn N s_3885 q0 x1 v_3887 0).bind fun s_3889 => (FX12_goesByDay_l43 N q0 (fun (s_3890 : iv_M) => some s_3890) N s_3889 0))))) N s 0)
set_option maxRecDepth 10000 in
set_option maxHeartbeats 4000000 in
theorem RX12_goesByDay {d N nc Ls : Nat} {Xs : Nat → Int32} (hd : 6 ≤ d) {h : iv_H} {s : iv_M} (hR : Rep nc Ls Xs h s) {q0 : Nat} (t0 : T12 nc q0) {m1 : Int32} {x1 : Int} (p1 : m1.toInt = x1) {r : iv_M} {Q : Option Value → iv_H → Prop} (e : FX12_goesByDay N s q0 x1 = some r) (hq : ∀ h1, Rep nc Ls Xs h1 r → Q none h1) : Cl d 309 [.ref q0, .int m1] h Q := by
  obtain ⟨d, rfl⟩ : ∃ k, d = k + 1 := ⟨d - 1, by omega⟩
  have hd : 5 ≤ d := by omega
  have hT := hX12_goesByDay
  unfold FX12_goesByDay at e
  refine Cl.into (by decide) gX12_goesByDay rfl ?_
  show Rn d 309 none 0 [some (.ref q0), some (.int m1), none, none, none, none, none] [] h Q
  refine Rn.n hT 2 (pc' := 2) (L' := [some (.ref q0), some (.int m1), some (.int (0 : Int32)), none, none, none, none]) (st' := []) rfl ?_
  refine Rn.weak (ll_s (ll_s (ll_s (ll_n (ll_n (ll_n (ll_n ll_e))))))) (RX12_goesByDay_l2 hd t0 p1 (fun h_3883 s_3883 R_3883 e => ?_) hq N h s hR (0 : Int32) 0 L32_0 e)
  try dsimp only at e
  refine Rn.n hT 2 (pc' := 26) (L' := [some (.ref q0), some (.int m1), none, none, none, none, none]) (st' := [.int (0 : Int32), .ref q0]) rfl ?_
  obtain ⟨s_3885, e_3886, e⟩ := Option.bind_eq_some_iff.mp e
  obtain ⟨h_3885, g_3886, R_3885⟩ := rp_pI (ci := 12) (k := 66) R_3883 (T12_o t0) rfl rfl L32_0 e_3886
  refine Rn.hp hT rfl rfl (pV_hp rfl g_3886) ?_
  refine Rn.n hT 5 (pc' := 34) (L' := [some (.ref q0), some (.int m1), none, none, none, none, none]) (st' := [.int (0 : Int32), .int m1, .ref q0, .int m1, .ref q0]) rfl ?_
  obtain ⟨v_3887, e_3887, e⟩ := Option.bind_eq_some_iff.mp e
  refine Rn.call hT rfl rfl rfl (Nat.le_of_ble_eq_true rfl) (rcv_v gX12_bagAt (by omega) (rp_ck R_3885 (T12_o t0))) (RX12_bagAt (by omega) R_3885 t0 p1 L32_0 e_3887 (fun z_3887 p_3887 => ?_))
  show Rn d _ _ 37 [some (.ref q0), some (.int m1), none, none, none, none, none] [.int z_3887, .int m1, .ref q0] h_3885 Q
  refine Rn.n hT 1 (pc' := 38) (L' := [some (.ref q0), some (.int m1), none, none, none, none, none]) (st' := [.int (0 : Int32), .int z_3887, .int m1, .ref q0]) rfl ?_
  obtain ⟨s_3889, e_3888, e⟩ := Option.bind_eq_some_iff.mp e
  refine Rn.call hT rfl rfl rfl (Nat.le_of_ble_eq_true rfl) (rcv_v gX12_comesIn (by omega) (rp_ck R_3885 (T12_o t0))) (RX12_comesIn (by omega) R_3885 t0 p1 p_3887 L32_0 e_3888 (fun h_3889 R_3889 => ?_))
  show Rn d _ _ 41 [some (.ref q0), some (.int m1), none, none, none, none, none] [] h_3889 Q
  refine Rn.n hT 2 (pc' := 43) (L' := [some (.ref q0), some (.int m1), some (.int (0 : Int32)), none, none, none, none]) (st' := []) rfl ?_
  refine Rn.weak (ll_s (ll_n (ll_s (ll_n (ll_n (ll_n (ll_n ll_e))))))) (RX12_goesByDay_l43 hd t0 (fun h_3890 s_3890 R_3890 e => ?_) hq N h_3889 s_3889 R_3889 (0 : Int32) 0 L32_0 e)
  try dsimp only at e
  obtain rfl := Option.some.inj e
  exact Rn.ret hT rfl rfl rfl (hq h_3890 R_3890)
set_option maxRecDepth 10000 in
theorem hX12_steps : iv_Tb 311 tX12_steps := iv_tb_of (m := mX12_steps) rfl
set_option maxRecDepth 10000 in
theorem gX12_steps : PG.2 311 = some mX12_steps := iv_pi_of (t := tX12_steps) rfl (by decide)
def FX12_steps_b16 (N : Nat) (s : iv_M)   : Option (Int × iv_M) := (some ((-1), s))
set_option maxRecDepth 10000 in
set_option maxHeartbeats 4000000 in
theorem RX12_steps_b16 {d N nc Ls : Nat} {Xs : Nat → Int32} (hd : 6 ≤ d) {h : iv_H} {s : iv_M} (hR : Rep nc Ls Xs h s)   {r : Int × iv_M} {Q : Option Value → iv_H → Prop} (hq : ∀ (z : Int32) (h1 : iv_H), z.toInt = r.1 → Rep nc Ls Xs h1 r.2 → Q (some (.int z)) h1) (e : FX12_steps_b16 N s   = some r) : Rn d 311 (some .int) 16 [none, none, none, none] [] h Q := by
  have hT := hX12_steps
  unfold FX12_steps_b16 at e
  refine Rn.n hT 1 (pc' := 17) (L' := [none, none, none, none]) (st' := [.int (-1 : Int32)]) rfl ?_
  obtain rfl := Option.some.inj e
  exact Rn.ret hT rfl rfl rfl (hq (-1 : Int32) h L32_m1 hR)
def FX12_steps_l25 (N : Nat) (q0 : Nat) (x2 : Int) (kx : iv_M → Option (Int × iv_M)) : Nat → iv_M → Int → Option (Int × iv_M)
  | 0, _, _ => none
  | n + 1, s, x3 => (if (s q0 66) ≤ x3 then (kx s) else ((rd s (q0 + 48) 192 x3).bind fun v_3927 => (if (dv32 v_3927 16) = x2 then ((rd s (q0 + 48) 192 x3).bind fun v_3929 => ((rd s (q0 + 47) 192 v_3929).bind fun v_3930 => (some (v_3930, s)))) else (FX12_steps_l25 N q0 x2 kx n s (w32 (x3 + 1))))))
set_option maxRecDepth 10000 in
set_option maxHeartbeats 4000000 in
theorem RX12_steps_l25 {d N nc Ls : Nat} {Xs : Nat → Int32} (hd : 6 ≤ d) {q0 : Nat} (t0 : T12 nc q0) {m2 : Int32} {x2 : Int} (p2 : m2.toInt = x2) {kx : iv_M → Option (Int × iv_M)} {r : Int × iv_M} {Q : Option Value → iv_H → Prop} (hk : ∀ (h : iv_H) (s : iv_M) (hR : Rep nc Ls Xs h s), kx s = some r → Rn d 311 (some .int) 64 [none, none, none, none] [] h Q) (hq : ∀ (z : Int32) (h1 : iv_H), z.toInt = r.1 → Rep nc Ls Xs h1 r.2 → Q (some (.int z)) h1) : ∀ (n : Nat) (h : iv_H) (s : iv_M) (hR : Rep nc Ls Xs h s) (m3 : Int32) (x3 : Int) (p3 : m3.toInt = x3), FX12_steps_l25 N q0 x2 kx n s x3 = some r → Rn d 311 (some .int) 25 [some (.ref q0), none, some (.int m2), some (.int m3)] [] h Q := by
  have hT := hX12_steps
  intro n
  induction n with
  | zero =>
    intro h s hR m3 x3 p3 e
    rw [FX12_steps_l25] at e
    cases e
  | succ n ih =>
    intro h s hR m3 x3 p3 e
    rw [FX12_steps_l25] at e
    refine Rn.n hT 2 (pc' := 27) (L' := [some (.ref q0), none, some (.int m2), some (.int m3)]) (st' := [.ref q0, .int m3]) rfl ?_
    obtain ⟨z_3925, g_3925, p_3925⟩ : ∃ z : Int32, gI h 12 66 q0 = some z ∧ z.toInt = s q0 66 := rp_gI (k := 66) hR (T12_o t0) rfl
    refine Rn.hp hT rfl rfl (gI_hp g_3925) ?_
    by_cases c_3926 : (s q0 66) ≤ x3
    · rw [if_pos c_3926] at e
      refine Rn.bt hT rfl rfl rfl (decide_eq_true ((ti_le p_3925 p3).mpr c_3926)) ?_
      exact Rn.weak (ll_n (ll_n (ll_n (ll_n ll_e)))) (hk h s hR e)
    · rw [if_neg c_3926] at e
      refine Rn.bf hT rfl rfl rfl (decide_eq_false (fun z => c_3926 ((ti_le p_3925 p3).mp z))) ?_
      refine Rn.n hT 1 (pc' := 34) (L' := [some (.ref q0), none, some (.int m2), some (.int m3)]) (st' := [.ref q0]) rfl ?_
      refine Rn.hp hT rfl rfl (gR_hp (rp_gR hR (T12_o t0) rfl)) ?_
      refine Rn.n hT 1 (pc' := 38) (L' := [some (.ref q0), none, some (.int m2), some (.int m3)]) (st' := [.int m3, .ref (q0 + 48)]) rfl ?_
      obtain ⟨v_3927, e_3927, e⟩ := Option.bind_eq_some_iff.mp e
      obtain ⟨z_3927, g_3927, p_3927⟩ := rp_aI hR (T12_65 t0) (T12_65l t0) p3 e_3927
      refine Rn.hp hT rfl rfl (aI_hp g_3927) ?_
      refine Rn.n hT 3 (pc' := 43) (L' := [some (.ref q0), none, some (.int m2), some (.int m3)]) (st' := [.int m2, .int (z_3927 / (16 : Int32))]) rfl ?_
      by_cases c_3928 : (dv32 v_3927 16) = x2
      · rw [if_pos c_3928] at e
        refine Rn.bf hT rfl rfl rfl (decide_eq_false (fun z => z ((ti_e (ti_div p_3927 L32_16) p2).mpr c_3928))) ?_
        refine Rn.n hT 1 (pc' := 47) (L' := [some (.ref q0), none, some (.int m2), some (.int m3)]) (st' := [.ref q0]) rfl ?_
        refine Rn.hp hT rfl rfl (gR_hp (rp_gR hR (T12_o t0) rfl)) ?_
        refine Rn.n hT 1 (pc' := 51) (L' := [some (.ref q0), none, some (.int m2), some (.int m3)]) (st' := [.ref q0, .ref (q0 + 47)]) rfl ?_
        refine Rn.hp hT rfl rfl (gR_hp (rp_gR hR (T12_o t0) rfl)) ?_
        refine Rn.n hT 1 (pc' := 55) (L' := [some (.ref q0), none, some (.int m2), some (.int m3)]) (st' := [.int m3, .ref (q0 + 48), .ref (q0 + 47)]) rfl ?_
        obtain ⟨v_3929, e_3929, e⟩ := Option.bind_eq_some_iff.mp e
        obtain ⟨z_3929, g_3929, p_3929⟩ := rp_aI hR (T12_65 t0) (T12_65l t0) p3 e_3929
        refine Rn.hp hT rfl rfl (aI_hp g_3929) ?_
        obtain ⟨v_3930, e_3930, e⟩ := Option.bind_eq_some_iff.mp e
        obtain ⟨z_3930, g_3930, p_3930⟩ := rp_aI hR (T12_64 t0) (T12_64l t0) p_3929 e_3930
        refine Rn.hp hT rfl rfl (aI_hp g_3930) ?_
        obtain rfl := Option.some.inj e
        exact Rn.ret hT rfl rfl rfl (hq z_3930 h p_3930 hR)
      · rw [if_neg c_3928] at e
        refine Rn.bt hT rfl rfl rfl (decide_eq_true (fun z => c_3928 ((ti_e (ti_div p_3927 L32_16) p2).mp z))) ?_
        refine Rn.n hT 2 (pc' := 25) (L' := [some (.ref q0), none, some (.int m2), some (.int (m3 + (1 : Int32)))]) (st' := []) rfl ?_
        exact Rn.weak (ll_s (ll_n (ll_s (ll_s ll_e)))) (ih h s hR (m3 + (1 : Int32)) (w32 (x3 + 1)) (ti_add p3 L32_1) e)
def FX12_steps (N : Nat) (s : iv_M) (q0 : Nat) (x1 : Int) (x2 : Int) : Option (Int × iv_M) := ((FX12_isRoom N s q0 x1).bind fun v_3917 => (if v_3917 = 0 then (FX12_steps_b16 N s) else ((FX12_isRoom N s q0 x2).bind fun v_3919 => (if v_3919 = 0 then (FX12_steps_b16 N s) else ((FX12_goesByDay N s q0 x1).bind fun s_3922 => (FX12_steps_l25 N q0 x2 (fun (s_3923 : iv_M) => (some ((-2), s_3923))) N s_3922 0))))))
set_option maxRecDepth 10000 in
set_option maxHeartbeats 4000000 in
theorem RX12_steps {d N nc Ls : Nat} {Xs : Nat → Int32} (hd : 7 ≤ d) {h : iv_H} {s : iv_M} (hR : Rep nc Ls Xs h s) {q0 : Nat} (t0 : T12 nc q0) {m1 : Int32} {x1 : Int} (p1 : m1.toInt = x1) {m2 : Int32} {x2 : Int} (p2 : m2.toInt = x2) {r : Int × iv_M} {Q : Option Value → iv_H → Prop} (e : FX12_steps N s q0 x1 x2 = some r) (hq : ∀ (z : Int32) (h1 : iv_H), z.toInt = r.1 → Rep nc Ls Xs h1 r.2 → Q (some (.int z)) h1) : Cl d 311 [.ref q0, .int m1, .int m2] h Q := by
  obtain ⟨d, rfl⟩ : ∃ k, d = k + 1 := ⟨d - 1, by omega⟩
  have hd : 6 ≤ d := by omega
  have hT := hX12_steps
  unfold FX12_steps at e
  refine Cl.into (by decide) gX12_steps rfl ?_
  show Rn d 311 (some .int) 0 [some (.ref q0), some (.int m1), some (.int m2), none] [] h Q
  refine Rn.n hT 2 (pc' := 2) (L' := [some (.ref q0), some (.int m1), some (.int m2), none]) (st' := [.int m1, .ref q0]) rfl ?_
  obtain ⟨v_3917, e_3917, e⟩ := Option.bind_eq_some_iff.mp e
  refine Rn.call hT rfl rfl rfl (Nat.le_of_ble_eq_true rfl) (rcv_v gX12_isRoom (by omega) (rp_ck hR (T12_o t0))) (RX12_isRoom (by omega) hR t0 p1 e_3917 (fun z_3917 p_3917 => ?_))
  show Rn d _ _ 5 [some (.ref q0), some (.int m1), some (.int m2), none] [.int z_3917] h Q
  by_cases c_3918 : v_3917 = 0
  · rw [if_pos c_3918] at e
    refine Rn.bt hT rfl rfl rfl (decide_eq_true ((ti_e p_3917 L32_0).mpr c_3918)) ?_
    exact Rn.weak (ll_n (ll_n (ll_n (ll_n ll_e)))) (RX12_steps_b16 hd hR hq e)
  · rw [if_neg c_3918] at e
    refine Rn.bf hT rfl rfl rfl (decide_eq_false (fun z => c_3918 ((ti_e p_3917 L32_0).mp z))) ?_
    refine Rn.n hT 2 (pc' := 10) (L' := [some (.ref q0), some (.int m1), some (.int m2), none]) (st' := [.int m2, .ref q0]) rfl ?_
    obtain ⟨v_3919, e_3919, e⟩ := Option.bind_eq_some_iff.mp e
    refine Rn.call hT rfl rfl rfl (Nat.le_of_ble_eq_true rfl) (rcv_v gX12_isRoom (by omega) (rp_ck hR (T12_o t0))) (RX12_isRoom (by omega) hR t0 p2 e_3919 (fun z_3919 p_3919 => ?_))
    show Rn d _ _ 13 [some (.ref q0), some (.int m1), some (.int m2), none] [.int z_3919] h Q
    by_cases c_3920 : v_3919 = 0
    · rw [if_pos c_3920] at e
      refine Rn.bf hT rfl rfl rfl (decide_eq_false (fun z => z ((ti_e p_3919 L32_0).mpr c_3920))) ?_
      exact Rn.weak (ll_n (ll_n (ll_n (ll_n ll_e)))) (RX12_steps_b16 hd hR hq e)
    · rw [if_neg c_3920] at e
      refine Rn.bt hT rfl rfl rfl (decide_eq_true (fun z => c_3920 ((ti_e p_3919 L32_0).mp z))) ?_
      refine Rn.n hT 2 (pc' := 20) (L' := [some (.ref q0), some (.int m1), some (.int m2), none]) (st' := [.int m1, .ref q0]) rfl ?_
      obtain ⟨s_3922, e_3921, e⟩ := Option.bind_eq_some_iff.mp e
      refine Rn.call hT rfl rfl rfl (Nat.le_of_ble_eq_true rfl) (rcv_v gX12_goesByDay (by omega) (rp_ck hR (T12_o t0))) (RX12_goesByDay (by omega) hR t0 p1 e_3921 (fun h_3922 R_3922 => ?_))
      show Rn d _ _ 23 [some (.ref q0), some (.int m1), some (.int m2), none] [] h_3922 Q
      refine Rn.n hT 2 (pc' := 25) (L' := [some (.ref q0), some (.int m1), some (.int m2), some (.int (0 : Int32))]) (st' := []) rfl ?_
      refine Rn.weak (ll_s (ll_n (ll_s (ll_s ll_e)))) (RX12_steps_l25 hd t0 p2 (fun h_3923 s_3923 R_3923 e => ?_) hq N h_3922 s_3922 R_3922 (0 : Int32) 0 L32_0 e)
      try dsimp only at e
      refine Rn.n hT 1 (pc' := 66) (L' := [none, none, none, none]) (st' := [.int (-2 : Int32)]) rfl ?_
      obtain rfl := Option.some.inj e
      exact Rn.ret hT rfl rfl rfl (hq (-2 : Int32) h_3923 L32_m2 R_3923)
set_option maxRecDepth 10000 in
theorem hX12_reach : iv_Tb 312 tX12_reach := iv_tb_of (m := mX12_reach) rfl
set_option maxRecDepth 10000 in
theorem gX12_reach : PG.2 312 = some mX12_reach := iv_pi_of (t := tX12_reach) rfl (by decide)
def FX12_reach_b18 (N : Nat) (s : iv_M)   : Option (Int × iv_M) := (some ((-1), s))
set_option maxRecDepth 10000 in
set_option maxHeartbeats 4000000 in
theorem RX12_reach_b18 {d N nc Ls : Nat} {Xs : Nat → Int32} (hd : 6 ≤ d) {h : iv_H} {s : iv_M} (hR : Rep nc Ls Xs h s)   {r : Int × iv_M} {Q : Option Value → iv_H → Prop} (hq : ∀ (z : Int32) (h1 : iv_H), z.toInt = r.1 → Rep nc Ls Xs h1 r.2 → Q (some (.int z)) h1) (e : FX12_reach_b18 N s   = some r) : Rn d 312 (some .int) 18 [none, none, none, none, none, none] [] h Q := by
  have hT := hX12_reach
  unfold FX12_reach_b18 at e
  refine Rn.n hT 1 (pc' := 19) (L' := [none, none, none, none, none, none]) (st' := [.int (-1 : Int32)]) rfl ?_
  obtain rfl := Option.some.inj e
  exact Rn.ret hT rfl rfl rfl (hq (-1 : Int32) h L32_m1 hR)
def FX12_reach_l33 (N : Nat) (q0 : Nat) (x2 : Int) (kx : iv_M → Int → Int → Option (Int × iv_M)) : Nat → iv_M → Int → Int → Int → Option (Int × iv_M)
  | 0, _, _, _, _ => none
  | n + 1, s, x3, x4, x5 => (if (s q0 66) ≤ x5 then (kx s x3 x4) else ((rd s (q0 + 48) 192 x5).bind fun v_3942 => ((rd s (q0 + 48) 192 x5).bind fun v_3943 => (FX12_reach_l33 N q0 x2 kx n s (bOr x3 (sl32 1 (dv32 v_3942 16))) (bOr x4 (sl32 (Int.tmod v_3943 16) 1)) (w32 (x5 + 1))))))
set_option maxRecDepth 10000 in
set_option maxHeartbeats 4000000 in
theorem RX12_reach_l33 {d N nc Ls : Nat} {Xs : Nat → Int32} (hd : 6 ≤ d) {q0 : Nat} (t0 : T12 nc q0) {m2 : Int32} {x2 : Int} (p2 : m2.toInt = x2) {kx : iv_M → Int → Int → Option (Int × iv_M)} {r : Int × iv_M} {Q : Option Value → iv_H → Prop} (hk : ∀ (h : iv_H) (s : iv_M) (hR : Rep nc Ls Xs h s) (m3 : Int32) (x3 : Int) (p3 : m3.toInt = x3) (m4 : Int32) (x4 : Int) (p4 : m4.toInt = x4), kx s x3 x4 = some r → Rn d 312 (some .int) 80 [none, none, some (.int m2), some (.int m3), some (.int m4), none] [] h Q) (hq : ∀ (z : Int32) (h1 : iv_H), z.toInt = r.1 → Rep nc Ls Xs h1 r.2 → Q (some (.int z)) h1) : ∀ (n : Nat) (h : iv_H) (s : iv_M) (hR : Rep nc Ls Xs h s) (m3 : Int32) (x3 : Int) (p3 : m3.toInt = x3) (m4 : Int32) (x4 : Int) (p4 : m4.toInt = x4) (m5 : Int32) (x5 : Int) (p5 : m5.toInt = x5), FX12_reach_l33 N q0 x2 kx n s x3 x4 x5 = some r → Rn d 312 (some .int) 33 [some (.ref q0), none, some (.int m2), some (.int m3), some (.int m4), some (.int m5)] [] h Q := by
  have hT := hX12_reach
  intro n
  induction n with
  | zero =>
    intro h s hR m3 x3 p3 m4 x4 p4 m5 x5 p5 e
    rw [FX12_reach_l33] at e
    cases e
  | succ n ih =>
    intro h s hR m3 x3 p3 m4 x4 p4 m5 x5 p5 e
    rw [FX12_reach_l33] at e
    refine Rn.n hT 2 (pc' := 36) (L' := [some (.ref q0), none, some (.int m2), some (.int m3), some (.int m4), some (.int m5)]) (st' := [.ref q0, .int m5]) rfl ?_
    obtain ⟨z_3940, g_3940, p_3940⟩ : ∃ z : Int32, gI h 12 66 q0 = some z ∧ z.toInt = s q0 66 := rp_gI (k := 66) hR (T12_o t0) rfl
    refine Rn.hp hT rfl rfl (gI_hp g_3940) ?_
    by_cases c_3941 : (s q0 66) ≤ x5
    · rw [if_pos c_3941] at e
      refine Rn.bt hT rfl rfl rfl (decide_eq_true ((ti_le p_3940 p5).mpr c_3941)) ?_
      exact Rn.weak (ll_n (ll_n (ll_s (ll_s (ll_s (ll_n ll_e)))))) (hk h s hR m3 x3 p3 m4 x4 p4 e)
    · rw [if_neg c_3941] at e
      refine Rn.bf hT rfl rfl rfl (decide_eq_false (fun z => c_3941 ((ti_le p_3940 p5).mp z))) ?_
      refine Rn.n hT 3 (pc' := 45) (L' := [some (.ref q0), none, some (.int m2), some (.int m3), some (.int m4), some (.int m5)]) (st' := [.ref q0, .int (1 : Int32), .int m3]) rfl ?_
      refine Rn.hp hT rfl rfl (gR_hp (rp_gR hR (T12_o t0) rfl)) ?_
      refine Rn.n hT 1 (pc' := 50) (L' := [some (.ref q0), none, some (.int m2), some (.int m3), some (.int m4), some (.int m5)]) (st' := [.int m5, .ref (q0 + 48), .int (1 : Int32), .int m3]) rfl ?_
      obtain ⟨v_3942, e_3942, e⟩ := Option.bind_eq_some_iff.mp e
      obtain ⟨z_3942, g_3942, p_3942⟩ := rp_aI hR (T12_65 t0) (T12_65l t0) p5 e_3942
      refine Rn.hp hT rfl rfl (aI_hp g_3942) ?_
      refine Rn.n hT 7 (pc' := 60) (L' := [some (.ref q0), none, some (.int m2), some (.int (m3 ||| ((1 : Int32) <<< ((z_3942 / (16 : Int32)) &&& 31)))), some (.int m4), some (.int m5)]) (st' := [.ref q0, .int m4]) rfl ?_
      refine Rn.hp hT rfl rfl (gR_hp (rp_gR hR (T12_o t0) rfl)) ?_
      refine Rn.n hT 1 (pc' := 65) (L' := [some (.ref q0), none, some (.int m2), some (.int (m3 ||| ((1 : Int32) <<< ((z_3942 / (16 : Int32)) &&& 31)))), some (.int m4), some (.int m5)]) (st' := [.int m5, .ref (q0 + 48), .int m4]) rfl ?_
      obtain ⟨v_3943, e_3943, e⟩ := Option.bind_eq_some_iff.mp e
      obtain ⟨z_3943, g_3943, p_3943⟩ := rp_aI hR (T12_65 t0) (T12_65l t0) p5 e_3943
      refine Rn.hp hT rfl rfl (aI_hp g_3943) ?_
      refine Rn.n hT 8 (pc' := 33) (L' := [some (.ref q0), none, some (.int m2), some (.int (m3 ||| ((1 : Int32) <<< ((z_3942 / (16 : Int32)) &&& 31)))), some (.int (m4 ||| ((z_3943 - z_3943 / (16 : Int32) * (16 : Int32)) <<< ((1 : Int32) &&& 31)))), some (.int (m5 + (1 : Int32)))]) (st' := []) rfl ?_
      exact Rn.weak (ll_s (ll_n (ll_s (ll_s (ll_s (ll_s ll_e)))))) (ih h s hR (m3 ||| ((1 : Int32) <<< ((z_3942 / (16 : Int32)) &&& 31))) (bOr x3 (sl32 1 (dv32 v_3942 16))) (ti_or p3 (ti_shl L32_1 (ti_div p_3942 L32_16))) (m4 ||| ((z_3943 - z_3943 / (16 : Int32) * (16 : Int32)) <<< ((1 : Int32) &&& 31))) (bOr x4 (sl32 (Int.tmod v_3943 16) 1)) (ti_or p4 (ti_shl (ti_rem p_3943 L32_16) L32_1)) (m5 + (1 : Int32)) (w32 (x5 + 1)) (ti_add p5 L32_1) e)
def FX12_reach_b90 (N : Nat) (s : iv_M)  (xs0 : Int) : Option (Int × iv_M) := (some (xs0, s))
set_option maxRecDepth 10000 in
set_option maxHeartbeats 4000000 in
theorem RX12_reach_b90 {d N nc Ls : Nat} {Xs : Nat → Int32} (hd : 6 ≤ d) {h : iv_H} {s : iv_M} (hR : Rep nc Ls Xs h s)  {ms0 : Int32} {xs0 : Int} (ps0 : ms0.toInt = xs0) {r : Int × iv_M} {Q : Option Value → iv_H → Prop} (hq : ∀ (z : Int32) (h1 : iv_H), z.toInt = r.1 → Rep nc Ls Xs h1 r.2 → Q (some (.int z)) h1) (e : FX12_reach_b90 N s  xs0 = some r) : Rn d 312 (some .int) 90 [none, none, none, none, none, none] [.int ms0] h Q := by
  have hT := hX12_reach
  unfold FX12_reach_b90 at e
  obtain rfl := Option.some.inj e
  exact Rn.ret hT rfl rfl rfl (hq ms0 h ps0 hR)
def FX12_reach (N : Nat) (s : iv_M) (q0 : Nat) (x1 : Int) (x2 : Int) : Option (Int × iv_M) := ((FX12_isRoom N s q0 x1).bind fun v_3931 => (if v_3931 = 0 then (FX12_reach_b18 N s) else ((FX12_in N s x2 0 1).bind fun v_3933 => (if v_3933 = 0 then (FX12_reach_b18 N s) else ((FX12_goesByDay N s q0 x1).bind fun s_3936 => (FX12_reach_l33 N q0 x2 (fun (s_3937 : iv_M) (x3938_3 : Int) (x3938_4 : Int) => (if x2 = 0 then (FX12_reach_b90 N s_3937 x3938_3) else (FX12_reach_b90 N s_3937 x3938_4))) N s_3936 0 0 0))))))
set_option maxRecDepth 10000 in
set_option maxHeartbeats 4000000 in
theorem RX12_reach {d N nc Ls : Nat} {Xs : Nat → Int32} (hd : 7 ≤ d) {h : iv_H} {s : iv_M} (hR : Rep nc Ls Xs h s) {q0 : Nat} (t0 : T12 nc q0) {m1 : Int32} {x1 : Int} (p1 : m1.toInt = x1) {m2 : Int32} {x2 : Int} (p2 : m2.toInt = x2) {r : Int × iv_M} {Q : Option Value → iv_H → Prop} (e : FX12_reach N s q0 x1 x2 = some r) (hq : ∀ (z : Int32) (h1 : iv_H), z.toInt = r.1 → Rep nc Ls Xs h1 r.2 → Q (some (.int z)) h1) : Cl d 312 [.ref q0, .int m1, .int m2] h Q := by
  obtain ⟨d, rfl⟩ : ∃ k, d = k + 1 := ⟨d - 1, by omega⟩
  have hd : 6 ≤ d := by omega
  have hT := hX12_reach
  unfold FX12_reach at e
  refine Cl.into (by decide) gX12_reach rfl ?_
  show Rn d 312 (some .int) 0 [some (.ref q0), some (.int m1), some (.int m2), none, none, none] [] h Q
  refine Rn.n hT 2 (pc' := 2) (L' := [some (.ref q0), some (.int m1), some (.int m2), none, none, none]) (st' := [.int m1, .ref q0]) rfl ?_
  obtain ⟨v_3931, e_3931, e⟩ := Option.bind_eq_some_iff.mp e
  refine Rn.call hT rfl rfl rfl (Nat.le_of_ble_eq_true rfl) (rcv_v gX12_isRoom (by omega) (rp_ck hR (T12_o t0))) (RX12_isRoom (by omega) hR t0 p1 e_3931 (fun z_3931 p_3931 => ?_))
  show Rn d _ _ 5 [some (.ref q0), some (.int m1), some (.int m2), none, none, none] [.int z_3931] h Q
  by_cases c_3932 : v_3931 = 0
  · rw [if_pos c_3932] at e
    refine Rn.bt hT rfl rfl rfl (decide_eq_true ((ti_e p_3931 L32_0).mpr c_3932)) ?_
    exact Rn.weak (ll_n (ll_n (ll_n (ll_n (ll_n (ll_n ll_e)))))) (RX12_reach_b18 hd hR hq e)
  · rw [if_neg c_3932] at e
    refine Rn.bf hT rfl rfl rfl (decide_eq_false (fun z => c_3932 ((ti_e p_3931 L32_0).mp z))) ?_
    refine Rn.n hT 4 (pc' := 12) (L' := [some (.ref q0), some (.int m1), some (.int m2), none, none, none]) (st' := [.long (1 : Int64), .long (0 : Int64), .long ((m2).toInt64)]) rfl ?_
    obtain ⟨v_3933, e_3933, e⟩ := Option.bind_eq_some_iff.mp e
    refine Rn.call hT rfl rfl rfl (Nat.le_of_ble_eq_true rfl) rfl (RX12_in (by omega) hR (ti_j p2) L64_0 L64_1 e_3933 (fun z_3933 p_3933 => ?_))
    show Rn d _ _ 15 [some (.ref q0), some (.int m1), some (.int m2), none, none, none] [.int z_3933] h Q
    by_cases c_3934 : v_3933 = 0
    · rw [if_pos c_3934] at e
      refine Rn.bf hT rfl rfl rfl (decide_eq_false (fun z => z ((ti_e p_3933 L32_0).mpr c_3934))) ?_
      exact Rn.weak (ll_n (ll_n (ll_n (ll_n (ll_n (ll_n ll_e)))))) (RX12_reach_b18 hd hR hq e)
    · rw [if_neg c_3934] at e
      refine Rn.bt hT rfl rfl rfl (decide_eq_true (fun z => c_3934 ((ti_e p_3933 L32_0).mp z))) ?_
      refine Rn.n hT 2 (pc' := 22) (L' := [some (.ref q0), some (.int m1), some (.int m2), none, none, none]) (st' := [.int m1, .ref q0]) rfl ?_
      obtain ⟨s_3936, e_3935, e⟩ := Option.bind_eq_some_iff.mp e
      refine Rn.call hT rfl rfl rfl (Nat.le_of_ble_eq_true rfl) (rcv_v gX12_goesByDay (by omega) (rp_ck hR (T12_o t0))) (RX12_goesByDay (by omega) hR t0 p1 e_3935 (fun h_3936 R_3936 => ?_))
      show Rn d _ _ 25 [some (.ref q0), some (.int m1), some (.int m2), none, none, none] [] h_3936 Q
      refine Rn.n hT 6 (pc' := 33) (L' := [some (.ref q0), some (.int m1), some (.int m2), some (.int (0 : Int32)), some (.int (0 : Int32)), some (.int (0 : Int32))]) (st' := []) rfl ?_
      refine Rn.weak (ll_s (ll_n (ll_s (ll_s (ll_s (ll_s ll_e)))))) (RX12_reach_l33 hd t0 p2 (fun h_3937 s_3937 R_3937 m3938_3 x3938_3 p3938_3 m3938_4 x3938_4 p3938_4 e => ?_) hq N h_3936 s_3936 R_3936 (0 : Int32) 0 L32_0 (0 : Int32) 0 L32_0 (0 : Int32) 0 L32_0 e)
      try dsimp only at e
      refine Rn.n hT 1 (pc' := 81) (L' := [none, none, some (.int m2), some (.int m3938_3), some (.int m3938_4), none]) (st' := [.int m2]) rfl ?_
      by_cases c_3939 : x2 = 0
      · rw [if_pos c_3939] at e
        refine Rn.bf hT rfl rfl rfl (decide_eq_false (fun z => z ((ti_e p2 L32_0).mpr c_3939))) ?_
        refine Rn.n hT 2 (pc' := 90) (L' := [none, none, some (.int m2), some (.int m3938_3), some (.int m3938_4), none]) (st' := [.int m3938_3]) rfl ?_
        exact Rn.weak (ll_n (ll_n (ll_n (ll_n (ll_n (ll_n ll_e)))))) (RX12_reach_b90 hd R_3937 p3938_3 hq e)
      · rw [if_neg c_3939] at e
        refine Rn.bt hT rfl rfl rfl (decide_eq_true (fun z => c_3939 ((ti_e p2 L32_0).mp z))) ?_
        refine Rn.n hT 1 (pc' := 90) (L' := [none, none, some (.int m2), some (.int m3938_3), some (.int m3938_4), none]) (st' := [.int m3938_4]) rfl ?_
        exact Rn.weak (ll_n (ll_n (ll_n (ll_n (ll_n (ll_n ll_e)))))) (RX12_reach_b90 hd R_3937 p3938_4 hq e)
set_option maxRecDepth 10000 in
theorem hX12_gossip : iv_Tb 313 tX12_gossip := iv_tb_of (m := mX12_gossip) rfl
set_option maxRecDepth 10000 in
theorem gX12_gossip : PG.2 313 = some mX12_gossip := iv_pi_of (t := tX12_gossip) rfl (by decide)
def FX12_gossip_b20 (N : Nat) (s : iv_M)   : Option (Int) := (some (-1))
set_option maxRecDepth 10000 in
set_option maxHeartbeats 4000000 in
theorem RX12_gossip_b20 {d N nc Ls : Nat} {Xs : Nat → Int32} (hd : 5 ≤ d) {h : iv_H} {s : iv_M} (hR : Rep nc Ls Xs h s)   {r : Int} {Q : Option Value → iv_H → Prop} (hq : ∀ (z : Int32), z.toInt = r → Q (some (.int z)) h) (e : FX12_gossip_b20 N s   = some r) : Rn d 313 (some .int) 20 [none, none, none, none, none, none, none, none, none] [] h Q := by
  have hT := hX12_gossip
  unfold FX12_gossip_b20 at e
  refine Rn.n hT 1 (pc' := 21) (L' := [none, none, none, none, none, none, none, none, none]) (st' := [.int (-1 : Int32)]) rfl ?_
  obtain rfl := Option.some.inj e
  exact Rn.ret hT rfl rfl rfl (hq (-1 : Int32) L32_m1)
def FX12_gossip_b144 (N : Nat) (s : iv_M) (q0 : Nat) (x2 : Int) (x3 : Int) (x4 : Int) (x6 : Int) (x7 : Int) (xs0 : Int) (xs1 : Int) (kb : Int → Int → Option (Int)) (kx : Int → Option (Int)) : Option (Int) := (kb (bOr xs1 xs0) (w32 (x7 + 1)))
set_option maxRecDepth 10000 in
set_option maxHeartbeats 4000000 in
theorem RX12_gossip_b144 {d N nc Ls : Nat} {Xs : Nat → Int32} (hd : 5 ≤ d) {h : iv_H} {s : iv_M} (hR : Rep nc Ls Xs h s) {q0 : Nat} (t0 : T12 nc q0) {m2 : Int32} {x2 : Int} (p2 : m2.toInt = x2) {m3 : Int32} {x3 : Int} (p3 : m3.toInt = x3) {m4 : Int32} {x4 : Int} (p4 : m4.toInt = x4) {m6 : Int32} {x6 : Int} (p6 : m6.toInt = x6) {m7 : Int32} {x7 : Int} (p7 : m7.toInt = x7) {ms0 : Int32} {xs0 : Int} (ps0 : ms0.toInt = xs0) {ms1 : Int32} {xs1 : Int} (ps1 : ms1.toInt = xs1) {kb : Int → Int → Option (Int)} {kx : Int → Option (Int)} {r : Int} {Q : Option Value → iv_H → Prop} (hb : ∀ (mw5 : Int32) (xw5 : Int) (pw5 : mw5.toInt = xw5) (mw7 : Int32) (xw7 : Int) (pw7 : mw7.toInt = xw7), kb xw5 xw7 = some r → Rn d 313 (some .int) 55 [some (.ref q0), none, some (.int m2), some (.int m3), some (.int m4), some (.int mw5), some (.int m6), some (.int mw7), none] [] h Q) (hk : ∀ (mw5 : Int32) (xw5 : Int) (pw5 : mw5.toInt = xw5), kx xw5 = some r → Rn d 313 (some .int) 153 [some (.ref q0), none, some (.int m2), some (.int m3), some (.int m4), some (.int mw5), some (.int m6), none, none] [] h Q) (hq : ∀ (z : Int32), z.toInt = r → Q (some (.int z)) h) (e : FX12_gossip_b144 N s q0 x2 x3 x4 x6 x7 xs0 xs1 kb kx = some r) : Rn d 313 (some .int) 144 [some (.ref q0), none, some (.int m2), some (.int m3), some (.int m4), none, some (.int m6), some (.int m7), none] [.int ms0, .int ms1] h Q := by
  have hT := hX12_gossip
  unfold FX12_gossip_b144 at e
  refine Rn.n hT 4 (pc' := 55) (L' := [some (.ref q0), none, some (.int m2), some (.int m3), some (.int m4), some (.int (ms1 ||| ms0)), some (.int m6), some (.int (m7 + (1 : Int32))), none]) (st' := []) rfl ?_
  exact Rn.weak (ll_s (ll_n (ll_s (ll_s (ll_s (ll_s (ll_s (ll_s (ll_n ll_e))))))))) (hb (ms1 ||| ms0) (bOr xs1 xs0) (ti_or ps1 ps0) (m7 + (1 : Int32)) (w32 (x7 + 1)) (ti_add p7 L32_1) e)
def FX12_gossip_b121 (N : Nat) (s : iv_M) (q0 : Nat) (x2 : Int) (x3 : Int) (x4 : Int) (x5 : Int) (x6 : Int) (x7 : Int) (xs0 : Int) (kb : Int → Int → Option (Int)) (kx : Int → Option (Int)) : Option (Int) := (if xs0 = 0 then (FX12_gossip_b144 N s q0 x2 x3 x4 x6 x7 0 x5 kb kx) else ((FX12_faced N s q0 x6 x7).bind fun v_3965 => (FX12_gossip_b144 N s q0 x2 x3 x4 x6 x7 (sl32 1 v_3965) x5 kb kx)))
set_option maxRecDepth 10000 in
set_option maxHeartbeats 4000000 in
theorem RX12_gossip_b121 {d N nc Ls : Nat} {Xs : Nat → Int32} (hd : 5 ≤ d) {h : iv_H} {s : iv_M} (hR : Rep nc Ls Xs h s) {q0 : Nat} (t0 : T12 nc q0) {m2 : Int32} {x2 : Int} (p2 : m2.toInt = x2) {m3 : Int32} {x3 : Int} (p3 : m3.toInt = x3) {m4 : Int32} {x4 : Int} (p4 : m4.toInt = x4) {m5 : Int32} {x5 : Int} (p5 : m5.toInt = x5) {m6 : Int32} {x6 : Int} (p6 : m6.toInt = x6) {m7 : Int32} {x7 : Int} (p7 : m7.toInt = x7) {ms0 : Int32} {xs0 : Int} (ps0 : ms0.toInt = xs0) {kb : Int → Int → Option (Int)} {kx : Int → Option (Int)} {r : Int} {Q : Option Value → iv_H → Prop} (hb : ∀ (mw5 : Int32) (xw5 : Int) (pw5 : mw5.toInt = xw5) (mw7 : Int32) (xw7 : Int) (pw7 : mw7.toInt = xw7), kb xw5 xw7 = some r → Rn d 313 (some .int) 55 [some (.ref q0), none, some (.int m2), some (.int m3), some (.int m4), some (.int mw5), some (.int m6), some (.int mw7), none] [] h Q) (hk : ∀ (mw5 : Int32) (xw5 : Int) (pw5 : mw5.toInt = xw5), kx xw5 = some r → Rn d 313 (some .int) 153 [some (.ref q0), none, some (.int m2), some (.int m3), some (.int m4), some (.int mw5), some (.int m6), none, none] [] h Q) (hq : ∀ (z : Int32), z.toInt = r → Q (some (.int z)) h) (e : FX12_gossip_b121 N s q0 x2 x3 x4 x5 x6 x7 xs0 kb kx = some r) : Rn d 313 (some .int) 121 [some (.ref q0), none, some (.int m2), some (.int m3), some (.int m4), some (.int m5), some (.int m6), some (.int m7), none] [.int ms0] h Q := by
  have hT := hX12_gossip
  unfold FX12_gossip_b121 at e
  refine Rn.n hT 3 (pc' := 127) (L' := [some (.ref q0), none, some (.int m2), some (.int m3), some (.int m4), some (.int m5), some (.int m6), some (.int m7), some (.int ms0)]) (st' := [.int ms0, .int m5]) rfl ?_
  by_cases c_3964 : xs0 = 0
  · rw [if_pos c_3964] at e
    refine Rn.bt hT rfl rfl rfl (decide_eq_true ((ti_e ps0 L32_0).mpr c_3964)) ?_
    refine Rn.n hT 1 (pc' := 144) (L' := [some (.ref q0), none, some (.int m2), some (.int m3), some (.int m4), some (.int m5), some (.int m6), some (.int m7), some (.int ms0)]) (st' := [.int (0 : Int32), .int m5]) rfl ?_
    exact Rn.weak (ll_s (ll_n (ll_s (ll_s (ll_s (ll_n (ll_s (ll_s (ll_n ll_e))))))))) (RX12_gossip_b144 hd hR t0 p2 p3 p4 p6 p7 L32_0 p5 hb hk hq e)
  · rw [if_neg c_3964] at e
    refine Rn.bf hT rfl rfl rfl (decide_eq_false (fun z => c_3964 ((ti_e ps0 L32_0).mp z))) ?_
    refine Rn.n hT 4 (pc' := 136) (L' := [some (.ref q0), none, some (.int m2), some (.int m3), some (.int m4), some (.int m5), some (.int m6), some (.int m7), some (.int ms0)]) (st' := [.int m7, .int m6, .ref q0, .int (1 : Int32), .int m5]) rfl ?_
    obtain ⟨v_3965, e_3965, e⟩ := Option.bind_eq_some_iff.mp e
    refine Rn.call hT rfl rfl rfl (Nat.le_of_ble_eq_true rfl) (rcv_v gX12_faced (by omega) (rp_ck hR (T12_o t0))) (RX12_faced (by omega) hR t0 p6 p7 e_3965 (fun z_3965 p_3965 => ?_))
    show Rn d _ _ 139 [some (.ref q0), none, some (.int m2), some (.int m3), some (.int m4), some (.int m5), some (.int m6), some (.int m7), some (.int ms0)] [.int z_3965, .int (1 : Int32), .int m5] h Q
    refine Rn.n hT 2 (pc' := 144) (L' := [some (.ref q0), none, some (.int m2), some (.int m3), some (.int m4), some (.int m5), some (.int m6), some (.int m7), some (.int ms0)]) (st' := [.int ((1 : Int32) <<< (z_3965 &&& 31)), .int m5]) rfl ?_
    exact Rn.weak (ll_s (ll_n (ll_s (ll_s (ll_s (ll_n (ll_s (ll_s (ll_n ll_e))))))))) (RX12_gossip_b144 hd hR t0 p2 p3 p4 p6 p7 (ti_shl L32_1 p_3965) p5 hb hk hq e)
def FX12_gossip_b120 (N : Nat) (s : iv_M) (q0 : Nat) (x2 : Int) (x3 : Int) (x4 : Int) (x5 : Int) (x6 : Int) (x7 : Int)  (kb : Int → Int → Option (Int)) (kx : Int → Option (Int)) : Option (Int) := (FX12_gossip_b121 N s q0 x2 x3 x4 x5 x6 x7 0 kb kx)
set_option maxRecDepth 10000 in
set_option maxHeartbeats 4000000 in
theorem RX12_gossip_b120 {d N nc Ls : Nat} {Xs : Nat → Int32} (hd : 5 ≤ d) {h : iv_H} {s : iv_M} (hR : Rep nc Ls Xs h s) {q0 : Nat} (t0 : T12 nc q0) {m2 : Int32} {x2 : Int} (p2 : m2.toInt = x2) {m3 : Int32} {x3 : Int} (p3 : m3.toInt = x3) {m4 : Int32} {x4 : Int} (p4 : m4.toInt = x4) {m5 : Int32} {x5 : Int} (p5 : m5.toInt = x5) {m6 : Int32} {x6 : Int} (p6 : m6.toInt = x6) {m7 : Int32} {x7 : Int} (p7 : m7.toInt = x7)  {kb : Int → Int → Option (Int)} {kx : Int → Option (Int)} {r : Int} {Q : Option Value → iv_H → Prop} (hb : ∀ (mw5 : Int32) (xw5 : Int) (pw5 : mw5.toInt = xw5) (mw7 : Int32) (xw7 : Int) (pw7 : mw7.toInt = xw7), kb xw5 xw7 = some r → Rn d 313 (some .int) 55 [some (.ref q0), none, some (.int m2), some (.int m3), some (.int m4), some (.int mw5), some (.int m6), some (.int mw7), none] [] h Q) (hk : ∀ (mw5 : Int32) (xw5 : Int) (pw5 : mw5.toInt = xw5), kx xw5 = some r → Rn d 313 (some .int) 153 [some (.ref q0), none, some (.int m2), some (.int m3), some (.int m4), some (.int mw5), some (.int m6), none, none] [] h Q) (hq : ∀ (z : Int32), z.toInt = r → Q (some (.int z)) h) (e : FX12_gossip_b120 N s q0 x2 x3 x4 x5 x6 x7  kb kx = some r) : Rn d 313 (some .int) 120 [some (.ref q0), none, some (.int m2), some (.int m3), some (.int m4), some (.int m5), some (.int m6), some (.int m7), none] [] h Q := by
  have hT := hX12_gossip
  unfold FX12_gossip_b120 at e
  refine Rn.n hT 1 (pc' := 121) (L' := [some (.ref q0), none, some (.int m2), some (.int m3), some (.int m4), some (.int m5), some (.int m6), some (.int m7), none]) (st' := [.int (0 : Int32)]) rfl ?_
  exact Rn.weak (ll_s (ll_n (ll_s (ll_s (ll_s (ll_s (ll_s (ll_s (ll_n ll_e))))))))) (RX12_gossip_b121 hd hR t0 p2 p3 p4 p5 p6 p7 L32_0 hb hk hq e)
def FX12_gossip_l55 (N : Nat) (s : iv_M) (q0 : Nat) (x2 : Int) (x3 : Int) (x4 : Int) (x6 : Int) (kx : Int → Option (Int)) : Nat → Int → Int → Option (Int)
  | 0, _, _ => none
  | n + 1, x5, x7 => (if 4 ≤ x7 then (kx x5) else (if (bAn (sr32 x3 x6) 1) = 1 then ((FX12_isDoorToDoor N s q0 x6 x7).bind fun v_3957 => (if v_3957 = 0 then (FX12_gossip_b120 N s q0 x2 x3 x4 x5 x6 x7 (FX12_gossip_l55 N s q0 x2 x3 x4 x6 kx n) kx) else ((FX12_sideOf N s q0 x6 x7).bind fun v_3959 => (if v_3959 = 1 then ((FX12_faced N s q0 x6 x7).bind fun v_3961 => ((FX12_sideOf N s q0 v_3961 (bAn (w32 (x7 + 2)) 3)).bind fun v_3962 => (if v_3962 = 1 then (FX12_gossip_b121 N s q0 x2 x3 x4 x5 x6 x7 1 (FX12_gossip_l55 N s q0 x2 x3 x4 x6 kx n) kx) else (FX12_gossip_b120 N s q0 x2 x3 x4 x5 x6 x7 (FX12_gossip_l55 N s q0 x2 x3 x4 x6 kx n) kx)))) else (FX12_gossip_b120 N s q0 x2 x3 x4 x5 x6 x7 (FX12_gossip_l55 N s q0 x2 x3 x4 x6 kx n) kx))))) else (kx x5)))
set_option maxRecDepth 10000 in
set_option maxHeartbeats 4000000 in
theorem RX12_gossip_l55 {d N nc Ls : Nat} {Xs : Nat → Int32} (hd : 5 ≤ d) {h : iv_H} {s : iv_M} (hR : Rep nc Ls Xs h s) {q0 : Nat} (t0 : T12 nc q0) {m2 : Int32} {x2 : Int} (p2 : m2.toInt = x2) {m3 : Int32} {x3 : Int} (p3 : m3.toInt = x3) {m4 : Int32} {x4 : Int} (p4 : m4.toInt = x4) {m6 : Int32} {x6 : Int} (p6 : m6.toInt = x6) {kx : Int → Option (Int)} {r : Int} {Q : Option Value → iv_H → Prop} (hk : ∀ (m5 : Int32) (x5 : Int) (p5 : m5.toInt = x5), kx x5 = some r → Rn d 313 (some .int) 153 [some (.ref q0), none, some (.int m2), some (.int m3), some (.int m4), some (.int m5), some (.int m6), none, none] [] h Q) (hq : ∀ (z : Int32), z.toInt = r → Q (some (.int z)) h) : ∀ (n : Nat) (m5 : Int32) (x5 : Int) (p5 : m5.toInt = x5) (m7 : Int32) (x7 : Int) (p7 : m7.toInt = x7), FX12_gossip_l55 N s q0 x2 x3 x4 x6 kx n x5 x7 = some r → Rn d 313 (some .int) 55 [some (.ref q0), none, some (.int m2), some (.int m3), some (.int m4), some (.int m5), some (.int m6), some (.int m7), none] [] h Q := by
  have hT := hX12_gossip
  intro n
  induction n with
  | zero =>
    intro m5 x5 p5 m7 x7 p7 e
    rw [FX12_gossip_l55] at e
    cases e
  | succ n ih =>
    intro m5 x5 p5 m7 x7 p7 e
    rw [FX12_gossip_l55] at e
    refine Rn.n hT 2 (pc' := 58) (L' := [some (.ref q0), none, some (.int m2), some (.int m3), some (.int m4), some (.int m5), some (.int m6), some (.int m7), none]) (st' := [.int (4 : Int32), .int m7]) rfl ?_
    by_cases c_3955 : 4 ≤ x7
    · rw [if_pos c_3955] at e
      refine Rn.bt hT rfl rfl rfl (decide_eq_true ((ti_le L32_4 p7).mpr c_3955)) ?_
      exact Rn.weak (ll_s (ll_n (ll_s (ll_s (ll_s (ll_s (ll_s (ll_n (ll_n ll_e))))))))) (hk m5 x5 p5 e)
    · rw [if_neg c_3955] at e
      refine Rn.bf hT rfl rfl rfl (decide_eq_false (fun z => c_3955 ((ti_le L32_4 p7).mp z))) ?_
      refine Rn.n hT 6 (pc' := 68) (L' := [some (.ref q0), none, some (.int m2), some (.int m3), some (.int m4), some (.int m5), some (.int m6), some (.int m7), none]) (st' := [.int (1 : Int32), .int ((m3 >>> (m6 &&& 31)) &&& (1 : Int32))]) rfl ?_
      by_cases c_3956 : (bAn (sr32 x3 x6) 1) = 1
      · rw [if_pos c_3956] at e
        refine Rn.bf hT rfl rfl rfl (decide_eq_false (fun z => z ((ti_e (ti_and (ti_shr p3 p6) L32_1) L32_1).mpr c_3956))) ?_
        refine Rn.n hT 3 (pc' := 76) (L' := [some (.ref q0), none, some (.int m2), some (.int m3), some (.int m4), some (.int m5), some (.int m6), some (.int m7), none]) (st' := [.int m7, .int m6, .ref q0]) rfl ?_
        obtain ⟨v_3957, e_3957, e⟩ := Option.bind_eq_some_iff.mp e
        refine Rn.call hT rfl rfl rfl (Nat.le_of_ble_eq_true rfl) (rcv_v gX12_isDoorToDoor (by omega) (rp_ck hR (T12_o t0))) (RX12_isDoorToDoor (by omega) hR t0 p6 p7 e_3957 (fun z_3957 p_3957 => ?_))
        show Rn d _ _ 79 [some (.ref q0), none, some (.int m2), some (.int m3), some (.int m4), some (.int m5), some (.int m6), some (.int m7), none] [.int z_3957] h Q
        by_cases c_3958 : v_3957 = 0
        · rw [if_pos c_3958] at e
          refine Rn.bt hT rfl rfl rfl (decide_eq_true ((ti_e p_3957 L32_0).mpr c_3958)) ?_
          exact Rn.weak (ll_s (ll_n (ll_s (ll_s (ll_s (ll_s (ll_s (ll_s (ll_n ll_e))))))))) (RX12_gossip_b120 hd hR t0 p2 p3 p4 p5 p6 p7 ih hk hq e)
        · rw [if_neg c_3958] at e
          refine Rn.bf hT rfl rfl rfl (decide_eq_false (fun z => c_3958 ((ti_e p_3957 L32_0).mp z))) ?_
          refine Rn.n hT 3 (pc' := 87) (L' := [some (.ref q0), none, some (.int m2), some (.int m3), some (.int m4), some (.int m5), some (.int m6), some (.int m7), none]) (st' := [.int m7, .int m6, .ref q0]) rfl ?_
          obtain ⟨v_3959, e_3959, e⟩ := Option.bind_eq_some_iff.mp e
          refine Rn.call hT rfl rfl rfl (Nat.le_of_ble_eq_true rfl) (rcv_v gX12_sideOf (by omega) (rp_ck hR (T12_o t0))) (RX12_sideOf (by omega) hR t0 p6 p7 e_3959 (fun z_3959 p_3959 => ?_))
          show Rn d _ _ 90 [some (.ref q0), none, some (.int m2), some (.int m3), some (.int m4), some (.int m5), some (.int m6), some (.int m7), none] [.int z_3959] h Q
          refine Rn.n hT 1 (pc' := 91) (L' := [some (.ref q0), none, some (.int m2), some (.int m3), some (.int m4), some (.int m5), some (.int m6), some (.int m7), none]) (st' := [.int (1 : Int32), .int z_3959]) rfl ?_
          by_cases c_3960 : v_3959 = 1
          · rw [if_pos c_3960] at e
            refine Rn.bf hT rfl rfl rfl (decide_eq_false (fun z => z ((ti_e p_3959 L32_1).mpr c_3960))) ?_
            refine Rn.n hT 4 (pc' := 100) (L' := [some (.ref q0), none, some (.int m2), some (.int m3), some (.int m4), some (.int m5), some (.int m6), some (.int m7), none]) (st' := [.int m7, .int m6, .ref q0, .ref q0]) rfl ?_
            obtain ⟨v_3961, e_3961, e⟩ := Option.bind_eq_some_iff.mp e
            refine Rn.call hT rfl rfl rfl (Nat.le_of_ble_eq_true rfl) (rcv_v gX12_faced (by omega) (rp_ck hR (T12_o t0))) (RX12_faced (by omega) hR t0 p6 p7 e_3961 (fun z_3961 p_3961 => ?_))
            show Rn d _ _ 103 [some (.ref q0), none, some (.int m2), some (.int m3), some (.int m4), some (.int m5), some (.int m6), some (.int m7), none] [.int z_3961, .ref q0] h Q
            refine Rn.n hT 5 (pc' := 109) (L' := [some (.ref q0), none, some (.int m2), some (.int m3), some (.int m4), some (.int m5), some (.int m6), some (.int m7), none]) (st' := [.int ((m7 + (2 : Int32)) &&& (3 : Int32)), .int z_3961, .ref q0]) rfl ?_
            obtain ⟨v_3962, e_3962, e⟩ := Option.bind_eq_some_iff.mp e
            refine Rn.call hT rfl rfl rfl (Nat.le_of_ble_eq_true rfl) (rcv_v gX12_sideOf (by omega) (rp_ck hR (T12_o t0))) (RX12_sideOf (by omega) hR t0 p_3961 (ti_and (ti_add p7 L32_2) L32_3) e_3962 (fun z_3962 p_3962 => ?_))
            show Rn d _ _ 112 [some (.ref q0), none, some (.int m2), some (.int m3), some (.int m4), some (.int m5), some (.int m6), some (.int m7), none] [.int z_3962] h Q
            refine Rn.n hT 1 (pc' := 113) (L' := [some (.ref q0), none, some (.int m2), some (.int m3), some (.int m4), some (.int m5), some (.int m6), some (.int m7), none]) (st' := [.int (1 : Int32), .int z_3962]) rfl ?_
            by_cases c_3963 : v_3962 = 1
            · rw [if_pos c_3963] at e
              refine Rn.bf hT rfl rfl rfl (decide_eq_false (fun z => z ((ti_e p_3962 L32_1).mpr c_3963))) ?_
              refine Rn.n hT 2 (pc' := 121) (L' := [some (.ref q0), none, some (.int m2), some (.int m3), some (.int m4), some (.int m5), some (.int m6), some (.int m7), none]) (st' := [.int (1 : Int32)]) rfl ?_
              exact Rn.weak (ll_s (ll_n (ll_s (ll_s (ll_s (ll_s (ll_s (ll_s (ll_n ll_e))))))))) (RX12_gossip_b121 hd hR t0 p2 p3 p4 p5 p6 p7 L32_1 ih hk hq e)
            · rw [if_neg c_3963] at e
              refine Rn.bt hT rfl rfl rfl (decide_eq_true (fun z => c_3963 ((ti_e p_3962 L32_1).mp z))) ?_
              exact Rn.weak (ll_s (ll_n (ll_s (ll_s (ll_s (ll_s (ll_s (ll_s (ll_n ll_e))))))))) (RX12_gossip_b120 hd hR t0 p2 p3 p4 p5 p6 p7 ih hk hq e)
          · rw [if_neg c_3960] at e
            refine Rn.bt hT rfl rfl rfl (decide_eq_true (fun z => c_3960 ((ti_e p_3959 L32_1).mp z))) ?_
            exact Rn.weak (ll_s (ll_n (ll_s (ll_s (ll_s (ll_s (ll_s (ll_s (ll_n ll_e))))))))) (RX12_gossip_b120 hd hR t0 p2 p3 p4 p5 p6 p7 ih hk hq e)
      · rw [if_neg c_3956] at e
        refine Rn.bt hT rfl rfl rfl (decide_eq_true (fun z => c_3956 ((ti_e (ti_and (ti_shr p3 p6) L32_1) L32_1).mp z))) ?_
        exact Rn.weak (ll_s (ll_n (ll_s (ll_s (ll_s (ll_s (ll_s (ll_n (ll_n ll_e))))))))) (hk m5 x5 p5 e)
def FX12_gossip_b153 (N : Nat) (s : iv_M) (q0 : Nat) (x2 : Int) (x3 : Int) (x4 : Int) (x5 : Int) (x6 : Int)  (kb : Int → Int → Option (Int)) (kx : Int → Option (Int)) : Option (Int) := (kb x5 (w32 (x6 + 1)))
set_option maxRecDepth 10000 in
set_option maxHeartbeats 4000000 in
theorem RX12_gossip_b153 {d N nc Ls : Nat} {Xs : Nat → Int32} (hd : 5 ≤ d) {h : iv_H} {s : iv_M} (hR : Rep nc Ls Xs h s) {q0 : Nat} (t0 : T12 nc q0) {m2 : Int32} {x2 : Int} (p2 : m2.toInt = x2) {m3 : Int32} {x3 : Int} (p3 : m3.toInt = x3) {m4 : Int32} {x4 : Int} (p4 : m4.toInt = x4) {m5 : Int32} {x5 : Int} (p5 : m5.toInt = x5) {m6 : Int32} {x6 : Int} (p6 : m6.toInt = x6)  {kb : Int → Int → Option (Int)} {kx : Int → Option (Int)} {r : Int} {Q : Option Value → iv_H → Prop} (hb : ∀ (mw5 : Int32) (xw5 : Int) (pw5 : mw5.toInt = xw5) (mw6 : Int32) (xw6 : Int) (pw6 : mw6.toInt = xw6), kb xw5 xw6 = some r → Rn d 313 (some .int) 41 [some (.ref q0), none, some (.int m2), some (.int m3), some (.int m4), some (.int mw5), some (.int mw6), none, none] [] h Q) (hk : ∀ (mw5 : Int32) (xw5 : Int) (pw5 : mw5.toInt = xw5), kx xw5 = some r → Rn d 313 (some .int) 159 [some (.ref q0), none, some (.int m2), none, some (.int m4), some (.int mw5), none, none, none] [] h Q) (hq : ∀ (z : Int32), z.toInt = r → Q (some (.int z)) h) (e : FX12_gossip_b153 N s q0 x2 x3 x4 x5 x6  kb kx = some r) : Rn d 313 (some .int) 153 [some (.ref q0), none, some (.int m2), some (.int m3), some (.int m4), some (.int m5), some (.int m6), none, none] [] h Q := by
  have hT := hX12_gossip
  unfold FX12_gossip_b153 at e
  refine Rn.n hT 2 (pc' := 41) (L' := [some (.ref q0), none, some (.int m2), some (.int m3), some (.int m4), some (.int m5), some (.int (m6 + (1 : Int32))), none, none]) (st' := []) rfl ?_
  exact Rn.weak (ll_s (ll_n (ll_s (ll_s (ll_s (ll_s (ll_s (ll_n (ll_n ll_e))))))))) (hb m5 x5 p5 (m6 + (1 : Int32)) (w32 (x6 + 1)) (ti_add p6 L32_1) e)
def FX12_gossip_l41 (N : Nat) (s : iv_M) (q0 : Nat) (x2 : Int) (x3 : Int) (x4 : Int) (kx : Int → Option (Int)) : Nat → Int → Int → Option (Int)
  | 0, _, _ => none
  | n + 1, x5, x6 => ((rd s (q0 + 1) 14 2).bind fun v_3952 => (if v_3952 ≤ x6 then (kx x5) else (FX12_gossip_l55 N s q0 x2 x3 x4 x6 (fun (x3954_5 : Int) => (FX12_gossip_b153 N s q0 x2 x3 x4 x3954_5 x6 (FX12_gossip_l41 N s q0 x2 x3 x4 kx n) kx)) N x5 0)))
set_option maxRecDepth 10000 in
set_option maxHeartbeats 4000000 in
theorem RX12_gossip_l41 {d N nc Ls : Nat} {Xs : Nat → Int32} (hd : 5 ≤ d) {h : iv_H} {s : iv_M} (hR : Rep nc Ls Xs h s) {q0 : Nat} (t0 : T12 nc q0) {m2 : Int32} {x2 : Int} (p2 : m2.toInt = x2) {m3 : Int32} {x3 : Int} (p3 : m3.toInt = x3) {m4 : Int32} {x4 : Int} (p4 : m4.toInt = x4) {kx : Int → Option (Int)} {r : Int} {Q : Option Value → iv_H → Prop} (hk : ∀ (m5 : Int32) (x5 : Int) (p5 : m5.toInt = x5), kx x5 = some r → Rn d 313 (some .int) 159 [some (.ref q0), none, some (.int m2), none, some (.int m4), some (.int m5), none, none, none] [] h Q) (hq : ∀ (z : Int32), z.toInt = r → Q (some (.int z)) h) : ∀ (n : Nat) (m5 : Int32) (x5 : Int) (p5 : m5.toInt = x5) (m6 : Int32) (x6 : Int) (p6 : m6.toInt = x6), FX12_gossip_l41 N s q0 x2 x3 x4 kx n x5 x6 = some r → Rn d 313 (some .int) 41 [some (.ref q0), none, some (.int m2), some (.int m3), some (.int m4), some (.int m5), some (.int m6), none, none] [] h Q := by
  have hT := hX12_gossip
  intro n
  induction n with
  | zero =>
    intro m5 x5 p5 m6 x6 p6 e
    rw [FX12_gossip_l41] at e
    cases e
  | succ n ih =>
    intro m5 x5 p5 m6 x6 p6 e
    rw [FX12_gossip_l41] at e
    refine Rn.n hT 2 (pc' := 44) (L' := [some (.ref q0), none, some (.int m2), some (.int m3), some (.int m4), some (.int m5), some (.int m6), none, none]) (st' := [.ref q0, .int m6]) rfl ?_
    refine Rn.hp hT rfl rfl (gR_hp (rp_gR hR (T12_o t0) rfl)) ?_
    refine Rn.n hT 1 (pc' := 48) (L' := [some (.ref q0), none, some (.int m2), some (.int m3), some (.int m4), some (.int m5), some (.int m6), none, none]) (st' := [.int (2 : Int32), .ref (q0 + 1), .int m6]) rfl ?_
    obtain ⟨v_3952, e_3952, e⟩ := Option.bind_eq_some_iff.mp e
    obtain ⟨z_3952, g_3952, p_3952⟩ := rp_aI hR (T12_1 t0) (T12_1l t0) L32_2 e_3952
    refine Rn.hp hT rfl rfl (aI_hp g_3952) ?_
    by_cases c_3953 : v_3952 ≤ x6
    · rw [if_pos c_3953] at e
      refine Rn.bt hT rfl rfl rfl (decide_eq_true ((ti_le p_3952 p6).mpr c_3953)) ?_
      exact Rn.weak (ll_s (ll_n (ll_s (ll_n (ll_s (ll_s (ll_n (ll_n (ll_n ll_e))))))))) (hk m5 x5 p5 e)
    · rw [if_neg c_3953] at e
      refine Rn.bf hT rfl rfl rfl (decide_eq_false (fun z => c_3953 ((ti_le p_3952 p6).mp z))) ?_
      refine Rn.n hT 2 (pc' := 55) (L' := [some (.ref q0), none, some (.int m2), some (.int m3), some (.int m4), some (.int m5), some (.int m6), some (.int (0 : Int32)), none]) (st' := []) rfl ?_
      refine Rn.weak (ll_s (ll_n (ll_s (ll_s (ll_s (ll_s (ll_s (ll_s (ll_n ll_e))))))))) (RX12_gossip_l55 hd hR t0 p2 p3 p4 p6 (fun m3954_5 x3954_5 p3954_5 e => ?_) hq N m5 x5 p5 (0 : Int32) 0 L32_0 e)
      try dsimp only at e
      exact Rn.weak (ll_s (ll_n (ll_s (ll_s (ll_s (ll_s (ll_s (ll_n (ll_n ll_e))))))))) (RX12_gossip_b153 hd hR t0 p2 p3 p4 p3954_5 p6 ih hk hq e)
def FX12_gossip_l29 (N : Nat) (s : iv_M) (q0 : Nat) (x2 : Int) (kx : Int → Option (Int)) : Nat → Int → Int → Option (Int)
  | 0, _, _ => none
  | n + 1, x3, x4 => (if x2 ≤ x4 then (kx x3) else (FX12_gossip_l41 N s q0 x2 x3 x4 (fun (x3951_5 : Int) => (FX12_gossip_l29 N s q0 x2 kx n x3951_5 (w32 (x4 + 1)))) N x3 0))
set_option maxRecDepth 10000 in
set_option maxHeartbeats 4000000 in
theorem RX12_gossip_l29 {d N nc Ls : Nat} {Xs : Nat → Int32} (hd : 5 ≤ d) {h : iv_H} {s : iv_M} (hR : Rep nc Ls Xs h s) {q0 : Nat} (t0 : T12 nc q0) {m2 : Int32} {x2 : Int} (p2 : m2.toInt = x2) {kx : Int → Option (Int)} {r : Int} {Q : Option Value → iv_H → Prop} (hk : ∀ (m3 : Int32) (x3 : Int) (p3 : m3.toInt = x3), kx x3 = some r → Rn d 313 (some .int) 168 [none, none, none, some (.int m3), none, none, none, none, none] [] h Q) (hq : ∀ (z : Int32), z.toInt = r → Q (some (.int z)) h) : ∀ (n : Nat) (m3 : Int32) (x3 : Int) (p3 : m3.toInt = x3) (m4 : Int32) (x4 : Int) (p4 : m4.toInt = x4), FX12_gossip_l29 N s q0 x2 kx n x3 x4 = some r → Rn d 313 (some .int) 29 [some (.ref q0), none, some (.int m2), some (.int m3), some (.int m4), none, none, none, none] [] h Q := by
  have hT := hX12_gossip
  intro n
  induction n with
  | zero =>
    intro m3 x3 p3 m4 x4 p4 e
    rw [FX12_gossip_l29] at e
    cases e
  | succ n ih =>
    intro m3 x3 p3 m4 x4 p4 e
    rw [FX12_gossip_l29] at e
    refine Rn.n hT 2 (pc' := 32) (L' := [some (.ref q0), none, some (.int m2), some (.int m3), some (.int m4), none, none, none, none]) (st' := [.int m2, .int m4]) rfl ?_
    by_cases c_3950 : x2 ≤ x4
    · rw [if_pos c_3950] at e
      refine Rn.bt hT rfl rfl rfl (decide_eq_true ((ti_le p2 p4).mpr c_3950)) ?_
      exact Rn.weak (ll_n (ll_n (ll_n (ll_s (ll_n (ll_n (ll_n (ll_n (ll_n ll_e))))))))) (hk m3 x3 p3 e)
    · rw [if_neg c_3950] at e
      refine Rn.bf hT rfl rfl rfl (decide_eq_false (fun z => c_3950 ((ti_le p2 p4).mp z))) ?_
      refine Rn.n hT 4 (pc' := 41) (L' := [some (.ref q0), none, some (.int m2), some (.int m3), some (.int m4), some (.int m3), some (.int (0 : Int32)), none, none]) (st' := []) rfl ?_
      refine Rn.weak (ll_s (ll_n (ll_s (ll_s (ll_s (ll_s (ll_s (ll_n (ll_n ll_e))))))))) (RX12_gossip_l41 hd hR t0 p2 p3 p4 (fun m3951_5 x3951_5 p3951_5 e => ?_) hq N m3 x3 p3 (0 : Int32) 0 L32_0 e)
      try dsimp only at e
      refine Rn.n hT 4 (pc' := 29) (L' := [some (.ref q0), none, some (.int m2), some (.int m3951_5), some (.int (m4 + (1 : Int32))), some (.int m3951_5), none, none, none]) (st' := []) rfl ?_
      exact Rn.weak (ll_s (ll_n (ll_s (ll_s (ll_s (ll_n (ll_n (ll_n (ll_n ll_e))))))))) (ih m3951_5 x3951_5 p3951_5 (m4 + (1 : Int32)) (w32 (x4 + 1)) (ti_add p4 L32_1) e)
def FX12_gossip (N : Nat) (s : iv_M) (q0 : Nat) (x1 : Int) (x2 : Int) : Option (Int) := ((FX12_isRoom N s q0 x1).bind fun v_3944 => (if v_3944 = 0 then (FX12_gossip_b20 N s) else ((FX12_in N s x2 0 16).bind fun v_3946 => (if v_3946 = 0 then (FX12_gossip_b20 N s) else (FX12_gossip_l29 N s q0 x2 (fun (x3948_3 : Int) => ((FX12_bits N s x3948_3).bind fun v_3949 => (some v_3949))) N (sl32 1 x1) 0)))))
set_option maxRecDepth 10000 in
set_option maxHeartbeats 4000000 in
theorem RX12_gossip {d N nc Ls : Nat} {Xs : Nat → Int32} (hd : 6 ≤ d) {h : iv_H} {s : iv_M} (hR : Rep nc Ls Xs h s) {q0 : Nat} (t0 : T12 nc q0) {m1 : Int32} {x1 : Int} (p1 : m1.toInt = x1) {m2 : Int32} {x2 : Int} (p2 : m2.toInt = x2) {r : Int} {Q : Option Value → iv_H → Prop} (e : FX12_gossip N s q0 x1 x2 = some r) (hq : ∀ (z : Int32), z.toInt = r → Q (some (.int z)) h) : Cl d 313 [.ref q0, .int m1, .int m2] h Q := by
  obtain ⟨d, rfl⟩ : ∃ k, d = k + 1 := ⟨d - 1, by omega⟩
  have hd : 5 ≤ d := by omega
  have hT := hX12_gossip
  unfold FX12_gossip at e
  refine Cl.into (by decide) gX12_gossip rfl ?_
  show Rn d 313 (some .int) 0 [some (.ref q0), some (.int m1), some (.int m2), none, none, none, none, none, none] [] h Q
  refine Rn.n hT 2 (pc' := 2) (L' := [some (.ref q0), some (.int m1), some (.int m2), none, none, none, none, none, none]) (st' := [.int m1, .ref q0]) rfl ?_
  obtain ⟨v_3944, e_3944, e⟩ := Option.bind_eq_some_iff.mp e
  refine Rn.call hT rfl rfl rfl (Nat.le_of_ble_eq_true rfl) (rcv_v gX12_isRoom (by omega) (rp_ck hR (T12_o t0))) (RX12_isRoom (by omega) hR t0 p1 e_3944 (fun z_3944 p_3944 => ?_))
  show Rn d _ _ 5 [some (.ref q0), some (.int m1), some (.int m2), none, none, none, none, none, none] [.int z_3944] h Q
  by_cases c_3945 : v_3944 = 0
  · rw [if_pos c_3945] at e
    refine Rn.bt hT rfl rfl rfl (decide_eq_true ((ti_e p_3944 L32_0).mpr c_3945)) ?_
    exact Rn.weak (ll_n (ll_n (ll_n (ll_n (ll_n (ll_n (ll_n (ll_n (ll_n ll_e))))))))) (RX12_gossip_b20 hd hR hq e)
  · rw [if_neg c_3945] at e
    refine Rn.bf hT rfl rfl rfl (decide_eq_false (fun z => c_3945 ((ti_e p_3944 L32_0).mp z))) ?_
    refine Rn.n hT 4 (pc' := 14) (L' := [some (.ref q0), some (.int m1), some (.int m2), none, none, none, none, none, none]) (st' := [.long (16 : Int64), .long (0 : Int64), .long ((m2).toInt64)]) rfl ?_
    obtain ⟨v_3946, e_3946, e⟩ := Option.bind_eq_some_iff.mp e
    refine Rn.call hT rfl rfl rfl (Nat.le_of_ble_eq_true rfl) rfl (RX12_in (by omega) hR (ti_j p2) L64_0 L64_16 e_3946 (fun z_3946 p_3946 => ?_))
    show Rn d _ _ 17 [some (.ref q0), some (.int m1), some (.int m2), none, none, none, none, none, none] [.int z_3946] h Q
    by_cases c_3947 : v_3946 = 0
    · rw [if_pos c_3947] at e
      refine Rn.bf hT rfl rfl rfl (decide_eq_false (fun z => z ((ti_e p_3946 L32_0).mpr c_3947))) ?_
      exact Rn.weak (ll_n (ll_n (ll_n (ll_n (ll_n (ll_n (ll_n (ll_n (ll_n ll_e))))))))) (RX12_gossip_b20 hd hR hq e)
    · rw [if_neg c_3947] at e
      refine Rn.bt hT rfl rfl rfl (decide_eq_true (fun z => c_3947 ((ti_e p_3946 L32_0).mp z))) ?_
      refine Rn.n hT 6 (pc' := 29) (L' := [some (.ref q0), some (.int m1), some (.int m2), some (.int ((1 : Int32) <<< (m1 &&& 31))), some (.int (0 : Int32)), none, none, none, none]) (st' := []) rfl ?_
      refine Rn.weak (ll_s (ll_n (ll_s (ll_s (ll_s (ll_n (ll_n (ll_n (ll_n ll_e))))))))) (RX12_gossip_l29 hd hR t0 p2 (fun m3948_3 x3948_3 p3948_3 e => ?_) hq N ((1 : Int32) <<< (m1 &&& 31)) (sl32 1 x1) (ti_shl L32_1 p1) (0 : Int32) 0 L32_0 e)
      try dsimp only at e
      refine Rn.n hT 1 (pc' := 169) (L' := [none, none, none, some (.int m3948_3), none, none, none, none, none]) (st' := [.int m3948_3]) rfl ?_
      obtain ⟨v_3949, e_3949, e⟩ := Option.bind_eq_some_iff.mp e
      refine Rn.call hT rfl rfl rfl (Nat.le_of_ble_eq_true rfl) rfl (RX12_bits (by omega) hR p3948_3 e_3949 (fun z_3949 p_3949 => ?_))
      show Rn d _ _ 172 [none, none, none, some (.int m3948_3), none, none, none, none, none] [.int z_3949] h Q
      obtain rfl := Option.some.inj e
      exact Rn.ret hT rfl rfl rfl (hq z_3949 p_3949)
set_option maxRecDepth 10000 in
theorem hX12_almanac : iv_Tb 314 tX12_almanac := iv_tb_of (m := mX12_almanac) rfl
set_option maxRecDepth 10000 in
theorem gX12_almanac : PG.2 314 = some mX12_almanac := iv_pi_of (t := tX12_almanac) rfl (by decide)
def FX12_almanac_b41 (N : Nat) (s : iv_M)   : Option (Int × iv_M) := (some ((-2), s))
set_option maxRecDepth 10000 in
set_option maxHeartbeats 4000000 in
theorem RX12_almanac_b41 {d N nc Ls : Nat} {Xs : Nat → Int32} (hd : 3 ≤ d) {h : iv_H} {s : iv_M} (hR : Rep nc Ls Xs h s)   {r : Int × iv_M} {Q : Option Value → iv_H → Prop} (hq : ∀ (z : Int32) (h1 : iv_H), z.toInt = r.1 → Rep nc Ls Xs h1 r.2 → Q (some (.int z)) h1) (e : FX12_almanac_b41 N s   = some r) : Rn d 314 (some .int) 41 [none, none, none, none, none] [] h Q := by
  have hT := hX12_almanac
  unfold FX12_almanac_b41 at e
  refine Rn.n hT 1 (pc' := 43) (L' := [none, none, none, none, none]) (st' := [.int (-2 : Int32)]) rfl ?_
  obtain rfl := Option.some.inj e
  exact Rn.ret hT rfl rfl rfl (hq (-2 : Int32) h L32_m2 hR)
def FX12_almanac (N : Nat) (s : iv_M) (q0 : Nat) (x1 : Int) (x2 : Int) (x3 : Int) : Option (Int × iv_M) := (if x1 = (-1) then ((wr s (q0 + 1) 14 8 0).bind fun s_3982 => (some (0, s_3982))) else ((rd s (q0 + 1) 14 8).bind fun v_3967 => ((FX12_isWalk N s q0 x1 x2 x3).bind fun v_3968 => (if v_3968 = 0 then (FX12_almanac_b41 N s) else (if v_3967 = 10 then (FX12_almanac_b41 N s) else ((wr s (q0 + 11) 10 v_3967 x1).bind fun s_3971 => ((FX12_least N s_3971 x1 x2 x3).bind fun v_3973 => ((wr s_3971 (q0 + 12) 10 v_3967 v_3973).bind fun s_3974 => ((FX12_greatest N s_3974 x1 x2 x3).bind fun v_3976 => ((wr s_3974 (q0 + 13) 10 v_3967 v_3976).bind fun s_3977 => ((rd s_3977 (q0 + 1) 14 8).bind fun v_3979 => ((wr s_3977 (q0 + 1) 14 8 (w32 (v_3979 + 1))).bind fun s_3980 => (some ((w32 (v_3967 + 1)), s_3980))))))))))))))
set_option maxRecDepth 10000 in
set_option maxHeartbeats 4000000 in
theorem RX12_almanac {d N nc Ls : Nat} {Xs : Nat → Int32} (hd : 4 ≤ d) {h : iv_H} {s : iv_M} (hR : Rep nc Ls Xs h s) {q0 : Nat} (t0 : T12 nc q0) {m1 : Int32} {x1 : Int} (p1 : m1.toInt = x1) {m2 : Int32} {x2 : Int} (p2 : m2.toInt = x2) {m3 : Int32} {x3 : Int} (p3 : m3.toInt = x3) {r : Int × iv_M} {Q : Option Value → iv_H → Prop} (e : FX12_almanac N s q0 x1 x2 x3 = some r) (hq : ∀ (z : Int32) (h1 : iv_H), z.toInt = r.1 → Rep nc Ls Xs h1 r.2 → Q (some (.int z)) h1) : Cl d 314 [.ref q0, .int m1, .int m2, .int m3] h Q := by
  obtain ⟨d, rfl⟩ : ∃ k, d = k + 1 := ⟨d - 1, by omega⟩
  have hd : 3 ≤ d := by omega
  have hT := hX12_almanac
  unfold FX12_almanac at e
  refine Cl.into (by decide) gX12_almanac rfl ?_
  show Rn d 314 (some .int) 0 [some (.ref q0), some (.int m1), some (.int m2), some (.int m3), none] [] h Q
  refine Rn.n hT 2 (pc' := 2) (L' := [some (.ref q0), some (.int m1), some (.int m2), some (.int m3), none]) (st' := [.int (-1 : Int32), .int m1]) rfl ?_
  by_cases c_3966 : x1 = (-1)
  · rw [if_pos c_3966] at e
    refine Rn.bf hT rfl rfl rfl (decide_eq_false (fun z => z ((ti_e p1 L32_m1).mpr c_3966))) ?_
    refine Rn.n hT 1 (pc' := 6) (L' := [some (.ref q0), some (.int m1), some (.int m2), some (.int m3), none]) (st' := [.ref q0]) rfl ?_
    refine Rn.hp hT rfl rfl (gR_hp (rp_gR hR (T12_o t0) rfl)) ?_
    refine Rn.n hT 2 (pc' := 12) (L' := [some (.ref q0), some (.int m1), some (.int m2), some (.int m3), none]) (st' := [.int (0 : Int32), .int (8 : Int32), .ref (q0 + 1)]) rfl ?_
    obtain ⟨s_3982, e_3983, e⟩ := Option.bind_eq_some_iff.mp e
    obtain ⟨h_3982, g_3983, R_3982⟩ := rp_wI hR (T12_1 t0) (T12_1l t0) L32_8 L32_0 e_3983
    refine Rn.hp hT rfl rfl (wI_hp g_3983) ?_
    refine Rn.n hT 1 (pc' := 14) (L' := [some (.ref q0), some (.int m1), some (.int m2), some (.int m3), none]) (st' := [.int (0 : Int32)]) rfl ?_
    obtain rfl := Option.some.inj e
    exact Rn.ret hT rfl rfl rfl (hq (0 : Int32) h_3982 L32_0 R_3982)
  · rw [if_neg c_3966] at e
    refine Rn.bt hT rfl rfl rfl (decide_eq_true (fun z => c_3966 ((ti_e p1 L32_m1).mp z))) ?_
    refine Rn.n hT 1 (pc' := 16) (L' := [some (.ref q0), some (.int m1), some (.int m2), some (.int m3), none]) (st' := [.ref q0]) rfl ?_
    refine Rn.hp hT rfl rfl (gR_hp (rp_gR hR (T12_o t0) rfl)) ?_
    refine Rn.n hT 1 (pc' := 21) (L' := [some (.ref q0), some (.int m1), some (.int m2), some (.int m3), none]) (st' := [.int (8 : Int32), .ref (q0 + 1)]) rfl ?_
    obtain ⟨v_3967, e_3967, e⟩ := Option.bind_eq_some_iff.mp e
    obtain ⟨z_3967, g_3967, p_3967⟩ := rp_aI hR (T12_1 t0) (T12_1l t0) L32_8 e_3967
    refine Rn.hp hT rfl rfl (aI_hp g_3967) ?_
    refine Rn.n hT 5 (pc' := 28) (L' := [some (.ref q0), some (.int m1), some (.int m2), some (.int m3), some (.int z_3967)]) (st' := [.int m3, .int m2, .int m1, .ref q0]) rfl ?_
    obtain ⟨v_3968, e_3968, e⟩ := Option.bind_eq_some_iff.mp e
    refine Rn.call hT rfl rfl rfl (Nat.le_of_ble_eq_true rfl) (rcv_v gX12_isWalk (by omega) (rp_ck hR (T12_o t0))) (RX12_isWalk (by omega) hR t0 p1 p2 p3 e_3968 (fun z_3968 p_3968 => ?_))
    show Rn d _ _ 31 [some (.ref q0), some (.int m1), some (.int m2), some (.int m3), some (.int z_3967)] [.int z_3968] h Q
    by_cases c_3969 : v_3968 = 0
    · rw [if_pos c_3969] at e
      refine Rn.bt hT rfl rfl rfl (decide_eq_true ((ti_e p_3968 L32_0).mpr c_3969)) ?_
      exact Rn.weak (ll_n (ll_n (ll_n (ll_n (ll_n ll_e))))) (RX12_almanac_b41 hd hR hq e)
    · rw [if_neg c_3969] at e
      refine Rn.bf hT rfl rfl rfl (decide_eq_false (fun z => c_3969 ((ti_e p_3968 L32_0).mp z))) ?_
      refine Rn.n hT 2 (pc' := 38) (L' := [some (.ref q0), some (.int m1), some (.int m2), some (.int m3), some (.int z_3967)]) (st' := [.int (10 : Int32), .int z_3967]) rfl ?_
      by_cases c_3970 : v_3967 = 10
      · rw [if_pos c_3970] at e
        refine Rn.bf hT rfl rfl rfl (decide_eq_false (fun z => z ((ti_e p_3967 L32_10).mpr c_3970))) ?_
        exact Rn.weak (ll_n (ll_n (ll_n (ll_n (ll_n ll_e))))) (RX12_almanac_b41 hd hR hq e)
      · rw [if_neg c_3970] at e
        refine Rn.bt hT rfl rfl rfl (decide_eq_true (fun z => c_3970 ((ti_e p_3967 L32_10).mp z))) ?_
        refine Rn.n hT 1 (pc' := 45) (L' := [some (.ref q0), some (.int m1), some (.int m2), some (.int m3), some (.int z_3967)]) (st' := [.ref q0]) rfl ?_
        refine Rn.hp hT rfl rfl (gR_hp (rp_gR hR (T12_o t0) rfl)) ?_
        refine Rn.n hT 2 (pc' := 51) (L' := [some (.ref q0), some (.int m1), some (.int m2), some (.int m3), some (.int z_3967)]) (st' := [.int m1, .int z_3967, .ref (q0 + 11)]) rfl ?_
        obtain ⟨s_3971, e_3972, e⟩ := Option.bind_eq_some_iff.mp e
        obtain ⟨h_3971, g_3972, R_3971⟩ := rp_wI hR (T12_11 t0) (T12_11l t0) p_3967 p1 e_3972
        refine Rn.hp hT rfl rfl (wI_hp g_3972) ?_
        refine Rn.n hT 1 (pc' := 53) (L' := [some (.ref q0), some (.int m1), some (.int m2), some (.int m3), some (.int z_3967)]) (st' := [.ref q0]) rfl ?_
        refine Rn.hp hT rfl rfl (gR_hp (rp_gR R_3971 (T12_o t0) rfl)) ?_
        refine Rn.n hT 4 (pc' := 61) (L' := [some (.ref q0), some (.int m1), some (.int m2), some (.int m3), some (.int z_3967)]) (st' := [.int m3, .int m2, .int m1, .int z_3967, .ref (q0 + 12)]) rfl ?_
        obtain ⟨v_3973, e_3973, e⟩ := Option.bind_eq_some_iff.mp e
        refine Rn.call hT rfl rfl rfl (Nat.le_of_ble_eq_true rfl) rfl (RX12_least (by omega) R_3971 p1 p2 p3 e_3973 (fun z_3973 p_3973 => ?_))
        show Rn d _ _ 64 [some (.ref q0), some (.int m1), some (.int m2), some (.int m3), some (.int z_3967)] [.int z_3973, .int z_3967, .ref (q0 + 12)] h_3971 Q
        obtain ⟨s_3974, e_3975, e⟩ := Option.bind_eq_some_iff.mp e
        obtain ⟨h_3974, g_3975, R_3974⟩ := rp_wI R_3971 (T12_12 t0) (T12_12l t0) p_3967 p_3973 e_3975
        refine Rn.hp hT rfl rfl (wI_hp g_3975) ?_
        refine Rn.n hT 1 (pc' := 66) (L' := [some (.ref q0), some (.int m1), some (.int m2), some (.int m3), some (.int z_3967)]) (st' := [.ref q0]) rfl ?_
        refine Rn.hp hT rfl rfl (gR_hp (rp_gR R_3974 (T12_o t0) rfl)) ?_
        refine Rn.n hT 4 (pc' := 74) (L' := [some (.ref q0), some (.int m1), some (.int m2), some (.int m3), some (.int z_3967)]) (st' := [.int m3, .int m2, .int m1, .int z_3967, .ref (q0 + 13)]) rfl ?_
        obtain ⟨v_3976, e_3976, e⟩ := Option.bind_eq_some_iff.mp e
        refine Rn.call hT rfl rfl rfl (Nat.le_of_ble_eq_true rfl) rfl (RX12_greatest (by omega) R_3974 p1 p2 p3 e_3976 (fun z_3976 p_3976 => ?_))
        show Rn d _ _ 77 [some (.ref q0), some (.int m1), some (.int m2), some (.int m3), some (.int z_3967)] [.int z_3976, .int z_3967, .ref (q0 + 13)] h_3974 Q
        obtain ⟨s_3977, e_3978, e⟩ := Option.bind_eq_some_iff.mp e
        obtain ⟨h_3977, g_3978, R_3977⟩ := rp_wI R_3974 (T12_13 t0) (T12_13l t0) p_3967 p_3976 e_3978
        refine Rn.hp hT rfl rfl (wI_hp g_3978) ?_
        refine Rn.n hT 1 (pc' := 79) (L' := [some (.ref q0), some (.int m1), some (.int m2), some (.int m3), some (.int z_3967)]) (st' := [.ref q0]) rfl ?_
        refine Rn.hp hT rfl rfl (gR_hp (rp_gR R_3977 (T12_o t0) rfl)) ?_
        refine Rn.n hT 2 (pc' := 85) (L' := [some (.ref q0), some (.int m1), some (.int m2), some (.int m3), some (.int z_3967)]) (st' := [.int (8 : Int32), .ref (q0 + 1), .int (8 : Int32), .ref (q0 + 1)]) rfl ?_
        obtain ⟨v_3979, e_3979, e⟩ := Option.bind_eq_some_iff.mp e
        obtain ⟨z_3979, g_3979, p_3979⟩ := rp_aI R_3977 (T12_1 t0) (T12_1l t0) L32_8 e_3979
        refine Rn.hp hT rfl rfl (aI_hp g_3979) ?_
        refine Rn.n hT 2 (pc' := 88) (L' := [some (.ref q0), some (.int m1), some (.int m2), some (.int m3), some (.int z_3967)]) (st' := [.int (z_3979 + (1 : Int32)), .int (8 : Int32), .ref (q0 + 1)]) rfl ?_
        obtain ⟨s_3980, e_3981, e⟩ := Option.bind_eq_some_iff.mp e
        obtain ⟨h_3980, g_3981, R_3980⟩ := rp_wI R_3977 (T12_1 t0) (T12_1l t0) L32_8 (ti_add p_3979 L32_1) e_3981
        refine Rn.hp hT rfl rfl (wI_hp g_3981) ?_
        refine Rn.n hT 3 (pc' := 93) (L' := [some (.ref q0), some (.int m1), some (.int m2), some (.int m3), some (.int z_3967)]) (st' := [.int (z_3967 + (1 : Int32))]) rfl ?_
        obtain rfl := Option.some.inj e
        exact Rn.ret hT rfl rfl rfl (hq (z_3967 + (1 : Int32)) h_3980 (ti_add p_3967 L32_1) R_3980)
set_option maxRecDepth 10000 in
theorem hX12_comesDue : iv_Tb 315 tX12_comesDue := iv_tb_of (m := mX12_comesDue) rfl
set_option maxRecDepth 10000 in
theorem gX12_comesDue : PG.2 315 = some mX12_comesDue := iv_pi_of (t := tX12_comesDue) rfl (by decide)
def FX12_comesDue_b57 (N : Nat) (s : iv_M) (x2 : Int)  : Option (Int × iv_M) := (if x2 = 0 ∨ x2 = 1 then some (x2, s) else none)
set_option maxRecDepth 10000 in
set_option maxHeartbeats 4000000 in
theorem RX12_comesDue_b57 {d N nc Ls : Nat} {Xs : Nat → Int32} (hd : 7 ≤ d) {h : iv_H} {s : iv_M} (hR : Rep nc Ls Xs h s) {m2 : Int32} {x2 : Int} (p2 : m2.toInt = x2)  {r : Int × iv_M} {Q : Option Value → iv_H → Prop} (hq : ∀ (z : Int32) (h1 : iv_H), z.toInt = r.1 → Rep nc Ls Xs h1 r.2 → Q (some (.int z)) h1) (e : FX12_comesDue_b57 N s x2  = some r) : Rn d 315 (some .boolean) 57 [none, none, some (.int m2)] [] h Q := by
  have hT := hX12_comesDue
  unfold FX12_comesDue_b57 at e
  refine Rn.n hT 1 (pc' := 58) (L' := [none, none, some (.int m2)]) (st' := [.int m2]) rfl ?_
  by_cases c_3996 : x2 = 0 ∨ x2 = 1
  · rw [if_pos c_3996] at e
    obtain rfl := Option.some.inj e
    exact Rn.ret hT rfl rfl (if_pos (ti_b p2 c_3996)) (hq m2 h p2 hR)
  · rw [if_neg c_3996] at e
    cases e
def FX12_comesDue_b30 (N : Nat) (s : iv_M) (q0 : Nat) (x1 : Int) (xs0 : Int) : Option (Int × iv_M) := (if xs0 = 0 then (FX12_comesDue_b57 N s xs0) else ((rd s (q0 + 11) 10 x1).bind fun v_3991 => ((rd s (q0 + 12) 10 x1).bind fun v_3992 => ((rd s (q0 + 13) 10 x1).bind fun v_3993 => ((FX12_walks N s q0 v_3991 v_3992 v_3993).bind fun s_3995 => (FX12_comesDue_b57 N s_3995 xs0))))))
set_option maxRecDepth 10000 in
set_option maxHeartbeats 4000000 in
theorem RX12_comesDue_b30 {d N nc Ls : Nat} {Xs : Nat → Int32} (hd : 7 ≤ d) {h : iv_H} {s : iv_M} (hR : Rep nc Ls Xs h s) {q0 : Nat} (t0 : T12 nc q0) {m1 : Int32} {x1 : Int} (p1 : m1.toInt = x1) {ms0 : Int32} {xs0 : Int} (ps0 : ms0.toInt = xs0) {r : Int × iv_M} {Q : Option Value → iv_H → Prop} (hq : ∀ (z : Int32) (h1 : iv_H), z.toInt = r.1 → Rep nc Ls Xs h1 r.2 → Q (some (.int z)) h1) (e : FX12_comesDue_b30 N s q0 x1 xs0 = some r) : Rn d 315 (some .boolean) 30 [some (.ref q0), some (.int m1), none] [.int ms0] h Q := by
  have hT := hX12_comesDue
  unfold FX12_comesDue_b30 at e
  refine Rn.n hT 2 (pc' := 32) (L' := [some (.ref q0), some (.int m1), some (.int ms0)]) (st' := [.int ms0]) rfl ?_
  by_cases c_3990 : xs0 = 0
  · rw [if_pos c_3990] at e
    refine Rn.bt hT rfl rfl rfl (decide_eq_true ((ti_e ps0 L32_0).mpr c_3990)) ?_
    exact Rn.weak (ll_n (ll_n (ll_s ll_e))) (RX12_comesDue_b57 hd hR ps0 hq e)
  · rw [if_neg c_3990] at e
    refine Rn.bf hT rfl rfl rfl (decide_eq_false (fun z => c_3990 ((ti_e ps0 L32_0).mp z))) ?_
    refine Rn.n hT 2 (pc' := 37) (L' := [some (.ref q0), some (.int m1), some (.int ms0)]) (st' := [.ref q0, .ref q0]) rfl ?_
    refine Rn.hp hT rfl rfl (gR_hp (rp_gR hR (T12_o t0) rfl)) ?_
    refine Rn.n hT 1 (pc' := 41) (L' := [some (.ref q0), some (.int m1), some (.int ms0)]) (st' := [.int m1, .ref (q0 + 11), .ref q0]) rfl ?_
    obtain ⟨v_3991, e_3991, e⟩ := Option.bind_eq_some_iff.mp e
    obtain ⟨z_3991, g_3991, p_3991⟩ := rp_aI hR (T12_11 t0) (T12_11l t0) p1 e_3991
    refine Rn.hp hT rfl rfl (aI_hp g_3991) ?_
    refine Rn.n hT 1 (pc' := 43) (L' := [some (.ref q0), some (.int m1), some (.int ms0)]) (st' := [.ref q0, .int z_3991, .ref q0]) rfl ?_
    refine Rn.hp hT rfl rfl (gR_hp (rp_gR hR (T12_o t0) rfl)) ?_
    refine Rn.n hT 1 (pc' := 47) (L' := [some (.ref q0), some (.int m1), some (.int ms0)]) (st' := [.int m1, .ref (q0 + 12), .int z_3991, .ref q0]) rfl ?_
    obtain ⟨v_3992, e_3992, e⟩ := Option.bind_eq_some_iff.mp e
    obtain ⟨z_3992, g_3992, p_3992⟩ := rp_aI hR (T12_12 t0) (T12_12l t0) p1 e_3992
    refine Rn.hp hT rfl rfl (aI_hp g_3992) ?_
    refine Rn.n hT 1 (pc' := 49) (L' := [some (.ref q0), some (.int m1), some (.int ms0)]) (st' := [.ref q0, .int z_3992, .int z_3991, .ref q0]) rfl ?_
    refine Rn.hp hT rfl rfl (gR_hp (rp_gR hR (T12_o t0) rfl)) ?_
    refine Rn.n hT 1 (pc' := 53) (L' := [some (.ref q0), some (.int m1), some (.int ms0)]) (st' := [.int m1, .ref (q0 + 13), .int z_3992, .int z_3991, .ref q0]) rfl ?_
    obtain ⟨v_3993, e_3993, e⟩ := Option.bind_eq_some_iff.mp e
    obtain ⟨z_3993, g_3993, p_3993⟩ := rp_aI hR (T12_13 t0) (T12_13l t0) p1 e_3993
    refine Rn.hp hT rfl rfl (aI_hp g_3993) ?_
    obtain ⟨s_3995, e_3994, e⟩ := Option.bind_eq_some_iff.mp e
    refine Rn.call hT rfl rfl rfl (Nat.le_of_ble_eq_true rfl) (rcv_v gX12_walks (by omega) (rp_ck hR (T12_o t0))) (RX12_walks (by omega) hR t0 p_3991 p_3992 p_3993 e_3994 (fun h_3995 R_3995 => ?_))
    show Rn d _ _ 57 [some (.ref q0), some (.int m1), some (.int ms0)] [] h_3995 Q
    exact Rn.weak (ll_n (ll_n (ll_s ll_e))) (RX12_comesDue_b57 hd R_3995 ps0 hq e)
def FX12_comesDue (N : Nat) (s : iv_M) (q0 : Nat) (x1 : Int) : Option (Int × iv_M) := ((rd s (q0 + 11) 10 x1).bind fun v_3984 => ((rd s (q0 + 12) 10 x1).bind fun v_3985 => ((rd s (q0 + 13) 10 x1).bind fun v_3986 => ((FX12_lawOf N s q0 v_3984 v_3985 v_3986).bind fun r_3987 => (fun (v_3987 : Int) (s_3988 : iv_M) => (if v_3987 = 0 then (FX12_comesDue_b30 N s_3988 q0 x1 1) else (FX12_comesDue_b30 N s_3988 q0 x1 0))) r_3987.1 r_3987.2))))
set_option maxRecDepth 10000 in
set_option maxHeartbeats 4000000 in
theorem RX12_comesDue {d N nc Ls : Nat} {Xs : Nat → Int32} (hd : 8 ≤ d) {h : iv_H} {s : iv_M} (hR : Rep nc Ls Xs h s) {q0 : Nat} (t0 : T12 nc q0) {m1 : Int32} {x1 : Int} (p1 : m1.toInt = x1) {r : Int × iv_M} {Q : Option Value → iv_H → Prop} (e : FX12_comesDue N s q0 x1 = some r) (hq : ∀ (z : Int32) (h1 : iv_H), z.toInt = r.1 → Rep nc Ls Xs h1 r.2 → Q (some (.int z)) h1) : Cl d 315 [.ref q0, .int m1] h Q := by
  obtain ⟨d, rfl⟩ : ∃ k, d = k + 1 := ⟨d - 1, by omega⟩
  have hd : 7 ≤ d := by omega
  have hT := hX12_comesDue
  unfold FX12_comesDue at e
  refine Cl.into (by decide) gX12_comesDue rfl ?_
  show Rn d 315 (some .boolean) 0 [some (.ref q0), some (.int m1), none] [] h Q
  refine Rn.n hT 2 (pc' := 2) (L' := [some (.ref q0), some (.int m1), none]) (st' := [.ref q0, .ref q0]) rfl ?_
  refine Rn.hp hT rfl rfl (gR_hp (rp_gR hR (T12_o t0) rfl)) ?_
  refine Rn.n hT 1 (pc' := 6) (L' := [some (.ref q0), some (.int m1), none]) (st' := [.int m1, .ref (q0 + 11), .ref q0]) rfl ?_
  obtain ⟨v_3984, e_3984, e⟩ := Option.bind_eq_some_iff.mp e
  obtain ⟨z_3984, g_3984, p_3984⟩ := rp_aI hR (T12_11 t0) (T12_11l t0) p1 e_3984
  refine Rn.hp hT rfl rfl (aI_hp g_3984) ?_
  refine Rn.n hT 1 (pc' := 8) (L' := [some (.ref q0), some (.int m1), none]) (st' := [.ref q0, .int z_3984, .ref q0]) rfl ?_
  refine Rn.hp hT rfl rfl (gR_hp (rp_gR hR (T12_o t0) rfl)) ?_
  refine Rn.n hT 1 (pc' := 12) (L' := [some (.ref q0), some (.int m1), none]) (st' := [.int m1, .ref (q0 + 12), .int z_3984, .ref q0]) rfl ?_
  obtain ⟨v_3985, e_3985, e⟩ := Option.bind_eq_some_iff.mp e
  obtain ⟨z_3985, g_3985, p_3985⟩ := rp_aI hR (T12_12 t0) (T12_12l t0) p1 e_3985
  refine Rn.hp hT rfl rfl (aI_hp g_3985) ?_
  refine Rn.n hT 1 (pc' := 14) (L' := [some (.ref q0), some (.int m1), none]) (st' := [.ref q0, .int z_3985, .int z_3984, .ref q0]) rfl ?_
  refine Rn.hp hT rfl rfl (gR_hp (rp_gR hR (T12_o t0) rfl)) ?_
  refine Rn.n hT 1 (pc' := 18) (L' := [some (.ref q0), some (.int m1), none]) (st' := [.int m1, .ref (q0 + 13), .int z_3985, .int z_3984, .ref q0]) rfl ?_
  obtain ⟨v_3986, e_3986, e⟩ := Option.bind_eq_some_iff.mp e
  obtain ⟨z_3986, g_3986, p_3986⟩ := rp_aI hR (T12_13 t0) (T12_13l t0) p1 e_3986
  refine Rn.hp hT rfl rfl (aI_hp g_3986) ?_
  obtain ⟨⟨v_3987, s_3988⟩, e_3987, e⟩ := Option.bind_eq_some_iff.mp e
  try dsimp only at e
  try dsimp only at e
  refine Rn.call hT rfl rfl rfl (Nat.le_of_ble_eq_true rfl) (rcv_v gX12_lawOf (by omega) (rp_ck hR (T12_o t0))) (RX12_lawOf (by omega) hR t0 p_3984 p_3985 p_3986 e_3987 (fun z_3987 h_3988 p_3987 R_3988 => ?_))
  show Rn d _ _ 22 [some (.ref q0), some (.int m1), none] [.int z_3987] h_3988 Q
  by_cases c_3989 : v_3987 = 0
  · rw [if_pos c_3989] at e
    refine Rn.bf hT rfl rfl rfl (decide_eq_false (fun z => z ((ti_e p_3987 L32_0).mpr c_3989))) ?_
    refine Rn.n hT 2 (pc' := 30) (L' := [some (.ref q0), some (.int m1), none]) (st' := [.int (1 : Int32)]) rfl ?_
    exact Rn.weak (ll_s (ll_s (ll_n ll_e))) (RX12_comesDue_b30 hd R_3988 t0 p1 L32_1 hq e)
  · rw [if_neg c_3989] at e
    refine Rn.bt hT rfl rfl rfl (decide_eq_true (fun z => c_3989 ((ti_e p_3987 L32_0).mp z))) ?_
    refine Rn.n hT 1 (pc' := 30) (L' := [some (.ref q0), some (.int m1), none]) (st' := [.int (0 : Int32)]) rfl ?_
    exact Rn.weak (ll_s (ll_s (ll_n ll_e))) (RX12_comesDue_b30 hd R_3988 t0 p1 L32_0 hq e)
set_option maxRecDepth 10000 in
theorem hX12_followsSome : iv_Tb 316 tX12_followsSome := iv_tb_of (m := mX12_followsSome) rfl
set_option maxRecDepth 10000 in
theorem gX12_followsSome : PG.2 316 = some mX12_followsSome := iv_pi_of (t := tX12_followsSome) rfl (by decide)
def FX12_followsSome_l14 (N : Nat) (q0 : Nat) (x1 : Int) (x2 : Int) (kx : iv_M → Option (iv_M)) : Nat → iv_M → Int → Option (iv_M)
  | 0, _, _ => none
  | n + 1, s, x3 => (if 12 ≤ x3 then (kx s) else ((rd s (q0 + 3) 12 x3).bind fun v_4013 => ((wr s (q0 + 49) 132 (w32 ((w32 (12 * x2)) + x3)) v_4013).bind fun s_4014 => (FX12_followsSome_l14 N q0 x1 x2 kx n s_4014 (w32 (x3 + 1))))))
set_option maxRecDepth 10000 in
set_option maxHeartbeats 4000000 in
theorem RX12_followsSome_l14 {d N nc Ls : Nat} {Xs : Nat → Int32} (hd : 8 ≤ d) {q0 : Nat} (t0 : T12 nc q0) {m1 : Int32} {x1 : Int} (p1 : m1.toInt = x1) {m2 : Int32} {x2 : Int} (p2 : m2.toInt = x2) {kx : iv_M → Option (iv_M)} {r : iv_M} {Q : Option Value → iv_H → Prop} (hk : ∀ (h : iv_H) (s : iv_M) (hR : Rep nc Ls Xs h s), kx s = some r → Rn d 316 none 43 [some (.ref q0), some (.int m1), some (.int m2), none] [] h Q) (hq : ∀ h1, Rep nc Ls Xs h1 r → Q none h1) : ∀ (n : Nat) (h : iv_H) (s : iv_M) (hR : Rep nc Ls Xs h s) (m3 : Int32) (x3 : Int) (p3 : m3.toInt = x3), FX12_followsSome_l14 N q0 x1 x2 kx n s x3 = some r → Rn d 316 none 14 [some (.ref q0), some (.int m1), some (.int m2), some (.int m3)] [] h Q := by
  have hT := hX12_followsSome
  intro n
  induction n with
  | zero =>
    intro h s hR m3 x3 p3 e
    rw [FX12_followsSome_l14] at e
    cases e
  | succ n ih =>
    intro h s hR m3 x3 p3 e
    rw [FX12_followsSome_l14] at e
    refine Rn.n hT 2 (pc' := 17) (L' := [some (.ref q0), some (.int m1), some (.int m2), some (.int m3)]) (st' := [.int (12 : Int32), .int m3]) rfl ?_
    by_cases c_4012 : 12 ≤ x3
    · rw [if_pos c_4012] at e
      refine Rn.bt hT rfl rfl rfl (decide_eq_true ((ti_le L32_12 p3).mpr c_4012)) ?_
      exact Rn.weak (ll_s (ll_s (ll_s (ll_n ll_e)))) (hk h s hR e)
    · rw [if_neg c_4012] at e
      refine Rn.bf hT rfl rfl rfl (decide_eq_false (fun z => c_4012 ((ti_le L32_12 p3).mp z))) ?_
      refine Rn.n hT 1 (pc' := 21) (L' := [some (.ref q0), some (.int m1), some (.int m2), some (.int m3)]) (st' := [.ref q0]) rfl ?_
      refine Rn.hp hT rfl rfl (gR_hp (rp_gR hR (T12_o t0) rfl)) ?_
      refine Rn.n hT 6 (pc' := 31) (L' := [some (.ref q0), some (.int m1), some (.int m2), some (.int m3)]) (st' := [.ref q0, .int (((12 : Int32) * m2) + m3), .ref (q0 + 49)]) rfl ?_
      refine Rn.hp hT rfl rfl (gR_hp (rp_gR hR (T12_o t0) rfl)) ?_
      refine Rn.n hT 1 (pc' := 35) (L' := [some (.ref q0), some (.int m1), some (.int m2), some (.int m3)]) (st' := [.int m3, .ref (q0 + 3), .int (((12 : Int32) * m2) + m3), .ref (q0 + 49)]) rfl ?_
      obtain ⟨v_4013, e_4013, e⟩ := Option.bind_eq_some_iff.mp e
      obtain ⟨z_4013, g_4013, p_4013⟩ := rp_aI hR (T12_3 t0) (T12_3l t0) p3 e_4013
      refine Rn.hp hT rfl rfl (aI_hp g_4013) ?_
      obtain ⟨s_4014, e_4015, e⟩ := Option.bind_eq_some_iff.mp e
      obtain ⟨h_4014, g_4015, R_4014⟩ := rp_wI hR (T12_67 t0) (T12_67l t0) (ti_add (ti_mul L32_12 p2) p3) p_4013 e_4015
      refine Rn.hp hT rfl rfl (wI_hp g_4015) ?_
      refine Rn.n hT 2 (pc' := 14) (L' := [some (.ref q0), some (.int m1), some (.int m2), some (.int (m3 + (1 : Int32)))]) (st' := []) rfl ?_
      exact Rn.weak (ll_s (ll_s (ll_s (ll_s ll_e)))) (ih h_4014 s_4014 R_4014 (m3 + (1 : Int32)) (w32 (x3 + 1)) (ti_add p3 L32_1) e)
def FX12_followsSome_b81 (N : Nat) (s : iv_M) (q0 : Nat) (x1 : Int) (x2 : Int)  (kb : iv_M → Int → Option (iv_M)) (kx : iv_M → Option (iv_M)) : Option (iv_M) := (kb s (w32 (x2 + 1)))
set_option maxRecDepth 10000 in
set_option maxHeartbeats 4000000 in
theorem RX12_followsSome_b81 {d N nc Ls : Nat} {Xs : Nat → Int32} (hd : 8 ≤ d) {h : iv_H} {s : iv_M} (hR : Rep nc Ls Xs h s) {q0 : Nat} (t0 : T12 nc q0) {m1 : Int32} {x1 : Int} (p1 : m1.toInt = x1) {m2 : Int32} {x2 : Int} (p2 : m2.toInt = x2)  {kb : iv_M → Int → Option (iv_M)} {kx : iv_M → Option (iv_M)} {r : iv_M} {Q : Option Value → iv_H → Prop} (hb : ∀ (h : iv_H) (s : iv_M) (hR : Rep nc Ls Xs h s) (mw2 : Int32) (xw2 : Int) (pw2 : mw2.toInt = xw2), kb s xw2 = some r → Rn d 316 none 7 [some (.ref q0), some (.int m1), some (.int mw2), none] [] h Q) (hk : ∀ (h : iv_H) (s : iv_M) (hR : Rep nc Ls Xs h s), kx s = some r → Rn d 316 none 87 [some (.ref q0), some (.int m1), none, none] [] h Q) (hq : ∀ h1, Rep nc Ls Xs h1 r → Q none h1) (e : FX12_followsSome_b81 N s q0 x1 x2  kb kx = some r) : Rn d 316 none 81 [some (.ref q0), some (.int m1), some (.int m2), none] [] h Q := by
  have hT := hX12_followsSome
  unfold FX12_followsSome_b81 at e
  refine Rn.n hT 2 (pc' := 7) (L' := [some (.ref q0), some (.int m1), some (.int (m2 + (1 : Int32))), none]) (st' := []) rfl ?_
  exact Rn.weak (ll_s (ll_s (ll_s (ll_n ll_e)))) (hb h s hR (m2 + (1 : Int32)) (w32 (x2 + 1)) (ti_add p2 L32_1) e)
def FX12_followsSome_b66 (N : Nat) (s : iv_M) (q0 : Nat) (x1 : Int) (x2 : Int) (xs0 : Int) (xs1 : Int) (qs2 : Nat) (kb : iv_M → Int → Option (iv_M)) (kx : iv_M → Option (iv_M)) : Option (iv_M) := ((pt s qs2 68 (w32 (xs1 + xs0))).bind fun s_4016 => ((rd s_4016 (q0 + 1) 14 6).bind fun v_4018 => ((wr s_4016 (q0 + 1) 14 6 (w32 (v_4018 + 1))).bind fun s_4019 => (FX12_followsSome_b81 N s_4019 q0 x1 x2 kb kx))))
set_option maxRecDepth 10000 in
set_option maxHeartbeats 4000000 in
theorem RX12_followsSome_b66 {d N nc Ls : Nat} {Xs : Nat → Int32} (hd : 8 ≤ d) {h : iv_H} {s : iv_M} (hR : Rep nc Ls Xs h s) {q0 : Nat} (t0 : T12 nc q0) {m1 : Int32} {x1 : Int} (p1 : m1.toInt = x1) {m2 : Int32} {x2 : Int} (p2 : m2.toInt = x2) {ms0 : Int32} {xs0 : Int} (ps0 : ms0.toInt = xs0) {ms1 : Int32} {xs1 : Int} (ps1 : ms1.toInt = xs1) {qs2 : Nat} (ts2 : T12 nc qs2) {kb : iv_M → Int → Option (iv_M)} {kx : iv_M → Option (iv_M)} {r : iv_M} {Q : Option Value → iv_H → Prop} (hb : ∀ (h : iv_H) (s : iv_M) (hR : Rep nc Ls Xs h s) (mw2 : Int32) (xw2 : Int) (pw2 : mw2.toInt = xw2), kb s xw2 = some r → Rn d 316 none 7 [some (.ref q0), some (.int m1), some (.int mw2), none] [] h Q) (hk : ∀ (h : iv_H) (s : iv_M) (hR : Rep nc Ls Xs h s), kx s = some r → Rn d 316 none 87 [some (.ref q0), some (.int m1), none, none] [] h Q) (hq : ∀ h1, Rep nc Ls Xs h1 r → Q none h1) (e : FX12_followsSome_b66 N s q0 x1 x2 xs0 xs1 qs2 kb kx = some r) : Rn d 316 none 66 [some (.ref q0), some (.int m1), some (.int m2), none] [.int ms0, .int ms1, .ref qs2] h Q := by
  have hT := hX12_followsSome
  unfold FX12_followsSome_b66 at e
  refine Rn.n hT 1 (pc' := 67) (L' := [some (.ref q0), some (.int m1), some (.int m2), none]) (st' := [.int (ms1 + ms0), .ref qs2]) rfl ?_
  obtain ⟨s_4016, e_4017, e⟩ := Option.bind_eq_some_iff.mp e
  obtain ⟨h_4016, g_4017, R_4016⟩ := rp_pI (ci := 12) (k := 68) hR (T12_o ts2) rfl rfl (ti_add ps1 ps0) e_4017
  refine Rn.hp hT rfl rfl (pV_hp rfl g_4017) ?_
  refine Rn.n hT 1 (pc' := 71) (L' := [some (.ref q0), some (.int m1), some (.int m2), none]) (st' := [.ref q0]) rfl ?_
  refine Rn.hp hT rfl rfl (gR_hp (rp_gR R_4016 (T12_o t0) rfl)) ?_
  refine Rn.n hT 2 (pc' := 77) (L' := [some (.ref q0), some (.int m1), some (.int m2), none]) (st' := [.int (6 : Int32), .ref (q0 + 1), .int (6 : Int32), .ref (q0 + 1)]) rfl ?_
  obtain ⟨v_4018, e_4018, e⟩ := Option.bind_eq_some_iff.mp e
  obtain ⟨z_4018, g_4018, p_4018⟩ := rp_aI R_4016 (T12_1 t0) (T12_1l t0) L32_6 e_4018
  refine Rn.hp hT rfl rfl (aI_hp g_4018) ?_
  refine Rn.n hT 2 (pc' := 80) (L' := [some (.ref q0), some (.int m1), some (.int m2), none]) (st' := [.int (z_4018 + (1 : Int32)), .int (6 : Int32), .ref (q0 + 1)]) rfl ?_
  obtain ⟨s_4019, e_4020, e⟩ := Option.bind_eq_some_iff.mp e
  obtain ⟨h_4019, g_4020, R_4019⟩ := rp_wI R_4016 (T12_1 t0) (T12_1l t0) L32_6 (ti_add p_4018 L32_1) e_4020
  refine Rn.hp hT rfl rfl (wI_hp g_4020) ?_
  exact Rn.weak (ll_s (ll_s (ll_s (ll_n ll_e)))) (RX12_followsSome_b81 hd R_4019 t0 p1 p2 hb hk hq e)
def FX12_followsSome_l7 (N : Nat) (q0 : Nat) (x1 : Int) (kx : iv_M → Option (iv_M)) : Nat → iv_M → Int → Option (iv_M)
  | 0, _, _ => none
  | n + 1, s, x2 => (if x1 < x2 then (kx s) else (FX12_followsSome_l14 N q0 x1 x2 (fun (s_4005 : iv_M) => (if x1 ≤ x2 then (FX12_followsSome_b81 N s_4005 q0 x1 x2 (FX12_followsSome_l7 N q0 x1 kx n) kx) else ((FX12_comesDue N s_4005 q0 x2).bind fun r_4009 => (fun (v_4009 : Int) (s_4010 : iv_M) => (if v_4009 = 0 then (FX12_followsSome_b66 N s_4010 q0 x1 x2 1 (s_4005 q0 68) q0 (FX12_followsSome_l7 N q0 x1 kx n) kx) else (FX12_followsSome_b66 N s_4010 q0 x1 x2 0 (s_4005 q0 68) q0 (FX12_followsSome_l7 N q0 x1 kx n) kx))) r_4009.1 r_4009.2))) N s 0))
set_option maxRecDepth 10000 in
set_option maxHeartbeats 4000000 in
theorem RX12_followsSome_l7 {d N nc Ls : Nat} {Xs : Nat → Int32} (hd : 8 ≤ d) {q0 : Nat} (t0 : T12 nc q0) {m1 : Int32} {x1 : Int} (p1 : m1.toInt = x1) {kx : iv_M → Option (iv_M)} {r : iv_M} {Q : Option Value → iv_H → Prop} (hk : ∀ (h : iv_H) (s : iv_M) (hR : Rep nc Ls Xs h s), kx s = some r → Rn d 316 none 87 [some (.ref q0), some (.int m1), none, none] [] h Q) (hq : ∀ h1, Rep nc Ls Xs h1 r → Q none h1) : ∀ (n : Nat) (h : iv_H) (s : iv_M) (hR : Rep nc Ls Xs h s) (m2 : Int32) (x2 : Int) (p2 : m2.toInt = x2), FX12_followsSome_l7 N q0 x1 kx n s x2 = some r → Rn d 316 none 7 [some (.ref q0), some (.int m1), some (.int m2), none] [] h Q := by
  have hT := hX12_followsSome
  intro n
  induction n with
  | zero =>
    intro h s hR m2 x2 p2 e
    rw [FX12_followsSome_l7] at e
    cases e
  | succ n ih =>
    intro h s hR m2 x2 p2 e
    rw [FX12_followsSome_l7] at e
    refine Rn.n hT 2 (pc' := 9) (L' := [some (.ref q0), some (.int m1), some (.int m2), none]) (st' := [.int m1, .int m2]) rfl ?_
    by_cases c_4004 : x1 < x2
    · rw [if_pos c_4004] at e
      refine Rn.bt hT rfl rfl rfl (decide_eq_true ((ti_l p1 p2).mpr c_4004)) ?_
      exact Rn.weak (ll_s (ll_s (ll_n (ll_n ll_e)))) (hk h s hR e)
    · rw [if_neg c_4004] at e
      refine Rn.bf hT rfl rfl rfl (decide_eq_false (fun z => c_4004 ((ti_l p1 p2).mp z))) ?_
      refine Rn.n hT 2 (pc' := 14) (L' := [some (.ref q0), some (.int m1), some (.int m2), some (.int (0 : Int32))]) (st' := []) rfl ?_
      refine Rn.weak (ll_s (ll_s (ll_s (ll_s ll_e)))) (RX12_followsSome_l14 hd t0 p1 p2 (fun h_4005 s_4005 R_4005 e => ?_) hq N h s hR (0 : Int32) 0 L32_0 e)
      try dsimp only at e
      refine Rn.n hT 2 (pc' := 45) (L' := [some (.ref q0), some (.int m1), some (.int m2), none]) (st' := [.int m1, .int m2]) rfl ?_
      by_cases c_4007 : x1 ≤ x2
      · rw [if_pos c_4007] at e
        refine Rn.bt hT rfl rfl rfl (decide_eq_true ((ti_le p1 p2).mpr c_4007)) ?_
        exact Rn.weak (ll_s (ll_s (ll_s (ll_n ll_e)))) (RX12_followsSome_b81 hd R_4005 t0 p1 p2 ih hk hq e)
      · rw [if_neg c_4007] at e
        refine Rn.bf hT rfl rfl rfl (decide_eq_false (fun z => c_4007 ((ti_le p1 p2).mp z))) ?_
        refine Rn.n hT 2 (pc' := 50) (L' := [some (.ref q0), some (.int m1), some (.int m2), none]) (st' := [.ref q0, .ref q0]) rfl ?_
        obtain ⟨z_4008, g_4008, p_4008⟩ : ∃ z : Int32, gI h_4005 12 68 q0 = some z ∧ z.toInt = s_4005 q0 68 := rp_gI (k := 68) R_4005 (T12_o t0) rfl
        refine Rn.hp hT rfl rfl (gI_hp g_4008) ?_
        refine Rn.n hT 2 (pc' := 55) (L' := [some (.ref q0), some (.int m1), some (.int m2), none]) (st' := [.int m2, .ref q0, .int z_4008, .ref q0]) rfl ?_
        obtain ⟨⟨v_4009, s_4010⟩, e_4009, e⟩ := Option.bind_eq_some_iff.mp e
        try dsimp only at e
        try dsimp only at e
        refine Rn.call hT rfl rfl rfl (Nat.le_of_ble_eq_true rfl) (rcv_v gX12_comesDue (by omega) (rp_ck R_4005 (T12_o t0))) (RX12_comesDue (by omega) R_4005 t0 p2 e_4009 (fun z_4009 h_4010 p_4009 R_4010 => ?_))
        show Rn d _ _ 58 [some (.ref q0), some (.int m1), some (.int m2), none] [.int z_4009, .int z_4008, .ref q0] h_4010 Q
        by_cases c_4011 : v_4009 = 0
        · rw [if_pos c_4011] at e
          refine Rn.bt hT rfl rfl rfl (decide_eq_true ((ti_e p_4009 L32_0).mpr c_4011)) ?_
          refine Rn.n hT 1 (pc' := 66) (L' := [some (.ref q0), some (.int m1), some (.int m2), none]) (st' := [.int (1 : Int32), .int z_4008, .ref q0]) rfl ?_
          exact Rn.weak (ll_s (ll_s (ll_s (ll_n ll_e)))) (RX12_followsSome_b66 hd R_4010 t0 p1 p2 L32_1 p_4008 t0 ih hk hq e)
        · rw [if_neg c_4011] at e
          refine Rn.bf hT rfl rfl rfl (decide_eq_false (fun z => c_4011 ((ti_e p_4009 L32_0).mp z))) ?_
          refine Rn.n hT 2 (pc' := 66) (L' := [some (.ref q0), some (.int m1), some (.int m2), none]) (st' := [.int (0 : Int32), .int z_4008, .ref q0]) rfl ?_
          exact Rn.weak (ll_s (ll_s (ll_s (ll_n ll_e)))) (RX12_followsSome_b66 hd R_4010 t0 p1 p2 L32_0 p_4008 t0 ih hk hq e)
def FX12_followsSome (N : Nat) (s : iv_M) (q0 : Nat) (x1 : Int) : Option (iv_M) := ((pt s q0 68 0).bind fun s_3997 => (FX12_followsSome_l7 N q0 x1 (fun (s_3999 : iv_M) => ((rd s_3999 (q0 + 1) 14 6).bind fun v_4001 => ((wr s_3999 (q0 + 1) 14 6 (w32 (v_4001 - x1))).bind fun s_4002 => some s_4002))) N s_3997 0))
set_option maxRecDepth 10000 in
set_option maxHeartbeats 4000000 in
theorem RX12_followsSome {d N nc Ls : Nat} {Xs : Nat → Int32} (hd : 9 ≤ d) {h : iv_H} {s : iv_M} (hR : Rep nc Ls Xs h s) {q0 : Nat} (t0 : T12 nc q0) {m1 : Int32} {x1 : Int} (p1 : m1.toInt = x1) {r : iv_M} {Q : Option Value → iv_H → Prop} (e : FX12_followsSome N s q0 x1 = some r) (hq : ∀ h1, Rep nc Ls Xs h1 r → Q none h1) : Cl d 316 [.ref q0, .int m1] h Q := by
  obtain ⟨d, rfl⟩ : ∃ k, d = k + 1 := ⟨d - 1, by omega⟩
  have hd : 8 ≤ d := by omega
  have hT := hX12_followsSome
  unfold FX12_followsSome at e
  refine Cl.into (by decide) gX12_followsSome rfl ?_
  show Rn d 316 none 0 [some (.ref q0), some (.int m1), none, none] [] h Q
  refine Rn.n hT 2 (pc' := 2) (L' := [some (.ref q0), some (.int m1), none, none]) (st' := [.int (0 : Int32), .ref q0]) rfl ?_
  obtain ⟨s_3997, e_3998, e⟩ := Option.bind_eq_some_iff.mp e
  obtain ⟨h_3997, g_3998, R_3997⟩ := rp_pI (ci := 12) (k := 68) hR (T12_o t0) rfl rfl L32_0 e_3998
  refine Rn.hp hT rfl rfl (pV_hp rfl g_3998) ?_
  refine Rn.n hT 2 (pc' := 7) (L' := [some (.ref q0), some (.int m1), some (.int (0 : Int32)), none]) (st' := []) rfl ?_
  refine Rn.weak (ll_s (ll_s (ll_s (ll_n ll_e)))) (RX12_followsSome_l7 hd t0 p1 (fun h_3999 s_3999 R_3999 e => ?_) hq N h_3997 s_3997 R_3997 (0 : Int32) 0 L32_0 e)
  try dsimp only at e
  refine Rn.n hT 1 (pc' := 88) (L' := [some (.ref q0), some (.int m1), none, none]) (st' := [.ref q0]) rfl ?_
  refine Rn.hp hT rfl rfl (gR_hp (rp_gR R_3999 (T12_o t0) rfl)) ?_
  refine Rn.n hT 2 (pc' := 94) (L' := [some (.ref q0), some (.int m1), none, none]) (st' := [.int (6 : Int32), .ref (q0 + 1), .int (6 : Int32), .ref (q0 + 1)]) rfl ?_
  obtain ⟨v_4001, e_4001, e⟩ := Option.bind_eq_some_iff.mp e
  obtain ⟨z_4001, g_4001, p_4001⟩ := rp_aI R_3999 (T12_1 t0) (T12_1l t0) L32_6 e_4001
  refine Rn.hp hT rfl rfl (aI_hp g_4001) ?_
  refine Rn.n hT 2 (pc' := 97) (L' := [some (.ref q0), some (.int m1), none, none]) (st' := [.int (z_4001 - m1), .int (6 : Int32), .ref (q0 + 1)]) rfl ?_
  obtain ⟨s_4002, e_4003, e⟩ := Option.bind_eq_some_iff.mp e
  obtain ⟨h_4002, g_4003, R_4002⟩ := rp_wI R_3999 (T12_1 t0) (T12_1l t0) L32_6 (ti_sub p_4001 p1) e_4003
  refine Rn.hp hT rfl rfl (wI_hp g_4003) ?_
  obtain rfl := Option.some.inj e
  exact Rn.ret hT rfl rfl rfl (hq h_4002 R_4002)
set_option maxRecDepth 10000 in
theorem hX12_would : iv_Tb 317 tX12_would := iv_tb_of (m := mX12_would) rfl
set_option maxRecDepth 10000 in
theorem gX12_would : PG.2 317 = some mX12_would := iv_pi_of (t := tX12_would) rfl (by decide)
def FX12_would_b37 (N : Nat) (s : iv_M)   : Option (Int × iv_M) := (some ((-1), s))
set_option maxRecDepth 10000 in
set_option maxHeartbeats 4000000 in
theorem RX12_would_b37 {d N nc Ls : Nat} {Xs : Nat → Int32} (hd : 9 ≤ d) {h : iv_H} {s : iv_M} (hR : Rep nc Ls Xs h s)   {r : Int × iv_M} {Q : Option Value → iv_H → Prop} (hq : ∀ (z : Int32) (h1 : iv_H), z.toInt = r.1 → Rep nc Ls Xs h1 r.2 → Q (some (.int z)) h1) (e : FX12_would_b37 N s   = some r) : Rn d 317 (some .int) 37 [none, none, none, none, none] [] h Q := by
  have hT := hX12_would
  unfold FX12_would_b37 at e
  refine Rn.n hT 1 (pc' := 38) (L' := [none, none, none, none, none]) (st' := [.int (-1 : Int32)]) rfl ?_
  obtain rfl := Option.some.inj e
  exact Rn.ret hT rfl rfl rfl (hq (-1 : Int32) h L32_m1 hR)
def FX12_would_b84 (N : Nat) (s : iv_M) (q0 : Nat) (xs0 : Int) : Option (Int × iv_M) := ((FX12_laysFloor N s q0 (q0 + 41) 0).bind fun s_4038 => (some (xs0, s_4038)))
set_option maxRecDepth 10000 in
set_option maxHeartbeats 4000000 in
theorem RX12_would_b84 {d N nc Ls : Nat} {Xs : Nat → Int32} (hd : 9 ≤ d) {h : iv_H} {s : iv_M} (hR : Rep nc Ls Xs h s) {q0 : Nat} (t0 : T12 nc q0) {ms0 : Int32} {xs0 : Int} (ps0 : ms0.toInt = xs0) {r : Int × iv_M} {Q : Option Value → iv_H → Prop} (hq : ∀ (z : Int32) (h1 : iv_H), z.toInt = r.1 → Rep nc Ls Xs h1 r.2 → Q (some (.int z)) h1) (e : FX12_would_b84 N s q0 xs0 = some r) : Rn d 317 (some .int) 84 [some (.ref q0), none, none, none, none] [.int ms0] h Q := by
  have hT := hX12_would
  unfold FX12_would_b84 at e
  refine Rn.n hT 3 (pc' := 88) (L' := [some (.ref q0), none, none, none, some (.int ms0)]) (st' := [.ref q0, .ref q0]) rfl ?_
  refine Rn.hp hT rfl rfl (gR_hp (rp_gR hR (T12_o t0) rfl)) ?_
  refine Rn.n hT 1 (pc' := 92) (L' := [some (.ref q0), none, none, none, some (.int ms0)]) (st' := [.int (0 : Int32), .ref (q0 + 41), .ref q0]) rfl ?_
  obtain ⟨s_4038, e_4037, e⟩ := Option.bind_eq_some_iff.mp e
  refine Rn.call hT rfl rfl rfl (Nat.le_of_ble_eq_true rfl) (rcv_v gX12_laysFloor (by omega) (rp_ck hR (T12_o t0))) (RX12_laysFloor (by omega) hR t0 (T12_55 t0) L32_0 e_4037 (fun h_4038 R_4038 => ?_))
  show Rn d _ _ 95 [some (.ref q0), none, none, none, some (.int ms0)] [] h_4038 Q
  refine Rn.n hT 1 (pc' := 97) (L' := [some (.ref q0), none, none, none, some (.int ms0)]) (st' := [.int ms0]) rfl ?_
  obtain rfl := Option.some.inj e
  exact Rn.ret hT rfl rfl rfl (hq ms0 h_4038 ps0 R_4038)
def FX12_would (N : Nat) (s : iv_M) (q0 : Nat) (x1 : Int) (x2 : Int) (x3 : Int) : Option (Int × iv_M) := ((FX12_isRoom N s q0 x1).bind fun v_4021 => (if v_4021 = 0 then (FX12_would_b37 N s) else ((rd s (q0 + 1) 14 8).bind fun v_4023 => ((FX12_in N s x2 0 v_4023).bind fun v_4024 => (if v_4024 = 0 then (FX12_would_b37 N s) else ((FX12_in N s x3 0 2).bind fun v_4026 => (if v_4026 = 0 then (FX12_would_b37 N s) else ((FX12_fillsFloor N s q0 (q0 + 41) 0).bind fun s_4029 => ((FX12_followsSome N s_4029 q0 x2).bind fun s_4031 => (if x3 = 0 then ((rd s_4031 (q0 + 3) 12 x1).bind fun v_4036 => (FX12_would_b84 N s_4031 q0 v_4036)) else (if x3 = 1 then ((rd s_4031 (q0 + 4) 12 x1).bind fun v_4035 => (FX12_would_b84 N s_4031 q0 v_4035)) else (FX12_would_b84 N s_4031 q0 (s_4031 q0 68)))))))))))))
set_option maxRecDepth 10000 in
set_option maxHeartbeats 4000000 in
theorem RX12_would {d N nc Ls : Nat} {Xs : Nat → Int32} (hd : 10 ≤ d) {h : iv_H} {s : iv_M} (hR : Rep nc Ls Xs h s) {q0 : Nat} (t0 : T12 nc q0) {m1 : Int32} {x1 : Int} (p1 : m1.toInt = x1) {m2 : Int32} {x2 : Int} (p2 : m2.toInt = x2) {m3 : Int32} {x3 : Int} (p3 : m3.toInt = x3) {r : Int × iv_M} {Q : Option Value → iv_H → Prop} (e : FX12_would N s q0 x1 x2 x3 = some r) (hq : ∀ (z : Int32) (h1 : iv_H), z.toInt = r.1 → Rep nc Ls Xs h1 r.2 → Q (some (.int z)) h1) : Cl d 317 [.ref q0, .int m1, .int m2, .int m3] h Q := by
  obtain ⟨d, rfl⟩ : ∃ k, d = k + 1 := ⟨d - 1, by omega⟩
  have hd : 9 ≤ d := by omega
  have hT := hX12_would
  unfold FX12_would at e
  refine Cl.into (by decide) gX12_would rfl ?_
  show Rn d 317 (some .int) 0 [some (.ref q0), some (.int m1), some (.int m2), some (.int m3), none] [] h Q
  refine Rn.n hT 2 (pc' := 2) (L' := [some (.ref q0), some (.int m1), some (.int m2), some (.int m3), none]) (st' := [.int m1, .ref q0]) rfl ?_
  obtain ⟨v_4021, e_4021, e⟩ := Option.bind_eq_some_iff.mp e
  refine Rn.call hT rfl rfl rfl (Nat.le_of_ble_eq_true rfl) (rcv_v gX12_isRoom (by omega) (rp_ck hR (T12_o t0))) (RX12_isRoom (by omega) hR t0 p1 e_4021 (fun z_4021 p_4021 => ?_))
  show Rn d _ _ 5 [some (.ref q0), some (.int m1), some (.int m2), some (.int m3), none] [.int z_4021] h Q
  by_cases c_4022 : v_4021 = 0
  · rw [if_pos c_4022] at e
    refine Rn.bt hT rfl rfl rfl (decide_eq_true ((ti_e p_4021 L32_0).mpr c_4022)) ?_
    exact Rn.weak (ll_n (ll_n (ll_n (ll_n (ll_n ll_e))))) (RX12_would_b37 hd hR hq e)
  · rw [if_neg c_4022] at e
    refine Rn.bf hT rfl rfl rfl (decide_eq_false (fun z => c_4022 ((ti_e p_4021 L32_0).mp z))) ?_
    refine Rn.n hT 4 (pc' := 12) (L' := [some (.ref q0), some (.int m1), some (.int m2), some (.int m3), none]) (st' := [.ref q0, .long (0 : Int64), .long ((m2).toInt64)]) rfl ?_
    refine Rn.hp hT rfl rfl (gR_hp (rp_gR hR (T12_o t0) rfl)) ?_
    refine Rn.n hT 1 (pc' := 17) (L' := [some (.ref q0), some (.int m1), some (.int m2), some (.int m3), none]) (st' := [.int (8 : Int32), .ref (q0 + 1), .long (0 : Int64), .long ((m2).toInt64)]) rfl ?_
    obtain ⟨v_4023, e_4023, e⟩ := Option.bind_eq_some_iff.mp e
    obtain ⟨z_4023, g_4023, p_4023⟩ := rp_aI hR (T12_1 t0) (T12_1l t0) L32_8 e_4023
    refine Rn.hp hT rfl rfl (aI_hp g_4023) ?_
    refine Rn.n hT 1 (pc' := 19) (L' := [some (.ref q0), some (.int m1), some (.int m2), some (.int m3), none]) (st' := [.long ((z_4023).toInt64), .long (0 : Int64), .long ((m2).toInt64)]) rfl ?_
    obtain ⟨v_4024, e_4024, e⟩ := Option.bind_eq_some_iff.mp e
    refine Rn.call hT rfl rfl rfl (Nat.le_of_ble_eq_true rfl) rfl (RX12_in (by omega) hR (ti_j p2) L64_0 (ti_j p_4023) e_4024 (fun z_4024 p_4024 => ?_))
    show Rn d _ _ 22 [some (.ref q0), some (.int m1), some (.int m2), some (.int m3), none] [.int z_4024] h Q
    by_cases c_4025 : v_4024 = 0
    · rw [if_pos c_4025] at e
      refine Rn.bt hT rfl rfl rfl (decide_eq_true ((ti_e p_4024 L32_0).mpr c_4025)) ?_
      exact Rn.weak (ll_n (ll_n (ll_n (ll_n (ll_n ll_e))))) (RX12_would_b37 hd hR hq e)
    · rw [if_neg c_4025] at e
      refine Rn.bf hT rfl rfl rfl (decide_eq_false (fun z => c_4025 ((ti_e p_4024 L32_0).mp z))) ?_
      refine Rn.n hT 4 (pc' := 31) (L' := [some (.ref q0), some (.int m1), some (.int m2), some (.int m3), none]) (st' := [.long (2 : Int64), .long (0 : Int64), .long ((m3).toInt64)]) rfl ?_
      obtain ⟨v_4026, e_4026, e⟩ := Option.bind_eq_some_iff.mp e
      refine Rn.call hT rfl rfl rfl (Nat.le_of_ble_eq_true rfl) rfl (RX12_in (by omega) hR (ti_j p3) L64_0 L64_2 e_4026 (fun z_4026 p_4026 => ?_))
      show Rn d _ _ 34 [some (.ref q0), some (.int m1), some (.int m2), some (.int m3), none] [.int z_4026] h Q
      by_cases c_4027 : v_4026 = 0
      · rw [if_pos c_4027] at e
        refine Rn.bf hT rfl rfl rfl (decide_eq_false (fun z => z ((ti_e p_4026 L32_0).mpr c_4027))) ?_
        exact Rn.weak (ll_n (ll_n (ll_n (ll_n (ll_n ll_e))))) (RX12_would_b37 hd hR hq e)
      · rw [if_neg c_4027] at e
        refine Rn.bt hT rfl rfl rfl (decide_eq_true (fun z => c_4027 ((ti_e p_4026 L32_0).mp z))) ?_
        refine Rn.n hT 2 (pc' := 41) (L' := [some (.ref q0), some (.int m1), some (.int m2), some (.int m3), none]) (st' := [.ref q0, .ref q0]) rfl ?_
        refine Rn.hp hT rfl rfl (gR_hp (rp_gR hR (T12_o t0) rfl)) ?_
        refine Rn.n hT 1 (pc' := 45) (L' := [some (.ref q0), some (.int m1), some (.int m2), some (.int m3), none]) (st' := [.int (0 : Int32), .ref (q0 + 41), .ref q0]) rfl ?_
        obtain ⟨s_4029, e_4028, e⟩ := Option.bind_eq_some_iff.mp e
        refine Rn.call hT rfl rfl rfl (Nat.le_of_ble_eq_true rfl) (rcv_v gX12_fillsFloor (by omega) (rp_ck hR (T12_o t0))) (RX12_fillsFloor (by omega) hR t0 (T12_55 t0) L32_0 e_4028 (fun h_4029 R_4029 => ?_))
        show Rn d _ _ 48 [some (.ref q0), some (.int m1), some (.int m2), some (.int m3), none] [] h_4029 Q
        refine Rn.n hT 2 (pc' := 50) (L' := [some (.ref q0), some (.int m1), some (.int m2), some (.int m3), none]) (st' := [.int m2, .ref q0]) rfl ?_
        obtain ⟨s_4031, e_4030, e⟩ := Option.bind_eq_some_iff.mp e
        refine Rn.call hT rfl rfl rfl (Nat.le_of_ble_eq_true rfl) (rcv_v gX12_followsSome (by omega) (rp_ck R_4029 (T12_o t0))) (RX12_followsSome (by omega) R_4029 t0 p2 e_4030 (fun h_4031 R_4031 => ?_))
        show Rn d _ _ 53 [some (.ref q0), some (.int m1), some (.int m2), some (.int m3), none] [] h_4031 Q
        refine Rn.n hT 1 (pc' := 54) (L' := [some (.ref q0), some (.int m1), some (.int m2), some (.int m3), none]) (st' := [.int m3]) rfl ?_
        by_cases c_4032 : x3 = 0
        · rw [if_pos c_4032] at e
          refine Rn.bf hT rfl rfl rfl (decide_eq_false (fun z => z ((ti_e p3 L32_0).mpr c_4032))) ?_
          refine Rn.n hT 1 (pc' := 58) (L' := [some (.ref q0), some (.int m1), some (.int m2), some (.int m3), none]) (st' := [.ref q0]) rfl ?_
          refine Rn.hp hT rfl rfl (gR_hp (rp_gR R_4031 (T12_o t0) rfl)) ?_
          refine Rn.n hT 1 (pc' := 62) (L' := [some (.ref q0), some (.int m1), some (.int m2), some (.int m3), none]) (st' := [.int m1, .ref (q0 + 3)]) rfl ?_
          obtain ⟨v_4036, e_4036, e⟩ := Option.bind_eq_some_iff.mp e
          obtain ⟨z_4036, g_4036, p_4036⟩ := rp_aI R_4031 (T12_3 t0) (T12_3l t0) p1 e_4036
          refine Rn.hp hT rfl rfl (aI_hp g_4036) ?_
          refine Rn.n hT 1 (pc' := 84) (L' := [some (.ref q0), some (.int m1), some (.int m2), some (.int m3), none]) (st' := [.int z_4036]) rfl ?_
          exact Rn.weak (ll_s (ll_n (ll_n (ll_n (ll_n ll_e))))) (RX12_would_b84 hd R_4031 t0 p_4036 hq e)
        · rw [if_neg c_4032] at e
          refine Rn.bt hT rfl rfl rfl (decide_eq_true (fun z => c_4032 ((ti_e p3 L32_0).mp z))) ?_
          refine Rn.n hT 2 (pc' := 68) (L' := [some (.ref q0), some (.int m1), some (.int m2), some (.int m3), none]) (st' := [.int (1 : Int32), .int m3]) rfl ?_
          by_cases c_4033 : x3 = 1
          · rw [if_pos c_4033] at e
            refine Rn.bf hT rfl rfl rfl (decide_eq_false (fun z => z ((ti_e p3 L32_1).mpr c_4033))) ?_
            refine Rn.n hT 1 (pc' := 72) (L' := [some (.ref q0), some (.int m1), some (.int m2), some (.int m3), none]) (st' := [.ref q0]) rfl ?_
            refine Rn.hp hT rfl rfl (gR_hp (rp_gR R_4031 (T12_o t0) rfl)) ?_
            refine Rn.n hT 1 (pc' := 76) (L' := [some (.ref q0), some (.int m1), some (.int m2), some (.int m3), none]) (st' := [.int m1, .ref (q0 + 4)]) rfl ?_
            obtain ⟨v_4035, e_4035, e⟩ := Option.bind_eq_some_iff.mp e
            obtain ⟨z_4035, g_4035, p_4035⟩ := rp_aI R_4031 (T12_4 t0) (T12_4l t0) p1 e_4035
            refine Rn.hp hT rfl rfl (aI_hp g_4035) ?_
            refine Rn.n hT 1 (pc' := 84) (L' := [some (.ref q0), some (.int m1), some (.int m2), some (.int m3), none]) (st' := [.int z_4035]) rfl ?_
            exact Rn.weak (ll_s (ll_n (ll_n (ll_n (ll_n ll_e))))) (RX12_would_b84 hd R_4031 t0 p_4035 hq e)
          · rw [if_neg c_4033] at e
            refine Rn.bt hT rfl rfl rfl (decide_eq_true (fun z => c_4033 ((ti_e p3 L32_1).mp z))) ?_
            refine Rn.n hT 1 (pc' := 81) (L' := [some (.ref q0), some (.int m1), some (.int m2), some (.int m3), none]) (st' := [.ref q0]) rfl ?_
            obtain ⟨z_4034, g_4034, p_4034⟩ : ∃ z : Int32, gI h_4031 12 68 q0 = some z ∧ z.toInt = s_4031 q0 68 := rp_gI (k := 68) R_4031 (T12_o t0) rfl
            refine Rn.hp hT rfl rfl (gI_hp g_4034) ?_
            exact Rn.weak (ll_s (ll_n (ll_n (ll_n (ll_n ll_e))))) (RX12_would_b84 hd R_4031 t0 p_4034 hq e)
set_option maxRecDepth 10000 in
theorem hX12_follow : iv_Tb 318 tX12_follow := iv_tb_of (m := mX12_follow) rfl
set_option maxRecDepth 10000 in
theorem gX12_follow : PG.2 318 = some mX12_follow := iv_pi_of (t := tX12_follow) rfl (by decide)
def FX12_follow_b95 (N : Nat) (s : iv_M) (q0 : Nat) (x2 : Int) (xs0 : Int) (xs1 : Int) (kb : iv_M → Int → Int → Option (Int × iv_M)) (kx : iv_M → Int → Option (Int × iv_M)) : Option (Int × iv_M) := (kb s (w32 (xs1 + xs0)) (w32 (x2 + 1)))
set_option maxRecDepth 10000 in
set_option maxHeartbeats 4000000 in
theorem RX12_follow_b95 {d N nc Ls : Nat} {Xs : Nat → Int32} (hd : 7 ≤ d) {h : iv_H} {s : iv_M} (hR : Rep nc Ls Xs h s) {q0 : Nat} (t0 : T12 nc q0) {m2 : Int32} {x2 : Int} (p2 : m2.toInt = x2) {ms0 : Int32} {xs0 : Int} (ps0 : ms0.toInt = xs0) {ms1 : Int32} {xs1 : Int} (ps1 : ms1.toInt = xs1) {kb : iv_M → Int → Int → Option (Int × iv_M)} {kx : iv_M → Int → Option (Int × iv_M)} {r : Int × iv_M} {Q : Option Value → iv_H → Prop} (hb : ∀ (h : iv_H) (s : iv_M) (hR : Rep nc Ls Xs h s) (mw1 : Int32) (xw1 : Int) (pw1 : mw1.toInt = xw1) (mw2 : Int32) (xw2 : Int) (pw2 : mw2.toInt = xw2), kb s xw1 xw2 = some r → Rn d 318 (some .int) 13 [some (.ref q0), some (.int mw1), some (.int mw2), none] [] h Q) (hk : ∀ (h : iv_H) (s : iv_M) (hR : Rep nc Ls Xs h s) (mw1 : Int32) (xw1 : Int) (pw1 : mw1.toInt = xw1), kx s xw1 = some r → Rn d 318 (some .int) 103 [some (.ref q0), some (.int mw1), none, none] [] h Q) (hq : ∀ (z : Int32) (h1 : iv_H), z.toInt = r.1 → Rep nc Ls Xs h1 r.2 → Q (some (.int z)) h1) (e : FX12_follow_b95 N s q0 x2 xs0 xs1 kb kx = some r) : Rn d 318 (some .int) 95 [some (.ref q0), none, some (.int m2), none] [.int ms0, .int ms1] h Q := by
  have hT := hX12_follow
  unfold FX12_follow_b95 at e
  refine Rn.n hT 4 (pc' := 13) (L' := [some (.ref q0), some (.int (ms1 + ms0)), some (.int (m2 + (1 : Int32))), none]) (st' := []) rfl ?_
  exact Rn.weak (ll_s (ll_s (ll_s (ll_n ll_e)))) (hb h s hR (ms1 + ms0) (w32 (xs1 + xs0)) (ti_add ps1 ps0) (m2 + (1 : Int32)) (w32 (x2 + 1)) (ti_add p2 L32_1) e)
def FX12_follow_b85 (N : Nat) (s : iv_M) (q0 : Nat) (x1 : Int) (x2 : Int) (x3 : Int)  (kb : iv_M → Int → Int → Option (Int × iv_M)) (kx : iv_M → Int → Option (Int × iv_M)) : Option (Int × iv_M) := (if x3 = 0 then (FX12_follow_b95 N s q0 x2 1 x1 kb kx) else (FX12_follow_b95 N s q0 x2 0 x1 kb kx))
set_option maxRecDepth 10000 in
set_option maxHeartbeats 4000000 in
theorem RX12_follow_b85 {d N nc Ls : Nat} {Xs : Nat → Int32} (hd : 7 ≤ d) {h : iv_H} {s : iv_M} (hR : Rep nc Ls Xs h s) {q0 : Nat} (t0 : T12 nc q0) {m1 : Int32} {x1 : Int} (p1 : m1.toInt = x1) {m2 : Int32} {x2 : Int} (p2 : m2.toInt = x2) {m3 : Int32} {x3 : Int} (p3 : m3.toInt = x3)  {kb : iv_M → Int → Int → Option (Int × iv_M)} {kx : iv_M → Int → Option (Int × iv_M)} {r : Int × iv_M} {Q : Option Value → iv_H → Prop} (hb : ∀ (h : iv_H) (s : iv_M) (hR : Rep nc Ls Xs h s) (mw1 : Int32) (xw1 : Int) (pw1 : mw1.toInt = xw1) (mw2 : Int32) (xw2 : Int) (pw2 : mw2.toInt = xw2), kb s xw1 xw2 = some r → Rn d 318 (some .int) 13 [some (.ref q0), some (.int mw1), some (.int mw2), none] [] h Q) (hk : ∀ (h : iv_H) (s : iv_M) (hR : Rep nc Ls Xs h s) (mw1 : Int32) (xw1 : Int) (pw1 : mw1.toInt = xw1), kx s xw1 = some r → Rn d 318 (some .int) 103 [some (.ref q0), some (.int mw1), none, none] [] h Q) (hq : ∀ (z : Int32) (h1 : iv_H), z.toInt = r.1 → Rep nc Ls Xs h1 r.2 → Q (some (.int z)) h1) (e : FX12_follow_b85 N s q0 x1 x2 x3  kb kx = some r) : Rn d 318 (some .int) 85 [some (.ref q0), some (.int m1), some (.int m2), some (.int m3)] [] h Q := by
  have hT := hX12_follow
  unfold FX12_follow_b85 at e
  refine Rn.n hT 2 (pc' := 87) (L' := [some (.ref q0), some (.int m1), some (.int m2), some (.int m3)]) (st' := [.int m3, .int m1]) rfl ?_
  by_cases c_4061 : x3 = 0
  · rw [if_pos c_4061] at e
    refine Rn.bt hT rfl rfl rfl (decide_eq_true ((ti_e p3 L32_0).mpr c_4061)) ?_
    refine Rn.n hT 1 (pc' := 95) (L' := [some (.ref q0), some (.int m1), some (.int m2), some (.int m3)]) (st' := [.int (1 : Int32), .int m1]) rfl ?_
    exact Rn.weak (ll_s (ll_n (ll_s (ll_n ll_e)))) (RX12_follow_b95 hd hR t0 p2 L32_1 p1 hb hk hq e)
  · rw [if_neg c_4061] at e
    refine Rn.bf hT rfl rfl rfl (decide_eq_false (fun z => c_4061 ((ti_e p3 L32_0).mp z))) ?_
    refine Rn.n hT 2 (pc' := 95) (L' := [some (.ref q0), some (.int m1), some (.int m2), some (.int m3)]) (st' := [.int (0 : Int32), .int m1]) rfl ?_
    exact Rn.weak (ll_s (ll_n (ll_s (ll_n ll_e)))) (RX12_follow_b95 hd hR t0 p2 L32_0 p1 hb hk hq e)
def FX12_follow_b54 (N : Nat) (s : iv_M) (q0 : Nat) (x1 : Int) (x2 : Int) (xs0 : Int) (kb : iv_M → Int → Int → Option (Int × iv_M)) (kx : iv_M → Int → Option (Int × iv_M)) : Option (Int × iv_M) := ((FX12_keepsNight N s q0).bind fun s_4054 => (if xs0 = 0 then (FX12_follow_b85 N s_4054 q0 x1 x2 xs0 kb kx) else ((rd s_4054 (q0 + 11) 10 x2).bind fun v_4056 => ((rd s_4054 (q0 + 12) 10 x2).bind fun v_4057 => ((rd s_4054 (q0 + 13) 10 x2).bind fun v_4058 => ((FX12_walks N s_4054 q0 v_4056 v_4057 v_4058).bind fun s_4060 => (FX12_follow_b85 N s_4060 q0 x1 x2 xs0 kb kx)))))))
set_option maxRecDepth 10000 in
set_option maxHeartbeats 4000000 in
theorem RX12_follow_b54 {d N nc Ls : Nat} {Xs : Nat → Int32} (hd : 7 ≤ d) {h : iv_H} {s : iv_M} (hR : Rep nc Ls Xs h s) {q0 : Nat} (t0 : T12 nc q0) {m1 : Int32} {x1 : Int} (p1 : m1.toInt = x1) {m2 : Int32} {x2 : Int} (p2 : m2.toInt = x2) {ms0 : Int32} {xs0 : Int} (ps0 : ms0.toInt = xs0) {kb : iv_M → Int → Int → Option (Int × iv_M)} {kx : iv_M → Int → Option (Int × iv_M)} {r : Int × iv_M} {Q : Option Value → iv_H → Prop} (hb : ∀ (h : iv_H) (s : iv_M) (hR : Rep nc Ls Xs h s) (mw1 : Int32) (xw1 : Int) (pw1 : mw1.toInt = xw1) (mw2 : Int32) (xw2 : Int) (pw2 : mw2.toInt = xw2), kb s xw1 xw2 = some r → Rn d 318 (some .int) 13 [some (.ref q0), some (.int mw1), some (.int mw2), none] [] h Q) (hk : ∀ (h : iv_H) (s : iv_M) (hR : Rep nc Ls Xs h s) (mw1 : Int32) (xw1 : Int) (pw1 : mw1.toInt = xw1), kx s xw1 = some r → Rn d 318 (some .int) 103 [some (.ref q0), some (.int mw1), none, none] [] h Q) (hq : ∀ (z : Int32) (h1 : iv_H), z.toInt = r.1 → Rep nc Ls Xs h1 r.2 → Q (some (.int z)) h1) (e : FX12_follow_b54 N s q0 x1 x2 xs0 kb kx = some r) : Rn d 318 (some .int) 54 [some (.ref q0), some (.int m1), some (.int m2), none] [.int ms0] h Q := by
  have hT := hX12_follow
  unfold FX12_follow_b54 at e
  refine Rn.n hT 2 (pc' := 56) (L' := [some (.ref q0), some (.int m1), some (.int m2), some (.int ms0)]) (st' := [.ref q0]) rfl ?_
  obtain ⟨s_4054, e_4053, e⟩ := Option.bind_eq_some_iff.mp e
  refine Rn.call hT rfl rfl rfl (Nat.le_of_ble_eq_true rfl) (rcv_v gX12_keepsNight (by omega) (rp_ck hR (T12_o t0))) (RX12_keepsNight (by omega) hR t0 e_4053 (fun h_4054 R_4054 => ?_))
  show Rn d _ _ 59 [some (.ref q0), some (.int m1), some (.int m2), some (.int ms0)] [] h_4054 Q
  refine Rn.n hT 1 (pc' := 60) (L' := [some (.ref q0), some (.int m1), some (.int m2), some (.int ms0)]) (st' := [.int ms0]) rfl ?_
  by_cases c_4055 : xs0 = 0
  · rw [if_pos c_4055] at e
    refine Rn.bt hT rfl rfl rfl (decide_eq_true ((ti_e ps0 L32_0).mpr c_4055)) ?_
    exact Rn.weak (ll_s (ll_s (ll_s (ll_s ll_e)))) (RX12_follow_b85 hd R_4054 t0 p1 p2 ps0 hb hk hq e)
  · rw [if_neg c_4055] at e
    refine Rn.bf hT rfl rfl rfl (decide_eq_false (fun z => c_4055 ((ti_e ps0 L32_0).mp z))) ?_
    refine Rn.n hT 2 (pc' := 65) (L' := [some (.ref q0), some (.int m1), some (.int m2), some (.int ms0)]) (st' := [.ref q0, .ref q0]) rfl ?_
    refine Rn.hp hT rfl rfl (gR_hp (rp_gR R_4054 (T12_o t0) rfl)) ?_
    refine Rn.n hT 1 (pc' := 69) (L' := [some (.ref q0), some (.int m1), some (.int m2), some (.int ms0)]) (st' := [.int m2, .ref (q0 + 11), .ref q0]) rfl ?_
    obtain ⟨v_4056, e_4056, e⟩ := Option.bind_eq_some_iff.mp e
    obtain ⟨z_4056, g_4056, p_4056⟩ := rp_aI R_4054 (T12_11 t0) (T12_11l t0) p2 e_4056
    refine Rn.hp hT rfl rfl (aI_hp g_4056) ?_
    refine Rn.n hT 1 (pc' := 71) (L' := [some (.ref q0), some (.int m1), some (.int m2), some (.int ms0)]) (st' := [.ref q0, .int z_4056, .ref q0]) rfl ?_
    refine Rn.hp hT rfl rfl (gR_hp (rp_gR R_4054 (T12_o t0) rfl)) ?_
    refine Rn.n hT 1 (pc' := 75) (L' := [some (.ref q0), some (.int m1), some (.int m2), some (.int ms0)]) (st' := [.int m2, .ref (q0 + 12), .int z_4056, .ref q0]) rfl ?_
    obtain ⟨v_4057, e_4057, e⟩ := Option.bind_eq_some_iff.mp e
    obtain ⟨z_4057, g_4057, p_4057⟩ := rp_aI R_4054 (T12_12 t0) (T12_12l t0) p2 e_4057
    refine Rn.hp hT rfl rfl (aI_hp g_4057) ?_
    refine Rn.n hT 1 (pc' := 77) (L' := [some (.ref q0), some (.int m1), some (.int m2), some (.int ms0)]) (st' := [.ref q0, .int z_4057, .int z_4056, .ref q0]) rfl ?_
    refine Rn.hp hT rfl rfl (gR_hp (rp_gR R_4054 (T12_o t0) rfl)) ?_
    refine Rn.n hT 1 (pc' := 81) (L' := [some (.ref q0), some (.int m1), some (.int m2), some (.int ms0)]) (st' := [.int m2, .ref (q0 + 13), .int z_4057, .int z_4056, .ref q0]) rfl ?_
    obtain ⟨v_4058, e_4058, e⟩ := Option.bind_eq_some_iff.mp e
    obtain ⟨z_4058, g_4058, p_4058⟩ := rp_aI R_4054 (T12_13 t0) (T12_13l t0) p2 e_4058
    refine Rn.hp hT rfl rfl (aI_hp g_4058) ?_
    obtain ⟨s_4060, e_4059, e⟩ := Option.bind_eq_some_iff.mp e
    refine Rn.call hT rfl rfl rfl (Nat.le_of_ble_eq_true rfl) (rcv_v gX12_walks (by omega) (rp_ck R_4054 (T12_o t0))) (RX12_walks (by omega) R_4054 t0 p_4056 p_4057 p_4058 e_4059 (fun h_4060 R_4060 => ?_))
    show Rn d _ _ 85 [some (.ref q0), some (.int m1), some (.int m2), some (.int ms0)] [] h_4060 Q
    exact Rn.weak (ll_s (ll_s (ll_s (ll_s ll_e)))) (RX12_follow_b85 hd R_4060 t0 p1 p2 ps0 hb hk hq e)
def FX12_follow_l13 (N : Nat) (q0 : Nat) (kx : iv_M → Int → Option (Int × iv_M)) : Nat → iv_M → Int → Int → Option (Int × iv_M)
  | 0, _, _, _ => none
  | n + 1, s, x1, x2 => ((rd s (q0 + 1) 14 8).bind fun v_4045 => (if v_4045 ≤ x2 then (kx s x1) else ((rd s (q0 + 11) 10 x2).bind fun v_4047 => ((rd s (q0 + 12) 10 x2).bind fun v_4048 => ((rd s (q0 + 13) 10 x2).bind fun v_4049 => ((FX12_lawOf N s q0 v_4047 v_4048 v_4049).bind fun r_4050 => (fun (v_4050 : Int) (s_4051 : iv_M) => (if v_4050 = 0 then (FX12_follow_b54 N s_4051 q0 x1 x2 1 (FX12_follow_l13 N q0 kx n) kx) else (FX12_follow_b54 N s_4051 q0 x1 x2 0 (FX12_follow_l13 N q0 kx n) kx))) r_4050.1 r_4050.2))))))
set_option maxRecDepth 10000 in
set_option maxHeartbeats 4000000 in
theorem RX12_follow_l13 {d N nc Ls : Nat} {Xs : Nat → Int32} (hd : 7 ≤ d) {q0 : Nat} (t0 : T12 nc q0) {kx : iv_M → Int → Option (Int × iv_M)} {r : Int × iv_M} {Q : Option Value → iv_H → Prop} (hk : ∀ (h : iv_H) (s : iv_M) (hR : Rep nc Ls Xs h s) (m1 : Int32) (x1 : Int) (p1 : m1.toInt = x1), kx s x1 = some r → Rn d 318 (some .int) 103 [some (.ref q0), some (.int m1), none, none] [] h Q) (hq : ∀ (z : Int32) (h1 : iv_H), z.toInt = r.1 → Rep nc Ls Xs h1 r.2 → Q (some (.int z)) h1) : ∀ (n : Nat) (h : iv_H) (s : iv_M) (hR : Rep nc Ls Xs h s) (m1 : Int32) (x1 : Int) (p1 : m1.toInt = x1) (m2 : Int32) (x2 : Int) (p2 : m2.toInt = x2), FX12_follow_l13 N q0 kx n s x1 x2 = some r → Rn d 318 (some .int) 13 [some (.ref q0), some (.int m1), some (.int m2), none] [] h Q := by
  have hT := hX12_follow
  intro n
  induction n with
  | zero =>
    intro h s hR m1 x1 p1 m2 x2 p2 e
    rw [FX12_follow_l13] at e
    cases e
  | succ n ih =>
    intro h s hR m1 x1 p1 m2 x2 p2 e
    rw [FX12_follow_l13] at e
    refine Rn.n hT 2 (pc' := 15) (L' := [some (.ref q0), some (.int m1), some (.int m2), none]) (st' := [.ref q0, .int m2]) rfl ?_
    refine Rn.hp hT rfl rfl (gR_hp (rp_gR hR (T12_o t0) rfl)) ?_
    refine Rn.n hT 1 (pc' := 20) (L' := [some (.ref q0), some (.int m1), some (.int m2), none]) (st' := [.int (8 : Int32), .ref (q0 + 1), .int m2]) rfl ?_
    obtain ⟨v_4045, e_4045, e⟩ := Option.bind_eq_some_iff.mp e
    obtain ⟨z_4045, g_4045, p_4045⟩ := rp_aI hR (T12_1 t0) (T12_1l t0) L32_8 e_4045
    refine Rn.hp hT rfl rfl (aI_hp g_4045) ?_
    by_cases c_4046 : v_4045 ≤ x2
    · rw [if_pos c_4046] at e
      refine Rn.bt hT rfl rfl rfl (decide_eq_true ((ti_le p_4045 p2).mpr c_4046)) ?_
      exact Rn.weak (ll_s (ll_s (ll_n (ll_n ll_e)))) (hk h s hR m1 x1 p1 e)
    · rw [if_neg c_4046] at e
      refine Rn.bf hT rfl rfl rfl (decide_eq_false (fun z => c_4046 ((ti_le p_4045 p2).mp z))) ?_
      refine Rn.n hT 2 (pc' := 26) (L' := [some (.ref q0), some (.int m1), some (.int m2), none]) (st' := [.ref q0, .ref q0]) rfl ?_
      refine Rn.hp hT rfl rfl (gR_hp (rp_gR hR (T12_o t0) rfl)) ?_
      refine Rn.n hT 1 (pc' := 30) (L' := [some (.ref q0), some (.int m1), some (.int m2), none]) (st' := [.int m2, .ref (q0 + 11), .ref q0]) rfl ?_
      obtain ⟨v_4047, e_4047, e⟩ := Option.bind_eq_some_iff.mp e
      obtain ⟨z_4047, g_4047, p_4047⟩ := rp_aI hR (T12_11 t0) (T12_11l t0) p2 e_4047
      refine Rn.hp hT rfl rfl (aI_hp g_4047) ?_
      refine Rn.n hT 1 (pc' := 32) (L' := [some (.ref q0), some (.int m1), some (.int m2), none]) (st' := [.ref q0, .int z_4047, .ref q0]) rfl ?_
      refine Rn.hp hT rfl rfl (gR_hp (rp_gR hR (T12_o t0) rfl)) ?_
      refine Rn.n hT 1 (pc' := 36) (L' := [some (.ref q0), some (.int m1), some (.int m2), none]) (st' := [.int m2, .ref (q0 + 12), .int z_4047, .ref q0]) rfl ?_
      obtain ⟨v_4048, e_4048, e⟩ := Option.bind_eq_some_iff.mp e
      obtain ⟨z_4048, g_4048, p_4048⟩ := rp_aI hR (T12_12 t0) (T12_12l t0) p2 e_4048
      refine Rn.hp hT rfl rfl (aI_hp g_4048) ?_
      refine Rn.n hT 1 (pc' := 38) (L' := [some (.ref q0), some (.int m1), some (.int m2), none]) (st' := [.ref q0, .int z_4048, .int z_4047, .ref q0]) rfl ?_
      refine Rn.hp hT rfl rfl (gR_hp (rp_gR hR (T12_o t0) rfl)) ?_
      refine Rn.n hT 1 (pc' := 42) (L' := [some (.ref q0), some (.int m1), some (.int m2), none]) (st' := [.int m2, .ref (q0 + 13), .int z_4048, .int z_4047, .ref q0]) rfl ?_
      obtain ⟨v_4049, e_4049, e⟩ := Option.bind_eq_some_iff.mp e
      obtain ⟨z_4049, g_4049, p_4049⟩ := rp_aI hR (T12_13 t0) (T12_13l t0) p2 e_4049
      refine Rn.hp hT rfl rfl (aI_hp g_4049) ?_
      obtain ⟨⟨v_4050, s_4051⟩, e_4050, e⟩ := Option.bind_eq_some_iff.mp e
      try dsimp only at e
      try dsimp only at e
      refine Rn.call hT rfl rfl rfl (Nat.le_of_ble_eq_true rfl) (rcv_v gX12_lawOf (by omega) (rp_ck hR (T12_o t0))) (RX12_lawOf (by omega) hR t0 p_4047 p_4048 p_4049 e_4050 (fun z_4050 h_4051 p_4050 R_4051 => ?_))
      show Rn d _ _ 46 [some (.ref q0), some (.int m1), some (.int m2), none] [.int z_4050] h_4051 Q
      by_cases c_4052 : v_4050 = 0
      · rw [if_pos c_4052] at e
        refine Rn.bf hT rfl rfl rfl (decide_eq_false (fun z => z ((ti_e p_4050 L32_0).mpr c_4052))) ?_
        refine Rn.n hT 2 (pc' := 54) (L' := [some (.ref q0), some (.int m1), some (.int m2), none]) (st' := [.int (1 : Int32)]) rfl ?_
        exact Rn.weak (ll_s (ll_s (ll_s (ll_n ll_e)))) (RX12_follow_b54 hd R_4051 t0 p1 p2 L32_1 ih hk hq e)
      · rw [if_neg c_4052] at e
        refine Rn.bt hT rfl rfl rfl (decide_eq_true (fun z => c_4052 ((ti_e p_4050 L32_0).mp z))) ?_
        refine Rn.n hT 1 (pc' := 54) (L' := [some (.ref q0), some (.int m1), some (.int m2), none]) (st' := [.int (0 : Int32)]) rfl ?_
        exact Rn.weak (ll_s (ll_s (ll_s (ll_n ll_e)))) (RX12_follow_b54 hd R_4051 t0 p1 p2 L32_0 ih hk hq e)
def FX12_follow (N : Nat) (s : iv_M) (q0 : Nat) : Option (Int × iv_M) := ((FX12_isPalace N s q0).bind fun v_4039 => (if v_4039 = 0 then (some ((-1), s)) else (FX12_follow_l13 N q0 (fun (s_4041 : iv_M) (x4042_1 : Int) => ((wr s_4041 (q0 + 1) 14 8 0).bind fun s_4043 => (some (x4042_1, s_4043)))) N s 0 0)))
set_option maxRecDepth 10000 in
set_option maxHeartbeats 4000000 in
theorem RX12_follow {d N nc Ls : Nat} {Xs : Nat → Int32} (hd : 8 ≤ d) {h : iv_H} {s : iv_M} (hR : Rep nc Ls Xs h s) {q0 : Nat} (t0 : T12 nc q0) {r : Int × iv_M} {Q : Option Value → iv_H → Prop} (e : FX12_follow N s q0 = some r) (hq : ∀ (z : Int32) (h1 : iv_H), z.toInt = r.1 → Rep nc Ls Xs h1 r.2 → Q (some (.int z)) h1) : Cl d 318 [.ref q0] h Q := by
  obtain ⟨d, rfl⟩ : ∃ k, d = k + 1 := ⟨d - 1, by omega⟩
  have hd : 7 ≤ d := by omega
  have hT := hX12_follow
  unfold FX12_follow at e
  refine Cl.into (by decide) gX12_follow rfl ?_
  show Rn d 318 (some .int) 0 [some (.ref q0), none, none, none] [] h Q
  refine Rn.n hT 1 (pc' := 1) (L' := [some (.ref q0), none, none, none]) (st' := [.ref q0]) rfl ?_
  obtain ⟨v_4039, e_4039, e⟩ := Option.bind_eq_some_iff.mp e
  refine Rn.call hT rfl rfl rfl (Nat.le_of_ble_eq_true rfl) (rcv_v gX12_isPalace (by omega) (rp_ck hR (T12_o t0))) (RX12_isPalace (by omega) hR t0 e_4039 (fun z_4039 p_4039 => ?_))
  show Rn d _ _ 4 [some (.ref q0), none, none, none] [.int z_4039] h Q
  by_cases c_4040 : v_4039 = 0
  · rw [if_pos c_4040] at e
    refine Rn.bf hT rfl rfl rfl (decide_eq_false (fun z => z ((ti_e p_4039 L32_0).mpr c_4040))) ?_
    refine Rn.n hT 1 (pc' := 8) (L' := [some (.ref q0), none, none, none]) (st' := [.int (-1 : Int32)]) rfl ?_
    obtain rfl := Option.some.inj e
    exact Rn.ret hT rfl rfl rfl (hq (-1 : Int32) h L32_m1 hR)
  · rw [if_neg c_4040] at e
    refine Rn.bt hT rfl rfl rfl (decide_eq_true (fun z => c_4040 ((ti_e p_4039 L32_0).mp z))) ?_
    refine Rn.n hT 4 (pc' := 13) (L' := [some (.ref q0), some (.int (0 : Int32)), some (.int (0 : Int32)), none]) (st' := []) rfl ?_
    refine Rn.weak (ll_s (ll_s (ll_s (ll_n ll_e)))) (RX12_follow_l13 hd t0 (fun h_4041 s_4041 R_4041 m4042_1 x4042_1 p4042_1 e => ?_) hq N h s hR (0 : Int32) 0 L32_0 (0 : Int32) 0 L32_0 e)
    try dsimp only at e
    refine Rn.n hT 1 (pc' := 104) (L' := [some (.ref q0), some (.int m4042_1), none, none]) (st' := [.ref q0]) rfl ?_
    refine Rn.hp hT rfl rfl (gR_hp (rp_gR R_4041 (T12_o t0) rfl)) ?_
    refine Rn.n hT 2 (pc' := 110) (L' := [some (.ref q0), some (.int m4042_1), none, none]) (st' := [.int (0 : Int32), .int (8 : Int32), .ref (q0 + 1)]) rfl ?_
    obtain ⟨s_4043, e_4044, e⟩ := Option.bind_eq_some_iff.mp e
    obtain ⟨h_4043, g_4044, R_4043⟩ := rp_wI R_4041 (T12_1 t0) (T12_1l t0) L32_8 L32_0 e_4044
    refine Rn.hp hT rfl rfl (wI_hp g_4044) ?_
    refine Rn.n hT 1 (pc' := 112) (L' := [some (.ref q0), some (.int m4042_1), none, none]) (st' := [.int m4042_1]) rfl ?_
    obtain rfl := Option.some.inj e
    exact Rn.ret hT rfl rfl rfl (hq m4042_1 h_4043 p4042_1 R_4043)
set_option maxRecDepth 10000 in
theorem hX12_wish : iv_Tb 319 tX12_wish := iv_tb_of (m := mX12_wish) rfl
set_option maxRecDepth 10000 in
theorem gX12_wish : PG.2 319 = some mX12_wish := iv_pi_of (t := tX12_wish) rfl (by decide)
def FX12_wish_b61 (N : Nat) (s : iv_M)   : Option (Int × iv_M) := (some ((-2), s))
set_option maxRecDepth 10000 in
set_option maxHeartbeats 4000000 in
theorem RX12_wish_b61 {d N nc Ls : Nat} {Xs : Nat → Int32} (hd : 2 ≤ d) {h : iv_H} {s : iv_M} (hR : Rep nc Ls Xs h s)   {r : Int × iv_M} {Q : Option Value → iv_H → Prop} (hq : ∀ (z : Int32) (h1 : iv_H), z.toInt = r.1 → Rep nc Ls Xs h1 r.2 → Q (some (.int z)) h1) (e : FX12_wish_b61 N s   = some r) : Rn d 319 (some .int) 61 [none, none, none, none, none, none] [] h Q := by
  have hT := hX12_wish
  unfold FX12_wish_b61 at e
  refine Rn.n hT 1 (pc' := 63) (L' := [none, none, none, none, none, none]) (st' := [.int (-2 : Int32)]) rfl ?_
  obtain rfl := Option.some.inj e
  exact Rn.ret hT rfl rfl rfl (hq (-2 : Int32) h L32_m2 hR)
def FX12_wish (N : Nat) (s : iv_M) (q0 : Nat) (x1 : Int) (x2 : Int) (x3 : Int) (x4 : Int) : Option (Int × iv_M) := (if x1 = (-1) then ((wr s (q0 + 1) 14 9 0).bind fun s_4080 => (some (0, s_4080))) else ((rd s (q0 + 1) 14 9).bind fun v_4063 => ((FX12_isPerson N s q0 x1).bind fun v_4064 => (if v_4064 = 0 then (FX12_wish_b61 N s) else ((FX12_in N s x2 0 10).bind fun v_4066 => (if v_4066 = 0 then (FX12_wish_b61 N s) else ((FX12_isCell N s q0 x3 x4).bind fun v_4068 => (if v_4068 = 0 then (FX12_wish_b61 N s) else (if v_4063 = 12 then (FX12_wish_b61 N s) else ((wr s (q0 + 14) 12 v_4063 x1).bind fun s_4071 => ((wr s_4071 (q0 + 15) 12 v_4063 x2).bind fun s_4073 => ((wr s_4073 (q0 + 16) 12 v_4063 (w32 ((w32 (4 * x4)) + x3))).bind fun s_4075 => ((rd s_4075 (q0 + 1) 14 9).bind fun v_4077 => ((wr s_4075 (q0 + 1) 14 9 (w32 (v_4077 + 1))).bind fun s_4078 => (some ((w32 (v_4063 + 1)), s_4078))))))))))))))))
set_option maxRecDepth 10000 in
set_option maxHeartbeats 4000000 in
theorem RX12_wish {d N nc Ls : Nat} {Xs : Nat → Int32} (hd : 3 ≤ d) {h : iv_H} {s : iv_M} (hR : Rep nc Ls Xs h s) {q0 : Nat} (t0 : T12 nc q0) {m1 : Int32} {x1 : Int} (p1 : m1.toInt = x1) {m2 : Int32} {x2 : Int} (p2 : m2.toInt = x2) {m3 : Int32} {x3 : Int} (p3 : m3.toInt = x3) {m4 : Int32} {x4 : Int} (p4 : m4.toInt = x4) {r : Int × iv_M} {Q : Option Value → iv_H → Prop} (e : FX12_wish N s q0 x1 x2 x3 x4 = some r) (hq : ∀ (z : Int32) (h1 : iv_H), z.toInt = r.1 → Rep nc Ls Xs h1 r.2 → Q (some (.int z)) h1) : Cl d 319 [.ref q0, .int m1, .int m2, .int m3, .int m4] h Q := by
  obtain ⟨d, rfl⟩ : ∃ k, d = k + 1 := ⟨d - 1, by omega⟩
  have hd : 2 ≤ d := by omega
  have hT := hX12_wish
  unfold FX12_wish at e
  refine Cl.into (by decide) gX12_wish rfl ?_
  show Rn d 319 (some .int) 0 [some (.ref q0), some (.int m1), some (.int m2), some (.int m3), some (.int m4), none] [] h Q
  refine Rn.n hT 2 (pc' := 2) (L' := [some (.ref q0), some (.int m1), some (.int m2), some (.int m3), some (.int m4), none]) (st' := [.int (-1 : Int32), .int m1]) rfl ?_
  by_cases c_4062 : x1 = (-1)
  · rw [if_pos c_4062] at e
    refine Rn.bf hT rfl rfl rfl (decide_eq_false (fun z => z ((ti_e p1 L32_m1).mpr c_4062))) ?_
    refine Rn.n hT 1 (pc' := 6) (L' := [some (.ref q0), some (.int m1), some (.int m2), some (.int m3), some (.int m4), none]) (st' := [.ref q0]) rfl ?_
    refine Rn.hp hT rfl rfl (gR_hp (rp_gR hR (T12_o t0) rfl)) ?_
    refine Rn.n hT 2 (pc' := 12) (L' := [some (.ref q0), some (.int m1), some (.int m2), some (.int m3), some (.int m4), none]) (st' := [.int (0 : Int32), .int (9 : Int32), .ref (q0 + 1)]) rfl ?_
    obtain ⟨s_4080, e_4081, e⟩ := Option.bind_eq_some_iff.mp e
    obtain ⟨h_4080, g_4081, R_4080⟩ := rp_wI hR (T12_1 t0) (T12_1l t0) L32_9 L32_0 e_4081
    refine Rn.hp hT rfl rfl (wI_hp g_4081) ?_
    refine Rn.n hT 1 (pc' := 14) (L' := [some (.ref q0), some (.int m1), some (.int m2), some (.int m3), some (.int m4), none]) (st' := [.int (0 : Int32)]) rfl ?_
    obtain rfl := Option.some.inj e
    exact Rn.ret hT rfl rfl rfl (hq (0 : Int32) h_4080 L32_0 R_4080)
  · rw [if_neg c_4062] at e
    refine Rn.bt hT rfl rfl rfl (decide_eq_true (fun z => c_4062 ((ti_e p1 L32_m1).mp z))) ?_
    refine Rn.n hT 1 (pc' := 16) (L' := [some (.ref q0), some (.int m1), some (.int m2), some (.int m3), some (.int m4), none]) (st' := [.ref q0]) rfl ?_
    refine Rn.hp hT rfl rfl (gR_hp (rp_gR hR (T12_o t0) rfl)) ?_
    refine Rn.n hT 1 (pc' := 21) (L' := [some (.ref q0), some (.int m1), some (.int m2), some (.int m3), some (.int m4), none]) (st' := [.int (9 : Int32), .ref (q0 + 1)]) rfl ?_
    obtain ⟨v_4063, e_4063, e⟩ := Option.bind_eq_some_iff.mp e
    obtain ⟨z_4063, g_4063, p_4063⟩ := rp_aI hR (T12_1 t0) (T12_1l t0) L32_9 e_4063
    refine Rn.hp hT rfl rfl (aI_hp g_4063) ?_
    refine Rn.n hT 3 (pc' := 26) (L' := [some (.ref q0), some (.int m1), some (.int m2), some (.int m3), some (.int m4), some (.int z_4063)]) (st' := [.int m1, .ref q0]) rfl ?_
    obtain ⟨v_4064, e_4064, e⟩ := Option.bind_eq_some_iff.mp e
    refine Rn.call hT rfl rfl rfl (Nat.le_of_ble_eq_true rfl) (rcv_v gX12_isPerson (by omega) (rp_ck hR (T12_o t0))) (RX12_isPerson (by omega) hR t0 p1 e_4064 (fun z_4064 p_4064 => ?_))
    show Rn d _ _ 29 [some (.ref q0), some (.int m1), some (.int m2), some (.int m3), some (.int m4), some (.int z_4063)] [.int z_4064] h Q
    by_cases c_4065 : v_4064 = 0
    · rw [if_pos c_4065] at e
      refine Rn.bt hT rfl rfl rfl (decide_eq_true ((ti_e p_4064 L32_0).mpr c_4065)) ?_
      exact Rn.weak (ll_n (ll_n (ll_n (ll_n (ll_n (ll_n ll_e)))))) (RX12_wish_b61 hd hR hq e)
    · rw [if_neg c_4065] at e
      refine Rn.bf hT rfl rfl rfl (decide_eq_false (fun z => c_4065 ((ti_e p_4064 L32_0).mp z))) ?_
      refine Rn.n hT 4 (pc' := 38) (L' := [some (.ref q0), some (.int m1), some (.int m2), some (.int m3), some (.int m4), some (.int z_4063)]) (st' := [.long (10 : Int64), .long (0 : Int64), .long ((m2).toInt64)]) rfl ?_
      obtain ⟨v_4066, e_4066, e⟩ := Option.bind_eq_some_iff.mp e
      refine Rn.call hT rfl rfl rfl (Nat.le_of_ble_eq_true rfl) rfl (RX12_in (by omega) hR (ti_j p2) L64_0 L64_10 e_4066 (fun z_4066 p_4066 => ?_))
      show Rn d _ _ 41 [some (.ref q0), some (.int m1), some (.int m2), some (.int m3), some (.int m4), some (.int z_4063)] [.int z_4066] h Q
      by_cases c_4067 : v_4066 = 0
      · rw [if_pos c_4067] at e
        refine Rn.bt hT rfl rfl rfl (decide_eq_true ((ti_e p_4066 L32_0).mpr c_4067)) ?_
        exact Rn.weak (ll_n (ll_n (ll_n (ll_n (ll_n (ll_n ll_e)))))) (RX12_wish_b61 hd hR hq e)
      · rw [if_neg c_4067] at e
        refine Rn.bf hT rfl rfl rfl (decide_eq_false (fun z => c_4067 ((ti_e p_4066 L32_0).mp z))) ?_
        refine Rn.n hT 3 (pc' := 48) (L' := [some (.ref q0), some (.int m1), some (.int m2), some (.int m3), some (.int m4), some (.int z_4063)]) (st' := [.int m4, .int m3, .ref q0]) rfl ?_
        obtain ⟨v_4068, e_4068, e⟩ := Option.bind_eq_some_iff.mp e
        refine Rn.call hT rfl rfl rfl (Nat.le_of_ble_eq_true rfl) (rcv_v gX12_isCell (by omega) (rp_ck hR (T12_o t0))) (RX12_isCell (by omega) hR t0 p3 p4 e_4068 (fun z_4068 p_4068 => ?_))
        show Rn d _ _ 51 [some (.ref q0), some (.int m1), some (.int m2), some (.int m3), some (.int m4), some (.int z_4063)] [.int z_4068] h Q
        by_cases c_4069 : v_4068 = 0
        · rw [if_pos c_4069] at e
          refine Rn.bt hT rfl rfl rfl (decide_eq_true ((ti_e p_4068 L32_0).mpr c_4069)) ?_
          exact Rn.weak (ll_n (ll_n (ll_n (ll_n (ll_n (ll_n ll_e)))))) (RX12_wish_b61 hd hR hq e)
        · rw [if_neg c_4069] at e
          refine Rn.bf hT rfl rfl rfl (decide_eq_false (fun z => c_4069 ((ti_e p_4068 L32_0).mp z))) ?_
          refine Rn.n hT 2 (pc' := 58) (L' := [some (.ref q0), some (.int m1), some (.int m2), some (.int m3), some (.int m4), some (.int z_4063)]) (st' := [.int (12 : Int32), .int z_4063]) rfl ?_
          by_cases c_4070 : v_4063 = 12
          · rw [if_pos c_4070] at e
            refine Rn.bf hT rfl rfl rfl (decide_eq_false (fun z => z ((ti_e p_4063 L32_12).mpr c_4070))) ?_
            exact Rn.weak (ll_n (ll_n (ll_n (ll_n (ll_n (ll_n ll_e)))))) (RX12_wish_b61 hd hR hq e)
          · rw [if_neg c_4070] at e
            refine Rn.bt hT rfl rfl rfl (decide_eq_true (fun z => c_4070 ((ti_e p_4063 L32_12).mp z))) ?_
            refine Rn.n hT 1 (pc' := 65) (L' := [some (.ref q0), some (.int m1), some (.int m2), some (.int m3), some (.int m4), some (.int z_4063)]) (st' := [.ref q0]) rfl ?_
            refine Rn.hp hT rfl rfl (gR_hp (rp_gR hR (T12_o t0) rfl)) ?_
            refine Rn.n hT 2 (pc' := 71) (L' := [some (.ref q0), some (.int m1), some (.int m2), some (.int m3), some (.int m4), some (.int z_4063)]) (st' := [.int m1, .int z_4063, .ref (q0 + 14)]) rfl ?_
            obtain ⟨s_4071, e_4072, e⟩ := Option.bind_eq_some_iff.mp e
            obtain ⟨h_4071, g_4072, R_4071⟩ := rp_wI hR (T12_14 t0) (T12_14l t0) p_4063 p1 e_4072
            refine Rn.hp hT rfl rfl (wI_hp g_4072) ?_
            refine Rn.n hT 1 (pc' := 73) (L' := [some (.ref q0), some (.int m1), some (.int m2), some (.int m3), some (.int m4), some (.int z_4063)]) (st' := [.ref q0]) rfl ?_
            refine Rn.hp hT rfl rfl (gR_hp (rp_gR R_4071 (T12_o t0) rfl)) ?_
            refine Rn.n hT 2 (pc' := 79) (L' := [some (.ref q0), some (.int m1), some (.int m2), some (.int m3), some (.int m4), some (.int z_4063)]) (st' := [.int m2, .int z_4063, .ref (q0 + 15)]) rfl ?_
            obtain ⟨s_4073, e_4074, e⟩ := Option.bind_eq_some_iff.mp e
            obtain ⟨h_4073, g_4074, R_4073⟩ := rp_wI R_4071 (T12_15 t0) (T12_15l t0) p_4063 p2 e_4074
            refine Rn.hp hT rfl rfl (wI_hp g_4074) ?_
            refine Rn.n hT 1 (pc' := 81) (L' := [some (.ref q0), some (.int m1), some (.int m2), some (.int m3), some (.int m4), some (.int z_4063)]) (st' := [.ref q0]) rfl ?_
            refine Rn.hp hT rfl rfl (gR_hp (rp_gR R_4073 (T12_o t0) rfl)) ?_
            refine Rn.n hT 6 (pc' := 92) (L' := [some (.ref q0), some (.int m1), some (.int m2), some (.int m3), some (.int m4), some (.int z_4063)]) (st' := [.int (((4 : Int32) * m4) + m3), .int z_4063, .ref (q0 + 16)]) rfl ?_
            obtain ⟨s_4075, e_4076, e⟩ := Option.bind_eq_some_iff.mp e
            obtain ⟨h_4075, g_4076, R_4075⟩ := rp_wI R_4073 (T12_16 t0) (T12_16l t0) p_4063 (ti_add (ti_mul L32_4 p4) p3) e_4076
            refine Rn.hp hT rfl rfl (wI_hp g_4076) ?_
            refine Rn.n hT 1 (pc' := 94) (L' := [some (.ref q0), some (.int m1), some (.int m2), some (.int m3), some (.int m4), some (.int z_4063)]) (st' := [.ref q0]) rfl ?_
            refine Rn.hp hT rfl rfl (gR_hp (rp_gR R_4075 (T12_o t0) rfl)) ?_
            refine Rn.n hT 2 (pc' := 100) (L' := [some (.ref q0), some (.int m1), some (.int m2), some (.int m3), some (.int m4), some (.int z_4063)]) (st' := [.int (9 : Int32), .ref (q0 + 1), .int (9 : Int32), .ref (q0 + 1)]) rfl ?_
            obtain ⟨v_4077, e_4077, e⟩ := Option.bind_eq_some_iff.mp e
            obtain ⟨z_4077, g_4077, p_4077⟩ := rp_aI R_4075 (T12_1 t0) (T12_1l t0) L32_9 e_4077
            refine Rn.hp hT rfl rfl (aI_hp g_4077) ?_
            refine Rn.n hT 2 (pc' := 103) (L' := [some (.ref q0), some (.int m1), some (.int m2), some (.int m3), some (.int m4), some (.int z_4063)]) (st' := [.int (z_4077 + (1 : Int32)), .int (9 : Int32), .ref (q0 + 1)]) rfl ?_
            obtain ⟨s_4078, e_4079, e⟩ := Option.bind_eq_some_iff.mp e
            obtain ⟨h_4078, g_4079, R_4078⟩ := rp_wI R_4075 (T12_1 t0) (T12_1l t0) L32_9 (ti_add p_4077 L32_1) e_4079
            refine Rn.hp hT rfl rfl (wI_hp g_4079) ?_
            refine Rn.n hT 3 (pc' := 108) (L' := [some (.ref q0), some (.int m1), some (.int m2), some (.int m3), some (.int m4), some (.int z_4063)]) (st' := [.int (z_4063 + (1 : Int32))]) rfl ?_
            obtain rfl := Option.some.inj e
            exact Rn.ret hT rfl rfl rfl (hq (z_4063 + (1 : Int32)) h_4078 (ti_add p_4063 L32_1) R_4078)
set_option maxRecDepth 10000 in
theorem hX12_isWished : iv_Tb 320 tX12_isWished := iv_tb_of (m := mX12_isWished) rfl
set_option maxRecDepth 10000 in
theorem gX12_isWished : PG.2 320 = some mX12_isWished := iv_pi_of (t := tX12_isWished) rfl (by decide)
def FX12_isWished_b82 (N : Nat) (s : iv_M) (q0 : Nat) (x1 : Int) (x2 : Int) (x3 : Int) (x4 : Int)  (kb : Int → Int → Option (Int)) (kx : Int → Option (Int)) : Option (Int) := (kb x3 (w32 (x4 + 1)))
set_option maxRecDepth 10000 in
set_option maxHeartbeats 4000000 in
theorem RX12_isWished_b82 {d N nc Ls : Nat} {Xs : Nat → Int32} (hd : 0 ≤ d) {h : iv_H} {s : iv_M} (hR : Rep nc Ls Xs h s) {q0 : Nat} (t0 : T12 nc q0) {m1 : Int32} {x1 : Int} (p1 : m1.toInt = x1) {m2 : Int32} {x2 : Int} (p2 : m2.toInt = x2) {m3 : Int32} {x3 : Int} (p3 : m3.toInt = x3) {m4 : Int32} {x4 : Int} (p4 : m4.toInt = x4)  {kb : Int → Int → Option (Int)} {kx : Int → Option (Int)} {r : Int} {Q : Option Value → iv_H → Prop} (hb : ∀ (mw3 : Int32) (xw3 : Int) (pw3 : mw3.toInt = xw3) (mw4 : Int32) (xw4 : Int) (pw4 : mw4.toInt = xw4), kb xw3 xw4 = some r → Rn d 320 (some .boolean) 5 [some (.ref q0), some (.int m1), some (.int m2), some (.int mw3), some (.int mw4)] [] h Q) (hk : ∀ (mw3 : Int32) (xw3 : Int) (pw3 : mw3.toInt = xw3), kx xw3 = some r → Rn d 320 (some .boolean) 88 [none, none, none, some (.int mw3), none] [] h Q) (hq : ∀ (z : Int32), z.toInt = r → Q (some (.int z)) h) (e : FX12_isWished_b82 N s q0 x1 x2 x3 x4  kb kx = some r) : Rn d 320 (some .boolean) 82 [some (.ref q0), some (.int m1), some (.int m2), some (.int m3), some (.int m4)] [] h Q := by
  have hT := hX12_isWished
  unfold FX12_isWished_b82 at e
  refine Rn.n hT 2 (pc' := 5) (L' := [some (.ref q0), some (.int m1), some (.int m2), some (.int m3), some (.int (m4 + (1 : Int32)))]) (st' := []) rfl ?_
  exact Rn.weak (ll_s (ll_s (ll_s (ll_s (ll_s ll_e))))) (hb m3 x3 p3 (m4 + (1 : Int32)) (w32 (x4 + 1)) (ti_add p4 L32_1) e)
def FX12_isWished_b81 (N : Nat) (s : iv_M) (q0 : Nat) (x1 : Int) (x2 : Int) (x4 : Int) (xs0 : Int) (kb : Int → Int → Option (Int)) (kx : Int → Option (Int)) : Option (Int) := (FX12_isWished_b82 N s q0 x1 x2 xs0 x4 kb kx)
set_option maxRecDepth 10000 in
set_option maxHeartbeats 4000000 in
theorem RX12_isWished_b81 {d N nc Ls : Nat} {Xs : Nat → Int32} (hd : 0 ≤ d) {h : iv_H} {s : iv_M} (hR : Rep nc Ls Xs h s) {q0 : Nat} (t0 : T12 nc q0) {m1 : Int32} {x1 : Int} (p1 : m1.toInt = x1) {m2 : Int32} {x2 : Int} (p2 : m2.toInt = x2) {m4 : Int32} {x4 : Int} (p4 : m4.toInt = x4) {ms0 : Int32} {xs0 : Int} (ps0 : ms0.toInt = xs0) {kb : Int → Int → Option (Int)} {kx : Int → Option (Int)} {r : Int} {Q : Option Value → iv_H → Prop} (hb : ∀ (mw3 : Int32) (xw3 : Int) (pw3 : mw3.toInt = xw3) (mw4 : Int32) (xw4 : Int) (pw4 : mw4.toInt = xw4), kb xw3 xw4 = some r → Rn d 320 (some .boolean) 5 [some (.ref q0), some (.int m1), some (.int m2), some (.int mw3), some (.int mw4)] [] h Q) (hk : ∀ (mw3 : Int32) (xw3 : Int) (pw3 : mw3.toInt = xw3), kx xw3 = some r → Rn d 320 (some .boolean) 88 [none, none, none, some (.int mw3), none] [] h Q) (hq : ∀ (z : Int32), z.toInt = r → Q (some (.int z)) h) (e : FX12_isWished_b81 N s q0 x1 x2 x4 xs0 kb kx = some r) : Rn d 320 (some .boolean) 81 [some (.ref q0), some (.int m1), some (.int m2), none, some (.int m4)] [.int ms0] h Q := by
  have hT := hX12_isWished
  unfold FX12_isWished_b81 at e
  refine Rn.n hT 1 (pc' := 82) (L' := [some (.ref q0), some (.int m1), some (.int m2), some (.int ms0), some (.int m4)]) (st' := []) rfl ?_
  exact Rn.weak (ll_s (ll_s (ll_s (ll_s (ll_s ll_e))))) (RX12_isWished_b82 hd hR t0 p1 p2 ps0 p4 hb hk hq e)
def FX12_isWished_b80 (N : Nat) (s : iv_M) (q0 : Nat) (x1 : Int) (x2 : Int) (x4 : Int)  (kb : Int → Int → Option (Int)) (kx : Int → Option (Int)) : Option (Int) := (FX12_isWished_b81 N s q0 x1 x2 x4 0 kb kx)
set_option maxRecDepth 10000 in
set_option maxHeartbeats 4000000 in
theorem RX12_isWished_b80 {d N nc Ls : Nat} {Xs : Nat → Int32} (hd : 0 ≤ d) {h : iv_H} {s : iv_M} (hR : Rep nc Ls Xs h s) {q0 : Nat} (t0 : T12 nc q0) {m1 : Int32} {x1 : Int} (p1 : m1.toInt = x1) {m2 : Int32} {x2 : Int} (p2 : m2.toInt = x2) {m4 : Int32} {x4 : Int} (p4 : m4.toInt = x4)  {kb : Int → Int → Option (Int)} {kx : Int → Option (Int)} {r : Int} {Q : Option Value → iv_H → Prop} (hb : ∀ (mw3 : Int32) (xw3 : Int) (pw3 : mw3.toInt = xw3) (mw4 : Int32) (xw4 : Int) (pw4 : mw4.toInt = xw4), kb xw3 xw4 = some r → Rn d 320 (some .boolean) 5 [some (.ref q0), some (.int m1), some (.int m2), some (.int mw3), some (.int mw4)] [] h Q) (hk : ∀ (mw3 : Int32) (xw3 : Int) (pw3 : mw3.toInt = xw3), kx xw3 = some r → Rn d 320 (some .boolean) 88 [none, none, none, some (.int mw3), none] [] h Q) (hq : ∀ (z : Int32), z.toInt = r → Q (some (.int z)) h) (e : FX12_isWished_b80 N s q0 x1 x2 x4  kb kx = some r) : Rn d 320 (some .boolean) 80 [some (.ref q0), some (.int m1), some (.int m2), none, some (.int m4)] [] h Q := by
  have hT := hX12_isWished
  unfold FX12_isWished_b80 at e
  refine Rn.n hT 1 (pc' := 81) (L' := [some (.ref q0), some (.int m1), some (.int m2), none, some (.int m4)]) (st' := [.int (0 : Int32)]) rfl ?_
  exact Rn.weak (ll_s (ll_s (ll_s (ll_n (ll_s ll_e))))) (RX12_isWished_b81 hd hR t0 p1 p2 p4 L32_0 hb hk hq e)
def FX12_isWished_l5 (N : Nat) (s : iv_M) (q0 : Nat) (x1 : Int) (x2 : Int) (kx : Int → Option (Int)) : Nat → Int → Int → Option (Int)
  | 0, _, _ => none
  | n + 1, x3, x4 => ((rd s (q0 + 1) 14 9).bind fun v_4084 => (if v_4084 ≤ x4 then (kx x3) else ((rd s (q0 + 14) 12 x4).bind fun v_4086 => (if v_4086 = x1 then (if x3 = 0 then (FX12_isWished_b80 N s q0 x1 x2 x4 (FX12_isWished_l5 N s q0 x1 x2 kx n) kx) else ((rd s (q0 + 15) 12 x4).bind fun v_4089 => ((rd s (q0 + 1) 14 8).bind fun v_4090 => (if v_4090 < v_4089 then (FX12_isWished_b80 N s q0 x1 x2 x4 (FX12_isWished_l5 N s q0 x1 x2 kx n) kx) else ((rd s (q0 + 15) 12 x4).bind fun v_4092 => ((rd s (q0 + 49) 132 (w32 ((w32 (12 * v_4092)) + x2))).bind fun v_4093 => ((rd s (q0 + 16) 12 x4).bind fun v_4094 => (if v_4093 = v_4094 then (FX12_isWished_b81 N s q0 x1 x2 x4 1 (FX12_isWished_l5 N s q0 x1 x2 kx n) kx) else (FX12_isWished_b80 N s q0 x1 x2 x4 (FX12_isWished_l5 N s q0 x1 x2 kx n) kx))))))))) else (FX12_isWished_b82 N s q0 x1 x2 x3 x4 (FX12_isWished_l5 N s q0 x1 x2 kx n) kx)))))
set_option maxRecDepth 10000 in
set_option maxHeartbeats 4000000 in
theorem RX12_isWished_l5 {d N nc Ls : Nat} {Xs : Nat → Int32} (hd : 0 ≤ d) {h : iv_H} {s : iv_M} (hR : Rep nc Ls Xs h s) {q0 : Nat} (t0 : T12 nc q0) {m1 : Int32} {x1 : Int} (p1 : m1.toInt = x1) {m2 : Int32} {x2 : Int} (p2 : m2.toInt = x2) {kx : Int → Option (Int)} {r : Int} {Q : Option Value → iv_H → Prop} (hk : ∀ (m3 : Int32) (x3 : Int) (p3 : m3.toInt = x3), kx x3 = some r → Rn d 320 (some .boolean) 88 [none, none, none, some (.int m3), none] [] h Q) (hq : ∀ (z : Int32), z.toInt = r → Q (some (.int z)) h) : ∀ (n : Nat) (m3 : Int32) (x3 : Int) (p3 : m3.toInt = x3) (m4 : Int32) (x4 : Int) (p4 : m4.toInt = x4), FX12_isWished_l5 N s q0 x1 x2 kx n x3 x4 = some r → Rn d 320 (some .boolean) 5 [some (.ref q0), some (.int m1), some (.int m2), some (.int m3), some (.int m4)] [] h Q := by
  have hT := hX12_isWished
  intro n
  induction n with
  | zero =>
    intro m3 x3 p3 m4 x4 p4 e
    rw [FX12_isWished_l5] at e
    cases e
  | succ n ih =>
    intro m3 x3 p3 m4 x4 p4 e
    rw [FX12_isWished_l5] at e
    refine Rn.n hT 2 (pc' := 8) (L' := [some (.ref q0), some (.int m1), some (.int m2), some (.int m3), some (.int m4)]) (st' := [.ref q0, .int m4]) rfl ?_
    refine Rn.hp hT rfl rfl (gR_hp (rp_gR hR (T12_o t0) rfl)) ?_
    refine Rn.n hT 1 (pc' := 13) (L' := [some (.ref q0), some (.int m1), some (.int m2), some (.int m3), some (.int m4)]) (st' := [.int (9 : Int32), .ref (q0 + 1), .int m4]) rfl ?_
    obtain ⟨v_4084, e_4084, e⟩ := Option.bind_eq_some_iff.mp e
    obtain ⟨z_4084, g_4084, p_4084⟩ := rp_aI hR (T12_1 t0) (T12_1l t0) L32_9 e_4084
    refine Rn.hp hT rfl rfl (aI_hp g_4084) ?_
    by_cases c_4085 : v_4084 ≤ x4
    · rw [if_pos c_4085] at e
      refine Rn.bt hT rfl rfl rfl (decide_eq_true ((ti_le p_4084 p4).mpr c_4085)) ?_
      exact Rn.weak (ll_n (ll_n (ll_n (ll_s (ll_n ll_e))))) (hk m3 x3 p3 e)
    · rw [if_neg c_4085] at e
      refine Rn.bf hT rfl rfl rfl (decide_eq_false (fun z => c_4085 ((ti_le p_4084 p4).mp z))) ?_
      refine Rn.n hT 1 (pc' := 18) (L' := [some (.ref q0), some (.int m1), some (.int m2), some (.int m3), some (.int m4)]) (st' := [.ref q0]) rfl ?_
      refine Rn.hp hT rfl rfl (gR_hp (rp_gR hR (T12_o t0) rfl)) ?_
      refine Rn.n hT 1 (pc' := 23) (L' := [some (.ref q0), some (.int m1), some (.int m2), some (.int m3), some (.int m4)]) (st' := [.int m4, .ref (q0 + 14)]) rfl ?_
      obtain ⟨v_4086, e_4086, e⟩ := Option.bind_eq_some_iff.mp e
      obtain ⟨z_4086, g_4086, p_4086⟩ := rp_aI hR (T12_14 t0) (T12_14l t0) p4 e_4086
      refine Rn.hp hT rfl rfl (aI_hp g_4086) ?_
      refine Rn.n hT 1 (pc' := 25) (L' := [some (.ref q0), some (.int m1), some (.int m2), some (.int m3), some (.int m4)]) (st' := [.int m1, .int z_4086]) rfl ?_
      by_cases c_4087 : v_4086 = x1
      · rw [if_pos c_4087] at e
        refine Rn.bf hT rfl rfl rfl (decide_eq_false (fun z => z ((ti_e p_4086 p1).mpr c_4087))) ?_
        refine Rn.n hT 1 (pc' := 29) (L' := [some (.ref q0), some (.int m1), some (.int m2), some (.int m3), some (.int m4)]) (st' := [.int m3]) rfl ?_
        by_cases c_4088 : x3 = 0
        · rw [if_pos c_4088] at e
          refine Rn.bt hT rfl rfl rfl (decide_eq_true ((ti_e p3 L32_0).mpr c_4088)) ?_
          exact Rn.weak (ll_s (ll_s (ll_s (ll_n (ll_s ll_e))))) (RX12_isWished_b80 hd hR t0 p1 p2 p4 ih hk hq e)
        · rw [if_neg c_4088] at e
          refine Rn.bf hT rfl rfl rfl (decide_eq_false (fun z => c_4088 ((ti_e p3 L32_0).mp z))) ?_
          refine Rn.n hT 1 (pc' := 33) (L' := [some (.ref q0), some (.int m1), some (.int m2), some (.int m3), some (.int m4)]) (st' := [.ref q0]) rfl ?_
          refine Rn.hp hT rfl rfl (gR_hp (rp_gR hR (T12_o t0) rfl)) ?_
          refine Rn.n hT 1 (pc' := 38) (L' := [some (.ref q0), some (.int m1), some (.int m2), some (.int m3), some (.int m4)]) (st' := [.int m4, .ref (q0 + 15)]) rfl ?_
          obtain ⟨v_4089, e_4089, e⟩ := Option.bind_eq_some_iff.mp e
          obtain ⟨z_4089, g_4089, p_4089⟩ := rp_aI hR (T12_15 t0) (T12_15l t0) p4 e_4089
          refine Rn.hp hT rfl rfl (aI_hp g_4089) ?_
          refine Rn.n hT 1 (pc' := 40) (L' := [some (.ref q0), some (.int m1), some (.int m2), some (.int m3), some (.int m4)]) (st' := [.ref q0, .int z_4089]) rfl ?_
          refine Rn.hp hT rfl rfl (gR_hp (rp_gR hR (T12_o t0) rfl)) ?_
          refine Rn.n hT 1 (pc' := 45) (L' := [some (.ref q0), some (.int m1), some (.int m2), some (.int m3), some (.int m4)]) (st' := [.int (8 : Int32), .ref (q0 + 1), .int z_4089]) rfl ?_
          obtain ⟨v_4090, e_4090, e⟩ := Option.bind_eq_some_iff.mp e
          obtain ⟨z_4090, g_4090, p_4090⟩ := rp_aI hR (T12_1 t0) (T12_1l t0) L32_8 e_4090
          refine Rn.hp hT rfl rfl (aI_hp g_4090) ?_
          by_cases c_4091 : v_4090 < v_4089
          · rw [if_pos c_4091] at e
            refine Rn.bt hT rfl rfl rfl (decide_eq_true ((ti_l p_4090 p_4089).mpr c_4091)) ?_
            exact Rn.weak (ll_s (ll_s (ll_s (ll_n (ll_s ll_e))))) (RX12_isWished_b80 hd hR t0 p1 p2 p4 ih hk hq e)
          · rw [if_neg c_4091] at e
            refine Rn.bf hT rfl rfl rfl (decide_eq_false (fun z => c_4091 ((ti_l p_4090 p_4089).mp z))) ?_
            refine Rn.n hT 1 (pc' := 50) (L' := [some (.ref q0), some (.int m1), some (.int m2), some (.int m3), some (.int m4)]) (st' := [.ref q0]) rfl ?_
            refine Rn.hp hT rfl rfl (gR_hp (rp_gR hR (T12_o t0) rfl)) ?_
            refine Rn.n hT 2 (pc' := 56) (L' := [some (.ref q0), some (.int m1), some (.int m2), some (.int m3), some (.int m4)]) (st' := [.ref q0, .int (12 : Int32), .ref (q0 + 49)]) rfl ?_
            refine Rn.hp hT rfl rfl (gR_hp (rp_gR hR (T12_o t0) rfl)) ?_
            refine Rn.n hT 1 (pc' := 61) (L' := [some (.ref q0), some (.int m1), some (.int m2), some (.int m3), some (.int m4)]) (st' := [.int m4, .ref (q0 + 15), .int (12 : Int32), .ref (q0 + 49)]) rfl ?_
            obtain ⟨v_4092, e_4092, e⟩ := Option.bind_eq_some_iff.mp e
            obtain ⟨z_4092, g_4092, p_4092⟩ := rp_aI hR (T12_15 t0) (T12_15l t0) p4 e_4092
            refine Rn.hp hT rfl rfl (aI_hp g_4092) ?_
            refine Rn.n hT 3 (pc' := 65) (L' := [some (.ref q0), some (.int m1), some (.int m2), some (.int m3), some (.int m4)]) (st' := [.int (((12 : Int32) * z_4092) + m2), .ref (q0 + 49)]) rfl ?_
            obtain ⟨v_4093, e_4093, e⟩ := Option.bind_eq_some_iff.mp e
            obtain ⟨z_4093, g_4093, p_4093⟩ := rp_aI hR (T12_67 t0) (T12_67l t0) (ti_add (ti_mul L32_12 p_4092) p2) e_4093
            refine Rn.hp hT rfl rfl (aI_hp g_4093) ?_
            refine Rn.n hT 1 (pc' := 67) (L' := [some (.ref q0), some (.int m1), some (.int m2), some (.int m3), some (.int m4)]) (st' := [.ref q0, .int z_4093]) rfl ?_
            refine Rn.hp hT rfl rfl (gR_hp (rp_gR hR (T12_o t0) rfl)) ?_
            refine Rn.n hT 1 (pc' := 72) (L' := [some (.ref q0), some (.int m1), some (.int m2), some (.int m3), some (.int m4)]) (st' := [.int m4, .ref (q0 + 16), .int z_4093]) rfl ?_
            obtain ⟨v_4094, e_4094, e⟩ := Option.bind_eq_some_iff.mp e
            obtain ⟨z_4094, g_4094, p_4094⟩ := rp_aI hR (T12_16 t0) (T12_16l t0) p4 e_4094
            refine Rn.hp hT rfl rfl (aI_hp g_4094) ?_
            by_cases c_4095 : v_4093 = v_4094
            · rw [if_pos c_4095] at e
              refine Rn.bf hT rfl rfl rfl (decide_eq_false (fun z => z ((ti_e p_4093 p_4094).mpr c_4095))) ?_
              refine Rn.n hT 2 (pc' := 81) (L' := [some (.ref q0), some (.int m1), some (.int m2), some (.int m3), some (.int m4)]) (st' := [.int (1 : Int32)]) rfl ?_
              exact Rn.weak (ll_s (ll_s (ll_s (ll_n (ll_s ll_e))))) (RX12_isWished_b81 hd hR t0 p1 p2 p4 L32_1 ih hk hq e)
            · rw [if_neg c_4095] at e
              refine Rn.bt hT rfl rfl rfl (decide_eq_true (fun z => c_4095 ((ti_e p_4093 p_4094).mp z))) ?_
              exact Rn.weak (ll_s (ll_s (ll_s (ll_n (ll_s ll_e))))) (RX12_isWished_b80 hd hR t0 p1 p2 p4 ih hk hq e)
      · rw [if_neg c_4087] at e
        refine Rn.bt hT rfl rfl rfl (decide_eq_true (fun z => c_4087 ((ti_e p_4086 p1).mp z))) ?_
        exact Rn.weak (ll_s (ll_s (ll_s (ll_s (ll_s ll_e))))) (RX12_isWished_b82 hd hR t0 p1 p2 p3 p4 ih hk hq e)
def FX12_isWished (N : Nat) (s : iv_M) (q0 : Nat) (x1 : Int) (x2 : Int) : Option (Int) := (FX12_isWished_l5 N s q0 x1 x2 (fun (x4082_3 : Int) => (if x4082_3 = 0 ∨ x4082_3 = 1 then some x4082_3 else none)) N 1 0)
set_option maxRecDepth 10000 in
set_option maxHeartbeats 4000000 in
theorem RX12_isWished {d N nc Ls : Nat} {Xs : Nat → Int32} (hd : 1 ≤ d) {h : iv_H} {s : iv_M} (hR : Rep nc Ls Xs h s) {q0 : Nat} (t0 : T12 nc q0) {m1 : Int32} {x1 : Int} (p1 : m1.toInt = x1) {m2 : Int32} {x2 : Int} (p2 : m2.toInt = x2) {r : Int} {Q : Option Value → iv_H → Prop} (e : FX12_isWished N s q0 x1 x2 = some r) (hq : ∀ (z : Int32), z.toInt = r → Q (some (.int z)) h) : Cl d 320 [.ref q0, .int m1, .int m2] h Q := by
  obtain ⟨d, rfl⟩ : ∃ k, d = k + 1 := ⟨d - 1, by omega⟩
  have hd : 0 ≤ d := by omega
  have hT := hX12_isWished
  unfold FX12_isWished at e
  refine Cl.into (by decide) gX12_isWished rfl ?_
  show Rn d 320 (some .boolean) 0 [some (.ref q0), some (.int m1), some (.int m2), none, none] [] h Q
  refine Rn.n hT 4 (pc' := 5) (L' := [some (.ref q0), some (.int m1), some (.int m2), some (.int (1 : Int32)), some (.int (0 : Int32))]) (st' := []) rfl ?_
  refine Rn.weak (ll_s (ll_s (ll_s (ll_s (ll_s ll_e))))) (RX12_isWished_l5 hd hR t0 p1 p2 (fun m4082_3 x4082_3 p4082_3 e => ?_) hq N (1 : Int32) 1 L32_1 (0 : Int32) 0 L32_0 e)
  try dsimp only at e
  refine Rn.n hT 1 (pc' := 89) (L' := [none, none, none, some (.int m4082_3), none]) (st' := [.int m4082_3]) rfl ?_
  by_cases c_4083 : x4082_3 = 0 ∨ x4082_3 = 1
  · rw [if_pos c_4083] at e
    obtain rfl := Option.some.inj e
    exact Rn.ret hT rfl rfl (if_pos (ti_b p4082_3 c_4083)) (hq m4082_3 p4082_3)
  · rw [if_neg c_4083] at e
    cases e
set_option maxRecDepth 10000 in
theorem hX12_fillsWho : iv_Tb 321 tX12_fillsWho := iv_tb_of (m := mX12_fillsWho) rfl
set_option maxRecDepth 10000 in
theorem gX12_fillsWho : PG.2 321 = some mX12_fillsWho := iv_pi_of (t := tX12_fillsWho) rfl (by decide)
def FX12_fillsWho_b83 (N : Nat) (s : iv_M) (q0 : Nat) (x1 : Int) (x2 : Int) (xs0 : Int) (xs1 : Int) (xs2 : Int) (qs3 : Nat) (kb : iv_M → Int → Option (iv_M)) (kx : iv_M → Option (iv_M)) : Option (iv_M) := ((wr s qs3 ((sh qs3).2 : Int) xs2 (bOr xs1 xs0)).bind fun s_4118 => (kb s_4118 (w32 (x2 + 1))))
set_option maxRecDepth 10000 in
set_option maxHeartbeats 4000000 in
theorem RX12_fillsWho_b83 {d N nc Ls : Nat} {Xs : Nat → Int32} (hd : 9 ≤ d) {h : iv_H} {s : iv_M} (hR : Rep nc Ls Xs h s) {q0 : Nat} (t0 : T12 nc q0) {m1 : Int32} {x1 : Int} (p1 : m1.toInt = x1) {m2 : Int32} {x2 : Int} (p2 : m2.toInt = x2) {ms0 : Int32} {xs0 : Int} (ps0 : ms0.toInt = xs0) {ms1 : Int32} {xs1 : Int} (ps1 : ms1.toInt = xs1) {ms2 : Int32} {xs2 : Int} (ps2 : ms2.toInt = xs2) {qs3 : Nat} (ts3 : TA 0 nc qs3) {kb : iv_M → Int → Option (iv_M)} {kx : iv_M → Option (iv_M)} {r : iv_M} {Q : Option Value → iv_H → Prop} (hb : ∀ (h : iv_H) (s : iv_M) (hR : Rep nc Ls Xs h s) (mw2 : Int32) (xw2 : Int) (pw2 : mw2.toInt = xw2), kb s xw2 = some r → Rn d 321 none 50 [some (.ref q0), some (.int m1), some (.int mw2)] [] h Q) (hk : ∀ (h : iv_H) (s : iv_M) (hR : Rep nc Ls Xs h s), kx s = some r → Rn d 321 none 91 [some (.ref q0), some (.int m1), none] [] h Q) (hq : ∀ h1, Rep nc Ls Xs h1 r → Q none h1) (e : FX12_fillsWho_b83 N s q0 x1 x2 xs0 xs1 xs2 qs3 kb kx = some r) : Rn d 321 none 83 [some (.ref q0), some (.int m1), some (.int m2)] [.int ms0, .int ms1, .int ms2, .ref qs3] h Q := by
  have hT := hX12_fillsWho
  unfold FX12_fillsWho_b83 at e
  refine Rn.n hT 1 (pc' := 84) (L' := [some (.ref q0), some (.int m1), some (.int m2)]) (st' := [.int (ms1 ||| ms0), .int ms2, .ref qs3]) rfl ?_
  obtain ⟨s_4118, e_4119, e⟩ := Option.bind_eq_some_iff.mp e
  obtain ⟨h_4118, g_4119, R_4118⟩ := rp_wI hR ts3 rfl ps2 (ti_or ps1 ps0) e_4119
  refine Rn.hp hT rfl rfl (wI_hp g_4119) ?_
  refine Rn.n hT 2 (pc' := 50) (L' := [some (.ref q0), some (.int m1), some (.int (m2 + (1 : Int32)))]) (st' := []) rfl ?_
  exact Rn.weak (ll_s (ll_s (ll_s ll_e))) (hb h_4118 s_4118 R_4118 (m2 + (1 : Int32)) (w32 (x2 + 1)) (ti_add p2 L32_1) e)
def FX12_fillsWho_l50 (N : Nat) (q0 : Nat) (x1 : Int) (kx : iv_M → Option (iv_M)) : Nat → iv_M → Int → Option (iv_M)
  | 0, _, _ => none
  | n + 1, s, x2 => ((rd s (q0 + 1) 14 2).bind fun v_4113 => (if v_4113 ≤ x2 then (kx s) else ((rd s (q0 + 50) 6 x1).bind fun v_4115 => ((FX12_isWished N s q0 x1 x2).bind fun v_4116 => (if v_4116 = 0 then (FX12_fillsWho_b83 N s q0 x1 x2 0 v_4115 x1 (q0 + 50) (FX12_fillsWho_l50 N q0 x1 kx n) kx) else (FX12_fillsWho_b83 N s q0 x1 x2 (sl32 1 x2) v_4115 x1 (q0 + 50) (FX12_fillsWho_l50 N q0 x1 kx n) kx))))))
set_option maxRecDepth 10000 in
set_option maxHeartbeats 4000000 in
theorem RX12_fillsWho_l50 {d N nc Ls : Nat} {Xs : Nat → Int32} (hd : 9 ≤ d) {q0 : Nat} (t0 : T12 nc q0) {m1 : Int32} {x1 : Int} (p1 : m1.toInt = x1) {kx : iv_M → Option (iv_M)} {r : iv_M} {Q : Option Value → iv_H → Prop} (hk : ∀ (h : iv_H) (s : iv_M) (hR : Rep nc Ls Xs h s), kx s = some r → Rn d 321 none 91 [some (.ref q0), some (.int m1), none] [] h Q) (hq : ∀ h1, Rep nc Ls Xs h1 r → Q none h1) : ∀ (n : Nat) (h : iv_H) (s : iv_M) (hR : Rep nc Ls Xs h s) (m2 : Int32) (x2 : Int) (p2 : m2.toInt = x2), FX12_fillsWho_l50 N q0 x1 kx n s x2 = some r → Rn d 321 none 50 [some (.ref q0), some (.int m1), some (.int m2)] [] h Q := by
  have hT := hX12_fillsWho
  intro n
  induction n with
  | zero =>
    intro h s hR m2 x2 p2 e
    rw [FX12_fillsWho_l50] at e
    cases e
  | succ n ih =>
    intro h s hR m2 x2 p2 e
    rw [FX12_fillsWho_l50] at e
    refine Rn.n hT 2 (pc' := 52) (L' := [some (.ref q0), some (.int m1), some (.int m2)]) (st' := [.ref q0, .int m2]) rfl ?_
    refine Rn.hp hT rfl rfl (gR_hp (rp_gR hR (T12_o t0) rfl)) ?_
    refine Rn.n hT 1 (pc' := 56) (L' := [some (.ref q0), some (.int m1), some (.int m2)]) (st' := [.int (2 : Int32), .ref (q0 + 1), .int m2]) rfl ?_
    obtain ⟨v_4113, e_4113, e⟩ := Option.bind_eq_some_iff.mp e
    obtain ⟨z_4113, g_4113, p_4113⟩ := rp_aI hR (T12_1 t0) (T12_1l t0) L32_2 e_4113
    refine Rn.hp hT rfl rfl (aI_hp g_4113) ?_
    by_cases c_4114 : v_4113 ≤ x2
    · rw [if_pos c_4114] at e
      refine Rn.bt hT rfl rfl rfl (decide_eq_true ((ti_le p_4113 p2).mpr c_4114)) ?_
      exact Rn.weak (ll_s (ll_s (ll_n ll_e))) (hk h s hR e)
    · rw [if_neg c_4114] at e
      refine Rn.bf hT rfl rfl rfl (decide_eq_false (fun z => c_4114 ((ti_le p_4113 p2).mp z))) ?_
      refine Rn.n hT 1 (pc' := 61) (L' := [some (.ref q0), some (.int m1), some (.int m2)]) (st' := [.ref q0]) rfl ?_
      refine Rn.hp hT rfl rfl (gR_hp (rp_gR hR (T12_o t0) rfl)) ?_
      refine Rn.n hT 2 (pc' := 66) (L' := [some (.ref q0), some (.int m1), some (.int m2)]) (st' := [.int m1, .ref (q0 + 50), .int m1, .ref (q0 + 50)]) rfl ?_
      obtain ⟨v_4115, e_4115, e⟩ := Option.bind_eq_some_iff.mp e
      obtain ⟨z_4115, g_4115, p_4115⟩ := rp_aI hR (T12_69 t0) (T12_69l t0) p1 e_4115
      refine Rn.hp hT rfl rfl (aI_hp g_4115) ?_
      refine Rn.n hT 3 (pc' := 70) (L' := [some (.ref q0), some (.int m1), some (.int m2)]) (st' := [.int m2, .int m1, .ref q0, .int z_4115, .int m1, .ref (q0 + 50)]) rfl ?_
      obtain ⟨v_4116, e_4116, e⟩ := Option.bind_eq_some_iff.mp e
      refine Rn.call hT rfl rfl rfl (Nat.le_of_ble_eq_true rfl) (rcv_v gX12_isWished (by omega) (rp_ck hR (T12_o t0))) (RX12_isWished (by omega) hR t0 p1 p2 e_4116 (fun z_4116 p_4116 => ?_))
      show Rn d _ _ 73 [some (.ref q0), some (.int m1), some (.int m2)] [.int z_4116, .int z_4115, .int m1, .ref (q0 + 50)] h Q
      by_cases c_4117 : v_4116 = 0
      · rw [if_pos c_4117] at e
        refine Rn.bt hT rfl rfl rfl (decide_eq_true ((ti_e p_4116 L32_0).mpr c_4117)) ?_
        refine Rn.n hT 1 (pc' := 83) (L' := [some (.ref q0), some (.int m1), some (.int m2)]) (st' := [.int (0 : Int32), .int z_4115, .int m1, .ref (q0 + 50)]) rfl ?_
        exact Rn.weak (ll_s (ll_s (ll_s ll_e))) (RX12_fillsWho_b83 hd hR t0 p1 p2 L32_0 p_4115 p1 (T12_69 t0) ih hk hq e)
      · rw [if_neg c_4117] at e
        refine Rn.bf hT rfl rfl rfl (decide_eq_false (fun z => c_4117 ((ti_e p_4116 L32_0).mp z))) ?_
        refine Rn.n hT 4 (pc' := 83) (L' := [some (.ref q0), some (.int m1), some (.int m2)]) (st' := [.int ((1 : Int32) <<< (m2 &&& 31)), .int z_4115, .int m1, .ref (q0 + 50)]) rfl ?_
        exact Rn.weak (ll_s (ll_s (ll_s ll_e))) (RX12_fillsWho_b83 hd hR t0 p1 p2 (ti_shl L32_1 p2) p_4115 p1 (T12_69 t0) ih hk hq e)
def FX12_fillsWho_l31 (N : Nat) (q0 : Nat) (kx : iv_M → Option (iv_M)) : Nat → iv_M → Int → Option (iv_M)
  | 0, _, _ => none
  | n + 1, s, x1 => ((rd s (q0 + 1) 14 3).bind fun v_4107 => (if v_4107 ≤ x1 then (kx s) else ((wr s (q0 + 50) 6 x1 0).bind fun s_4109 => (FX12_fillsWho_l50 N q0 x1 (fun (s_4111 : iv_M) => (FX12_fillsWho_l31 N q0 kx n s_4111 (w32 (x1 + 1)))) N s_4109 0))))
set_option maxRecDepth 10000 in
set_option maxHeartbeats 4000000 in
theorem RX12_fillsWho_l31 {d N nc Ls : Nat} {Xs : Nat → Int32} (hd : 9 ≤ d) {q0 : Nat} (t0 : T12 nc q0) {kx : iv_M → Option (iv_M)} {r : iv_M} {Q : Option Value → iv_H → Prop} (hk : ∀ (h : iv_H) (s : iv_M) (hR : Rep nc Ls Xs h s), kx s = some r → Rn d 321 none 97 [some (.ref q0), none, none] [] h Q) (hq : ∀ h1, Rep nc Ls Xs h1 r → Q none h1) : ∀ (n : Nat) (h : iv_H) (s : iv_M) (hR : Rep nc Ls Xs h s) (m1 : Int32) (x1 : Int) (p1 : m1.toInt = x1), FX12_fillsWho_l31 N q0 kx n s x1 = some r → Rn d 321 none 31 [some (.ref q0), some (.int m1), none] [] h Q := by
  have hT := hX12_fillsWho
  intro n
  induction n with
  | zero =>
    intro h s hR m1 x1 p1 e
    rw [FX12_fillsWho_l31] at e
    cases e
  | succ n ih =>
    intro h s hR m1 x1 p1 e
    rw [FX12_fillsWho_l31] at e
    refine Rn.n hT 2 (pc' := 33) (L' := [some (.ref q0), some (.int m1), none]) (st' := [.ref q0, .int m1]) rfl ?_
    refine Rn.hp hT rfl rfl (gR_hp (rp_gR hR (T12_o t0) rfl)) ?_
    refine Rn.n hT 1 (pc' := 37) (L' := [some (.ref q0), some (.int m1), none]) (st' := [.int (3 : Int32), .ref (q0 + 1), .int m1]) rfl ?_
    obtain ⟨v_4107, e_4107, e⟩ := Option.bind_eq_some_iff.mp e
    obtain ⟨z_4107, g_4107, p_4107⟩ := rp_aI hR (T12_1 t0) (T12_1l t0) L32_3 e_4107
    refine Rn.hp hT rfl rfl (aI_hp g_4107) ?_
    by_cases c_4108 : v_4107 ≤ x1
    · rw [if_pos c_4108] at e
      refine Rn.bt hT rfl rfl rfl (decide_eq_true ((ti_le p_4107 p1).mpr c_4108)) ?_
      exact Rn.weak (ll_s (ll_n (ll_n ll_e))) (hk h s hR e)
    · rw [if_neg c_4108] at e
      refine Rn.bf hT rfl rfl rfl (decide_eq_false (fun z => c_4108 ((ti_le p_4107 p1).mp z))) ?_
      refine Rn.n hT 1 (pc' := 42) (L' := [some (.ref q0), some (.int m1), none]) (st' := [.ref q0]) rfl ?_
      refine Rn.hp hT rfl rfl (gR_hp (rp_gR hR (T12_o t0) rfl)) ?_
      refine Rn.n hT 2 (pc' := 47) (L' := [some (.ref q0), some (.int m1), none]) (st' := [.int (0 : Int32), .int m1, .ref (q0 + 50)]) rfl ?_
      obtain ⟨s_4109, e_4110, e⟩ := Option.bind_eq_some_iff.mp e
      obtain ⟨h_4109, g_4110, R_4109⟩ := rp_wI hR (T12_69 t0) (T12_69l t0) p1 L32_0 e_4110
      refine Rn.hp hT rfl rfl (wI_hp g_4110) ?_
      refine Rn.n hT 2 (pc' := 50) (L' := [some (.ref q0), some (.int m1), some (.int (0 : Int32))]) (st' := []) rfl ?_
      refine Rn.weak (ll_s (ll_s (ll_s ll_e))) (RX12_fillsWho_l50 hd t0 p1 (fun h_4111 s_4111 R_4111 e => ?_) hq N h_4109 s_4109 R_4109 (0 : Int32) 0 L32_0 e)
      try dsimp only at e
      refine Rn.n hT 2 (pc' := 31) (L' := [some (.ref q0), some (.int (m1 + (1 : Int32))), none]) (st' := []) rfl ?_
      exact Rn.weak (ll_s (ll_s (ll_n ll_e))) (ih h_4111 s_4111 R_4111 (m1 + (1 : Int32)) (w32 (x1 + 1)) (ti_add p1 L32_1) e)
def FX12_fillsWho_l99 (N : Nat) (q0 : Nat) (kx : iv_M → Option (iv_M)) : Nat → iv_M → Int → Option (iv_M)
  | 0, _, _ => none
  | n + 1, s, x1 => (if 72 ≤ x1 then (kx s) else ((wr s (q0 + 54) 72 x1 0).bind fun s_4122 => (FX12_fillsWho_l99 N q0 kx n s_4122 (w32 (x1 + 1)))))
set_option maxRecDepth 10000 in
set_option maxHeartbeats 4000000 in
theorem RX12_fillsWho_l99 {d N nc Ls : Nat} {Xs : Nat → Int32} (hd : 9 ≤ d) {q0 : Nat} (t0 : T12 nc q0) {kx : iv_M → Option (iv_M)} {r : iv_M} {Q : Option Value → iv_H → Prop} (hk : ∀ (h : iv_H) (s : iv_M) (hR : Rep nc Ls Xs h s), kx s = some r → Rn d 321 none 121 [none, none, none] [] h Q) (hq : ∀ h1, Rep nc Ls Xs h1 r → Q none h1) : ∀ (n : Nat) (h : iv_H) (s : iv_M) (hR : Rep nc Ls Xs h s) (m1 : Int32) (x1 : Int) (p1 : m1.toInt = x1), FX12_fillsWho_l99 N q0 kx n s x1 = some r → Rn d 321 none 99 [some (.ref q0), some (.int m1), none] [] h Q := by
  have hT := hX12_fillsWho
  intro n
  induction n with
  | zero =>
    intro h s hR m1 x1 p1 e
    rw [FX12_fillsWho_l99] at e
    cases e
  | succ n ih =>
    intro h s hR m1 x1 p1 e
    rw [FX12_fillsWho_l99] at e
    refine Rn.n hT 2 (pc' := 101) (L' := [some (.ref q0), some (.int m1), none]) (st' := [.ref q0, .int m1]) rfl ?_
    refine Rn.hp hT rfl rfl (gR_hp (rp_gR hR (T12_o t0) rfl)) ?_
    obtain ⟨z_4120, g_4120, p_4120⟩ : ∃ z : Int32, aL h (q0 + 54) = some z ∧ z.toInt = 72 := rp_aL hR (T12_73 t0) (Or.inl rfl) (T12_73l t0)
    refine Rn.hp hT rfl rfl (aL_hp g_4120) ?_
    by_cases c_4121 : 72 ≤ x1
    · rw [if_pos c_4121] at e
      refine Rn.bt hT rfl rfl rfl (decide_eq_true ((ti_le p_4120 p1).mpr c_4121)) ?_
      exact Rn.weak (ll_n (ll_n (ll_n ll_e))) (hk h s hR e)
    · rw [if_neg c_4121] at e
      refine Rn.bf hT rfl rfl rfl (decide_eq_false (fun z => c_4121 ((ti_le p_4120 p1).mp z))) ?_
      refine Rn.n hT 1 (pc' := 109) (L' := [some (.ref q0), some (.int m1), none]) (st' := [.ref q0]) rfl ?_
      refine Rn.hp hT rfl rfl (gR_hp (rp_gR hR (T12_o t0) rfl)) ?_
      refine Rn.n hT 2 (pc' := 114) (L' := [some (.ref q0), some (.int m1), none]) (st' := [.int (0 : Int32), .int m1, .ref (q0 + 54)]) rfl ?_
      obtain ⟨s_4122, e_4123, e⟩ := Option.bind_eq_some_iff.mp e
      obtain ⟨h_4122, g_4123, R_4122⟩ := rp_wI hR (T12_73 t0) (T12_73l t0) p1 L32_0 e_4123
      refine Rn.hp hT rfl rfl (wI_hp g_4123) ?_
      refine Rn.n hT 2 (pc' := 99) (L' := [some (.ref q0), some (.int (m1 + (1 : Int32))), none]) (st' := []) rfl ?_
      exact Rn.weak (ll_s (ll_s (ll_n ll_e))) (ih h_4122 s_4122 R_4122 (m1 + (1 : Int32)) (w32 (x1 + 1)) (ti_add p1 L32_1) e)
def FX12_fillsWho (N : Nat) (s : iv_M) (q0 : Nat) : Option (iv_M) := ((FX12_fillsFloor N s q0 (q0 + 41) 0).bind fun s_4097 => ((rd s_4097 (q0 + 1) 14 8).bind fun v_4098 => ((FX12_followsSome N s_4097 q0 v_4098).bind fun s_4100 => ((FX12_laysFloor N s_4100 q0 (q0 + 41) 0).bind fun s_4102 => (FX12_fillsWho_l31 N q0 (fun (s_4103 : iv_M) => (FX12_fillsWho_l99 N q0 (fun (s_4105 : iv_M) => some s_4105) N s_4103 0)) N s_4102 0)))))
set_option maxRecDepth 10000 in
set_option maxHeartbeats 4000000 in
theorem RX12_fillsWho {d N nc Ls : Nat} {Xs : Nat → Int32} (hd : 10 ≤ d) {h : iv_H} {s : iv_M} (hR : Rep nc Ls Xs h s) {q0 : Nat} (t0 : T12 nc q0) {r : iv_M} {Q : Option Value → iv_H → Prop} (e : FX12_fillsWho N s q0 = some r) (hq : ∀ h1, Rep nc Ls Xs h1 r → Q none h1) : Cl d 321 [.ref q0] h Q := by
  obtain ⟨d, rfl⟩ : ∃ k, d = k + 1 := ⟨d - 1, by omega⟩
  have hd : 9 ≤ d := by omega
  have hT := hX12_fillsWho
  unfold FX12_fillsWho at e
  refine Cl.into (by decide) gX12_fillsWho rfl ?_
  show Rn d 321 none 0 [some (.ref q0), none, none] [] h Q
  refine Rn.n hT 2 (pc' := 2) (L' := [some (.ref q0), none, none]) (st' := [.ref q0, .ref q0]) rfl ?_
  refine Rn.hp hT rfl rfl (gR_hp (rp_gR hR (T12_o t0) rfl)) ?_
  refine Rn.n hT 1 (pc' := 6) (L' := [some (.ref q0), none, none]) (st' := [.int (0 : Int32), .ref (q0 + 41), .ref q0]) rfl ?_
  obtain ⟨s_4097, e_4096, e⟩ := Option.bind_eq_some_iff.mp e
  refine Rn.call hT rfl rfl rfl (Nat.le_of_ble_eq_true rfl) (rcv_v gX12_fillsFloor (by omega) (rp_ck hR (T12_o t0))) (RX12_fillsFloor (by omega) hR t0 (T12_55 t0) L32_0 e_4096 (fun h_4097 R_4097 => ?_))
  show Rn d _ _ 9 [some (.ref q0), none, none] [] h_4097 Q
  refine Rn.n hT 2 (pc' := 11) (L' := [some (.ref q0), none, none]) (st' := [.ref q0, .ref q0]) rfl ?_
  refine Rn.hp hT rfl rfl (gR_hp (rp_gR R_4097 (T12_o t0) rfl)) ?_
  refine Rn.n hT 1 (pc' := 16) (L' := [some (.ref q0), none, none]) (st' := [.int (8 : Int32), .ref (q0 + 1), .ref q0]) rfl ?_
  obtain ⟨v_4098, e_4098, e⟩ := Option.bind_eq_some_iff.mp e
  obtain ⟨z_4098, g_4098, p_4098⟩ := rp_aI R_4097 (T12_1 t0) (T12_1l t0) L32_8 e_4098
  refine Rn.hp hT rfl rfl (aI_hp g_4098) ?_
  obtain ⟨s_4100, e_4099, e⟩ := Option.bind_eq_some_iff.mp e
  refine Rn.call hT rfl rfl rfl (Nat.le_of_ble_eq_true rfl) (rcv_v gX12_followsSome (by omega) (rp_ck R_4097 (T12_o t0))) (RX12_followsSome (by omega) R_4097 t0 p_4098 e_4099 (fun h_4100 R_4100 => ?_))
  show Rn d _ _ 20 [some (.ref q0), none, none] [] h_4100 Q
  refine Rn.n hT 2 (pc' := 22) (L' := [some (.ref q0), none, none]) (st' := [.ref q0, .ref q0]) rfl ?_
  refine Rn.hp hT rfl rfl (gR_hp (rp_gR R_4100 (T12_o t0) rfl)) ?_
  refine Rn.n hT 1 (pc' := 26) (L' := [some (.ref q0), none, none]) (st' := [.int (0 : Int32), .ref (q0 + 41), .ref q0]) rfl ?_
  obtain ⟨s_4102, e_4101, e⟩ := Option.bind_eq_some_iff.mp e
  refine Rn.call hT rfl rfl rfl (Nat.le_of_ble_eq_true rfl) (rcv_v gX12_laysFloor (by omega) (rp_ck R_4100 (T12_o t0))) (RX12_laysFloor (by omega) R_4100 t0 (T12_55 t0) L32_0 e_4101 (fun h_4102 R_4102 => ?_))
  show Rn d _ _ 29 [some (.ref q0), none, none] [] h_4102 Q
  refine Rn.n hT 2 (pc' := 31) (L' := [some (.ref q0), some (.int (0 : Int32)), none]) (st' := []) rfl ?_
  refine Rn.weak (ll_s (ll_s (ll_n ll_e))) (RX12_fillsWho_l31 hd t0 (fun h_4103 s_4103 R_4103 e => ?_) hq N h_4102 s_4102 R_4102 (0 : Int32) 0 L32_0 e)
  try dsimp only at e
  refine Rn.n hT 2 (pc' := 99) (L' := [some (.ref q0), some (.int (0 : Int32)), none]) (st' := []) rfl ?_
  refine Rn.weak (ll_s (ll_s (ll_n ll_e))) (RX12_fillsWho_l99 hd t0 (fun h_4105 s_4105 R_4105 e => ?_) hq N h_4103 s_4103 R_4103 (0 : Int32) 0 L32_0 e)
  try dsimp only at e
  obtain rfl := Option.some.inj e
  exact Rn.ret hT rfl rfl rfl (hq h_4105 R_4105)
set_option maxRecDepth 10000 in
theorem hX12_notesBeds : iv_Tb 322 tX12_notesBeds := iv_tb_of (m := mX12_notesBeds) rfl
set_option maxRecDepth 10000 in
theorem gX12_notesBeds : PG.2 322 = some mX12_notesBeds := iv_pi_of (t := tX12_notesBeds) rfl (by decide)
def FX12_notesBeds_b51 (N : Nat) (s : iv_M) (q0 : Nat) (x1 : Int) (x2 : Int) (x3 : Int) (xs0 : Int) (xs1 : Int) (qs2 : Nat) (kb : iv_M → Int → Option (iv_M)) (kx : iv_M → Option (iv_M)) : Option (iv_M) := ((wr s qs2 ((sh qs2).2 : Int) xs1 xs0).bind fun s_4134 => (kb s_4134 (w32 (x3 + 1))))
set_option maxRecDepth 10000 in
set_option maxHeartbeats 4000000 in
theorem RX12_notesBeds_b51 {d N nc Ls : Nat} {Xs : Nat → Int32} (hd : 0 ≤ d) {h : iv_H} {s : iv_M} (hR : Rep nc Ls Xs h s) {q0 : Nat} (t0 : T12 nc q0) {m1 : Int32} {x1 : Int} (p1 : m1.toInt = x1) {m2 : Int32} {x2 : Int} (p2 : m2.toInt = x2) {m3 : Int32} {x3 : Int} (p3 : m3.toInt = x3) {ms0 : Int32} {xs0 : Int} (ps0 : ms0.toInt = xs0) {ms1 : Int32} {xs1 : Int} (ps1 : ms1.toInt = xs1) {qs2 : Nat} (ts2 : TA 0 nc qs2) {kb : iv_M → Int → Option (iv_M)} {kx : iv_M → Option (iv_M)} {r : iv_M} {Q : Option Value → iv_H → Prop} (hb : ∀ (h : iv_H) (s : iv_M) (hR : Rep nc Ls Xs h s) (mw3 : Int32) (xw3 : Int) (pw3 : mw3.toInt = xw3), kb s xw3 = some r → Rn d 322 none 2 [some (.ref q0), some (.int m1), some (.int m2), some (.int mw3)] [] h Q) (hk : ∀ (h : iv_H) (s : iv_M) (hR : Rep nc Ls Xs h s), kx s = some r → Rn d 322 none 58 [none, none, none, none] [] h Q) (hq : ∀ h1, Rep nc Ls Xs h1 r → Q none h1) (e : FX12_notesBeds_b51 N s q0 x1 x2 x3 xs0 xs1 qs2 kb kx = some r) : Rn d 322 none 51 [some (.ref q0), some (.int m1), some (.int m2), some (.int m3)] [.int ms0, .int ms1, .ref qs2] h Q := by
  have hT := hX12_notesBeds
  unfold FX12_notesBeds_b51 at e
  obtain ⟨s_4134, e_4135, e⟩ := Option.bind_eq_some_iff.mp e
  obtain ⟨h_4134, g_4135, R_4134⟩ := rp_wI hR ts2 rfl ps1 ps0 e_4135
  refine Rn.hp hT rfl rfl (wI_hp g_4135) ?_
  refine Rn.n hT 2 (pc' := 2) (L' := [some (.ref q0), some (.int m1), some (.int m2), some (.int (m3 + (1 : Int32)))]) (st' := []) rfl ?_
  exact Rn.weak (ll_s (ll_s (ll_s (ll_s ll_e)))) (hb h_4134 s_4134 R_4134 (m3 + (1 : Int32)) (w32 (x3 + 1)) (ti_add p3 L32_1) e)
def FX12_notesBeds_l2 (N : Nat) (q0 : Nat) (x1 : Int) (x2 : Int) (kx : iv_M → Option (iv_M)) : Nat → iv_M → Int → Option (iv_M)
  | 0, _, _ => none
  | n + 1, s, x3 => (if x1 ≤ x3 then (kx s) else ((rd s (q0 + 51) 7 x3).bind fun v_4127 => ((rd s (q0 + 54) 72 (w32 ((w32 (12 * x3)) + v_4127))).bind fun v_4128 => ((wr s (q0 + 54) 72 (w32 ((w32 (12 * x3)) + v_4127)) (w32 (v_4128 + 1))).bind fun s_4129 => (if x2 = 0 then ((rd s_4129 (q0 + 53) 6 x3).bind fun v_4132 => (FX12_notesBeds_b51 N s_4129 q0 x1 x2 x3 v_4132 x3 (q0 + 53) (FX12_notesBeds_l2 N q0 x1 x2 kx n) kx)) else ((rd s_4129 (q0 + 51) 7 x3).bind fun v_4133 => (FX12_notesBeds_b51 N s_4129 q0 x1 x2 x3 v_4133 x3 (q0 + 53) (FX12_notesBeds_l2 N q0 x1 x2 kx n) kx)))))))
set_option maxRecDepth 10000 in
set_option maxHeartbeats 4000000 in
theorem RX12_notesBeds_l2 {d N nc Ls : Nat} {Xs : Nat → Int32} (hd : 0 ≤ d) {q0 : Nat} (t0 : T12 nc q0) {m1 : Int32} {x1 : Int} (p1 : m1.toInt = x1) {m2 : Int32} {x2 : Int} (p2 : m2.toInt = x2) {kx : iv_M → Option (iv_M)} {r : iv_M} {Q : Option Value → iv_H → Prop} (hk : ∀ (h : iv_H) (s : iv_M) (hR : Rep nc Ls Xs h s), kx s = some r → Rn d 322 none 58 [none, none, none, none] [] h Q) (hq : ∀ h1, Rep nc Ls Xs h1 r → Q none h1) : ∀ (n : Nat) (h : iv_H) (s : iv_M) (hR : Rep nc Ls Xs h s) (m3 : Int32) (x3 : Int) (p3 : m3.toInt = x3), FX12_notesBeds_l2 N q0 x1 x2 kx n s x3 = some r → Rn d 322 none 2 [some (.ref q0), some (.int m1), some (.int m2), some (.int m3)] [] h Q := by
  have hT := hX12_notesBeds
  intro n
  induction n with
  | zero =>
    intro h s hR m3 x3 p3 e
    rw [FX12_notesBeds_l2] at e
    cases e
  | succ n ih =>
    intro h s hR m3 x3 p3 e
    rw [FX12_notesBeds_l2] at e
    refine Rn.n hT 2 (pc' := 4) (L' := [some (.ref q0), some (.int m1), some (.int m2), some (.int m3)]) (st' := [.int m1, .int m3]) rfl ?_
    by_cases c_4126 : x1 ≤ x3
    · rw [if_pos c_4126] at e
      refine Rn.bt hT rfl rfl rfl (decide_eq_true ((ti_le p1 p3).mpr c_4126)) ?_
      exact Rn.weak (ll_n (ll_n (ll_n (ll_n ll_e)))) (hk h s hR e)
    · rw [if_neg c_4126] at e
      refine Rn.bf hT rfl rfl rfl (decide_eq_false (fun z => c_4126 ((ti_le p1 p3).mp z))) ?_
      refine Rn.n hT 1 (pc' := 8) (L' := [some (.ref q0), some (.int m1), some (.int m2), some (.int m3)]) (st' := [.ref q0]) rfl ?_
      refine Rn.hp hT rfl rfl (gR_hp (rp_gR hR (T12_o t0) rfl)) ?_
      refine Rn.n hT 4 (pc' := 16) (L' := [some (.ref q0), some (.int m1), some (.int m2), some (.int m3)]) (st' := [.ref q0, .int ((12 : Int32) * m3), .ref (q0 + 54)]) rfl ?_
      refine Rn.hp hT rfl rfl (gR_hp (rp_gR hR (T12_o t0) rfl)) ?_
      refine Rn.n hT 1 (pc' := 20) (L' := [some (.ref q0), some (.int m1), some (.int m2), some (.int m3)]) (st' := [.int m3, .ref (q0 + 51), .int ((12 : Int32) * m3), .ref (q0 + 54)]) rfl ?_
      obtain ⟨v_4127, e_4127, e⟩ := Option.bind_eq_some_iff.mp e
      obtain ⟨z_4127, g_4127, p_4127⟩ := rp_aI hR (T12_70 t0) (T12_70l t0) p3 e_4127
      refine Rn.hp hT rfl rfl (aI_hp g_4127) ?_
      refine Rn.n hT 2 (pc' := 23) (L' := [some (.ref q0), some (.int m1), some (.int m2), some (.int m3)]) (st' := [.int (((12 : Int32) * m3) + z_4127), .ref (q0 + 54), .int (((12 : Int32) * m3) + z_4127), .ref (q0 + 54)]) rfl ?_
      obtain ⟨v_4128, e_4128, e⟩ := Option.bind_eq_some_iff.mp e
      obtain ⟨z_4128, g_4128, p_4128⟩ := rp_aI hR (T12_73 t0) (T12_73l t0) (ti_add (ti_mul L32_12 p3) p_4127) e_4128
      refine Rn.hp hT rfl rfl (aI_hp g_4128) ?_
      refine Rn.n hT 2 (pc' := 26) (L' := [some (.ref q0), some (.int m1), some (.int m2), some (.int m3)]) (st' := [.int (z_4128 + (1 : Int32)), .int (((12 : Int32) * m3) + z_4127), .ref (q0 + 54)]) rfl ?_
      obtain ⟨s_4129, e_4130, e⟩ := Option.bind_eq_some_iff.mp e
      obtain ⟨h_4129, g_4130, R_4129⟩ := rp_wI hR (T12_73 t0) (T12_73l t0) (ti_add (ti_mul L32_12 p3) p_4127) (ti_add p_4128 L32_1) e_4130
      refine Rn.hp hT rfl rfl (wI_hp g_4130) ?_
      refine Rn.n hT 1 (pc' := 28) (L' := [some (.ref q0), some (.int m1), some (.int m2), some (.int m3)]) (st' := [.ref q0]) rfl ?_
      refine Rn.hp hT rfl rfl (gR_hp (rp_gR R_4129 (T12_o t0) rfl)) ?_
      refine Rn.n hT 2 (pc' := 33) (L' := [some (.ref q0), some (.int m1), some (.int m2), some (.int m3)]) (st' := [.int m2, .int m3, .ref (q0 + 53)]) rfl ?_
      by_cases c_4131 : x2 = 0
      · rw [if_pos c_4131] at e
        refine Rn.bt hT rfl rfl rfl (decide_eq_true ((ti_e p2 L32_0).mpr c_4131)) ?_
        refine Rn.n hT 1 (pc' := 46) (L' := [some (.ref q0), some (.int m1), some (.int m2), some (.int m3)]) (st' := [.ref q0, .int m3, .ref (q0 + 53)]) rfl ?_
        refine Rn.hp hT rfl rfl (gR_hp (rp_gR R_4129 (T12_o t0) rfl)) ?_
        refine Rn.n hT 1 (pc' := 50) (L' := [some (.ref q0), some (.int m1), some (.int m2), some (.int m3)]) (st' := [.int m3, .ref (q0 + 53), .int m3, .ref (q0 + 53)]) rfl ?_
        obtain ⟨v_4132, e_4132, e⟩ := Option.bind_eq_some_iff.mp e
        obtain ⟨z_4132, g_4132, p_4132⟩ := rp_aI R_4129 (T12_72 t0) (T12_72l t0) p3 e_4132
        refine Rn.hp hT rfl rfl (aI_hp g_4132) ?_
        exact Rn.weak (ll_s (ll_s (ll_s (ll_s ll_e)))) (RX12_notesBeds_b51 hd R_4129 t0 p1 p2 p3 p_4132 p3 (T12_72 t0) ih hk hq e)
      · rw [if_neg c_4131] at e
        refine Rn.bf hT rfl rfl rfl (decide_eq_false (fun z => c_4131 ((ti_e p2 L32_0).mp z))) ?_
        refine Rn.n hT 1 (pc' := 37) (L' := [some (.ref q0), some (.int m1), some (.int m2), some (.int m3)]) (st' := [.ref q0, .int m3, .ref (q0 + 53)]) rfl ?_
        refine Rn.hp hT rfl rfl (gR_hp (rp_gR R_4129 (T12_o t0) rfl)) ?_
        refine Rn.n hT 1 (pc' := 41) (L' := [some (.ref q0), some (.int m1), some (.int m2), some (.int m3)]) (st' := [.int m3, .ref (q0 + 51), .int m3, .ref (q0 + 53)]) rfl ?_
        obtain ⟨v_4133, e_4133, e⟩ := Option.bind_eq_some_iff.mp e
        obtain ⟨z_4133, g_4133, p_4133⟩ := rp_aI R_4129 (T12_70 t0) (T12_70l t0) p3 e_4133
        refine Rn.hp hT rfl rfl (aI_hp g_4133) ?_
        refine Rn.n hT 1 (pc' := 51) (L' := [some (.ref q0), some (.int m1), some (.int m2), some (.int m3)]) (st' := [.int z_4133, .int m3, .ref (q0 + 53)]) rfl ?_
        exact Rn.weak (ll_s (ll_s (ll_s (ll_s ll_e)))) (RX12_notesBeds_b51 hd R_4129 t0 p1 p2 p3 p_4133 p3 (T12_72 t0) ih hk hq e)
def FX12_notesBeds (N : Nat) (s : iv_M) (q0 : Nat) (x1 : Int) (x2 : Int) : Option (iv_M) := (FX12_notesBeds_l2 N q0 x1 x2 (fun (s_4124 : iv_M) => some s_4124) N s 0)
set_option maxRecDepth 10000 in
set_option maxHeartbeats 4000000 in
theorem RX12_notesBeds {d N nc Ls : Nat} {Xs : Nat → Int32} (hd : 1 ≤ d) {h : iv_H} {s : iv_M} (hR : Rep nc Ls Xs h s) {q0 : Nat} (t0 : T12 nc q0) {m1 : Int32} {x1 : Int} (p1 : m1.toInt = x1) {m2 : Int32} {x2 : Int} (p2 : m2.toInt = x2) {r : iv_M} {Q : Option Value → iv_H → Prop} (e : FX12_notesBeds N s q0 x1 x2 = some r) (hq : ∀ h1, Rep nc Ls Xs h1 r → Q none h1) : Cl d 322 [.ref q0, .int m1, .int m2] h Q := by
  obtain ⟨d, rfl⟩ : ∃ k, d = k + 1 := ⟨d - 1, by omega⟩
  have hd : 0 ≤ d := by omega
  have hT := hX12_notesBeds
  unfold FX12_notesBeds at e
  refine Cl.into (by decide) gX12_notesBeds rfl ?_
  show Rn d 322 none 0 [some (.ref q0), some (.int m1), some (.int m2), none] [] h Q
  refine Rn.n hT 2 (pc' := 2) (L' := [some (.ref q0), some (.int m1), some (.int m2), some (.int (0 : Int32))]) (st' := []) rfl ?_
  refine Rn.weak (ll_s (ll_s (ll_s (ll_s ll_e)))) (RX12_notesBeds_l2 hd t0 p1 p2 (fun h_4124 s_4124 R_4124 e => ?_) hq N h s hR (0 : Int32) 0 L32_0 e)
  try dsimp only at e
  obtain rfl := Option.some.inj e
  exact Rn.ret hT rfl rfl rfl (hq h_4124 R_4124)
set_option maxRecDepth 10000 in
theorem hX12_findsBeds : iv_Tb 323 tX12_findsBeds := iv_tb_of (m := mX12_findsBeds) rfl
set_option maxRecDepth 10000 in
theorem gX12_findsBeds : PG.2 323 = some mX12_findsBeds := iv_pi_of (t := tX12_findsBeds) rfl (by decide)
def FX12_findsBeds_b91 (N : Nat) (s : iv_M) (q0 : Nat) (x1 : Int) (x2 : Int) (x3 : Int) (x4 : Int)  (kb : iv_M → Int → Option (Int × iv_M)) (kx : iv_M → Int → Option (Int × iv_M)) : Option (Int × iv_M) := (kb s (w32 (x4 + 1)))
set_option maxRecDepth 10000 in
set_option maxHeartbeats 4000000 in
theorem RX12_findsBeds_b91 {d N nc Ls : Nat} {Xs : Nat → Int32} (hd : 10 ≤ d) {h : iv_H} {s : iv_M} (hR : Rep nc Ls Xs h s) {q0 : Nat} (t0 : T12 nc q0) {m1 : Int32} {x1 : Int} (p1 : m1.toInt = x1) {m2 : Int32} {x2 : Int} (p2 : m2.toInt = x2) {m3 : Int32} {x3 : Int} (p3 : m3.toInt = x3) {m4 : Int32} {x4 : Int} (p4 : m4.toInt = x4)  {kb : iv_M → Int → Option (Int × iv_M)} {kx : iv_M → Int → Option (Int × iv_M)} {r : Int × iv_M} {Q : Option Value → iv_H → Prop} (hb : ∀ (h : iv_H) (s : iv_M) (hR : Rep nc Ls Xs h s) (mw4 : Int32) (xw4 : Int) (pw4 : mw4.toInt = xw4), kb s xw4 = some r → Rn d 323 (some .int) 51 [some (.ref q0), some (.int m1), some (.int m2), some (.int m3), some (.int mw4)] [] h Q) (hk : ∀ (h : iv_H) (s : iv_M) (hR : Rep nc Ls Xs h s) (mw4 : Int32) (xw4 : Int) (pw4 : mw4.toInt = xw4), kx s xw4 = some r → Rn d 323 (some .int) 97 [some (.ref q0), some (.int m1), some (.int m2), some (.int m3), some (.int mw4)] [] h Q) (hq : ∀ (z : Int32) (h1 : iv_H), z.toInt = r.1 → Rep nc Ls Xs h1 r.2 → Q (some (.int z)) h1) (e : FX12_findsBeds_b91 N s q0 x1 x2 x3 x4  kb kx = some r) : Rn d 323 (some .int) 91 [some (.ref q0), some (.int m1), some (.int m2), some (.int m3), some (.int m4)] [] h Q := by
  have hT := hX12_findsBeds
  unfold FX12_findsBeds_b91 at e
  refine Rn.n hT 2 (pc' := 51) (L' := [some (.ref q0), some (.int m1), some (.int m2), some (.int m3), some (.int (m4 + (1 : Int32)))]) (st' := []) rfl ?_
  exact Rn.weak (ll_s (ll_s (ll_s (ll_s (ll_s ll_e))))) (hb h s hR (m4 + (1 : Int32)) (w32 (x4 + 1)) (ti_add p4 L32_1) e)
def FX12_findsBeds_l51 (N : Nat) (q0 : Nat) (x1 : Int) (x2 : Int) (x3 : Int) (kx : iv_M → Int → Option (Int × iv_M)) : Nat → iv_M → Int → Option (Int × iv_M)
  | 0, _, _ => none
  | n + 1, s, x4 => ((rd s (q0 + 1) 14 2).bind fun v_4151 => (if v_4151 ≤ x4 then (kx s x4) else ((rd s (q0 + 52) 7 x3).bind fun v_4153 => (if (bAn (sr32 v_4153 x4) 1) = 1 then (FX12_findsBeds_b91 N s q0 x1 x2 x3 x4 (FX12_findsBeds_l51 N q0 x1 x2 x3 kx n) kx) else ((rd s (q0 + 50) 6 x3).bind fun v_4155 => (if (bAn (sr32 v_4155 x4) 1) = 0 then (FX12_findsBeds_b91 N s q0 x1 x2 x3 x4 (FX12_findsBeds_l51 N q0 x1 x2 x3 kx n) kx) else (kx s x4)))))))
set_option maxRecDepth 10000 in
set_option maxHeartbeats 4000000 in
theorem RX12_findsBeds_l51 {d N nc Ls : Nat} {Xs : Nat → Int32} (hd : 10 ≤ d) {q0 : Nat} (t0 : T12 nc q0) {m1 : Int32} {x1 : Int} (p1 : m1.toInt = x1) {m2 : Int32} {x2 : Int} (p2 : m2.toInt = x2) {m3 : Int32} {x3 : Int} (p3 : m3.toInt = x3) {kx : iv_M → Int → Option (Int × iv_M)} {r : Int × iv_M} {Q : Option Value → iv_H → Prop} (hk : ∀ (h : iv_H) (s : iv_M) (hR : Rep nc Ls Xs h s) (m4 : Int32) (x4 : Int) (p4 : m4.toInt = x4), kx s x4 = some r → Rn d 323 (some .int) 97 [some (.ref q0), some (.int m1), some (.int m2), some (.int m3), some (.int m4)] [] h Q) (hq : ∀ (z : Int32) (h1 : iv_H), z.toInt = r.1 → Rep nc Ls Xs h1 r.2 → Q (some (.int z)) h1) : ∀ (n : Nat) (h : iv_H) (s : iv_M) (hR : Rep nc Ls Xs h s) (m4 : Int32) (x4 : Int) (p4 : m4.toInt = x4), FX12_findsBeds_l51 N q0 x1 x2 x3 kx n s x4 = some r → Rn d 323 (some .int) 51 [some (.ref q0), some (.int m1), some (.int m2), some (.int m3), some (.int m4)] [] h Q := by
  have hT := hX12_findsBeds
  intro n
  induction n with
  | zero =>
    intro h s hR m4 x4 p4 e
    rw [FX12_findsBeds_l51] at e
    cases e
  | succ n ih =>
    intro h s hR m4 x4 p4 e
    rw [FX12_findsBeds_l51] at e
    refine Rn.n hT 2 (pc' := 54) (L' := [some (.ref q0), some (.int m1), some (.int m2), some (.int m3), some (.int m4)]) (st' := [.ref q0, .int m4]) rfl ?_
    refine Rn.hp hT rfl rfl (gR_hp (rp_gR hR (T12_o t0) rfl)) ?_
    refine Rn.n hT 1 (pc' := 58) (L' := [some (.ref q0), some (.int m1), some (.int m2), some (.int m3), some (.int m4)]) (st' := [.int (2 : Int32), .ref (q0 + 1), .int m4]) rfl ?_
    obtain ⟨v_4151, e_4151, e⟩ := Option.bind_eq_some_iff.mp e
    obtain ⟨z_4151, g_4151, p_4151⟩ := rp_aI hR (T12_1 t0) (T12_1l t0) L32_2 e_4151
    refine Rn.hp hT rfl rfl (aI_hp g_4151) ?_
    by_cases c_4152 : v_4151 ≤ x4
    · rw [if_pos c_4152] at e
      refine Rn.bt hT rfl rfl rfl (decide_eq_true ((ti_le p_4151 p4).mpr c_4152)) ?_
      exact Rn.weak (ll_s (ll_s (ll_s (ll_s (ll_s ll_e))))) (hk h s hR m4 x4 p4 e)
    · rw [if_neg c_4152] at e
      refine Rn.bf hT rfl rfl rfl (decide_eq_false (fun z => c_4152 ((ti_le p_4151 p4).mp z))) ?_
      refine Rn.n hT 1 (pc' := 63) (L' := [some (.ref q0), some (.int m1), some (.int m2), some (.int m3), some (.int m4)]) (st' := [.ref q0]) rfl ?_
      refine Rn.hp hT rfl rfl (gR_hp (rp_gR hR (T12_o t0) rfl)) ?_
      refine Rn.n hT 1 (pc' := 67) (L' := [some (.ref q0), some (.int m1), some (.int m2), some (.int m3), some (.int m4)]) (st' := [.int m3, .ref (q0 + 52)]) rfl ?_
      obtain ⟨v_4153, e_4153, e⟩ := Option.bind_eq_some_iff.mp e
      obtain ⟨z_4153, g_4153, p_4153⟩ := rp_aI hR (T12_71 t0) (T12_71l t0) p3 e_4153
      refine Rn.hp hT rfl rfl (aI_hp g_4153) ?_
      refine Rn.n hT 5 (pc' := 74) (L' := [some (.ref q0), some (.int m1), some (.int m2), some (.int m3), some (.int m4)]) (st' := [.int (1 : Int32), .int ((z_4153 >>> (m4 &&& 31)) &&& (1 : Int32))]) rfl ?_
      by_cases c_4154 : (bAn (sr32 v_4153 x4) 1) = 1
      · rw [if_pos c_4154] at e
        refine Rn.bt hT rfl rfl rfl (decide_eq_true ((ti_e (ti_and (ti_shr p_4153 p4) L32_1) L32_1).mpr c_4154)) ?_
        exact Rn.weak (ll_s (ll_s (ll_s (ll_s (ll_s ll_e))))) (RX12_findsBeds_b91 hd hR t0 p1 p2 p3 p4 ih hk hq e)
      · rw [if_neg c_4154] at e
        refine Rn.bf hT rfl rfl rfl (decide_eq_false (fun z => c_4154 ((ti_e (ti_and (ti_shr p_4153 p4) L32_1) L32_1).mp z))) ?_
        refine Rn.n hT 1 (pc' := 78) (L' := [some (.ref q0), some (.int m1), some (.int m2), some (.int m3), some (.int m4)]) (st' := [.ref q0]) rfl ?_
        refine Rn.hp hT rfl rfl (gR_hp (rp_gR hR (T12_o t0) rfl)) ?_
        refine Rn.n hT 1 (pc' := 82) (L' := [some (.ref q0), some (.int m1), some (.int m2), some (.int m3), some (.int m4)]) (st' := [.int m3, .ref (q0 + 50)]) rfl ?_
        obtain ⟨v_4155, e_4155, e⟩ := Option.bind_eq_some_iff.mp e
        obtain ⟨z_4155, g_4155, p_4155⟩ := rp_aI hR (T12_69 t0) (T12_69l t0) p3 e_4155
        refine Rn.hp hT rfl rfl (aI_hp g_4155) ?_
        refine Rn.n hT 4 (pc' := 88) (L' := [some (.ref q0), some (.int m1), some (.int m2), some (.int m3), some (.int m4)]) (st' := [.int ((z_4155 >>> (m4 &&& 31)) &&& (1 : Int32))]) rfl ?_
        by_cases c_4156 : (bAn (sr32 v_4155 x4) 1) = 0
        · rw [if_pos c_4156] at e
          refine Rn.bf hT rfl rfl rfl (decide_eq_false (fun z => z ((ti_e (ti_and (ti_shr p_4155 p4) L32_1) L32_0).mpr c_4156))) ?_
          exact Rn.weak (ll_s (ll_s (ll_s (ll_s (ll_s ll_e))))) (RX12_findsBeds_b91 hd hR t0 p1 p2 p3 p4 ih hk hq e)
        · rw [if_neg c_4156] at e
          refine Rn.bt hT rfl rfl rfl (decide_eq_true (fun z => c_4156 ((ti_e (ti_and (ti_shr p_4155 p4) L32_1) L32_0).mp z))) ?_
          exact Rn.weak (ll_s (ll_s (ll_s (ll_s (ll_s ll_e))))) (hk h s hR m4 x4 p4 e)
def FX12_findsBeds_b179 (N : Nat) (s : iv_M) (q0 : Nat) (x1 : Int) (x2 : Int) (x3 : Int)  (kb : iv_M → Int → Int → Option (Int × iv_M)) (kx : iv_M → Int → Option (Int × iv_M)) : Option (Int × iv_M) := (kb s x2 x3)
set_option maxRecDepth 10000 in
set_option maxHeartbeats 4000000 in
theorem RX12_findsBeds_b179 {d N nc Ls : Nat} {Xs : Nat → Int32} (hd : 10 ≤ d) {h : iv_H} {s : iv_M} (hR : Rep nc Ls Xs h s) {q0 : Nat} (t0 : T12 nc q0) {m1 : Int32} {x1 : Int} (p1 : m1.toInt = x1) {m2 : Int32} {x2 : Int} (p2 : m2.toInt = x2) {m3 : Int32} {x3 : Int} (p3 : m3.toInt = x3)  {kb : iv_M → Int → Int → Option (Int × iv_M)} {kx : iv_M → Int → Option (Int × iv_M)} {r : Int × iv_M} {Q : Option Value → iv_H → Prop} (hb : ∀ (h : iv_H) (s : iv_M) (hR : Rep nc Ls Xs h s) (mw2 : Int32) (xw2 : Int) (pw2 : mw2.toInt = xw2) (mw3 : Int32) (xw3 : Int) (pw3 : mw3.toInt = xw3), kb s xw2 xw3 = some r → Rn d 323 (some .int) 37 [some (.ref q0), some (.int m1), some (.int mw2), some (.int mw3), none] [] h Q) (hk : ∀ (h : iv_H) (s : iv_M) (hR : Rep nc Ls Xs h s) (mw2 : Int32) (xw2 : Int) (pw2 : mw2.toInt = xw2), kx s xw2 = some r → Rn d 323 (some .int) 182 [none, some (.int m1), some (.int mw2), none, none] [] h Q) (hq : ∀ (z : Int32) (h1 : iv_H), z.toInt = r.1 → Rep nc Ls Xs h1 r.2 → Q (some (.int z)) h1) (e : FX12_findsBeds_b179 N s q0 x1 x2 x3  kb kx = some r) : Rn d 323 (some .int) 179 [some (.ref q0), some (.int m1), some (.int m2), some (.int m3), none] [] h Q := by
  have hT := hX12_findsBeds
  unfold FX12_findsBeds_b179 at e
  refine Rn.n hT 1 (pc' := 37) (L' := [some (.ref q0), some (.int m1), some (.int m2), some (.int m3), none]) (st' := []) rfl ?_
  exact Rn.weak (ll_s (ll_s (ll_s (ll_s (ll_n ll_e))))) (hb h s hR m2 x2 p2 m3 x3 p3 e)
def FX12_findsBeds_b144 (N : Nat) (s : iv_M) (q0 : Nat) (x1 : Int) (x2 : Int) (x3 : Int) (xs0 : Int) (xs1 : Int) (qs2 : Nat) (kb : iv_M → Int → Int → Option (Int × iv_M)) (kx : iv_M → Int → Option (Int × iv_M)) : Option (Int × iv_M) := ((FX12_notesBeds N s qs2 xs1 xs0).bind fun s_4169 => (FX12_findsBeds_b179 N s_4169 q0 x1 x2 x3 kb kx))
set_option maxRecDepth 10000 in
set_option maxHeartbeats 4000000 in
theorem RX12_findsBeds_b144 {d N nc Ls : Nat} {Xs : Nat → Int32} (hd : 10 ≤ d) {h : iv_H} {s : iv_M} (hR : Rep nc Ls Xs h s) {q0 : Nat} (t0 : T12 nc q0) {m1 : Int32} {x1 : Int} (p1 : m1.toInt = x1) {m2 : Int32} {x2 : Int} (p2 : m2.toInt = x2) {m3 : Int32} {x3 : Int} (p3 : m3.toInt = x3) {ms0 : Int32} {xs0 : Int} (ps0 : ms0.toInt = xs0) {ms1 : Int32} {xs1 : Int} (ps1 : ms1.toInt = xs1) {qs2 : Nat} (ts2 : T12 nc qs2) {kb : iv_M → Int → Int → Option (Int × iv_M)} {kx : iv_M → Int → Option (Int × iv_M)} {r : Int × iv_M} {Q : Option Value → iv_H → Prop} (hb : ∀ (h : iv_H) (s : iv_M) (hR : Rep nc Ls Xs h s) (mw2 : Int32) (xw2 : Int) (pw2 : mw2.toInt = xw2) (mw3 : Int32) (xw3 : Int) (pw3 : mw3.toInt = xw3), kb s xw2 xw3 = some r → Rn d 323 (some .int) 37 [some (.ref q0), some (.int m1), some (.int mw2), some (.int mw3), none] [] h Q) (hk : ∀ (h : iv_H) (s : iv_M) (hR : Rep nc Ls Xs h s) (mw2 : Int32) (xw2 : Int) (pw2 : mw2.toInt = xw2), kx s xw2 = some r → Rn d 323 (some .int) 182 [none, some (.int m1), some (.int mw2), none, none] [] h Q) (hq : ∀ (z : Int32) (h1 : iv_H), z.toInt = r.1 → Rep nc Ls Xs h1 r.2 → Q (some (.int z)) h1) (e : FX12_findsBeds_b144 N s q0 x1 x2 x3 xs0 xs1 qs2 kb kx = some r) : Rn d 323 (some .int) 144 [some (.ref q0), some (.int m1), some (.int m2), some (.int m3), none] [.int ms0, .int ms1, .ref qs2] h Q := by
  have hT := hX12_findsBeds
  unfold FX12_findsBeds_b144 at e
  obtain ⟨s_4169, e_4168, e⟩ := Option.bind_eq_some_iff.mp e
  refine Rn.call hT rfl rfl rfl (Nat.le_of_ble_eq_true rfl) (rcv_v gX12_notesBeds (by omega) (rp_ck hR (T12_o ts2))) (RX12_notesBeds (by omega) hR ts2 ps1 ps0 e_4168 (fun h_4169 R_4169 => ?_))
  show Rn d _ _ 147 [some (.ref q0), some (.int m1), some (.int m2), some (.int m3), none] [] h_4169 Q
  refine Rn.n hT 1 (pc' := 179) (L' := [some (.ref q0), some (.int m1), some (.int m2), some (.int m3), none]) (st' := []) rfl ?_
  exact Rn.weak (ll_s (ll_s (ll_s (ll_s (ll_n ll_e))))) (RX12_findsBeds_b179 hd R_4169 t0 p1 p2 p3 hb hk hq e)
def FX12_findsBeds_b97 (N : Nat) (s : iv_M) (q0 : Nat) (x1 : Int) (x2 : Int) (x3 : Int) (x4 : Int)  (kb : iv_M → Int → Int → Option (Int × iv_M)) (kx : iv_M → Int → Option (Int × iv_M)) : Option (Int × iv_M) := ((wr s (q0 + 51) 7 x3 x4).bind fun s_4157 => ((rd s_4157 (q0 + 1) 14 2).bind fun v_4159 => (if x4 = v_4159 then (FX12_findsBeds_b179 N s_4157 q0 x1 x2 (w32 (x3 + (-1))) kb kx) else (if x3 = (w32 (x1 - 1)) then (if (w32 (x2 + 1)) = 1 then (FX12_findsBeds_b144 N s_4157 q0 x1 (w32 (x2 + 1)) x3 1 x1 q0 kb kx) else (FX12_findsBeds_b144 N s_4157 q0 x1 (w32 (x2 + 1)) x3 0 x1 q0 kb kx)) else ((rd s_4157 (q0 + 52) 7 x3).bind fun v_4162 => ((wr s_4157 (q0 + 52) 7 (w32 (x3 + 1)) (bOr v_4162 (sl32 1 x4))).bind fun s_4163 => ((wr s_4163 (q0 + 51) 7 (w32 (x3 + 1)) (-1)).bind fun s_4165 => (FX12_findsBeds_b179 N s_4165 q0 x1 x2 (w32 (x3 + 1)) kb kx))))))))
set_option maxRecDepth 10000 in
set_option maxHeartbeats 4000000 in
theorem RX12_findsBeds_b97 {d N nc Ls : Nat} {Xs : Nat → Int32} (hd : 10 ≤ d) {h : iv_H} {s : iv_M} (hR : Rep nc Ls Xs h s) {q0 : Nat} (t0 : T12 nc q0) {m1 : Int32} {x1 : Int} (p1 : m1.toInt = x1) {m2 : Int32} {x2 : Int} (p2 : m2.toInt = x2) {m3 : Int32} {x3 : Int} (p3 : m3.toInt = x3) {m4 : Int32} {x4 : Int} (p4 : m4.toInt = x4)  {kb : iv_M → Int → Int → Option (Int × iv_M)} {kx : iv_M → Int → Option (Int × iv_M)} {r : Int × iv_M} {Q : Option Value → iv_H → Prop} (hb : ∀ (h : iv_H) (s : iv_M) (hR : Rep nc Ls Xs h s) (mw2 : Int32) (xw2 : Int) (pw2 : mw2.toInt = xw2) (mw3 : Int32) (xw3 : Int) (pw3 : mw3.toInt = xw3), kb s xw2 xw3 = some r → Rn d 323 (some .int) 37 [some (.ref q0), some (.int m1), some (.int mw2), some (.int mw3), none] [] h Q) (hk : ∀ (h : iv_H) (s : iv_M) (hR : Rep nc Ls Xs h s) (mw2 : Int32) (xw2 : Int) (pw2 : mw2.toInt = xw2), kx s xw2 = some r → Rn d 323 (some .int) 182 [none, some (.int m1), some (.int mw2), none, none] [] h Q) (hq : ∀ (z : Int32) (h1 : iv_H), z.toInt = r.1 → Rep nc Ls Xs h1 r.2 → Q (some (.int z)) h1) (e : FX12_findsBeds_b97 N s q0 x1 x2 x3 x4  kb kx = some r) : Rn d 323 (some .int) 97 [some (.ref q0), some (.int m1), some (.int m2), some (.int m3), some (.int m4)] [] h Q := by
  have hT := hX12_findsBeds
  unfold FX12_findsBeds_b97 at e
  refine Rn.n hT 1 (pc' := 98) (L' := [some (.ref q0), some (.int m1), some (.int m2), some (.int m3), some (.int m4)]) (st' := [.ref q0]) rfl ?_
  refine Rn.hp hT rfl rfl (gR_hp (rp_gR hR (T12_o t0) rfl)) ?_
  refine Rn.n hT 2 (pc' := 104) (L' := [some (.ref q0), some (.int m1), some (.int m2), some (.int m3), some (.int m4)]) (st' := [.int m4, .int m3, .ref (q0 + 51)]) rfl ?_
  obtain ⟨s_4157, e_4158, e⟩ := Option.bind_eq_some_iff.mp e
  obtain ⟨h_4157, g_4158, R_4157⟩ := rp_wI hR (T12_70 t0) (T12_70l t0) p3 p4 e_4158
  refine Rn.hp hT rfl rfl (wI_hp g_4158) ?_
  refine Rn.n hT 2 (pc' := 108) (L' := [some (.ref q0), some (.int m1), some (.int m2), some (.int m3), some (.int m4)]) (st' := [.ref q0, .int m4]) rfl ?_
  refine Rn.hp hT rfl rfl (gR_hp (rp_gR R_4157 (T12_o t0) rfl)) ?_
  refine Rn.n hT 1 (pc' := 112) (L' := [some (.ref q0), some (.int m1), some (.int m2), some (.int m3), some (.int m4)]) (st' := [.int (2 : Int32), .ref (q0 + 1), .int m4]) rfl ?_
  obtain ⟨v_4159, e_4159, e⟩ := Option.bind_eq_some_iff.mp e
  obtain ⟨z_4159, g_4159, p_4159⟩ := rp_aI R_4157 (T12_1 t0) (T12_1l t0) L32_2 e_4159
  refine Rn.hp hT rfl rfl (aI_hp g_4159) ?_
  by_cases c_4160 : x4 = v_4159
  · rw [if_pos c_4160] at e
    refine Rn.bf hT rfl rfl rfl (decide_eq_false (fun z => z ((ti_e p4 p_4159).mpr c_4160))) ?_
    refine Rn.n hT 2 (pc' := 179) (L' := [some (.ref q0), some (.int m1), some (.int m2), some (.int (m3 + (-1 : Int32))), some (.int m4)]) (st' := []) rfl ?_
    exact Rn.weak (ll_s (ll_s (ll_s (ll_s (ll_n ll_e))))) (RX12_findsBeds_b179 hd R_4157 t0 p1 p2 (ti_add p3 L32_m1) hb hk hq e)
  · rw [if_neg c_4160] at e
    refine Rn.bt hT rfl rfl rfl (decide_eq_true (fun z => c_4160 ((ti_e p4 p_4159).mp z))) ?_
    refine Rn.n hT 4 (pc' := 126) (L' := [some (.ref q0), some (.int m1), some (.int m2), some (.int m3), some (.int m4)]) (st' := [.int (m1 - (1 : Int32)), .int m3]) rfl ?_
    by_cases c_4161 : x3 = (w32 (x1 - 1))
    · rw [if_pos c_4161] at e
      refine Rn.bf hT rfl rfl rfl (decide_eq_false (fun z => z ((ti_e p3 (ti_sub p1 L32_1)).mpr c_4161))) ?_
      refine Rn.n hT 5 (pc' := 136) (L' := [some (.ref q0), some (.int m1), some (.int (m2 + (1 : Int32))), some (.int m3), some (.int m4)]) (st' := [.int (1 : Int32), .int (m2 + (1 : Int32)), .int m1, .ref q0]) rfl ?_
      by_cases c_4167 : (w32 (x2 + 1)) = 1
      · rw [if_pos c_4167] at e
        refine Rn.bf hT rfl rfl rfl (decide_eq_false (fun z => z ((ti_e (ti_add p2 L32_1) L32_1).mpr c_4167))) ?_
        refine Rn.n hT 2 (pc' := 144) (L' := [some (.ref q0), some (.int m1), some (.int (m2 + (1 : Int32))), some (.int m3), some (.int m4)]) (st' := [.int (1 : Int32), .int m1, .ref q0]) rfl ?_
        exact Rn.weak (ll_s (ll_s (ll_s (ll_s (ll_n ll_e))))) (RX12_findsBeds_b144 hd R_4157 t0 p1 (ti_add p2 L32_1) p3 L32_1 p1 t0 hb hk hq e)
      · rw [if_neg c_4167] at e
        refine Rn.bt hT rfl rfl rfl (decide_eq_true (fun z => c_4167 ((ti_e (ti_add p2 L32_1) L32_1).mp z))) ?_
        refine Rn.n hT 1 (pc' := 144) (L' := [some (.ref q0), some (.int m1), some (.int (m2 + (1 : Int32))), some (.int m3), some (.int m4)]) (st' := [.int (0 : Int32), .int m1, .ref q0]) rfl ?_
        exact Rn.weak (ll_s (ll_s (ll_s (ll_s (ll_n ll_e))))) (RX12_findsBeds_b144 hd R_4157 t0 p1 (ti_add p2 L32_1) p3 L32_0 p1 t0 hb hk hq e)
    · rw [if_neg c_4161] at e
      refine Rn.bt hT rfl rfl rfl (decide_eq_true (fun z => c_4161 ((ti_e p3 (ti_sub p1 L32_1)).mp z))) ?_
      refine Rn.n hT 1 (pc' := 151) (L' := [some (.ref q0), some (.int m1), some (.int m2), some (.int m3), some (.int m4)]) (st' := [.ref q0]) rfl ?_
      refine Rn.hp hT rfl rfl (gR_hp (rp_gR R_4157 (T12_o t0) rfl)) ?_
      refine Rn.n hT 4 (pc' := 158) (L' := [some (.ref q0), some (.int m1), some (.int m2), some (.int m3), some (.int m4)]) (st' := [.ref q0, .int (m3 + (1 : Int32)), .ref (q0 + 52)]) rfl ?_
      refine Rn.hp hT rfl rfl (gR_hp (rp_gR R_4157 (T12_o t0) rfl)) ?_
      refine Rn.n hT 1 (pc' := 162) (L' := [some (.ref q0), some (.int m1), some (.int m2), some (.int m3), some (.int m4)]) (st' := [.int m3, .ref (q0 + 52), .int (m3 + (1 : Int32)), .ref (q0 + 52)]) rfl ?_
      obtain ⟨v_4162, e_4162, e⟩ := Option.bind_eq_some_iff.mp e
      obtain ⟨z_4162, g_4162, p_4162⟩ := rp_aI R_4157 (T12_71 t0) (T12_71l t0) p3 e_4162
      refine Rn.hp hT rfl rfl (aI_hp g_4162) ?_
      refine Rn.n hT 4 (pc' := 168) (L' := [some (.ref q0), some (.int m1), some (.int m2), some (.int m3), some (.int m4)]) (st' := [.int (z_4162 ||| ((1 : Int32) <<< (m4 &&& 31))), .int (m3 + (1 : Int32)), .ref (q0 + 52)]) rfl ?_
      obtain ⟨s_4163, e_4164, e⟩ := Option.bind_eq_some_iff.mp e
      obtain ⟨h_4163, g_4164, R_4163⟩ := rp_wI R_4157 (T12_71 t0) (T12_71l t0) (ti_add p3 L32_1) (ti_or p_4162 (ti_shl L32_1 p4)) e_4164
      refine Rn.hp hT rfl rfl (wI_hp g_4164) ?_
      refine Rn.n hT 2 (pc' := 173) (L' := [some (.ref q0), some (.int m1), some (.int m2), some (.int (m3 + (1 : Int32))), some (.int m4)]) (st' := [.ref q0]) rfl ?_
      refine Rn.hp hT rfl rfl (gR_hp (rp_gR R_4163 (T12_o t0) rfl)) ?_
      refine Rn.n hT 2 (pc' := 178) (L' := [some (.ref q0), some (.int m1), some (.int m2), some (.int (m3 + (1 : Int32))), some (.int m4)]) (st' := [.int (-1 : Int32), .int (m3 + (1 : Int32)), .ref (q0 + 51)]) rfl ?_
      obtain ⟨s_4165, e_4166, e⟩ := Option.bind_eq_some_iff.mp e
      obtain ⟨h_4165, g_4166, R_4165⟩ := rp_wI R_4163 (T12_70 t0) (T12_70l t0) (ti_add p3 L32_1) L32_m1 e_4166
      refine Rn.hp hT rfl rfl (wI_hp g_4166) ?_
      exact Rn.weak (ll_s (ll_s (ll_s (ll_s (ll_n ll_e))))) (RX12_findsBeds_b179 hd R_4165 t0 p1 p2 (ti_add p3 L32_1) hb hk hq e)
def FX12_findsBeds_l37 (N : Nat) (q0 : Nat) (x1 : Int) (kx : iv_M → Int → Option (Int × iv_M)) : Nat → iv_M → Int → Int → Option (Int × iv_M)
  | 0, _, _, _ => none
  | n + 1, s, x2, x3 => (if x3 < 0 then (kx s x2) else ((rd s (q0 + 51) 7 x3).bind fun v_4148 => (FX12_findsBeds_l51 N q0 x1 x2 x3 (fun (s_4149 : iv_M) (x4150_4 : Int) => (FX12_findsBeds_b97 N s_4149 q0 x1 x2 x3 x4150_4 (FX12_findsBeds_l37 N q0 x1 kx n) kx)) N s (w32 (v_4148 + 1)))))
set_option maxRecDepth 10000 in
set_option maxHeartbeats 4000000 in
theorem RX12_findsBeds_l37 {d N nc Ls : Nat} {Xs : Nat → Int32} (hd : 10 ≤ d) {q0 : Nat} (t0 : T12 nc q0) {m1 : Int32} {x1 : Int} (p1 : m1.toInt = x1) {kx : iv_M → Int → Option (Int × iv_M)} {r : Int × iv_M} {Q : Option Value → iv_H → Prop} (hk : ∀ (h : iv_H) (s : iv_M) (hR : Rep nc Ls Xs h s) (m2 : Int32) (x2 : Int) (p2 : m2.toInt = x2), kx s x2 = some r → Rn d 323 (some .int) 182 [none, some (.int m1), some (.int m2), none, none] [] h Q) (hq : ∀ (z : Int32) (h1 : iv_H), z.toInt = r.1 → Rep nc Ls Xs h1 r.2 → Q (some (.int z)) h1) : ∀ (n : Nat) (h : iv_H) (s : iv_M) (hR : Rep nc Ls Xs h s) (m2 : Int32) (x2 : Int) (p2 : m2.toInt = x2) (m3 : Int32) (x3 : Int) (p3 : m3.toInt = x3), FX12_findsBeds_l37 N q0 x1 kx n s x2 x3 = some r → Rn d 323 (some .int) 37 [some (.ref q0), some (.int m1), some (.int m2), some (.int m3), none] [] h Q := by
  have hT := hX12_findsBeds
  intro n
  induction n with
  | zero =>
    intro h s hR m2 x2 p2 m3 x3 p3 e
    rw [FX12_findsBeds_l37] at e
    cases e
  | succ n ih =>
    intro h s hR m2 x2 p2 m3 x3 p3 e
    rw [FX12_findsBeds_l37] at e
    refine Rn.n hT 1 (pc' := 38) (L' := [some (.ref q0), some (.int m1), some (.int m2), some (.int m3), none]) (st' := [.int m3]) rfl ?_
    by_cases c_4147 : x3 < 0
    · rw [if_pos c_4147] at e
      refine Rn.bt hT rfl rfl rfl (decide_eq_true ((ti_l p3 L32_0).mpr c_4147)) ?_
      exact Rn.weak (ll_n (ll_s (ll_s (ll_n (ll_n ll_e))))) (hk h s hR m2 x2 p2 e)
    · rw [if_neg c_4147] at e
      refine Rn.bf hT rfl rfl rfl (decide_eq_false (fun z => c_4147 ((ti_l p3 L32_0).mp z))) ?_
      refine Rn.n hT 1 (pc' := 42) (L' := [some (.ref q0), some (.int m1), some (.int m2), some (.int m3), none]) (st' := [.ref q0]) rfl ?_
      refine Rn.hp hT rfl rfl (gR_hp (rp_gR hR (T12_o t0) rfl)) ?_
      refine Rn.n hT 1 (pc' := 46) (L' := [some (.ref q0), some (.int m1), some (.int m2), some (.int m3), none]) (st' := [.int m3, .ref (q0 + 51)]) rfl ?_
      obtain ⟨v_4148, e_4148, e⟩ := Option.bind_eq_some_iff.mp e
      obtain ⟨z_4148, g_4148, p_4148⟩ := rp_aI hR (T12_70 t0) (T12_70l t0) p3 e_4148
      refine Rn.hp hT rfl rfl (aI_hp g_4148) ?_
      refine Rn.n hT 3 (pc' := 51) (L' := [some (.ref q0), some (.int m1), some (.int m2), some (.int m3), some (.int (z_4148 + (1 : Int32)))]) (st' := []) rfl ?_
      refine Rn.weak (ll_s (ll_s (ll_s (ll_s (ll_s ll_e))))) (RX12_findsBeds_l51 hd t0 p1 p2 p3 (fun h_4149 s_4149 R_4149 m4150_4 x4150_4 p4150_4 e => ?_) hq N h s hR (z_4148 + (1 : Int32)) (w32 (v_4148 + 1)) (ti_add p_4148 L32_1) e)
      try dsimp only at e
      exact Rn.weak (ll_s (ll_s (ll_s (ll_s (ll_s ll_e))))) (RX12_findsBeds_b97 hd R_4149 t0 p1 p2 p3 p4150_4 ih hk hq e)
def FX12_findsBeds_b191 (N : Nat) (s : iv_M)  (xs0 : Int) : Option (Int × iv_M) := (some (xs0, s))
set_option maxRecDepth 10000 in
set_option maxHeartbeats 4000000 in
theorem RX12_findsBeds_b191 {d N nc Ls : Nat} {Xs : Nat → Int32} (hd : 10 ≤ d) {h : iv_H} {s : iv_M} (hR : Rep nc Ls Xs h s)  {ms0 : Int32} {xs0 : Int} (ps0 : ms0.toInt = xs0) {r : Int × iv_M} {Q : Option Value → iv_H → Prop} (hq : ∀ (z : Int32) (h1 : iv_H), z.toInt = r.1 → Rep nc Ls Xs h1 r.2 → Q (some (.int z)) h1) (e : FX12_findsBeds_b191 N s  xs0 = some r) : Rn d 323 (some .int) 191 [none, none, none, none, none] [.int ms0] h Q := by
  have hT := hX12_findsBeds
  unfold FX12_findsBeds_b191 at e
  obtain rfl := Option.some.inj e
  exact Rn.ret hT rfl rfl rfl (hq ms0 h ps0 hR)
def FX12_findsBeds_b22 (N : Nat) (s : iv_M) (q0 : Nat) (x1 : Int) (x2 : Int) (xs0 : Int) : Option (Int × iv_M) := ((wr s (q0 + 51) 7 0 (-1)).bind fun s_4140 => ((wr s_4140 (q0 + 52) 7 0 0).bind fun s_4142 => (FX12_findsBeds_l37 N q0 x1 (fun (s_4144 : iv_M) (x4145_2 : Int) => (if x1 = 0 then (FX12_findsBeds_b191 N s_4144 1) else (FX12_findsBeds_b191 N s_4144 x4145_2))) N s_4142 x2 xs0)))
set_option maxRecDepth 10000 in
set_option maxHeartbeats 4000000 in
theorem RX12_findsBeds_b22 {d N nc Ls : Nat} {Xs : Nat → Int32} (hd : 10 ≤ d) {h : iv_H} {s : iv_M} (hR : Rep nc Ls Xs h s) {q0 : Nat} (t0 : T12 nc q0) {m1 : Int32} {x1 : Int} (p1 : m1.toInt = x1) {m2 : Int32} {x2 : Int} (p2 : m2.toInt = x2) {ms0 : Int32} {xs0 : Int} (ps0 : ms0.toInt = xs0) {r : Int × iv_M} {Q : Option Value → iv_H → Prop} (hq : ∀ (z : Int32) (h1 : iv_H), z.toInt = r.1 → Rep nc Ls Xs h1 r.2 → Q (some (.int z)) h1) (e : FX12_findsBeds_b22 N s q0 x1 x2 xs0 = some r) : Rn d 323 (some .int) 22 [some (.ref q0), some (.int m1), some (.int m2), none, none] [.int ms0] h Q := by
  have hT := hX12_findsBeds
  unfold FX12_findsBeds_b22 at e
  refine Rn.n hT 2 (pc' := 24) (L' := [some (.ref q0), some (.int m1), some (.int m2), some (.int ms0), none]) (st' := [.ref q0]) rfl ?_
  refine Rn.hp hT rfl rfl (gR_hp (rp_gR hR (T12_o t0) rfl)) ?_
  refine Rn.n hT 2 (pc' := 29) (L' := [some (.ref q0), some (.int m1), some (.int m2), some (.int ms0), none]) (st' := [.int (-1 : Int32), .int (0 : Int32), .ref (q0 + 51)]) rfl ?_
  obtain ⟨s_4140, e_4141, e⟩ := Option.bind_eq_some_iff.mp e
  obtain ⟨h_4140, g_4141, R_4140⟩ := rp_wI hR (T12_70 t0) (T12_70l t0) L32_0 L32_m1 e_4141
  refine Rn.hp hT rfl rfl (wI_hp g_4141) ?_
  refine Rn.n hT 1 (pc' := 31) (L' := [some (.ref q0), some (.int m1), some (.int m2), some (.int ms0), none]) (st' := [.ref q0]) rfl ?_
  refine Rn.hp hT rfl rfl (gR_hp (rp_gR R_4140 (T12_o t0) rfl)) ?_
  refine Rn.n hT 2 (pc' := 36) (L' := [some (.ref q0), some (.int m1), some (.int m2), some (.int ms0), none]) (st' := [.int (0 : Int32), .int (0 : Int32), .ref (q0 + 52)]) rfl ?_
  obtain ⟨s_4142, e_4143, e⟩ := Option.bind_eq_some_iff.mp e
  obtain ⟨h_4142, g_4143, R_4142⟩ := rp_wI R_4140 (T12_71 t0) (T12_71l t0) L32_0 L32_0 e_4143
  refine Rn.hp hT rfl rfl (wI_hp g_4143) ?_
  refine Rn.weak (ll_s (ll_s (ll_s (ll_s (ll_n ll_e))))) (RX12_findsBeds_l37 hd t0 p1 (fun h_4144 s_4144 R_4144 m4145_2 x4145_2 p4145_2 e => ?_) hq N h_4142 s_4142 R_4142 m2 x2 p2 ms0 xs0 ps0 e)
  try dsimp only at e
  refine Rn.n hT 1 (pc' := 183) (L' := [none, some (.int m1), some (.int m4145_2), none, none]) (st' := [.int m1]) rfl ?_
  by_cases c_4146 : x1 = 0
  · rw [if_pos c_4146] at e
    refine Rn.bf hT rfl rfl rfl (decide_eq_false (fun z => z ((ti_e p1 L32_0).mpr c_4146))) ?_
    refine Rn.n hT 2 (pc' := 191) (L' := [none, some (.int m1), some (.int m4145_2), none, none]) (st' := [.int (1 : Int32)]) rfl ?_
    exact Rn.weak (ll_n (ll_n (ll_n (ll_n (ll_n ll_e))))) (RX12_findsBeds_b191 hd R_4144 L32_1 hq e)
  · rw [if_neg c_4146] at e
    refine Rn.bt hT rfl rfl rfl (decide_eq_true (fun z => c_4146 ((ti_e p1 L32_0).mp z))) ?_
    refine Rn.n hT 1 (pc' := 191) (L' := [none, some (.int m1), some (.int m4145_2), none, none]) (st' := [.int m4145_2]) rfl ?_
    exact Rn.weak (ll_n (ll_n (ll_n (ll_n (ll_n ll_e))))) (RX12_findsBeds_b191 hd R_4144 p4145_2 hq e)
def FX12_findsBeds (N : Nat) (s : iv_M) (q0 : Nat) : Option (Int × iv_M) := ((FX12_fillsWho N s q0).bind fun s_4137 => ((rd s_4137 (q0 + 1) 14 3).bind fun v_4138 => (if v_4138 = 0 then (FX12_findsBeds_b22 N s_4137 q0 v_4138 0 (-1)) else (FX12_findsBeds_b22 N s_4137 q0 v_4138 0 0))))
set_option maxRecDepth 10000 in
set_option maxHeartbeats 4000000 in
theorem RX12_findsBeds {d N nc Ls : Nat} {Xs : Nat → Int32} (hd : 11 ≤ d) {h : iv_H} {s : iv_M} (hR : Rep nc Ls Xs h s) {q0 : Nat} (t0 : T12 nc q0) {r : Int × iv_M} {Q : Option Value → iv_H → Prop} (e : FX12_findsBeds N s q0 = some r) (hq : ∀ (z : Int32) (h1 : iv_H), z.toInt = r.1 → Rep nc Ls Xs h1 r.2 → Q (some (.int z)) h1) : Cl d 323 [.ref q0] h Q := by
  obtain ⟨d, rfl⟩ : ∃ k, d = k + 1 := ⟨d - 1, by omega⟩
  have hd : 10 ≤ d := by omega
  have hT := hX12_findsBeds
  unfold FX12_findsBeds at e
  refine Cl.into (by decide) gX12_findsBeds rfl ?_
  show Rn d 323 (some .int) 0 [some (.ref q0), none, none, none, none] [] h Q
  refine Rn.n hT 1 (pc' := 1) (L' := [some (.ref q0), none, none, none, none]) (st' := [.ref q0]) rfl ?_
  obtain ⟨s_4137, e_4136, e⟩ := Option.bind_eq_some_iff.mp e
  refine Rn.call hT rfl rfl rfl (Nat.le_of_ble_eq_true rfl) (rcv_v gX12_fillsWho (by omega) (rp_ck hR (T12_o t0))) (RX12_fillsWho (by omega) hR t0 e_4136 (fun h_4137 R_4137 => ?_))
  show Rn d _ _ 4 [some (.ref q0), none, none, none, none] [] h_4137 Q
  refine Rn.n hT 1 (pc' := 5) (L' := [some (.ref q0), none, none, none, none]) (st' := [.ref q0]) rfl ?_
  refine Rn.hp hT rfl rfl (gR_hp (rp_gR R_4137 (T12_o t0) rfl)) ?_
  refine Rn.n hT 1 (pc' := 9) (L' := [some (.ref q0), none, none, none, none]) (st' := [.int (3 : Int32), .ref (q0 + 1)]) rfl ?_
  obtain ⟨v_4138, e_4138, e⟩ := Option.bind_eq_some_iff.mp e
  obtain ⟨z_4138, g_4138, p_4138⟩ := rp_aI R_4137 (T12_1 t0) (T12_1l t0) L32_3 e_4138
  refine Rn.hp hT rfl rfl (aI_hp g_4138) ?_
  refine Rn.n hT 4 (pc' := 14) (L' := [some (.ref q0), some (.int z_4138), some (.int (0 : Int32)), none, none]) (st' := [.int z_4138]) rfl ?_
  by_cases c_4139 : v_4138 = 0
  · rw [if_pos c_4139] at e
    refine Rn.bf hT rfl rfl rfl (decide_eq_false (fun z => z ((ti_e p_4138 L32_0).mpr c_4139))) ?_
    refine Rn.n hT 2 (pc' := 22) (L' := [some (.ref q0), some (.int z_4138), some (.int (0 : Int32)), none, none]) (st' := [.int (-1 : Int32)]) rfl ?_
    exact Rn.weak (ll_s (ll_s (ll_s (ll_n (ll_n ll_e))))) (RX12_findsBeds_b22 hd R_4137 t0 p_4138 L32_0 L32_m1 hq e)
  · rw [if_neg c_4139] at e
    refine Rn.bt hT rfl rfl rfl (decide_eq_true (fun z => c_4139 ((ti_e p_4138 L32_0).mp z))) ?_
    refine Rn.n hT 1 (pc' := 22) (L' := [some (.ref q0), some (.int z_4138), some (.int (0 : Int32)), none, none]) (st' := [.int (0 : Int32)]) rfl ?_
    exact Rn.weak (ll_s (ll_s (ll_s (ll_n (ll_n ll_e))))) (RX12_findsBeds_b22 hd R_4137 t0 p_4138 L32_0 L32_0 hq e)
set_option maxRecDepth 10000 in
theorem hX12_beds : iv_Tb 324 tX12_beds := iv_tb_of (m := mX12_beds) rfl
set_option maxRecDepth 10000 in
theorem gX12_beds : PG.2 324 = some mX12_beds := iv_pi_of (t := tX12_beds) rfl (by decide)
def FX12_beds_b19 (N : Nat) (s : iv_M)   : Option (Int × iv_M) := (some ((-1), s))
set_option maxRecDepth 10000 in
set_option maxHeartbeats 4000000 in
theorem RX12_beds_b19 {d N nc Ls : Nat} {Xs : Nat → Int32} (hd : 11 ≤ d) {h : iv_H} {s : iv_M} (hR : Rep nc Ls Xs h s)   {r : Int × iv_M} {Q : Option Value → iv_H → Prop} (hq : ∀ (z : Int32) (h1 : iv_H), z.toInt = r.1 → Rep nc Ls Xs h1 r.2 → Q (some (.int z)) h1) (e : FX12_beds_b19 N s   = some r) : Rn d 324 (some .int) 19 [none, none, none] [] h Q := by
  have hT := hX12_beds
  unfold FX12_beds_b19 at e
  refine Rn.n hT 1 (pc' := 20) (L' := [none, none, none]) (st' := [.int (-1 : Int32)]) rfl ?_
  obtain rfl := Option.some.inj e
  exact Rn.ret hT rfl rfl rfl (hq (-1 : Int32) h L32_m1 hR)
def FX12_beds_b61 (N : Nat) (s : iv_M)  (xs0 : Int) : Option (Int × iv_M) := (some (xs0, s))
set_option maxRecDepth 10000 in
set_option maxHeartbeats 4000000 in
theorem RX12_beds_b61 {d N nc Ls : Nat} {Xs : Nat → Int32} (hd : 11 ≤ d) {h : iv_H} {s : iv_M} (hR : Rep nc Ls Xs h s)  {ms0 : Int32} {xs0 : Int} (ps0 : ms0.toInt = xs0) {r : Int × iv_M} {Q : Option Value → iv_H → Prop} (hq : ∀ (z : Int32) (h1 : iv_H), z.toInt = r.1 → Rep nc Ls Xs h1 r.2 → Q (some (.int z)) h1) (e : FX12_beds_b61 N s  xs0 = some r) : Rn d 324 (some .int) 61 [none, none, none] [.int ms0] h Q := by
  have hT := hX12_beds
  unfold FX12_beds_b61 at e
  obtain rfl := Option.some.inj e
  exact Rn.ret hT rfl rfl rfl (hq ms0 h ps0 hR)
def FX12_beds_b48 (N : Nat) (s : iv_M)   : Option (Int × iv_M) := (FX12_beds_b61 N s (-2))
set_option maxRecDepth 10000 in
set_option maxHeartbeats 4000000 in
theorem RX12_beds_b48 {d N nc Ls : Nat} {Xs : Nat → Int32} (hd : 11 ≤ d) {h : iv_H} {s : iv_M} (hR : Rep nc Ls Xs h s)   {r : Int × iv_M} {Q : Option Value → iv_H → Prop} (hq : ∀ (z : Int32) (h1 : iv_H), z.toInt = r.1 → Rep nc Ls Xs h1 r.2 → Q (some (.int z)) h1) (e : FX12_beds_b48 N s   = some r) : Rn d 324 (some .int) 48 [none, none, none] [] h Q := by
  have hT := hX12_beds
  unfold FX12_beds_b48 at e
  refine Rn.n hT 2 (pc' := 61) (L' := [none, none, none]) (st' := [.int (-2 : Int32)]) rfl ?_
  exact Rn.weak (ll_n (ll_n (ll_n ll_e))) (RX12_beds_b61 hd hR L32_m2 hq e)
def FX12_beds (N : Nat) (s : iv_M) (q0 : Nat) (x1 : Int) : Option (Int × iv_M) := ((FX12_isPalace N s q0).bind fun v_4170 => (if v_4170 = 0 then (FX12_beds_b19 N s) else ((FX12_in N s x1 0 6).bind fun v_4172 => (if v_4172 = 0 then (FX12_beds_b19 N s) else ((FX12_findsBeds N s q0).bind fun r_4174 => (fun (v_4174 : Int) (s_4175 : iv_M) => (if x1 = 0 then (FX12_beds_b61 N s_4175 v_4174) else (if v_4174 = 0 then (FX12_beds_b48 N s_4175) else ((FX12_isPerson N s_4175 q0 (w32 (x1 - 1))).bind fun v_4178 => (if v_4178 = 0 then (FX12_beds_b48 N s_4175) else ((rd s_4175 (q0 + 53) 6 (w32 (x1 - 1))).bind fun v_4180 => (FX12_beds_b61 N s_4175 v_4180))))))) r_4174.1 r_4174.2)))))
set_option maxRecDepth 10000 in
set_option maxHeartbeats 4000000 in
theorem RX12_beds {d N nc Ls : Nat} {Xs : Nat → Int32} (hd : 12 ≤ d) {h : iv_H} {s : iv_M} (hR : Rep nc Ls Xs h s) {q0 : Nat} (t0 : T12 nc q0) {m1 : Int32} {x1 : Int} (p1 : m1.toInt = x1) {r : Int × iv_M} {Q : Option Value → iv_H → Prop} (e : FX12_beds N s q0 x1 = some r) (hq : ∀ (z : Int32) (h1 : iv_H), z.toInt = r.1 → Rep nc Ls Xs h1 r.2 → Q (some (.int z)) h1) : Cl d 324 [.ref q0, .int m1] h Q := by
  obtain ⟨d, rfl⟩ : ∃ k, d = k + 1 := ⟨d - 1, by omega⟩
  have hd : 11 ≤ d := by omega
  have hT := hX12_beds
  unfold FX12_beds at e
  refine Cl.into (by decide) gX12_beds rfl ?_
  show Rn d 324 (some .int) 0 [some (.ref q0), some (.int m1), none] [] h Q
  refine Rn.n hT 1 (pc' := 1) (L' := [some (.ref q0), some (.int m1), none]) (st' := [.ref q0]) rfl ?_
  obtain ⟨v_4170, e_4170, e⟩ := Option.bind_eq_some_iff.mp e
  refine Rn.call hT rfl rfl rfl (Nat.le_of_ble_eq_true rfl) (rcv_v gX12_isPalace (by omega) (rp_ck hR (T12_o t0))) (RX12_isPalace (by omega) hR t0 e_4170 (fun z_4170 p_4170 => ?_))
  show Rn d _ _ 4 [some (.ref q0), some (.int m1), none] [.int z_4170] h Q
  by_cases c_4171 : v_4170 = 0
  · rw [if_pos c_4171] at e
    refine Rn.bt hT rfl rfl rfl (decide_eq_true ((ti_e p_4170 L32_0).mpr c_4171)) ?_
    exact Rn.weak (ll_n (ll_n (ll_n ll_e))) (RX12_beds_b19 hd hR hq e)
  · rw [if_neg c_4171] at e
    refine Rn.bf hT rfl rfl rfl (decide_eq_false (fun z => c_4171 ((ti_e p_4170 L32_0).mp z))) ?_
    refine Rn.n hT 4 (pc' := 13) (L' := [some (.ref q0), some (.int m1), none]) (st' := [.long (6 : Int64), .long (0 : Int64), .long ((m1).toInt64)]) rfl ?_
    obtain ⟨v_4172, e_4172, e⟩ := Option.bind_eq_some_iff.mp e
    refine Rn.call hT rfl rfl rfl (Nat.le_of_ble_eq_true rfl) rfl (RX12_in (by omega) hR (ti_j p1) L64_0 L64_6 e_4172 (fun z_4172 p_4172 => ?_))
    show Rn d _ _ 16 [some (.ref q0), some (.int m1), none] [.int z_4172] h Q
    by_cases c_4173 : v_4172 = 0
    · rw [if_pos c_4173] at e
      refine Rn.bf hT rfl rfl rfl (decide_eq_false (fun z => z ((ti_e p_4172 L32_0).mpr c_4173))) ?_
      exact Rn.weak (ll_n (ll_n (ll_n ll_e))) (RX12_beds_b19 hd hR hq e)
    · rw [if_neg c_4173] at e
      refine Rn.bt hT rfl rfl rfl (decide_eq_true (fun z => c_4173 ((ti_e p_4172 L32_0).mp z))) ?_
      refine Rn.n hT 1 (pc' := 22) (L' := [some (.ref q0), some (.int m1), none]) (st' := [.ref q0]) rfl ?_
      obtain ⟨⟨v_4174, s_4175⟩, e_4174, e⟩ := Option.bind_eq_some_iff.mp e
      try dsimp only at e
      try dsimp only at e
      refine Rn.call hT rfl rfl rfl (Nat.le_of_ble_eq_true rfl) (rcv_v gX12_findsBeds (by omega) (rp_ck hR (T12_o t0))) (RX12_findsBeds (by omega) hR t0 e_4174 (fun z_4174 h_4175 p_4174 R_4175 => ?_))
      show Rn d _ _ 25 [some (.ref q0), some (.int m1), none] [.int z_4174] h_4175 Q
      refine Rn.n hT 2 (pc' := 27) (L' := [some (.ref q0), some (.int m1), some (.int z_4174)]) (st' := [.int m1]) rfl ?_
      by_cases c_4176 : x1 = 0
      · rw [if_pos c_4176] at e
        refine Rn.bf hT rfl rfl rfl (decide_eq_false (fun z => z ((ti_e p1 L32_0).mpr c_4176))) ?_
        refine Rn.n hT 2 (pc' := 61) (L' := [some (.ref q0), some (.int m1), some (.int z_4174)]) (st' := [.int z_4174]) rfl ?_
        exact Rn.weak (ll_n (ll_n (ll_n ll_e))) (RX12_beds_b61 hd R_4175 p_4174 hq e)
      · rw [if_neg c_4176] at e
        refine Rn.bt hT rfl rfl rfl (decide_eq_true (fun z => c_4176 ((ti_e p1 L32_0).mp z))) ?_
        refine Rn.n hT 1 (pc' := 35) (L' := [some (.ref q0), some (.int m1), some (.int z_4174)]) (st' := [.int z_4174]) rfl ?_
        by_cases c_4177 : v_4174 = 0
        · rw [if_pos c_4177] at e
          refine Rn.bt hT rfl rfl rfl (decide_eq_true ((ti_e p_4174 L32_0).mpr c_4177)) ?_
          exact Rn.weak (ll_n (ll_n (ll_n ll_e))) (RX12_beds_b48 hd R_4175 hq e)
        · rw [if_neg c_4177] at e
          refine Rn.bf hT rfl rfl rfl (decide_eq_false (fun z => c_4177 ((ti_e p_4174 L32_0).mp z))) ?_
          refine Rn.n hT 4 (pc' := 42) (L' := [some (.ref q0), some (.int m1), some (.int z_4174)]) (st' := [.int (m1 - (1 : Int32)), .ref q0]) rfl ?_
          obtain ⟨v_4178, e_4178, e⟩ := Option.bind_eq_some_iff.mp e
          refine Rn.call hT rfl rfl rfl (Nat.le_of_ble_eq_true rfl) (rcv_v gX12_isPerson (by omega) (rp_ck R_4175 (T12_o t0))) (RX12_isPerson (by omega) R_4175 t0 (ti_sub p1 L32_1) e_4178 (fun z_4178 p_4178 => ?_))
          show Rn d _ _ 45 [some (.ref q0), some (.int m1), some (.int z_4174)] [.int z_4178] h_4175 Q
          by_cases c_4179 : v_4178 = 0
          · rw [if_pos c_4179] at e
            refine Rn.bf hT rfl rfl rfl (decide_eq_false (fun z => z ((ti_e p_4178 L32_0).mpr c_4179))) ?_
            exact Rn.weak (ll_n (ll_n (ll_n ll_e))) (RX12_beds_b48 hd R_4175 hq e)
          · rw [if_neg c_4179] at e
            refine Rn.bt hT rfl rfl rfl (decide_eq_true (fun z => c_4179 ((ti_e p_4178 L32_0).mp z))) ?_
            refine Rn.n hT 1 (pc' := 54) (L' := [some (.ref q0), some (.int m1), some (.int z_4174)]) (st' := [.ref q0]) rfl ?_
            refine Rn.hp hT rfl rfl (gR_hp (rp_gR R_4175 (T12_o t0) rfl)) ?_
            refine Rn.n hT 3 (pc' := 60) (L' := [some (.ref q0), some (.int m1), some (.int z_4174)]) (st' := [.int (m1 - (1 : Int32)), .ref (q0 + 53)]) rfl ?_
            obtain ⟨v_4180, e_4180, e⟩ := Option.bind_eq_some_iff.mp e
            obtain ⟨z_4180, g_4180, p_4180⟩ := rp_aI R_4175 (T12_72 t0) (T12_72l t0) (ti_sub p1 L32_1) e_4180
            refine Rn.hp hT rfl rfl (aI_hp g_4180) ?_
            exact Rn.weak (ll_n (ll_n (ll_n ll_e))) (RX12_beds_b61 hd R_4175 p_4180 hq e)
set_option maxRecDepth 10000 in
theorem hX12_almost : iv_Tb 325 tX12_almost := iv_tb_of (m := mX12_almost) rfl
set_option maxRecDepth 10000 in
theorem gX12_almost : PG.2 325 = some mX12_almost := iv_pi_of (t := tX12_almost) rfl (by decide)
def FX12_almost_b16 (N : Nat) (s : iv_M)   : Option (Int × iv_M) := (some ((-1), s))
set_option maxRecDepth 10000 in
set_option maxHeartbeats 4000000 in
theorem RX12_almost_b16 {d N nc Ls : Nat} {Xs : Nat → Int32} (hd : 11 ≤ d) {h : iv_H} {s : iv_M} (hR : Rep nc Ls Xs h s)   {r : Int × iv_M} {Q : Option Value → iv_H → Prop} (hq : ∀ (z : Int32) (h1 : iv_H), z.toInt = r.1 → Rep nc Ls Xs h1 r.2 → Q (some (.int z)) h1) (e : FX12_almost_b16 N s   = some r) : Rn d 325 (some .int) 16 [none, none, none] [] h Q := by
  have hT := hX12_almost
  unfold FX12_almost_b16 at e
  refine Rn.n hT 1 (pc' := 17) (L' := [none, none, none]) (st' := [.int (-1 : Int32)]) rfl ?_
  obtain rfl := Option.some.inj e
  exact Rn.ret hT rfl rfl rfl (hq (-1 : Int32) h L32_m1 hR)
def FX12_almost (N : Nat) (s : iv_M) (q0 : Nat) (x1 : Int) (x2 : Int) : Option (Int × iv_M) := ((FX12_isPerson N s q0 x1).bind fun v_4181 => (if v_4181 = 0 then (FX12_almost_b16 N s) else ((FX12_isRoom N s q0 x2).bind fun v_4183 => (if v_4183 = 0 then (FX12_almost_b16 N s) else ((FX12_findsBeds N s q0).bind fun r_4185 => (fun (v_4185 : Int) (s_4186 : iv_M) => ((rd s_4186 (q0 + 54) 72 (w32 ((w32 (12 * x1)) + x2))).bind fun v_4187 => (some (v_4187, s_4186)))) r_4185.1 r_4185.2)))))
set_option maxRecDepth 10000 in
set_option maxHeartbeats 4000000 in
theorem RX12_almost {d N nc Ls : Nat} {Xs : Nat → Int32} (hd : 12 ≤ d) {h : iv_H} {s : iv_M} (hR : Rep nc Ls Xs h s) {q0 : Nat} (t0 : T12 nc q0) {m1 : Int32} {x1 : Int} (p1 : m1.toInt = x1) {m2 : Int32} {x2 : Int} (p2 : m2.toInt = x2) {r : Int × iv_M} {Q : Option Value → iv_H → Prop} (e : FX12_almost N s q0 x1 x2 = some r) (hq : ∀ (z : Int32) (h1 : iv_H), z.toInt = r.1 → Rep nc Ls Xs h1 r.2 → Q (some (.int z)) h1) : Cl d 325 [.ref q0, .int m1, .int m2] h Q := by
  obtain ⟨d, rfl⟩ : ∃ k, d = k + 1 := ⟨d - 1, by omega⟩
  have hd : 11 ≤ d := by omega
  have hT := hX12_almost
  unfold FX12_almost at e
  refine Cl.into (by decide) gX12_almost rfl ?_
  show Rn d 325 (some .int) 0 [some (.ref q0), some (.int m1), some (.int m2)] [] h Q
  refine Rn.n hT 2 (pc' := 2) (L' := [some (.ref q0), some (.int m1), some (.int m2)]) (st' := [.int m1, .ref q0]) rfl ?_
  obtain ⟨v_4181, e_4181, e⟩ := Option.bind_eq_some_iff.mp e
  refine Rn.call hT rfl rfl rfl (Nat.le_of_ble_eq_true rfl) (rcv_v gX12_isPerson (by omega) (rp_ck hR (T12_o t0))) (RX12_isPerson (by omega) hR t0 p1 e_4181 (fun z_4181 p_4181 => ?_))
  show Rn d _ _ 5 [some (.ref q0), some (.int m1), some (.int m2)] [.int z_4181] h Q
  by_cases c_4182 : v_4181 = 0
  · rw [if_pos c_4182] at e
    refine Rn.bt hT rfl rfl rfl (decide_eq_true ((ti_e p_4181 L32_0).mpr c_4182)) ?_
    exact Rn.weak (ll_n (ll_n (ll_n ll_e))) (RX12_almost_b16 hd hR hq e)
  · rw [if_neg c_4182] at e
    refine Rn.bf hT rfl rfl rfl (decide_eq_false (fun z => c_4182 ((ti_e p_4181 L32_0).mp z))) ?_
    refine Rn.n hT 2 (pc' := 10) (L' := [some (.ref q0), some (.int m1), some (.int m2)]) (st' := [.int m2, .ref q0]) rfl ?_
    obtain ⟨v_4183, e_4183, e⟩ := Option.bind_eq_some_iff.mp e
    refine Rn.call hT rfl rfl rfl (Nat.le_of_ble_eq_true rfl) (rcv_v gX12_isRoom (by omega) (rp_ck hR (T12_o t0))) (RX12_isRoom (by omega) hR t0 p2 e_4183 (fun z_4183 p_4183 => ?_))
    show Rn d _ _ 13 [some (.ref q0), some (.int m1), some (.int m2)] [.int z_4183] h Q
    by_cases c_4184 : v_4183 = 0
    · rw [if_pos c_4184] at e
      refine Rn.bf hT rfl rfl rfl (decide_eq_false (fun z => z ((ti_e p_4183 L32_0).mpr c_4184))) ?_
      exact Rn.weak (ll_n (ll_n (ll_n ll_e))) (RX12_almost_b16 hd hR hq e)
    · rw [if_neg c_4184] at e
      refine Rn.bt hT rfl rfl rfl (decide_eq_true (fun z => c_4184 ((ti_e p_4183 L32_0).mp z))) ?_
      refine Rn.n hT 1 (pc' := 19) (L' := [some (.ref q0), some (.int m1), some (.int m2)]) (st' := [.ref q0]) rfl ?_
      obtain ⟨⟨v_4185, s_4186⟩, e_4185, e⟩ := Option.bind_eq_some_iff.mp e
      try dsimp only at e
      try dsimp only at e
      refine Rn.call hT rfl rfl rfl (Nat.le_of_ble_eq_true rfl) (rcv_v gX12_findsBeds (by omega) (rp_ck hR (T12_o t0))) (RX12_findsBeds (by omega) hR t0 e_4185 (fun z_4185 h_4186 p_4185 R_4186 => ?_))
      show Rn d _ _ 22 [some (.ref q0), some (.int m1), some (.int m2)] [.int z_4185] h_4186 Q
      refine Rn.n hT 2 (pc' := 24) (L' := [some (.ref q0), some (.int m1), some (.int m2)]) (st' := [.ref q0]) rfl ?_
      refine Rn.hp hT rfl rfl (gR_hp (rp_gR R_4186 (T12_o t0) rfl)) ?_
      refine Rn.n hT 5 (pc' := 33) (L' := [some (.ref q0), some (.int m1), some (.int m2)]) (st' := [.int (((12 : Int32) * m1) + m2), .ref (q0 + 54)]) rfl ?_
      obtain ⟨v_4187, e_4187, e⟩ := Option.bind_eq_some_iff.mp e
      obtain ⟨z_4187, g_4187, p_4187⟩ := rp_aI R_4186 (T12_73 t0) (T12_73l t0) (ti_add (ti_mul L32_12 p1) p2) e_4187
      refine Rn.hp hT rfl rfl (aI_hp g_4187) ?_
      obtain rfl := Option.some.inj e
      exact Rn.ret hT rfl rfl rfl (hq z_4187 h_4186 p_4187 R_4186)
set_option maxRecDepth 10000 in
theorem hX12_guards : iv_Tb 326 tX12_guards := iv_tb_of (m := mX12_guards) rfl
set_option maxRecDepth 10000 in
theorem gX12_guards : PG.2 326 = some mX12_guards := iv_pi_of (t := tX12_guards) rfl (by decide)
def FX12_guards_b17 (N : Nat) (s : iv_M)   : Option (Int) := (some (-1))
set_option maxRecDepth 10000 in
set_option maxHeartbeats 4000000 in
theorem RX12_guards_b17 {d N nc Ls : Nat} {Xs : Nat → Int32} (hd : 5 ≤ d) {h : iv_H} {s : iv_M} (hR : Rep nc Ls Xs h s)   {r : Int} {Q : Option Value → iv_H → Prop} (hq : ∀ (z : Int32), z.toInt = r → Q (some (.int z)) h) (e : FX12_guards_b17 N s   = some r) : Rn d 326 (some .int) 17 [none, none, none, none, none, none, none] [] h Q := by
  have hT := hX12_guards
  unfold FX12_guards_b17 at e
  refine Rn.n hT 1 (pc' := 18) (L' := [none, none, none, none, none, none, none]) (st' := [.int (-1 : Int32)]) rfl ?_
  obtain rfl := Option.some.inj e
  exact Rn.ret hT rfl rfl rfl (hq (-1 : Int32) L32_m1)
def FX12_guards_b136 (N : Nat) (s : iv_M) (q0 : Nat) (x1 : Int) (x2 : Int) (x3 : Int) (x5 : Int) (x6 : Int) (xs0 : Int) (kb : Int → Int → Option (Int)) (kx : Int → Option (Int)) : Option (Int) := (kb xs0 (w32 (x6 + 1)))
set_option maxRecDepth 10000 in
set_option maxHeartbeats 4000000 in
theorem RX12_guards_b136 {d N nc Ls : Nat} {Xs : Nat → Int32} (hd : 5 ≤ d) {h : iv_H} {s : iv_M} (hR : Rep nc Ls Xs h s) {q0 : Nat} (t0 : T12 nc q0) {m1 : Int32} {x1 : Int} (p1 : m1.toInt = x1) {m2 : Int32} {x2 : Int} (p2 : m2.toInt = x2) {m3 : Int32} {x3 : Int} (p3 : m3.toInt = x3) {m5 : Int32} {x5 : Int} (p5 : m5.toInt = x5) {m6 : Int32} {x6 : Int} (p6 : m6.toInt = x6) {ms0 : Int32} {xs0 : Int} (ps0 : ms0.toInt = xs0) {kb : Int → Int → Option (Int)} {kx : Int → Option (Int)} {r : Int} {Q : Option Value → iv_H → Prop} (hb : ∀ (mw4 : Int32) (xw4 : Int) (pw4 : mw4.toInt = xw4) (mw6 : Int32) (xw6 : Int) (pw6 : mw6.toInt = xw6), kb xw4 xw6 = some r → Rn d 326 (some .int) 84 [some (.ref q0), some (.int m1), some (.int m2), some (.int m3), some (.int mw4), some (.int m5), some (.int mw6)] [] h Q) (hk : ∀ (mw4 : Int32) (xw4 : Int) (pw4 : mw4.toInt = xw4), kx xw4 = some r → Rn d 326 (some .int) 144 [some (.ref q0), some (.int m1), some (.int m2), some (.int m3), some (.int mw4), some (.int m5), none] [] h Q) (hq : ∀ (z : Int32), z.toInt = r → Q (some (.int z)) h) (e : FX12_guards_b136 N s q0 x1 x2 x3 x5 x6 xs0 kb kx = some r) : Rn d 326 (some .int) 136 [some (.ref q0), some (.int m1), some (.int m2), some (.int m3), none, some (.int m5), some (.int m6)] [.int ms0] h Q := by
  have hT := hX12_guards
  unfold FX12_guards_b136 at e
  refine Rn.n hT 3 (pc' := 84) (L' := [some (.ref q0), some (.int m1), some (.int m2), some (.int m3), some (.int ms0), some (.int m5), some (.int (m6 + (1 : Int32)))]) (st' := []) rfl ?_
  exact Rn.weak (ll_s (ll_s (ll_s (ll_s (ll_s (ll_s (ll_s ll_e))))))) (hb ms0 xs0 ps0 (m6 + (1 : Int32)) (w32 (x6 + 1)) (ti_add p6 L32_1) e)
def FX12_guards_b131 (N : Nat) (s : iv_M) (q0 : Nat) (x1 : Int) (x2 : Int) (x3 : Int) (x5 : Int) (x6 : Int)  (kb : Int → Int → Option (Int)) (kx : Int → Option (Int)) : Option (Int) := (FX12_guards_b136 N s q0 x1 x2 x3 x5 x6 1 kb kx)
set_option maxRecDepth 10000 in
set_option maxHeartbeats 4000000 in
theorem RX12_guards_b131 {d N nc Ls : Nat} {Xs : Nat → Int32} (hd : 5 ≤ d) {h : iv_H} {s : iv_M} (hR : Rep nc Ls Xs h s) {q0 : Nat} (t0 : T12 nc q0) {m1 : Int32} {x1 : Int} (p1 : m1.toInt = x1) {m2 : Int32} {x2 : Int} (p2 : m2.toInt = x2) {m3 : Int32} {x3 : Int} (p3 : m3.toInt = x3) {m5 : Int32} {x5 : Int} (p5 : m5.toInt = x5) {m6 : Int32} {x6 : Int} (p6 : m6.toInt = x6)  {kb : Int → Int → Option (Int)} {kx : Int → Option (Int)} {r : Int} {Q : Option Value → iv_H → Prop} (hb : ∀ (mw4 : Int32) (xw4 : Int) (pw4 : mw4.toInt = xw4) (mw6 : Int32) (xw6 : Int) (pw6 : mw6.toInt = xw6), kb xw4 xw6 = some r → Rn d 326 (some .int) 84 [some (.ref q0), some (.int m1), some (.int m2), some (.int m3), some (.int mw4), some (.int m5), some (.int mw6)] [] h Q) (hk : ∀ (mw4 : Int32) (xw4 : Int) (pw4 : mw4.toInt = xw4), kx xw4 = some r → Rn d 326 (some .int) 144 [some (.ref q0), some (.int m1), some (.int m2), some (.int m3), some (.int mw4), some (.int m5), none] [] h Q) (hq : ∀ (z : Int32), z.toInt = r → Q (some (.int z)) h) (e : FX12_guards_b131 N s q0 x1 x2 x3 x5 x6  kb kx = some r) : Rn d 326 (some .int) 131 [some (.ref q0), some (.int m1), some (.int m2), some (.int m3), none, some (.int m5), some (.int m6)] [] h Q := by
  have hT := hX12_guards
  unfold FX12_guards_b131 at e
  refine Rn.n hT 2 (pc' := 136) (L' := [some (.ref q0), some (.int m1), some (.int m2), some (.int m3), none, some (.int m5), some (.int m6)]) (st' := [.int (1 : Int32)]) rfl ?_
  exact Rn.weak (ll_s (ll_s (ll_s (ll_s (ll_n (ll_s (ll_s ll_e))))))) (RX12_guards_b136 hd hR t0 p1 p2 p3 p5 p6 L32_1 hb hk hq e)
def FX12_guards_l84 (N : Nat) (s : iv_M) (q0 : Nat) (x1 : Int) (x2 : Int) (x3 : Int) (x5 : Int) (kx : Int → Option (Int)) : Nat → Int → Int → Option (Int)
  | 0, _, _ => none
  | n + 1, x4, x6 => (if 4 ≤ x6 then (kx x4) else (if x4 = 0 then (kx x4) else (if (bAn (sr32 x3 x5) 1) = 0 then ((FX12_isDoorToDoor N s q0 x5 x6).bind fun v_4209 => (if v_4209 = 0 then (FX12_guards_b131 N s q0 x1 x2 x3 x5 x6 (FX12_guards_l84 N s q0 x1 x2 x3 x5 kx n) kx) else ((FX12_faced N s q0 x5 x6).bind fun v_4211 => (if (bAn (sr32 x3 v_4211) 1) = 1 then (FX12_guards_b131 N s q0 x1 x2 x3 x5 x6 (FX12_guards_l84 N s q0 x1 x2 x3 x5 kx n) kx) else (FX12_guards_b136 N s q0 x1 x2 x3 x5 x6 0 (FX12_guards_l84 N s q0 x1 x2 x3 x5 kx n) kx))))) else (kx x4))))
set_option maxRecDepth 10000 in
set_option maxHeartbeats 4000000 in
theorem RX12_guards_l84 {d N nc Ls : Nat} {Xs : Nat → Int32} (hd : 5 ≤ d) {h : iv_H} {s : iv_M} (hR : Rep nc Ls Xs h s) {q0 : Nat} (t0 : T12 nc q0) {m1 : Int32} {x1 : Int} (p1 : m1.toInt = x1) {m2 : Int32} {x2 : Int} (p2 : m2.toInt = x2) {m3 : Int32} {x3 : Int} (p3 : m3.toInt = x3) {m5 : Int32} {x5 : Int} (p5 : m5.toInt = x5) {kx : Int → Option (Int)} {r : Int} {Q : Option Value → iv_H → Prop} (hk : ∀ (m4 : Int32) (x4 : Int) (p4 : m4.toInt = x4), kx x4 = some r → Rn d 326 (some .int) 144 [some (.ref q0), some (.int m1), some (.int m2), some (.int m3), some (.int m4), some (.int m5), none] [] h Q) (hq : ∀ (z : Int32), z.toInt = r → Q (some (.int z)) h) : ∀ (n : Nat) (m4 : Int32) (x4 : Int) (p4 : m4.toInt = x4) (m6 : Int32) (x6 : Int) (p6 : m6.toInt = x6), FX12_guards_l84 N s q0 x1 x2 x3 x5 kx n x4 x6 = some r → Rn d 326 (some .int) 84 [some (.ref q0), some (.int m1), some (.int m2), some (.int m3), some (.int m4), some (.int m5), some (.int m6)] [] h Q := by
  have hT := hX12_guards
  intro n
  induction n with
  | zero =>
    intro m4 x4 p4 m6 x6 p6 e
    rw [FX12_guards_l84] at e
    cases e
  | succ n ih =>
    intro m4 x4 p4 m6 x6 p6 e
    rw [FX12_guards_l84] at e
    refine Rn.n hT 2 (pc' := 87) (L' := [some (.ref q0), some (.int m1), some (.int m2), some (.int m3), some (.int m4), some (.int m5), some (.int m6)]) (st' := [.int (4 : Int32), .int m6]) rfl ?_
    by_cases c_4206 : 4 ≤ x6
    · rw [if_pos c_4206] at e
      refine Rn.bt hT rfl rfl rfl (decide_eq_true ((ti_le L32_4 p6).mpr c_4206)) ?_
      exact Rn.weak (ll_s (ll_s (ll_s (ll_s (ll_s (ll_s (ll_n ll_e))))))) (hk m4 x4 p4 e)
    · rw [if_neg c_4206] at e
      refine Rn.bf hT rfl rfl rfl (decide_eq_false (fun z => c_4206 ((ti_le L32_4 p6).mp z))) ?_
      refine Rn.n hT 1 (pc' := 92) (L' := [some (.ref q0), some (.int m1), some (.int m2), some (.int m3), some (.int m4), some (.int m5), some (.int m6)]) (st' := [.int m4]) rfl ?_
      by_cases c_4207 : x4 = 0
      · rw [if_pos c_4207] at e
        refine Rn.bt hT rfl rfl rfl (decide_eq_true ((ti_e p4 L32_0).mpr c_4207)) ?_
        exact Rn.weak (ll_s (ll_s (ll_s (ll_s (ll_s (ll_s (ll_n ll_e))))))) (hk m4 x4 p4 e)
      · rw [if_neg c_4207] at e
        refine Rn.bf hT rfl rfl rfl (decide_eq_false (fun z => c_4207 ((ti_e p4 L32_0).mp z))) ?_
        refine Rn.n hT 5 (pc' := 101) (L' := [some (.ref q0), some (.int m1), some (.int m2), some (.int m3), some (.int m4), some (.int m5), some (.int m6)]) (st' := [.int ((m3 >>> (m5 &&& 31)) &&& (1 : Int32))]) rfl ?_
        by_cases c_4208 : (bAn (sr32 x3 x5) 1) = 0
        · rw [if_pos c_4208] at e
          refine Rn.bf hT rfl rfl rfl (decide_eq_false (fun z => z ((ti_e (ti_and (ti_shr p3 p5) L32_1) L32_0).mpr c_4208))) ?_
          refine Rn.n hT 3 (pc' := 109) (L' := [some (.ref q0), some (.int m1), some (.int m2), some (.int m3), some (.int m4), some (.int m5), some (.int m6)]) (st' := [.int m6, .int m5, .ref q0]) rfl ?_
          obtain ⟨v_4209, e_4209, e⟩ := Option.bind_eq_some_iff.mp e
          refine Rn.call hT rfl rfl rfl (Nat.le_of_ble_eq_true rfl) (rcv_v gX12_isDoorToDoor (by omega) (rp_ck hR (T12_o t0))) (RX12_isDoorToDoor (by omega) hR t0 p5 p6 e_4209 (fun z_4209 p_4209 => ?_))
          show Rn d _ _ 112 [some (.ref q0), some (.int m1), some (.int m2), some (.int m3), some (.int m4), some (.int m5), some (.int m6)] [.int z_4209] h Q
          by_cases c_4210 : v_4209 = 0
          · rw [if_pos c_4210] at e
            refine Rn.bt hT rfl rfl rfl (decide_eq_true ((ti_e p_4209 L32_0).mpr c_4210)) ?_
            exact Rn.weak (ll_s (ll_s (ll_s (ll_s (ll_n (ll_s (ll_s ll_e))))))) (RX12_guards_b131 hd hR t0 p1 p2 p3 p5 p6 ih hk hq e)
          · rw [if_neg c_4210] at e
            refine Rn.bf hT rfl rfl rfl (decide_eq_false (fun z => c_4210 ((ti_e p_4209 L32_0).mp z))) ?_
            refine Rn.n hT 4 (pc' := 121) (L' := [some (.ref q0), some (.int m1), some (.int m2), some (.int m3), some (.int m4), some (.int m5), some (.int m6)]) (st' := [.int m6, .int m5, .ref q0, .int m3]) rfl ?_
            obtain ⟨v_4211, e_4211, e⟩ := Option.bind_eq_some_iff.mp e
            refine Rn.call hT rfl rfl rfl (Nat.le_of_ble_eq_true rfl) (rcv_v gX12_faced (by omega) (rp_ck hR (T12_o t0))) (RX12_faced (by omega) hR t0 p5 p6 e_4211 (fun z_4211 p_4211 => ?_))
            show Rn d _ _ 124 [some (.ref q0), some (.int m1), some (.int m2), some (.int m3), some (.int m4), some (.int m5), some (.int m6)] [.int z_4211, .int m3] h Q
            refine Rn.n hT 4 (pc' := 128) (L' := [some (.ref q0), some (.int m1), some (.int m2), some (.int m3), some (.int m4), some (.int m5), some (.int m6)]) (st' := [.int (1 : Int32), .int ((m3 >>> (z_4211 &&& 31)) &&& (1 : Int32))]) rfl ?_
            by_cases c_4212 : (bAn (sr32 x3 v_4211) 1) = 1
            · rw [if_pos c_4212] at e
              refine Rn.bf hT rfl rfl rfl (decide_eq_false (fun z => z ((ti_e (ti_and (ti_shr p3 p_4211) L32_1) L32_1).mpr c_4212))) ?_
              exact Rn.weak (ll_s (ll_s (ll_s (ll_s (ll_n (ll_s (ll_s ll_e))))))) (RX12_guards_b131 hd hR t0 p1 p2 p3 p5 p6 ih hk hq e)
            · rw [if_neg c_4212] at e
              refine Rn.bt hT rfl rfl rfl (decide_eq_true (fun z => c_4212 ((ti_e (ti_and (ti_shr p3 p_4211) L32_1) L32_1).mp z))) ?_
              refine Rn.n hT 1 (pc' := 136) (L' := [some (.ref q0), some (.int m1), some (.int m2), some (.int m3), some (.int m4), some (.int m5), some (.int m6)]) (st' := [.int (0 : Int32)]) rfl ?_
              exact Rn.weak (ll_s (ll_s (ll_s (ll_s (ll_n (ll_s (ll_s ll_e))))))) (RX12_guards_b136 hd hR t0 p1 p2 p3 p5 p6 L32_0 ih hk hq e)
        · rw [if_neg c_4208] at e
          refine Rn.bt hT rfl rfl rfl (decide_eq_true (fun z => c_4208 ((ti_e (ti_and (ti_shr p3 p5) L32_1) L32_0).mp z))) ?_
          exact Rn.weak (ll_s (ll_s (ll_s (ll_s (ll_s (ll_s (ll_n ll_e))))))) (hk m4 x4 p4 e)
def FX12_guards_b144 (N : Nat) (s : iv_M) (q0 : Nat) (x1 : Int) (x2 : Int) (x3 : Int) (x4 : Int) (x5 : Int)  (kb : Int → Int → Option (Int)) (kx : Int → Option (Int)) : Option (Int) := (kb x4 (w32 (x5 + 1)))
set_option maxRecDepth 10000 in
set_option maxHeartbeats 4000000 in
theorem RX12_guards_b144 {d N nc Ls : Nat} {Xs : Nat → Int32} (hd : 5 ≤ d) {h : iv_H} {s : iv_M} (hR : Rep nc Ls Xs h s) {q0 : Nat} (t0 : T12 nc q0) {m1 : Int32} {x1 : Int} (p1 : m1.toInt = x1) {m2 : Int32} {x2 : Int} (p2 : m2.toInt = x2) {m3 : Int32} {x3 : Int} (p3 : m3.toInt = x3) {m4 : Int32} {x4 : Int} (p4 : m4.toInt = x4) {m5 : Int32} {x5 : Int} (p5 : m5.toInt = x5)  {kb : Int → Int → Option (Int)} {kx : Int → Option (Int)} {r : Int} {Q : Option Value → iv_H → Prop} (hb : ∀ (mw4 : Int32) (xw4 : Int) (pw4 : mw4.toInt = xw4) (mw5 : Int32) (xw5 : Int) (pw5 : mw5.toInt = xw5), kb xw4 xw5 = some r → Rn d 326 (some .int) 65 [some (.ref q0), some (.int m1), some (.int m2), some (.int m3), some (.int mw4), some (.int mw5), none] [] h Q) (hk : ∀ (mw4 : Int32) (xw4 : Int) (pw4 : mw4.toInt = xw4), kx xw4 = some r → Rn d 326 (some .int) 150 [some (.ref q0), some (.int m1), some (.int m2), some (.int m3), some (.int mw4), none, none] [] h Q) (hq : ∀ (z : Int32), z.toInt = r → Q (some (.int z)) h) (e : FX12_guards_b144 N s q0 x1 x2 x3 x4 x5  kb kx = some r) : Rn d 326 (some .int) 144 [some (.ref q0), some (.int m1), some (.int m2), some (.int m3), some (.int m4), some (.int m5), none] [] h Q := by
  have hT := hX12_guards
  unfold FX12_guards_b144 at e
  refine Rn.n hT 2 (pc' := 65) (L' := [some (.ref q0), some (.int m1), some (.int m2), some (.int m3), some (.int m4), some (.int (m5 + (1 : Int32))), none]) (st' := []) rfl ?_
  exact Rn.weak (ll_s (ll_s (ll_s (ll_s (ll_s (ll_s (ll_n ll_e))))))) (hb m4 x4 p4 (m5 + (1 : Int32)) (w32 (x5 + 1)) (ti_add p5 L32_1) e)
def FX12_guards_l65 (N : Nat) (s : iv_M) (q0 : Nat) (x1 : Int) (x2 : Int) (x3 : Int) (kx : Int → Option (Int)) : Nat → Int → Int → Option (Int)
  | 0, _, _ => none
  | n + 1, x4, x5 => ((rd s (q0 + 1) 14 2).bind fun v_4202 => (if v_4202 ≤ x5 then (kx x4) else (if x4 = 0 then (kx x4) else (FX12_guards_l84 N s q0 x1 x2 x3 x5 (fun (x4205_4 : Int) => (FX12_guards_b144 N s q0 x1 x2 x3 x4205_4 x5 (FX12_guards_l65 N s q0 x1 x2 x3 kx n) kx)) N x4 0))))
set_option maxRecDepth 10000 in
set_option maxHeartbeats 4000000 in
theorem RX12_guards_l65 {d N nc Ls : Nat} {Xs : Nat → Int32} (hd : 5 ≤ d) {h : iv_H} {s : iv_M} (hR : Rep nc Ls Xs h s) {q0 : Nat} (t0 : T12 nc q0) {m1 : Int32} {x1 : Int} (p1 : m1.toInt = x1) {m2 : Int32} {x2 : Int} (p2 : m2.toInt = x2) {m3 : Int32} {x3 : Int} (p3 : m3.toInt = x3) {kx : Int → Option (Int)} {r : Int} {Q : Option Value → iv_H → Prop} (hk : ∀ (m4 : Int32) (x4 : Int) (p4 : m4.toInt = x4), kx x4 = some r → Rn d 326 (some .int) 150 [some (.ref q0), some (.int m1), some (.int m2), some (.int m3), some (.int m4), none, none] [] h Q) (hq : ∀ (z : Int32), z.toInt = r → Q (some (.int z)) h) : ∀ (n : Nat) (m4 : Int32) (x4 : Int) (p4 : m4.toInt = x4) (m5 : Int32) (x5 : Int) (p5 : m5.toInt = x5), FX12_guards_l65 N s q0 x1 x2 x3 kx n x4 x5 = some r → Rn d 326 (some .int) 65 [some (.ref q0), some (.int m1), some (.int m2), some (.int m3), some (.int m4), some (.int m5), none] [] h Q := by
  have hT := hX12_guards
  intro n
  induction n with
  | zero =>
    intro m4 x4 p4 m5 x5 p5 e
    rw [FX12_guards_l65] at e
    cases e
  | succ n ih =>
    intro m4 x4 p4 m5 x5 p5 e
    rw [FX12_guards_l65] at e
    refine Rn.n hT 2 (pc' := 68) (L' := [some (.ref q0), some (.int m1), some (.int m2), some (.int m3), some (.int m4), some (.int m5), none]) (st' := [.ref q0, .int m5]) rfl ?_
    refine Rn.hp hT rfl rfl (gR_hp (rp_gR hR (T12_o t0) rfl)) ?_
    refine Rn.n hT 1 (pc' := 72) (L' := [some (.ref q0), some (.int m1), some (.int m2), some (.int m3), some (.int m4), some (.int m5), none]) (st' := [.int (2 : Int32), .ref (q0 + 1), .int m5]) rfl ?_
    obtain ⟨v_4202, e_4202, e⟩ := Option.bind_eq_some_iff.mp e
    obtain ⟨z_4202, g_4202, p_4202⟩ := rp_aI hR (T12_1 t0) (T12_1l t0) L32_2 e_4202
    refine Rn.hp hT rfl rfl (aI_hp g_4202) ?_
    by_cases c_4203 : v_4202 ≤ x5
    · rw [if_pos c_4203] at e
      refine Rn.bt hT rfl rfl rfl (decide_eq_true ((ti_le p_4202 p5).mpr c_4203)) ?_
      exact Rn.weak (ll_s (ll_s (ll_s (ll_s (ll_s (ll_n (ll_n ll_e))))))) (hk m4 x4 p4 e)
    · rw [if_neg c_4203] at e
      refine Rn.bf hT rfl rfl rfl (decide_eq_false (fun z => c_4203 ((ti_le p_4202 p5).mp z))) ?_
      refine Rn.n hT 1 (pc' := 78) (L' := [some (.ref q0), some (.int m1), some (.int m2), some (.int m3), some (.int m4), some (.int m5), none]) (st' := [.int m4]) rfl ?_
      by_cases c_4204 : x4 = 0
      · rw [if_pos c_4204] at e
        refine Rn.bt hT rfl rfl rfl (decide_eq_true ((ti_e p4 L32_0).mpr c_4204)) ?_
        exact Rn.weak (ll_s (ll_s (ll_s (ll_s (ll_s (ll_n (ll_n ll_e))))))) (hk m4 x4 p4 e)
      · rw [if_neg c_4204] at e
        refine Rn.bf hT rfl rfl rfl (decide_eq_false (fun z => c_4204 ((ti_e p4 L32_0).mp z))) ?_
        refine Rn.n hT 2 (pc' := 84) (L' := [some (.ref q0), some (.int m1), some (.int m2), some (.int m3), some (.int m4), some (.int m5), some (.int (0 : Int32))]) (st' := []) rfl ?_
        refine Rn.weak (ll_s (ll_s (ll_s (ll_s (ll_s (ll_s (ll_s ll_e))))))) (RX12_guards_l84 hd hR t0 p1 p2 p3 p5 (fun m4205_4 x4205_4 p4205_4 e => ?_) hq N m4 x4 p4 (0 : Int32) 0 L32_0 e)
        try dsimp only at e
        exact Rn.weak (ll_s (ll_s (ll_s (ll_s (ll_s (ll_s (ll_n ll_e))))))) (RX12_guards_b144 hd hR t0 p1 p2 p3 p4205_4 p5 ih hk hq e)
def FX12_guards_b160 (N : Nat) (s : iv_M) (q0 : Nat) (x1 : Int) (x3 : Int) (xs0 : Int) (kb : Int → Int → Option (Int)) (kx : Int → Option (Int)) : Option (Int) := (kb xs0 (w32 (x3 + 1)))
set_option maxRecDepth 10000 in
set_option maxHeartbeats 4000000 in
theorem RX12_guards_b160 {d N nc Ls : Nat} {Xs : Nat → Int32} (hd : 5 ≤ d) {h : iv_H} {s : iv_M} (hR : Rep nc Ls Xs h s) {q0 : Nat} (t0 : T12 nc q0) {m1 : Int32} {x1 : Int} (p1 : m1.toInt = x1) {m3 : Int32} {x3 : Int} (p3 : m3.toInt = x3) {ms0 : Int32} {xs0 : Int} (ps0 : ms0.toInt = xs0) {kb : Int → Int → Option (Int)} {kx : Int → Option (Int)} {r : Int} {Q : Option Value → iv_H → Prop} (hb : ∀ (mw2 : Int32) (xw2 : Int) (pw2 : mw2.toInt = xw2) (mw3 : Int32) (xw3 : Int) (pw3 : mw3.toInt = xw3), kb xw2 xw3 = some r → Rn d 326 (some .int) 32 [some (.ref q0), some (.int m1), some (.int mw2), some (.int mw3), none, none, none] [] h Q) (hk : ∀ (mw2 : Int32) (xw2 : Int) (pw2 : mw2.toInt = xw2), kx xw2 = some r → Rn d 326 (some .int) 167 [none, some (.int m1), some (.int mw2), none, none, none, none] [] h Q) (hq : ∀ (z : Int32), z.toInt = r → Q (some (.int z)) h) (e : FX12_guards_b160 N s q0 x1 x3 xs0 kb kx = some r) : Rn d 326 (some .int) 160 [some (.ref q0), some (.int m1), none, some (.int m3), none, none, none] [.int ms0] h Q := by
  have hT := hX12_guards
  unfold FX12_guards_b160 at e
  refine Rn.n hT 3 (pc' := 32) (L' := [some (.ref q0), some (.int m1), some (.int ms0), some (.int (m3 + (1 : Int32))), none, none, none]) (st' := []) rfl ?_
  exact Rn.weak (ll_s (ll_s (ll_s (ll_s (ll_n (ll_n (ll_n ll_e))))))) (hb ms0 xs0 ps0 (m3 + (1 : Int32)) (w32 (x3 + 1)) (ti_add p3 L32_1) e)
def FX12_guards_b150 (N : Nat) (s : iv_M) (q0 : Nat) (x1 : Int) (x2 : Int) (x3 : Int) (x4 : Int)  (kb : Int → Int → Option (Int)) (kx : Int → Option (Int)) : Option (Int) := (if x4 = 0 then (FX12_guards_b160 N s q0 x1 x3 x2 kb kx) else (FX12_guards_b160 N s q0 x1 x3 x3 kb kx))
set_option maxRecDepth 10000 in
set_option maxHeartbeats 4000000 in
theorem RX12_guards_b150 {d N nc Ls : Nat} {Xs : Nat → Int32} (hd : 5 ≤ d) {h : iv_H} {s : iv_M} (hR : Rep nc Ls Xs h s) {q0 : Nat} (t0 : T12 nc q0) {m1 : Int32} {x1 : Int} (p1 : m1.toInt = x1) {m2 : Int32} {x2 : Int} (p2 : m2.toInt = x2) {m3 : Int32} {x3 : Int} (p3 : m3.toInt = x3) {m4 : Int32} {x4 : Int} (p4 : m4.toInt = x4)  {kb : Int → Int → Option (Int)} {kx : Int → Option (Int)} {r : Int} {Q : Option Value → iv_H → Prop} (hb : ∀ (mw2 : Int32) (xw2 : Int) (pw2 : mw2.toInt = xw2) (mw3 : Int32) (xw3 : Int) (pw3 : mw3.toInt = xw3), kb xw2 xw3 = some r → Rn d 326 (some .int) 32 [some (.ref q0), some (.int m1), some (.int mw2), some (.int mw3), none, none, none] [] h Q) (hk : ∀ (mw2 : Int32) (xw2 : Int) (pw2 : mw2.toInt = xw2), kx xw2 = some r → Rn d 326 (some .int) 167 [none, some (.int m1), some (.int mw2), none, none, none, none] [] h Q) (hq : ∀ (z : Int32), z.toInt = r → Q (some (.int z)) h) (e : FX12_guards_b150 N s q0 x1 x2 x3 x4  kb kx = some r) : Rn d 326 (some .int) 150 [some (.ref q0), some (.int m1), some (.int m2), some (.int m3), some (.int m4), none, none] [] h Q := by
  have hT := hX12_guards
  unfold FX12_guards_b150 at e
  refine Rn.n hT 1 (pc' := 152) (L' := [some (.ref q0), some (.int m1), some (.int m2), some (.int m3), some (.int m4), none, none]) (st' := [.int m4]) rfl ?_
  by_cases c_4213 : x4 = 0
  · rw [if_pos c_4213] at e
    refine Rn.bt hT rfl rfl rfl (decide_eq_true ((ti_e p4 L32_0).mpr c_4213)) ?_
    refine Rn.n hT 1 (pc' := 160) (L' := [some (.ref q0), some (.int m1), some (.int m2), some (.int m3), some (.int m4), none, none]) (st' := [.int m2]) rfl ?_
    exact Rn.weak (ll_s (ll_s (ll_n (ll_s (ll_n (ll_n (ll_n ll_e))))))) (RX12_guards_b160 hd hR t0 p1 p3 p2 hb hk hq e)
  · rw [if_neg c_4213] at e
    refine Rn.bf hT rfl rfl rfl (decide_eq_false (fun z => c_4213 ((ti_e p4 L32_0).mp z))) ?_
    refine Rn.n hT 2 (pc' := 160) (L' := [some (.ref q0), some (.int m1), some (.int m2), some (.int m3), some (.int m4), none, none]) (st' := [.int m3]) rfl ?_
    exact Rn.weak (ll_s (ll_s (ll_n (ll_s (ll_n (ll_n (ll_n ll_e))))))) (RX12_guards_b160 hd hR t0 p1 p3 p3 hb hk hq e)
def FX12_guards_b60 (N : Nat) (s : iv_M) (q0 : Nat) (x1 : Int) (x2 : Int) (x3 : Int) (xs0 : Int) (kb : Int → Int → Option (Int)) (kx : Int → Option (Int)) : Option (Int) := (FX12_guards_l65 N s q0 x1 x2 x3 (fun (x4201_4 : Int) => (FX12_guards_b150 N s q0 x1 x2 x3 x4201_4 kb kx)) N xs0 0)
set_option maxRecDepth 10000 in
set_option maxHeartbeats 4000000 in
theorem RX12_guards_b60 {d N nc Ls : Nat} {Xs : Nat → Int32} (hd : 5 ≤ d) {h : iv_H} {s : iv_M} (hR : Rep nc Ls Xs h s) {q0 : Nat} (t0 : T12 nc q0) {m1 : Int32} {x1 : Int} (p1 : m1.toInt = x1) {m2 : Int32} {x2 : Int} (p2 : m2.toInt = x2) {m3 : Int32} {x3 : Int} (p3 : m3.toInt = x3) {ms0 : Int32} {xs0 : Int} (ps0 : ms0.toInt = xs0) {kb : Int → Int → Option (Int)} {kx : Int → Option (Int)} {r : Int} {Q : Option Value → iv_H → Prop} (hb : ∀ (mw2 : Int32) (xw2 : Int) (pw2 : mw2.toInt = xw2) (mw3 : Int32) (xw3 : Int) (pw3 : mw3.toInt = xw3), kb xw2 xw3 = some r → Rn d 326 (some .int) 32 [some (.ref q0), some (.int m1), some (.int mw2), some (.int mw3), none, none, none] [] h Q) (hk : ∀ (mw2 : Int32) (xw2 : Int) (pw2 : mw2.toInt = xw2), kx xw2 = some r → Rn d 326 (some .int) 167 [none, some (.int m1), some (.int mw2), none, none, none, none] [] h Q) (hq : ∀ (z : Int32), z.toInt = r → Q (some (.int z)) h) (e : FX12_guards_b60 N s q0 x1 x2 x3 xs0 kb kx = some r) : Rn d 326 (some .int) 60 [some (.ref q0), some (.int m1), some (.int m2), some (.int m3), none, none, none] [.int ms0] h Q := by
  have hT := hX12_guards
  unfold FX12_guards_b60 at e
  refine Rn.n hT 3 (pc' := 65) (L' := [some (.ref q0), some (.int m1), some (.int m2), some (.int m3), some (.int ms0), some (.int (0 : Int32)), none]) (st' := []) rfl ?_
  refine Rn.weak (ll_s (ll_s (ll_s (ll_s (ll_s (ll_s (ll_n ll_e))))))) (RX12_guards_l65 hd hR t0 p1 p2 p3 (fun m4201_4 x4201_4 p4201_4 e => ?_) hq N ms0 xs0 ps0 (0 : Int32) 0 L32_0 e)
  try dsimp only at e
  exact Rn.weak (ll_s (ll_s (ll_s (ll_s (ll_s (ll_n (ll_n ll_e))))))) (RX12_guards_b150 hd hR t0 p1 p2 p3 p4201_4 hb hk hq e)
def FX12_guards_l32 (N : Nat) (s : iv_M) (q0 : Nat) (x1 : Int) (kx : Int → Option (Int)) : Nat → Int → Int → Option (Int)
  | 0, _, _ => none
  | n + 1, x2, x3 => ((rd s (q0 + 1) 14 2).bind fun v_4196 => (if (sl32 1 v_4196) ≤ x3 then (kx x2) else ((FX12_bits N s x3).bind fun v_4198 => ((FX12_bits N s x2).bind fun v_4199 => (if v_4199 ≤ v_4198 then (FX12_guards_b60 N s q0 x1 x2 x3 0 (FX12_guards_l32 N s q0 x1 kx n) kx) else (FX12_guards_b60 N s q0 x1 x2 x3 1 (FX12_guards_l32 N s q0 x1 kx n) kx))))))
set_option maxRecDepth 10000 in
set_option maxHeartbeats 4000000 in
theorem RX12_guards_l32 {d N nc Ls : Nat} {Xs : Nat → Int32} (hd : 5 ≤ d) {h : iv_H} {s : iv_M} (hR : Rep nc Ls Xs h s) {q0 : Nat} (t0 : T12 nc q0) {m1 : Int32} {x1 : Int} (p1 : m1.toInt = x1) {kx : Int → Option (Int)} {r : Int} {Q : Option Value → iv_H → Prop} (hk : ∀ (m2 : Int32) (x2 : Int) (p2 : m2.toInt = x2), kx x2 = some r → Rn d 326 (some .int) 167 [none, some (.int m1), some (.int m2), none, none, none, none] [] h Q) (hq : ∀ (z : Int32), z.toInt = r → Q (some (.int z)) h) : ∀ (n : Nat) (m2 : Int32) (x2 : Int) (p2 : m2.toInt = x2) (m3 : Int32) (x3 : Int) (p3 : m3.toInt = x3), FX12_guards_l32 N s q0 x1 kx n x2 x3 = some r → Rn d 326 (some .int) 32 [some (.ref q0), some (.int m1), some (.int m2), some (.int m3), none, none, none] [] h Q := by
  have hT := hX12_guards
  intro n
  induction n with
  | zero =>
    intro m2 x2 p2 m3 x3 p3 e
    rw [FX12_guards_l32] at e
    cases e
  | succ n ih =>
    intro m2 x2 p2 m3 x3 p3 e
    rw [FX12_guards_l32] at e
    refine Rn.n hT 3 (pc' := 35) (L' := [some (.ref q0), some (.int m1), some (.int m2), some (.int m3), none, none, none]) (st' := [.ref q0, .int (1 : Int32), .int m3]) rfl ?_
    refine Rn.hp hT rfl rfl (gR_hp (rp_gR hR (T12_o t0) rfl)) ?_
    refine Rn.n hT 1 (pc' := 39) (L' := [some (.ref q0), some (.int m1), some (.int m2), some (.int m3), none, none, none]) (st' := [.int (2 : Int32), .ref (q0 + 1), .int (1 : Int32), .int m3]) rfl ?_
    obtain ⟨v_4196, e_4196, e⟩ := Option.bind_eq_some_iff.mp e
    obtain ⟨z_4196, g_4196, p_4196⟩ := rp_aI hR (T12_1 t0) (T12_1l t0) L32_2 e_4196
    refine Rn.hp hT rfl rfl (aI_hp g_4196) ?_
    refine Rn.n hT 1 (pc' := 41) (L' := [some (.ref q0), some (.int m1), some (.int m2), some (.int m3), none, none, none]) (st' := [.int ((1 : Int32) <<< (z_4196 &&& 31)), .int m3]) rfl ?_
    by_cases c_4197 : (sl32 1 v_4196) ≤ x3
    · rw [if_pos c_4197] at e
      refine Rn.bt hT rfl rfl rfl (decide_eq_true ((ti_le (ti_shl L32_1 p_4196) p3).mpr c_4197)) ?_
      exact Rn.weak (ll_n (ll_s (ll_s (ll_n (ll_n (ll_n (ll_n ll_e))))))) (hk m2 x2 p2 e)
    · rw [if_neg c_4197] at e
      refine Rn.bf hT rfl rfl rfl (decide_eq_false (fun z => c_4197 ((ti_le (ti_shl L32_1 p_4196) p3).mp z))) ?_
      refine Rn.n hT 1 (pc' := 45) (L' := [some (.ref q0), some (.int m1), some (.int m2), some (.int m3), none, none, none]) (st' := [.int m3]) rfl ?_
      obtain ⟨v_4198, e_4198, e⟩ := Option.bind_eq_some_iff.mp e
      refine Rn.call hT rfl rfl rfl (Nat.le_of_ble_eq_true rfl) rfl (RX12_bits (by omega) hR p3 e_4198 (fun z_4198 p_4198 => ?_))
      show Rn d _ _ 48 [some (.ref q0), some (.int m1), some (.int m2), some (.int m3), none, none, none] [.int z_4198] h Q
      refine Rn.n hT 1 (pc' := 49) (L' := [some (.ref q0), some (.int m1), some (.int m2), some (.int m3), none, none, none]) (st' := [.int m2, .int z_4198]) rfl ?_
      obtain ⟨v_4199, e_4199, e⟩ := Option.bind_eq_some_iff.mp e
      refine Rn.call hT rfl rfl rfl (Nat.le_of_ble_eq_true rfl) rfl (RX12_bits (by omega) hR p2 e_4199 (fun z_4199 p_4199 => ?_))
      show Rn d _ _ 52 [some (.ref q0), some (.int m1), some (.int m2), some (.int m3), none, none, none] [.int z_4199, .int z_4198] h Q
      by_cases c_4200 : v_4199 ≤ v_4198
      · rw [if_pos c_4200] at e
        refine Rn.bt hT rfl rfl rfl (decide_eq_true ((ti_le p_4199 p_4198).mpr c_4200)) ?_
        refine Rn.n hT 1 (pc' := 60) (L' := [some (.ref q0), some (.int m1), some (.int m2), some (.int m3), none, none, none]) (st' := [.int (0 : Int32)]) rfl ?_
        exact Rn.weak (ll_s (ll_s (ll_s (ll_s (ll_n (ll_n (ll_n ll_e))))))) (RX12_guards_b60 hd hR t0 p1 p2 p3 L32_0 ih hk hq e)
      · rw [if_neg c_4200] at e
        refine Rn.bf hT rfl rfl rfl (decide_eq_false (fun z => c_4200 ((ti_le p_4199 p_4198).mp z))) ?_
        refine Rn.n hT 2 (pc' := 60) (L' := [some (.ref q0), some (.int m1), some (.int m2), some (.int m3), none, none, none]) (st' := [.int (1 : Int32)]) rfl ?_
        exact Rn.weak (ll_s (ll_s (ll_s (ll_s (ll_n (ll_n (ll_n ll_e))))))) (RX12_guards_b60 hd hR t0 p1 p2 p3 L32_1 ih hk hq e)
def FX12_guards_b179 (N : Nat) (s : iv_M)  (xs0 : Int) : Option (Int) := (some xs0)
set_option maxRecDepth 10000 in
set_option maxHeartbeats 4000000 in
theorem RX12_guards_b179 {d N nc Ls : Nat} {Xs : Nat → Int32} (hd : 5 ≤ d) {h : iv_H} {s : iv_M} (hR : Rep nc Ls Xs h s)  {ms0 : Int32} {xs0 : Int} (ps0 : ms0.toInt = xs0) {r : Int} {Q : Option Value → iv_H → Prop} (hq : ∀ (z : Int32), z.toInt = r → Q (some (.int z)) h) (e : FX12_guards_b179 N s  xs0 = some r) : Rn d 326 (some .int) 179 [none, none, none, none, none, none, none] [.int ms0] h Q := by
  have hT := hX12_guards
  unfold FX12_guards_b179 at e
  obtain rfl := Option.some.inj e
  exact Rn.ret hT rfl rfl rfl (hq ms0 ps0)
def FX12_guards (N : Nat) (s : iv_M) (q0 : Nat) (x1 : Int) : Option (Int) := ((FX12_isPalace N s q0).bind fun v_4188 => (if v_4188 = 0 then (FX12_guards_b17 N s) else ((FX12_in N s x1 0 1).bind fun v_4190 => (if v_4190 = 0 then (FX12_guards_b17 N s) else ((rd s (q0 + 1) 14 2).bind fun v_4192 => (FX12_guards_l32 N s q0 x1 (fun (x4193_2 : Int) => (if x1 = 0 then ((FX12_bits N s x4193_2).bind fun v_4195 => (FX12_guards_b179 N s v_4195)) else (FX12_guards_b179 N s x4193_2))) N (w32 ((sl32 1 v_4192) - 1)) 0))))))
set_option maxRecDepth 10000 in
set_option maxHeartbeats 4000000 in
theorem RX12_guards {d N nc Ls : Nat} {Xs : Nat → Int32} (hd : 6 ≤ d) {h : iv_H} {s : iv_M} (hR : Rep nc Ls Xs h s) {q0 : Nat} (t0 : T12 nc q0) {m1 : Int32} {x1 : Int} (p1 : m1.toInt = x1) {r : Int} {Q : Option Value → iv_H → Prop} (e : FX12_guards N s q0 x1 = some r) (hq : ∀ (z : Int32), z.toInt = r → Q (some (.int z)) h) : Cl d 326 [.ref q0, .int m1] h Q := by
  obtain ⟨d, rfl⟩ : ∃ k, d = k + 1 := ⟨d - 1, by omega⟩
  have hd : 5 ≤ d := by omega
  have hT := hX12_guards
  unfold FX12_guards at e
  refine Cl.into (by decide) gX12_guards rfl ?_
  show Rn d 326 (some .int) 0 [some (.ref q0), some (.int m1), none, none, none, none, none] [] h Q
  refine Rn.n hT 1 (pc' := 1) (L' := [some (.ref q0), some (.int m1), none, none, none, none, none]) (st' := [.ref q0]) rfl ?_
  obtain ⟨v_4188, e_4188, e⟩ := Option.bind_eq_some_iff.mp e
  refine Rn.call hT rfl rfl rfl (Nat.le_of_ble_eq_true rfl) (rcv_v gX12_isPalace (by omega) (rp_ck hR (T12_o t0))) (RX12_isPalace (by omega) hR t0 e_4188 (fun z_4188 p_4188 => ?_))
  show Rn d _ _ 4 [some (.ref q0), some (.int m1), none, none, none, none, none] [.int z_4188] h Q
  by_cases c_4189 : v_4188 = 0
  · rw [if_pos c_4189] at e
    refine Rn.bt hT rfl rfl rfl (decide_eq_true ((ti_e p_4188 L32_0).mpr c_4189)) ?_
    exact Rn.weak (ll_n (ll_n (ll_n (ll_n (ll_n (ll_n (ll_n ll_e))))))) (RX12_guards_b17 hd hR hq e)
  · rw [if_neg c_4189] at e
    refine Rn.bf hT rfl rfl rfl (decide_eq_false (fun z => c_4189 ((ti_e p_4188 L32_0).mp z))) ?_
    refine Rn.n hT 4 (pc' := 11) (L' := [some (.ref q0), some (.int m1), none, none, none, none, none]) (st' := [.long (1 : Int64), .long (0 : Int64), .long ((m1).toInt64)]) rfl ?_
    obtain ⟨v_4190, e_4190, e⟩ := Option.bind_eq_some_iff.mp e
    refine Rn.call hT rfl rfl rfl (Nat.le_of_ble_eq_true rfl) rfl (RX12_in (by omega) hR (ti_j p1) L64_0 L64_1 e_4190 (fun z_4190 p_4190 => ?_))
    show Rn d _ _ 14 [some (.ref q0), some (.int m1), none, none, none, none, none] [.int z_4190] h Q
    by_cases c_4191 : v_4190 = 0
    · rw [if_pos c_4191] at e
      refine Rn.bf hT rfl rfl rfl (decide_eq_false (fun z => z ((ti_e p_4190 L32_0).mpr c_4191))) ?_
      exact Rn.weak (ll_n (ll_n (ll_n (ll_n (ll_n (ll_n (ll_n ll_e))))))) (RX12_guards_b17 hd hR hq e)
    · rw [if_neg c_4191] at e
      refine Rn.bt hT rfl rfl rfl (decide_eq_true (fun z => c_4191 ((ti_e p_4190 L32_0).mp z))) ?_
      refine Rn.n hT 2 (pc' := 21) (L' := [some (.ref q0), some (.int m1), none, none, none, none, none]) (st' := [.ref q0, .int (1 : Int32)]) rfl ?_
      refine Rn.hp hT rfl rfl (gR_hp (rp_gR hR (T12_o t0) rfl)) ?_
      refine Rn.n hT 1 (pc' := 25) (L' := [some (.ref q0), some (.int m1), none, none, none, none, none]) (st' := [.int (2 : Int32), .ref (q0 + 1), .int (1 : Int32)]) rfl ?_
      obtain ⟨v_4192, e_4192, e⟩ := Option.bind_eq_some_iff.mp e
      obtain ⟨z_4192, g_4192, p_4192⟩ := rp_aI hR (T12_1 t0) (T12_1l t0) L32_2 e_4192
      refine Rn.hp hT rfl rfl (aI_hp g_4192) ?_
      refine Rn.n hT 6 (pc' := 32) (L' := [some (.ref q0), some (.int m1), some (.int (((1 : Int32) <<< (z_4192 &&& 31)) - (1 : Int32))), some (.int (0 : Int32)), none, none, none]) (st' := []) rfl ?_
      refine Rn.weak (ll_s (ll_s (ll_s (ll_s (ll_n (ll_n (ll_n ll_e))))))) (RX12_guards_l32 hd hR t0 p1 (fun m4193_2 x4193_2 p4193_2 e => ?_) hq N (((1 : Int32) <<< (z_4192 &&& 31)) - (1 : Int32)) (w32 ((sl32 1 v_4192) - 1)) (ti_sub (ti_shl L32_1 p_4192) L32_1) (0 : Int32) 0 L32_0 e)
      try dsimp only at e
      refine Rn.n hT 1 (pc' := 168) (L' := [none, some (.int m1), some (.int m4193_2), none, none, none, none]) (st' := [.int m1]) rfl ?_
      by_cases c_4194 : x1 = 0
      · rw [if_pos c_4194] at e
        refine Rn.bf hT rfl rfl rfl (decide_eq_false (fun z => z ((ti_e p1 L32_0).mpr c_4194))) ?_
        refine Rn.n hT 1 (pc' := 172) (L' := [none, some (.int m1), some (.int m4193_2), none, none, none, none]) (st' := [.int m4193_2]) rfl ?_
        obtain ⟨v_4195, e_4195, e⟩ := Option.bind_eq_some_iff.mp e
        refine Rn.call hT rfl rfl rfl (Nat.le_of_ble_eq_true rfl) rfl (RX12_bits (by omega) hR p4193_2 e_4195 (fun z_4195 p_4195 => ?_))
        show Rn d _ _ 175 [none, some (.int m1), some (.int m4193_2), none, none, none, none] [.int z_4195] h Q
        refine Rn.n hT 1 (pc' := 179) (L' := [none, some (.int m1), some (.int m4193_2), none, none, none, none]) (st' := [.int z_4195]) rfl ?_
        exact Rn.weak (ll_n (ll_n (ll_n (ll_n (ll_n (ll_n (ll_n ll_e))))))) (RX12_guards_b179 hd hR p_4195 hq e)
      · rw [if_neg c_4194] at e
        refine Rn.bt hT rfl rfl rfl (decide_eq_true (fun z => c_4194 ((ti_e p1 L32_0).mp z))) ?_
        refine Rn.n hT 1 (pc' := 179) (L' := [none, some (.int m1), some (.int m4193_2), none, none, none, none]) (st' := [.int m4193_2]) rfl ?_
        exact Rn.weak (ll_n (ll_n (ll_n (ll_n (ll_n (ll_n (ll_n ll_e))))))) (RX12_guards_b179 hd hR p4193_2 hq e)
