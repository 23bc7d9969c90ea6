-- FLAT MIRRORS, 11 (written by wip/whole/mir2.py)
set_option maxRecDepth 10000 in
theorem hX12_goesByDay : iv_Tb 309 tX12_goesByDay := iv_tb_of (m := mX12_goesByDay) rfl
set_option maxRecDepth 10000 in
theorem gX12_goesByDay : PG.2 309 = some mX12_goesByDay := iv_pi_of (t := tX12_goesByDay) rfl (by decide)
def FX12_goesByDay_l2 (N : Nat) (q0 : Nat) (x1 : Int) (kx : iv_M → Option (iv_M)) : Nat → iv_M → Int → Option (iv_M)
  | 0, _, _ => none
  | n + 1, s, x2 => (if 192 ≤ x2 then (kx s) else ((wr s (q0 + 47) 192 x2 (-1)).bind fun s_3897 => (FX12_goesByDay_l2 N q0 x1 kx n s_3897 (w32 (x2 + 1)))))
set_option maxRecDepth 10000 in
set_option maxHeartbeats 4000000 in
theorem RX12_goesByDay_l2 {d N nc Ls : Nat} {Xs : Nat → Int32} (hd : 5 ≤ d) {q0 : Nat} (t0 : T12 nc q0) {m1 : Int32} {x1 : Int} (p1 : m1.toInt = x1) {kx : iv_M → Option (iv_M)} {r : iv_M} {Q : Option Value → iv_H → Prop} (hk : ∀ (h : iv_H) (s : iv_M) (hR : Rep nc Ls Xs h s), kx s = some r → Rn d 309 none 24 [some (.ref q0), some (.int m1), none, none, none, none, none] [] h Q) (hq : ∀ h1, Rep nc Ls Xs h1 r → Q none h1) : ∀ (n : Nat) (h : iv_H) (s : iv_M) (hR : Rep nc Ls Xs h s) (m2 : Int32) (x2 : Int) (p2 : m2.toInt = x2), FX12_goesByDay_l2 N q0 x1 kx n s x2 = some r → Rn d 309 none 2 [some (.ref q0), some (.int m1), some (.int m2), none, none, none, none] [] h Q := by
  have hT := hX12_goesByDay
  intro n
  induction n with
  | zero =>
    intro h s hR m2 x2 p2 e
    rw [FX12_goesByDay_l2] at e
    cases e
  | succ n ih =>
    intro h s hR m2 x2 p2 e
    rw [FX12_goesByDay_l2] at e
    refine Rn.n hT 2 (pc' := 4) (L' := [some (.ref q0), some (.int m1), some (.int m2), none, none, none, none]) (st' := [.ref q0, .int m2]) rfl ?_
    refine Rn.hp hT rfl rfl (gR_hp (rp_gR hR (T12_o t0) rfl)) ?_
    obtain ⟨z_3895, g_3895, p_3895⟩ : ∃ z : Int32, aL h (q0 + 47) = some z ∧ z.toInt = 192 := rp_aL hR (T12_64 t0) (Or.inl rfl) (T12_64l t0)
    refine Rn.hp hT rfl rfl (aL_hp g_3895) ?_
    by_cases c_3896 : 192 ≤ x2
    · rw [if_pos c_3896] at e
      refine Rn.bt hT rfl rfl rfl (decide_eq_true ((ti_le p_3895 p2).mpr c_3896)) ?_
      exact Rn.weak (ll_s (ll_s (ll_n (ll_n (ll_n (ll_n (ll_n ll_e))))))) (hk h s hR e)
    · rw [if_neg c_3896] at e
      refine Rn.bf hT rfl rfl rfl (decide_eq_false (fun z => c_3896 ((ti_le p_3895 p2).mp z))) ?_
      refine Rn.n hT 1 (pc' := 12) (L' := [some (.ref q0), some (.int m1), some (.int m2), none, none, none, none]) (st' := [.ref q0]) rfl ?_
      refine Rn.hp hT rfl rfl (gR_hp (rp_gR hR (T12_o t0) rfl)) ?_
      refine Rn.n hT 2 (pc' := 17) (L' := [some (.ref q0), some (.int m1), some (.int m2), none, none, none, none]) (st' := [.int (-1 : Int32), .int m2, .ref (q0 + 47)]) rfl ?_
      obtain ⟨s_3897, e_3898, e⟩ := Option.bind_eq_some_iff.mp e
      obtain ⟨h_3897, g_3898, R_3897⟩ := rp_wI hR (T12_64 t0) (T12_64l t0) p2 L32_m1 e_3898
      refine Rn.hp hT rfl rfl (wI_hp g_3898) ?_
      refine Rn.n hT 2 (pc' := 2) (L' := [some (.ref q0), some (.int m1), some (.int (m2 + (1 : Int32))), none, none, none, none]) (st' := []) rfl ?_
      exact Rn.weak (ll_s (ll_s (ll_s (ll_n (ll_n (ll_n (ll_n ll_e))))))) (ih h_3897 s_3897 R_3897 (m2 + (1 : Int32)) (w32 (x2 + 1)) (ti_add p2 L32_1) e)
def FX12_goesByDay_b162 (N : Nat) (s : iv_M) (q0 : Nat) (x2 : Int) (x3 : Int) (x4 : Int) (x5 : Int)  (kb : iv_M → Int → Option (iv_M)) (kx : iv_M → Option (iv_M)) : Option (iv_M) := (kb s (w32 (x5 + 1)))
set_option maxRecDepth 10000 in
set_option maxHeartbeats 4000000 in
theorem RX12_goesByDay_b162 {d N nc Ls : Nat} {Xs : Nat → Int32} (hd : 5 ≤ d) {h : iv_H} {s : iv_M} (hR : Rep nc Ls Xs h s) {q0 : Nat} (t0 : T12 nc q0) {m2 : Int32} {x2 : Int} (p2 : m2.toInt = x2) {m3 : Int32} {x3 : Int} (p3 : m3.toInt = x3) {m4 : Int32} {x4 : Int} (p4 : m4.toInt = x4) {m5 : Int32} {x5 : Int} (p5 : m5.toInt = x5)  {kb : iv_M → Int → Option (iv_M)} {kx : iv_M → Option (iv_M)} {r : iv_M} {Q : Option Value → iv_H → Prop} (hb : ∀ (h : iv_H) (s : iv_M) (hR : Rep nc Ls Xs h s) (mw5 : Int32) (xw5 : Int) (pw5 : mw5.toInt = xw5), kb s xw5 = some r → Rn d 309 none 75 [some (.ref q0), none, some (.int m2), some (.int m3), some (.int m4), some (.int mw5), none] [] h Q) (hk : ∀ (h : iv_H) (s : iv_M) (hR : Rep nc Ls Xs h s), kx s = some r → Rn d 309 none 168 [some (.ref q0), none, some (.int m2), none, none, none, none] [] h Q) (hq : ∀ h1, Rep nc Ls Xs h1 r → Q none h1) (e : FX12_goesByDay_b162 N s q0 x2 x3 x4 x5  kb kx = some r) : Rn d 309 none 162 [some (.ref q0), none, some (.int m2), some (.int m3), some (.int m4), some (.int m5), none] [] h Q := by
  have hT := hX12_goesByDay
  unfold FX12_goesByDay_b162 at e
  refine Rn.n hT 2 (pc' := 75) (L' := [some (.ref q0), none, some (.int m2), some (.int m3), some (.int m4), some (.int (m5 + (1 : Int32))), none]) (st' := []) rfl ?_
  exact Rn.weak (ll_s (ll_n (ll_s (ll_s (ll_s (ll_s (ll_n ll_e))))))) (hb h s hR (m5 + (1 : Int32)) (w32 (x5 + 1)) (ti_add p5 L32_1) e)
def FX12_goesByDay_l75 (N : Nat) (q0 : Nat) (x2 : Int) (x3 : Int) (x4 : Int) (kx : iv_M → Option (iv_M)) : Nat → iv_M → Int → Option (iv_M)
  | 0, _, _ => none
  | n + 1, s, x5 => (if 4 ≤ x5 then (kx s) else ((FX12_faced N s q0 x3 x5).bind fun v_3906 => ((FX12_isDoorToDoor N s q0 x3 x5).bind fun v_3907 => (if v_3907 = 0 then (FX12_goesByDay_b162 N s q0 x2 x3 x4 x5 (FX12_goesByDay_l75 N q0 x2 x3 x4 kx n) kx) else ((FX12_sideOf N s q0 x3 x5).bind fun v_3909 => ((FX12_opens_ N s v_3909 x4).bind fun v_3910 => (if v_3910 = 0 then (FX12_goesByDay_b162 N s q0 x2 x3 x4 x5 (FX12_goesByDay_l75 N q0 x2 x3 x4 kx n) kx) else ((FX12_sideOf N s q0 v_3906 (bAn (w32 (x5 + 2)) 3)).bind fun v_3912 => ((FX12_opens_ N s v_3912 x4).bind fun v_3913 => (if v_3913 = 0 then (FX12_goesByDay_b162 N s q0 x2 x3 x4 x5 (FX12_goesByDay_l75 N q0 x2 x3 x4 kx n) kx) else ((FX12_bagAt N s q0 v_3906 x4).bind fun v_3915 => ((rd s (q0 + 48) 192 x2).bind fun v_3916 => ((rd s (q0 + 47) 192 v_3916).bind fun v_3917 => ((FX12_comesIn N s q0 v_3906 v_3915 (w32 (v_3917 + 1))).bind fun s_3919 => (FX12_goesByDay_b162 N s_3919 q0 x2 x3 x4 x5 (FX12_goesByDay_l75 N q0 x2 x3 x4 kx n) kx)))))))))))))))
set_option maxRecDepth 10000 in
set_option maxHeartbeats 4000000 in
theorem RX12_goesByDay_l75 {d N nc Ls : Nat} {Xs : Nat → Int32} (hd : 5 ≤ d) {q0 : Nat} (t0 : T12 nc q0) {m2 : Int32} {x2 : Int} (p2 : m2.toInt = x2) {m3 : Int32} {x3 : Int} (p3 : m3.toInt = x3) {m4 : Int32} {x4 : Int} (p4 : m4.toInt = x4) {kx : iv_M → Option (iv_M)} {r : iv_M} {Q : Option Value → iv_H → Prop} (hk : ∀ (h : iv_H) (s : iv_M) (hR : Rep nc Ls Xs h s), kx s = some r → Rn d 309 none 168 [some (.ref q0), none, some (.int m2), none, none, none, none] [] h Q) (hq : ∀ h1, Rep nc Ls Xs h1 r → Q none h1) : ∀ (n : Nat) (h : iv_H) (s : iv_M) (hR : Rep nc Ls Xs h s) (m5 : Int32) (x5 : Int) (p5 : m5.toInt = x5), FX12_goesByDay_l75 N q0 x2 x3 x4 kx n s x5 = some r → Rn d 309 none 75 [some (.ref q0), none, some (.int m2), some (.int m3), some (.int m4), some (.int m5), none] [] h Q := by
  have hT := hX12_goesByDay
  intro n
  induction n with
  | zero =>
    intro h s hR m5 x5 p5 e
    rw [FX12_goesByDay_l75] at e
    cases e
  | succ n ih =>
    intro h s hR m5 x5 p5 e
    rw [FX12_goesByDay_l75] at e
    refine Rn.n hT 2 (pc' := 78) (L' := [some (.ref q0), none, some (.int m2), some (.int m3), some (.int m4), some (.int m5), none]) (st' := [.int (4 : Int32), .int m5]) rfl ?_
    by_cases c_3905 : 4 ≤ x5
    · rw [if_pos c_3905] at e
      refine Rn.bt hT rfl rfl rfl (decide_eq_true ((ti_le L32_4 p5).mpr c_3905)) ?_
      exact Rn.weak (ll_s (ll_n (ll_s (ll_n (ll_n (ll_n (ll_n ll_e))))))) (hk h s hR e)
    · rw [if_neg c_3905] at e
      refine Rn.bf hT rfl rfl rfl (decide_eq_false (fun z => c_3905 ((ti_le L32_4 p5).mp z))) ?_
      refine Rn.n hT 3 (pc' := 85) (L' := [some (.ref q0), none, some (.int m2), some (.int m3), some (.int m4), some (.int m5), none]) (st' := [.int m5, .int m3, .ref q0]) rfl ?_
      obtain ⟨v_3906, e_3906, e⟩ := Option.bind_eq_some_iff.mp e
      refine Rn.call hT rfl rfl rfl (Nat.le_of_ble_eq_true rfl) (rcv_v gX12_faced (by omega) (rp_ck hR (T12_o t0))) (RX12_faced (by omega) hR t0 p3 p5 e_3906 (fun z_3906 p_3906 => ?_))
      show Rn d _ _ 88 [some (.ref q0), none, some (.int m2), some (.int m3), some (.int m4), some (.int m5), none] [.int z_3906] h Q
      refine Rn.n hT 4 (pc' := 94) (L' := [some (.ref q0), none, some (.int m2), some (.int m3), some (.int m4), some (.int m5), some (.int z_3906)]) (st' := [.int m5, .int m3, .ref q0]) rfl ?_
      obtain ⟨v_3907, e_3907, e⟩ := Option.bind_eq_some_iff.mp e
      refine Rn.call hT rfl rfl rfl (Nat.le_of_ble_eq_true rfl) (rcv_v gX12_isDoorToDoor (by omega) (rp_ck hR (T12_o t0))) (RX12_isDoorToDoor (by omega) hR t0 p3 p5 e_3907 (fun z_3907 p_3907 => ?_))
      show Rn d _ _ 97 [some (.ref q0), none, some (.int m2), some (.int m3), some (.int m4), some (.int m5), some (.int z_3906)] [.int z_3907] h Q
      by_cases c_3908 : v_3907 = 0
      · rw [if_pos c_3908] at e
        refine Rn.bt hT rfl rfl rfl (decide_eq_true ((ti_e p_3907 L32_0).mpr c_3908)) ?_
        exact Rn.weak (ll_s (ll_n (ll_s (ll_s (ll_s (ll_s (ll_n ll_e))))))) (RX12_goesByDay_b162 hd hR t0 p2 p3 p4 p5 ih hk hq e)
      · rw [if_neg c_3908] at e
        refine Rn.bf hT rfl rfl rfl (decide_eq_false (fun z => c_3908 ((ti_e p_3907 L32_0).mp z))) ?_
        refine Rn.n hT 3 (pc' := 104) (L' := [some (.ref q0), none, some (.int m2), some (.int m3), some (.int m4), some (.int m5), some (.int z_3906)]) (st' := [.int m5, .int m3, .ref q0]) rfl ?_
        obtain ⟨v_3909, e_3909, e⟩ := Option.bind_eq_some_iff.mp e
        refine Rn.call hT rfl rfl rfl (Nat.le_of_ble_eq_true rfl) (rcv_v gX12_sideOf (by omega) (rp_ck hR (T12_o t0))) (RX12_sideOf (by omega) hR t0 p3 p5 e_3909 (fun z_3909 p_3909 => ?_))
        show Rn d _ _ 107 [some (.ref q0), none, some (.int m2), some (.int m3), some (.int m4), some (.int m5), some (.int z_3906)] [.int z_3909] h Q
        refine Rn.n hT 1 (pc' := 109) (L' := [some (.ref q0), none, some (.int m2), some (.int m3), some (.int m4), some (.int m5), some (.int z_3906)]) (st' := [.int m4, .int z_3909]) rfl ?_
        obtain ⟨v_3910, e_3910, e⟩ := Option.bind_eq_some_iff.mp e
        refine Rn.call hT rfl rfl rfl (Nat.le_of_ble_eq_true rfl) rfl (RX12_opens_ (by omega) hR p_3909 p4 e_3910 (fun z_3910 p_3910 => ?_))
        show Rn d _ _ 112 [some (.ref q0), none, some (.int m2), some (.int m3), some (.int m4), some (.int m5), some (.int z_3906)] [.int z_3910] h Q
        by_cases c_3911 : v_3910 = 0
        · rw [if_pos c_3911] at e
          refine Rn.bt hT rfl rfl rfl (decide_eq_true ((ti_e p_3910 L32_0).mpr c_3911)) ?_
          exact Rn.weak (ll_s (ll_n (ll_s (ll_s (ll_s (ll_s (ll_n ll_e))))))) (RX12_goesByDay_b162 hd hR t0 p2 p3 p4 p5 ih hk hq e)
        · rw [if_neg c_3911] at e
          refine Rn.bf hT rfl rfl rfl (decide_eq_false (fun z => c_3911 ((ti_e p_3910 L32_0).mp z))) ?_
          refine Rn.n hT 7 (pc' := 124) (L' := [some (.ref q0), none, some (.int m2), some (.int m3), some (.int m4), some (.int m5), some (.int z_3906)]) (st' := [.int ((m5 + (2 : Int32)) &&& (3 : Int32)), .int z_3906, .ref q0]) rfl ?_
          obtain ⟨v_3912, e_3912, e⟩ := Option.bind_eq_some_iff.mp e
          refine Rn.call hT rfl rfl rfl (Nat.le_of_ble_eq_true rfl) (rcv_v gX12_sideOf (by omega) (rp_ck hR (T12_o t0))) (RX12_sideOf (by omega) hR t0 p_3906 (ti_and (ti_add p5 L32_2) L32_3) e_3912 (fun z_3912 p_3912 => ?_))
          show Rn d _ _ 127 [some (.ref q0), none, some (.int m2), some (.int m3), some (.int m4), some (.int m5), some (.int z_3906)] [.int z_3912] h Q
          refine Rn.n hT 1 (pc' := 129) (L' := [some (.ref q0), none, some (.int m2), some (.int m3), some (.int m4), some (.int m5), some (.int z_3906)]) (st' := [.int m4, .int z_3912]) rfl ?_
          obtain ⟨v_3913, e_3913, e⟩ := Option.bind_eq_some_iff.mp e
          refine Rn.call hT rfl rfl rfl (Nat.le_of_ble_eq_true rfl) rfl (RX12_opens_ (by omega) hR p_3912 p4 e_3913 (fun z_3913 p_3913 => ?_))
          show Rn d _ _ 132 [some (.ref q0), none, some (.int m2), some (.int m3), some (.int m4), some (.int m5), some (.int z_3906)] [.int z_3913] h Q
          by_cases c_3914 : v_3913 = 0
          · rw [if_pos c_3914] at e
            refine Rn.bt hT rfl rfl rfl (decide_eq_true ((ti_e p_3913 L32_0).mpr c_3914)) ?_
            exact Rn.weak (ll_s (ll_n (ll_s (ll_s (ll_s (ll_s (ll_n ll_e))))))) (RX12_goesByDay_b162 hd hR t0 p2 p3 p4 p5 ih hk hq e)
          · rw [if_neg c_3914] at e
            refine Rn.bf hT rfl rfl rfl (decide_eq_false (fun z => c_3914 ((ti_e p_3913 L32_0).mp z))) ?_
            refine Rn.n hT 5 (pc' := 143) (L' := [some (.ref q0), none, some (.int m2), some (.int m3), some (.int m4), some (.int m5), some (.int z_3906)]) (st' := [.int m4, .int z_3906, .ref q0, .int z_3906, .ref q0]) rfl ?_
            obtain ⟨v_3915, e_3915, e⟩ := Option.bind_eq_some_iff.mp e
            refine Rn.call hT rfl rfl rfl (Nat.le_of_ble_eq_true rfl) (rcv_v gX12_bagAt (by omega) (rp_ck hR (T12_o t0))) (RX12_bagAt (by omega) hR t0 p_3906 p4 e_3915 (fun z_3915 p_3915 => ?_))
            show Rn d _ _ 146 [some (.ref q0), none, some (.int m2), some (.int m3), some (.int m4), some (.int m5), some (.int z_3906)] [.int z_3915, .int z_3906, .ref q0] h Q
            refine Rn.n hT 1 (pc' := 147) (L' := [some (.ref q0), none, some (.int m2), some (.int m3), some (.int m4), some (.int m5), some (.int z_3906)]) (st' := [.ref q0, .int z_3915, .int z_3906, .ref q0]) rfl ?_
            refine Rn.hp hT rfl rfl (gR_hp (rp_gR hR (T12_o t0) rfl)) ?_
            refine Rn.n hT 1 (pc' := 151) (L' := [some (.ref q0), none, some (.int m2), some (.int m3), some (.int m4), some (.int m5), some (.int z_3906)]) (st' := [.ref q0, .ref (q0 + 47), .int z_3915, .int z_3906, .ref q0]) rfl ?_
            refine Rn.hp hT rfl rfl (gR_hp (rp_gR hR (T12_o t0) rfl)) ?_
            refine Rn.n hT 1 (pc' := 155) (L' := [some (.ref q0), none, some (.int m2), some (.int m3), some (.int m4), some (.int m5), some (.int z_3906)]) (st' := [.int m2, .ref (q0 + 48), .ref (q0 + 47), .int z_3915, .int z_3906, .ref q0]) rfl ?_
            obtain ⟨v_3916, e_3916, e⟩ := Option.bind_eq_some_iff.mp e
            obtain ⟨z_3916, g_3916, p_3916⟩ := rp_aI hR (T12_65 t0) (T12_65l t0) p2 e_3916
            refine Rn.hp hT rfl rfl (aI_hp g_3916) ?_
            obtain ⟨v_3917, e_3917, e⟩ := Option.bind_eq_some_iff.mp e
            obtain ⟨z_3917, g_3917, p_3917⟩ := rp_aI hR (T12_64 t0) (T12_64l t0) p_3916 e_3917
            refine Rn.hp hT rfl rfl (aI_hp g_3917) ?_
            refine Rn.n hT 2 (pc' := 159) (L' := [some (.ref q0), none, some (.int m2), some (.int m3), some (.int m4), some (.int m5), some (.int z_3906)]) (st' := [.int (z_3917 + (1 : Int32)), .int z_3915, .int z_3906, .ref q0]) rfl ?_
            obtain ⟨s_3919, e_3918, e⟩ := Option.bind_eq_some_iff.mp e
            refine Rn.call hT rfl rfl rfl (Nat.le_of_ble_eq_true rfl) (rcv_v gX12_comesIn (by omega) (rp_ck hR (T12_o t0))) (RX12_comesIn (by omega) hR t0 p_3906 p_3915 (ti_add p_3917 L32_1) e_3918 (fun h_3919 R_3919 => ?_))
            show Rn d _ _ 162 [some (.ref q0), none, some (.int m2), some (.int m3), some (.int m4), some (.int m5), some (.int z_3906)] [] h_3919 Q
            exact Rn.weak (ll_s (ll_n (ll_s (ll_s (ll_s (ll_s (ll_n ll_e))))))) (RX12_goesByDay_b162 hd R_3919 t0 p2 p3 p4 p5 ih hk hq e)
def FX12_goesByDay_l43 (N : Nat) (q0 : Nat) (kx : iv_M → Option (iv_M)) : Nat → iv_M → Int → Option (iv_M)
  | 0, _, _ => none
  | n + 1, s, x2 => (if (s q0 66) ≤ x2 then (kx s) else ((rd s (q0 + 48) 192 x2).bind fun v_3901 => ((rd s (q0 + 48) 192 x2).bind fun v_3902 => (FX12_goesByDay_l75 N q0 x2 (dv32 v_3901 16) (Int.tmod v_3902 16) (fun (s_3903 : iv_M) => (FX12_goesByDay_l43 N q0 kx n s_3903 (w32 (x2 + 1)))) N s 0))))
set_option maxRecDepth 10000 in
set_option maxHeartbeats 4000000 in
theorem RX12_goesByDay_l43 {d N nc Ls : Nat} {Xs : Nat → Int32} (hd : 5 ≤ d) {q0 : Nat} (t0 : T12 nc q0) {kx : iv_M → Option (iv_M)} {r : iv_M} {Q : Option Value → iv_H → Prop} (hk : ∀ (h : iv_H) (s : iv_M) (hR : Rep nc Ls Xs h s), kx s = some r → Rn d 309 none 174 [none, none, none, none, none, none, none] [] h Q) (hq : ∀ h1, Rep nc Ls Xs h1 r → Q none h1) : ∀ (n : Nat) (h : iv_H) (s : iv_M) (hR : Rep nc Ls Xs h s) (m2 : Int32) (x2 : Int) (p2 : m2.toInt = x2), FX12_goesByDay_l43 N q0 kx n s x2 = some r → Rn d 309 none 43 [some (.ref q0), none, some (.int m2), none, none, none, none] [] h Q := by
  have hT := hX12_goesByDay
  intro n
  induction n with
  | zero =>
    intro h s hR m2 x2 p2 e
    rw [FX12_goesByDay_l43] at e
    cases e
  | succ n ih =>
    intro h s hR m2 x2 p2 e
    rw [FX12_goesByDay_l43] at e
    refine Rn.n hT 2 (pc' := 45) (L' := [some (.ref q0), none, some (.int m2), none, none, none, none]) (st' := [.ref q0, .int m2]) rfl ?_
    obtain ⟨z_3899, g_3899, p_3899⟩ : ∃ z : Int32, gI h 12 66 q0 = some z ∧ z.toInt = s q0 66 := rp_gI (k := 66) hR (T12_o t0) rfl
    refine Rn.hp hT rfl rfl (gI_hp g_3899) ?_
    by_cases c_3900 : (s q0 66) ≤ x2
    · rw [if_pos c_3900] at e
      refine Rn.bt hT rfl rfl rfl (decide_eq_true ((ti_le p_3899 p2).mpr c_3900)) ?_
      exact Rn.weak (ll_n (ll_n (ll_n (ll_n (ll_n (ll_n (ll_n ll_e))))))) (hk h s hR e)
    · rw [if_neg c_3900] at e
      refine Rn.bf hT rfl rfl rfl (decide_eq_false (fun z => c_3900 ((ti_le p_3899 p2).mp z))) ?_
      refine Rn.n hT 1 (pc' := 52) (L' := [some (.ref q0), none, some (.int m2), none, none, none, none]) (st' := [.ref q0]) rfl ?_
      refine Rn.hp hT rfl rfl (gR_hp (rp_gR hR (T12_o t0) rfl)) ?_
      refine Rn.n hT 1 (pc' := 56) (L' := [some (.ref q0), none, some (.int m2), none, none, none, none]) (st' := [.int m2, .ref (q0 + 48)]) rfl ?_
      obtain ⟨v_3901, e_3901, e⟩ := Option.bind_eq_some_iff.mp e
      obtain ⟨z_3901, g_3901, p_3901⟩ := rp_aI hR (T12_65 t0) (T12_65l t0) p2 e_3901
      refine Rn.hp hT rfl rfl (aI_hp g_3901) ?_
      refine Rn.n hT 4 (pc' := 62) (L' := [some (.ref q0), none, some (.int m2), some (.int (z_3901 / (16 : Int32))), none, none, none]) (st' := [.ref q0]) rfl ?_
      refine Rn.hp hT rfl rfl (gR_hp (rp_gR hR (T12_o t0) rfl)) ?_
      refine Rn.n hT 1 (pc' := 66) (L' := [some (.ref q0), none, some (.int m2), some (.int (z_3901 / (16 : Int32))), none, none, none]) (st' := [.int m2, .ref (q0 + 48)]) rfl ?_
      obtain ⟨v_3902, e_3902, e⟩ := Option.bind_eq_some_iff.mp e
      obtain ⟨z_3902, g_3902, p_3902⟩ := rp_aI hR (T12_65 t0) (T12_65l t0) p2 e_3902
      refine Rn.hp hT rfl rfl (aI_hp g_3902) ?_
      refine Rn.n hT 5 (pc' := 75) (L' := [some (.ref q0), none, some (.int m2), some (.int (z_3901 / (16 : Int32))), some (.int (z_3902 - z_3902 / (16 : Int32) * (16 : Int32))), some (.int (0 : Int32)), none]) (st' := []) rfl ?_
      refine Rn.weak (ll_s (ll_n (ll_s (ll_s (ll_s (ll_s (ll_n ll_e))))))) (RX12_goesByDay_l75 hd t0 p2 (ti_div p_3901 L32_16) (ti_rem p_3902 L32_16) (fun h_3903 s_3903 R_3903 e => ?_) hq N h s hR (0 : Int32) 0 L32_0 e)
      try dsimp only at e
      refine Rn.n hT 2 (pc' := 43) (L' := [some (.ref q0), none, some (.int (m2 + (1 : Int32))), none, none, none, none]) (st' := []) rfl ?_
      exact Rn.weak (ll_s (ll_n (ll_s (ll_n (ll_n (ll_n (ll_n ll_e))))))) (ih h_3903 s_3903 R_3903 (m2 + (1 : Int32)) (w32 (x2 + 1)) (ti_add p2 L32_1) e)
def FX12_goesByDay (N : Nat) (s : iv_M) (q0 : Nat) (x1 : Int) : Option (iv_M) := (FX12_goesByDay_l2 N q0 x1 (fun (s_3886 : iv_M) => ((pt s_3886 q0 66 0).bind fun s_3888 => ((FX12_bagAt N s_3888 q0 x1 0).bind fun v_3890 => ((FX12_comesIn N s_3888 q0 x1 v_3890 0).bind fun s_3892 => (FX12_goesByDay_l43 N q0 (fun (s_3893 : iv_M) => some s_3893) N s_3892 0))))) N s 0)
set_option maxRecDepth 10000 in
set_option maxHeartbeats 4000000 in
theorem RX12_goesByDay {d N nc Ls : Nat} {Xs : Nat → Int32} (hd : 6 ≤ d) {h : iv_H} {s : iv_M} (hR : Rep nc Ls Xs h s) {q0 : Nat} (t0 : T12 nc q0) {m1 : Int32} {x1 : Int} (p1 : m1.toInt = x1) {r : iv_M} {Q : Option Value → iv_H → Prop} (e : FX12_goesByDay N s q0 x1 = some r) (hq : ∀ h1, Rep nc Ls Xs h1 r → Q none h1) : Cl d 309 [.ref q0, .int m1] h Q := by
  obtain ⟨d, rfl⟩ : ∃ k, d = k + 1 := ⟨d - 1, by omega⟩
  have hd : 5 ≤ d := by omega
  have hT := hX12_goesByDay
  unfold FX12_goesByDay at e
  refine Cl.into (by decide) gX12_goesByDay rfl ?_
  show Rn d 309 none 0 [some (.ref q0), some (.int m1), none, none, none, none, none] [] h Q
  refine Rn.n hT 2 (pc' := 2) (L' := [some (.ref q0), some (.int m1), some (.int (0 : Int32)), none, none, none, none]) (st' := []) rfl ?_
  refine Rn.weak (ll_s (ll_s (ll_s (ll_n (ll_n (ll_n (ll_n ll_e))))))) (RX12_goesByDay_l2 hd t0 p1 (fun h_3886 s_3886 R_3886 e => ?_) hq N h s hR (0 : Int32) 0 L32_0 e)
  try dsimp only at e
  refine Rn.n hT 2 (pc' := 26) (L' := [some (.ref q0), some (.int m1), none, none, none, none, none]) (st' := [.int (0 : Int32), .ref q0]) rfl ?_
  obtain ⟨s_3888, e_3889, e⟩ := Option.bind_eq_some_iff.mp e
  obtain ⟨h_3888, g_3889, R_3888⟩ := rp_pI (ci := 12) (k := 66) R_3886 (T12_o t0) rfl rfl L32_0 e_3889
  refine Rn.hp hT rfl rfl (pV_hp rfl g_3889) ?_
  refine Rn.n hT 5 (pc' := 34) (L' := [some (.ref q0), some (.int m1), none, none, none, none, none]) (st' := [.int (0 : Int32), .int m1, .ref q0, .int m1, .ref q0]) rfl ?_
  obtain ⟨v_3890, e_3890, e⟩ := Option.bind_eq_some_iff.mp e
  refine Rn.call hT rfl rfl rfl (Nat.le_of_ble_eq_true rfl) (rcv_v gX12_bagAt (by omega) (rp_ck R_3888 (T12_o t0))) (RX12_bagAt (by omega) R_3888 t0 p1 L32_0 e_3890 (fun z_3890 p_3890 => ?_))
  show Rn d _ _ 37 [some (.ref q0), some (.int m1), none, none, none, none, none] [.int z_3890, .int m1, .ref q0] h_3888 Q
  refine Rn.n hT 1 (pc' := 38) (L' := [some (.ref q0), some (.int m1), none, none, none, none, none]) (st' := [.int (0 : Int32), .int z_3890, .int m1, .ref q0]) rfl ?_
  obtain ⟨s_3892, e_3891, e⟩ := Option.bind_eq_some_iff.mp e
  refine Rn.call hT rfl rfl rfl (Nat.le_of_ble_eq_true rfl) (rcv_v gX12_comesIn (by omega) (rp_ck R_3888 (T12_o t0))) (RX12_comesIn (by omega) R_3888 t0 p1 p_3890 L32_0 e_3891 (fun h_3892 R_3892 => ?_))
  show Rn d _ _ 41 [some (.ref q0), some (.int m1), none, none, none, none, none] [] h_3892 Q
  refine Rn.n hT 2 (pc' := 43) (L' := [some (.ref q0), some (.int m1), some (.int (0 : Int32)), none, none, none, none]) (st' := []) rfl ?_
  refine Rn.weak (ll_s (ll_n (ll_s (ll_n (ll_n (ll_n (ll_n ll_e))))))) (RX12_goesByDay_l43 hd t0 (fun h_3893 s_3893 R_3893 e => ?_) hq N h_3892 s_3892 R_3892 (0 : Int32) 0 L32_0 e)
  try dsimp only at e
  obtain rfl := Option.some.inj e
  exact Rn.ret hT rfl rfl rfl (hq h_3893 R_3893)
set_option maxRecDepth 10000 in
theorem hX12_steps : iv_Tb 311 tX12_steps := iv_tb_of (m := mX12_steps) rfl
set_option maxRecDepth 10000 in
theorem gX12_steps : PG.2 311 = some mX12_steps := iv_pi_of (t := tX12_steps) rfl (by decide)
def FX12_steps_b16 (N : Nat) (s : iv_M)   : Option (Int × iv_M) := (some ((-1), s))
set_option maxRecDepth 10000 in
set_option maxHeartbeats 4000000 in
theorem RX12_steps_b16 {d N nc Ls : Nat} {Xs : Nat → Int32} (hd : 6 ≤ d) {h : iv_H} {s : iv_M} (hR : Rep nc Ls Xs h s)   {r : Int × iv_M} {Q : Option Value → iv_H → Prop} (hq : ∀ (z : Int32) (h1 : iv_H), z.toInt = r.1 → Rep nc Ls Xs h1 r.2 → Q (some (.int z)) h1) (e : FX12_steps_b16 N s   = some r) : Rn d 311 (some .int) 16 [none, none, none, none] [] h Q := by
  have hT := hX12_steps
  unfold FX12_steps_b16 at e
  refine Rn.n hT 1 (pc' := 17) (L' := [none, none, none, none]) (st' := [.int (-1 : Int32)]) rfl ?_
  obtain rfl := Option.some.inj e
  exact Rn.ret hT rfl rfl rfl (hq (-1 : Int32) h L32_m1 hR)
def FX12_steps_l25 (N : Nat) (q0 : Nat) (x2 : Int) (kx : iv_M → Option (Int × iv_M)) : Nat → iv_M → Int → Option (Int × iv_M)
  | 0, _, _ => none
  | n + 1, s, x3 => (if (s q0 66) ≤ x3 then (kx s) else ((rd s (q0 + 48) 192 x3).bind fun v_3930 => (if (dv32 v_3930 16) = x2 then ((rd s (q0 + 48) 192 x3).bind fun v_3932 => ((rd s (q0 + 47) 192 v_3932).bind fun v_3933 => (some (v_3933, s)))) else (FX12_steps_l25 N q0 x2 kx n s (w32 (x3 + 1))))))
set_option maxRecDepth 10000 in
set_option maxHeartbeats 4000000 in
theorem RX12_steps_l25 {d N nc Ls : Nat} {Xs : Nat → Int32} (hd : 6 ≤ d) {q0 : Nat} (t0 : T12 nc q0) {m2 : Int32} {x2 : Int} (p2 : m2.toInt = x2) {kx : iv_M → Option (Int × iv_M)} {r : Int × iv_M} {Q : Option Value → iv_H → Prop} (hk : ∀ (h : iv_H) (s : iv_M) (hR : Rep nc Ls Xs h s), kx s = some r → Rn d 311 (some .int) 64 [none, none, none, none] [] h Q) (hq : ∀ (z : Int32) (h1 : iv_H), z.toInt = r.1 → Rep nc Ls Xs h1 r.2 → Q (some (.int z)) h1) : ∀ (n : Nat) (h : iv_H) (s : iv_M) (hR : Rep nc Ls Xs h s) (m3 : Int32) (x3 : Int) (p3 : m3.toInt = x3), FX12_steps_l25 N q0 x2 kx n s x3 = some r → Rn d 311 (some .int) 25 [some (.ref q0), none, some (.int m2), some (.int m3)] [] h Q := by
  have hT := hX12_steps
  intro n
  induction n with
  | zero =>
    intro h s hR m3 x3 p3 e
    rw [FX12_steps_l25] at e
    cases e
  | succ n ih =>
    intro h s hR m3 x3 p3 e
    rw [FX12_steps_l25] at e
    refine Rn.n hT 2 (pc' := 27) (L' := [some (.ref q0), none, some (.int m2), some (.int m3)]) (st' := [.ref q0, .int m3]) rfl ?_
    obtain ⟨z_3928, g_3928, p_3928⟩ : ∃ z : Int32, gI h 12 66 q0 = some z ∧ z.toInt = s q0 66 := rp_gI (k := 66) hR (T12_o t0) rfl
    refine Rn.hp hT rfl rfl (gI_hp g_3928) ?_
    by_cases c_3929 : (s q0 66) ≤ x3
    · rw [if_pos c_3929] at e
      refine Rn.bt hT rfl rfl rfl (decide_eq_true ((ti_le p_3928 p3).mpr c_3929)) ?_
      exact Rn.weak (ll_n (ll_n (ll_n (ll_n ll_e)))) (hk h s hR e)
    · rw [if_neg c_3929] at e
      refine Rn.bf hT rfl rfl rfl (decide_eq_false (fun z => c_3929 ((ti_le p_3928 p3).mp z))) ?_
      refine Rn.n hT 1 (pc' := 34) (L' := [some (.ref q0), none, some (.int m2), some (.int m3)]) (st' := [.ref q0]) rfl ?_
      refine Rn.hp hT rfl rfl (gR_hp (rp_gR hR (T12_o t0) rfl)) ?_
      refine Rn.n hT 1 (pc' := 38) (L' := [some (.ref q0), none, some (.int m2), some (.int m3)]) (st' := [.int m3, .ref (q0 + 48)]) rfl ?_
      obtain ⟨v_3930, e_3930, e⟩ := Option.bind_eq_some_iff.mp e
      obtain ⟨z_3930, g_3930, p_3930⟩ := rp_aI hR (T12_65 t0) (T12_65l t0) p3 e_3930
      refine Rn.hp hT rfl rfl (aI_hp g_3930) ?_
      refine Rn.n hT 3 (pc' := 43) (L' := [some (.ref q0), none, some (.int m2), some (.int m3)]) (st' := [.int m2, .int (z_3930 / (16 : Int32))]) rfl ?_
      by_cases c_3931 : (dv32 v_3930 16) = x2
      · rw [if_pos c_3931] at e
        refine Rn.bf hT rfl rfl rfl (decide_eq_false (fun z => z ((ti_e (ti_div p_3930 L32_16) p2).mpr c_3931))) ?_
        refine Rn.n hT 1 (pc' := 47) (L' := [some (.ref q0), none, some (.int m2), some (.int m3)]) (st' := [.ref q0]) rfl ?_
        refine Rn.hp hT rfl rfl (gR_hp (rp_gR hR (T12_o t0) rfl)) ?_
        refine Rn.n hT 1 (pc' := 51) (L' := [some (.ref q0), none, some (.int m2), some (.int m3)]) (st' := [.ref q0, .ref (q0 + 47)]) rfl ?_
        refine Rn.hp hT rfl rfl (gR_hp (rp_gR hR (T12_o t0) rfl)) ?_
        refine Rn.n hT 1 (pc' := 55) (L' := [some (.ref q0), none, some (.int m2), some (.int m3)]) (st' := [.int m3, .ref (q0 + 48), .ref (q0 + 47)]) rfl ?_
        obtain ⟨v_3932, e_3932, e⟩ := Option.bind_eq_some_iff.mp e
        obtain ⟨z_3932, g_3932, p_3932⟩ := rp_aI hR (T12_65 t0) (T12_65l t0) p3 e_3932
        refine Rn.hp hT rfl rfl (aI_hp g_3932) ?_
        obtain ⟨v_3933, e_3933, e⟩ := Option.bind_eq_some_iff.mp e
        obtain ⟨z_3933, g_3933, p_3933⟩ := rp_aI hR (T12_64 t0) (T12_64l t0) p_3932 e_3933
        refine Rn.hp hT rfl rfl (aI_hp g_3933) ?_
        obtain rfl := Option.some.inj e
        exact Rn.ret hT rfl rfl rfl (hq z_3933 h p_3933 hR)
      · rw [if_neg c_3931] at e
        refine Rn.bt hT rfl rfl rfl (decide_eq_true (fun z => c_3931 ((ti_e (ti_div p_3930 L32_16) p2).mp z))) ?_
        refine Rn.n hT 2 (pc' := 25) (L' := [some (.ref q0), none, some (.int m2), some (.int (m3 + (1 : Int32)))]) (st' := []) rfl ?_
        exact Rn.weak (ll_s (ll_n (ll_s (ll_s ll_e)))) (ih h s hR (m3 + (1 : Int32)) (w32 (x3 + 1)) (ti_add p3 L32_1) e)
def FX12_steps (N : Nat) (s : iv_M) (q0 : Nat) (x1 : Int) (x2 : Int) : Option (Int × iv_M) := ((FX12_isRoom N s q0 x1).bind fun v_3920 => (if v_3920 = 0 then (FX12_steps_b16 N s) else ((FX12_isRoom N s q0 x2).bind fun v_3922 => (if v_3922 = 0 then (FX12_steps_b16 N s) else ((FX12_goesByDay N s q0 x1).bind fun s_3925 => (FX12_steps_l25 N q0 x2 (fun (s_3926 : iv_M) => (some ((-2), s_3926))) N s_3925 0))))))
set_option maxRecDepth 10000 in
set_option maxHeartbeats 4000000 in
theorem RX12_steps {d N nc Ls : Nat} {Xs : Nat → Int32} (hd : 7 ≤ d) {h : iv_H} {s : iv_M} (hR : Rep nc Ls Xs h s) {q0 : Nat} (t0 : T12 nc q0) {m1 : Int32} {x1 : Int} (p1 : m1.toInt = x1) {m2 : Int32} {x2 : Int} (p2 : m2.toInt = x2) {r : Int × iv_M} {Q : Option Value → iv_H → Prop} (e : FX12_steps N s q0 x1 x2 = some r) (hq : ∀ (z : Int32) (h1 : iv_H), z.toInt = r.1 → Rep nc Ls Xs h1 r.2 → Q (some (.int z)) h1) : Cl d 311 [.ref q0, .int m1, .int m2] h Q := by
  obtain ⟨d, rfl⟩ : ∃ k, d = k + 1 := ⟨d - 1, by omega⟩
  have hd : 6 ≤ d := by omega
  have hT := hX12_steps
  unfold FX12_steps at e
  refine Cl.into (by decide) gX12_steps rfl ?_
  show Rn d 311 (some .int) 0 [some (.ref q0), some (.int m1), some (.int m2), none] [] h Q
  refine Rn.n hT 2 (pc' := 2) (L' := [some (.ref q0), some (.int m1), some (.int m2), none]) (st' := [.int m1, .ref q0]) rfl ?_
  obtain ⟨v_3920, e_3920, e⟩ := Option.bind_eq_some_iff.mp e
  refine Rn.call hT rfl rfl rfl (Nat.le_of_ble_eq_true rfl) (rcv_v gX12_isRoom (by omega) (rp_ck hR (T12_o t0))) (RX12_isRoom (by omega) hR t0 p1 e_3920 (fun z_3920 p_3920 => ?_))
  show Rn d _ _ 5 [some (.ref q0), some (.int m1), some (.int m2), none] [.int z_3920] h Q
  by_cases c_3921 : v_3920 = 0
  · rw [if_pos c_3921] at e
    refine Rn.bt hT rfl rfl rfl (decide_eq_true ((ti_e p_3920 L32_0).mpr c_3921)) ?_
    exact Rn.weak (ll_n (ll_n (ll_n (ll_n ll_e)))) (RX12_steps_b16 hd hR hq e)
  · rw [if_neg c_3921] at e
    refine Rn.bf hT rfl rfl rfl (decide_eq_false (fun z => c_3921 ((ti_e p_3920 L32_0).mp z))) ?_
    refine Rn.n hT 2 (pc' := 10) (L' := [some (.ref q0), some (.int m1), some (.int m2), none]) (st' := [.int m2, .ref q0]) rfl ?_
    obtain ⟨v_3922, e_3922, e⟩ := Option.bind_eq_some_iff.mp e
    refine Rn.call hT rfl rfl rfl (Nat.le_of_ble_eq_true rfl) (rcv_v gX12_isRoom (by omega) (rp_ck hR (T12_o t0))) (RX12_isRoom (by omega) hR t0 p2 e_3922 (fun z_3922 p_3922 => ?_))
    show Rn d _ _ 13 [some (.ref q0), some (.int m1), some (.int m2), none] [.int z_3922] h Q
    by_cases c_3923 : v_3922 = 0
    · rw [if_pos c_3923] at e
      refine Rn.bf hT rfl rfl rfl (decide_eq_false (fun z => z ((ti_e p_3922 L32_0).mpr c_3923))) ?_
      exact Rn.weak (ll_n (ll_n (ll_n (ll_n ll_e)))) (RX12_steps_b16 hd hR hq e)
    · rw [if_neg c_3923] at e
      refine Rn.bt hT rfl rfl rfl (decide_eq_true (fun z => c_3923 ((ti_e p_3922 L32_0).mp z))) ?_
      refine Rn.n hT 2 (pc' := 20) (L' := [some (.ref q0), some (.int m1), some (.int m2), none]) (st' := [.int m1, .ref q0]) rfl ?_
      obtain ⟨s_3925, e_3924, e⟩ := Option.bind_eq_some_iff.mp e
      refine Rn.call hT rfl rfl rfl (Nat.le_of_ble_eq_true rfl) (rcv_v gX12_goesByDay (by omega) (rp_ck hR (T12_o t0))) (RX12_goesByDay (by omega) hR t0 p1 e_3924 (fun h_3925 R_3925 => ?_))
      show Rn d _ _ 23 [some (.ref q0), some (.int m1), some (.int m2), none] [] h_3925 Q
      refine Rn.n hT 2 (pc' := 25) (L' := [some (.ref q0), some (.int m1), some (.int m2), some (.int (0 : Int32))]) (st' := []) rfl ?_
      refine Rn.weak (ll_s (ll_n (ll_s (ll_s ll_e)))) (RX12_steps_l25 hd t0 p2 (fun h_3926 s_3926 R_3926 e => ?_) hq N h_3925 s_3925 R_3925 (0 : Int32) 0 L32_0 e)
      try dsimp only at e
      refine Rn.n hT 1 (pc' := 66) (L' := [none, none, none, none]) (st' := [.int (-2 : Int32)]) rfl ?_
      obtain rfl := Option.some.inj e
      exact Rn.ret hT rfl rfl rfl (hq (-2 : Int32) h_3926 L32_m2 R_3926)
set_option maxRecDepth 10000 in
theorem hX12_reach : iv_Tb 312 tX12_reach := iv_tb_of (m := mX12_reach) rfl
set_option maxRecDepth 10000 in
theorem gX12_reach : PG.2 312 = some mX12_reach := iv_pi_of (t := tX12_reach) rfl (by decide)
def FX12_reach_b18 (N : Nat) (s : iv_M)   : Option (Int × iv_M) := (some ((-1), s))
set_option maxRecDepth 10000 in
set_option maxHeartbeats 4000000 in
theorem RX12_reach_b18 {d N nc Ls : Nat} {Xs : Nat → Int32} (hd : 6 ≤ d) {h : iv_H} {s : iv_M} (hR : Rep nc Ls Xs h s)   {r : Int × iv_M} {Q : Option Value → iv_H → Prop} (hq : ∀ (z : Int32) (h1 : iv_H), z.toInt = r.1 → Rep nc Ls Xs h1 r.2 → Q (some (.int z)) h1) (e : FX12_reach_b18 N s   = some r) : Rn d 312 (some .int) 18 [none, none, none, none, none, none] [] h Q := by
  have hT := hX12_reach
  unfold FX12_reach_b18 at e
  refine Rn.n hT 1 (pc' := 19) (L' := [none, none, none, none, none, none]) (st' := [.int (-1 : Int32)]) rfl ?_
  obtain rfl := Option.some.inj e
  exact Rn.ret hT rfl rfl rfl (hq (-1 : Int32) h L32_m1 hR)
def FX12_reach_l33 (N : Nat) (q0 : Nat) (x2 : Int) (kx : iv_M → Int → Int → Option (Int × iv_M)) : Nat → iv_M → Int → Int → Int → Option (Int × iv_M)
  | 0, _, _, _, _ => none
  | n + 1, s, x3, x4, x5 => (if (s q0 66) ≤ x5 then (kx s x3 x4) else ((rd s (q0 + 48) 192 x5).bind fun v_3945 => ((rd s (q0 + 48) 192 x5).bind fun v_3946 => (FX12_reach_l33 N q0 x2 kx n s (bOr x3 (sl32 1 (dv32 v_3945 16))) (bOr x4 (sl32 (Int.tmod v_3946 16) 1)) (w32 (x5 + 1))))))
set_option maxRecDepth 10000 in
set_option maxHeartbeats 4000000 in
theorem RX12_reach_l33 {d N nc Ls : Nat} {Xs : Nat → Int32} (hd : 6 ≤ d) {q0 : Nat} (t0 : T12 nc q0) {m2 : Int32} {x2 : Int} (p2 : m2.toInt = x2) {kx : iv_M → Int → Int → Option (Int × iv_M)} {r : Int × iv_M} {Q : Option Value → iv_H → Prop} (hk : ∀ (h : iv_H) (s : iv_M) (hR : Rep nc Ls Xs h s) (m3 : Int32) (x3 : Int) (p3 : m3.toInt = x3) (m4 : Int32) (x4 : Int) (p4 : m4.toInt = x4), kx s x3 x4 = some r → Rn d 312 (some .int) 80 [none, none, some (.int m2), some (.int m3), some (.int m4), none] [] h Q) (hq : ∀ (z : Int32) (h1 : iv_H), z.toInt = r.1 → Rep nc Ls Xs h1 r.2 → Q (some (.int z)) h1) : ∀ (n : Nat) (h : iv_H) (s : iv_M) (hR : Rep nc Ls Xs h s) (m3 : Int32) (x3 : Int) (p3 : m3.toInt = x3) (m4 : Int32) (x4 : Int) (p4 : m4.toInt = x4) (m5 : Int32) (x5 : Int) (p5 : m5.toInt = x5), FX12_reach_l33 N q0 x2 kx n s x3 x4 x5 = some r → Rn d 312 (some .int) 33 [some (.ref q0), none, some (.int m2), some (.int m3), some (.int m4), some (.int m5)] [] h Q := by
  have hT := hX12_reach
  intro n
  induction n with
  | zero =>
    intro h s hR m3 x3 p3 m4 x4 p4 m5 x5 p5 e
    rw [FX12_reach_l33] at e
    cases e
  | succ n ih =>
    intro h s hR m3 x3 p3 m4 x4 p4 m5 x5 p5 e
    rw [FX12_reach_l33] at e
    refine Rn.n hT 2 (pc' := 36) (L' := [some (.ref q0), none, some (.int m2), some (.int m3), some (.int m4), some (.int m5)]) (st' := [.ref q0, .int m5]) rfl ?_
    obtain ⟨z_3943, g_3943, p_3943⟩ : ∃ z : Int32, gI h 12 66 q0 = some z ∧ z.toInt = s q0 66 := rp_gI (k := 66) hR (T12_o t0) rfl
    refine Rn.hp hT rfl rfl (gI_hp g_3943) ?_
    by_cases c_3944 : (s q0 66) ≤ x5
    · rw [if_pos c_3944] at e
      refine Rn.bt hT rfl rfl rfl (decide_eq_true ((ti_le p_3943 p5).mpr c_3944)) ?_
      exact Rn.weak (ll_n (ll_n (ll_s (ll_s (ll_s (ll_n ll_e)))))) (hk h s hR m3 x3 p3 m4 x4 p4 e)
    · rw [if_neg c_3944] at e
      refine Rn.bf hT rfl rfl rfl (decide_eq_false (fun z => c_3944 ((ti_le p_3943 p5).mp z))) ?_
      refine Rn.n hT 3 (pc' := 45) (L' := [some (.ref q0), none, some (.int m2), some (.int m3), some (.int m4), some (.int m5)]) (st' := [.ref q0, .int (1 : Int32), .int m3]) rfl ?_
      refine Rn.hp hT rfl rfl (gR_hp (rp_gR hR (T12_o t0) rfl)) ?_
      refine Rn.n hT 1 (pc' := 50) (L' := [some (.ref q0), none, some (.int m2), some (.int m3), some (.int m4), some (.int m5)]) (st' := [.int m5, .ref (q0 + 48), .int (1 : Int32), .int m3]) rfl ?_
      obtain ⟨v_3945, e_3945, e⟩ := Option.bind_eq_some_iff.mp e
      obtain ⟨z_3945, g_3945, p_3945⟩ := rp_aI hR (T12_65 t0) (T12_65l t0) p5 e_3945
      refine Rn.hp hT rfl rfl (aI_hp g_3945) ?_
      refine Rn.n hT 7 (pc' := 60) (L' := [some (.ref q0), none, some (.int m2), some (.int (m3 ||| ((1 : Int32) <<< ((z_3945 / (16 : Int32)) &&& 31)))), some (.int m4), some (.int m5)]) (st' := [.ref q0, .int m4]) rfl ?_
      refine Rn.hp hT rfl rfl (gR_hp (rp_gR hR (T12_o t0) rfl)) ?_
      refine Rn.n hT 1 (pc' := 65) (L' := [some (.ref q0), none, some (.int m2), some (.int (m3 ||| ((1 : Int32) <<< ((z_3945 / (16 : Int32)) &&& 31)))), some (.int m4), some (.int m5)]) (st' := [.int m5, .ref (q0 + 48), .int m4]) rfl ?_
      obtain ⟨v_3946, e_3946, e⟩ := Option.bind_eq_some_iff.mp e
      obtain ⟨z_3946, g_3946, p_3946⟩ := rp_aI hR (T12_65 t0) (T12_65l t0) p5 e_3946
      refine Rn.hp hT rfl rfl (aI_hp g_3946) ?_
      refine Rn.n hT 8 (pc' := 33) (L' := [some (.ref q0), none, some (.int m2), some (.int (m3 ||| ((1 : Int32) <<< ((z_3945 / (16 : Int32)) &&& 31)))), some (.int (m4 ||| ((z_3946 - z_3946 / (16 : Int32) * (16 : Int32)) <<< ((1 : Int32) &&& 31)))), some (.int (m5 + (1 : Int32)))]) (st' := []) rfl ?_
      exact Rn.weak (ll_s (ll_n (ll_s (ll_s (ll_s (ll_s ll_e)))))) (ih h s hR (m3 ||| ((1 : Int32) <<< ((z_3945 / (16 : Int32)) &&& 31))) (bOr x3 (sl32 1 (dv32 v_3945 16))) (ti_or p3 (ti_shl L32_1 (ti_div p_3945 L32_16))) (m4 ||| ((z_3946 - z_3946 / (16 : Int32) * (16 : Int32)) <<< ((1 : Int32) &&& 31))) (bOr x4 (sl32 (Int.tmod v_3946 16) 1)) (ti_or p4 (ti_shl (ti_rem p_3946 L32_16) L32_1)) (m5 + (1 : Int32)) (w32 (x5 + 1)) (ti_add p5 L32_1) e)
def FX12_reach_b90 (N : Nat) (s : iv_M)  (xs0 : Int) : Option (Int × iv_M) := (some (xs0, s))
set_option maxRecDepth 10000 in
set_option maxHeartbeats 4000000 in
theorem RX12_reach_b90 {d N nc Ls : Nat} {Xs : Nat → Int32} (hd : 6 ≤ d) {h : iv_H} {s : iv_M} (hR : Rep nc Ls Xs h s)  {ms0 : Int32} {xs0 : Int} (ps0 : ms0.toInt = xs0) {r : Int × iv_M} {Q : Option Value → iv_H → Prop} (hq : ∀ (z : Int32) (h1 : iv_H), z.toInt = r.1 → Rep nc Ls Xs h1 r.2 → Q (some (.int z)) h1) (e : FX12_reach_b90 N s  xs0 = some r) : Rn d 312 (some .int) 90 [none, none, none, none, none, none] [.int ms0] h Q := by
  have hT := hX12_reach
  unfold FX12_reach_b90 at e
  obtain rfl := Option.some.inj e
  exact Rn.ret hT rfl rfl rfl (hq ms0 h ps0 hR)
def FX12_reach (N : Nat) (s : iv_M) (q0 : Nat) (x1 : Int) (x2 : Int) : Option (Int × iv_M) := ((FX12_isRoom N s q0 x1).bind fun v_3934 => (if v_3934 = 0 then (FX12_reach_b18 N s) else ((FX12_in N s x2 0 1).bind fun v_3936 => (if v_3936 = 0 then (FX12_reach_b18 N s) else ((FX12_goesByDay N s q0 x1).bind fun s_3939 => (FX12_reach_l33 N q0 x2 (fun (s_3940 : iv_M) (x3941_3 : Int) (x3941_4 : Int) => (if x2 = 0 then (FX12_reach_b90 N s_3940 x3941_3) else (FX12_reach_b90 N s_3940 x3941_4))) N s_3939 0 0 0))))))
set_option maxRecDepth 10000 in
set_option maxHeartbeats 4000000 in
theorem RX12_reach {d N nc Ls : Nat} {Xs : Nat → Int32} (hd : 7 ≤ d) {h : iv_H} {s : iv_M} (hR : Rep nc Ls Xs h s) {q0 : Nat} (t0 : T12 nc q0) {m1 : Int32} {x1 : Int} (p1 : m1.toInt = x1) {m2 : Int32} {x2 : Int} (p2 : m2.toInt = x2) {r : Int × iv_M} {Q : Option Value → iv_H → Prop} (e : FX12_reach N s q0 x1 x2 = some r) (hq : ∀ (z : Int32) (h1 : iv_H), z.toInt = r.1 → Rep nc Ls Xs h1 r.2 → Q (some (.int z)) h1) : Cl d 312 [.ref q0, .int m1, .int m2] h Q := by
  obtain ⟨d, rfl⟩ : ∃ k, d = k + 1 := ⟨d - 1, by omega⟩
  have hd : 6 ≤ d := by omega
  have hT := hX12_reach
  unfold FX12_reach at e
  refine Cl.into (by decide) gX12_reach rfl ?_
  show Rn d 312 (some .int) 0 [some (.ref q0), some (.int m1), some (.int m2), none, none, none] [] h Q
  refine Rn.n hT 2 (pc' := 2) (L' := [some (.ref q0), some (.int m1), some (.int m2), none, none, none]) (st' := [.int m1, .ref q0]) rfl ?_
  obtain ⟨v_3934, e_3934, e⟩ := Option.bind_eq_some_iff.mp e
  refine Rn.call hT rfl rfl rfl (Nat.le_of_ble_eq_true rfl) (rcv_v gX12_isRoom (by omega) (rp_ck hR (T12_o t0))) (RX12_isRoom (by omega) hR t0 p1 e_3934 (fun z_3934 p_3934 => ?_))
  show Rn d _ _ 5 [some (.ref q0), some (.int m1), some (.int m2), none, none, none] [.int z_3934] h Q
  by_cases c_3935 : v_3934 = 0
  · rw [if_pos c_3935] at e
    refine Rn.bt hT rfl rfl rfl (decide_eq_true ((ti_e p_3934 L32_0).mpr c_3935)) ?_
    exact Rn.weak (ll_n (ll_n (ll_n (ll_n (ll_n (ll_n ll_e)))))) (RX12_reach_b18 hd hR hq e)
  · rw [if_neg c_3935] at e
    refine Rn.bf hT rfl rfl rfl (decide_eq_false (fun z => c_3935 ((ti_e p_3934 L32_0).mp z))) ?_
    refine Rn.n hT 4 (pc' := 12) (L' := [some (.ref q0), some (.int m1), some (.int m2), none, none, none]) (st' := [.long (1 : Int64), .long (0 : Int64), .long ((m2).toInt64)]) rfl ?_
    obtain ⟨v_3936, e_3936, e⟩ := Option.bind_eq_some_iff.mp e
    refine Rn.call hT rfl rfl rfl (Nat.le_of_ble_eq_true rfl) rfl (RX12_in (by omega) hR (ti_j p2) L64_0 L64_1 e_3936 (fun z_3936 p_3936 => ?_))
    show Rn d _ _ 15 [some (.ref q0), some (.int m1), some (.int m2), none, none, none] [.int z_3936] h Q
    by_cases c_3937 : v_3936 = 0
    · rw [if_pos c_3937] at e
      refine Rn.bf hT rfl rfl rfl (decide_eq_false (fun z => z ((ti_e p_3936 L32_0).mpr c_3937))) ?_
      exact Rn.weak (ll_n (ll_n (ll_n (ll_n (ll_n (ll_n ll_e)))))) (RX12_reach_b18 hd hR hq e)
    · rw [if_neg c_3937] at e
      refine Rn.bt hT rfl rfl rfl (decide_eq_true (fun z => c_3937 ((ti_e p_3936 L32_0).mp z))) ?_
      refine Rn.n hT 2 (pc' := 22) (L' := [some (.ref q0), some (.int m1), some (.int m2), none, none, none]) (st' := [.int m1, .ref q0]) rfl ?_
      obtain ⟨s_3939, e_3938, e⟩ := Option.bind_eq_some_iff.mp e
      refine Rn.call hT rfl rfl rfl (Nat.le_of_ble_eq_true rfl) (rcv_v gX12_goesByDay (by omega) (rp_ck hR (T12_o t0))) (RX12_goesByDay (by omega) hR t0 p1 e_3938 (fun h_3939 R_3939 => ?_))
      show Rn d _ _ 25 [some (.ref q0), some (.int m1), some (.int m2), none, none, none] [] h_3939 Q
      refine Rn.n hT 6 (pc' := 33) (L' := [some (.ref q0), some (.int m1), some (.int m2), some (.int (0 : Int32)), some (.int (0 : Int32)), some (.int (0 : Int32))]) (st' := []) rfl ?_
      refine Rn.weak (ll_s (ll_n (ll_s (ll_s (ll_s (ll_s ll_e)))))) (RX12_reach_l33 hd t0 p2 (fun h_3940 s_3940 R_3940 m3941_3 x3941_3 p3941_3 m3941_4 x3941_4 p3941_4 e => ?_) hq N h_3939 s_3939 R_3939 (0 : Int32) 0 L32_0 (0 : Int32) 0 L32_0 (0 : Int32) 0 L32_0 e)
      try dsimp only at e
      refine Rn.n hT 1 (pc' := 81) (L' := [none, none, some (.int m2), some (.int m3941_3), some (.int m3941_4), none]) (st' := [.int m2]) rfl ?_
      by_cases c_3942 : x2 = 0
      · rw [if_pos c_3942] at e
        refine Rn.bf hT rfl rfl rfl (decide_eq_false (fun z => z ((ti_e p2 L32_0).mpr c_3942))) ?_
        refine Rn.n hT 2 (pc' := 90) (L' := [none, none, some (.int m2), some (.int m3941_3), some (.int m3941_4), none]) (st' := [.int m3941_3]) rfl ?_
        exact Rn.weak (ll_n (ll_n (ll_n (ll_n (ll_n (ll_n ll_e)))))) (RX12_reach_b90 hd R_3940 p3941_3 hq e)
      · rw [if_neg c_3942] at e
        refine Rn.bt hT rfl rfl rfl (decide_eq_true (fun z => c_3942 ((ti_e p2 L32_0).mp z))) ?_
        refine Rn.n hT 1 (pc' := 90) (L' := [none, none, some (.int m2), some (.int m3941_3), some (.int m3941_4), none]) (st' := [.int m3941_4]) rfl ?_
        exact Rn.weak (ll_n (ll_n (ll_n (ll_n (ll_n (ll_n ll_e)))))) (RX12_reach_b90 hd R_3940 p3941_4 hq e)
set_option maxRecDepth 10000 in
theorem hX12_gossip : iv_Tb 313 tX12_gossip := iv_tb_of (m := mX12_gossip) rfl
set_option maxRecDepth 10000 in
theorem gX12_gossip : PG.2 313 = some mX12_gossip := iv_pi_of (t := tX12_gossip) rfl (by decide)
def FX12_gossip_b20 (N : Nat) (s : iv_M)   : Option (Int) := (some (-1))
set_option maxRecDepth 10000 in
set_option maxHeartbeats 4000000 in
theorem RX12_gossip_b20 {d N nc Ls : Nat} {Xs : Nat → Int32} (hd : 5 ≤ d) {h : iv_H} {s : iv_M} (hR : Rep nc Ls Xs h s)   {r : Int} {Q : Option Value → iv_H → Prop} (hq : ∀ (z : Int32), z.toInt = r → Q (some (.int z)) h) (e : FX12_gossip_b20 N s   = some r) : Rn d 313 (some .int) 20 [none, none, none, none, none, none, none, none, none] [] h Q := by
  have hT := hX12_gossip
  unfold FX12_gossip_b20 at e
  refine Rn.n hT 1 (pc' := 21) (L' := [none, none, none, none, none, none, none, none, none]) (st' := [.int (-1 : Int32)]) rfl ?_
  obtain rfl := Option.some.inj e
  exact Rn.ret hT rfl rfl rfl (hq (-1 : Int32) L32_m1)
def FX12_gossip_b144 (N : Nat) (s : iv_M) (q0 : Nat) (x2 : Int) (x3 : Int) (x4 : Int) (x6 : Int) (x7 : Int) (xs0 : Int) (xs1 : Int) (kb : Int → Int → Option (Int)) (kx : Int → Option (Int)) : Option (Int) := (kb (bOr xs1 xs0) (w32 (x7 + 1)))
set_option maxRecDepth 10000 in
set_option maxHeartbeats 4000000 in
theorem RX12_gossip_b144 {d N nc Ls : Nat} {Xs : Nat → Int32} (hd : 5 ≤ d) {h : iv_H} {s : iv_M} (hR : Rep nc Ls Xs h s) {q0 : Nat} (t0 : T12 nc q0) {m2 : Int32} {x2 : Int} (p2 : m2.toInt = x2) {m3 : Int32} {x3 : Int} (p3 : m3.toInt = x3) {m4 : Int32} {x4 : Int} (p4 : m4.toInt = x4) {m6 : Int32} {x6 : Int} (p6 : m6.toInt = x6) {m7 : Int32} {x7 : Int} (p7 : m7.toInt = x7) {ms0 : Int32} {xs0 : Int} (ps0 : ms0.toInt = xs0) {ms1 : Int32} {xs1 : Int} (ps1 : ms1.toInt = xs1) {kb : Int → Int → Option (Int)} {kx : Int → Option (Int)} {r : Int} {Q : Option Value → iv_H → Prop} (hb : ∀ (mw5 : Int32) (xw5 : Int) (pw5 : mw5.toInt = xw5) (mw7 : Int32) (xw7 : Int) (pw7 : mw7.toInt = xw7), kb xw5 xw7 = some r → Rn d 313 (some .int) 55 [some (.ref q0), none, some (.int m2), some (.int m3), some (.int m4), some (.int mw5), some (.int m6), some (.int mw7), none] [] h Q) (hk : ∀ (mw5 : Int32) (xw5 : Int) (pw5 : mw5.toInt = xw5), kx xw5 = some r → Rn d 313 (some .int) 153 [some (.ref q0), none, some (.int m2), some (.int m3), some (.int m4), some (.int mw5), some (.int m6), none, none] [] h Q) (hq : ∀ (z : Int32), z.toInt = r → Q (some (.int z)) h) (e : FX12_gossip_b144 N s q0 x2 x3 x4 x6 x7 xs0 xs1 kb kx = some r) : Rn d 313 (some .int) 144 [some (.ref q0), none, some (.int m2), some (.int m3), some (.int m4), none, some (.int m6), some (.int m7), none] [.int ms0, .int ms1] h Q := by
  have hT := hX12_gossip
  unfold FX12_gossip_b144 at e
  refine Rn.n hT 4 (pc' := 55) (L' := [some (.ref q0), none, some (.int m2), some (.int m3), some (.int m4), some (.int (ms1 ||| ms0)), some (.int m6), some (.int (m7 + (1 : Int32))), none]) (st' := []) rfl ?_
  exact Rn.weak (ll_s (ll_n (ll_s (ll_s (ll_s (ll_s (ll_s (ll_s (ll_n ll_e))))))))) (hb (ms1 ||| ms0) (bOr xs1 xs0) (ti_or ps1 ps0) (m7 + (1 : Int32)) (w32 (x7 + 1)) (ti_add p7 L32_1) e)
def FX12_gossip_b121 (N : Nat) (s : iv_M) (q0 : Nat) (x2 : Int) (x3 : Int) (x4 : Int) (x5 : Int) (x6 : Int) (x7 : Int) (xs0 : Int) (kb : Int → Int → Option (Int)) (kx : Int → Option (Int)) : Option (Int) := (if xs0 = 0 then (FX12_gossip_b144 N s q0 x2 x3 x4 x6 x7 0 x5 kb kx) else ((FX12_faced N s q0 x6 x7).bind fun v_3968 => (FX12_gossip_b144 N s q0 x2 x3 x4 x6 x7 (sl32 1 v_3968) x5 kb kx)))
set_option maxRecDepth 10000 in
set_option maxHeartbeats 4000000 in
theorem RX12_gossip_b121 {d N nc Ls : Nat} {Xs : Nat → Int32} (hd : 5 ≤ d) {h : iv_H} {s : iv_M} (hR : Rep nc Ls Xs h s) {q0 : Nat} (t0 : T12 nc q0) {m2 : Int32} {x2 : Int} (p2 : m2.toInt = x2) {m3 : Int32} {x3 : Int} (p3 : m3.toInt = x3) {m4 : Int32} {x4 : Int} (p4 : m4.toInt = x4) {m5 : Int32} {x5 : Int} (p5 : m5.toInt = x5) {m6 : Int32} {x6 : Int} (p6 : m6.toInt = x6) {m7 : Int32} {x7 : Int} (p7 : m7.toInt = x7) {ms0 : Int32} {xs0 : Int} (ps0 : ms0.toInt = xs0) {kb : Int → Int → Option (Int)} {kx : Int → Option (Int)} {r : Int} {Q : Option Value → iv_H → Prop} (hb : ∀ (mw5 : Int32) (xw5 : Int) (pw5 : mw5.toInt = xw5) (mw7 : Int32) (xw7 : Int) (pw7 : mw7.toInt = xw7), kb xw5 xw7 = some r → Rn d 313 (some .int) 55 [some (.ref q0), none, some (.int m2), some (.int m3), some (.int m4), some (.int mw5), some (.int m6), some (.int mw7), none] [] h Q) (hk : ∀ (mw5 : Int32) (xw5 : Int) (pw5 : mw5.toInt = xw5), kx xw5 = some r → Rn d 313 (some .int) 153 [some (.ref q0), none, some (.int m2), some (.int m3), some (.int m4), some (.int mw5), some (.int m6), none, none] [] h Q) (hq : ∀ (z : Int32), z.toInt = r → Q (some (.int z)) h) (e : FX12_gossip_b121 N s q0 x2 x3 x4 x5 x6 x7 xs0 kb kx = some r) : Rn d 313 (some .int) 121 [some (.ref q0), none, some (.int m2), some (.int m3), some (.int m4), some (.int m5), some (.int m6), some (.int m7), none] [.int ms0] h Q := by
  have hT := hX12_gossip
  unfold FX12_gossip_b121 at e
  refine Rn.n hT 3 (pc' := 127) (L' := [some (.ref q0), none, some (.int m2), some (.int m3), some (.int m4), some (.int m5), some (.int m6), some (.int m7), some (.int ms0)]) (st' := [.int ms0, .int m5]) rfl ?_
  by_cases c_3967 : xs0 = 0
  · rw [if_pos c_3967] at e
    refine Rn.bt hT rfl rfl rfl (decide_eq_true ((ti_e ps0 L32_0).mpr c_3967)) ?_
    refine Rn.n hT 1 (pc' := 144) (L' := [some (.ref q0), none, some (.int m2), some (.int m3), some (.int m4), some (.int m5), some (.int m6), some (.int m7), some (.int ms0)]) (st' := [.int (0 : Int32), .int m5]) rfl ?_
    exact Rn.weak (ll_s (ll_n (ll_s (ll_s (ll_s (ll_n (ll_s (ll_s (ll_n ll_e))))))))) (RX12_gossip_b144 hd hR t0 p2 p3 p4 p6 p7 L32_0 p5 hb hk hq e)
  · rw [if_neg c_3967] at e
    refine Rn.bf hT rfl rfl rfl (decide_eq_false (fun z => c_3967 ((ti_e ps0 L32_0).mp z))) ?_
    refine Rn.n hT 4 (pc' := 136) (L' := [some (.ref q0), none, some (.int m2), some (.int m3), some (.int m4), some (.int m5), some (.int m6), some (.int m7), some (.int ms0)]) (st' := [.int m7, .int m6, .ref q0, .int (1 : Int32), .int m5]) rfl ?_
    obtain ⟨v_3968, e_3968, e⟩ := Option.bind_eq_some_iff.mp e
    refine Rn.call hT rfl rfl rfl (Nat.le_of_ble_eq_true rfl) (rcv_v gX12_faced (by omega) (rp_ck hR (T12_o t0))) (RX12_faced (by omega) hR t0 p6 p7 e_3968 (fun z_3968 p_3968 => ?_))
    show Rn d _ _ 139 [some (.ref q0), none, some (.int m2), some (.int m3), some (.int m4), some (.int m5), some (.int m6), some (.int m7), some (.int ms0)] [.int z_3968, .int (1 : Int32), .int m5] h Q
    refine Rn.n hT 2 (pc' := 144) (L' := [some (.ref q0), none, some (.int m2), some (.int m3), some (.int m4), some (.int m5), some (.int m6), some (.int m7), some (.int ms0)]) (st' := [.int ((1 : Int32) <<< (z_3968 &&& 31)), .int m5]) rfl ?_
    exact Rn.weak (ll_s (ll_n (ll_s (ll_s (ll_s (ll_n (ll_s (ll_s (ll_n ll_e))))))))) (RX12_gossip_b144 hd hR t0 p2 p3 p4 p6 p7 (ti_shl L32_1 p_3968) p5 hb hk hq e)
def FX12_gossip_b120 (N : Nat) (s : iv_M) (q0 : Nat) (x2 : Int) (x3 : Int) (x4 : Int) (x5 : Int) (x6 : Int) (x7 : Int)  (kb : Int → Int → Option (Int)) (kx : Int → Option (Int)) : Option (Int) := (FX12_gossip_b121 N s q0 x2 x3 x4 x5 x6 x7 0 kb kx)
set_option maxRecDepth 10000 in
set_option maxHeartbeats 4000000 in
theorem RX12_gossip_b120 {d N nc Ls : Nat} {Xs : Nat → Int32} (hd : 5 ≤ d) {h : iv_H} {s : iv_M} (hR : Rep nc Ls Xs h s) {q0 : Nat} (t0 : T12 nc q0) {m2 : Int32} {x2 : Int} (p2 : m2.toInt = x2) {m3 : Int32} {x3 : Int} (p3 : m3.toInt = x3) {m4 : Int32} {x4 : Int} (p4 : m4.toInt = x4) {m5 : Int32} {x5 : Int} (p5 : m5.toInt = x5) {m6 : Int32} {x6 : Int} (p6 : m6.toInt = x6) {m7 : Int32} {x7 : Int} (p7 : m7.toInt = x7)  {kb : Int → Int → Option (Int)} {kx : Int → Option (Int)} {r : Int} {Q : Option Value → iv_H → Prop} (hb : ∀ (mw5 : Int32) (xw5 : Int) (pw5 : mw5.toInt = xw5) (mw7 : Int32) (xw7 : Int) (pw7 : mw7.toInt = xw7), kb xw5 xw7 = some r → Rn d 313 (some .int) 55 [some (.ref q0), none, some (.int m2), some (.int m3), some (.int m4), some (.int mw5), some (.int m6), some (.int mw7), none] [] h Q) (hk : ∀ (mw5 : Int32) (xw5 : Int) (pw5 : mw5.toInt = xw5), kx xw5 = some r → Rn d 313 (some .int) 153 [some (.ref q0), none, some (.int m2), some (.int m3), some (.int m4), some (.int mw5), some (.int m6), none, none] [] h Q) (hq : ∀ (z : Int32), z.toInt = r → Q (some (.int z)) h) (e : FX12_gossip_b120 N s q0 x2 x3 x4 x5 x6 x7  kb kx = some r) : Rn d 313 (some .int) 120 [some (.ref q0), none, some (.int m2), some (.int m3), some (.int m4), some (.int m5), some (.int m6), some (.int m7), none] [] h Q := by
  have hT := hX12_gossip
  unfold FX12_gossip_b120 at e
  refine Rn.n hT 1 (pc' := 121) (L' := [some (.ref q0), none, some (.int m2), some (.int m3), some (.int m4), some (.int m5), some (.int m6), some (.int m7), none]) (st' := [.int (0 : Int32)]) rfl ?_
  exact Rn.weak (ll_s (ll_n (ll_s (ll_s (ll_s (ll_s (ll_s (ll_s (ll_n ll_e))))))))) (RX12_gossip_b121 hd hR t0 p2 p3 p4 p5 p6 p7 L32_0 hb hk hq e)
def FX12_gossip_l55 (N : Nat) (s : iv_M) (q0 : Nat) (x2 : Int) (x3 : Int) (x4 : Int) (x6 : Int) (kx : Int → Option (Int)) : Nat → Int → Int → Option (Int)
  | 0, _, _ => none
  | n + 1, x5, x7 => (if 4 ≤ x7 then (kx x5) else (if (bAn (sr32 x3 x6) 1) = 1 then ((FX12_isDoorToDoor N s q0 x6 x7).bind fun v_3960 => (if v_3960 = 0 then (FX12_gossip_b120 N s q0 x2 x3 x4 x5 x6 x7 (FX12_gossip_l55 N s q0 x2 x3 x4 x6 kx n) kx) else ((FX12_sideOf N s q0 x6 x7).bind fun v_3962 => (if v_3962 = 1 then ((FX12_faced N s q0 x6 x7).bind fun v_3964 => ((FX12_sideOf N s q0 v_3964 (bAn (w32 (x7 + 2)) 3)).bind fun v_3965 => (if v_3965 = 1 then (FX12_gossip_b121 N s q0 x2 x3 x4 x5 x6 x7 1 (FX12_gossip_l55 N s q0 x2 x3 x4 x6 kx n) kx) else (FX12_gossip_b120 N s q0 x2 x3 x4 x5 x6 x7 (FX12_gossip_l55 N s q0 x2 x3 x4 x6 kx n) kx)))) else (FX12_gossip_b120 N s q0 x2 x3 x4 x5 x6 x7 (FX12_gossip_l55 N s q0 x2 x3 x4 x6 kx n) kx))))) else (kx x5)))
set_option maxRecDepth 10000 in
set_option maxHeartbeats 4000000 in
theorem RX12_gossip_l55 {d N nc Ls : Nat} {Xs : Nat → Int32} (hd : 5 ≤ d) {h : iv_H} {s : iv_M} (hR : Rep nc Ls Xs h s) {q0 : Nat} (t0 : T12 nc q0) {m2 : Int32} {x2 : Int} (p2 : m2.toInt = x2) {m3 : Int32} {x3 : Int} (p3 : m3.toInt = x3) {m4 : Int32} {x4 : Int} (p4 : m4.toInt = x4) {m6 : Int32} {x6 : Int} (p6 : m6.toInt = x6) {kx : Int → Option (Int)} {r : Int} {Q : Option Value → iv_H → Prop} (hk : ∀ (m5 : Int32) (x5 : Int) (p5 : m5.toInt = x5), kx x5 = some r → Rn d 313 (some .int) 153 [some (.ref q0), none, some (.int m2), some (.int m3), some (.int m4), some (.int m5), some (.int m6), none, none] [] h Q) (hq : ∀ (z : Int32), z.toInt = r → Q (some (.int z)) h) : ∀ (n : Nat) (m5 : Int32) (x5 : Int) (p5 : m5.toInt = x5) (m7 : Int32) (x7 : Int) (p7 : m7.toInt = x7), FX12_gossip_l55 N s q0 x2 x3 x4 x6 kx n x5 x7 = some r → Rn d 313 (some .int) 55 [some (.ref q0), none, some (.int m2), some (.int m3), some (.int m4), some (.int m5), some (.int m6), some (.int m7), none] [] h Q := by
  have hT := hX12_gossip
  intro n
  induction n with
  | zero =>
    intro m5 x5 p5 m7 x7 p7 e
    rw [FX12_gossip_l55] at e
    cases e
  | succ n ih =>
    intro m5 x5 p5 m7 x7 p7 e
    rw [FX12_gossip_l55] at e
    refine Rn.n hT 2 (pc' := 58) (L' := [some (.ref q0), none, some (.int m2), some (.int m3), some (.int m4), some (.int m5), some (.int m6), some (.int m7), none]) (st' := [.int (4 : Int32), .int m7]) rfl ?_
    by_cases c_3958 : 4 ≤ x7
    · rw [if_pos c_3958] at e
      refine Rn.bt hT rfl rfl rfl (decide_eq_true ((ti_le L32_4 p7).mpr c_3958)) ?_
      exact Rn.weak (ll_s (ll_n (ll_s (ll_s (ll_s (ll_s (ll_s (ll_n (ll_n ll_e))))))))) (hk m5 x5 p5 e)
    · rw [if_neg c_3958] at e
      refine Rn.bf hT rfl rfl rfl (decide_eq_false (fun z => c_3958 ((ti_le L32_4 p7).mp z))) ?_
      refine Rn.n hT 6 (pc' := 68) (L' := [some (.ref q0), none, some (.int m2), some (.int m3), some (.int m4), some (.int m5), some (.int m6), some (.int m7), none]) (st' := [.int (1 : Int32), .int ((m3 >>> (m6 &&& 31)) &&& (1 : Int32))]) rfl ?_
      by_cases c_3959 : (bAn (sr32 x3 x6) 1) = 1
      · rw [if_pos c_3959] at e
        refine Rn.bf hT rfl rfl rfl (decide_eq_false (fun z => z ((ti_e (ti_and (ti_shr p3 p6) L32_1) L32_1).mpr c_3959))) ?_
        refine Rn.n hT 3 (pc' := 76) (L' := [some (.ref q0), none, some (.int m2), some (.int m3), some (.int m4), some (.int m5), some (.int m6), some (.int m7), none]) (st' := [.int m7, .int m6, .ref q0]) rfl ?_
        obtain ⟨v_3960, e_3960, e⟩ := Option.bind_eq_some_iff.mp e
        refine Rn.call hT rfl rfl rfl (Nat.le_of_ble_eq_true rfl) (rcv_v gX12_isDoorToDoor (by omega) (rp_ck hR (T12_o t0))) (RX12_isDoorToDoor (by omega) hR t0 p6 p7 e_3960 (fun z_3960 p_3960 => ?_))
        show Rn d _ _ 79 [some (.ref q0), none, some (.int m2), some (.int m3), some (.int m4), some (.int m5), some (.int m6), some (.int m7), none] [.int z_3960] h Q
        by_cases c_3961 : v_3960 = 0
        · rw [if_pos c_3961] at e
          refine Rn.bt hT rfl rfl rfl (decide_eq_true ((ti_e p_3960 L32_0).mpr c_3961)) ?_
          exact Rn.weak (ll_s (ll_n (ll_s (ll_s (ll_s (ll_s (ll_s (ll_s (ll_n ll_e))))))))) (RX12_gossip_b120 hd hR t0 p2 p3 p4 p5 p6 p7 ih hk hq e)
        · rw [if_neg c_3961] at e
          refine Rn.bf hT rfl rfl rfl (decide_eq_false (fun z => c_3961 ((ti_e p_3960 L32_0).mp z))) ?_
          refine Rn.n hT 3 (pc' := 87) (L' := [some (.ref q0), none, some (.int m2), some (.int m3), some (.int m4), some (.int m5), some (.int m6), some (.int m7), none]) (st' := [.int m7, .int m6, .ref q0]) rfl ?_
          obtain ⟨v_3962, e_3962, e⟩ := Option.bind_eq_some_iff.mp e
          refine Rn.call hT rfl rfl rfl (Nat.le_of_ble_eq_true rfl) (rcv_v gX12_sideOf (by omega) (rp_ck hR (T12_o t0))) (RX12_sideOf (by omega) hR t0 p6 p7 e_3962 (fun z_3962 p_3962 => ?_))
          show Rn d _ _ 90 [some (.ref q0), none, some (.int m2), some (.int m3), some (.int m4), some (.int m5), some (.int m6), some (.int m7), none] [.int z_3962] h Q
          refine Rn.n hT 1 (pc' := 91) (L' := [some (.ref q0), none, some (.int m2), some (.int m3), some (.int m4), some (.int m5), some (.int m6), some (.int m7), none]) (st' := [.int (1 : Int32), .int z_3962]) rfl ?_
          by_cases c_3963 : v_3962 = 1
          · rw [if_pos c_3963] at e
            refine Rn.bf hT rfl rfl rfl (decide_eq_false (fun z => z ((ti_e p_3962 L32_1).mpr c_3963))) ?_
            refine Rn.n hT 4 (pc' := 100) (L' := [some (.ref q0), none, some (.int m2), some (.int m3), some (.int m4), some (.int m5), some (.int m6), some (.int m7), none]) (st' := [.int m7, .int m6, .ref q0, .ref q0]) rfl ?_
            obtain ⟨v_3964, e_3964, e⟩ := Option.bind_eq_some_iff.mp e
            refine Rn.call hT rfl rfl rfl (Nat.le_of_ble_eq_true rfl) (rcv_v gX12_faced (by omega) (rp_ck hR (T12_o t0))) (RX12_faced (by omega) hR t0 p6 p7 e_3964 (fun z_3964 p_3964 => ?_))
            show Rn d _ _ 103 [some (.ref q0), none, some (.int m2), some (.int m3), some (.int m4), some (.int m5), some (.int m6), some (.int m7), none] [.int z_3964, .ref q0] h Q
            refine Rn.n hT 5 (pc' := 109) (L' := [some (.ref q0), none, some (.int m2), some (.int m3), some (.int m4), some (.int m5), some (.int m6), some (.int m7), none]) (st' := [.int ((m7 + (2 : Int32)) &&& (3 : Int32)), .int z_3964, .ref q0]) rfl ?_
            obtain ⟨v_3965, e_3965, e⟩ := Option.bind_eq_some_iff.mp e
            refine Rn.call hT rfl rfl rfl (Nat.le_of_ble_eq_true rfl) (rcv_v gX12_sideOf (by omega) (rp_ck hR (T12_o t0))) (RX12_sideOf (by omega) hR t0 p_3964 (ti_and (ti_add p7 L32_2) L32_3) e_3965 (fun z_3965 p_3965 => ?_))
            show Rn d _ _ 112 [some (.ref q0), none, some (.int m2), some (.int m3), some (.int m4), some (.int m5), some (.int m6), some (.int m7), none] [.int z_3965] h Q
            refine Rn.n hT 1 (pc' := 113) (L' := [some (.ref q0), none, some (.int m2), some (.int m3), some (.int m4), some (.int m5), some (.int m6), some (.int m7), none]) (st' := [.int (1 : Int32), .int z_3965]) rfl ?_
            by_cases c_3966 : v_3965 = 1
            · rw [if_pos c_3966] at e
              refine Rn.bf hT rfl rfl rfl (decide_eq_false (fun z => z ((ti_e p_3965 L32_1).mpr c_3966))) ?_
              refine Rn.n hT 2 (pc' := 121) (L' := [some (.ref q0), none, some (.int m2), some (.int m3), some (.int m4), some (.int m5), some (.int m6), some (.int m7), none]) (st' := [.int (1 : Int32)]) rfl ?_
              exact Rn.weak (ll_s (ll_n (ll_s (ll_s (ll_s (ll_s (ll_s (ll_s (ll_n ll_e))))))))) (RX12_gossip_b121 hd hR t0 p2 p3 p4 p5 p6 p7 L32_1 ih hk hq e)
            · rw [if_neg c_3966] at e
              refine Rn.bt hT rfl rfl rfl (decide_eq_true (fun z => c_3966 ((ti_e p_3965 L32_1).mp z))) ?_
              exact Rn.weak (ll_s (ll_n (ll_s (ll_s (ll_s (ll_s (ll_s (ll_s (ll_n ll_e))))))))) (RX12_gossip_b120 hd hR t0 p2 p3 p4 p5 p6 p7 ih hk hq e)
          · rw [if_neg c_3963] at e
            refine Rn.bt hT rfl rfl rfl (decide_eq_true (fun z => c_3963 ((ti_e p_3962 L32_1).mp z))) ?_
            exact Rn.weak (ll_s (ll_n (ll_s (ll_s (ll_s (ll_s (ll_s (ll_s (ll_n ll_e))))))))) (RX12_gossip_b120 hd hR t0 p2 p3 p4 p5 p6 p7 ih hk hq e)
      · rw [if_neg c_3959] at e
        refine Rn.bt hT rfl rfl rfl (decide_eq_true (fun z => c_3959 ((ti_e (ti_and (ti_shr p3 p6) L32_1) L32_1).mp z))) ?_
        exact Rn.weak (ll_s (ll_n (ll_s (ll_s (ll_s (ll_s (ll_s (ll_n (ll_n ll_e))))))))) (hk m5 x5 p5 e)
def FX12_gossip_b153 (N : Nat) (s : iv_M) (q0 : Nat) (x2 : Int) (x3 : Int) (x4 : Int) (x5 : Int) (x6 : Int)  (kb : Int → Int → Option (Int)) (kx : Int → Option (Int)) : Option (Int) := (kb x5 (w32 (x6 + 1)))
set_option maxRecDepth 10000 in
set_option maxHeartbeats 4000000 in
theorem RX12_gossip_b153 {d N nc Ls : Nat} {Xs : Nat → Int32} (hd : 5 ≤ d) {h : iv_H} {s : iv_M} (hR : Rep nc Ls Xs h s) {q0 : Nat} (t0 : T12 nc q0) {m2 : Int32} {x2 : Int} (p2 : m2.toInt = x2) {m3 : Int32} {x3 : Int} (p3 : m3.toInt = x3) {m4 : Int32} {x4 : Int} (p4 : m4.toInt = x4) {m5 : Int32} {x5 : Int} (p5 : m5.toInt = x5) {m6 : Int32} {x6 : Int} (p6 : m6.toInt = x6)  {kb : Int → Int → Option (Int)} {kx : Int → Option (Int)} {r : Int} {Q : Option Value → iv_H → Prop} (hb : ∀ (mw5 : Int32) (xw5 : Int) (pw5 : mw5.toInt = xw5) (mw6 : Int32) (xw6 : Int) (pw6 : mw6.toInt = xw6), kb xw5 xw6 = some r → Rn d 313 (some .int) 41 [some (.ref q0), none, some (.int m2), some (.int m3), some (.int m4), some (.int mw5), some (.int mw6), none, none] [] h Q) (hk : ∀ (mw5 : Int32) (xw5 : Int) (pw5 : mw5.toInt = xw5), kx xw5 = some r → Rn d 313 (some .int) 159 [some (.ref q0), none, some (.int m2), none, some (.int m4), some (.int mw5), none, none, none] [] h Q) (hq : ∀ (z : Int32), z.toInt = r → Q (some (.int z)) h) (e : FX12_gossip_b153 N s q0 x2 x3 x4 x5 x6  kb kx = some r) : Rn d 313 (some .int) 153 [some (.ref q0), none, some (.int m2), some (.int m3), some (.int m4), some (.int m5), some (.int m6), none, none] [] h Q := by
  have hT := hX12_gossip
  unfold FX12_gossip_b153 at e
  refine Rn.n hT 2 (pc' := 41) (L' := [some (.ref q0), none, some (.int m2), some (.int m3), some (.int m4), some (.int m5), some (.int (m6 + (1 : Int32))), none, none]) (st' := []) rfl ?_
  exact Rn.weak (ll_s (ll_n (ll_s (ll_s (ll_s (ll_s (ll_s (ll_n (ll_n ll_e))))))))) (hb m5 x5 p5 (m6 + (1 : Int32)) (w32 (x6 + 1)) (ti_add p6 L32_1) e)
def FX12_gossip_l41 (N : Nat) (s : iv_M) (q0 : Nat) (x2 : Int) (x3 : Int) (x4 : Int) (kx : Int → Option (Int)) : Nat → Int → Int → Option (Int)
  | 0, _, _ => none
  | n + 1, x5, x6 => ((rd s (q0 + 1) 14 2).bind fun v_3955 => (if v_3955 ≤ x6 then (kx x5) else (FX12_gossip_l55 N s q0 x2 x3 x4 x6 (fun (x3957_5 : Int) => (FX12_gossip_b153 N s q0 x2 x3 x4 x3957_5 x6 (FX12_gossip_l41 N s q0 x2 x3 x4 kx n) kx)) N x5 0)))
set_option maxRecDepth 10000 in
set_option maxHeartbeats 4000000 in
theorem RX12_gossip_l41 {d N nc Ls : Nat} {Xs : Nat → Int32} (hd : 5 ≤ d) {h : iv_H} {s : iv_M} (hR : Rep nc Ls Xs h s) {q0 : Nat} (t0 : T12 nc q0) {m2 : Int32} {x2 : Int} (p2 : m2.toInt = x2) {m3 : Int32} {x3 : Int} (p3 : m3.toInt = x3) {m4 : Int32} {x4 : Int} (p4 : m4.toInt = x4) {kx : Int → Option (Int)} {r : Int} {Q : Option Value → iv_H → Prop} (hk : ∀ (m5 : Int32) (x5 : Int) (p5 : m5.toInt = x5), kx x5 = some r → Rn d 313 (some .int) 159 [some (.ref q0), none, some (.int m2), none, some (.int m4), some (.int m5), none, none, none] [] h Q) (hq : ∀ (z : Int32), z.toInt = r → Q (some (.int z)) h) : ∀ (n : Nat) (m5 : Int32) (x5 : Int) (p5 : m5.toInt = x5) (m6 : Int32) (x6 : Int) (p6 : m6.toInt = x6), FX12_gossip_l41 N s q0 x2 x3 x4 kx n x5 x6 = some r → Rn d 313 (some .int) 41 [some (.ref q0), none, some (.int m2), some (.int m3), some (.int m4), some (.int m5), some (.int m6), none, none] [] h Q := by
  have hT := hX12_gossip
  intro n
  induction n with
  | zero =>
    intro m5 x5 p5 m6 x6 p6 e
    rw [FX12_gossip_l41] at e
    cases e
  | succ n ih =>
    intro m5 x5 p5 m6 x6 p6 e
    rw [FX12_gossip_l41] at e
    refine Rn.n hT 2 (pc' := 44) (L' := [some (.ref q0), none, some (.int m2), some (.int m3), some (.int m4), some (.int m5), some (.int m6), none, none]) (st' := [.ref q0, .int m6]) rfl ?_
    refine Rn.hp hT rfl rfl (gR_hp (rp_gR hR (T12_o t0) rfl)) ?_
    refine Rn.n hT 1 (pc' := 48) (L' := [some (.ref q0), none, some (.int m2), some (.int m3), some (.int m4), some (.int m5), some (.int m6), none, none]) (st' := [.int (2 : Int32), .ref (q0 + 1), .int m6]) rfl ?_
    obtain ⟨v_3955, e_3955, e⟩ := Option.bind_eq_some_iff.mp e
    obtain ⟨z_3955, g_3955, p_3955⟩ := rp_aI hR (T12_1 t0) (T12_1l t0) L32_2 e_3955
    refine Rn.hp hT rfl rfl (aI_hp g_3955) ?_
    by_cases c_3956 : v_3955 ≤ x6
    · rw [if_pos c_3956] at e
      refine Rn.bt hT rfl rfl rfl (decide_eq_true ((ti_le p_3955 p6).mpr c_3956)) ?_
      exact Rn.weak (ll_s (ll_n (ll_s (ll_n (ll_s (ll_s (ll_n (ll_n (ll_n ll_e))))))))) (hk m5 x5 p5 e)
    · rw [if_neg c_3956] at e
      refine Rn.bf hT rfl rfl rfl (decide_eq_false (fun z => c_3956 ((ti_le p_3955 p6).mp z))) ?_
      refine Rn.n hT 2 (pc' := 55) (L' := [some (.ref q0), none, some (.int m2), some (.int m3), some (.int m4), some (.int m5), some (.int m6), some (.int (0 : Int32)), none]) (st' := []) rfl ?_
      refine Rn.weak (ll_s (ll_n (ll_s (ll_s (ll_s (ll_s (ll_s (ll_s (ll_n ll_e))))))))) (RX12_gossip_l55 hd hR t0 p2 p3 p4 p6 (fun m3957_5 x3957_5 p3957_5 e => ?_) hq N m5 x5 p5 (0 : Int32) 0 L32_0 e)
      try dsimp only at e
      exact Rn.weak (ll_s (ll_n (ll_s (ll_s (ll_s (ll_s (ll_s (ll_n (ll_n ll_e))))))))) (RX12_gossip_b153 hd hR t0 p2 p3 p4 p3957_5 p6 ih hk hq e)
def FX12_gossip_l29 (N : Nat) (s : iv_M) (q0 : Nat) (x2 : Int) (kx : Int → Option (Int)) : Nat → Int → Int → Option (Int)
  | 0, _, _ => none
  | n + 1, x3, x4 => (if x2 ≤ x4 then (kx x3) else (FX12_gossip_l41 N s q0 x2 x3 x4 (fun (x3954_5 : Int) => (FX12_gossip_l29 N s q0 x2 kx n x3954_5 (w32 (x4 + 1)))) N x3 0))
set_option maxRecDepth 10000 in
set_option maxHeartbeats 4000000 in
theorem RX12_gossip_l29 {d N nc Ls : Nat} {Xs : Nat → Int32} (hd : 5 ≤ d) {h : iv_H} {s : iv_M} (hR : Rep nc Ls Xs h s) {q0 : Nat} (t0 : T12 nc q0) {m2 : Int32} {x2 : Int} (p2 : m2.toInt = x2) {kx : Int → Option (Int)} {r : Int} {Q : Option Value → iv_H → Prop} (hk : ∀ (m3 : Int32) (x3 : Int) (p3 : m3.toInt = x3), kx x3 = some r → Rn d 313 (some .int) 168 [none, none, none, some (.int m3), none, none, none, none, none] [] h Q) (hq : ∀ (z : Int32), z.toInt = r → Q (some (.int z)) h) : ∀ (n : Nat) (m3 : Int32) (x3 : Int) (p3 : m3.toInt = x3) (m4 : Int32) (x4 : Int) (p4 : m4.toInt = x4), FX12_gossip_l29 N s q0 x2 kx n x3 x4 = some r → Rn d 313 (some .int) 29 [some (.ref q0), none, some (.int m2), some (.int m3), some (.int m4), none, none, none, none] [] h Q := by
  have hT := hX12_gossip
  intro n
  induction n with
  | zero =>
    intro m3 x3 p3 m4 x4 p4 e
    rw [FX12_gossip_l29] at e
    cases e
  | succ n ih =>
    intro m3 x3 p3 m4 x4 p4 e
    rw [FX12_gossip_l29] at e
    refine Rn.n hT 2 (pc' := 32) (L' := [some (.ref q0), none, some (.int m2), some (.int m3), some (.int m4), none, none, none, none]) (st' := [.int m2, .int m4]) rfl ?_
    by_cases c_3953 : x2 ≤ x4
    · rw [if_pos c_3953] at e
      refine Rn.bt hT rfl rfl rfl (decide_eq_true ((ti_le p2 p4).mpr c_3953)) ?_
      exact Rn.weak (ll_n (ll_n (ll_n (ll_s (ll_n (ll_n (ll_n (ll_n (ll_n ll_e))))))))) (hk m3 x3 p3 e)
    · rw [if_neg c_3953] at e
      refine Rn.bf hT rfl rfl rfl (decide_eq_false (fun z => c_3953 ((ti_le p2 p4).mp z))) ?_
      refine Rn.n hT 4 (pc' := 41) (L' := [some (.ref q0), none, some (.int m2), some (.int m3), some (.int m4), some (.int m3), some (.int (0 : Int32)), none, none]) (st' := []) rfl ?_
      refine Rn.weak (ll_s (ll_n (ll_s (ll_s (ll_s (ll_s (ll_s (ll_n (ll_n ll_e))))))))) (RX12_gossip_l41 hd hR t0 p2 p3 p4 (fun m3954_5 x3954_5 p3954_5 e => ?_) hq N m3 x3 p3 (0 : Int32) 0 L32_0 e)
      try dsimp only at e
      refine Rn.n hT 4 (pc' := 29) (L' := [some (.ref q0), none, some (.int m2), some (.int m3954_5), some (.int (m4 + (1 : Int32))), some (.int m3954_5), none, none, none]) (st' := []) rfl ?_
      exact Rn.weak (ll_s (ll_n (ll_s (ll_s (ll_s (ll_n (ll_n (ll_n (ll_n ll_e))))))))) (ih m3954_5 x3954_5 p3954_5 (m4 + (1 : Int32)) (w32 (x4 + 1)) (ti_add p4 L32_1) e)
def FX12_gossip (N : Nat) (s : iv_M) (q0 : Nat) (x1 : Int) (x2 : Int) : Option (Int) := ((FX12_isRoom N s q0 x1).bind fun v_3947 => (if v_3947 = 0 then (FX12_gossip_b20 N s) else ((FX12_in N s x2 0 16).bind fun v_3949 => (if v_3949 = 0 then (FX12_gossip_b20 N s) else (FX12_gossip_l29 N s q0 x2 (fun (x3951_3 : Int) => ((FX12_bits N s x3951_3).bind fun v_3952 => (some v_3952))) N (sl32 1 x1) 0)))))
set_option maxRecDepth 10000 in
set_option maxHeartbeats 4000000 in
theorem RX12_gossip {d N nc Ls : Nat} {Xs : Nat → Int32} (hd : 6 ≤ d) {h : iv_H} {s : iv_M} (hR : Rep nc Ls Xs h s) {q0 : Nat} (t0 : T12 nc q0) {m1 : Int32} {x1 : Int} (p1 : m1.toInt = x1) {m2 : Int32} {x2 : Int} (p2 : m2.toInt = x2) {r : Int} {Q : Option Value → iv_H → Prop} (e : FX12_gossip N s q0 x1 x2 = some r) (hq : ∀ (z : Int32), z.toInt = r → Q (some (.int z)) h) : Cl d 313 [.ref q0, .int m1, .int m2] h Q := by
  obtain ⟨d, rfl⟩ : ∃ k, d = k + 1 := ⟨d - 1, by omega⟩
  have hd : 5 ≤ d := by omega
  have hT := hX12_gossip
  unfold FX12_gossip at e
  refine Cl.into (by decide) gX12_gossip rfl ?_
  show Rn d 313 (some .int) 0 [some (.ref q0), some (.int m1), some (.int m2), none, none, none, none, none, none] [] h Q
  refine Rn.n hT 2 (pc' := 2) (L' := [some (.ref q0), some (.int m1), some (.int m2), none, none, none, none, none, none]) (st' := [.int m1, .ref q0]) rfl ?_
  obtain ⟨v_3947, e_3947, e⟩ := Option.bind_eq_some_iff.mp e
  refine Rn.call hT rfl rfl rfl (Nat.le_of_ble_eq_true rfl) (rcv_v gX12_isRoom (by omega) (rp_ck hR (T12_o t0))) (RX12_isRoom (by omega) hR t0 p1 e_3947 (fun z_3947 p_3947 => ?_))
  show Rn d _ _ 5 [some (.ref q0), some (.int m1), some (.int m2), none, none, none, none, none, none] [.int z_3947] h Q
  by_cases c_3948 : v_3947 = 0
  · rw [if_pos c_3948] at e
    refine Rn.bt hT rfl rfl rfl (decide_eq_true ((ti_e p_3947 L32_0).mpr c_3948)) ?_
    exact Rn.weak (ll_n (ll_n (ll_n (ll_n (ll_n (ll_n (ll_n (ll_n (ll_n ll_e))))))))) (RX12_gossip_b20 hd hR hq e)
  · rw [if_neg c_3948] at e
    refine Rn.bf hT rfl rfl rfl (decide_eq_false (fun z => c_3948 ((ti_e p_3947 L32_0).mp z))) ?_
    refine Rn.n hT 4 (pc' := 14) (L' := [some (.ref q0), some (.int m1), some (.int m2), none, none, none, none, none, none]) (st' := [.long (16 : Int64), .long (0 : Int64), .long ((m2).toInt64)]) rfl ?_
    obtain ⟨v_3949, e_3949, e⟩ := Option.bind_eq_some_iff.mp e
    refine Rn.call hT rfl rfl rfl (Nat.le_of_ble_eq_true rfl) rfl (RX12_in (by omega) hR (ti_j p2) L64_0 L64_16 e_3949 (fun z_3949 p_3949 => ?_))
    show Rn d _ _ 17 [some (.ref q0), some (.int m1), some (.int m2), none, none, none, none, none, none] [.int z_3949] h Q
    by_cases c_3950 : v_3949 = 0
    · rw [if_pos c_3950] at e
      refine Rn.bf hT rfl rfl rfl (decide_eq_false (fun z => z ((ti_e p_3949 L32_0).mpr c_3950))) ?_
      exact Rn.weak (ll_n (ll_n (ll_n (ll_n (ll_n (ll_n (ll_n (ll_n (ll_n ll_e))))))))) (RX12_gossip_b20 hd hR hq e)
    · rw [if_neg c_3950] at e
      refine Rn.bt hT rfl rfl rfl (decide_eq_true (fun z => c_3950 ((ti_e p_3949 L32_0).mp z))) ?_
      refine Rn.n hT 6 (pc' := 29) (L' := [some (.ref q0), some (.int m1), some (.int m2), some (.int ((1 : Int32) <<< (m1 &&& 31))), some (.int (0 : Int32)), none, none, none, none]) (st' := []) rfl ?_
      refine Rn.weak (ll_s (ll_n (ll_s (ll_s (ll_s (ll_n (ll_n (ll_n (ll_n ll_e))))))))) (RX12_gossip_l29 hd hR t0 p2 (fun m3951_3 x3951_3 p3951_3 e => ?_) hq N ((1 : Int32) <<< (m1 &&& 31)) (sl32 1 x1) (ti_shl L32_1 p1) (0 : Int32) 0 L32_0 e)
      try dsimp only at e
      refine Rn.n hT 1 (pc' := 169) (L' := [none, none, none, some (.int m3951_3), none, none, none, none, none]) (st' := [.int m3951_3]) rfl ?_
      obtain ⟨v_3952, e_3952, e⟩ := Option.bind_eq_some_iff.mp e
      refine Rn.call hT rfl rfl rfl (Nat.le_of_ble_eq_true rfl) rfl (RX12_bits (by omega) hR p3951_3 e_3952 (fun z_3952 p_3952 => ?_))
      show Rn d _ _ 172 [none, none, none, some (.int m3951_3), none, none, none, none, none] [.int z_3952] h Q
      obtain rfl := Option.some.inj e
      exact Rn.ret hT rfl rfl rfl (hq z_3952 p_3952)
set_option maxRecDepth 10000 in
theorem hX12_almanac : iv_Tb 314 tX12_almanac := iv_tb_of (m := mX12_almanac) rfl
set_option maxRecDepth 10000 in
theorem gX12_almanac : PG.2 314 = some mX12_almanac := iv_pi_of (t := tX12_almanac) rfl (by decide)
def FX12_almanac_b41 (N : Nat) (s : iv_M)   : Option (Int × iv_M) := (some ((-2), s))
set_option maxRecDepth 10000 in
set_option maxHeartbeats 4000000 in
theorem RX12_almanac_b41 {d N nc Ls : Nat} {Xs : Nat → Int32} (hd : 3 ≤ d) {h : iv_H} {s : iv_M} (hR : Rep nc Ls Xs h s)   {r : Int × iv_M} {Q : Option Value → iv_H → Prop} (hq : ∀ (z : Int32) (h1 : iv_H), z.toInt = r.1 → Rep nc Ls Xs h1 r.2 → Q (some (.int z)) h1) (e : FX12_almanac_b41 N s   = some r) : Rn d 314 (some .int) 41 [none, none, none, none, none] [] h Q := by
  have hT := hX12_almanac
  unfold FX12_almanac_b41 at e
  refine Rn.n hT 1 (pc' := 43) (L' := [none, none, none, none, none]) (st' := [.int (-2 : Int32)]) rfl ?_
  obtain rfl := Option.some.inj e
  exact Rn.ret hT rfl rfl rfl (hq (-2 : Int32) h L32_m2 hR)
def FX12_almanac (N : Nat) (s : iv_M) (q0 : Nat) (x1 : Int) (x2 : Int) (x3 : Int) : Option (Int × iv_M) := (if x1 = (-1) then ((wr s (q0 + 1) 14 8 0).bind fun s_3985 => (some (0, s_3985))) else ((rd s (q0 + 1) 14 8).bind fun v_3970 => ((FX12_isWalk N s q0 x1 x2 x3).bind fun v_3971 => (if v_3971 = 0 then (FX12_almanac_b41 N s) else (if v_3970 = 10 then (FX12_almanac_b41 N s) else ((wr s (q0 + 11) 10 v_3970 x1).bind fun s_3974 => ((FX12_least N s_3974 x1 x2 x3).bind fun v_3976 => ((wr s_3974 (q0 + 12) 10 v_3970 v_3976).bind fun s_3977 => ((FX12_greatest N s_3977 x1 x2 x3).bind fun v_3979 => ((wr s_3977 (q0 + 13) 10 v_3970 v_3979).bind fun s_3980 => ((rd s_3980 (q0 + 1) 14 8).bind fun v_3982 => ((wr s_3980 (q0 + 1) 14 8 (w32 (v_3982 + 1))).bind fun s_3983 => (some ((w32 (v_3970 + 1)), s_3983))))))))))))))
set_option maxRecDepth 10000 in
set_option maxHeartbeats 4000000 in
theorem RX12_almanac {d N nc Ls : Nat} {Xs : Nat → Int32} (hd : 4 ≤ d) {h : iv_H} {s : iv_M} (hR : Rep nc Ls Xs h s) {q0 : Nat} (t0 : T12 nc q0) {m1 : Int32} {x1 : Int} (p1 : m1.toInt = x1) {m2 : Int32} {x2 : Int} (p2 : m2.toInt = x2) {m3 : Int32} {x3 : Int} (p3 : m3.toInt = x3) {r : Int × iv_M} {Q : Option Value → iv_H → Prop} (e : FX12_almanac N s q0 x1 x2 x3 = some r) (hq : ∀ (z : Int32) (h1 : iv_H), z.toInt = r.1 → Rep nc Ls Xs h1 r.2 → Q (some (.int z)) h1) : Cl d 314 [.ref q0, .int m1, .int m2, .int m3] h Q := by
  obtain ⟨d, rfl⟩ : ∃ k, d = k + 1 := ⟨d - 1, by omega⟩
  have hd : 3 ≤ d := by omega
  have hT := hX12_almanac
  unfold FX12_almanac at e
  refine Cl.into (by decide) gX12_almanac rfl ?_
  show Rn d 314 (some .int) 0 [some (.ref q0), some (.int m1), some (.int m2), some (.int m3), none] [] h Q
  refine Rn.n hT 2 (pc' := 2) (L' := [some (.ref q0), some (.int m1), some (.int m2), some (.int m3), none]) (st' := [.int (-1 : Int32), .int m1]) rfl ?_
  by_cases c_3969 : x1 = (-1)
  · rw [if_pos c_3969] at e
    refine Rn.bf hT rfl rfl rfl (decide_eq_false (fun z => z ((ti_e p1 L32_m1).mpr c_3969))) ?_
    refine Rn.n hT 1 (pc' := 6) (L' := [some (.ref q0), some (.int m1), some (.int m2), some (.int m3), none]) (st' := [.ref q0]) rfl ?_
    refine Rn.hp hT rfl rfl (gR_hp (rp_gR hR (T12_o t0) rfl)) ?_
    refine Rn.n hT 2 (pc' := 12) (L' := [some (.ref q0), some (.int m1), some (.int m2), some (.int m3), none]) (st' := [.int (0 : Int32), .int (8 : Int32), .ref (q0 + 1)]) rfl ?_
    obtain ⟨s_3985, e_3986, e⟩ := Option.bind_eq_some_iff.mp e
    obtain ⟨h_3985, g_3986, R_3985⟩ := rp_wI hR (T12_1 t0) (T12_1l t0) L32_8 L32_0 e_3986
    refine Rn.hp hT rfl rfl (wI_hp g_3986) ?_
    refine Rn.n hT 1 (pc' := 14) (L' := [some (.ref q0), some (.int m1), some (.int m2), some (.int m3), none]) (st' := [.int (0 : Int32)]) rfl ?_
    obtain rfl := Option.some.inj e
    exact Rn.ret hT rfl rfl rfl (hq (0 : Int32) h_3985 L32_0 R_3985)
  · rw [if_neg c_3969] at e
    refine Rn.bt hT rfl rfl rfl (decide_eq_true (fun z => c_3969 ((ti_e p1 L32_m1).mp z))) ?_
    refine Rn.n hT 1 (pc' := 16) (L' := [some (.ref q0), some (.int m1), some (.int m2), some (.int m3), none]) (st' := [.ref q0]) rfl ?_
    refine Rn.hp hT rfl rfl (gR_hp (rp_gR hR (T12_o t0) rfl)) ?_
    refine Rn.n hT 1 (pc' := 21) (L' := [some (.ref q0), some (.int m1), some (.int m2), some (.int m3), none]) (st' := [.int (8 : Int32), .ref (q0 + 1)]) rfl ?_
    obtain ⟨v_3970, e_3970, e⟩ := Option.bind_eq_some_iff.mp e
    obtain ⟨z_3970, g_3970, p_3970⟩ := rp_aI hR (T12_1 t0) (T12_1l t0) L32_8 e_3970
    refine Rn.hp hT rfl rfl (aI_hp g_3970) ?_
    refine Rn.n hT 5 (pc' := 28) (L' := [some (.ref q0), some (.int m1), some (.int m2), some (.int m3), some (.int z_3970)]) (st' := [.int m3, .int m2, .int m1, .ref q0]) rfl ?_
    obtain ⟨v_3971, e_3971, e⟩ := Option.bind_eq_some_iff.mp e
    refine Rn.call hT rfl rfl rfl (Nat.le_of_ble_eq_true rfl) (rcv_v gX12_isWalk (by omega) (rp_ck hR (T12_o t0))) (RX12_isWalk (by omega) hR t0 p1 p2 p3 e_3971 (fun z_3971 p_3971 => ?_))
    show Rn d _ _ 31 [some (.ref q0), some (.int m1), some (.int m2), some (.int m3), some (.int z_3970)] [.int z_3971] h Q
    by_cases c_3972 : v_3971 = 0
    · rw [if_pos c_3972] at e
      refine Rn.bt hT rfl rfl rfl (decide_eq_true ((ti_e p_3971 L32_0).mpr c_3972)) ?_
      exact Rn.weak (ll_n (ll_n (ll_n (ll_n (ll_n ll_e))))) (RX12_almanac_b41 hd hR hq e)
    · rw [if_neg c_3972] at e
      refine Rn.bf hT rfl rfl rfl (decide_eq_false (fun z => c_3972 ((ti_e p_3971 L32_0).mp z))) ?_
      refine Rn.n hT 2 (pc' := 38) (L' := [some (.ref q0), some (.int m1), some (.int m2), some (.int m3), some (.int z_3970)]) (st' := [.int (10 : Int32), .int z_3970]) rfl ?_
      by_cases c_3973 : v_3970 = 10
      · rw [if_pos c_3973] at e
        refine Rn.bf hT rfl rfl rfl (decide_eq_false (fun z => z ((ti_e p_3970 L32_10).mpr c_3973))) ?_
        exact Rn.weak (ll_n (ll_n (ll_n (ll_n (ll_n ll_e))))) (RX12_almanac_b41 hd hR hq e)
      · rw [if_neg c_3973] at e
        refine Rn.bt hT rfl rfl rfl (decide_eq_true (fun z => c_3973 ((ti_e p_3970 L32_10).mp z))) ?_
        refine Rn.n hT 1 (pc' := 45) (L' := [some (.ref q0), some (.int m1), some (.int m2), some (.int m3), some (.int z_3970)]) (st' := [.ref q0]) rfl ?_
        refine Rn.hp hT rfl rfl (gR_hp (rp_gR hR (T12_o t0) rfl)) ?_
        refine Rn.n hT 2 (pc' := 51) (L' := [some (.ref q0), some (.int m1), some (.int m2), some (.int m3), some (.int z_3970)]) (st' := [.int m1, .int z_3970, .ref (q0 + 11)]) rfl ?_
        obtain ⟨s_3974, e_3975, e⟩ := Option.bind_eq_some_iff.mp e
        obtain ⟨h_3974, g_3975, R_3974⟩ := rp_wI hR (T12_11 t0) (T12_11l t0) p_3970 p1 e_3975
        refine Rn.hp hT rfl rfl (wI_hp g_3975) ?_
        refine Rn.n hT 1 (pc' := 53) (L' := [some (.ref q0), some (.int m1), some (.int m2), some (.int m3), some (.int z_3970)]) (st' := [.ref q0]) rfl ?_
        refine Rn.hp hT rfl rfl (gR_hp (rp_gR R_3974 (T12_o t0) rfl)) ?_
        refine Rn.n hT 4 (pc' := 61) (L' := [some (.ref q0), some (.int m1), some (.int m2), some (.int m3), some (.int z_3970)]) (st' := [.int m3, .int m2, .int m1, .int z_3970, .ref (q0 + 12)]) rfl ?_
        obtain ⟨v_3976, e_3976, e⟩ := Option.bind_eq_some_iff.mp e
        refine Rn.call hT rfl rfl rfl (Nat.le_of_ble_eq_true rfl) rfl (RX12_least (by omega) R_3974 p1 p2 p3 e_3976 (fun z_3976 p_3976 => ?_))
        show Rn d _ _ 64 [some (.ref q0), some (.int m1), some (.int m2), some (.int m3), some (.int z_3970)] [.int z_3976, .int z_3970, .ref (q0 + 12)] h_3974 Q
        obtain ⟨s_3977, e_3978, e⟩ := Option.bind_eq_some_iff.mp e
        obtain ⟨h_3977, g_3978, R_3977⟩ := rp_wI R_3974 (T12_12 t0) (T12_12l t0) p_3970 p_3976 e_3978
        refine Rn.hp hT rfl rfl (wI_hp g_3978) ?_
        refine Rn.n hT 1 (pc' := 66) (L' := [some (.ref q0), some (.int m1), some (.int m2), some (.int m3), some (.int z_3970)]) (st' := [.ref q0]) rfl ?_
        refine Rn.hp hT rfl rfl (gR_hp (rp_gR R_3977 (T12_o t0) rfl)) ?_
        refine Rn.n hT 4 (pc' := 74) (L' := [some (.ref q0), some (.int m1), some (.int m2), some (.int m3), some (.int z_3970)]) (st' := [.int m3, .int m2, .int m1, .int z_3970, .ref (q0 + 13)]) rfl ?_
        obtain ⟨v_3979, e_3979, e⟩ := Option.bind_eq_some_iff.mp e
        refine Rn.call hT rfl rfl rfl (Nat.le_of_ble_eq_true rfl) rfl (RX12_greatest (by omega) R_3977 p1 p2 p3 e_3979 (fun z_3979 p_3979 => ?_))
        show Rn d _ _ 77 [some (.ref q0), some (.int m1), some (.int m2), some (.int m3), some (.int z_3970)] [.int z_3979, .int z_3970, .ref (q0 + 13)] h_3977 Q
        obtain ⟨s_3980, e_3981, e⟩ := Option.bind_eq_some_iff.mp e
        obtain ⟨h_3980, g_3981, R_3980⟩ := rp_wI R_3977 (T12_13 t0) (T12_13l t0) p_3970 p_3979 e_3981
        refine Rn.hp hT rfl rfl (wI_hp g_3981) ?_
        refine Rn.n hT 1 (pc' := 79) (L' := [some (.ref q0), some (.int m1), some (.int m2), some (.int m3), some (.int z_3970)]) (st' := [.ref q0]) rfl ?_
        refine Rn.hp hT rfl rfl (gR_hp (rp_gR R_3980 (T12_o t0) rfl)) ?_
        refine Rn.n hT 2 (pc' := 85) (L' := [some (.ref q0), some (.int m1), some (.int m2), some (.int m3), some (.int z_3970)]) (st' := [.int (8 : Int32), .ref (q0 + 1), .int (8 : Int32), .ref (q0 + 1)]) rfl ?_
        obtain ⟨v_3982, e_3982, e⟩ := Option.bind_eq_some_iff.mp e
        obtain ⟨z_3982, g_3982, p_3982⟩ := rp_aI R_3980 (T12_1 t0) (T12_1l t0) L32_8 e_3982
        refine Rn.hp hT rfl rfl (aI_hp g_3982) ?_
        refine Rn.n hT 2 (pc' := 88) (L' := [some (.ref q0), some (.int m1), some (.int m2), some (.int m3), some (.int z_3970)]) (st' := [.int (z_3982 + (1 : Int32)), .int (8 : Int32), .ref (q0 + 1)]) rfl ?_
        obtain ⟨s_3983, e_3984, e⟩ := Option.bind_eq_some_iff.mp e
        obtain ⟨h_3983, g_3984, R_3983⟩ := rp_wI R_3980 (T12_1 t0) (T12_1l t0) L32_8 (ti_add p_3982 L32_1) e_3984
        refine Rn.hp hT rfl rfl (wI_hp g_3984) ?_
        refine Rn.n hT 3 (pc' := 93) (L' := [some (.ref q0), some (.int m1), some (.int m2), some (.int m3), some (.int z_3970)]) (st' := [.int (z_3970 + (1 : Int32))]) rfl ?_
        obtain rfl := Option.some.inj e
        exact Rn.ret hT rfl rfl rfl (hq (z_3970 + (1 : Int32)) h_3983 (ti_add p_3970 L32_1) R_3983)
set_option maxRecDepth 10000 in
theorem hX12_comesDue : iv_Tb 315 tX12_comesDue := iv_tb_of (m := mX12_comesDue) rfl
set_option maxRecDepth 10000 in
theorem gX12_comesDue : PG.2 315 = some mX12_comesDue := iv_pi_of (t := tX12_comesDue) rfl (by decide)
def FX12_comesDue_b57 (N : Nat) (s : iv_M) (x2 : Int)  : Option (Int × iv_M) := (if x2 = 0 ∨ x2 = 1 then some (x2, s) else none)
set_option maxRecDepth 10000 in
set_option maxHeartbeats 4000000 in
theorem RX12_comesDue_b57 {d N nc Ls : Nat} {Xs : Nat → Int32} (hd : 7 ≤ d) {h : iv_H} {s : iv_M} (hR : Rep nc Ls Xs h s) {m2 : Int32} {x2 : Int} (p2 : m2.toInt = x2)  {r : Int × iv_M} {Q : Option Value → iv_H → Prop} (hq : ∀ (z : Int32) (h1 : iv_H), z.toInt = r.1 → Rep nc Ls Xs h1 r.2 → Q (some (.int z)) h1) (e : FX12_comesDue_b57 N s x2  = some r) : Rn d 315 (some .boolean) 57 [none, none, some (.int m2)] [] h Q := by
  have hT := hX12_comesDue
  unfold FX12_comesDue_b57 at e
  refine Rn.n hT 1 (pc' := 58) (L' := [none, none, some (.int m2)]) (st' := [.int m2]) rfl ?_
  by_cases c_3999 : x2 = 0 ∨ x2 = 1
  · rw [if_pos c_3999] at e
    obtain rfl := Option.some.inj e
    exact Rn.ret hT rfl rfl (if_pos (ti_b p2 c_3999)) (hq m2 h p2 hR)
  · rw [if_neg c_3999] at e
    cases e
def FX12_comesDue_b30 (N : Nat) (s : iv_M) (q0 : Nat) (x1 : Int) (xs0 : Int) : Option (Int × iv_M) := (if xs0 = 0 then (FX12_comesDue_b57 N s xs0) else ((rd s (q0 + 11) 10 x1).bind fun v_3994 => ((rd s (q0 + 12) 10 x1).bind fun v_3995 => ((rd s (q0 + 13) 10 x1).bind fun v_3996 => ((FX12_walks N s q0 v_3994 v_3995 v_3996).bind fun s_3998 => (FX12_comesDue_b57 N s_3998 xs0))))))
set_option maxRecDepth 10000 in
set_option maxHeartbeats 4000000 in
theorem RX12_comesDue_b30 {d N nc Ls : Nat} {Xs : Nat → Int32} (hd : 7 ≤ d) {h : iv_H} {s : iv_M} (hR : Rep nc Ls Xs h s) {q0 : Nat} (t0 : T12 nc q0) {m1 : Int32} {x1 : Int} (p1 : m1.toInt = x1) {ms0 : Int32} {xs0 : Int} (ps0 : ms0.toInt = xs0) {r : Int × iv_M} {Q : Option Value → iv_H → Prop} (hq : ∀ (z : Int32) (h1 : iv_H), z.toInt = r.1 → Rep nc Ls Xs h1 r.2 → Q (some (.int z)) h1) (e : FX12_comesDue_b30 N s q0 x1 xs0 = some r) : Rn d 315 (some .boolean) 30 [some (.ref q0), some (.int m1), none] [.int ms0] h Q := by
  have hT := hX12_comesDue
  unfold FX12_comesDue_b30 at e
  refine Rn.n hT 2 (pc' := 32) (L' := [some (.ref q0), some (.int m1), some (.int ms0)]) (st' := [.int ms0]) rfl ?_
  by_cases c_3993 : xs0 = 0
  · rw [if_pos c_3993] at e
    refine Rn.bt hT rfl rfl rfl (decide_eq_true ((ti_e ps0 L32_0).mpr c_3993)) ?_
    exact Rn.weak (ll_n (ll_n (ll_s ll_e))) (RX12_comesDue_b57 hd hR ps0 hq e)
  · rw [if_neg c_3993] at e
    refine Rn.bf hT rfl rfl rfl (decide_eq_false (fun z => c_3993 ((ti_e ps0 L32_0).mp z))) ?_
    refine Rn.n hT 2 (pc' := 37) (L' := [some (.ref q0), some (.int m1), some (.int ms0)]) (st' := [.ref q0, .ref q0]) rfl ?_
    refine Rn.hp hT rfl rfl (gR_hp (rp_gR hR (T12_o t0) rfl)) ?_
    refine Rn.n hT 1 (pc' := 41) (L' := [some (.ref q0), some (.int m1), some (.int ms0)]) (st' := [.int m1, .ref (q0 + 11), .ref q0]) rfl ?_
    obtain ⟨v_3994, e_3994, e⟩ := Option.bind_eq_some_iff.mp e
    obtain ⟨z_3994, g_3994, p_3994⟩ := rp_aI hR (T12_11 t0) (T12_11l t0) p1 e_3994
    refine Rn.hp hT rfl rfl (aI_hp g_3994) ?_
    refine Rn.n hT 1 (pc' := 43) (L' := [some (.ref q0), some (.int m1), some (.int ms0)]) (st' := [.ref q0, .int z_3994, .ref q0]) rfl ?_
    refine Rn.hp hT rfl rfl (gR_hp (rp_gR hR (T12_o t0) rfl)) ?_
    refine Rn.n hT 1 (pc' := 47) (L' := [some (.ref q0), some (.int m1), some (.int ms0)]) (st' := [.int m1, .ref (q0 + 12), .int z_3994, .ref q0]) rfl ?_
    obtain ⟨v_3995, e_3995, e⟩ := Option.bind_eq_some_iff.mp e
    obtain ⟨z_3995, g_3995, p_3995⟩ := rp_aI hR (T12_12 t0) (T12_12l t0) p1 e_3995
    refine Rn.hp hT rfl rfl (aI_hp g_3995) ?_
    refine Rn.n hT 1 (pc' := 49) (L' := [some (.ref q0), some (.int m1), some (.int ms0)]) (st' := [.ref q0, .int z_3995, .int z_3994, .ref q0]) rfl ?_
    refine Rn.hp hT rfl rfl (gR_hp (rp_gR hR (T12_o t0) rfl)) ?_
    refine Rn.n hT 1 (pc' := 53) (L' := [some (.ref q0), some (.int m1), some (.int ms0)]) (st' := [.int m1, .ref (q0 + 13), .int z_3995, .int z_3994, .ref q0]) rfl ?_
    obtain ⟨v_3996, e_3996, e⟩ := Option.bind_eq_some_iff.mp e
    obtain ⟨z_3996, g_3996, p_3996⟩ := rp_aI hR (T12_13 t0) (T12_13l t0) p1 e_3996
    refine Rn.hp hT rfl rfl (aI_hp g_3996) ?_
    obtain ⟨s_3998, e_3997, e⟩ := Option.bind_eq_some_iff.mp e
    refine Rn.call hT rfl rfl rfl (Nat.le_of_ble_eq_true rfl) (rcv_v gX12_walks (by omega) (rp_ck hR (T12_o t0))) (RX12_walks (by omega) hR t0 p_3994 p_3995 p_3996 e_3997 (fun h_3998 R_3998 => ?_))
    show Rn d _ _ 57 [some (.ref q0), some (.int m1), some (.int ms0)] [] h_3998 Q
    exact Rn.weak (ll_n (ll_n (ll_s ll_e))) (RX12_comesDue_b57 hd R_3998 ps0 hq e)
def FX12_comesDue (N : Nat) (s : iv_M) (q0 : Nat) (x1 : Int) : Option (Int × iv_M) := ((rd s (q0 + 11) 10 x1).bind fun v_3987 => ((rd s (q0 + 12) 10 x1).bind fun v_3988 => ((rd s (q0 + 13) 10 x1).bind fun v_3989 => ((FX12_lawOf N s q0 v_3987 v_3988 v_3989).bind fun r_3990 => (fun (v_3990 : Int) (s_3991 : iv_M) => (if v_3990 = 0 then (FX12_comesDue_b30 N s_3991 q0 x1 1) else (FX12_comesDue_b30 N s_3991 q0 x1 0))) r_3990.1 r_3990.2))))
set_option maxRecDepth 10000 in
set_option maxHeartbeats 4000000 in
theorem RX12_comesDue {d N nc Ls : Nat} {Xs : Nat → Int32} (hd : 8 ≤ d) {h : iv_H} {s : iv_M} (hR : Rep nc Ls Xs h s) {q0 : Nat} (t0 : T12 nc q0) {m1 : Int32} {x1 : Int} (p1 : m1.toInt = x1) {r : Int × iv_M} {Q : Option Value → iv_H → Prop} (e : FX12_comesDue N s q0 x1 = some r) (hq : ∀ (z : Int32) (h1 : iv_H), z.toInt = r.1 → Rep nc Ls Xs h1 r.2 → Q (some (.int z)) h1) : Cl d 315 [.ref q0, .int m1] h Q := by
  obtain ⟨d, rfl⟩ : ∃ k, d = k + 1 := ⟨d - 1, by omega⟩
  have hd : 7 ≤ d := by omega
  have hT := hX12_comesDue
  unfold FX12_comesDue at e
  refine Cl.into (by decide) gX12_comesDue rfl ?_
  show Rn d 315 (some .boolean) 0 [some (.ref q0), some (.int m1), none] [] h Q
  refine Rn.n hT 2 (pc' := 2) (L' := [some (.ref q0), some (.int m1), none]) (st' := [.ref q0, .ref q0]) rfl ?_
  refine Rn.hp hT rfl rfl (gR_hp (rp_gR hR (T12_o t0) rfl)) ?_
  refine Rn.n hT 1 (pc' := 6) (L' := [some (.ref q0), some (.int m1), none]) (st' := [.int m1, .ref (q0 + 11), .ref q0]) rfl ?_
  obtain ⟨v_3987, e_3987, e⟩ := Option.bind_eq_some_iff.mp e
  obtain ⟨z_3987, g_3987, p_3987⟩ := rp_aI hR (T12_11 t0) (T12_11l t0) p1 e_3987
  refine Rn.hp hT rfl rfl (aI_hp g_3987) ?_
  refine Rn.n hT 1 (pc' := 8) (L' := [some (.ref q0), some (.int m1), none]) (st' := [.ref q0, .int z_3987, .ref q0]) rfl ?_
  refine Rn.hp hT rfl rfl (gR_hp (rp_gR hR (T12_o t0) rfl)) ?_
  refine Rn.n hT 1 (pc' := 12) (L' := [some (.ref q0), some (.int m1), none]) (st' := [.int m1, .ref (q0 + 12), .int z_3987, .ref q0]) rfl ?_
  obtain ⟨v_3988, e_3988, e⟩ := Option.bind_eq_some_iff.mp e
  obtain ⟨z_3988, g_3988, p_3988⟩ := rp_aI hR (T12_12 t0) (T12_12l t0) p1 e_3988
  refine Rn.hp hT rfl rfl (aI_hp g_3988) ?_
  refine Rn.n hT 1 (pc' := 14) (L' := [some (.ref q0), some (.int m1), none]) (st' := [.ref q0, .int z_3988, .int z_3987, .ref q0]) rfl ?_
  refine Rn.hp hT rfl rfl (gR_hp (rp_gR hR (T12_o t0) rfl)) ?_
  refine Rn.n hT 1 (pc' := 18) (L' := [some (.ref q0), some (.int m1), none]) (st' := [.int m1, .ref (q0 + 13), .int z_3988, .int z_3987, .ref q0]) rfl ?_
  obtain ⟨v_3989, e_3989, e⟩ := Option.bind_eq_some_iff.mp e
  obtain ⟨z_3989, g_3989, p_3989⟩ := rp_aI hR (T12_13 t0) (T12_13l t0) p1 e_3989
  refine Rn.hp hT rfl rfl (aI_hp g_3989) ?_
  obtain ⟨⟨v_3990, s_3991⟩, e_3990, e⟩ := Option.bind_eq_some_iff.mp e
  try dsimp only at e
  try dsimp only at e
  refine Rn.call hT rfl rfl rfl (Nat.le_of_ble_eq_true rfl) (rcv_v gX12_lawOf (by omega) (rp_ck hR (T12_o t0))) (RX12_lawOf (by omega) hR t0 p_3987 p_3988 p_3989 e_3990 (fun z_3990 h_3991 p_3990 R_3991 => ?_))
  show Rn d _ _ 22 [some (.ref q0), some (.int m1), none] [.int z_3990] h_3991 Q
  by_cases c_3992 : v_3990 = 0
  · rw [if_pos c_3992] at e
    refine Rn.bf hT rfl rfl rfl (decide_eq_false (fun z => z ((ti_e p_3990 L32_0).mpr c_3992))) ?_
    refine Rn.n hT 2 (pc' := 30) (L' := [some (.ref q0), some (.int m1), none]) (st' := [.int (1 : Int32)]) rfl ?_
    exact Rn.weak (ll_s (ll_s (ll_n ll_e))) (RX12_comesDue_b30 hd R_3991 t0 p1 L32_1 hq e)
  · rw [if_neg c_3992] at e
    refine Rn.bt hT rfl rfl rfl (decide_eq_true (fun z => c_3992 ((ti_e p_3990 L32_0).mp z))) ?_
    refine Rn.n hT 1 (pc' := 30) (L' := [some (.ref q0), some (.int m1), none]) (st' := [.int (0 : Int32)]) rfl ?_
    exact Rn.weak (ll_s (ll_s (ll_n ll_e))) (RX12_comesDue_b30 hd R_3991 t0 p1 L32_0 hq e)
set_option maxRecDepth 10000 in
theorem hX12_followsSome : iv_Tb 316 tX12_followsSome := iv_tb_of (m := mX12_followsSome) rfl
set_option maxRecDepth 10000 in
theorem gX12_followsSome : PG.2 316 = some mX12_followsSome := iv_pi_of (t := tX12_followsSome) rfl (by decide)
def FX12_followsSome_l14 (N : Nat) (q0 : Nat) (x1 : Int) (x2 : Int) (kx : iv_M → Option (iv_M)) : Nat → iv_M → Int → Option (iv_M)
  | 0, _, _ => none
  | n + 1, s, x3 => (if 12 ≤ x3 then (kx s) else ((rd s (q0 + 3) 12 x3).bind fun v_4016 => ((wr s (q0 + 49) 132 (w32 ((w32 (12 * x2)) + x3)) v_4016).bind fun s_4017 => (FX12_followsSome_l14 N q0 x1 x2 kx n s_4017 (w32 (x3 + 1))))))
set_option maxRecDepth 10000 in
set_option maxHeartbeats 4000000 in
theorem RX12_followsSome_l14 {d N nc Ls : Nat} {Xs : Nat → Int32} (hd : 8 ≤ d) {q0 : Nat} (t0 : T12 nc q0) {m1 : Int32} {x1 : Int} (p1 : m1.toInt = x1) {m2 : Int32} {x2 : Int} (p2 : m2.toInt = x2) {kx : iv_M → Option (iv_M)} {r : iv_M} {Q : Option Value → iv_H → Prop} (hk : ∀ (h : iv_H) (s : iv_M) (hR : Rep nc Ls Xs h s), kx s = some r → Rn d 316 none 43 [some (.ref q0), some (.int m1), some (.int m2), none] [] h Q) (hq : ∀ h1, Rep nc Ls Xs h1 r → Q none h1) : ∀ (n : Nat) (h : iv_H) (s : iv_M) (hR : Rep nc Ls Xs h s) (m3 : Int32) (x3 : Int) (p3 : m3.toInt = x3), FX12_followsSome_l14 N q0 x1 x2 kx n s x3 = some r → Rn d 316 none 14 [some (.ref q0), some (.int m1), some (.int m2), some (.int m3)] [] h Q := by
  have hT := hX12_followsSome
  intro n
  induction n with
  | zero =>
    intro h s hR m3 x3 p3 e
    rw [FX12_followsSome_l14] at e
    cases e
  | succ n ih =>
    intro h s hR m3 x3 p3 e
    rw [FX12_followsSome_l14] at e
    refine Rn.n hT 2 (pc' := 17) (L' := [some (.ref q0), some (.int m1), some (.int m2), some (.int m3)]) (st' := [.int (12 : Int32), .int m3]) rfl ?_
    by_cases c_4015 : 12 ≤ x3
    · rw [if_pos c_4015] at e
      refine Rn.bt hT rfl rfl rfl (decide_eq_true ((ti_le L32_12 p3).mpr c_4015)) ?_
      exact Rn.weak (ll_s (ll_s (ll_s (ll_n ll_e)))) (hk h s hR e)
    · rw [if_neg c_4015] at e
      refine Rn.bf hT rfl rfl rfl (decide_eq_false (fun z => c_4015 ((ti_le L32_12 p3).mp z))) ?_
      refine Rn.n hT 1 (pc' := 21) (L' := [some (.ref q0), some (.int m1), some (.int m2), some (.int m3)]) (st' := [.ref q0]) rfl ?_
      refine Rn.hp hT rfl rfl (gR_hp (rp_gR hR (T12_o t0) rfl)) ?_
      refine Rn.n hT 6 (pc' := 31) (L' := [some (.ref q0), some (.int m1), some (.int m2), some (.int m3)]) (st' := [.ref q0, .int (((12 : Int32) * m2) + m3), .ref (q0 + 49)]) rfl ?_
      refine Rn.hp hT rfl rfl (gR_hp (rp_gR hR (T12_o t0) rfl)) ?_
      refine Rn.n hT 1 (pc' := 35) (L' := [some (.ref q0), some (.int m1), some (.int m2), some (.int m3)]) (st' := [.int m3, .ref (q0 + 3), .int (((12 : Int32) * m2) + m3), .ref (q0 + 49)]) rfl ?_
      obtain ⟨v_4016, e_4016, e⟩ := Option.bind_eq_some_iff.mp e
      obtain ⟨z_4016, g_4016, p_4016⟩ := rp_aI hR (T12_3 t0) (T12_3l t0) p3 e_4016
      refine Rn.hp hT rfl rfl (aI_hp g_4016) ?_
      obtain ⟨s_4017, e_4018, e⟩ := Option.bind_eq_some_iff.mp e
      obtain ⟨h_4017, g_4018, R_4017⟩ := rp_wI hR (T12_67 t0) (T12_67l t0) (ti_add (ti_mul L32_12 p2) p3) p_4016 e_4018
      refine Rn.hp hT rfl rfl (wI_hp g_4018) ?_
      refine Rn.n hT 2 (pc' := 14) (L' := [some (.ref q0), some (.int m1), some (.int m2), some (.int (m3 + (1 : Int32)))]) (st' := []) rfl ?_
      exact Rn.weak (ll_s (ll_s (ll_s (ll_s ll_e)))) (ih h_4017 s_4017 R_4017 (m3 + (1 : Int32)) (w32 (x3 + 1)) (ti_add p3 L32_1) e)
def FX12_followsSome_b81 (N : Nat) (s : iv_M) (q0 : Nat) (x1 : Int) (x2 : Int)  (kb : iv_M → Int → Option (iv_M)) (kx : iv_M → Option (iv_M)) : Option (iv_M) := (kb s (w32 (x2 + 1)))
set_option maxRecDepth 10000 in
set_option maxHeartbeats 4000000 in
theorem RX12_followsSome_b81 {d N nc Ls : Nat} {Xs : Nat → Int32} (hd : 8 ≤ d) {h : iv_H} {s : iv_M} (hR : Rep nc Ls Xs h s) {q0 : Nat} (t0 : T12 nc q0) {m1 : Int32} {x1 : Int} (p1 : m1.toInt = x1) {m2 : Int32} {x2 : Int} (p2 : m2.toInt = x2)  {kb : iv_M → Int → Option (iv_M)} {kx : iv_M → Option (iv_M)} {r : iv_M} {Q : Option Value → iv_H → Prop} (hb : ∀ (h : iv_H) (s : iv_M) (hR : Rep nc Ls Xs h s) (mw2 : Int32) (xw2 : Int) (pw2 : mw2.toInt = xw2), kb s xw2 = some r → Rn d 316 none 7 [some (.ref q0), some (.int m1), some (.int mw2), none] [] h Q) (hk : ∀ (h : iv_H) (s : iv_M) (hR : Rep nc Ls Xs h s), kx s = some r → Rn d 316 none 87 [some (.ref q0), some (.int m1), none, none] [] h Q) (hq : ∀ h1, Rep nc Ls Xs h1 r → Q none h1) (e : FX12_followsSome_b81 N s q0 x1 x2  kb kx = some r) : Rn d 316 none 81 [some (.ref q0), some (.int m1), some (.int m2), none] [] h Q := by
  have hT := hX12_followsSome
  unfold FX12_followsSome_b81 at e
  refine Rn.n hT 2 (pc' := 7) (L' := [some (.ref q0), some (.int m1), some (.int (m2 + (1 : Int32))), none]) (st' := []) rfl ?_
  exact Rn.weak (ll_s (ll_s (ll_s (ll_n ll_e)))) (hb h s hR (m2 + (1 : Int32)) (w32 (x2 + 1)) (ti_add p2 L32_1) e)
def FX12_followsSome_b66 (N : Nat) (s : iv_M) (q0 : Nat) (x1 : Int) (x2 : Int) (xs0 : Int) (xs1 : Int) (qs2 : Nat) (kb : iv_M → Int → Option (iv_M)) (kx : iv_M → Option (iv_M)) : Option (iv_M) := ((pt s qs2 68 (w32 (xs1 + xs0))).bind fun s_4019 => ((rd s_4019 (q0 + 1) 14 6).bind fun v_4021 => ((wr s_4019 (q0 + 1) 14 6 (w32 (v_4021 + 1))).bind fun s_4022 => (FX12_followsSome_b81 N s_4022 q0 x1 x2 kb kx))))
set_option maxRecDepth 10000 in
set_option maxHeartbeats 4000000 in
theorem RX12_followsSome_b66 {d N nc Ls : Nat} {Xs : Nat → Int32} (hd : 8 ≤ d) {h : iv_H} {s : iv_M} (hR : Rep nc Ls Xs h s) {q0 : Nat} (t0 : T12 nc q0) {m1 : Int32} {x1 : Int} (p1 : m1.toInt = x1) {m2 : Int32} {x2 : Int} (p2 : m2.toInt = x2) {ms0 : Int32} {xs0 : Int} (ps0 : ms0.toInt = xs0) {ms1 : Int32} {xs1 : Int} (ps1 : ms1.toInt = xs1) {qs2 : Nat} (ts2 : T12 nc qs2) {kb : iv_M → Int → Option (iv_M)} {kx : iv_M → Option (iv_M)} {r : iv_M} {Q : Option Value → iv_H → Prop} (hb : ∀ (h : iv_H) (s : iv_M) (hR : Rep nc Ls Xs h s) (mw2 : Int32) (xw2 : Int) (pw2 : mw2.toInt = xw2), kb s xw2 = some r → Rn d 316 none 7 [some (.ref q0), some (.int m1), some (.int mw2), none] [] h Q) (hk : ∀ (h : iv_H) (s : iv_M) (hR : Rep nc Ls Xs h s), kx s = some r → Rn d 316 none 87 [some (.ref q0), some (.int m1), none, none] [] h Q) (hq : ∀ h1, Rep nc Ls Xs h1 r → Q none h1) (e : FX12_followsSome_b66 N s q0 x1 x2 xs0 xs1 qs2 kb kx = some r) : Rn d 316 none 66 [some (.ref q0), some (.int m1), some (.int m2), none] [.int ms0, .int ms1, .ref qs2] h Q := by
  have hT := hX12_followsSome
  unfold FX12_followsSome_b66 at e
  refine Rn.n hT 1 (pc' := 67) (L' := [some (.ref q0), some (.int m1), some (.int m2), none]) (st' := [.int (ms1 + ms0), .ref qs2]) rfl ?_
  obtain ⟨s_4019, e_4020, e⟩ := Option.bind_eq_some_iff.mp e
  obtain ⟨h_4019, g_4020, R_4019⟩ := rp_pI (ci := 12) (k := 68) hR (T12_o ts2) rfl rfl (ti_add ps1 ps0) e_4020
  refine Rn.hp hT rfl rfl (pV_hp rfl g_4020) ?_
  refine Rn.n hT 1 (pc' := 71) (L' := [some (.ref q0), some (.int m1), some (.int m2), none]) (st' := [.ref q0]) rfl ?_
  refine Rn.hp hT rfl rfl (gR_hp (rp_gR R_4019 (T12_o t0) rfl)) ?_
  refine Rn.n hT 2 (pc' := 77) (L' := [some (.ref q0), some (.int m1), some (.int m2), none]) (st' := [.int (6 : Int32), .ref (q0 + 1), .int (6 : Int32), .ref (q0 + 1)]) rfl ?_
  obtain ⟨v_4021, e_4021, e⟩ := Option.bind_eq_some_iff.mp e
  obtain ⟨z_4021, g_4021, p_4021⟩ := rp_aI R_4019 (T12_1 t0) (T12_1l t0) L32_6 e_4021
  refine Rn.hp hT rfl rfl (aI_hp g_4021) ?_
  refine Rn.n hT 2 (pc' := 80) (L' := [some (.ref q0), some (.int m1), some (.int m2), none]) (st' := [.int (z_4021 + (1 : Int32)), .int (6 : Int32), .ref (q0 + 1)]) rfl ?_
  obtain ⟨s_4022, e_4023, e⟩ := Option.bind_eq_some_iff.mp e
  obtain ⟨h_4022, g_4023, R_4022⟩ := rp_wI R_4019 (T12_1 t0) (T12_1l t0) L32_6 (ti_add p_4021 L32_1) e_4023
  refine Rn.hp hT rfl rfl (wI_hp g_4023) ?_
  exact Rn.weak (ll_s (ll_s (ll_s (ll_n ll_e)))) (RX12_followsSome_b81 hd R_4022 t0 p1 p2 hb hk hq e)
def FX12_followsSome_l7 (N : Nat) (q0 : Nat) (x1 : Int) (kx : iv_M → Option (iv_M)) : Nat → iv_M → Int → Option (iv_M)
  | 0, _, _ => none
  | n + 1, s, x2 => (if x1 < x2 then (kx s) else (FX12_followsSome_l14 N q0 x1 x2 (fun (s_4008 : iv_M) => (if x1 ≤ x2 then (FX12_followsSome_b81 N s_4008 q0 x1 x2 (FX12_followsSome_l7 N q0 x1 kx n) kx) else ((FX12_comesDue N s_4008 q0 x2).bind fun r_4012 => (fun (v_4012 : Int) (s_4013 : iv_M) => (if v_4012 = 0 then (FX12_followsSome_b66 N s_4013 q0 x1 x2 1 (s_4008 q0 68) q0 (FX12_followsSome_l7 N q0 x1 kx n) kx) else (FX12_followsSome_b66 N s_4013 q0 x1 x2 0 (s_4008 q0 68) q0 (FX12_followsSome_l7 N q0 x1 kx n) kx))) r_4012.1 r_4012.2))) N s 0))
set_option maxRecDepth 10000 in
set_option maxHeartbeats 4000000 in
theorem RX12_followsSome_l7 {d N nc Ls : Nat} {Xs : Nat → Int32} (hd : 8 ≤ d) {q0 : Nat} (t0 : T12 nc q0) {m1 : Int32} {x1 : Int} (p1 : m1.toInt = x1) {kx : iv_M → Option (iv_M)} {r : iv_M} {Q : Option Value → iv_H → Prop} (hk : ∀ (h : iv_H) (s : iv_M) (hR : Rep nc Ls Xs h s), kx s = some r → Rn d 316 none 87 [some (.ref q0), some (.int m1), none, none] [] h Q) (hq : ∀ h1, Rep nc Ls Xs h1 r → Q none h1) : ∀ (n : Nat) (h : iv_H) (s : iv_M) (hR : Rep nc Ls Xs h s) (m2 : Int32) (x2 : Int) (p2 : m2.toInt = x2), FX12_followsSome_l7 N q0 x1 kx n s x2 = some r → Rn d 316 none 7 [some (.ref q0), some (.int m1), some (.int m2), none] [] h Q := by
  have hT := hX12_followsSome
  intro n
  induction n with
  | zero =>
    intro h s hR m2 x2 p2 e
    rw [FX12_followsSome_l7] at e
    cases e
  | succ n ih =>
    intro h s hR m2 x2 p2 e
    rw [FX12_followsSome_l7] at e
    refine Rn.n hT 2 (pc' := 9) (L' := [some (.ref q0), some (.int m1), some (.int m2), none]) (st' := [.int m1, .int m2]) rfl ?_
    by_cases c_4007 : x1 < x2
    · rw [if_pos c_4007] at e
      refine Rn.bt hT rfl rfl rfl (decide_eq_true ((ti_l p1 p2).mpr c_4007)) ?_
      exact Rn.weak (ll_s (ll_s (ll_n (ll_n ll_e)))) (hk h s hR e)
    · rw [if_neg c_4007] at e
      refine Rn.bf hT rfl rfl rfl (decide_eq_false (fun z => c_4007 ((ti_l p1 p2).mp z))) ?_
      refine Rn.n hT 2 (pc' := 14) (L' := [some (.ref q0), some (.int m1), some (.int m2), some (.int (0 : Int32))]) (st' := []) rfl ?_
      refine Rn.weak (ll_s (ll_s (ll_s (ll_s ll_e)))) (RX12_followsSome_l14 hd t0 p1 p2 (fun h_4008 s_4008 R_4008 e => ?_) hq N h s hR (0 : Int32) 0 L32_0 e)
      try dsimp only at e
      refine Rn.n hT 2 (pc' := 45) (L' := [some (.ref q0), some (.int m1), some (.int m2), none]) (st' := [.int m1, .int m2]) rfl ?_
      by_cases c_4010 : x1 ≤ x2
      · rw [if_pos c_4010] at e
        refine Rn.bt hT rfl rfl rfl (decide_eq_true ((ti_le p1 p2).mpr c_4010)) ?_
        exact Rn.weak (ll_s (ll_s (ll_s (ll_n ll_e)))) (RX12_followsSome_b81 hd R_4008 t0 p1 p2 ih hk hq e)
      · rw [if_neg c_4010] at e
        refine Rn.bf hT rfl rfl rfl (decide_eq_false (fun z => c_4010 ((ti_le p1 p2).mp z))) ?_
        refine Rn.n hT 2 (pc' := 50) (L' := [some (.ref q0), some (.int m1), some (.int m2), none]) (st' := [.ref q0, .ref q0]) rfl ?_
        obtain ⟨z_4011, g_4011, p_4011⟩ : ∃ z : Int32, gI h_4008 12 68 q0 = some z ∧ z.toInt = s_4008 q0 68 := rp_gI (k := 68) R_4008 (T12_o t0) rfl
        refine Rn.hp hT rfl rfl (gI_hp g_4011) ?_
        refine Rn.n hT 2 (pc' := 55) (L' := [some (.ref q0), some (.int m1), some (.int m2), none]) (st' := [.int m2, .ref q0, .int z_4011, .ref q0]) rfl ?_
        obtain ⟨⟨v_4012, s_4013⟩, e_4012, e⟩ := Option.bind_eq_some_iff.mp e
        try dsimp only at e
        try dsimp only at e
        refine Rn.call hT rfl rfl rfl (Nat.le_of_ble_eq_true rfl) (rcv_v gX12_comesDue (by omega) (rp_ck R_4008 (T12_o t0))) (RX12_comesDue (by omega) R_4008 t0 p2 e_4012 (fun z_4012 h_4013 p_4012 R_4013 => ?_))
        show Rn d _ _ 58 [some (.ref q0), some (.int m1), some (.int m2), none] [.int z_4012, .int z_4011, .ref q0] h_4013 Q
        by_cases c_4014 : v_4012 = 0
        · rw [if_pos c_4014] at e
          refine Rn.bt hT rfl rfl rfl (decide_eq_true ((ti_e p_4012 L32_0).mpr c_4014)) ?_
          refine Rn.n hT 1 (pc' := 66) (L' := [some (.ref q0), some (.int m1), some (.int m2), none]) (st' := [.int (1 : Int32), .int z_4011, .ref q0]) rfl ?_
          exact Rn.weak (ll_s (ll_s (ll_s (ll_n ll_e)))) (RX12_followsSome_b66 hd R_4013 t0 p1 p2 L32_1 p_4011 t0 ih hk hq e)
        · rw [if_neg c_4014] at e
          refine Rn.bf hT rfl rfl rfl (decide_eq_false (fun z => c_4014 ((ti_e p_4012 L32_0).mp z))) ?_
          refine Rn.n hT 2 (pc' := 66) (L' := [some (.ref q0), some (.int m1), some (.int m2), none]) (st' := [.int (0 : Int32), .int z_4011, .ref q0]) rfl ?_
          exact Rn.weak (ll_s (ll_s (ll_s (ll_n ll_e)))) (RX12_followsSome_b66 hd R_4013 t0 p1 p2 L32_0 p_4011 t0 ih hk hq e)
def FX12_followsSome (N : Nat) (s : iv_M) (q0 : Nat) (x1 : Int) : Option (iv_M) := ((pt s q0 68 0).bind fun s_4000 => (FX12_followsSome_l7 N q0 x1 (fun (s_4002 : iv_M) => ((rd s_4002 (q0 + 1) 14 6).bind fun v_4004 => ((wr s_4002 (q0 + 1) 14 6 (w32 (v_4004 - x1))).bind fun s_4005 => some s_4005))) N s_4000 0))
set_option maxRecDepth 10000 in
set_option maxHeartbeats 4000000 in
theorem RX12_followsSome {d N nc Ls : Nat} {Xs : Nat → Int32} (hd : 9 ≤ d) {h : iv_H} {s : iv_M} (hR : Rep nc Ls Xs h s) {q0 : Nat} (t0 : T12 nc q0) {m1 : Int32} {x1 : Int} (p1 : m1.toInt = x1) {r : iv_M} {Q : Option Value → iv_H → Prop} (e : FX12_followsSome N s q0 x1 = some r) (hq : ∀ h1, Rep nc Ls Xs h1 r → Q none h1) : Cl d 316 [.ref q0, .int m1] h Q := by
  obtain ⟨d, rfl⟩ : ∃ k, d = k + 1 := ⟨d - 1, by omega⟩
  have hd : 8 ≤ d := by omega
  have hT := hX12_followsSome
  unfold FX12_followsSome at e
  refine Cl.into (by decide) gX12_followsSome rfl ?_
  show Rn d 316 none 0 [some (.ref q0), some (.int m1), none, none] [] h Q
  refine Rn.n hT 2 (pc' := 2) (L' := [some (.ref q0), some (.int m1), none, none]) (st' := [.int (0 : Int32), .ref q0]) rfl ?_
  obtain ⟨s_4000, e_4001, e⟩ := Option.bind_eq_some_iff.mp e
  obtain ⟨h_4000, g_4001, R_4000⟩ := rp_pI (ci := 12) (k := 68) hR (T12_o t0) rfl rfl L32_0 e_4001
  refine Rn.hp hT rfl rfl (pV_hp rfl g_4001) ?_
  refine Rn.n hT 2 (pc' := 7) (L' := [some (.ref q0), some (.int m1), some (.int (0 : Int32)), none]) (st' := []) rfl ?_
  refine Rn.weak (ll_s (ll_s (ll_s (ll_n ll_e)))) (RX12_followsSome_l7 hd t0 p1 (fun h_4002 s_4002 R_4002 e => ?_) hq N h_4000 s_4000 R_4000 (0 : Int32) 0 L32_0 e)
  try dsimp only at e
  refine Rn.n hT 1 (pc' := 88) (L' := [some (.ref q0), some (.int m1), none, none]) (st' := [.ref q0]) rfl ?_
  refine Rn.hp hT rfl rfl (gR_hp (rp_gR R_4002 (T12_o t0) rfl)) ?_
  refine Rn.n hT 2 (pc' := 94) (L' := [some (.ref q0), some (.int m1), none, none]) (st' := [.int (6 : Int32), .ref (q0 + 1), .int (6 : Int32), .ref (q0 + 1)]) rfl ?_
  obtain ⟨v_4004, e_4004, e⟩ := Option.bind_eq_some_iff.mp e
  obtain ⟨z_4004, g_4004, p_4004⟩ := rp_aI R_4002 (T12_1 t0) (T12_1l t0) L32_6 e_4004
  refine Rn.hp hT rfl rfl (aI_hp g_4004) ?_
  refine Rn.n hT 2 (pc' := 97) (L' := [some (.ref q0), some (.int m1), none, none]) (st' := [.int (z_4004 - m1), .int (6 : Int32), .ref (q0 + 1)]) rfl ?_
  obtain ⟨s_4005, e_4006, e⟩ := Option.bind_eq_some_iff.mp e
  obtain ⟨h_4005, g_4006, R_4005⟩ := rp_wI R_4002 (T12_1 t0) (T12_1l t0) L32_6 (ti_sub p_4004 p1) e_4006
  refine Rn.hp hT rfl rfl (wI_hp g_4006) ?_
  obtain rfl := Option.some.inj e
  exact Rn.ret hT rfl rfl rfl (hq h_4005 R_4005)
set_option maxRecDepth 10000 in
theorem hX12_would : iv_Tb 317 tX12_would := iv_tb_of (m := mX12_would) rfl
set_option maxRecDepth 10000 in
theorem gX12_would : PG.2 317 = some mX12_would := iv_pi_of (t := tX12_would) rfl (by decide)
def FX12_would_b37 (N : Nat) (s : iv_M)   : Option (Int × iv_M) := (some ((-1), s))
set_option maxRecDepth 10000 in
set_option maxHeartbeats 4000000 in
theorem RX12_would_b37 {d N nc Ls : Nat} {Xs : Nat → Int32} (hd : 9 ≤ d) {h : iv_H} {s : iv_M} (hR : Rep nc Ls Xs h s)   {r : Int × iv_M} {Q : Option Value → iv_H → Prop} (hq : ∀ (z : Int32) (h1 : iv_H), z.toInt = r.1 → Rep nc Ls Xs h1 r.2 → Q (some (.int z)) h1) (e : FX12_would_b37 N s   = some r) : Rn d 317 (some .int) 37 [none, none, none, none, none] [] h Q := by
  have hT := hX12_would
  unfold FX12_would_b37 at e
  refine Rn.n hT 1 (pc' := 38) (L' := [none, none, none, none, none]) (st' := [.int (-1 : Int32)]) rfl ?_
  obtain rfl := Option.some.inj e
  exact Rn.ret hT rfl rfl rfl (hq (-1 : Int32) h L32_m1 hR)
def FX12_would_b84 (N : Nat) (s : iv_M) (q0 : Nat) (xs0 : Int) : Option (Int × iv_M) := ((FX12_laysFloor N s q0 (q0 + 41) 0).bind fun s_4041 => (some (xs0, s_4041)))
set_option maxRecDepth 10000 in
set_option maxHeartbeats 4000000 in
theorem RX12_would_b84 {d N nc Ls : Nat} {Xs : Nat → Int32} (hd : 9 ≤ d) {h : iv_H} {s : iv_M} (hR : Rep nc Ls Xs h s) {q0 : Nat} (t0 : T12 nc q0) {ms0 : Int32} {xs0 : Int} (ps0 : ms0.toInt = xs0) {r : Int × iv_M} {Q : Option Value → iv_H → Prop} (hq : ∀ (z : Int32) (h1 : iv_H), z.toInt = r.1 → Rep nc Ls Xs h1 r.2 → Q (some (.int z)) h1) (e : FX12_would_b84 N s q0 xs0 = some r) : Rn d 317 (some .int) 84 [some (.ref q0), none, none, none, none] [.int ms0] h Q := by
  have hT := hX12_would
  unfold FX12_would_b84 at e
  refine Rn.n hT 3 (pc' := 88) (L' := [some (.ref q0), none, none, none, some (.int ms0)]) (st' := [.ref q0, .ref q0]) rfl ?_
  refine Rn.hp hT rfl rfl (gR_hp (rp_gR hR (T12_o t0) rfl)) ?_
  refine Rn.n hT 1 (pc' := 92) (L' := [some (.ref q0), none, none, none, some (.int ms0)]) (st' := [.int (0 : Int32), .ref (q0 + 41), .ref q0]) rfl ?_
  obtain ⟨s_4041, e_4040, e⟩ := Option.bind_eq_some_iff.mp e
  refine Rn.call hT rfl rfl rfl (Nat.le_of_ble_eq_true rfl) (rcv_v gX12_laysFloor (by omega) (rp_ck hR (T12_o t0))) (RX12_laysFloor (by omega) hR t0 (T12_55 t0) L32_0 e_4040 (fun h_4041 R_4041 => ?_))
  show Rn d _ _ 95 [some (.ref q0), none, none, none, some (.int ms0)] [] h_4041 Q
  refine Rn.n hT 1 (pc' := 97) (L' := [some (.ref q0), none, none, none, some (.int ms0)]) (st' := [.int ms0]) rfl ?_
  obtain rfl := Option.some.inj e
  exact Rn.ret hT rfl rfl rfl (hq ms0 h_4041 ps0 R_4041)
def FX12_would (N : Nat) (s : iv_M) (q0 : Nat) (x1 : Int) (x2 : Int) (x3 : Int) : Option (Int × iv_M) := ((FX12_isRoom N s q0 x1).bind fun v_4024 => (if v_4024 = 0 then (FX12_would_b37 N s) else ((rd s (q0 + 1) 14 8).bind fun v_4026 => ((FX12_in N s x2 0 v_4026).bind fun v_4027 => (if v_4027 = 0 then (FX12_would_b37 N s) else ((FX12_in N s x3 0 2).bind fun v_4029 => (if v_4029 = 0 then (FX12_would_b37 N s) else ((FX12_fillsFloor N s q0 (q0 + 41) 0).bind fun s_4032 => ((FX12_followsSome N s_4032 q0 x2).bind fun s_4034 => (if x3 = 0 then ((rd s_4034 (q0 + 3) 12 x1).bind fun v_4039 => (FX12_would_b84 N s_4034 q0 v_4039)) else (if x3 = 1 then ((rd s_4034 (q0 + 4) 12 x1).bind fun v_4038 => (FX12_would_b84 N s_4034 q0 v_4038)) else (FX12_would_b84 N s_4034 q0 (s_4034 q0 68)))))))))))))
set_option maxRecDepth 10000 in
set_option maxHeartbeats 4000000 in
theorem RX12_would {d N nc Ls : Nat} {Xs : Nat → Int32} (hd : 10 ≤ d) {h : iv_H} {s : iv_M} (hR : Rep nc Ls Xs h s) {q0 : Nat} (t0 : T12 nc q0) {m1 : Int32} {x1 : Int} (p1 : m1.toInt = x1) {m2 : Int32} {x2 : Int} (p2 : m2.toInt = x2) {m3 : Int32} {x3 : Int} (p3 : m3.toInt = x3) {r : Int × iv_M} {Q : Option Value → iv_H → Prop} (e : FX12_would N s q0 x1 x2 x3 = some r) (hq : ∀ (z : Int32) (h1 : iv_H), z.toInt = r.1 → Rep nc Ls Xs h1 r.2 → Q (some (.int z)) h1) : Cl d 317 [.ref q0, .int m1, .int m2, .int m3] h Q := by
  obtain ⟨d, rfl⟩ : ∃ k, d = k + 1 := ⟨d - 1, by omega⟩
  have hd : 9 ≤ d := by omega
  have hT := hX12_would
  unfold FX12_would at e
  refine Cl.into (by decide) gX12_would rfl ?_
  show Rn d 317 (some .int) 0 [some (.ref q0), some (.int m1), some (.int m2), some (.int m3), none] [] h Q
  refine Rn.n hT 2 (pc' := 2) (L' := [some (.ref q0), some (.int m1), some (.int m2), some (.int m3), none]) (st' := [.int m1, .ref q0]) rfl ?_
  obtain ⟨v_4024, e_4024, e⟩ := Option.bind_eq_some_iff.mp e
  refine Rn.call hT rfl rfl rfl (Nat.le_of_ble_eq_true rfl) (rcv_v gX12_isRoom (by omega) (rp_ck hR (T12_o t0))) (RX12_isRoom (by omega) hR t0 p1 e_4024 (fun z_4024 p_4024 => ?_))
  show Rn d _ _ 5 [some (.ref q0), some (.int m1), some (.int m2), some (.int m3), none] [.int z_4024] h Q
  by_cases c_4025 : v_4024 = 0
  · rw [if_pos c_4025] at e
    refine Rn.bt hT rfl rfl rfl (decide_eq_true ((ti_e p_4024 L32_0).mpr c_4025)) ?_
    exact Rn.weak (ll_n (ll_n (ll_n (ll_n (ll_n ll_e))))) (RX12_would_b37 hd hR hq e)
  · rw [if_neg c_4025] at e
    refine Rn.bf hT rfl rfl rfl (decide_eq_false (fun z => c_4025 ((ti_e p_4024 L32_0).mp z))) ?_
    refine Rn.n hT 4 (pc' := 12) (L' := [some (.ref q0), some (.int m1), some (.int m2), some (.int m3), none]) (st' := [.ref q0, .long (0 : Int64), .long ((m2).toInt64)]) rfl ?_
    refine Rn.hp hT rfl rfl (gR_hp (rp_gR hR (T12_o t0) rfl)) ?_
    refine Rn.n hT 1 (pc' := 17) (L' := [some (.ref q0), some (.int m1), some (.int m2), some (.int m3), none]) (st' := [.int (8 : Int32), .ref (q0 + 1), .long (0 : Int64), .long ((m2).toInt64)]) rfl ?_
    obtain ⟨v_4026, e_4026, e⟩ := Option.bind_eq_some_iff.mp e
    obtain ⟨z_4026, g_4026, p_4026⟩ := rp_aI hR (T12_1 t0) (T12_1l t0) L32_8 e_4026
    refine Rn.hp hT rfl rfl (aI_hp g_4026) ?_
    refine Rn.n hT 1 (pc' := 19) (L' := [some (.ref q0), some (.int m1), some (.int m2), some (.int m3), none]) (st' := [.long ((z_4026).toInt64), .long (0 : Int64), .long ((m2).toInt64)]) rfl ?_
    obtain ⟨v_4027, e_4027, e⟩ := Option.bind_eq_some_iff.mp e
    refine Rn.call hT rfl rfl rfl (Nat.le_of_ble_eq_true rfl) rfl (RX12_in (by omega) hR (ti_j p2) L64_0 (ti_j p_4026) e_4027 (fun z_4027 p_4027 => ?_))
    show Rn d _ _ 22 [some (.ref q0), some (.int m1), some (.int m2), some (.int m3), none] [.int z_4027] h Q
    by_cases c_4028 : v_4027 = 0
    · rw [if_pos c_4028] at e
      refine Rn.bt hT rfl rfl rfl (decide_eq_true ((ti_e p_4027 L32_0).mpr c_4028)) ?_
      exact Rn.weak (ll_n (ll_n (ll_n (ll_n (ll_n ll_e))))) (RX12_would_b37 hd hR hq e)
    · rw [if_neg c_4028] at e
      refine Rn.bf hT rfl rfl rfl (decide_eq_false (fun z => c_4028 ((ti_e p_4027 L32_0).mp z))) ?_
      refine Rn.n hT 4 (pc' := 31) (L' := [some (.ref q0), some (.int m1), some (.int m2), some (.int m3), none]) (st' := [.long (2 : Int64), .long (0 : Int64), .long ((m3).toInt64)]) rfl ?_
      obtain ⟨v_4029, e_4029, e⟩ := Option.bind_eq_some_iff.mp e
      refine Rn.call hT rfl rfl rfl (Nat.le_of_ble_eq_true rfl) rfl (RX12_in (by omega) hR (ti_j p3) L64_0 L64_2 e_4029 (fun z_4029 p_4029 => ?_))
      show Rn d _ _ 34 [some (.ref q0), some (.int m1), some (.int m2), some (.int m3), none] [.int z_4029] h Q
      by_cases c_4030 : v_4029 = 0
      · rw [if_pos c_4030] at e
        refine Rn.bf hT rfl rfl rfl (decide_eq_false (fun z => z ((ti_e p_4029 L32_0).mpr c_4030))) ?_
        exact Rn.weak (ll_n (ll_n (ll_n (ll_n (ll_n ll_e))))) (RX12_would_b37 hd hR hq e)
      · rw [if_neg c_4030] at e
        refine Rn.bt hT rfl rfl rfl (decide_eq_true (fun z => c_4030 ((ti_e p_4029 L32_0).mp z))) ?_
        refine Rn.n hT 2 (pc' := 41) (L' := [some (.ref q0), some (.int m1), some (.int m2), some (.int m3), none]) (st' := [.ref q0, .ref q0]) rfl ?_
        refine Rn.hp hT rfl rfl (gR_hp (rp_gR hR (T12_o t0) rfl)) ?_
        refine Rn.n hT 1 (pc' := 45) (L' := [some (.ref q0), some (.int m1), some (.int m2), some (.int m3), none]) (st' := [.int (0 : Int32), .ref (q0 + 41), .ref q0]) rfl ?_
        obtain ⟨s_4032, e_4031, e⟩ := Option.bind_eq_some_iff.mp e
        refine Rn.call hT rfl rfl rfl (Nat.le_of_ble_eq_true rfl) (rcv_v gX12_fillsFloor (by omega) (rp_ck hR (T12_o t0))) (RX12_fillsFloor (by omega) hR t0 (T12_55 t0) L32_0 e_4031 (fun h_4032 R_4032 => ?_))
        show Rn d _ _ 48 [some (.ref q0), some (.int m1), some (.int m2), some (.int m3), none] [] h_4032 Q
        refine Rn.n hT 2 (pc' := 50) (L' := [some (.ref q0), some (.int m1), some (.int m2), some (.int m3), none]) (st' := [.int m2, .ref q0]) rfl ?_
        obtain ⟨s_4034, e_4033, e⟩ := Option.bind_eq_some_iff.mp e
        refine Rn.call hT rfl rfl rfl (Nat.le_of_ble_eq_true rfl) (rcv_v gX12_followsSome (by omega) (rp_ck R_4032 (T12_o t0))) (RX12_followsSome (by omega) R_4032 t0 p2 e_4033 (fun h_4034 R_4034 => ?_))
        show Rn d _ _ 53 [some (.ref q0), some (.int m1), some (.int m2), some (.int m3), none] [] h_4034 Q
        refine Rn.n hT 1 (pc' := 54) (L' := [some (.ref q0), some (.int m1), some (.int m2), some (.int m3), none]) (st' := [.int m3]) rfl ?_
        by_cases c_4035 : x3 = 0
        · rw [if_pos c_4035] at e
          refine Rn.bf hT rfl rfl rfl (decide_eq_false (fun z => z ((ti_e p3 L32_0).mpr c_4035))) ?_
          refine Rn.n hT 1 (pc' := 58) (L' := [some (.ref q0), some (.int m1), some (.int m2), some (.int m3), none]) (st' := [.ref q0]) rfl ?_
          refine Rn.hp hT rfl rfl (gR_hp (rp_gR R_4034 (T12_o t0) rfl)) ?_
          refine Rn.n hT 1 (pc' := 62) (L' := [some (.ref q0), some (.int m1), some (.int m2), some (.int m3), none]) (st' := [.int m1, .ref (q0 + 3)]) rfl ?_
          obtain ⟨v_4039, e_4039, e⟩ := Option.bind_eq_some_iff.mp e
          obtain ⟨z_4039, g_4039, p_4039⟩ := rp_aI R_4034 (T12_3 t0) (T12_3l t0) p1 e_4039
          refine Rn.hp hT rfl rfl (aI_hp g_4039) ?_
          refine Rn.n hT 1 (pc' := 84) (L' := [some (.ref q0), some (.int m1), some (.int m2), some (.int m3), none]) (st' := [.int z_4039]) rfl ?_
          exact Rn.weak (ll_s (ll_n (ll_n (ll_n (ll_n ll_e))))) (RX12_would_b84 hd R_4034 t0 p_4039 hq e)
        · rw [if_neg c_4035] at e
          refine Rn.bt hT rfl rfl rfl (decide_eq_true (fun z => c_4035 ((ti_e p3 L32_0).mp z))) ?_
          refine Rn.n hT 2 (pc' := 68) (L' := [some (.ref q0), some (.int m1), some (.int m2), some (.int m3), none]) (st' := [.int (1 : Int32), .int m3]) rfl ?_
          by_cases c_4036 : x3 = 1
          · rw [if_pos c_4036] at e
            refine Rn.bf hT rfl rfl rfl (decide_eq_false (fun z => z ((ti_e p3 L32_1).mpr c_4036))) ?_
            refine Rn.n hT 1 (pc' := 72) (L' := [some (.ref q0), some (.int m1), some (.int m2), some (.int m3), none]) (st' := [.ref q0]) rfl ?_
            refine Rn.hp hT rfl rfl (gR_hp (rp_gR R_4034 (T12_o t0) rfl)) ?_
            refine Rn.n hT 1 (pc' := 76) (L' := [some (.ref q0), some (.int m1), some (.int m2), some (.int m3), none]) (st' := [.int m1, .ref (q0 + 4)]) rfl ?_
            obtain ⟨v_4038, e_4038, e⟩ := Option.bind_eq_some_iff.mp e
            obtain ⟨z_4038, g_4038, p_4038⟩ := rp_aI R_4034 (T12_4 t0) (T12_4l t0) p1 e_4038
            refine Rn.hp hT rfl rfl (aI_hp g_4038) ?_
            refine Rn.n hT 1 (pc' := 84) (L' := [some (.ref q0), some (.int m1), some (.int m2), some (.int m3), none]) (st' := [.int z_4038]) rfl ?_
            exact Rn.weak (ll_s (ll_n (ll_n (ll_n (ll_n ll_e))))) (RX12_would_b84 hd R_4034 t0 p_4038 hq e)
          · rw [if_neg c_4036] at e
            refine Rn.bt hT rfl rfl rfl (decide_eq_true (fun z => c_4036 ((ti_e p3 L32_1).mp z))) ?_
            refine Rn.n hT 1 (pc' := 81) (L' := [some (.ref q0), some (.int m1), some (.int m2), some (.int m3), none]) (st' := [.ref q0]) rfl ?_
            obtain ⟨z_4037, g_4037, p_4037⟩ : ∃ z : Int32, gI h_4034 12 68 q0 = some z ∧ z.toInt = s_4034 q0 68 := rp_gI (k := 68) R_4034 (T12_o t0) rfl
            refine Rn.hp hT rfl rfl (gI_hp g_4037) ?_
            exact Rn.weak (ll_s (ll_n (ll_n (ll_n (ll_n ll_e))))) (RX12_would_b84 hd R_4034 t0 p_4037 hq e)
set_option maxRecDepth 10000 in
theorem hX12_follow : iv_Tb 318 tX12_follow := iv_tb_of (m := mX12_follow) rfl
set_option maxRecDepth 10000 in
theorem gX12_follow : PG.2 318 = some mX12_follow := iv_pi_of (t := tX12_follow) rfl (by decide)
def FX12_follow_b95 (N : Nat) (s : iv_M) (q0 : Nat) (x2 : Int) (xs0 : Int) (xs1 : Int) (kb : iv_M → Int → Int → Option (Int × iv_M)) (kx : iv_M → Int → Option (Int × iv_M)) : Option (Int × iv_M) := (kb s (w32 (xs1 + xs0)) (w32 (x2 + 1)))
set_option maxRecDepth 10000 in
set_option maxHeartbeats 4000000 in
theorem RX12_follow_b95 {d N nc Ls : Nat} {Xs : Nat → Int32} (hd : 7 ≤ d) {h : iv_H} {s : iv_M} (hR : Rep nc Ls Xs h s) {q0 : Nat} (t0 : T12 nc q0) {m2 : Int32} {x2 : Int} (p2 : m2.toInt = x2) {ms0 : Int32} {xs0 : Int} (ps0 : ms0.toInt = xs0) {ms1 : Int32} {xs1 : Int} (ps1 : ms1.toInt = xs1) {kb : iv_M → Int → Int → Option (Int × iv_M)} {kx : iv_M → Int → Option (Int × iv_M)} {r : Int × iv_M} {Q : Option Value → iv_H → Prop} (hb : ∀ (h : iv_H) (s : iv_M) (hR : Rep nc Ls Xs h s) (mw1 : Int32) (xw1 : Int) (pw1 : mw1.toInt = xw1) (mw2 : Int32) (xw2 : Int) (pw2 : mw2.toInt = xw2), kb s xw1 xw2 = some r → Rn d 318 (some .int) 13 [some (.ref q0), some (.int mw1), some (.int mw2), none] [] h Q) (hk : ∀ (h : iv_H) (s : iv_M) (hR : Rep nc Ls Xs h s) (mw1 : Int32) (xw1 : Int) (pw1 : mw1.toInt = xw1), kx s xw1 = some r → Rn d 318 (some .int) 103 [some (.ref q0), some (.int mw1), none, none] [] h Q) (hq : ∀ (z : Int32) (h1 : iv_H), z.toInt = r.1 → Rep nc Ls Xs h1 r.2 → Q (some (.int z)) h1) (e : FX12_follow_b95 N s q0 x2 xs0 xs1 kb kx = some r) : Rn d 318 (some .int) 95 [some (.ref q0), none, some (.int m2), none] [.int ms0, .int ms1] h Q := by
  have hT := hX12_follow
  unfold FX12_follow_b95 at e
  refine Rn.n hT 4 (pc' := 13) (L' := [some (.ref q0), some (.int (ms1 + ms0)), some (.int (m2 + (1 : Int32))), none]) (st' := []) rfl ?_
  exact Rn.weak (ll_s (ll_s (ll_s (ll_n ll_e)))) (hb h s hR (ms1 + ms0) (w32 (xs1 + xs0)) (ti_add ps1 ps0) (m2 + (1 : Int32)) (w32 (x2 + 1)) (ti_add p2 L32_1) e)
def FX12_follow_b85 (N : Nat) (s : iv_M) (q0 : Nat) (x1 : Int) (x2 : Int) (x3 : Int)  (kb : iv_M → Int → Int → Option (Int × iv_M)) (kx : iv_M → Int → Option (Int × iv_M)) : Option (Int × iv_M) := (if x3 = 0 then (FX12_follow_b95 N s q0 x2 1 x1 kb kx) else (FX12_follow_b95 N s q0 x2 0 x1 kb kx))
set_option maxRecDepth 10000 in
set_option maxHeartbeats 4000000 in
theorem RX12_follow_b85 {d N nc Ls : Nat} {Xs : Nat → Int32} (hd : 7 ≤ d) {h : iv_H} {s : iv_M} (hR : Rep nc Ls Xs h s) {q0 : Nat} (t0 : T12 nc q0) {m1 : Int32} {x1 : Int} (p1 : m1.toInt = x1) {m2 : Int32} {x2 : Int} (p2 : m2.toInt = x2) {m3 : Int32} {x3 : Int} (p3 : m3.toInt = x3)  {kb : iv_M → Int → Int → Option (Int × iv_M)} {kx : iv_M → Int → Option (Int × iv_M)} {r : Int × iv_M} {Q : Option Value → iv_H → Prop} (hb : ∀ (h : iv_H) (s : iv_M) (hR : Rep nc Ls Xs h s) (mw1 : Int32) (xw1 : Int) (pw1 : mw1.toInt = xw1) (mw2 : Int32) (xw2 : Int) (pw2 : mw2.toInt = xw2), kb s xw1 xw2 = some r → Rn d 318 (some .int) 13 [some (.ref q0), some (.int mw1), some (.int mw2), none] [] h Q) (hk : ∀ (h : iv_H) (s : iv_M) (hR : Rep nc Ls Xs h s) (mw1 : Int32) (xw1 : Int) (pw1 : mw1.toInt = xw1), kx s xw1 = some r → Rn d 318 (some .int) 103 [some (.ref q0), some (.int mw1), none, none] [] h Q) (hq : ∀ (z : Int32) (h1 : iv_H), z.toInt = r.1 → Rep nc Ls Xs h1 r.2 → Q (some (.int z)) h1) (e : FX12_follow_b85 N s q0 x1 x2 x3  kb kx = some r) : Rn d 318 (some .int) 85 [some (.ref q0), some (.int m1), some (.int m2), some (.int m3)] [] h Q := by
  have hT := hX12_follow
  unfold FX12_follow_b85 at e
  refine Rn.n hT 2 (pc' := 87) (L' := [some (.ref q0), some (.int m1), some (.int m2), some (.int m3)]) (st' := [.int m3, .int m1]) rfl ?_
  by_cases c_4064 : x3 = 0
  · rw [if_pos c_4064] at e
    refine Rn.bt hT rfl rfl rfl (decide_eq_true ((ti_e p3 L32_0).mpr c_4064)) ?_
    refine Rn.n hT 1 (pc' := 95) (L' := [some (.ref q0), some (.int m1), some (.int m2), some (.int m3)]) (st' := [.int (1 : Int32), .int m1]) rfl ?_
    exact Rn.weak (ll_s (ll_n (ll_s (ll_n ll_e)))) (RX12_follow_b95 hd hR t0 p2 L32_1 p1 hb hk hq e)
  · rw [if_neg c_4064] at e
    refine Rn.bf hT rfl rfl rfl (decide_eq_false (fun z => c_4064 ((ti_e p3 L32_0).mp z))) ?_
    refine Rn.n hT 2 (pc' := 95) (L' := [some (.ref q0), some (.int m1), some (.int m2), some (.int m3)]) (st' := [.int (0 : Int32), .int m1]) rfl ?_
    exact Rn.weak (ll_s (ll_n (ll_s (ll_n ll_e)))) (RX12_follow_b95 hd hR t0 p2 L32_0 p1 hb hk hq e)
def FX12_follow_b54 (N : Nat) (s : iv_M) (q0 : Nat) (x1 : Int) (x2 : Int) (xs0 : Int) (kb : iv_M → Int → Int → Option (Int × iv_M)) (kx : iv_M → Int → Option (Int × iv_M)) : Option (Int × iv_M) := ((FX12_keepsNight N s q0).bind fun s_4057 => (if xs0 = 0 then (FX12_follow_b85 N s_4057 q0 x1 x2 xs0 kb kx) else ((rd s_4057 (q0 + 11) 10 x2).bind fun v_4059 => ((rd s_4057 (q0 + 12) 10 x2).bind fun v_4060 => ((rd s_4057 (q0 + 13) 10 x2).bind fun v_4061 => ((FX12_walks N s_4057 q0 v_4059 v_4060 v_4061).bind fun s_4063 => (FX12_follow_b85 N s_4063 q0 x1 x2 xs0 kb kx)))))))
set_option maxRecDepth 10000 in
set_option maxHeartbeats 4000000 in
theorem RX12_follow_b54 {d N nc Ls : Nat} {Xs : Nat → Int32} (hd : 7 ≤ d) {h : iv_H} {s : iv_M} (hR : Rep nc Ls Xs h s) {q0 : Nat} (t0 : T12 nc q0) {m1 : Int32} {x1 : Int} (p1 : m1.toInt = x1) {m2 : Int32} {x2 : Int} (p2 : m2.toInt = x2) {ms0 : Int32} {xs0 : Int} (ps0 : ms0.toInt = xs0) {kb : iv_M → Int → Int → Option (Int × iv_M)} {kx : iv_M → Int → Option (Int × iv_M)} {r : Int × iv_M} {Q : Option Value → iv_H → Prop} (hb : ∀ (h : iv_H) (s : iv_M) (hR : Rep nc Ls Xs h s) (mw1 : Int32) (xw1 : Int) (pw1 : mw1.toInt = xw1) (mw2 : Int32) (xw2 : Int) (pw2 : mw2.toInt = xw2), kb s xw1 xw2 = some r → Rn d 318 (some .int) 13 [some (.ref q0), some (.int mw1), some (.int mw2), none] [] h Q) (hk : ∀ (h : iv_H) (s : iv_M) (hR : Rep nc Ls Xs h s) (mw1 : Int32) (xw1 : Int) (pw1 : mw1.toInt = xw1), kx s xw1 = some r → Rn d 318 (some .int) 103 [some (.ref q0), some (.int mw1), none, none] [] h Q) (hq : ∀ (z : Int32) (h1 : iv_H), z.toInt = r.1 → Rep nc Ls Xs h1 r.2 → Q (some (.int z)) h1) (e : FX12_follow_b54 N s q0 x1 x2 xs0 kb kx = some r) : Rn d 318 (some .int) 54 [some (.ref q0), some (.int m1), some (.int m2), none] [.int ms0] h Q := by
  have hT := hX12_follow
  unfold FX12_follow_b54 at e
  refine Rn.n hT 2 (pc' := 56) (L' := [some (.ref q0), some (.int m1), some (.int m2), some (.int ms0)]) (st' := [.ref q0]) rfl ?_
  obtain ⟨s_4057, e_4056, e⟩ := Option.bind_eq_some_iff.mp e
  refine Rn.call hT rfl rfl rfl (Nat.le_of_ble_eq_true rfl) (rcv_v gX12_keepsNight (by omega) (rp_ck hR (T12_o t0))) (RX12_keepsNight (by omega) hR t0 e_4056 (fun h_4057 R_4057 => ?_))
  show Rn d _ _ 59 [some (.ref q0), some (.int m1), some (.int m2), some (.int ms0)] [] h_4057 Q
  refine Rn.n hT 1 (pc' := 60) (L' := [some (.ref q0), some (.int m1), some (.int m2), some (.int ms0)]) (st' := [.int ms0]) rfl ?_
  by_cases c_4058 : xs0 = 0
  · rw [if_pos c_4058] at e
    refine Rn.bt hT rfl rfl rfl (decide_eq_true ((ti_e ps0 L32_0).mpr c_4058)) ?_
    exact Rn.weak (ll_s (ll_s (ll_s (ll_s ll_e)))) (RX12_follow_b85 hd R_4057 t0 p1 p2 ps0 hb hk hq e)
  · rw [if_neg c_4058] at e
    refine Rn.bf hT rfl rfl rfl (decide_eq_false (fun z => c_4058 ((ti_e ps0 L32_0).mp z))) ?_
    refine Rn.n hT 2 (pc' := 65) (L' := [some (.ref q0), some (.int m1), some (.int m2), some (.int ms0)]) (st' := [.ref q0, .ref q0]) rfl ?_
    refine Rn.hp hT rfl rfl (gR_hp (rp_gR R_4057 (T12_o t0) rfl)) ?_
    refine Rn.n hT 1 (pc' := 69) (L' := [some (.ref q0), some (.int m1), some (.int m2), some (.int ms0)]) (st' := [.int m2, .ref (q0 + 11), .ref q0]) rfl ?_
    obtain ⟨v_4059, e_4059, e⟩ := Option.bind_eq_some_iff.mp e
    obtain ⟨z_4059, g_4059, p_4059⟩ := rp_aI R_4057 (T12_11 t0) (T12_11l t0) p2 e_4059
    refine Rn.hp hT rfl rfl (aI_hp g_4059) ?_
    refine Rn.n hT 1 (pc' := 71) (L' := [some (.ref q0), some (.int m1), some (.int m2), some (.int ms0)]) (st' := [.ref q0, .int z_4059, .ref q0]) rfl ?_
    refine Rn.hp hT rfl rfl (gR_hp (rp_gR R_4057 (T12_o t0) rfl)) ?_
    refine Rn.n hT 1 (pc' := 75) (L' := [some (.ref q0), some (.int m1), some (.int m2), some (.int ms0)]) (st' := [.int m2, .ref (q0 + 12), .int z_4059, .ref q0]) rfl ?_
    obtain ⟨v_4060, e_4060, e⟩ := Option.bind_eq_some_iff.mp e
    obtain ⟨z_4060, g_4060, p_4060⟩ := rp_aI R_4057 (T12_12 t0) (T12_12l t0) p2 e_4060
    refine Rn.hp hT rfl rfl (aI_hp g_4060) ?_
    refine Rn.n hT 1 (pc' := 77) (L' := [some (.ref q0), some (.int m1), some (.int m2), some (.int ms0)]) (st' := [.ref q0, .int z_4060, .int z_4059, .ref q0]) rfl ?_
    refine Rn.hp hT rfl rfl (gR_hp (rp_gR R_4057 (T12_o t0) rfl)) ?_
    refine Rn.n hT 1 (pc' := 81) (L' := [some (.ref q0), some (.int m1), some (.int m2), some (.int ms0)]) (st' := [.int m2, .ref (q0 + 13), .int z_4060, .int z_4059, .ref q0]) rfl ?_
    obtain ⟨v_4061, e_4061, e⟩ := Option.bind_eq_some_iff.mp e
    obtain ⟨z_4061, g_4061, p_4061⟩ := rp_aI R_4057 (T12_13 t0) (T12_13l t0) p2 e_4061
    refine Rn.hp hT rfl rfl (aI_hp g_4061) ?_
    obtain ⟨s_4063, e_4062, e⟩ := Option.bind_eq_some_iff.mp e
    refine Rn.call hT rfl rfl rfl (Nat.le_of_ble_eq_true rfl) (rcv_v gX12_walks (by omega) (rp_ck R_4057 (T12_o t0))) (RX12_walks (by omega) R_4057 t0 p_4059 p_4060 p_4061 e_4062 (fun h_4063 R_4063 => ?_))
    show Rn d _ _ 85 [some (.ref q0), some (.int m1), some (.int m2), some (.int ms0)] [] h_4063 Q
    exact Rn.weak (ll_s (ll_s (ll_s (ll_s ll_e)))) (RX12_follow_b85 hd R_4063 t0 p1 p2 ps0 hb hk hq e)
def FX12_follow_l13 (N : Nat) (q0 : Nat) (kx : iv_M → Int → Option (Int × iv_M)) : Nat → iv_M → Int → Int → Option (Int × iv_M)
  | 0, _, _, _ => none
  | n + 1, s, x1, x2 => ((rd s (q0 + 1) 14 8).bind fun v_4048 => (if v_4048 ≤ x2 then (kx s x1) else ((rd s (q0 + 11) 10 x2).bind fun v_4050 => ((rd s (q0 + 12) 10 x2).bind fun v_4051 => ((rd s (q0 + 13) 10 x2).bind fun v_4052 => ((FX12_lawOf N s q0 v_4050 v_4051 v_4052).bind fun r_4053 => (fun (v_4053 : Int) (s_4054 : iv_M) => (if v_4053 = 0 then (FX12_follow_b54 N s_4054 q0 x1 x2 1 (FX12_follow_l13 N q0 kx n) kx) else (FX12_follow_b54 N s_4054 q0 x1 x2 0 (FX12_follow_l13 N q0 kx n) kx))) r_4053.1 r_4053.2))))))
set_option maxRecDepth 10000 in
set_option maxHeartbeats 4000000 in
theorem RX12_follow_l13 {d N nc Ls : Nat} {Xs : Nat → Int32} (hd : 7 ≤ d) {q0 : Nat} (t0 : T12 nc q0) {kx : iv_M → Int → Option (Int × iv_M)} {r : Int × iv_M} {Q : Option Value → iv_H → Prop} (hk : ∀ (h : iv_H) (s : iv_M) (hR : Rep nc Ls Xs h s) (m1 : Int32) (x1 : Int) (p1 : m1.toInt = x1), kx s x1 = some r → Rn d 318 (some .int) 103 [some (.ref q0), some (.int m1), none, none] [] h Q) (hq : ∀ (z : Int32) (h1 : iv_H), z.toInt = r.1 → Rep nc Ls Xs h1 r.2 → Q (some (.int z)) h1) : ∀ (n : Nat) (h : iv_H) (s : iv_M) (hR : Rep nc Ls Xs h s) (m1 : Int32) (x1 : Int) (p1 : m1.toInt = x1) (m2 : Int32) (x2 : Int) (p2 : m2.toInt = x2), FX12_follow_l13 N q0 kx n s x1 x2 = some r → Rn d 318 (some .int) 13 [some (.ref q0), some (.int m1), some (.int m2), none] [] h Q := by
  have hT := hX12_follow
  intro n
  induction n with
  | zero =>
    intro h s hR m1 x1 p1 m2 x2 p2 e
    rw [FX12_follow_l13] at e
    cases e
  | succ n ih =>
    intro h s hR m1 x1 p1 m2 x2 p2 e
    rw [FX12_follow_l13] at e
    refine Rn.n hT 2 (pc' := 15) (L' := [some (.ref q0), some (.int m1), some (.int m2), none]) (st' := [.ref q0, .int m2]) rfl ?_
    refine Rn.hp hT rfl rfl (gR_hp (rp_gR hR (T12_o t0) rfl)) ?_
    refine Rn.n hT 1 (pc' := 20) (L' := [some (.ref q0), some (.int m1), some (.int m2), none]) (st' := [.int (8 : Int32), .ref (q0 + 1), .int m2]) rfl ?_
    obtain ⟨v_4048, e_4048, e⟩ := Option.bind_eq_some_iff.mp e
    obtain ⟨z_4048, g_4048, p_4048⟩ := rp_aI hR (T12_1 t0) (T12_1l t0) L32_8 e_4048
    refine Rn.hp hT rfl rfl (aI_hp g_4048) ?_
    by_cases c_4049 : v_4048 ≤ x2
    · rw [if_pos c_4049] at e
      refine Rn.bt hT rfl rfl rfl (decide_eq_true ((ti_le p_4048 p2).mpr c_4049)) ?_
      exact Rn.weak (ll_s (ll_s (ll_n (ll_n ll_e)))) (hk h s hR m1 x1 p1 e)
    · rw [if_neg c_4049] at e
      refine Rn.bf hT rfl rfl rfl (decide_eq_false (fun z => c_4049 ((ti_le p_4048 p2).mp z))) ?_
      refine Rn.n hT 2 (pc' := 26) (L' := [some (.ref q0), some (.int m1), some (.int m2), none]) (st' := [.ref q0, .ref q0]) rfl ?_
      refine Rn.hp hT rfl rfl (gR_hp (rp_gR hR (T12_o t0) rfl)) ?_
      refine Rn.n hT 1 (pc' := 30) (L' := [some (.ref q0), some (.int m1), some (.int m2), none]) (st' := [.int m2, .ref (q0 + 11), .ref q0]) rfl ?_
      obtain ⟨v_4050, e_4050, e⟩ := Option.bind_eq_some_iff.mp e
      obtain ⟨z_4050, g_4050, p_4050⟩ := rp_aI hR (T12_11 t0) (T12_11l t0) p2 e_4050
      refine Rn.hp hT rfl rfl (aI_hp g_4050) ?_
      refine Rn.n hT 1 (pc' := 32) (L' := [some (.ref q0), some (.int m1), some (.int m2), none]) (st' := [.ref q0, .int z_4050, .ref q0]) rfl ?_
      refine Rn.hp hT rfl rfl (gR_hp (rp_gR hR (T12_o t0) rfl)) ?_
      refine Rn.n hT 1 (pc' := 36) (L' := [some (.ref q0), some (.int m1), some (.int m2), none]) (st' := [.int m2, .ref (q0 + 12), .int z_4050, .ref q0]) rfl ?_
      obtain ⟨v_4051, e_4051, e⟩ := Option.bind_eq_some_iff.mp e
      obtain ⟨z_4051, g_4051, p_4051⟩ := rp_aI hR (T12_12 t0) (T12_12l t0) p2 e_4051
      refine Rn.hp hT rfl rfl (aI_hp g_4051) ?_
      refine Rn.n hT 1 (pc' := 38) (L' := [some (.ref q0), some (.int m1), some (.int m2), none]) (st' := [.ref q0, .int z_4051, .int z_4050, .ref q0]) rfl ?_
      refine Rn.hp hT rfl rfl (gR_hp (rp_gR hR (T12_o t0) rfl)) ?_
      refine Rn.n hT 1 (pc' := 42) (L' := [some (.ref q0), some (.int m1), some (.int m2), none]) (st' := [.int m2, .ref (q0 + 13), .int z_4051, .int z_4050, .ref q0]) rfl ?_
      obtain ⟨v_4052, e_4052, e⟩ := Option.bind_eq_some_iff.mp e
      obtain ⟨z_4052, g_4052, p_4052⟩ := rp_aI hR (T12_13 t0) (T12_13l t0) p2 e_4052
      refine Rn.hp hT rfl rfl (aI_hp g_4052) ?_
      obtain ⟨⟨v_4053, s_4054⟩, e_4053, e⟩ := Option.bind_eq_some_iff.mp e
      try dsimp only at e
      try dsimp only at e
      refine Rn.call hT rfl rfl rfl (Nat.le_of_ble_eq_true rfl) (rcv_v gX12_lawOf (by omega) (rp_ck hR (T12_o t0))) (RX12_lawOf (by omega) hR t0 p_4050 p_4051 p_4052 e_4053 (fun z_4053 h_4054 p_4053 R_4054 => ?_))
      show Rn d _ _ 46 [some (.ref q0), some (.int m1), some (.int m2), none] [.int z_4053] h_4054 Q
      by_cases c_4055 : v_4053 = 0
      · rw [if_pos c_4055] at e
        refine Rn.bf hT rfl rfl rfl (decide_eq_false (fun z => z ((ti_e p_4053 L32_0).mpr c_4055))) ?_
        refine Rn.n hT 2 (pc' := 54) (L' := [some (.ref q0), some (.int m1), some (.int m2), none]) (st' := [.int (1 : Int32)]) rfl ?_
        exact Rn.weak (ll_s (ll_s (ll_s (ll_n ll_e)))) (RX12_follow_b54 hd R_4054 t0 p1 p2 L32_1 ih hk hq e)
      · rw [if_neg c_4055] at e
        refine Rn.bt hT rfl rfl rfl (decide_eq_true (fun z => c_4055 ((ti_e p_4053 L32_0).mp z))) ?_
        refine Rn.n hT 1 (pc' := 54) (L' := [some (.ref q0), some (.int m1), some (.int m2), none]) (st' := [.int (0 : Int32)]) rfl ?_
        exact Rn.weak (ll_s (ll_s (ll_s (ll_n ll_e)))) (RX12_follow_b54 hd R_4054 t0 p1 p2 L32_0 ih hk hq e)
def FX12_follow (N : Nat) (s : iv_M) (q0 : Nat) : Option (Int × iv_M) := ((FX12_isPalace N s q0).bind fun v_4042 => (if v_4042 = 0 then (some ((-1), s)) else (FX12_follow_l13 N q0 (fun (s_4044 : iv_M) (x4045_1 : Int) => ((wr s_4044 (q0 + 1) 14 8 0).bind fun s_4046 => (some (x4045_1, s_4046)))) N s 0 0)))
set_option maxRecDepth 10000 in
set_option maxHeartbeats 4000000 in
theorem RX12_follow {d N nc Ls : Nat} {Xs : Nat → Int32} (hd : 8 ≤ d) {h : iv_H} {s : iv_M} (hR : Rep nc Ls Xs h s) {q0 : Nat} (t0 : T12 nc q0) {r : Int × iv_M} {Q : Option Value → iv_H → Prop} (e : FX12_follow N s q0 = some r) (hq : ∀ (z : Int32) (h1 : iv_H), z.toInt = r.1 → Rep nc Ls Xs h1 r.2 → Q (some (.int z)) h1) : Cl d 318 [.ref q0] h Q := by
  obtain ⟨d, rfl⟩ : ∃ k, d = k + 1 := ⟨d - 1, by omega⟩
  have hd : 7 ≤ d := by omega
  have hT := hX12_follow
  unfold FX12_follow at e
  refine Cl.into (by decide) gX12_follow rfl ?_
  show Rn d 318 (some .int) 0 [some (.ref q0), none, none, none] [] h Q
  refine Rn.n hT 1 (pc' := 1) (L' := [some (.ref q0), none, none, none]) (st' := [.ref q0]) rfl ?_
  obtain ⟨v_4042, e_4042, e⟩ := Option.bind_eq_some_iff.mp e
  refine Rn.call hT rfl rfl rfl (Nat.le_of_ble_eq_true rfl) (rcv_v gX12_isPalace (by omega) (rp_ck hR (T12_o t0))) (RX12_isPalace (by omega) hR t0 e_4042 (fun z_4042 p_4042 => ?_))
  show Rn d _ _ 4 [some (.ref q0), none, none, none] [.int z_4042] h Q
  by_cases c_4043 : v_4042 = 0
  · rw [if_pos c_4043] at e
    refine Rn.bf hT rfl rfl rfl (decide_eq_false (fun z => z ((ti_e p_4042 L32_0).mpr c_4043))) ?_
    refine Rn.n hT 1 (pc' := 8) (L' := [some (.ref q0), none, none, none]) (st' := [.int (-1 : Int32)]) rfl ?_
    obtain rfl := Option.some.inj e
    exact Rn.ret hT rfl rfl rfl (hq (-1 : Int32) h L32_m1 hR)
  · rw [if_neg c_4043] at e
    refine Rn.bt hT rfl rfl rfl (decide_eq_true (fun z => c_4043 ((ti_e p_4042 L32_0).mp z))) ?_
    refine Rn.n hT 4 (pc' := 13) (L' := [some (.ref q0), some (.int (0 : Int32)), some (.int (0 : Int32)), none]) (st' := []) rfl ?_
    refine Rn.weak (ll_s (ll_s (ll_s (ll_n ll_e)))) (RX12_follow_l13 hd t0 (fun h_4044 s_4044 R_4044 m4045_1 x4045_1 p4045_1 e => ?_) hq N h s hR (0 : Int32) 0 L32_0 (0 : Int32) 0 L32_0 e)
    try dsimp only at e
    refine Rn.n hT 1 (pc' := 104) (L' := [some (.ref q0), some (.int m4045_1), none, none]) (st' := [.ref q0]) rfl ?_
    refine Rn.hp hT rfl rfl (gR_hp (rp_gR R_4044 (T12_o t0) rfl)) ?_
    refine Rn.n hT 2 (pc' := 110) (L' := [some (.ref q0), some (.int m4045_1), none, none]) (st' := [.int (0 : Int32), .int (8 : Int32), .ref (q0 + 1)]) rfl ?_
    obtain ⟨s_4046, e_4047, e⟩ := Option.bind_eq_some_iff.mp e
    obtain ⟨h_4046, g_4047, R_4046⟩ := rp_wI R_4044 (T12_1 t0) (T12_1l t0) L32_8 L32_0 e_4047
    refine Rn.hp hT rfl rfl (wI_hp g_4047) ?_
    refine Rn.n hT 1 (pc' := 112) (L' := [some (.ref q0), some (.int m4045_1), none, none]) (st' := [.int m4045_1]) rfl ?_
    obtain rfl := Option.some.inj e
    exact Rn.ret hT rfl rfl rfl (hq m4045_1 h_4046 p4045_1 R_4046)
set_option maxRecDepth 10000 in
theorem hX12_wish : iv_Tb 319 tX12_wish := iv_tb_of (m := mX12_wish) rfl
set_option maxRecDepth 10000 in
theorem gX12_wish : PG.2 319 = some mX12_wish := iv_pi_of (t := tX12_wish) rfl (by decide)
def FX12_wish_b61 (N : Nat) (s : iv_M)   : Option (Int × iv_M) := (some ((-2), s))
set_option maxRecDepth 10000 in
set_option maxHeartbeats 4000000 in
theorem RX12_wish_b61 {d N nc Ls : Nat} {Xs : Nat → Int32} (hd : 2 ≤ d) {h : iv_H} {s : iv_M} (hR : Rep nc Ls Xs h s)   {r : Int × iv_M} {Q : Option Value → iv_H → Prop} (hq : ∀ (z : Int32) (h1 : iv_H), z.toInt = r.1 → Rep nc Ls Xs h1 r.2 → Q (some (.int z)) h1) (e : FX12_wish_b61 N s   = some r) : Rn d 319 (some .int) 61 [none, none, none, none, none, none] [] h Q := by
  have hT := hX12_wish
  unfold FX12_wish_b61 at e
  refine Rn.n hT 1 (pc' := 63) (L' := [none, none, none, none, none, none]) (st' := [.int (-2 : Int32)]) rfl ?_
  obtain rfl := Option.some.inj e
  exact Rn.ret hT rfl rfl rfl (hq (-2 : Int32) h L32_m2 hR)
def FX12_wish (N : Nat) (s : iv_M) (q0 : Nat) (x1 : Int) (x2 : Int) (x3 : Int) (x4 : Int) : Option (Int × iv_M) := (if x1 = (-1) then ((wr s (q0 + 1) 14 9 0).bind fun s_4083 => (some (0, s_4083))) else ((rd s (q0 + 1) 14 9).bind fun v_4066 => ((FX12_isPerson N s q0 x1).bind fun v_4067 => (if v_4067 = 0 then (FX12_wish_b61 N s) else ((FX12_in N s x2 0 10).bind fun v_4069 => (if v_4069 = 0 then (FX12_wish_b61 N s) else ((FX12_isCell N s q0 x3 x4).bind fun v_4071 => (if v_4071 = 0 then (FX12_wish_b61 N s) else (if v_4066 = 12 then (FX12_wish_b61 N s) else ((wr s (q0 + 14) 12 v_4066 x1).bind fun s_4074 => ((wr s_4074 (q0 + 15) 12 v_4066 x2).bind fun s_4076 => ((wr s_4076 (q0 + 16) 12 v_4066 (w32 ((w32 (4 * x4)) + x3))).bind fun s_4078 => ((rd s_4078 (q0 + 1) 14 9).bind fun v_4080 => ((wr s_4078 (q0 + 1) 14 9 (w32 (v_4080 + 1))).bind fun s_4081 => (some ((w32 (v_4066 + 1)), s_4081))))))))))))))))
set_option maxRecDepth 10000 in
set_option maxHeartbeats 4000000 in
theorem RX12_wish {d N nc Ls : Nat} {Xs : Nat → Int32} (hd : 3 ≤ d) {h : iv_H} {s : iv_M} (hR : Rep nc Ls Xs h s) {q0 : Nat} (t0 : T12 nc q0) {m1 : Int32} {x1 : Int} (p1 : m1.toInt = x1) {m2 : Int32} {x2 : Int} (p2 : m2.toInt = x2) {m3 : Int32} {x3 : Int} (p3 : m3.toInt = x3) {m4 : Int32} {x4 : Int} (p4 : m4.toInt = x4) {r : Int × iv_M} {Q : Option Value → iv_H → Prop} (e : FX12_wish N s q0 x1 x2 x3 x4 = some r) (hq : ∀ (z : Int32) (h1 : iv_H), z.toInt = r.1 → Rep nc Ls Xs h1 r.2 → Q (some (.int z)) h1) : Cl d 319 [.ref q0, .int m1, .int m2, .int m3, .int m4] h Q := by
  obtain ⟨d, rfl⟩ : ∃ k, d = k + 1 := ⟨d - 1, by omega⟩
  have hd : 2 ≤ d := by omega
  have hT := hX12_wish
  unfold FX12_wish at e
  refine Cl.into (by decide) gX12_wish rfl ?_
  show Rn d 319 (some .int) 0 [some (.ref q0), some (.int m1), some (.int m2), some (.int m3), some (.int m4), none] [] h Q
  refine Rn.n hT 2 (pc' := 2) (L' := [some (.ref q0), some (.int m1), some (.int m2), some (.int m3), some (.int m4), none]) (st' := [.int (-1 : Int32), .int m1]) rfl ?_
  by_cases c_4065 : x1 = (-1)
  · rw [if_pos c_4065] at e
    refine Rn.bf hT rfl rfl rfl (decide_eq_false (fun z => z ((ti_e p1 L32_m1).mpr c_4065))) ?_
    refine Rn.n hT 1 (pc' := 6) (L' := [some (.ref q0), some (.int m1), some (.int m2), some (.int m3), some (.int m4), none]) (st' := [.ref q0]) rfl ?_
    refine Rn.hp hT rfl rfl (gR_hp (rp_gR hR (T12_o t0) rfl)) ?_
    refine Rn.n hT 2 (pc' := 12) (L' := [some (.ref q0), some (.int m1), some (.int m2), some (.int m3), some (.int m4), none]) (st' := [.int (0 : Int32), .int (9 : Int32), .ref (q0 + 1)]) rfl ?_
    obtain ⟨s_4083, e_4084, e⟩ := Option.bind_eq_some_iff.mp e
    obtain ⟨h_4083, g_4084, R_4083⟩ := rp_wI hR (T12_1 t0) (T12_1l t0) L32_9 L32_0 e_4084
    refine Rn.hp hT rfl rfl (wI_hp g_4084) ?_
    refine Rn.n hT 1 (pc' := 14) (L' := [some (.ref q0), some (.int m1), some (.int m2), some (.int m3), some (.int m4), none]) (st' := [.int (0 : Int32)]) rfl ?_
    obtain rfl := Option.some.inj e
    exact Rn.ret hT rfl rfl rfl (hq (0 : Int32) h_4083 L32_0 R_4083)
  · rw [if_neg c_4065] at e
    refine Rn.bt hT rfl rfl rfl (decide_eq_true (fun z => c_4065 ((ti_e p1 L32_m1).mp z))) ?_
    refine Rn.n hT 1 (pc' := 16) (L' := [some (.ref q0), some (.int m1), some (.int m2), some (.int m3), some (.int m4), none]) (st' := [.ref q0]) rfl ?_
    refine Rn.hp hT rfl rfl (gR_hp (rp_gR hR (T12_o t0) rfl)) ?_
    refine Rn.n hT 1 (pc' := 21) (L' := [some (.ref q0), some (.int m1), some (.int m2), some (.int m3), some (.int m4), none]) (st' := [.int (9 : Int32), .ref (q0 + 1)]) rfl ?_
    obtain ⟨v_4066, e_4066, e⟩ := Option.bind_eq_some_iff.mp e
    obtain ⟨z_4066, g_4066, p_4066⟩ := rp_aI hR (T12_1 t0) (T12_1l t0) L32_9 e_4066
    refine Rn.hp hT rfl rfl (aI_hp g_4066) ?_
    refine Rn.n hT 3 (pc' := 26) (L' := [some (.ref q0), some (.int m1), some (.int m2), some (.int m3), some (.int m4), some (.int z_4066)]) (st' := [.int m1, .ref q0]) rfl ?_
    obtain ⟨v_4067, e_4067, e⟩ := Option.bind_eq_some_iff.mp e
    refine Rn.call hT rfl rfl rfl (Nat.le_of_ble_eq_true rfl) (rcv_v gX12_isPerson (by omega) (rp_ck hR (T12_o t0))) (RX12_isPerson (by omega) hR t0 p1 e_4067 (fun z_4067 p_4067 => ?_))
    show Rn d _ _ 29 [some (.ref q0), some (.int m1), some (.int m2), some (.int m3), some (.int m4), some (.int z_4066)] [.int z_4067] h Q
    by_cases c_4068 : v_4067 = 0
    · rw [if_pos c_4068] at e
      refine Rn.bt hT rfl rfl rfl (decide_eq_true ((ti_e p_4067 L32_0).mpr c_4068)) ?_
      exact Rn.weak (ll_n (ll_n (ll_n (ll_n (ll_n (ll_n ll_e)))))) (RX12_wish_b61 hd hR hq e)
    · rw [if_neg c_4068] at e
      refine Rn.bf hT rfl rfl rfl (decide_eq_false (fun z => c_4068 ((ti_e p_4067 L32_0).mp z))) ?_
      refine Rn.n hT 4 (pc' := 38) (L' := [some (.ref q0), some (.int m1), some (.int m2), some (.int m3), some (.int m4), some (.int z_4066)]) (st' := [.long (10 : Int64), .long (0 : Int64), .long ((m2).toInt64)]) rfl ?_
      obtain ⟨v_4069, e_4069, e⟩ := Option.bind_eq_some_iff.mp e
      refine Rn.call hT rfl rfl rfl (Nat.le_of_ble_eq_true rfl) rfl (RX12_in (by omega) hR (ti_j p2) L64_0 L64_10 e_4069 (fun z_4069 p_4069 => ?_))
      show Rn d _ _ 41 [some (.ref q0), some (.int m1), some (.int m2), some (.int m3), some (.int m4), some (.int z_4066)] [.int z_4069] h Q
      by_cases c_4070 : v_4069 = 0
      · rw [if_pos c_4070] at e
        refine Rn.bt hT rfl rfl rfl (decide_eq_true ((ti_e p_4069 L32_0).mpr c_4070)) ?_
        exact Rn.weak (ll_n (ll_n (ll_n (ll_n (ll_n (ll_n ll_e)))))) (RX12_wish_b61 hd hR hq e)
      · rw [if_neg c_4070] at e
        refine Rn.bf hT rfl rfl rfl (decide_eq_false (fun z => c_4070 ((ti_e p_4069 L32_0).mp z))) ?_
        refine Rn.n hT 3 (pc' := 48) (L' := [some (.ref q0), some (.int m1), some (.int m2), some (.int m3), some (.int m4), some (.int z_4066)]) (st' := [.int m4, .int m3, .ref q0]) rfl ?_
        obtain ⟨v_4071, e_4071, e⟩ := Option.bind_eq_some_iff.mp e
        refine Rn.call hT rfl rfl rfl (Nat.le_of_ble_eq_true rfl) (rcv_v gX12_isCell (by omega) (rp_ck hR (T12_o t0))) (RX12_isCell (by omega) hR t0 p3 p4 e_4071 (fun z_4071 p_4071 => ?_))
        show Rn d _ _ 51 [some (.ref q0), some (.int m1), some (.int m2), some (.int m3), some (.int m4), some (.int z_4066)] [.int z_4071] h Q
        by_cases c_4072 : v_4071 = 0
        · rw [if_pos c_4072] at e
          refine Rn.bt hT rfl rfl rfl (decide_eq_true ((ti_e p_4071 L32_0).mpr c_4072)) ?_
          exact Rn.weak (ll_n (ll_n (ll_n (ll_n (ll_n (ll_n ll_e)))))) (RX12_wish_b61 hd hR hq e)
        · rw [if_neg c_4072] at e
          refine Rn.bf hT rfl rfl rfl (decide_eq_false (fun z => c_4072 ((ti_e p_4071 L32_0).mp z))) ?_
          refine Rn.n hT 2 (pc' := 58) (L' := [some (.ref q0), some (.int m1), some (.int m2), some (.int m3), some (.int m4), some (.int z_4066)]) (st' := [.int (12 : Int32), .int z_4066]) rfl ?_
          by_cases c_4073 : v_4066 = 12
          · rw [if_pos c_4073] at e
            refine Rn.bf hT rfl rfl rfl (decide_eq_false (fun z => z ((ti_e p_4066 L32_12).mpr c_4073))) ?_
            exact Rn.weak (ll_n (ll_n (ll_n (ll_n (ll_n (ll_n ll_e)))))) (RX12_wish_b61 hd hR hq e)
          · rw [if_neg c_4073] at e
            refine Rn.bt hT rfl rfl rfl (decide_eq_true (fun z => c_4073 ((ti_e p_4066 L32_12).mp z))) ?_
            refine Rn.n hT 1 (pc' := 65) (L' := [some (.ref q0), some (.int m1), some (.int m2), some (.int m3), some (.int m4), some (.int z_4066)]) (st' := [.ref q0]) rfl ?_
            refine Rn.hp hT rfl rfl (gR_hp (rp_gR hR (T12_o t0) rfl)) ?_
            refine Rn.n hT 2 (pc' := 71) (L' := [some (.ref q0), some (.int m1), some (.int m2), some (.int m3), some (.int m4), some (.int z_4066)]) (st' := [.int m1, .int z_4066, .ref (q0 + 14)]) rfl ?_
            obtain ⟨s_4074, e_4075, e⟩ := Option.bind_eq_some_iff.mp e
            obtain ⟨h_4074, g_4075, R_4074⟩ := rp_wI hR (T12_14 t0) (T12_14l t0) p_4066 p1 e_4075
            refine Rn.hp hT rfl rfl (wI_hp g_4075) ?_
            refine Rn.n hT 1 (pc' := 73) (L' := [some (.ref q0), some (.int m1), some (.int m2), some (.int m3), some (.int m4), some (.int z_4066)]) (st' := [.ref q0]) rfl ?_
            refine Rn.hp hT rfl rfl (gR_hp (rp_gR R_4074 (T12_o t0) rfl)) ?_
            refine Rn.n hT 2 (pc' := 79) (L' := [some (.ref q0), some (.int m1), some (.int m2), some (.int m3), some (.int m4), some (.int z_4066)]) (st' := [.int m2, .int z_4066, .ref (q0 + 15)]) rfl ?_
            obtain ⟨s_4076, e_4077, e⟩ := Option.bind_eq_some_iff.mp e
            obtain ⟨h_4076, g_4077, R_4076⟩ := rp_wI R_4074 (T12_15 t0) (T12_15l t0) p_4066 p2 e_4077
            refine Rn.hp hT rfl rfl (wI_hp g_4077) ?_
            refine Rn.n hT 1 (pc' := 81) (L' := [some (.ref q0), some (.int m1), some (.int m2), some (.int m3), some (.int m4), some (.int z_4066)]) (st' := [.ref q0]) rfl ?_
            refine Rn.hp hT rfl rfl (gR_hp (rp_gR R_4076 (T12_o t0) rfl)) ?_
            refine Rn.n hT 6 (pc' := 92) (L' := [some (.ref q0), some (.int m1), some (.int m2), some (.int m3), some (.int m4), some (.int z_4066)]) (st' := [.int (((4 : Int32) * m4) + m3), .int z_4066, .ref (q0 + 16)]) rfl ?_
            obtain ⟨s_4078, e_4079, e⟩ := Option.bind_eq_some_iff.mp e
            obtain ⟨h_4078, g_4079, R_4078⟩ := rp_wI R_4076 (T12_16 t0) (T12_16l t0) p_4066 (ti_add (ti_mul L32_4 p4) p3) e_4079
            refine Rn.hp hT rfl rfl (wI_hp g_4079) ?_
            refine Rn.n hT 1 (pc' := 94) (L' := [some (.ref q0), some (.int m1), some (.int m2), some (.int m3), some (.int m4), some (.int z_4066)]) (st' := [.ref q0]) rfl ?_
            refine Rn.hp hT rfl rfl (gR_hp (rp_gR R_4078 (T12_o t0) rfl)) ?_
            refine Rn.n hT 2 (pc' := 100) (L' := [some (.ref q0), some (.int m1), some (.int m2), some (.int m3), some (.int m4), some (.int z_4066)]) (st' := [.int (9 : Int32), .ref (q0 + 1), .int (9 : Int32), .ref (q0 + 1)]) rfl ?_
            obtain ⟨v_4080, e_4080, e⟩ := Option.bind_eq_some_iff.mp e
            obtain ⟨z_4080, g_4080, p_4080⟩ := rp_aI R_4078 (T12_1 t0) (T12_1l t0) L32_9 e_4080
            refine Rn.hp hT rfl rfl (aI_hp g_4080) ?_
            refine Rn.n hT 2 (pc' := 103) (L' := [some (.ref q0), some (.int m1), some (.int m2), some (.int m3), some (.int m4), some (.int z_4066)]) (st' := [.int (z_4080 + (1 : Int32)), .int (9 : Int32), .ref (q0 + 1)]) rfl ?_
            obtain ⟨s_4081, e_4082, e⟩ := Option.bind_eq_some_iff.mp e
            obtain ⟨h_4081, g_4082, R_4081⟩ := rp_wI R_4078 (T12_1 t0) (T12_1l t0) L32_9 (ti_add p_4080 L32_1) e_4082
            refine Rn.hp hT rfl rfl (wI_hp g_4082) ?_
            refine Rn.n hT 3 (pc' := 108) (L' := [some (.ref q0), some (.int m1), some (.int m2), some (.int m3), some (.int m4), some (.int z_4066)]) (st' := [.int (z_4066 + (1 : Int32))]) rfl ?_
            obtain rfl := Option.some.inj e
            exact Rn.ret hT rfl rfl rfl (hq (z_4066 + (1 : Int32)) h_4081 (ti_add p_4066 L32_1) R_4081)
set_option maxRecDepth 10000 in
theorem hX12_isWished : iv_Tb 320 tX12_isWished := iv_tb_of (m := mX12_isWished) rfl
set_option maxRecDepth 10000 in
theorem gX12_isWished : PG.2 320 = some mX12_isWished := iv_pi_of (t := tX12_isWished) rfl (by decide)
def FX12_isWished_b82 (N : Nat) (s : iv_M) (q0 : Nat) (x1 : Int) (x2 : Int) (x3 : Int) (x4 : Int)  (kb : Int → Int → Option (Int)) (kx : Int → Option (Int)) : Option (Int) := (kb x3 (w32 (x4 + 1)))
set_option maxRecDepth 10000 in
set_option maxHeartbeats 4000000 in
theorem RX12_isWished_b82 {d N nc Ls : Nat} {Xs : Nat → Int32} (hd : 0 ≤ d) {h : iv_H} {s : iv_M} (hR : Rep nc Ls Xs h s) {q0 : Nat} (t0 : T12 nc q0) {m1 : Int32} {x1 : Int} (p1 : m1.toInt = x1) {m2 : Int32} {x2 : Int} (p2 : m2.toInt = x2) {m3 : Int32} {x3 : Int} (p3 : m3.toInt = x3) {m4 : Int32} {x4 : Int} (p4 : m4.toInt = x4)  {kb : Int → Int → Option (Int)} {kx : Int → Option (Int)} {r : Int} {Q : Option Value → iv_H → Prop} (hb : ∀ (mw3 : Int32) (xw3 : Int) (pw3 : mw3.toInt = xw3) (mw4 : Int32) (xw4 : Int) (pw4 : mw4.toInt = xw4), kb xw3 xw4 = some r → Rn d 320 (some .boolean) 5 [some (.ref q0), some (.int m1), some (.int m2), some (.int mw3), some (.int mw4)] [] h Q) (hk : ∀ (mw3 : Int32) (xw3 : Int) (pw3 : mw3.toInt = xw3), kx xw3 = some r → Rn d 320 (some .boolean) 88 [none, none, none, some (.int mw3), none] [] h Q) (hq : ∀ (z : Int32), z.toInt = r → Q (some (.int z)) h) (e : FX12_isWished_b82 N s q0 x1 x2 x3 x4  kb kx = some r) : Rn d 320 (some .boolean) 82 [some (.ref q0), some (.int m1), some (.int m2), some (.int m3), some (.int m4)] [] h Q := by
  have hT := hX12_isWished
  unfold FX12_isWished_b82 at e
  refine Rn.n hT 2 (pc' := 5) (L' := [some (.ref q0), some (.int m1), some (.int m2), some (.int m3), some (.int (m4 + (1 : Int32)))]) (st' := []) rfl ?_
  exact Rn.weak (ll_s (ll_s (ll_s (ll_s (ll_s ll_e))))) (hb m3 x3 p3 (m4 + (1 : Int32)) (w32 (x4 + 1)) (ti_add p4 L32_1) e)
def FX12_isWished_b81 (N : Nat) (s : iv_M) (q0 : Nat) (x1 : Int) (x2 : Int) (x4 : Int) (xs0 : Int) (kb : Int → Int → Option (Int)) (kx : Int → Option (Int)) : Option (Int) := (FX12_isWished_b82 N s q0 x1 x2 xs0 x4 kb kx)
set_option maxRecDepth 10000 in
set_option maxHeartbeats 4000000 in
theorem RX12_isWished_b81 {d N nc Ls : Nat} {Xs : Nat → Int32} (hd : 0 ≤ d) {h : iv_H} {s : iv_M} (hR : Rep nc Ls Xs h s) {q0 : Nat} (t0 : T12 nc q0) {m1 : Int32} {x1 : Int} (p1 : m1.toInt = x1) {m2 : Int32} {x2 : Int} (p2 : m2.toInt = x2) {m4 : Int32} {x4 : Int} (p4 : m4.toInt = x4) {ms0 : Int32} {xs0 : Int} (ps0 : ms0.toInt = xs0) {kb : Int → Int → Option (Int)} {kx : Int → Option (Int)} {r : Int} {Q : Option Value → iv_H → Prop} (hb : ∀ (mw3 : Int32) (xw3 : Int) (pw3 : mw3.toInt = xw3) (mw4 : Int32) (xw4 : Int) (pw4 : mw4.toInt = xw4), kb xw3 xw4 = some r → Rn d 320 (some .boolean) 5 [some (.ref q0), some (.int m1), some (.int m2), some (.int mw3), some (.int mw4)] [] h Q) (hk : ∀ (mw3 : Int32) (xw3 : Int) (pw3 : mw3.toInt = xw3), kx xw3 = some r → Rn d 320 (some .boolean) 88 [none, none, none, some (.int mw3), none] [] h Q) (hq : ∀ (z : Int32), z.toInt = r → Q (some (.int z)) h) (e : FX12_isWished_b81 N s q0 x1 x2 x4 xs0 kb kx = some r) : Rn d 320 (some .boolean) 81 [some (.ref q0), some (.int m1), some (.int m2), none, some (.int m4)] [.int ms0] h Q := by
  have hT := hX12_isWished
  unfold FX12_isWished_b81 at e
  refine Rn.n hT 1 (pc' := 82) (L' := [some (.ref q0), some (.int m1), some (.int m2), some (.int ms0), some (.int m4)]) (st' := []) rfl ?_
  exact Rn.weak (ll_s (ll_s (ll_s (ll_s (ll_s ll_e))))) (RX12_isWished_b82 hd hR t0 p1 p2 ps0 p4 hb hk hq e)
def FX12_isWished_b80 (N : Nat) (s : iv_M) (q0 : Nat) (x1 : Int) (x2 : Int) (x4 : Int)  (kb : Int → Int → Option (Int)) (kx : Int → Option (Int)) : Option (Int) := (FX12_isWished_b81 N s q0 x1 x2 x4 0 kb kx)
set_option maxRecDepth 10000 in
set_option maxHeartbeats 4000000 in
theorem RX12_isWished_b80 {d N nc Ls : Nat} {Xs : Nat → Int32} (hd : 0 ≤ d) {h : iv_H} {s : iv_M} (hR : Rep nc Ls Xs h s) {q0 : Nat} (t0 : T12 nc q0) {m1 : Int32} {x1 : Int} (p1 : m1.toInt = x1) {m2 : Int32} {x2 : Int} (p2 : m2.toInt = x2) {m4 : Int32} {x4 : Int} (p4 : m4.toInt = x4)  {kb : Int → Int → Option (Int)} {kx : Int → Option (Int)} {r : Int} {Q : Option Value → iv_H → Prop} (hb : ∀ (mw3 : Int32) (xw3 : Int) (pw3 : mw3.toInt = xw3) (mw4 : Int32) (xw4 : Int) (pw4 : mw4.toInt = xw4), kb xw3 xw4 = some r → Rn d 320 (some .boolean) 5 [some (.ref q0), some (.int m1), some (.int m2), some (.int mw3), some (.int mw4)] [] h Q) (hk : ∀ (mw3 : Int32) (xw3 : Int) (pw3 : mw3.toInt = xw3), kx xw3 = some r → Rn d 320 (some .boolean) 88 [none, none, none, some (.int mw3), none] [] h Q) (hq : ∀ (z : Int32), z.toInt = r → Q (some (.int z)) h) (e : FX12_isWished_b80 N s q0 x1 x2 x4  kb kx = some r) : Rn d 320 (some .boolean) 80 [some (.ref q0), some (.int m1), some (.int m2), none, some (.int m4)] [] h Q := by
  have hT := hX12_isWished
  unfold FX12_isWished_b80 at e
  refine Rn.n hT 1 (pc' := 81) (L' := [some (.ref q0), some (.int m1), some (.int m2), none, some (.int m4)]) (st' := [.int (0 : Int32)]) rfl ?_
  exact Rn.weak (ll_s (ll_s (ll_s (ll_n (ll_s ll_e))))) (RX12_isWished_b81 hd hR t0 p1 p2 p4 L32_0 hb hk hq e)
def FX12_isWished_l5 (N : Nat) (s : iv_M) (q0 : Nat) (x1 : Int) (x2 : Int) (kx : Int → Option (Int)) : Nat → Int → Int → Option (Int)
  | 0, _, _ => none
  | n + 1, x3, x4 => ((rd s (q0 + 1) 14 9).bind fun v_4087 => (if v_4087 ≤ x4 then (kx x3) else ((rd s (q0 + 14) 12 x4).bind fun v_4089 => (if v_4089 = x1 then (if x3 = 0 then (FX12_isWished_b80 N s q0 x1 x2 x4 (FX12_isWished_l5 N s q0 x1 x2 kx n) kx) else ((rd s (q0 + 15) 12 x4).bind fun v_4092 => ((rd s (q0 + 1) 14 8).bind fun v_4093 => (if v_4093 < v_4092 then (FX12_isWished_b80 N s q0 x1 x2 x4 (FX12_isWished_l5 N s q0 x1 x2 kx n) kx) else ((rd s (q0 + 15) 12 x4).bind fun v_4095 => ((rd s (q0 + 49) 132 (w32 ((w32 (12 * v_4095)) + x2))).bind fun v_4096 => ((rd s (q0 + 16) 12 x4).bind fun v_4097 => (if v_4096 = v_4097 then (FX12_isWished_b81 N s q0 x1 x2 x4 1 (FX12_isWished_l5 N s q0 x1 x2 kx n) kx) else (FX12_isWished_b80 N s q0 x1 x2 x4 (FX12_isWished_l5 N s q0 x1 x2 kx n) kx))))))))) else (FX12_isWished_b82 N s q0 x1 x2 x3 x4 (FX12_isWished_l5 N s q0 x1 x2 kx n) kx)))))
set_option maxRecDepth 10000 in
set_option maxHeartbeats 4000000 in
theorem RX12_isWished_l5 {d N nc Ls : Nat} {Xs : Nat → Int32} (hd : 0 ≤ d) {h : iv_H} {s : iv_M} (hR : Rep nc Ls Xs h s) {q0 : Nat} (t0 : T12 nc q0) {m1 : Int32} {x1 : Int} (p1 : m1.toInt = x1) {m2 : Int32} {x2 : Int} (p2 : m2.toInt = x2) {kx : Int → Option (Int)} {r : Int} {Q : Option Value → iv_H → Prop} (hk : ∀ (m3 : Int32) (x3 : Int) (p3 : m3.toInt = x3), kx x3 = some r → Rn d 320 (some .boolean) 88 [none, none, none, some (.int m3), none] [] h Q) (hq : ∀ (z : Int32), z.toInt = r → Q (some (.int z)) h) : ∀ (n : Nat) (m3 : Int32) (x3 : Int) (p3 : m3.toInt = x3) (m4 : Int32) (x4 : Int) (p4 : m4.toInt = x4), FX12_isWished_l5 N s q0 x1 x2 kx n x3 x4 = some r → Rn d 320 (some .boolean) 5 [some (.ref q0), some (.int m1), some (.int m2), some (.int m3), some (.int m4)] [] h Q := by
  have hT := hX12_isWished
  intro n
  induction n with
  | zero =>
    intro m3 x3 p3 m4 x4 p4 e
    rw [FX12_isWished_l5] at e
    cases e
  | succ n ih =>
    intro m3 x3 p3 m4 x4 p4 e
    rw [FX12_isWished_l5] at e
    refine Rn.n hT 2 (pc' := 8) (L' := [some (.ref q0), some (.int m1), some (.int m2), some (.int m3), some (.int m4)]) (st' := [.ref q0, .int m4]) rfl ?_
    refine Rn.hp hT rfl rfl (gR_hp (rp_gR hR (T12_o t0) rfl)) ?_
    refine Rn.n hT 1 (pc' := 13) (L' := [some (.ref q0), some (.int m1), some (.int m2), some (.int m3), some (.int m4)]) (st' := [.int (9 : Int32), .ref (q0 + 1), .int m4]) rfl ?_
    obtain ⟨v_4087, e_4087, e⟩ := Option.bind_eq_some_iff.mp e
    obtain ⟨z_4087, g_4087, p_4087⟩ := rp_aI hR (T12_1 t0) (T12_1l t0) L32_9 e_4087
    refine Rn.hp hT rfl rfl (aI_hp g_4087) ?_
    by_cases c_4088 : v_4087 ≤ x4
    · rw [if_pos c_4088] at e
      refine Rn.bt hT rfl rfl rfl (decide_eq_true ((ti_le p_4087 p4).mpr c_4088)) ?_
      exact Rn.weak (ll_n (ll_n (ll_n (ll_s (ll_n ll_e))))) (hk m3 x3 p3 e)
    · rw [if_neg c_4088] at e
      refine Rn.bf hT rfl rfl rfl (decide_eq_false (fun z => c_4088 ((ti_le p_4087 p4).mp z))) ?_
      refine Rn.n hT 1 (pc' := 18) (L' := [some (.ref q0), some (.int m1), some (.int m2), some (.int m3), some (.int m4)]) (st' := [.ref q0]) rfl ?_
      refine Rn.hp hT rfl rfl (gR_hp (rp_gR hR (T12_o t0) rfl)) ?_
      refine Rn.n hT 1 (pc' := 23) (L' := [some (.ref q0), some (.int m1), some (.int m2), some (.int m3), some (.int m4)]) (st' := [.int m4, .ref (q0 + 14)]) rfl ?_
      obtain ⟨v_4089, e_4089, e⟩ := Option.bind_eq_some_iff.mp e
      obtain ⟨z_4089, g_4089, p_4089⟩ := rp_aI hR (T12_14 t0) (T12_14l t0) p4 e_4089
      refine Rn.hp hT rfl rfl (aI_hp g_4089) ?_
      refine Rn.n hT 1 (pc' := 25) (L' := [some (.ref q0), some (.int m1), some (.int m2), some (.int m3), some (.int m4)]) (st' := [.int m1, .int z_4089]) rfl ?_
      by_cases c_4090 : v_4089 = x1
      · rw [if_pos c_4090] at e
        refine Rn.bf hT rfl rfl rfl (decide_eq_false (fun z => z ((ti_e p_4089 p1).mpr c_4090))) ?_
        refine Rn.n hT 1 (pc' := 29) (L' := [some (.ref q0), some (.int m1), some (.int m2), some (.int m3), some (.int m4)]) (st' := [.int m3]) rfl ?_
        by_cases c_4091 : x3 = 0
        · rw [if_pos c_4091] at e
          refine Rn.bt hT rfl rfl rfl (decide_eq_true ((ti_e p3 L32_0).mpr c_4091)) ?_
          exact Rn.weak (ll_s (ll_s (ll_s (ll_n (ll_s ll_e))))) (RX12_isWished_b80 hd hR t0 p1 p2 p4 ih hk hq e)
        · rw [if_neg c_4091] at e
          refine Rn.bf hT rfl rfl rfl (decide_eq_false (fun z => c_4091 ((ti_e p3 L32_0).mp z))) ?_
          refine Rn.n hT 1 (pc' := 33) (L' := [some (.ref q0), some (.int m1), some (.int m2), some (.int m3), some (.int m4)]) (st' := [.ref q0]) rfl ?_
          refine Rn.hp hT rfl rfl (gR_hp (rp_gR hR (T12_o t0) rfl)) ?_
          refine Rn.n hT 1 (pc' := 38) (L' := [some (.ref q0), some (.int m1), some (.int m2), some (.int m3), some (.int m4)]) (st' := [.int m4, .ref (q0 + 15)]) rfl ?_
          obtain ⟨v_4092, e_4092, e⟩ := Option.bind_eq_some_iff.mp e
          obtain ⟨z_4092, g_4092, p_4092⟩ := rp_aI hR (T12_15 t0) (T12_15l t0) p4 e_4092
          refine Rn.hp hT rfl rfl (aI_hp g_4092) ?_
          refine Rn.n hT 1 (pc' := 40) (L' := [some (.ref q0), some (.int m1), some (.int m2), some (.int m3), some (.int m4)]) (st' := [.ref q0, .int z_4092]) rfl ?_
          refine Rn.hp hT rfl rfl (gR_hp (rp_gR hR (T12_o t0) rfl)) ?_
          refine Rn.n hT 1 (pc' := 45) (L' := [some (.ref q0), some (.int m1), some (.int m2), some (.int m3), some (.int m4)]) (st' := [.int (8 : Int32), .ref (q0 + 1), .int z_4092]) rfl ?_
          obtain ⟨v_4093, e_4093, e⟩ := Option.bind_eq_some_iff.mp e
          obtain ⟨z_4093, g_4093, p_4093⟩ := rp_aI hR (T12_1 t0) (T12_1l t0) L32_8 e_4093
          refine Rn.hp hT rfl rfl (aI_hp g_4093) ?_
          by_cases c_4094 : v_4093 < v_4092
          · rw [if_pos c_4094] at e
            refine Rn.bt hT rfl rfl rfl (decide_eq_true ((ti_l p_4093 p_4092).mpr c_4094)) ?_
            exact Rn.weak (ll_s (ll_s (ll_s (ll_n (ll_s ll_e))))) (RX12_isWished_b80 hd hR t0 p1 p2 p4 ih hk hq e)
          · rw [if_neg c_4094] at e
            refine Rn.bf hT rfl rfl rfl (decide_eq_false (fun z => c_4094 ((ti_l p_4093 p_4092).mp z))) ?_
            refine Rn.n hT 1 (pc' := 50) (L' := [some (.ref q0), some (.int m1), some (.int m2), some (.int m3), some (.int m4)]) (st' := [.ref q0]) rfl ?_
            refine Rn.hp hT rfl rfl (gR_hp (rp_gR hR (T12_o t0) rfl)) ?_
            refine Rn.n hT 2 (pc' := 56) (L' := [some (.ref q0), some (.int m1), some (.int m2), some (.int m3), some (.int m4)]) (st' := [.ref q0, .int (12 : Int32), .ref (q0 + 49)]) rfl ?_
            refine Rn.hp hT rfl rfl (gR_hp (rp_gR hR (T12_o t0) rfl)) ?_
            refine Rn.n hT 1 (pc' := 61) (L' := [some (.ref q0), some (.int m1), some (.int m2), some (.int m3), some (.int m4)]) (st' := [.int m4, .ref (q0 + 15), .int (12 : Int32), .ref (q0 + 49)]) rfl ?_
            obtain ⟨v_4095, e_4095, e⟩ := Option.bind_eq_some_iff.mp e
            obtain ⟨z_4095, g_4095, p_4095⟩ := rp_aI hR (T12_15 t0) (T12_15l t0) p4 e_4095
            refine Rn.hp hT rfl rfl (aI_hp g_4095) ?_
            refine Rn.n hT 3 (pc' := 65) (L' := [some (.ref q0), some (.int m1), some (.int m2), some (.int m3), some (.int m4)]) (st' := [.int (((12 : Int32) * z_4095) + m2), .ref (q0 + 49)]) rfl ?_
            obtain ⟨v_4096, e_4096, e⟩ := Option.bind_eq_some_iff.mp e
            obtain ⟨z_4096, g_4096, p_4096⟩ := rp_aI hR (T12_67 t0) (T12_67l t0) (ti_add (ti_mul L32_12 p_4095) p2) e_4096
            refine Rn.hp hT rfl rfl (aI_hp g_4096) ?_
            refine Rn.n hT 1 (pc' := 67) (L' := [some (.ref q0), some (.int m1), some (.int m2), some (.int m3), some (.int m4)]) (st' := [.ref q0, .int z_4096]) rfl ?_
            refine Rn.hp hT rfl rfl (gR_hp (rp_gR hR (T12_o t0) rfl)) ?_
            refine Rn.n hT 1 (pc' := 72) (L' := [some (.ref q0), some (.int m1), some (.int m2), some (.int m3), some (.int m4)]) (st' := [.int m4, .ref (q0 + 16), .int z_4096]) rfl ?_
            obtain ⟨v_4097, e_4097, e⟩ := Option.bind_eq_some_iff.mp e
            obtain ⟨z_4097, g_4097, p_4097⟩ := rp_aI hR (T12_16 t0) (T12_16l t0) p4 e_4097
            refine Rn.hp hT rfl rfl (aI_hp g_4097) ?_
            by_cases c_4098 : v_4096 = v_4097
            · rw [if_pos c_4098] at e
              refine Rn.bf hT rfl rfl rfl (decide_eq_false (fun z => z ((ti_e p_4096 p_4097).mpr c_4098))) ?_
              refine Rn.n hT 2 (pc' := 81) (L' := [some (.ref q0), some (.int m1), some (.int m2), some (.int m3), some (.int m4)]) (st' := [.int (1 : Int32)]) rfl ?_
              exact Rn.weak (ll_s (ll_s (ll_s (ll_n (ll_s ll_e))))) (RX12_isWished_b81 hd hR t0 p1 p2 p4 L32_1 ih hk hq e)
            · rw [if_neg c_4098] at e
              refine Rn.bt hT rfl rfl rfl (decide_eq_true (fun z => c_4098 ((ti_e p_4096 p_4097).mp z))) ?_
              exact Rn.weak (ll_s (ll_s (ll_s (ll_n (ll_s ll_e))))) (RX12_isWished_b80 hd hR t0 p1 p2 p4 ih hk hq e)
      · rw [if_neg c_4090] at e
        refine Rn.bt hT rfl rfl rfl (decide_eq_true (fun z => c_4090 ((ti_e p_4089 p1).mp z))) ?_
        exact Rn.weak (ll_s (ll_s (ll_s (ll_s (ll_s ll_e))))) (RX12_isWished_b82 hd hR t0 p1 p2 p3 p4 ih hk hq e)
def FX12_isWished (N : Nat) (s : iv_M) (q0 : Nat) (x1 : Int) (x2 : Int) : Option (Int) := (FX12_isWished_l5 N s q0 x1 x2 (fun (x4085_3 : Int) => (if x4085_3 = 0 ∨ x4085_3 = 1 then some x4085_3 else none)) N 1 0)
set_option maxRecDepth 10000 in
set_option maxHeartbeats 4000000 in
theorem RX12_isWished {d N nc Ls : Nat} {Xs : Nat → Int32} (hd : 1 ≤ d) {h : iv_H} {s : iv_M} (hR : Rep nc Ls Xs h s) {q0 : Nat} (t0 : T12 nc q0) {m1 : Int32} {x1 : Int} (p1 : m1.toInt = x1) {m2 : Int32} {x2 : Int} (p2 : m2.toInt = x2) {r : Int} {Q : Option Value → iv_H → Prop} (e : FX12_isWished N s q0 x1 x2 = some r) (hq : ∀ (z : Int32), z.toInt = r → Q (some (.int z)) h) : Cl d 320 [.ref q0, .int m1, .int m2] h Q := by
  obtain ⟨d, rfl⟩ : ∃ k, d = k + 1 := ⟨d - 1, by omega⟩
  have hd : 0 ≤ d := by omega
  have hT := hX12_isWished
  unfold FX12_isWished at e
  refine Cl.into (by decide) gX12_isWished rfl ?_
  show Rn d 320 (some .boolean) 0 [some (.ref q0), some (.int m1), some (.int m2), none, none] [] h Q
  refine Rn.n hT 4 (pc' := 5) (L' := [some (.ref q0), some (.int m1), some (.int m2), some (.int (1 : Int32)), some (.int (0 : Int32))]) (st' := []) rfl ?_
  refine Rn.weak (ll_s (ll_s (ll_s (ll_s (ll_s ll_e))))) (RX12_isWished_l5 hd hR t0 p1 p2 (fun m4085_3 x4085_3 p4085_3 e => ?_) hq N (1 : Int32) 1 L32_1 (0 : Int32) 0 L32_0 e)
  try dsimp only at e
  refine Rn.n hT 1 (pc' := 89) (L' := [none, none, none, some (.int m4085_3), none]) (st' := [.int m4085_3]) rfl ?_
  by_cases c_4086 : x4085_3 = 0 ∨ x4085_3 = 1
  · rw [if_pos c_4086] at e
    obtain rfl := Option.some.inj e
    exact Rn.ret hT rfl rfl (if_pos (ti_b p4085_3 c_4086)) (hq m4085_3 p4085_3)
  · rw [if_neg c_4086] at e
    cases e
set_option maxRecDepth 10000 in
theorem hX12_fillsWho : iv_Tb 321 tX12_fillsWho := iv_tb_of (m := mX12_fillsWho) rfl
set_option maxRecDepth 10000 in
theorem gX12_fillsWho : PG.2 321 = some mX12_fillsWho := iv_pi_of (t := tX12_fillsWho) rfl (by decide)
def FX12_fillsWho_b83 (N : Nat) (s : iv_M) (q0 : Nat) (x1 : Int) (x2 : Int) (xs0 : Int) (xs1 : Int) (xs2 : Int) (qs3 : Nat) (kb : iv_M → Int → Option (iv_M)) (kx : iv_M → Option (iv_M)) : Option (iv_M) := ((wr s qs3 ((sh qs3).2 : Int) xs2 (bOr xs1 xs0)).bind fun s_4121 => (kb s_4121 (w32 (x2 + 1))))
set_option maxRecDepth 10000 in
set_option maxHeartbeats 4000000 in
theorem RX12_fillsWho_b83 {d N nc Ls : Nat} {Xs : Nat → Int32} (hd : 9 ≤ d) {h : iv_H} {s : iv_M} (hR : Rep nc Ls Xs h s) {q0 : Nat} (t0 : T12 nc q0) {m1 : Int32} {x1 : Int} (p1 : m1.toInt = x1) {m2 : Int32} {x2 : Int} (p2 : m2.toInt = x2) {ms0 : Int32} {xs0 : Int} (ps0 : ms0.toInt = xs0) {ms1 : Int32} {xs1 : Int} (ps1 : ms1.toInt = xs1) {ms2 : Int32} {xs2 : Int} (ps2 : ms2.toInt = xs2) {qs3 : Nat} (ts3 : TA 0 nc qs3) {kb : iv_M → Int → Option (iv_M)} {kx : iv_M → Option (iv_M)} {r : iv_M} {Q : Option Value → iv_H → Prop} (hb : ∀ (h : iv_H) (s : iv_M) (hR : Rep nc Ls Xs h s) (mw2 : Int32) (xw2 : Int) (pw2 : mw2.toInt = xw2), kb s xw2 = some r → Rn d 321 none 50 [some (.ref q0), some (.int m1), some (.int mw2)] [] h Q) (hk : ∀ (h : iv_H) (s : iv_M) (hR : Rep nc Ls Xs h s), kx s = some r → Rn d 321 none 91 [some (.ref q0), some (.int m1), none] [] h Q) (hq : ∀ h1, Rep nc Ls Xs h1 r → Q none h1) (e : FX12_fillsWho_b83 N s q0 x1 x2 xs0 xs1 xs2 qs3 kb kx = some r) : Rn d 321 none 83 [some (.ref q0), some (.int m1), some (.int m2)] [.int ms0, .int ms1, .int ms2, .ref qs3] h Q := by
  have hT := hX12_fillsWho
  unfold FX12_fillsWho_b83 at e
  refine Rn.n hT 1 (pc' := 84) (L' := [some (.ref q0), some (.int m1), some (.int m2)]) (st' := [.int (ms1 ||| ms0), .int ms2, .ref qs3]) rfl ?_
  obtain ⟨s_4121, e_4122, e⟩ := Option.bind_eq_some_iff.mp e
  obtain ⟨h_4121, g_4122, R_4121⟩ := rp_wI hR ts3 rfl ps2 (ti_or ps1 ps0) e_4122
  refine Rn.hp hT rfl rfl (wI_hp g_4122) ?_
  refine Rn.n hT 2 (pc' := 50) (L' := [some (.ref q0), some (.int m1), some (.int (m2 + (1 : Int32)))]) (st' := []) rfl ?_
  exact Rn.weak (ll_s (ll_s (ll_s ll_e))) (hb h_4121 s_4121 R_4121 (m2 + (1 : Int32)) (w32 (x2 + 1)) (ti_add p2 L32_1) e)
def FX12_fillsWho_l50 (N : Nat) (q0 : Nat) (x1 : Int) (kx : iv_M → Option (iv_M)) : Nat → iv_M → Int → Option (iv_M)
  | 0, _, _ => none
  | n + 1, s, x2 => ((rd s (q0 + 1) 14 2).bind fun v_4116 => (if v_4116 ≤ x2 then (kx s) else ((rd s (q0 + 50) 6 x1).bind fun v_4118 => ((FX12_isWished N s q0 x1 x2).bind fun v_4119 => (if v_4119 = 0 then (FX12_fillsWho_b83 N s q0 x1 x2 0 v_4118 x1 (q0 + 50) (FX12_fillsWho_l50 N q0 x1 kx n) kx) else (FX12_fillsWho_b83 N s q0 x1 x2 (sl32 1 x2) v_4118 x1 (q0 + 50) (FX12_fillsWho_l50 N q0 x1 kx n) kx))))))
set_option maxRecDepth 10000 in
set_option maxHeartbeats 4000000 in
theorem RX12_fillsWho_l50 {d N nc Ls : Nat} {Xs : Nat → Int32} (hd : 9 ≤ d) {q0 : Nat} (t0 : T12 nc q0) {m1 : Int32} {x1 : Int} (p1 : m1.toInt = x1) {kx : iv_M → Option (iv_M)} {r : iv_M} {Q : Option Value → iv_H → Prop} (hk : ∀ (h : iv_H) (s : iv_M) (hR : Rep nc Ls Xs h s), kx s = some r → Rn d 321 none 91 [some (.ref q0), some (.int m1), none] [] h Q) (hq : ∀ h1, Rep nc Ls Xs h1 r → Q none h1) : ∀ (n : Nat) (h : iv_H) (s : iv_M) (hR : Rep nc Ls Xs h s) (m2 : Int32) (x2 : Int) (p2 : m2.toInt = x2), FX12_fillsWho_l50 N q0 x1 kx n s x2 = some r → Rn d 321 none 50 [some (.ref q0), some (.int m1), some (.int m2)] [] h Q := by
  have hT := hX12_fillsWho
  intro n
  induction n with
  | zero =>
    intro h s hR m2 x2 p2 e
    rw [FX12_fillsWho_l50] at e
    cases e
  | succ n ih =>
    intro h s hR m2 x2 p2 e
    rw [FX12_fillsWho_l50] at e
    refine Rn.n hT 2 (pc' := 52) (L' := [some (.ref q0), some (.int m1), some (.int m2)]) (st' := [.ref q0, .int m2]) rfl ?_
    refine Rn.hp hT rfl rfl (gR_hp (rp_gR hR (T12_o t0) rfl)) ?_
    refine Rn.n hT 1 (pc' := 56) (L' := [some (.ref q0), some (.int m1), some (.int m2)]) (st' := [.int (2 : Int32), .ref (q0 + 1), .int m2]) rfl ?_
    obtain ⟨v_4116, e_4116, e⟩ := Option.bind_eq_some_iff.mp e
    obtain ⟨z_4116, g_4116, p_4116⟩ := rp_aI hR (T12_1 t0) (T12_1l t0) L32_2 e_4116
    refine Rn.hp hT rfl rfl (aI_hp g_4116) ?_
    by_cases c_4117 : v_4116 ≤ x2
    · rw [if_pos c_4117] at e
      refine Rn.bt hT rfl rfl rfl (decide_eq_true ((ti_le p_4116 p2).mpr c_4117)) ?_
      exact Rn.weak (ll_s (ll_s (ll_n ll_e))) (hk h s hR e)
    · rw [if_neg c_4117] at e
      refine Rn.bf hT rfl rfl rfl (decide_eq_false (fun z => c_4117 ((ti_le p_4116 p2).mp z))) ?_
      refine Rn.n hT 1 (pc' := 61) (L' := [some (.ref q0), some (.int m1), some (.int m2)]) (st' := [.ref q0]) rfl ?_
      refine Rn.hp hT rfl rfl (gR_hp (rp_gR hR (T12_o t0) rfl)) ?_
      refine Rn.n hT 2 (pc' := 66) (L' := [some (.ref q0), some (.int m1), some (.int m2)]) (st' := [.int m1, .ref (q0 + 50), .int m1, .ref (q0 + 50)]) rfl ?_
      obtain ⟨v_4118, e_4118, e⟩ := Option.bind_eq_some_iff.mp e
      obtain ⟨z_4118, g_4118, p_4118⟩ := rp_aI hR (T12_69 t0) (T12_69l t0) p1 e_4118
      refine Rn.hp hT rfl rfl (aI_hp g_4118) ?_
      refine Rn.n hT 3 (pc' := 70) (L' := [some (.ref q0), some (.int m1), some (.int m2)]) (st' := [.int m2, .int m1, .ref q0, .int z_4118, .int m1, .ref (q0 + 50)]) rfl ?_
      obtain ⟨v_4119, e_4119, e⟩ := Option.bind_eq_some_iff.mp e
      refine Rn.call hT rfl rfl rfl (Nat.le_of_ble_eq_true rfl) (rcv_v gX12_isWished (by omega) (rp_ck hR (T12_o t0))) (RX12_isWished (by omega) hR t0 p1 p2 e_4119 (fun z_4119 p_4119 => ?_))
      show Rn d _ _ 73 [some (.ref q0), some (.int m1), some (.int m2)] [.int z_4119, .int z_4118, .int m1, .ref (q0 + 50)] h Q
      by_cases c_4120 : v_4119 = 0
      · rw [if_pos c_4120] at e
        refine Rn.bt hT rfl rfl rfl (decide_eq_true ((ti_e p_4119 L32_0).mpr c_4120)) ?_
        refine Rn.n hT 1 (pc' := 83) (L' := [some (.ref q0), some (.int m1), some (.int m2)]) (st' := [.int (0 : Int32), .int z_4118, .int m1, .ref (q0 + 50)]) rfl ?_
        exact Rn.weak (ll_s (ll_s (ll_s ll_e))) (RX12_fillsWho_b83 hd hR t0 p1 p2 L32_0 p_4118 p1 (T12_69 t0) ih hk hq e)
      · rw [if_neg c_4120] at e
        refine Rn.bf hT rfl rfl rfl (decide_eq_false (fun z => c_4120 ((ti_e p_4119 L32_0).mp z))) ?_
        refine Rn.n hT 4 (pc' := 83) (L' := [some (.ref q0), some (.int m1), some (.int m2)]) (st' := [.int ((1 : Int32) <<< (m2 &&& 31)), .int z_4118, .int m1, .ref (q0 + 50)]) rfl ?_
        exact Rn.weak (ll_s (ll_s (ll_s ll_e))) (RX12_fillsWho_b83 hd hR t0 p1 p2 (ti_shl L32_1 p2) p_4118 p1 (T12_69 t0) ih hk hq e)
def FX12_fillsWho_l31 (N : Nat) (q0 : Nat) (kx : iv_M → Option (iv_M)) : Nat → iv_M → Int → Option (iv_M)
  | 0, _, _ => none
  | n + 1, s, x1 => ((rd s (q0 + 1) 14 3).bind fun v_4110 => (if v_4110 ≤ x1 then (kx s) else ((wr s (q0 + 50) 6 x1 0).bind fun s_4112 => (FX12_fillsWho_l50 N q0 x1 (fun (s_4114 : iv_M) => (FX12_fillsWho_l31 N q0 kx n s_4114 (w32 (x1 + 1)))) N s_4112 0))))
set_option maxRecDepth 10000 in
set_option maxHeartbeats 4000000 in
theorem RX12_fillsWho_l31 {d N nc Ls : Nat} {Xs : Nat → Int32} (hd : 9 ≤ d) {q0 : Nat} (t0 : T12 nc q0) {kx : iv_M → Option (iv_M)} {r : iv_M} {Q : Option Value → iv_H → Prop} (hk : ∀ (h : iv_H) (s : iv_M) (hR : Rep nc Ls Xs h s), kx s = some r → Rn d 321 none 97 [some (.ref q0), none, none] [] h Q) (hq : ∀ h1, Rep nc Ls Xs h1 r → Q none h1) : ∀ (n : Nat) (h : iv_H) (s : iv_M) (hR : Rep nc Ls Xs h s) (m1 : Int32) (x1 : Int) (p1 : m1.toInt = x1), FX12_fillsWho_l31 N q0 kx n s x1 = some r → Rn d 321 none 31 [some (.ref q0), some (.int m1), none] [] h Q := by
  have hT := hX12_fillsWho
  intro n
  induction n with
  | zero =>
    intro h s hR m1 x1 p1 e
    rw [FX12_fillsWho_l31] at e
    cases e
  | succ n ih =>
    intro h s hR m1 x1 p1 e
    rw [FX12_fillsWho_l31] at e
    refine Rn.n hT 2 (pc' := 33) (L' := [some (.ref q0), some (.int m1), none]) (st' := [.ref q0, .int m1]) rfl ?_
    refine Rn.hp hT rfl rfl (gR_hp (rp_gR hR (T12_o t0) rfl)) ?_
    refine Rn.n hT 1 (pc' := 37) (L' := [some (.ref q0), some (.int m1), none]) (st' := [.int (3 : Int32), .ref (q0 + 1), .int m1]) rfl ?_
    obtain ⟨v_4110, e_4110, e⟩ := Option.bind_eq_some_iff.mp e
    obtain ⟨z_4110, g_4110, p_4110⟩ := rp_aI hR (T12_1 t0) (T12_1l t0) L32_3 e_4110
    refine Rn.hp hT rfl rfl (aI_hp g_4110) ?_
    by_cases c_4111 : v_4110 ≤ x1
    · rw [if_pos c_4111] at e
      refine Rn.bt hT rfl rfl rfl (decide_eq_true ((ti_le p_4110 p1).mpr c_4111)) ?_
      exact Rn.weak (ll_s (ll_n (ll_n ll_e))) (hk h s hR e)
    · rw [if_neg c_4111] at e
      refine Rn.bf hT rfl rfl rfl (decide_eq_false (fun z => c_4111 ((ti_le p_4110 p1).mp z))) ?_
      refine Rn.n hT 1 (pc' := 42) (L' := [some (.ref q0), some (.int m1), none]) (st' := [.ref q0]) rfl ?_
      refine Rn.hp hT rfl rfl (gR_hp (rp_gR hR (T12_o t0) rfl)) ?_
      refine Rn.n hT 2 (pc' := 47) (L' := [some (.ref q0), some (.int m1), none]) (st' := [.int (0 : Int32), .int m1, .ref (q0 + 50)]) rfl ?_
      obtain ⟨s_4112, e_4113, e⟩ := Option.bind_eq_some_iff.mp e
      obtain ⟨h_4112, g_4113, R_4112⟩ := rp_wI hR (T12_69 t0) (T12_69l t0) p1 L32_0 e_4113
      refine Rn.hp hT rfl rfl (wI_hp g_4113) ?_
      refine Rn.n hT 2 (pc' := 50) (L' := [some (.ref q0), some (.int m1), some (.int (0 : Int32))]) (st' := []) rfl ?_
      refine Rn.weak (ll_s (ll_s (ll_s ll_e))) (RX12_fillsWho_l50 hd t0 p1 (fun h_4114 s_4114 R_4114 e => ?_) hq N h_4112 s_4112 R_4112 (0 : Int32) 0 L32_0 e)
      try dsimp only at e
      refine Rn.n hT 2 (pc' := 31) (L' := [some (.ref q0), some (.int (m1 + (1 : Int32))), none]) (st' := []) rfl ?_
      exact Rn.weak (ll_s (ll_s (ll_n ll_e))) (ih h_4114 s_4114 R_4114 (m1 + (1 : Int32)) (w32 (x1 + 1)) (ti_add p1 L32_1) e)
def FX12_fillsWho_l99 (N : Nat) (q0 : Nat) (kx : iv_M → Option (iv_M)) : Nat → iv_M → Int → Option (iv_M)
  | 0, _, _ => none
  | n + 1, s, x1 => (if 72 ≤ x1 then (kx s) else ((wr s (q0 + 54) 72 x1 0).bind fun s_4125 => (FX12_fillsWho_l99 N q0 kx n s_4125 (w32 (x1 + 1)))))
set_option maxRecDepth 10000 in
set_option maxHeartbeats 4000000 in
theorem RX12_fillsWho_l99 {d N nc Ls : Nat} {Xs : Nat → Int32} (hd : 9 ≤ d) {q0 : Nat} (t0 : T12 nc q0) {kx : iv_M → Option (iv_M)} {r : iv_M} {Q : Option Value → iv_H → Prop} (hk : ∀ (h : iv_H) (s : iv_M) (hR : Rep nc Ls Xs h s), kx s = some r → Rn d 321 none 121 [none, none, none] [] h Q) (hq : ∀ h1, Rep nc Ls Xs h1 r → Q none h1) : ∀ (n : Nat) (h : iv_H) (s : iv_M) (hR : Rep nc Ls Xs h s) (m1 : Int32) (x1 : Int) (p1 : m1.toInt = x1), FX12_fillsWho_l99 N q0 kx n s x1 = some r → Rn d 321 none 99 [some (.ref q0), some (.int m1), none] [] h Q := by
  have hT := hX12_fillsWho
  intro n
  induction n with
  | zero =>
    intro h s hR m1 x1 p1 e
    rw [FX12_fillsWho_l99] at e
    cases e
  | succ n ih =>
    intro h s hR m1 x1 p1 e
    rw [FX12_fillsWho_l99] at e
    refine Rn.n hT 2 (pc' := 101) (L' := [some (.ref q0), some (.int m1), none]) (st' := [.ref q0, .int m1]) rfl ?_
    refine Rn.hp hT rfl rfl (gR_hp (rp_gR hR (T12_o t0) rfl)) ?_
    obtain ⟨z_4123, g_4123, p_4123⟩ : ∃ z : Int32, aL h (q0 + 54) = some z ∧ z.toInt = 72 := rp_aL hR (T12_73 t0) (Or.inl rfl) (T12_73l t0)
    refine Rn.hp hT rfl rfl (aL_hp g_4123) ?_
    by_cases c_4124 : 72 ≤ x1
    · rw [if_pos c_4124] at e
      refine Rn.bt hT rfl rfl rfl (decide_eq_true ((ti_le p_4123 p1).mpr c_4124)) ?_
      exact Rn.weak (ll_n (ll_n (ll_n ll_e))) (hk h s hR e)
    · rw [if_neg c_4124] at e
      refine Rn.bf hT rfl rfl rfl (decide_eq_false (fun z => c_4124 ((ti_le p_4123 p1).mp z))) ?_
      refine Rn.n hT 1 (pc' := 109) (L' := [some (.ref q0), some (.int m1), none]) (st' := [.ref q0]) rfl ?_
      refine Rn.hp hT rfl rfl (gR_hp (rp_gR hR (T12_o t0) rfl)) ?_
      refine Rn.n hT 2 (pc' := 114) (L' := [some (.ref q0), some (.int m1), none]) (st' := [.int (0 : Int32), .int m1, .ref (q0 + 54)]) rfl ?_
      obtain ⟨s_4125, e_4126, e⟩ := Option.bind_eq_some_iff.mp e
      obtain ⟨h_4125, g_4126, R_4125⟩ := rp_wI hR (T12_73 t0) (T12_73l t0) p1 L32_0 e_4126
      refine Rn.hp hT rfl rfl (wI_hp g_4126) ?_
      refine Rn.n hT 2 (pc' := 99) (L' := [some (.ref q0), some (.int (m1 + (1 : Int32))), none]) (st' := []) rfl ?_
      exact Rn.weak (ll_s (ll_s (ll_n ll_e))) (ih h_4125 s_4125 R_4125 (m1 + (1 : Int32)) (w32 (x1 + 1)) (ti_add p1 L32_1) e)
def FX12_fillsWho (N : Nat) (s : iv_M) (q0 : Nat) : Option (iv_M) := ((FX12_fillsFloor N s q0 (q0 + 41) 0).bind fun s_4100 => ((rd s_4100 (q0 + 1) 14 8).bind fun v_4101 => ((FX12_followsSome N s_4100 q0 v_4101).bind fun s_4103 => ((FX12_laysFloor N s_4103 q0 (q0 + 41) 0).bind fun s_4105 => (FX12_fillsWho_l31 N q0 (fun (s_4106 : iv_M) => (FX12_fillsWho_l99 N q0 (fun (s_4108 : iv_M) => some s_4108) N s_4106 0)) N s_4105 0)))))
set_option maxRecDepth 10000 in
set_option maxHeartbeats 4000000 in
theorem RX12_fillsWho {d N nc Ls : Nat} {Xs : Nat → Int32} (hd : 10 ≤ d) {h : iv_H} {s : iv_M} (hR : Rep nc Ls Xs h s) {q0 : Nat} (t0 : T12 nc q0) {r : iv_M} {Q : Option Value → iv_H → Prop} (e : FX12_fillsWho N s q0 = some r) (hq : ∀ h1, Rep nc Ls Xs h1 r → Q none h1) : Cl d 321 [.ref q0] h Q := by
  obtain ⟨d, rfl⟩ : ∃ k, d = k + 1 := ⟨d - 1, by omega⟩
  have hd : 9 ≤ d := by omega
  have hT := hX12_fillsWho
  unfold FX12_fillsWho at e
  refine Cl.into (by decide) gX12_fillsWho rfl ?_
  show Rn d 321 none 0 [some (.ref q0), none, none] [] h Q
  refine Rn.n hT 2 (pc' := 2) (L' := [some (.ref q0), none, none]) (st' := [.ref q0, .ref q0]) rfl ?_
  refine Rn.hp hT rfl rfl (gR_hp (rp_gR hR (T12_o t0) rfl)) ?_
  refine Rn.n hT 1 (pc' := 6) (L' := [some (.ref q0), none, none]) (st' := [.int (0 : Int32), .ref (q0 + 41), .ref q0]) rfl ?_
  obtain ⟨s_4100, e_4099, e⟩ := Option.bind_eq_some_iff.mp e
  refine Rn.call hT rfl rfl rfl (Nat.le_of_ble_eq_true rfl) (rcv_v gX12_fillsFloor (by omega) (rp_ck hR (T12_o t0))) (RX12_fillsFloor (by omega) hR t0 (T12_55 t0) L32_0 e_4099 (fun h_4100 R_4100 => ?_))
  show Rn d _ _ 9 [some (.ref q0), none, none] [] h_4100 Q
  refine Rn.n hT 2 (pc' := 11) (L' := [some (.ref q0), none, none]) (st' := [.ref q0, .ref q0]) rfl ?_
  refine Rn.hp hT rfl rfl (gR_hp (rp_gR R_4100 (T12_o t0) rfl)) ?_
  refine Rn.n hT 1 (pc' := 16) (L' := [some (.ref q0), none, none]) (st' := [.int (8 : Int32), .ref (q0 + 1), .ref q0]) rfl ?_
  obtain ⟨v_4101, e_4101, e⟩ := Option.bind_eq_some_iff.mp e
  obtain ⟨z_4101, g_4101, p_4101⟩ := rp_aI R_4100 (T12_1 t0) (T12_1l t0) L32_8 e_4101
  refine Rn.hp hT rfl rfl (aI_hp g_4101) ?_
  obtain ⟨s_4103, e_4102, e⟩ := Option.bind_eq_some_iff.mp e
  refine Rn.call hT rfl rfl rfl (Nat.le_of_ble_eq_true rfl) (rcv_v gX12_followsSome (by omega) (rp_ck R_4100 (T12_o t0))) (RX12_followsSome (by omega) R_4100 t0 p_4101 e_4102 (fun h_4103 R_4103 => ?_))
  show Rn d _ _ 20 [some (.ref q0), none, none] [] h_4103 Q
  refine Rn.n hT 2 (pc' := 22) (L' := [some (.ref q0), none, none]) (st' := [.ref q0, .ref q0]) rfl ?_
  refine Rn.hp hT rfl rfl (gR_hp (rp_gR R_4103 (T12_o t0) rfl)) ?_
  refine Rn.n hT 1 (pc' := 26) (L' := [some (.ref q0), none, none]) (st' := [.int (0 : Int32), .ref (q0 + 41), .ref q0]) rfl ?_
  obtain ⟨s_4105, e_4104, e⟩ := Option.bind_eq_some_iff.mp e
  refine Rn.call hT rfl rfl rfl (Nat.le_of_ble_eq_true rfl) (rcv_v gX12_laysFloor (by omega) (rp_ck R_4103 (T12_o t0))) (RX12_laysFloor (by omega) R_4103 t0 (T12_55 t0) L32_0 e_4104 (fun h_4105 R_4105 => ?_))
  show Rn d _ _ 29 [some (.ref q0), none, none] [] h_4105 Q
  refine Rn.n hT 2 (pc' := 31) (L' := [some (.ref q0), some (.int (0 : Int32)), none]) (st' := []) rfl ?_
  refine Rn.weak (ll_s (ll_s (ll_n ll_e))) (RX12_fillsWho_l31 hd t0 (fun h_4106 s_4106 R_4106 e => ?_) hq N h_4105 s_4105 R_4105 (0 : Int32) 0 L32_0 e)
  try dsimp only at e
  refine Rn.n hT 2 (pc' := 99) (L' := [some (.ref q0), some (.int (0 : Int32)), none]) (st' := []) rfl ?_
  refine Rn.weak (ll_s (ll_s (ll_n ll_e))) (RX12_fillsWho_l99 hd t0 (fun h_4108 s_4108 R_4108 e => ?_) hq N h_4106 s_4106 R_4106 (0 : Int32) 0 L32_0 e)
  try dsimp only at e
  obtain rfl := Option.some.inj e
  exact Rn.ret hT rfl rfl rfl (hq h_4108 R_4108)
set_option maxRecDepth 10000 in
theorem hX12_notesBeds : iv_Tb 322 tX12_notesBeds := iv_tb_of (m := mX12_notesBeds) rfl
set_option maxRecDepth 10000 in
theorem gX12_notesBeds : PG.2 322 = some mX12_notesBeds := iv_pi_of (t := tX12_notesBeds) rfl (by decide)
def FX12_notesBeds_b51 (N : Nat) (s : iv_M) (q0 : Nat) (x1 : Int) (x2 : Int) (x3 : Int) (xs0 : Int) (xs1 : Int) (qs2 : Nat) (kb : iv_M → Int → Option (iv_M)) (kx : iv_M → Option (iv_M)) : Option (iv_M) := ((wr s qs2 ((sh qs2).2 : Int) xs1 xs0).bind fun s_4137 => (kb s_4137 (w32 (x3 + 1))))
set_option maxRecDepth 10000 in
set_option maxHeartbeats 4000000 in
theorem RX12_notesBeds_b51 {d N nc Ls : Nat} {Xs : Nat → Int32} (hd : 0 ≤ d) {h : iv_H} {s : iv_M} (hR : Rep nc Ls Xs h s) {q0 : Nat} (t0 : T12 nc q0) {m1 : Int32} {x1 : Int} (p1 : m1.toInt = x1) {m2 : Int32} {x2 : Int} (p2 : m2.toInt = x2) {m3 : Int32} {x3 : Int} (p3 : m3.toInt = x3) {ms0 : Int32} {xs0 : Int} (ps0 : ms0.toInt = xs0) {ms1 : Int32} {xs1 : Int} (ps1 : ms1.toInt = xs1) {qs2 : Nat} (ts2 : TA 0 nc qs2) {kb : iv_M → Int → Option (iv_M)} {kx : iv_M → Option (iv_M)} {r : iv_M} {Q : Option Value → iv_H → Prop} (hb : ∀ (h : iv_H) (s : iv_M) (hR : Rep nc Ls Xs h s) (mw3 : Int32) (xw3 : Int) (pw3 : mw3.toInt = xw3), kb s xw3 = some r → Rn d 322 none 2 [some (.ref q0), some (.int m1), some (.int m2), some (.int mw3)] [] h Q) (hk : ∀ (h : iv_H) (s : iv_M) (hR : Rep nc Ls Xs h s), kx s = some r → Rn d 322 none 58 [none, none, none, none] [] h Q) (hq : ∀ h1, Rep nc Ls Xs h1 r → Q none h1) (e : FX12_notesBeds_b51 N s q0 x1 x2 x3 xs0 xs1 qs2 kb kx = some r) : Rn d 322 none 51 [some (.ref q0), some (.int m1), some (.int m2), some (.int m3)] [.int ms0, .int ms1, .ref qs2] h Q := by
  have hT := hX12_notesBeds
  unfold FX12_notesBeds_b51 at e
  obtain ⟨s_4137, e_4138, e⟩ := Option.bind_eq_some_iff.mp e
  obtain ⟨h_4137, g_4138, R_4137⟩ := rp_wI hR ts2 rfl ps1 ps0 e_4138
  refine Rn.hp hT rfl rfl (wI_hp g_4138) ?_
  refine Rn.n hT 2 (pc' := 2) (L' := [some (.ref q0), some (.int m1), some (.int m2), some (.int (m3 + (1 : Int32)))]) (st' := []) rfl ?_
  exact Rn.weak (ll_s (ll_s (ll_s (ll_s ll_e)))) (hb h_4137 s_4137 R_4137 (m3 + (1 : Int32)) (w32 (x3 + 1)) (ti_add p3 L32_1) e)
def FX12_notesBeds_l2 (N : Nat) (q0 : Nat) (x1 : Int) (x2 : Int) (kx : iv_M → Option (iv_M)) : Nat → iv_M → Int → Option (iv_M)
  | 0, _, _ => none
  | n + 1, s, x3 => (if x1 ≤ x3 then (kx s) else ((rd s (q0 + 51) 7 x3).bind fun v_4130 => ((rd s (q0 + 54) 72 (w32 ((w32 (12 * x3)) + v_4130))).bind fun v_4131 => ((wr s (q0 + 54) 72 (w32 ((w32 (12 * x3)) + v_4130)) (w32 (v_4131 + 1))).bind fun s_4132 => (if x2 = 0 then ((rd s_4132 (q0 + 53) 6 x3).bind fun v_4135 => (FX12_notesBeds_b51 N s_4132 q0 x1 x2 x3 v_4135 x3 (q0 + 53) (FX12_notesBeds_l2 N q0 x1 x2 kx n) kx)) else ((rd s_4132 (q0 + 51) 7 x3).bind fun v_4136 => (FX12_notesBeds_b51 N s_4132 q0 x1 x2 x3 v_4136 x3 (q0 + 53) (FX12_notesBeds_l2 N q0 x1 x2 kx n) kx)))))))
set_option maxRecDepth 10000 in
set_option maxHeartbeats 4000000 in
theorem RX12_notesBeds_l2 {d N nc Ls : Nat} {Xs : Nat → Int32} (hd : 0 ≤ d) {q0 : Nat} (t0 : T12 nc q0) {m1 : Int32} {x1 : Int} (p1 : m1.toInt = x1) {m2 : Int32} {x2 : Int} (p2 : m2.toInt = x2) {kx : iv_M → Option (iv_M)} {r : iv_M} {Q : Option Value → iv_H → Prop} (hk : ∀ (h : iv_H) (s : iv_M) (hR : Rep nc Ls Xs h s), kx s = some r → Rn d 322 none 58 [none, none, none, none] [] h Q) (hq : ∀ h1, Rep nc Ls Xs h1 r → Q none h1) : ∀ (n : Nat) (h : iv_H) (s : iv_M) (hR : Rep nc Ls Xs h s) (m3 : Int32) (x3 : Int) (p3 : m3.toInt = x3), FX12_notesBeds_l2 N q0 x1 x2 kx n s x3 = some r → Rn d 322 none 2 [some (.ref q0), some (.int m1), some (.int m2), some (.int m3)] [] h Q := by
  have hT := hX12_notesBeds
  intro n
  induction n with
  | zero =>
    intro h s hR m3 x3 p3 e
    rw [FX12_notesBeds_l2] at e
    cases e
  | succ n ih =>
    intro h s hR m3 x3 p3 e
    rw [FX12_notesBeds_l2] at e
    refine Rn.n hT 2 (pc' := 4) (L' := [some (.ref q0), some (.int m1), some (.int m2), some (.int m3)]) (st' := [.int m1, .int m3]) rfl ?_
    by_cases c_4129 : x1 ≤ x3
    · rw [if_pos c_4129] at e
      refine Rn.bt hT rfl rfl rfl (decide_eq_true ((ti_le p1 p3).mpr c_4129)) ?_
      exact Rn.weak (ll_n (ll_n (ll_n (ll_n ll_e)))) (hk h s hR e)
    · rw [if_neg c_4129] at e
      refine Rn.bf hT rfl rfl rfl (decide_eq_false (fun z => c_4129 ((ti_le p1 p3).mp z))) ?_
      refine Rn.n hT 1 (pc' := 8) (L' := [some (.ref q0), some (.int m1), some (.int m2), some (.int m3)]) (st' := [.ref q0]) rfl ?_
      refine Rn.hp hT rfl rfl (gR_hp (rp_gR hR (T12_o t0) rfl)) ?_
      refine Rn.n hT 4 (pc' := 16) (L' := [some (.ref q0), some (.int m1), some (.int m2), some (.int m3)]) (st' := [.ref q0, .int ((12 : Int32) * m3), .ref (q0 + 54)]) rfl ?_
      refine Rn.hp hT rfl rfl (gR_hp (rp_gR hR (T12_o t0) rfl)) ?_
      refine Rn.n hT 1 (pc' := 20) (L' := [some (.ref q0), some (.int m1), some (.int m2), some (.int m3)]) (st' := [.int m3, .ref (q0 + 51), .int ((12 : Int32) * m3), .ref (q0 + 54)]) rfl ?_
      obtain ⟨v_4130, e_4130, e⟩ := Option.bind_eq_some_iff.mp e
      obtain ⟨z_4130, g_4130, p_4130⟩ := rp_aI hR (T12_70 t0) (T12_70l t0) p3 e_4130
      refine Rn.hp hT rfl rfl (aI_hp g_4130) ?_
      refine Rn.n hT 2 (pc' := 23) (L' := [some (.ref q0), some (.int m1), some (.int m2), some (.int m3)]) (st' := [.int (((12 : Int32) * m3) + z_4130), .ref (q0 + 54), .int (((12 : Int32) * m3) + z_4130), .ref (q0 + 54)]) rfl ?_
      obtain ⟨v_4131, e_4131, e⟩ := Option.bind_eq_some_iff.mp e
      obtain ⟨z_4131, g_4131, p_4131⟩ := rp_aI hR (T12_73 t0) (T12_73l t0) (ti_add (ti_mul L32_12 p3) p_4130) e_4131
      refine Rn.hp hT rfl rfl (aI_hp g_4131) ?_
      refine Rn.n hT 2 (pc' := 26) (L' := [some (.ref q0), some (.int m1), some (.int m2), some (.int m3)]) (st' := [.int (z_4131 + (1 : Int32)), .int (((12 : Int32) * m3) + z_4130), .ref (q0 + 54)]) rfl ?_
      obtain ⟨s_4132, e_4133, e⟩ := Option.bind_eq_some_iff.mp e
      obtain ⟨h_4132, g_4133, R_4132⟩ := rp_wI hR (T12_73 t0) (T12_73l t0) (ti_add (ti_mul L32_12 p3) p_4130) (ti_add p_4131 L32_1) e_4133
      refine Rn.hp hT rfl rfl (wI_hp g_4133) ?_
      refine Rn.n hT 1 (pc' := 28) (L' := [some (.ref q0), some (.int m1), some (.int m2), some (.int m3)]) (st' := [.ref q0]) rfl ?_
      refine Rn.hp hT rfl rfl (gR_hp (rp_gR R_4132 (T12_o t0) rfl)) ?_
      refine Rn.n hT 2 (pc' := 33) (L' := [some (.ref q0), some (.int m1), some (.int m2), some (.int m3)]) (st' := [.int m2, .int m3, .ref (q0 + 53)]) rfl ?_
      by_cases c_4134 : x2 = 0
      · rw [if_pos c_4134] at e
        refine Rn.bt hT rfl rfl rfl (decide_eq_true ((ti_e p2 L32_0).mpr c_4134)) ?_
        refine Rn.n hT 1 (pc' := 46) (L' := [some (.ref q0), some (.int m1), some (.int m2), some (.int m3)]) (st' := [.ref q0, .int m3, .ref (q0 + 53)]) rfl ?_
        refine Rn.hp hT rfl rfl (gR_hp (rp_gR R_4132 (T12_o t0) rfl)) ?_
        refine Rn.n hT 1 (pc' := 50) (L' := [some (.ref q0), some (.int m1), some (.int m2), some (.int m3)]) (st' := [.int m3, .ref (q0 + 53), .int m3, .ref (q0 + 53)]) rfl ?_
        obtain ⟨v_4135, e_4135, e⟩ := Option.bind_eq_some_iff.mp e
        obtain ⟨z_4135, g_4135, p_4135⟩ := rp_aI R_4132 (T12_72 t0) (T12_72l t0) p3 e_4135
        refine Rn.hp hT rfl rfl (aI_hp g_4135) ?_
        exact Rn.weak (ll_s (ll_s (ll_s (ll_s ll_e)))) (RX12_notesBeds_b51 hd R_4132 t0 p1 p2 p3 p_4135 p3 (T12_72 t0) ih hk hq e)
      · rw [if_neg c_4134] at e
        refine Rn.bf hT rfl rfl rfl (decide_eq_false (fun z => c_4134 ((ti_e p2 L32_0).mp z))) ?_
        refine Rn.n hT 1 (pc' := 37) (L' := [some (.ref q0), some (.int m1), some (.int m2), some (.int m3)]) (st' := [.ref q0, .int m3, .ref (q0 + 53)]) rfl ?_
        refine Rn.hp hT rfl rfl (gR_hp (rp_gR R_4132 (T12_o t0) rfl)) ?_
        refine Rn.n hT 1 (pc' := 41) (L' := [some (.ref q0), some (.int m1), some (.int m2), some (.int m3)]) (st' := [.int m3, .ref (q0 + 51), .int m3, .ref (q0 + 53)]) rfl ?_
        obtain ⟨v_4136, e_4136, e⟩ := Option.bind_eq_some_iff.mp e
        obtain ⟨z_4136, g_4136, p_4136⟩ := rp_aI R_4132 (T12_70 t0) (T12_70l t0) p3 e_4136
        refine Rn.hp hT rfl rfl (aI_hp g_4136) ?_
        refine Rn.n hT 1 (pc' := 51) (L' := [some (.ref q0), some (.int m1), some (.int m2), some (.int m3)]) (st' := [.int z_4136, .int m3, .ref (q0 + 53)]) rfl ?_
        exact Rn.weak (ll_s (ll_s (ll_s (ll_s ll_e)))) (RX12_notesBeds_b51 hd R_4132 t0 p1 p2 p3 p_4136 p3 (T12_72 t0) ih hk hq e)
def FX12_notesBeds (N : Nat) (s : iv_M) (q0 : Nat) (x1 : Int) (x2 : Int) : Option (iv_M) := (FX12_notesBeds_l2 N q0 x1 x2 (fun (s_4127 : iv_M) => some s_4127) N s 0)
set_option maxRecDepth 10000 in
set_option maxHeartbeats 4000000 in
theorem RX12_notesBeds {d N nc Ls : Nat} {Xs : Nat → Int32} (hd : 1 ≤ d) {h : iv_H} {s : iv_M} (hR : Rep nc Ls Xs h s) {q0 : Nat} (t0 : T12 nc q0) {m1 : Int32} {x1 : Int} (p1 : m1.toInt = x1) {m2 : Int32} {x2 : Int} (p2 : m2.toInt = x2) {r : iv_M} {Q : Option Value → iv_H → Prop} (e : FX12_notesBeds N s q0 x1 x2 = some r) (hq : ∀ h1, Rep nc Ls Xs h1 r → Q none h1) : Cl d 322 [.ref q0, .int m1, .int m2] h Q := by
  obtain ⟨d, rfl⟩ : ∃ k, d = k + 1 := ⟨d - 1, by omega⟩
  have hd : 0 ≤ d := by omega
  have hT := hX12_notesBeds
  unfold FX12_notesBeds at e
  refine Cl.into (by decide) gX12_notesBeds rfl ?_
  show Rn d 322 none 0 [some (.ref q0), some (.int m1), some (.int m2), none] [] h Q
  refine Rn.n hT 2 (pc' := 2) (L' := [some (.ref q0), some (.int m1), some (.int m2), some (.int (0 : Int32))]) (st' := []) rfl ?_
  refine Rn.weak (ll_s (ll_s (ll_s (ll_s ll_e)))) (RX12_notesBeds_l2 hd t0 p1 p2 (fun h_4127 s_4127 R_4127 e => ?_) hq N h s hR (0 : Int32) 0 L32_0 e)
  try dsimp only at e
  obtain rfl := Option.some.inj e
  exact Rn.ret hT rfl rfl rfl (hq h_4127 R_4127)
set_option maxRecDepth 10000 in
theorem hX12_findsBeds : iv_Tb 323 tX12_findsBeds := iv_tb_of (m := mX12_findsBeds) rfl
set_option maxRecDepth 10000 in
theorem gX12_findsBeds : PG.2 323 = some mX12_findsBeds := iv_pi_of (t := tX12_findsBeds) rfl (by decide)
def FX12_findsBeds_b91 (N : Nat) (s : iv_M) (q0 : Nat) (x1 : Int) (x2 : Int) (x3 : Int) (x4 : Int)  (kb : iv_M → Int → Option (Int × iv_M)) (kx : iv_M → Int → Option (Int × iv_M)) : Option (Int × iv_M) := (kb s (w32 (x4 + 1)))
set_option maxRecDepth 10000 in
set_option maxHeartbeats 4000000 in
theorem RX12_findsBeds_b91 {d N nc Ls : Nat} {Xs : Nat → Int32} (hd : 10 ≤ d) {h : iv_H} {s : iv_M} (hR : Rep nc Ls Xs h s) {q0 : Nat} (t0 : T12 nc q0) {m1 : Int32} {x1 : Int} (p1 : m1.toInt = x1) {m2 : Int32} {x2 : Int} (p2 : m2.toInt = x2) {m3 : Int32} {x3 : Int} (p3 : m3.toInt = x3) {m4 : Int32} {x4 : Int} (p4 : m4.toInt = x4)  {kb : iv_M → Int → Option (Int × iv_M)} {kx : iv_M → Int → Option (Int × iv_M)} {r : Int × iv_M} {Q : Option Value → iv_H → Prop} (hb : ∀ (h : iv_H) (s : iv_M) (hR : Rep nc Ls Xs h s) (mw4 : Int32) (xw4 : Int) (pw4 : mw4.toInt = xw4), kb s xw4 = some r → Rn d 323 (some .int) 51 [some (.ref q0), some (.int m1), some (.int m2), some (.int m3), some (.int mw4)] [] h Q) (hk : ∀ (h : iv_H) (s : iv_M) (hR : Rep nc Ls Xs h s) (mw4 : Int32) (xw4 : Int) (pw4 : mw4.toInt = xw4), kx s xw4 = some r → Rn d 323 (some .int) 97 [some (.ref q0), some (.int m1), some (.int m2), some (.int m3), some (.int mw4)] [] h Q) (hq : ∀ (z : Int32) (h1 : iv_H), z.toInt = r.1 → Rep nc Ls Xs h1 r.2 → Q (some (.int z)) h1) (e : FX12_findsBeds_b91 N s q0 x1 x2 x3 x4  kb kx = some r) : Rn d 323 (some .int) 91 [some (.ref q0), some (.int m1), some (.int m2), some (.int m3), some (.int m4)] [] h Q := by
  have hT := hX12_findsBeds
  unfold FX12_findsBeds_b91 at e
  refine Rn.n hT 2 (pc' := 51) (L' := [some (.ref q0), some (.int m1), some (.int m2), some (.int m3), some (.int (m4 + (1 : Int32)))]) (st' := []) rfl ?_
  exact Rn.weak (ll_s (ll_s (ll_s (ll_s (ll_s ll_e))))) (hb h s hR (m4 + (1 : Int32)) (w32 (x4 + 1)) (ti_add p4 L32_1) e)
def FX12_findsBeds_l51 (N : Nat) (q0 : Nat) (x1 : Int) (x2 : Int) (x3 : Int) (kx : iv_M → Int → Option (Int × iv_M)) : Nat → iv_M → Int → Option (Int × iv_M)
  | 0, _, _ => none
  | n + 1, s, x4 => ((rd s (q0 + 1) 14 2).bind fun v_4154 => (if v_4154 ≤ x4 then (kx s x4) else ((rd s (q0 + 52) 7 x3).bind fun v_4156 => (if (bAn (sr32 v_4156 x4) 1) = 1 then (FX12_findsBeds_b91 N s q0 x1 x2 x3 x4 (FX12_findsBeds_l51 N q0 x1 x2 x3 kx n) kx) else ((rd s (q0 + 50) 6 x3).bind fun v_4158 => (if (bAn (sr32 v_4158 x4) 1) = 0 then (FX12_findsBeds_b91 N s q0 x1 x2 x3 x4 (FX12_findsBeds_l51 N q0 x1 x2 x3 kx n) kx) else (kx s x4)))))))
set_option maxRecDepth 10000 in
set_option maxHeartbeats 4000000 in
theorem RX12_findsBeds_l51 {d N nc Ls : Nat} {Xs : Nat → Int32} (hd : 10 ≤ d) {q0 : Nat} (t0 : T12 nc q0) {m1 : Int32} {x1 : Int} (p1 : m1.toInt = x1) {m2 : Int32} {x2 : Int} (p2 : m2.toInt = x2) {m3 : Int32} {x3 : Int} (p3 : m3.toInt = x3) {kx : iv_M → Int → Option (Int × iv_M)} {r : Int × iv_M} {Q : Option Value → iv_H → Prop} (hk : ∀ (h : iv_H) (s : iv_M) (hR : Rep nc Ls Xs h s) (m4 : Int32) (x4 : Int) (p4 : m4.toInt = x4), kx s x4 = some r → Rn d 323 (some .int) 97 [some (.ref q0), some (.int m1), some (.int m2), some (.int m3), some (.int m4)] [] h Q) (hq : ∀ (z : Int32) (h1 : iv_H), z.toInt = r.1 → Rep nc Ls Xs h1 r.2 → Q (some (.int z)) h1) : ∀ (n : Nat) (h : iv_H) (s : iv_M) (hR : Rep nc Ls Xs h s) (m4 : Int32) (x4 : Int) (p4 : m4.toInt = x4), FX12_findsBeds_l51 N q0 x1 x2 x3 kx n s x4 = some r → Rn d 323 (some .int) 51 [some (.ref q0), some (.int m1), some (.int m2), some (.int m3), some (.int m4)] [] h Q := by
  have hT := hX12_findsBeds
  intro n
  induction n with
  | zero =>
    intro h s hR m4 x4 p4 e
    rw [FX12_findsBeds_l51] at e
    cases e
  | succ n ih =>
    intro h s hR m4 x4 p4 e
    rw [FX12_findsBeds_l51] at e
    refine Rn.n hT 2 (pc' := 54) (L' := [some (.ref q0), some (.int m1), some (.int m2), some (.int m3), some (.int m4)]) (st' := [.ref q0, .int m4]) rfl ?_
    refine Rn.hp hT rfl rfl (gR_hp (rp_gR hR (T12_o t0) rfl)) ?_
    refine Rn.n hT 1 (pc' := 58) (L' := [some (.ref q0), some (.int m1), some (.int m2), some (.int m3), some (.int m4)]) (st' := [.int (2 : Int32), .ref (q0 + 1), .int m4]) rfl ?_
    obtain ⟨v_4154, e_4154, e⟩ := Option.bind_eq_some_iff.mp e
    obtain ⟨z_4154, g_4154, p_4154⟩ := rp_aI hR (T12_1 t0) (T12_1l t0) L32_2 e_4154
    refine Rn.hp hT rfl rfl (aI_hp g_4154) ?_
    by_cases c_4155 : v_4154 ≤ x4
    · rw [if_pos c_4155] at e
      refine Rn.bt hT rfl rfl rfl (decide_eq_true ((ti_le p_4154 p4).mpr c_4155)) ?_
      exact Rn.weak (ll_s (ll_s (ll_s (ll_s (ll_s ll_e))))) (hk h s hR m4 x4 p4 e)
    · rw [if_neg c_4155] at e
      refine Rn.bf hT rfl rfl rfl (decide_eq_false (fun z => c_4155 ((ti_le p_4154 p4).mp z))) ?_
      refine Rn.n hT 1 (pc' := 63) (L' := [some (.ref q0), some (.int m1), some (.int m2), some (.int m3), some (.int m4)]) (st' := [.ref q0]) rfl ?_
      refine Rn.hp hT rfl rfl (gR_hp (rp_gR hR (T12_o t0) rfl)) ?_
      refine Rn.n hT 1 (pc' := 67) (L' := [some (.ref q0), some (.int m1), some (.int m2), some (.int m3), some (.int m4)]) (st' := [.int m3, .ref (q0 + 52)]) rfl ?_
      obtain ⟨v_4156, e_4156, e⟩ := Option.bind_eq_some_iff.mp e
      obtain ⟨z_4156, g_4156, p_4156⟩ := rp_aI hR (T12_71 t0) (T12_71l t0) p3 e_4156
      refine Rn.hp hT rfl rfl (aI_hp g_4156) ?_
      refine Rn.n hT 5 (pc' := 74) (L' := [some (.ref q0), some (.int m1), some (.int m2), some (.int m3), some (.int m4)]) (st' := [.int (1 : Int32), .int ((z_4156 >>> (m4 &&& 31)) &&& (1 : Int32))]) rfl ?_
      by_cases c_4157 : (bAn (sr32 v_4156 x4) 1) = 1
      · rw [if_pos c_4157] at e
        refine Rn.bt hT rfl rfl rfl (decide_eq_true ((ti_e (ti_and (ti_shr p_4156 p4) L32_1) L32_1).mpr c_4157)) ?_
        exact Rn.weak (ll_s (ll_s (ll_s (ll_s (ll_s ll_e))))) (RX12_findsBeds_b91 hd hR t0 p1 p2 p3 p4 ih hk hq e)
      · rw [if_neg c_4157] at e
        refine Rn.bf hT rfl rfl rfl (decide_eq_false (fun z => c_4157 ((ti_e (ti_and (ti_shr p_4156 p4) L32_1) L32_1).mp z))) ?_
        refine Rn.n hT 1 (pc' := 78) (L' := [some (.ref q0), some (.int m1), some (.int m2), some (.int m3), some (.int m4)]) (st' := [.ref q0]) rfl ?_
        refine Rn.hp hT rfl rfl (gR_hp (rp_gR hR (T12_o t0) rfl)) ?_
        refine Rn.n hT 1 (pc' := 82) (L' := [some (.ref q0), some (.int m1), some (.int m2), some (.int m3), some (.int m4)]) (st' := [.int m3, .ref (q0 + 50)]) rfl ?_
        obtain ⟨v_4158, e_4158, e⟩ := Option.bind_eq_some_iff.mp e
        obtain ⟨z_4158, g_4158, p_4158⟩ := rp_aI hR (T12_69 t0) (T12_69l t0) p3 e_4158
        refine Rn.hp hT rfl rfl (aI_hp g_4158) ?_
        refine Rn.n hT 4 (pc' := 88) (L' := [some (.ref q0), some (.int m1), some (.int m2), some (.int m3), some (.int m4)]) (st' := [.int ((z_4158 >>> (m4 &&& 31)) &&& (1 : Int32))]) rfl ?_
        by_cases c_4159 : (bAn (sr32 v_4158 x4) 1) = 0
        · rw [if_pos c_4159] at e
          refine Rn.bf hT rfl rfl rfl (decide_eq_false (fun z => z ((ti_e (ti_and (ti_shr p_4158 p4) L32_1) L32_0).mpr c_4159))) ?_
          exact Rn.weak (ll_s (ll_s (ll_s (ll_s (ll_s ll_e))))) (RX12_findsBeds_b91 hd hR t0 p1 p2 p3 p4 ih hk hq e)
        · rw [if_neg c_4159] at e
          refine Rn.bt hT rfl rfl rfl (decide_eq_true (fun z => c_4159 ((ti_e (ti_and (ti_shr p_4158 p4) L32_1) L32_0).mp z))) ?_
          exact Rn.weak (ll_s (ll_s (ll_s (ll_s (ll_s ll_e))))) (hk h s hR m4 x4 p4 e)
def FX12_findsBeds_b179 (N : Nat) (s : iv_M) (q0 : Nat) (x1 : Int) (x2 : Int) (x3 : Int)  (kb : iv_M → Int → Int → Option (Int × iv_M)) (kx : iv_M → Int → Option (Int × iv_M)) : Option (Int × iv_M) := (kb s x2 x3)
set_option maxRecDepth 10000 in
set_option maxHeartbeats 4000000 in
theorem RX12_findsBeds_b179 {d N nc Ls : Nat} {Xs : Nat → Int32} (hd : 10 ≤ d) {h : iv_H} {s : iv_M} (hR : Rep nc Ls Xs h s) {q0 : Nat} (t0 : T12 nc q0) {m1 : Int32} {x1 : Int} (p1 : m1.toInt = x1) {m2 : Int32} {x2 : Int} (p2 : m2.toInt = x2) {m3 : Int32} {x3 : Int} (p3 : m3.toInt = x3)  {kb : iv_M → Int → Int → Option (Int × iv_M)} {kx : iv_M → Int → Option (Int × iv_M)} {r : Int × iv_M} {Q : Option Value → iv_H → Prop} (hb : ∀ (h : iv_H) (s : iv_M) (hR : Rep nc Ls Xs h s) (mw2 : Int32) (xw2 : Int) (pw2 : mw2.toInt = xw2) (mw3 : Int32) (xw3 : Int) (pw3 : mw3.toInt = xw3), kb s xw2 xw3 = some r → Rn d 323 (some .int) 37 [some (.ref q0), some (.int m1), some (.int mw2), some (.int mw3), none] [] h Q) (hk : ∀ (h : iv_H) (s : iv_M) (hR : Rep nc Ls Xs h s) (mw2 : Int32) (xw2 : Int) (pw2 : mw2.toInt = xw2), kx s xw2 = some r → Rn d 323 (some .int) 182 [none, some (.int m1), some (.int mw2), none, none] [] h Q) (hq : ∀ (z : Int32) (h1 : iv_H), z.toInt = r.1 → Rep nc Ls Xs h1 r.2 → Q (some (.int z)) h1) (e : FX12_findsBeds_b179 N s q0 x1 x2 x3  kb kx = some r) : Rn d 323 (some .int) 179 [some (.ref q0), some (.int m1), some (.int m2), some (.int m3), none] [] h Q := by
  have hT := hX12_findsBeds
  unfold FX12_findsBeds_b179 at e
  refine Rn.n hT 1 (pc' := 37) (L' := [some (.ref q0), some (.int m1), some (.int m2), some (.int m3), none]) (st' := []) rfl ?_
  exact Rn.weak (ll_s (ll_s (ll_s (ll_s (ll_n ll_e))))) (hb h s hR m2 x2 p2 m3 x3 p3 e)
def FX12_findsBeds_b144 (N : Nat) (s : iv_M) (q0 : Nat) (x1 : Int) (x2 : Int) (x3 : Int) (xs0 : Int) (xs1 : Int) (qs2 : Nat) (kb : iv_M → Int → Int → Option (Int × iv_M)) (kx : iv_M → Int → Option (Int × iv_M)) : Option (Int × iv_M) := ((FX12_notesBeds N s qs2 xs1 xs0).bind fun s_4172 => (FX12_findsBeds_b179 N s_4172 q0 x1 x2 x3 kb kx))
set_option maxRecDepth 10000 in
set_option maxHeartbeats 4000000 in
theorem RX12_findsBeds_b144 {d N nc Ls : Nat} {Xs : Nat → Int32} (hd : 10 ≤ d) {h : iv_H} {s : iv_M} (hR : Rep nc Ls Xs h s) {q0 : Nat} (t0 : T12 nc q0) {m1 : Int32} {x1 : Int} (p1 : m1.toInt = x1) {m2 : Int32} {x2 : Int} (p2 : m2.toInt = x2) {m3 : Int32} {x3 : Int} (p3 : m3.toInt = x3) {ms0 : Int32} {xs0 : Int} (ps0 : ms0.toInt = xs0) {ms1 : Int32} {xs1 : Int} (ps1 : ms1.toInt = xs1) {qs2 : Nat} (ts2 : T12 nc qs2) {kb : iv_M → Int → Int → Option (Int × iv_M)} {kx : iv_M → Int → Option (Int × iv_M)} {r : Int × iv_M} {Q : Option Value → iv_H → Prop} (hb : ∀ (h : iv_H) (s : iv_M) (hR : Rep nc Ls Xs h s) (mw2 : Int32) (xw2 : Int) (pw2 : mw2.toInt = xw2) (mw3 : Int32) (xw3 : Int) (pw3 : mw3.toInt = xw3), kb s xw2 xw3 = some r → Rn d 323 (some .int) 37 [some (.ref q0), some (.int m1), some (.int mw2), some (.int mw3), none] [] h Q) (hk : ∀ (h : iv_H) (s : iv_M) (hR : Rep nc Ls Xs h s) (mw2 : Int32) (xw2 : Int) (pw2 : mw2.toInt = xw2), kx s xw2 = some r → Rn d 323 (some .int) 182 [none, some (.int m1), some (.int mw2), none, none] [] h Q) (hq : ∀ (z : Int32) (h1 : iv_H), z.toInt = r.1 → Rep nc Ls Xs h1 r.2 → Q (some (.int z)) h1) (e : FX12_findsBeds_b144 N s q0 x1 x2 x3 xs0 xs1 qs2 kb kx = some r) : Rn d 323 (some .int) 144 [some (.ref q0), some (.int m1), some (.int m2), some (.int m3), none] [.int ms0, .int ms1, .ref qs2] h Q := by
  have hT := hX12_findsBeds
  unfold FX12_findsBeds_b144 at e
  obtain ⟨s_4172, e_4171, e⟩ := Option.bind_eq_some_iff.mp e
  refine Rn.call hT rfl rfl rfl (Nat.le_of_ble_eq_true rfl) (rcv_v gX12_notesBeds (by omega) (rp_ck hR (T12_o ts2))) (RX12_notesBeds (by omega) hR ts2 ps1 ps0 e_4171 (fun h_4172 R_4172 => ?_))
  show Rn d _ _ 147 [some (.ref q0), some (.int m1), some (.int m2), some (.int m3), none] [] h_4172 Q
  refine Rn.n hT 1 (pc' := 179) (L' := [some (.ref q0), some (.int m1), some (.int m2), some (.int m3), none]) (st' := []) rfl ?_
  exact Rn.weak (ll_s (ll_s (ll_s (ll_s (ll_n ll_e))))) (RX12_findsBeds_b179 hd R_4172 t0 p1 p2 p3 hb hk hq e)
def FX12_findsBeds_b97 (N : Nat) (s : iv_M) (q0 : Nat) (x1 : Int) (x2 : Int) (x3 : Int) (x4 : Int)  (kb : iv_M → Int → Int → Option (Int × iv_M)) (kx : iv_M → Int → Option (Int × iv_M)) : Option (Int × iv_M) := ((wr s (q0 + 51) 7 x3 x4).bind fun s_4160 => ((rd s_4160 (q0 + 1) 14 2).bind fun v_4162 => (if x4 = v_4162 then (FX12_findsBeds_b179 N s_4160 q0 x1 x2 (w32 (x3 + (-1))) kb kx) else (if x3 = (w32 (x1 - 1)) then (if (w32 (x2 + 1)) = 1 then (FX12_findsBeds_b144 N s_4160 q0 x1 (w32 (x2 + 1)) x3 1 x1 q0 kb kx) else (FX12_findsBeds_b144 N s_4160 q0 x1 (w32 (x2 + 1)) x3 0 x1 q0 kb kx)) else ((rd s_4160 (q0 + 52) 7 x3).bind fun v_4165 => ((wr s_4160 (q0 + 52) 7 (w32 (x3 + 1)) (bOr v_4165 (sl32 1 x4))).bind fun s_4166 => ((wr s_4166 (q0 + 51) 7 (w32 (x3 + 1)) (-1)).bind fun s_4168 => (FX12_findsBeds_b179 N s_4168 q0 x1 x2 (w32 (x3 + 1)) kb kx))))))))
set_option maxRecDepth 10000 in
set_option maxHeartbeats 4000000 in
theorem RX12_findsBeds_b97 {d N nc Ls : Nat} {Xs : Nat → Int32} (hd : 10 ≤ d) {h : iv_H} {s : iv_M} (hR : Rep nc Ls Xs h s) {q0 : Nat} (t0 : T12 nc q0) {m1 : Int32} {x1 : Int} (p1 : m1.toInt = x1) {m2 : Int32} {x2 : Int} (p2 : m2.toInt = x2) {m3 : Int32} {x3 : Int} (p3 : m3.toInt = x3) {m4 : Int32} {x4 : Int} (p4 : m4.toInt = x4)  {kb : iv_M → Int → Int → Option (Int × iv_M)} {kx : iv_M → Int → Option (Int × iv_M)} {r : Int × iv_M} {Q : Option Value → iv_H → Prop} (hb : ∀ (h : iv_H) (s : iv_M) (hR : Rep nc Ls Xs h s) (mw2 : Int32) (xw2 : Int) (pw2 : mw2.toInt = xw2) (mw3 : Int32) (xw3 : Int) (pw3 : mw3.toInt = xw3), kb s xw2 xw3 = some r → Rn d 323 (some .int) 37 [some (.ref q0), some (.int m1), some (.int mw2), some (.int mw3), none] [] h Q) (hk : ∀ (h : iv_H) (s : iv_M) (hR : Rep nc Ls Xs h s) (mw2 : Int32) (xw2 : Int) (pw2 : mw2.toInt = xw2), kx s xw2 = some r → Rn d 323 (some .int) 182 [none, some (.int m1), some (.int mw2), none, none] [] h Q) (hq : ∀ (z : Int32) (h1 : iv_H), z.toInt = r.1 → Rep nc Ls Xs h1 r.2 → Q (some (.int z)) h1) (e : FX12_findsBeds_b97 N s q0 x1 x2 x3 x4  kb kx = some r) : Rn d 323 (some .int) 97 [some (.ref q0), some (.int m1), some (.int m2), some (.int m3), some (.int m4)] [] h Q := by
  have hT := hX12_findsBeds
  unfold FX12_findsBeds_b97 at e
  refine Rn.n hT 1 (pc' := 98) (L' := [some (.ref q0), some (.int m1), some (.int m2), some (.int m3), some (.int m4)]) (st' := [.ref q0]) rfl ?_
  refine Rn.hp hT rfl rfl (gR_hp (rp_gR hR (T12_o t0) rfl)) ?_
  refine Rn.n hT 2 (pc' := 104) (L' := [some (.ref q0), some (.int m1), some (.int m2), some (.int m3), some (.int m4)]) (st' := [.int m4, .int m3, .ref (q0 + 51)]) rfl ?_
  obtain ⟨s_4160, e_4161, e⟩ := Option.bind_eq_some_iff.mp e
  obtain ⟨h_4160, g_4161, R_4160⟩ := rp_wI hR (T12_70 t0) (T12_70l t0) p3 p4 e_4161
  refine Rn.hp hT rfl rfl (wI_hp g_4161) ?_
  refine Rn.n hT 2 (pc' := 108) (L' := [some (.ref q0), some (.int m1), some (.int m2), some (.int m3), some (.int m4)]) (st' := [.ref q0, .int m4]) rfl ?_
  refine Rn.hp hT rfl rfl (gR_hp (rp_gR R_4160 (T12_o t0) rfl)) ?_
  refine Rn.n hT 1 (pc' := 112) (L' := [some (.ref q0), some (.int m1), some (.int m2), some (.int m3), some (.int m4)]) (st' := [.int (2 : Int32), .ref (q0 + 1), .int m4]) rfl ?_
  obtain ⟨v_4162, e_4162, e⟩ := Option.bind_eq_some_iff.mp e
  obtain ⟨z_4162, g_4162, p_4162⟩ := rp_aI R_4160 (T12_1 t0) (T12_1l t0) L32_2 e_4162
  refine Rn.hp hT rfl rfl (aI_hp g_4162) ?_
  by_cases c_4163 : x4 = v_4162
  · rw [if_pos c_4163] at e
    refine Rn.bf hT rfl rfl rfl (decide_eq_false (fun z => z ((ti_e p4 p_4162).mpr c_4163))) ?_
    refine Rn.n hT 2 (pc' := 179) (L' := [some (.ref q0), some (.int m1), some (.int m2), some (.int (m3 + (-1 : Int32))), some (.int m4)]) (st' := []) rfl ?_
    exact Rn.weak (ll_s (ll_s (ll_s (ll_s (ll_n ll_e))))) (RX12_findsBeds_b179 hd R_4160 t0 p1 p2 (ti_add p3 L32_m1) hb hk hq e)
  · rw [if_neg c_4163] at e
    refine Rn.bt hT rfl rfl rfl (decide_eq_true (fun z => c_4163 ((ti_e p4 p_4162).mp z))) ?_
    refine Rn.n hT 4 (pc' := 126) (L' := [some (.ref q0), some (.int m1), some (.int m2), some (.int m3), some (.int m4)]) (st' := [.int (m1 - (1 : Int32)), .int m3]) rfl ?_
    by_cases c_4164 : x3 = (w32 (x1 - 1))
    · rw [if_pos c_4164] at e
      refine Rn.bf hT rfl rfl rfl (decide_eq_false (fun z => z ((ti_e p3 (ti_sub p1 L32_1)).mpr c_4164))) ?_
      refine Rn.n hT 5 (pc' := 136) (L' := [some (.ref q0), some (.int m1), some (.int (m2 + (1 : Int32))), some (.int m3), some (.int m4)]) (st' := [.int (1 : Int32), .int (m2 + (1 : Int32)), .int m1, .ref q0]) rfl ?_
      by_cases c_4170 : (w32 (x2 + 1)) = 1
      · rw [if_pos c_4170] at e
        refine Rn.bf hT rfl rfl rfl (decide_eq_false (fun z => z ((ti_e (ti_add p2 L32_1) L32_1).mpr c_4170))) ?_
        refine Rn.n hT 2 (pc' := 144) (L' := [some (.ref q0), some (.int m1), some (.int (m2 + (1 : Int32))), some (.int m3), some (.int m4)]) (st' := [.int (1 : Int32), .int m1, .ref q0]) rfl ?_
        exact Rn.weak (ll_s (ll_s (ll_s (ll_s (ll_n ll_e))))) (RX12_findsBeds_b144 hd R_4160 t0 p1 (ti_add p2 L32_1) p3 L32_1 p1 t0 hb hk hq e)
      · rw [if_neg c_4170] at e
        refine Rn.bt hT rfl rfl rfl (decide_eq_true (fun z => c_4170 ((ti_e (ti_add p2 L32_1) L32_1).mp z))) ?_
        refine Rn.n hT 1 (pc' := 144) (L' := [some (.ref q0), some (.int m1), some (.int (m2 + (1 : Int32))), some (.int m3), some (.int m4)]) (st' := [.int (0 : Int32), .int m1, .ref q0]) rfl ?_
        exact Rn.weak (ll_s (ll_s (ll_s (ll_s (ll_n ll_e))))) (RX12_findsBeds_b144 hd R_4160 t0 p1 (ti_add p2 L32_1) p3 L32_0 p1 t0 hb hk hq e)
    · rw [if_neg c_4164] at e
      refine Rn.bt hT rfl rfl rfl (decide_eq_true (fun z => c_4164 ((ti_e p3 (ti_sub p1 L32_1)).mp z))) ?_
      refine Rn.n hT 1 (pc' := 151) (L' := [some (.ref q0), some (.int m1), some (.int m2), some (.int m3), some (.int m4)]) (st' := [.ref q0]) rfl ?_
      refine Rn.hp hT rfl rfl (gR_hp (rp_gR R_4160 (T12_o t0) rfl)) ?_
      refine Rn.n hT 4 (pc' := 158) (L' := [some (.ref q0), some (.int m1), some (.int m2), some (.int m3), some (.int m4)]) (st' := [.ref q0, .int (m3 + (1 : Int32)), .ref (q0 + 52)]) rfl ?_
      refine Rn.hp hT rfl rfl (gR_hp (rp_gR R_4160 (T12_o t0) rfl)) ?_
      refine Rn.n hT 1 (pc' := 162) (L' := [some (.ref q0), some (.int m1), some (.int m2), some (.int m3), some (.int m4)]) (st' := [.int m3, .ref (q0 + 52), .int (m3 + (1 : Int32)), .ref (q0 + 52)]) rfl ?_
      obtain ⟨v_4165, e_4165, e⟩ := Option.bind_eq_some_iff.mp e
      obtain ⟨z_4165, g_4165, p_4165⟩ := rp_aI R_4160 (T12_71 t0) (T12_71l t0) p3 e_4165
      refine Rn.hp hT rfl rfl (aI_hp g_4165) ?_
      refine Rn.n hT 4 (pc' := 168) (L' := [some (.ref q0), some (.int m1), some (.int m2), some (.int m3), some (.int m4)]) (st' := [.int (z_4165 ||| ((1 : Int32) <<< (m4 &&& 31))), .int (m3 + (1 : Int32)), .ref (q0 + 52)]) rfl ?_
      obtain ⟨s_4166, e_4167, e⟩ := Option.bind_eq_some_iff.mp e
      obtain ⟨h_4166, g_4167, R_4166⟩ := rp_wI R_4160 (T12_71 t0) (T12_71l t0) (ti_add p3 L32_1) (ti_or p_4165 (ti_shl L32_1 p4)) e_4167
      refine Rn.hp hT rfl rfl (wI_hp g_4167) ?_
      refine Rn.n hT 2 (pc' := 173) (L' := [some (.ref q0), some (.int m1), some (.int m2), some (.int (m3 + (1 : Int32))), some (.int m4)]) (st' := [.ref q0]) rfl ?_
      refine Rn.hp hT rfl rfl (gR_hp (rp_gR R_4166 (T12_o t0) rfl)) ?_
      refine Rn.n hT 2 (pc' := 178) (L' := [some (.ref q0), some (.int m1), some (.int m2), some (.int (m3 + (1 : Int32))), some (.int m4)]) (st' := [.int (-1 : Int32), .int (m3 + (1 : Int32)), .ref (q0 + 51)]) rfl ?_
      obtain ⟨s_4168, e_4169, e⟩ := Option.bind_eq_some_iff.mp e
      obtain ⟨h_4168, g_4169, R_4168⟩ := rp_wI R_4166 (T12_70 t0) (T12_70l t0) (ti_add p3 L32_1) L32_m1 e_4169
      refine Rn.hp hT rfl rfl (wI_hp g_4169) ?_
      exact Rn.weak (ll_s (ll_s (ll_s (ll_s (ll_n ll_e))))) (RX12_findsBeds_b179 hd R_4168 t0 p1 p2 (ti_add p3 L32_1) hb hk hq e)
def FX12_findsBeds_l37 (N : Nat) (q0 : Nat) (x1 : Int) (kx : iv_M → Int → Option (Int × iv_M)) : Nat → iv_M → Int → Int → Option (Int × iv_M)
  | 0, _, _, _ => none
  | n + 1, s, x2, x3 => (if x3 < 0 then (kx s x2) else ((rd s (q0 + 51) 7 x3).bind fun v_4151 => (FX12_findsBeds_l51 N q0 x1 x2 x3 (fun (s_4152 : iv_M) (x4153_4 : Int) => (FX12_findsBeds_b97 N s_4152 q0 x1 x2 x3 x4153_4 (FX12_findsBeds_l37 N q0 x1 kx n) kx)) N s (w32 (v_4151 + 1)))))
set_option maxRecDepth 10000 in
set_option maxHeartbeats 4000000 in
theorem RX12_findsBeds_l37 {d N nc Ls : Nat} {Xs : Nat → Int32} (hd : 10 ≤ d) {q0 : Nat} (t0 : T12 nc q0) {m1 : Int32} {x1 : Int} (p1 : m1.toInt = x1) {kx : iv_M → Int → Option (Int × iv_M)} {r : Int × iv_M} {Q : Option Value → iv_H → Prop} (hk : ∀ (h : iv_H) (s : iv_M) (hR : Rep nc Ls Xs h s) (m2 : Int32) (x2 : Int) (p2 : m2.toInt = x2), kx s x2 = some r → Rn d 323 (some .int) 182 [none, some (.int m1), some (.int m2), none, none] [] h Q) (hq : ∀ (z : Int32) (h1 : iv_H), z.toInt = r.1 → Rep nc Ls Xs h1 r.2 → Q (some (.int z)) h1) : ∀ (n : Nat) (h : iv_H) (s : iv_M) (hR : Rep nc Ls Xs h s) (m2 : Int32) (x2 : Int) (p2 : m2.toInt = x2) (m3 : Int32) (x3 : Int) (p3 : m3.toInt = x3), FX12_findsBeds_l37 N q0 x1 kx n s x2 x3 = some r → Rn d 323 (some .int) 37 [some (.ref q0), some (.int m1), some (.int m2), some (.int m3), none] [] h Q := by
  have hT := hX12_findsBeds
  intro n
  induction n with
  | zero =>
    intro h s hR m2 x2 p2 m3 x3 p3 e
    rw [FX12_findsBeds_l37] at e
    cases e
  | succ n ih =>
    intro h s hR m2 x2 p2 m3 x3 p3 e
    rw [FX12_findsBeds_l37] at e
    refine Rn.n hT 1 (pc' := 38) (L' := [some (.ref q0), some (.int m1), some (.int m2), some (.int m3), none]) (st' := [.int m3]) rfl ?_
    by_cases c_4150 : x3 < 0
    · rw [if_pos c_4150] at e
      refine Rn.bt hT rfl rfl rfl (decide_eq_true ((ti_l p3 L32_0).mpr c_4150)) ?_
      exact Rn.weak (ll_n (ll_s (ll_s (ll_n (ll_n ll_e))))) (hk h s hR m2 x2 p2 e)
    · rw [if_neg c_4150] at e
      refine Rn.bf hT rfl rfl rfl (decide_eq_false (fun z => c_4150 ((ti_l p3 L32_0).mp z))) ?_
      refine Rn.n hT 1 (pc' := 42) (L' := [some (.ref q0), some (.int m1), some (.int m2), some (.int m3), none]) (st' := [.ref q0]) rfl ?_
      refine Rn.hp hT rfl rfl (gR_hp (rp_gR hR (T12_o t0) rfl)) ?_
      refine Rn.n hT 1 (pc' := 46) (L' := [some (.ref q0), some (.int m1), some (.int m2), some (.int m3), none]) (st' := [.int m3, .ref (q0 + 51)]) rfl ?_
      obtain ⟨v_4151, e_4151, e⟩ := Option.bind_eq_some_iff.mp e
      obtain ⟨z_4151, g_4151, p_4151⟩ := rp_aI hR (T12_70 t0) (T12_70l t0) p3 e_4151
      refine Rn.hp hT rfl rfl (aI_hp g_4151) ?_
      refine Rn.n hT 3 (pc' := 51) (L' := [some (.ref q0), some (.int m1), some (.int m2), some (.int m3), some (.int (z_4151 + (1 : Int32)))]) (st' := []) rfl ?_
      refine Rn.weak (ll_s (ll_s (ll_s (ll_s (ll_s ll_e))))) (RX12_findsBeds_l51 hd t0 p1 p2 p3 (fun h_4152 s_4152 R_4152 m4153_4 x4153_4 p4153_4 e => ?_) hq N h s hR (z_4151 + (1 : Int32)) (w32 (v_4151 + 1)) (ti_add p_4151 L32_1) e)
      try dsimp only at e
      exact Rn.weak (ll_s (ll_s (ll_s (ll_s (ll_s ll_e))))) (RX12_findsBeds_b97 hd R_4152 t0 p1 p2 p3 p4153_4 ih hk hq e)
def FX12_findsBeds_b191 (N : Nat) (s : iv_M)  (xs0 : Int) : Option (Int × iv_M) := (some (xs0, s))
set_option maxRecDepth 10000 in
set_option maxHeartbeats 4000000 in
theorem RX12_findsBeds_b191 {d N nc Ls : Nat} {Xs : Nat → Int32} (hd : 10 ≤ d) {h : iv_H} {s : iv_M} (hR : Rep nc Ls Xs h s)  {ms0 : Int32} {xs0 : Int} (ps0 : ms0.toInt = xs0) {r : Int × iv_M} {Q : Option Value → iv_H → Prop} (hq : ∀ (z : Int32) (h1 : iv_H), z.toInt = r.1 → Rep nc Ls Xs h1 r.2 → Q (some (.int z)) h1) (e : FX12_findsBeds_b191 N s  xs0 = some r) : Rn d 323 (some .int) 191 [none, none, none, none, none] [.int ms0] h Q := by
  have hT := hX12_findsBeds
  unfold FX12_findsBeds_b191 at e
  obtain rfl := Option.some.inj e
  exact Rn.ret hT rfl rfl rfl (hq ms0 h ps0 hR)
def FX12_findsBeds_b22 (N : Nat) (s : iv_M) (q0 : Nat) (x1 : Int) (x2 : Int) (xs0 : Int) : Option (Int × iv_M) := ((wr s (q0 + 51) 7 0 (-1)).bind fun s_4143 => ((wr s_4143 (q0 + 52) 7 0 0).bind fun s_4145 => (FX12_findsBeds_l37 N q0 x1 (fun (s_4147 : iv_M) (x4148_2 : Int) => (if x1 = 0 then (FX12_findsBeds_b191 N s_4147 1) else (FX12_findsBeds_b191 N s_4147 x4148_2))) N s_4145 x2 xs0)))
set_option maxRecDepth 10000 in
set_option maxHeartbeats 4000000 in
theorem RX12_findsBeds_b22 {d N nc Ls : Nat} {Xs : Nat → Int32} (hd : 10 ≤ d) {h : iv_H} {s : iv_M} (hR : Rep nc Ls Xs h s) {q0 : Nat} (t0 : T12 nc q0) {m1 : Int32} {x1 : Int} (p1 : m1.toInt = x1) {m2 : Int32} {x2 : Int} (p2 : m2.toInt = x2) {ms0 : Int32} {xs0 : Int} (ps0 : ms0.toInt = xs0) {r : Int × iv_M} {Q : Option Value → iv_H → Prop} (hq : ∀ (z : Int32) (h1 : iv_H), z.toInt = r.1 → Rep nc Ls Xs h1 r.2 → Q (some (.int z)) h1) (e : FX12_findsBeds_b22 N s q0 x1 x2 xs0 = some r) : Rn d 323 (some .int) 22 [some (.ref q0), some (.int m1), some (.int m2), none, none] [.int ms0] h Q := by
  have hT := hX12_findsBeds
  unfold FX12_findsBeds_b22 at e
  refine Rn.n hT 2 (pc' := 24) (L' := [some (.ref q0), some (.int m1), some (.int m2), some (.int ms0), none]) (st' := [.ref q0]) rfl ?_
  refine Rn.hp hT rfl rfl (gR_hp (rp_gR hR (T12_o t0) rfl)) ?_
  refine Rn.n hT 2 (pc' := 29) (L' := [some (.ref q0), some (.int m1), some (.int m2), some (.int ms0), none]) (st' := [.int (-1 : Int32), .int (0 : Int32), .ref (q0 + 51)]) rfl ?_
  obtain ⟨s_4143, e_4144, e⟩ := Option.bind_eq_some_iff.mp e
  obtain ⟨h_4143, g_4144, R_4143⟩ := rp_wI hR (T12_70 t0) (T12_70l t0) L32_0 L32_m1 e_4144
  refine Rn.hp hT rfl rfl (wI_hp g_4144) ?_
  refine Rn.n hT 1 (pc' := 31) (L' := [some (.ref q0), some (.int m1), some (.int m2), some (.int ms0), none]) (st' := [.ref q0]) rfl ?_
  refine Rn.hp hT rfl rfl (gR_hp (rp_gR R_4143 (T12_o t0) rfl)) ?_
  refine Rn.n hT 2 (pc' := 36) (L' := [some (.ref q0), some (.int m1), some (.int m2), some (.int ms0), none]) (st' := [.int (0 : Int32), .int (0 : Int32), .ref (q0 + 52)]) rfl ?_
  obtain ⟨s_4145, e_4146, e⟩ := Option.bind_eq_some_iff.mp e
  obtain ⟨h_4145, g_4146, R_4145⟩ := rp_wI R_4143 (T12_71 t0) (T12_71l t0) L32_0 L32_0 e_4146
  refine Rn.hp hT rfl rfl (wI_hp g_4146) ?_
  refine Rn.weak (ll_s (ll_s (ll_s (ll_s (ll_n ll_e))))) (RX12_findsBeds_l37 hd t0 p1 (fun h_4147 s_4147 R_4147 m4148_2 x4148_2 p4148_2 e => ?_) hq N h_4145 s_4145 R_4145 m2 x2 p2 ms0 xs0 ps0 e)
  try dsimp only at e
  refine Rn.n hT 1 (pc' := 183) (L' := [none, some (.int m1), some (.int m4148_2), none, none]) (st' := [.int m1]) rfl ?_
  by_cases c_4149 : x1 = 0
  · rw [if_pos c_4149] at e
    refine Rn.bf hT rfl rfl rfl (decide_eq_false (fun z => z ((ti_e p1 L32_0).mpr c_4149))) ?_
    refine Rn.n hT 2 (pc' := 191) (L' := [none, some (.int m1), some (.int m4148_2), none, none]) (st' := [.int (1 : Int32)]) rfl ?_
    exact Rn.weak (ll_n (ll_n (ll_n (ll_n (ll_n ll_e))))) (RX12_findsBeds_b191 hd R_4147 L32_1 hq e)
  · rw [if_neg c_4149] at e
    refine Rn.bt hT rfl rfl rfl (decide_eq_true (fun z => c_4149 ((ti_e p1 L32_0).mp z))) ?_
    refine Rn.n hT 1 (pc' := 191) (L' := [none, some (.int m1), some (.int m4148_2), none, none]) (st' := [.int m4148_2]) rfl ?_
    exact Rn.weak (ll_n (ll_n (ll_n (ll_n (ll_n ll_e))))) (RX12_findsBeds_b191 hd R_4147 p4148_2 hq e)
def FX12_findsBeds (N : Nat) (s : iv_M) (q0 : Nat) : Option (Int × iv_M) := ((FX12_fillsWho N s q0).bind fun s_4140 => ((rd s_4140 (q0 + 1) 14 3).bind fun v_4141 => (if v_4141 = 0 then (FX12_findsBeds_b22 N s_4140 q0 v_4141 0 (-1)) else (FX12_findsBeds_b22 N s_4140 q0 v_4141 0 0))))
set_option maxRecDepth 10000 in
set_option maxHeartbeats 4000000 in
theorem RX12_findsBeds {d N nc Ls : Nat} {Xs : Nat → Int32} (hd : 11 ≤ d) {h : iv_H} {s : iv_M} (hR : Rep nc Ls Xs h s) {q0 : Nat} (t0 : T12 nc q0) {r : Int × iv_M} {Q : Option Value → iv_H → Prop} (e : FX12_findsBeds N s q0 = some r) (hq : ∀ (z : Int32) (h1 : iv_H), z.toInt = r.1 → Rep nc Ls Xs h1 r.2 → Q (some (.int z)) h1) : Cl d 323 [.ref q0] h Q := by
  obtain ⟨d, rfl⟩ : ∃ k, d = k + 1 := ⟨d - 1, by omega⟩
  have hd : 10 ≤ d := by omega
  have hT := hX12_findsBeds
  unfold FX12_findsBeds at e
  refine Cl.into (by decide) gX12_findsBeds rfl ?_
  show Rn d 323 (some .int) 0 [some (.ref q0), none, none, none, none] [] h Q
  refine Rn.n hT 1 (pc' := 1) (L' := [some (.ref q0), none, none, none, none]) (st' := [.ref q0]) rfl ?_
  obtain ⟨s_4140, e_4139, e⟩ := Option.bind_eq_some_iff.mp e
  refine Rn.call hT rfl rfl rfl (Nat.le_of_ble_eq_true rfl) (rcv_v gX12_fillsWho (by omega) (rp_ck hR (T12_o t0))) (RX12_fillsWho (by omega) hR t0 e_4139 (fun h_4140 R_4140 => ?_))
  show Rn d _ _ 4 [some (.ref q0), none, none, none, none] [] h_4140 Q
  refine Rn.n hT 1 (pc' := 5) (L' := [some (.ref q0), none, none, none, none]) (st' := [.ref q0]) rfl ?_
  refine Rn.hp hT rfl rfl (gR_hp (rp_gR R_4140 (T12_o t0) rfl)) ?_
  refine Rn.n hT 1 (pc' := 9) (L' := [some (.ref q0), none, none, none, none]) (st' := [.int (3 : Int32), .ref (q0 + 1)]) rfl ?_
  obtain ⟨v_4141, e_4141, e⟩ := Option.bind_eq_some_iff.mp e
  obtain ⟨z_4141, g_4141, p_4141⟩ := rp_aI R_4140 (T12_1 t0) (T12_1l t0) L32_3 e_4141
  refine Rn.hp hT rfl rfl (aI_hp g_4141) ?_
  refine Rn.n hT 4 (pc' := 14) (L' := [some (.ref q0), some (.int z_4141), some (.int (0 : Int32)), none, none]) (st' := [.int z_4141]) rfl ?_
  by_cases c_4142 : v_4141 = 0
  · rw [if_pos c_4142] at e
    refine Rn.bf hT rfl rfl rfl (decide_eq_false (fun z => z ((ti_e p_4141 L32_0).mpr c_4142))) ?_
    refine Rn.n hT 2 (pc' := 22) (L' := [some (.ref q0), some (.int z_4141), some (.int (0 : Int32)), none, none]) (st' := [.int (-1 : Int32)]) rfl ?_
    exact Rn.weak (ll_s (ll_s (ll_s (ll_n (ll_n ll_e))))) (RX12_findsBeds_b22 hd R_4140 t0 p_4141 L32_0 L32_m1 hq e)
  · rw [if_neg c_4142] at e
    refine Rn.bt hT rfl rfl rfl (decide_eq_true (fun z => c_4142 ((ti_e p_4141 L32_0).mp z))) ?_
    refine Rn.n hT 1 (pc' := 22) (L' := [some (.ref q0), some (.int z_4141), some (.int (0 : Int32)), none, none]) (st' := [.int (0 : Int32)]) rfl ?_
    exact Rn.weak (ll_s (ll_s (ll_s (ll_n (ll_n ll_e))))) (RX12_findsBeds_b22 hd R_4140 t0 p_4141 L32_0 L32_0 hq e)
set_option maxRecDepth 10000 in
theorem hX12_beds : iv_Tb 324 tX12_beds := iv_tb_of (m := mX12_beds) rfl
set_option maxRecDepth 10000 in
theorem gX12_beds : PG.2 324 = some mX12_beds := iv_pi_of (t := tX12_beds) rfl (by decide)
def FX12_beds_b19 (N : Nat) (s : iv_M)   : Option (Int × iv_M) := (some ((-1), s))
set_option maxRecDepth 10000 in
set_option maxHeartbeats 4000000 in
theorem RX12_beds_b19 {d N nc Ls : Nat} {Xs : Nat → Int32} (hd : 11 ≤ d) {h : iv_H} {s : iv_M} (hR : Rep nc Ls Xs h s)   {r : Int × iv_M} {Q : Option Value → iv_H → Prop} (hq : ∀ (z : Int32) (h1 : iv_H), z.toInt = r.1 → Rep nc Ls Xs h1 r.2 → Q (some (.int z)) h1) (e : FX12_beds_b19 N s   = some r) : Rn d 324 (some .int) 19 [none, none, none] [] h Q := by
  have hT := hX12_beds
  unfold FX12_beds_b19 at e
  refine Rn.n hT 1 (pc' := 20) (L' := [none, none, none]) (st' := [.int (-1 : Int32)]) rfl ?_
  obtain rfl := Option.some.inj e
  exact Rn.ret hT rfl rfl rfl (hq (-1 : Int32) h L32_m1 hR)
def FX12_beds_b61 (N : Nat) (s : iv_M)  (xs0 : Int) : Option (Int × iv_M) := (some (xs0, s))
set_option maxRecDepth 10000 in
set_option maxHeartbeats 4000000 in
theorem RX12_beds_b61 {d N nc Ls : Nat} {Xs : Nat → Int32} (hd : 11 ≤ d) {h : iv_H} {s : iv_M} (hR : Rep nc Ls Xs h s)  {ms0 : Int32} {xs0 : Int} (ps0 : ms0.toInt = xs0) {r : Int × iv_M} {Q : Option Value → iv_H → Prop} (hq : ∀ (z : Int32) (h1 : iv_H), z.toInt = r.1 → Rep nc Ls Xs h1 r.2 → Q (some (.int z)) h1) (e : FX12_beds_b61 N s  xs0 = some r) : Rn d 324 (some .int) 61 [none, none, none] [.int ms0] h Q := by
  have hT := hX12_beds
  unfold FX12_beds_b61 at e
  obtain rfl := Option.some.inj e
  exact Rn.ret hT rfl rfl rfl (hq ms0 h ps0 hR)
def FX12_beds_b48 (N : Nat) (s : iv_M)   : Option (Int × iv_M) := (FX12_beds_b61 N s (-2))
set_option maxRecDepth 10000 in
set_option maxHeartbeats 4000000 in
theorem RX12_beds_b48 {d N nc Ls : Nat} {Xs : Nat → Int32} (hd : 11 ≤ d) {h : iv_H} {s : iv_M} (hR : Rep nc Ls Xs h s)   {r : Int × iv_M} {Q : Option Value → iv_H → Prop} (hq : ∀ (z : Int32) (h1 : iv_H), z.toInt = r.1 → Rep nc Ls Xs h1 r.2 → Q (some (.int z)) h1) (e : FX12_beds_b48 N s   = some r) : Rn d 324 (some .int) 48 [none, none, none] [] h Q := by
  have hT := hX12_beds
  unfold FX12_beds_b48 at e
  refine Rn.n hT 2 (pc' := 61) (L' := [none, none, none]) (st' := [.int (-2 : Int32)]) rfl ?_
  exact Rn.weak (ll_n (ll_n (ll_n ll_e))) (RX12_beds_b61 hd hR L32_m2 hq e)
def FX12_beds (N : Nat) (s : iv_M) (q0 : Nat) (x1 : Int) : Option (Int × iv_M) := ((FX12_isPalace N s q0).bind fun v_4173 => (if v_4173 = 0 then (FX12_beds_b19 N s) else ((FX12_in N s x1 0 6).bind fun v_4175 => (if v_4175 = 0 then (FX12_beds_b19 N s) else ((FX12_findsBeds N s q0).bind fun r_4177 => (fun (v_4177 : Int) (s_4178 : iv_M) => (if x1 = 0 then (FX12_beds_b61 N s_4178 v_4177) else (if v_4177 = 0 then (FX12_beds_b48 N s_4178) else ((FX12_isPerson N s_4178 q0 (w32 (x1 - 1))).bind fun v_4181 => (if v_4181 = 0 then (FX12_beds_b48 N s_4178) else ((rd s_4178 (q0 + 53) 6 (w32 (x1 - 1))).bind fun v_4183 => (FX12_beds_b61 N s_4178 v_4183))))))) r_4177.1 r_4177.2)))))
set_option maxRecDepth 10000 in
set_option maxHeartbeats 4000000 in
theorem RX12_beds {d N nc Ls : Nat} {Xs : Nat → Int32} (hd : 12 ≤ d) {h : iv_H} {s : iv_M} (hR : Rep nc Ls Xs h s) {q0 : Nat} (t0 : T12 nc q0) {m1 : Int32} {x1 : Int} (p1 : m1.toInt = x1) {r : Int × iv_M} {Q : Option Value → iv_H → Prop} (e : FX12_beds N s q0 x1 = some r) (hq : ∀ (z : Int32) (h1 : iv_H), z.toInt = r.1 → Rep nc Ls Xs h1 r.2 → Q (some (.int z)) h1) : Cl d 324 [.ref q0, .int m1] h Q := by
  obtain ⟨d, rfl⟩ : ∃ k, d = k + 1 := ⟨d - 1, by omega⟩
  have hd : 11 ≤ d := by omega
  have hT := hX12_beds
  unfold FX12_beds at e
  refine Cl.into (by decide) gX12_beds rfl ?_
  show Rn d 324 (some .int) 0 [some (.ref q0), some (.int m1), none] [] h Q
  refine Rn.n hT 1 (pc' := 1) (L' := [some (.ref q0), some (.int m1), none]) (st' := [.ref q0]) rfl ?_
  obtain ⟨v_4173, e_4173, e⟩ := Option.bind_eq_some_iff.mp e
  refine Rn.call hT rfl rfl rfl (Nat.le_of_ble_eq_true rfl) (rcv_v gX12_isPalace (by omega) (rp_ck hR (T12_o t0))) (RX12_isPalace (by omega) hR t0 e_4173 (fun z_4173 p_4173 => ?_))
  show Rn d _ _ 4 [some (.ref q0), some (.int m1), none] [.int z_4173] h Q
  by_cases c_4174 : v_4173 = 0
  · rw [if_pos c_4174] at e
    refine Rn.bt hT rfl rfl rfl (decide_eq_true ((ti_e p_4173 L32_0).mpr c_4174)) ?_
    exact Rn.weak (ll_n (ll_n (ll_n ll_e))) (RX12_beds_b19 hd hR hq e)
  · rw [if_neg c_4174] at e
    refine Rn.bf hT rfl rfl rfl (decide_eq_false (fun z => c_4174 ((ti_e p_4173 L32_0).mp z))) ?_
    refine Rn.n hT 4 (pc' := 13) (L' := [some (.ref q0), some (.int m1), none]) (st' := [.long (6 : Int64), .long (0 : Int64), .long ((m1).toInt64)]) rfl ?_
    obtain ⟨v_4175, e_4175, e⟩ := Option.bind_eq_some_iff.mp e
    refine Rn.call hT rfl rfl rfl (Nat.le_of_ble_eq_true rfl) rfl (RX12_in (by omega) hR (ti_j p1) L64_0 L64_6 e_4175 (fun z_4175 p_4175 => ?_))
    show Rn d _ _ 16 [some (.ref q0), some (.int m1), none] [.int z_4175] h Q
    by_cases c_4176 : v_4175 = 0
    · rw [if_pos c_4176] at e
      refine Rn.bf hT rfl rfl rfl (decide_eq_false (fun z => z ((ti_e p_4175 L32_0).mpr c_4176))) ?_
      exact Rn.weak (ll_n (ll_n (ll_n ll_e))) (RX12_beds_b19 hd hR hq e)
    · rw [if_neg c_4176] at e
      refine Rn.bt hT rfl rfl rfl (decide_eq_true (fun z => c_4176 ((ti_e p_4175 L32_0).mp z))) ?_
      refine Rn.n hT 1 (pc' := 22) (L' := [some (.ref q0), some (.int m1), none]) (st' := [.ref q0]) rfl ?_
      obtain ⟨⟨v_4177, s_4178⟩, e_4177, e⟩ := Option.bind_eq_some_iff.mp e
      try dsimp only at e
      try dsimp only at e
      refine Rn.call hT rfl rfl rfl (Nat.le_of_ble_eq_true rfl) (rcv_v gX12_findsBeds (by omega) (rp_ck hR (T12_o t0))) (RX12_findsBeds (by omega) hR t0 e_4177 (fun z_4177 h_4178 p_4177 R_4178 => ?_))
      show Rn d _ _ 25 [some (.ref q0), some (.int m1), none] [.int z_4177] h_4178 Q
      refine Rn.n hT 2 (pc' := 27) (L' := [some (.ref q0), some (.int m1), some (.int z_4177)]) (st' := [.int m1]) rfl ?_
      by_cases c_4179 : x1 = 0
      · rw [if_pos c_4179] at e
        refine Rn.bf hT rfl rfl rfl (decide_eq_false (fun z => z ((ti_e p1 L32_0).mpr c_4179))) ?_
        refine Rn.n hT 2 (pc' := 61) (L' := [some (.ref q0), some (.int m1), some (.int z_4177)]) (st' := [.int z_4177]) rfl ?_
        exact Rn.weak (ll_n (ll_n (ll_n ll_e))) (RX12_beds_b61 hd R_4178 p_4177 hq e)
      · rw [if_neg c_4179] at e
        refine Rn.bt hT rfl rfl rfl (decide_eq_true (fun z => c_4179 ((ti_e p1 L32_0).mp z))) ?_
        refine Rn.n hT 1 (pc' := 35) (L' := [some (.ref q0), some (.int m1), some (.int z_4177)]) (st' := [.int z_4177]) rfl ?_
        by_cases c_4180 : v_4177 = 0
        · rw [if_pos c_4180] at e
          refine Rn.bt hT rfl rfl rfl (decide_eq_true ((ti_e p_4177 L32_0).mpr c_4180)) ?_
          exact Rn.weak (ll_n (ll_n (ll_n ll_e))) (RX12_beds_b48 hd R_4178 hq e)
        · rw [if_neg c_4180] at e
          refine Rn.bf hT rfl rfl rfl (decide_eq_false (fun z => c_4180 ((ti_e p_4177 L32_0).mp z))) ?_
          refine Rn.n hT 4 (pc' := 42) (L' := [some (.ref q0), some (.int m1), some (.int z_4177)]) (st' := [.int (m1 - (1 : Int32)), .ref q0]) rfl ?_
          obtain ⟨v_4181, e_4181, e⟩ := Option.bind_eq_some_iff.mp e
          refine Rn.call hT rfl rfl rfl (Nat.le_of_ble_eq_true rfl) (rcv_v gX12_isPerson (by omega) (rp_ck R_4178 (T12_o t0))) (RX12_isPerson (by omega) R_4178 t0 (ti_sub p1 L32_1) e_4181 (fun z_4181 p_4181 => ?_))
          show Rn d _ _ 45 [some (.ref q0), some (.int m1), some (.int z_4177)] [.int z_4181] h_4178 Q
          by_cases c_4182 : v_4181 = 0
          · rw [if_pos c_4182] at e
            refine Rn.bf hT rfl rfl rfl (decide_eq_false (fun z => z ((ti_e p_4181 L32_0).mpr c_4182))) ?_
            exact Rn.weak (ll_n (ll_n (ll_n ll_e))) (RX12_beds_b48 hd R_4178 hq e)
          · rw [if_neg c_4182] at e
            refine Rn.bt hT rfl rfl rfl (decide_eq_true (fun z => c_4182 ((ti_e p_4181 L32_0).mp z))) ?_
            refine Rn.n hT 1 (pc' := 54) (L' := [some (.ref q0), some (.int m1), some (.int z_4177)]) (st' := [.ref q0]) rfl ?_
            refine Rn.hp hT rfl rfl (gR_hp (rp_gR R_4178 (T12_o t0) rfl)) ?_
            refine Rn.n hT 3 (pc' := 60) (L' := [some (.ref q0), some (.int m1), some (.int z_4177)]) (st' := [.int (m1 - (1 : Int32)), .ref (q0 + 53)]) rfl ?_
            obtain ⟨v_4183, e_4183, e⟩ := Option.bind_eq_some_iff.mp e
            obtain ⟨z_4183, g_4183, p_4183⟩ := rp_aI R_4178 (T12_72 t0) (T12_72l t0) (ti_sub p1 L32_1) e_4183
            refine Rn.hp hT rfl rfl (aI_hp g_4183) ?_
            exact Rn.weak (ll_n (ll_n (ll_n ll_e))) (RX12_beds_b61 hd R_4178 p_4183 hq e)
set_option maxRecDepth 10000 in
theorem hX12_almost : iv_Tb 325 tX12_almost := iv_tb_of (m := mX12_almost) rfl
set_option maxRecDepth 10000 in
theorem gX12_almost : PG.2 325 = some mX12_almost := iv_pi_of (t := tX12_almost) rfl (by decide)
def FX12_almost_b16 (N : Nat) (s : iv_M)   : Option (Int × iv_M) := (some ((-1), s))
set_option maxRecDepth 10000 in
set_option maxHeartbeats 4000000 in
theorem RX12_almost_b16 {d N nc Ls : Nat} {Xs : Nat → Int32} (hd : 11 ≤ d) {h : iv_H} {s : iv_M} (hR : Rep nc Ls Xs h s)   {r : Int × iv_M} {Q : Option Value → iv_H → Prop} (hq : ∀ (z : Int32) (h1 : iv_H), z.toInt = r.1 → Rep nc Ls Xs h1 r.2 → Q (some (.int z)) h1) (e : FX12_almost_b16 N s   = some r) : Rn d 325 (some .int) 16 [none, none, none] [] h Q := by
  have hT := hX12_almost
  unfold FX12_almost_b16 at e
  refine Rn.n hT 1 (pc' := 17) (L' := [none, none, none]) (st' := [.int (-1 : Int32)]) rfl ?_
  obtain rfl := Option.some.inj e
  exact Rn.ret hT rfl rfl rfl (hq (-1 : Int32) h L32_m1 hR)
def FX12_almost (N : Nat) (s : iv_M) (q0 : Nat) (x1 : Int) (x2 : Int) : Option (Int × iv_M) := ((FX12_isPerson N s q0 x1).bind fun v_4184 => (if v_4184 = 0 then (FX12_almost_b16 N s) else ((FX12_isRoom N s q0 x2).bind fun v_4186 => (if v_4186 = 0 then (FX12_almost_b16 N s) else ((FX12_findsBeds N s q0).bind fun r_4188 => (fun (v_4188 : Int) (s_4189 : iv_M) => ((rd s_4189 (q0 + 54) 72 (w32 ((w32 (12 * x1)) + x2))).bind fun v_4190 => (some (v_4190, s_4189)))) r_4188.1 r_4188.2)))))
set_option maxRecDepth 10000 in
set_option maxHeartbeats 4000000 in
theorem RX12_almost {d N nc Ls : Nat} {Xs : Nat → Int32} (hd : 12 ≤ d) {h : iv_H} {s : iv_M} (hR : Rep nc Ls Xs h s) {q0 : Nat} (t0 : T12 nc q0) {m1 : Int32} {x1 : Int} (p1 : m1.toInt = x1) {m2 : Int32} {x2 : Int} (p2 : m2.toInt = x2) {r : Int × iv_M} {Q : Option Value → iv_H → Prop} (e : FX12_almost N s q0 x1 x2 = some r) (hq : ∀ (z : Int32) (h1 : iv_H), z.toInt = r.1 → Rep nc Ls Xs h1 r.2 → Q (some (.int z)) h1) : Cl d 325 [.ref q0, .int m1, .int m2] h Q := by
  obtain ⟨d, rfl⟩ : ∃ k, d = k + 1 := ⟨d - 1, by omega⟩
  have hd : 11 ≤ d := by omega
  have hT := hX12_almost
  unfold FX12_almost at e
  refine Cl.into (by decide) gX12_almost rfl ?_
  show Rn d 325 (some .int) 0 [some (.ref q0), some (.int m1), some (.int m2)] [] h Q
  refine Rn.n hT 2 (pc' := 2) (L' := [some (.ref q0), some (.int m1), some (.int m2)]) (st' := [.int m1, .ref q0]) rfl ?_
  obtain ⟨v_4184, e_4184, e⟩ := Option.bind_eq_some_iff.mp e
  refine Rn.call hT rfl rfl rfl (Nat.le_of_ble_eq_true rfl) (rcv_v gX12_isPerson (by omega) (rp_ck hR (T12_o t0))) (RX12_isPerson (by omega) hR t0 p1 e_4184 (fun z_4184 p_4184 => ?_))
  show Rn d _ _ 5 [some (.ref q0), some (.int m1), some (.int m2)] [.int z_4184] h Q
  by_cases c_4185 : v_4184 = 0
  · rw [if_pos c_4185] at e
    refine Rn.bt hT rfl rfl rfl (decide_eq_true ((ti_e p_4184 L32_0).mpr c_4185)) ?_
    exact Rn.weak (ll_n (ll_n (ll_n ll_e))) (RX12_almost_b16 hd hR hq e)
  · rw [if_neg c_4185] at e
    refine Rn.bf hT rfl rfl rfl (decide_eq_false (fun z => c_4185 ((ti_e p_4184 L32_0).mp z))) ?_
    refine Rn.n hT 2 (pc' := 10) (L' := [some (.ref q0), some (.int m1), some (.int m2)]) (st' := [.int m2, .ref q0]) rfl ?_
    obtain ⟨v_4186, e_4186, e⟩ := Option.bind_eq_some_iff.mp e
    refine Rn.call hT rfl rfl rfl (Nat.le_of_ble_eq_true rfl) (rcv_v gX12_isRoom (by omega) (rp_ck hR (T12_o t0))) (RX12_isRoom (by omega) hR t0 p2 e_4186 (fun z_4186 p_4186 => ?_))
    show Rn d _ _ 13 [some (.ref q0), some (.int m1), some (.int m2)] [.int z_4186] h Q
    by_cases c_4187 : v_4186 = 0
    · rw [if_pos c_4187] at e
      refine Rn.bf hT rfl rfl rfl (decide_eq_false (fun z => z ((ti_e p_4186 L32_0).mpr c_4187))) ?_
      exact Rn.weak (ll_n (ll_n (ll_n ll_e))) (RX12_almost_b16 hd hR hq e)
    · rw [if_neg c_4187] at e
      refine Rn.bt hT rfl rfl rfl (decide_eq_true (fun z => c_4187 ((ti_e p_4186 L32_0).mp z))) ?_
      refine Rn.n hT 1 (pc' := 19) (L' := [some (.ref q0), some (.int m1), some (.int m2)]) (st' := [.ref q0]) rfl ?_
      obtain ⟨⟨v_4188, s_4189⟩, e_4188, e⟩ := Option.bind_eq_some_iff.mp e
      try dsimp only at e
      try dsimp only at e
      refine Rn.call hT rfl rfl rfl (Nat.le_of_ble_eq_true rfl) (rcv_v gX12_findsBeds (by omega) (rp_ck hR (T12_o t0))) (RX12_findsBeds (by omega) hR t0 e_4188 (fun z_4188 h_4189 p_4188 R_4189 => ?_))
      show Rn d _ _ 22 [some (.ref q0), some (.int m1), some (.int m2)] [.int z_4188] h_4189 Q
      refine Rn.n hT 2 (pc' := 24) (L' := [some (.ref q0), some (.int m1), some (.int m2)]) (st' := [.ref q0]) rfl ?_
      refine Rn.hp hT rfl rfl (gR_hp (rp_gR R_4189 (T12_o t0) rfl)) ?_
      refine Rn.n hT 5 (pc' := 33) (L' := [some (.ref q0), some (.int m1), some (.int m2)]) (st' := [.int (((12 : Int32) * m1) + m2), .ref (q0 + 54)]) rfl ?_
      obtain ⟨v_4190, e_4190, e⟩ := Option.bind_eq_some_iff.mp e
      obtain ⟨z_4190, g_4190, p_4190⟩ := rp_aI R_4189 (T12_73 t0) (T12_73l t0) (ti_add (ti_mul L32_12 p1) p2) e_4190
      refine Rn.hp hT rfl rfl (aI_hp g_4190) ?_
      obtain rfl := Option.some.inj e
      exact Rn.ret hT rfl rfl rfl (hq z_4190 h_4189 p_4190 R_4189)
set_option maxRecDepth 10000 in
theorem hX12_guards : iv_Tb 326 tX12_guards := iv_tb_of (m := mX12_guards) rfl
set_option maxRecDepth 10000 in
theorem gX12_guards : PG.2 326 = some mX12_guards := iv_pi_of (t := tX12_guards) rfl (by decide)
def FX12_guards_b17 (N : Nat) (s : iv_M)   : Option (Int) := (some (-1))
set_option maxRecDepth 10000 in
set_option maxHeartbeats 4000000 in
theorem RX12_guards_b17 {d N nc Ls : Nat} {Xs : Nat → Int32} (hd : 5 ≤ d) {h : iv_H} {s : iv_M} (hR : Rep nc Ls Xs h s)   {r : Int} {Q : Option Value → iv_H → Prop} (hq : ∀ (z : Int32), z.toInt = r → Q (some (.int z)) h) (e : FX12_guards_b17 N s   = some r) : Rn d 326 (some .int) 17 [none, none, none, none, none, none, none] [] h Q := by
  have hT := hX12_guards
  unfold FX12_guards_b17 at e
  refine Rn.n hT 1 (pc' := 18) (L' := [none, none, none, none, none, none, none]) (st' := [.int (-1 : Int32)]) rfl ?_
  obtain rfl := Option.some.inj e
  exact Rn.ret hT rfl rfl rfl (hq (-1 : Int32) L32_m1)
def FX12_guards_b136 (N : Nat) (s : iv_M) (q0 : Nat) (x1 : Int) (x2 : Int) (x3 : Int) (x5 : Int) (x6 : Int) (xs0 : Int) (kb : Int → Int → Option (Int)) (kx : Int → Option (Int)) : Option (Int) := (kb xs0 (w32 (x6 + 1)))
set_option maxRecDepth 10000 in
set_option maxHeartbeats 4000000 in
theorem RX12_guards_b136 {d N nc Ls : Nat} {Xs : Nat → Int32} (hd : 5 ≤ d) {h : iv_H} {s : iv_M} (hR : Rep nc Ls Xs h s) {q0 : Nat} (t0 : T12 nc q0) {m1 : Int32} {x1 : Int} (p1 : m1.toInt = x1) {m2 : Int32} {x2 : Int} (p2 : m2.toInt = x2) {m3 : Int32} {x3 : Int} (p3 : m3.toInt = x3) {m5 : Int32} {x5 : Int} (p5 : m5.toInt = x5) {m6 : Int32} {x6 : Int} (p6 : m6.toInt = x6) {ms0 : Int32} {xs0 : Int} (ps0 : ms0.toInt = xs0) {kb : Int → Int → Option (Int)} {kx : Int → Option (Int)} {r : Int} {Q : Option Value → iv_H → Prop} (hb : ∀ (mw4 : Int32) (xw4 : Int) (pw4 : mw4.toInt = xw4) (mw6 : Int32) (xw6 : Int) (pw6 : mw6.toInt = xw6), kb xw4 xw6 = some r → Rn d 326 (some .int) 84 [some (.ref q0), some (.int m1), some (.int m2), some (.int m3), some (.int mw4), some (.int m5), some (.int mw6)] [] h Q) (hk : ∀ (mw4 : Int32) (xw4 : Int) (pw4 : mw4.toInt = xw4), kx xw4 = some r → Rn d 326 (some .int) 144 [some (.ref q0), some (.int m1), some (.int m2), some (.int m3), some (.int mw4), some (.int m5), none] [] h Q) (hq : ∀ (z : Int32), z.toInt = r → Q (some (.int z)) h) (e : FX12_guards_b136 N s q0 x1 x2 x3 x5 x6 xs0 kb kx = some r) : Rn d 326 (some .int) 136 [some (.ref q0), some (.int m1), some (.int m2), some (.int m3), none, some (.int m5), some (.int m6)] [.int ms0] h Q := by
  have hT := hX12_guards
  unfold FX12_guards_b136 at e
  refine Rn.n hT 3 (pc' := 84) (L' := [some (.ref q0), some (.int m1), some (.int m2), some (.int m3), some (.int ms0), some (.int m5), some (.int (m6 + (1 : Int32)))]) (st' := []) rfl ?_
  exact Rn.weak (ll_s (ll_s (ll_s (ll_s (ll_s (ll_s (ll_s ll_e))))))) (hb ms0 xs0 ps0 (m6 + (1 : Int32)) (w32 (x6 + 1)) (ti_add p6 L32_1) e)
def FX12_guards_b131 (N : Nat) (s : iv_M) (q0 : Nat) (x1 : Int) (x2 : Int) (x3 : Int) (x5 : Int) (x6 : Int)  (kb : Int → Int → Option (Int)) (kx : Int → Option (Int)) : Option (Int) := (FX12_guards_b136 N s q0 x1 x2 x3 x5 x6 1 kb kx)
set_option maxRecDepth 10000 in
set_option maxHeartbeats 4000000 in
theorem RX12_guards_b131 {d N nc Ls : Nat} {Xs : Nat → Int32} (hd : 5 ≤ d) {h : iv_H} {s : iv_M} (hR : Rep nc Ls Xs h s) {q0 : Nat} (t0 : T12 nc q0) {m1 : Int32} {x1 : Int} (p1 : m1.toInt = x1) {m2 : Int32} {x2 : Int} (p2 : m2.toInt = x2) {m3 : Int32} {x3 : Int} (p3 : m3.toInt = x3) {m5 : Int32} {x5 : Int} (p5 : m5.toInt = x5) {m6 : Int32} {x6 : Int} (p6 : m6.toInt = x6)  {kb : Int → Int → Option (Int)} {kx : Int → Option (Int)} {r : Int} {Q : Option Value → iv_H → Prop} (hb : ∀ (mw4 : Int32) (xw4 : Int) (pw4 : mw4.toInt = xw4) (mw6 : Int32) (xw6 : Int) (pw6 : mw6.toInt = xw6), kb xw4 xw6 = some r → Rn d 326 (some .int) 84 [some (.ref q0), some (.int m1), some (.int m2), some (.int m3), some (.int mw4), some (.int m5), some (.int mw6)] [] h Q) (hk : ∀ (mw4 : Int32) (xw4 : Int) (pw4 : mw4.toInt = xw4), kx xw4 = some r → Rn d 326 (some .int) 144 [some (.ref q0), some (.int m1), some (.int m2), some (.int m3), some (.int mw4), some (.int m5), none] [] h Q) (hq : ∀ (z : Int32), z.toInt = r → Q (some (.int z)) h) (e : FX12_guards_b131 N s q0 x1 x2 x3 x5 x6  kb kx = some r) : Rn d 326 (some .int) 131 [some (.ref q0), some (.int m1), some (.int m2), some (.int m3), none, some (.int m5), some (.int m6)] [] h Q := by
  have hT := hX12_guards
  unfold FX12_guards_b131 at e
  refine Rn.n hT 2 (pc' := 136) (L' := [some (.ref q0), some (.int m1), some (.int m2), some (.int m3), none, some (.int m5), some (.int m6)]) (st' := [.int (1 : Int32)]) rfl ?_
  exact Rn.weak (ll_s (ll_s (ll_s (ll_s (ll_n (ll_s (ll_s ll_e))))))) (RX12_guards_b136 hd hR t0 p1 p2 p3 p5 p6 L32_1 hb hk hq e)
def FX12_guards_l84 (N : Nat) (s : iv_M) (q0 : Nat) (x1 : Int) (x2 : Int) (x3 : Int) (x5 : Int) (kx : Int → Option (Int)) : Nat → Int → Int → Option (Int)
  | 0, _, _ => none
  | n + 1, x4, x6 => (if 4 ≤ x6 then (kx x4) else (if x4 = 0 then (kx x4) else (if (bAn (sr32 x3 x5) 1) = 0 then ((FX12_isDoorToDoor N s q0 x5 x6).bind fun v_4212 => (if v_4212 = 0 then (FX12_guards_b131 N s q0 x1 x2 x3 x5 x6 (FX12_guards_l84 N s q0 x1 x2 x3 x5 kx n) kx) else ((FX12_faced N s q0 x5 x6).bind fun v_4214 => (if (bAn (sr32 x3 v_4214) 1) = 1 then (FX12_guards_b131 N s q0 x1 x2 x3 x5 x6 (FX12_guards_l84 N s q0 x1 x2 x3 x5 kx n) kx) else (FX12_guards_b136 N s q0 x1 x2 x3 x5 x6 0 (FX12_guards_l84 N s q0 x1 x2 x3 x5 kx n) kx))))) else (kx x4))))
set_option maxRecDepth 10000 in
set_option maxHeartbeats 4000000 in
theorem RX12_guards_l84 {d N nc Ls : Nat} {Xs : Nat → Int32} (hd : 5 ≤ d) {h : iv_H} {s : iv_M} (hR : Rep nc Ls Xs h s) {q0 : Nat} (t0 : T12 nc q0) {m1 : Int32} {x1 : Int} (p1 : m1.toInt = x1) {m2 : Int32} {x2 : Int} (p2 : m2.toInt = x2) {m3 : Int32} {x3 : Int} (p3 : m3.toInt = x3) {m5 : Int32} {x5 : Int} (p5 : m5.toInt = x5) {kx : Int → Option (Int)} {r : Int} {Q : Option Value → iv_H → Prop} (hk : ∀ (m4 : Int32) (x4 : Int) (p4 : m4.toInt = x4), kx x4 = some r → Rn d 326 (some .int) 144 [some (.ref q0), some (.int m1), some (.int m2), some (.int m3), some (.int m4), some (.int m5), none] [] h Q) (hq : ∀ (z : Int32), z.toInt = r → Q (some (.int z)) h) : ∀ (n : Nat) (m4 : Int32) (x4 : Int) (p4 : m4.toInt = x4) (m6 : Int32) (x6 : Int) (p6 : m6.toInt = x6), FX12_guards_l84 N s q0 x1 x2 x3 x5 kx n x4 x6 = some r → Rn d 326 (some .int) 84 [some (.ref q0), some (.int m1), some (.int m2), some (.int m3), some (.int m4), some (.int m5), some (.int m6)] [] h Q := by
  have hT := hX12_guards
  intro n
  induction n with
  | zero =>
    intro m4 x4 p4 m6 x6 p6 e
    rw [FX12_guards_l84] at e
    cases e
  | succ n ih =>
    intro m4 x4 p4 m6 x6 p6 e
    rw [FX12_guards_l84] at e
    refine Rn.n hT 2 (pc' := 87) (L' := [some (.ref q0), some (.int m1), some (.int m2), some (.int m3), some (.int m4), some (.int m5), some (.int m6)]) (st' := [.int (4 : Int32), .int m6]) rfl ?_
    by_cases c_4209 : 4 ≤ x6
    · rw [if_pos c_4209] at e
      refine Rn.bt hT rfl rfl rfl (decide_eq_true ((ti_le L32_4 p6).mpr c_4209)) ?_
      exact Rn.weak (ll_s (ll_s (ll_s (ll_s (ll_s (ll_s (ll_n ll_e))))))) (hk m4 x4 p4 e)
    · rw [if_neg c_4209] at e
      refine Rn.bf hT rfl rfl rfl (decide_eq_false (fun z => c_4209 ((ti_le L32_4 p6).mp z))) ?_
      refine Rn.n hT 1 (pc' := 92) (L' := [some (.ref q0), some (.int m1), some (.int m2), some (.int m3), some (.int m4), some (.int m5), some (.int m6)]) (st' := [.int m4]) rfl ?_
      by_cases c_4210 : x4 = 0
      · rw [if_pos c_4210] at e
        refine Rn.bt hT rfl rfl rfl (decide_eq_true ((ti_e p4 L32_0).mpr c_4210)) ?_
        exact Rn.weak (ll_s (ll_s (ll_s (ll_s (ll_s (ll_s (ll_n ll_e))))))) (hk m4 x4 p4 e)
      · rw [if_neg c_4210] at e
        refine Rn.bf hT rfl rfl rfl (decide_eq_false (fun z => c_4210 ((ti_e p4 L32_0).mp z))) ?_
        refine Rn.n hT 5 (pc' := 101) (L' := [some (.ref q0), some (.int m1), some (.int m2), some (.int m3), some (.int m4), some (.int m5), some (.int m6)]) (st' := [.int ((m3 >>> (m5 &&& 31)) &&& (1 : Int32))]) rfl ?_
        by_cases c_4211 : (bAn (sr32 x3 x5) 1) = 0
        · rw [if_pos c_4211] at e
          refine Rn.bf hT rfl rfl rfl (decide_eq_false (fun z => z ((ti_e (ti_and (ti_shr p3 p5) L32_1) L32_0).mpr c_4211))) ?_
          refine Rn.n hT 3 (pc' := 109) (L' := [some (.ref q0), some (.int m1), some (.int m2), some (.int m3), some (.int m4), some (.int m5), some (.int m6)]) (st' := [.int m6, .int m5, .ref q0]) rfl ?_
          obtain ⟨v_4212, e_4212, e⟩ := Option.bind_eq_some_iff.mp e
          refine Rn.call hT rfl rfl rfl (Nat.le_of_ble_eq_true rfl) (rcv_v gX12_isDoorToDoor (by omega) (rp_ck hR (T12_o t0))) (RX12_isDoorToDoor (by omega) hR t0 p5 p6 e_4212 (fun z_4212 p_4212 => ?_))
          show Rn d _ _ 112 [some (.ref q0), some (.int m1), some (.int m2), some (.int m3), some (.int m4), some (.int m5), some (.int m6)] [.int z_4212] h Q
          by_cases c_4213 : v_4212 = 0
          · rw [if_pos c_4213] at e
            refine Rn.bt hT rfl rfl rfl (decide_eq_true ((ti_e p_4212 L32_0).mpr c_4213)) ?_
            exact Rn.weak (ll_s (ll_s (ll_s (ll_s (ll_n (ll_s (ll_s ll_e))))))) (RX12_guards_b131 hd hR t0 p1 p2 p3 p5 p6 ih hk hq e)
          · rw [if_neg c_4213] at e
            refine Rn.bf hT rfl rfl rfl (decide_eq_false (fun z => c_4213 ((ti_e p_4212 L32_0).mp z))) ?_
            refine Rn.n hT 4 (pc' := 121) (L' := [some (.ref q0), some (.int m1), some (.int m2), some (.int m3), some (.int m4), some (.int m5), some (.int m6)]) (st' := [.int m6, .int m5, .ref q0, .int m3]) rfl ?_
            obtain ⟨v_4214, e_4214, e⟩ := Option.bind_eq_some_iff.mp e
            refine Rn.call hT rfl rfl rfl (Nat.le_of_ble_eq_true rfl) (rcv_v gX12_faced (by omega) (rp_ck hR (T12_o t0))) (RX12_faced (by omega) hR t0 p5 p6 e_4214 (fun z_4214 p_4214 => ?_))
            show Rn d _ _ 124 [some (.ref q0), some (.int m1), some (.int m2), some (.int m3), some (.int m4), some (.int m5), some (.int m6)] [.int z_4214, .int m3] h Q
            refine Rn.n hT 4 (pc' := 128) (L' := [some (.ref q0), some (.int m1), some (.int m2), some (.int m3), some (.int m4), some (.int m5), some (.int m6)]) (st' := [.int (1 : Int32), .int ((m3 >>> (z_4214 &&& 31)) &&& (1 : Int32))]) rfl ?_
            by_cases c_4215 : (bAn (sr32 x3 v_4214) 1) = 1
            · rw [if_pos c_4215] at e
              refine Rn.bf hT rfl rfl rfl (decide_eq_false (fun z => z ((ti_e (ti_and (ti_shr p3 p_4214) L32_1) L32_1).mpr c_4215))) ?_
              exact Rn.weak (ll_s (ll_s (ll_s (ll_s (ll_n (ll_s (ll_s ll_e))))))) (RX12_guards_b131 hd hR t0 p1 p2 p3 p5 p6 ih hk hq e)
            · rw [if_neg c_4215] at e
              refine Rn.bt hT rfl rfl rfl (decide_eq_true (fun z => c_4215 ((ti_e (ti_and (ti_shr p3 p_4214) L32_1) L32_1).mp z))) ?_
              refine Rn.n hT 1 (pc' := 136) (L' := [some (.ref q0), some (.int m1), some (.int m2), some (.int m3), some (.int m4), some (.int m5), some (.int m6)]) (st' := [.int (0 : Int32)]) rfl ?_
              exact Rn.weak (ll_s (ll_s (ll_s (ll_s (ll_n (ll_s (ll_s ll_e))))))) (RX12_guards_b136 hd hR t0 p1 p2 p3 p5 p6 L32_0 ih hk hq e)
        · rw [if_neg c_4211] at e
          refine Rn.bt hT rfl rfl rfl (decide_eq_true (fun z => c_4211 ((ti_e (ti_and (ti_shr p3 p5) L32_1) L32_0).mp z))) ?_
          exact Rn.weak (ll_s (ll_s (ll_s (ll_s (ll_s (ll_s (ll_n ll_e))))))) (hk m4 x4 p4 e)
def FX12_guards_b144 (N : Nat) (s : iv_M) (q0 : Nat) (x1 : Int) (x2 : Int) (x3 : Int) (x4 : Int) (x5 : Int)  (kb : Int → Int → Option (Int)) (kx : Int → Option (Int)) : Option (Int) := (kb x4 (w32 (x5 + 1)))
set_option maxRecDepth 10000 in
set_option maxHeartbeats 4000000 in
theorem RX12_guards_b144 {d N nc Ls : Nat} {Xs : Nat → Int32} (hd : 5 ≤ d) {h : iv_H} {s : iv_M} (hR : Rep nc Ls Xs h s) {q0 : Nat} (t0 : T12 nc q0) {m1 : Int32} {x1 : Int} (p1 : m1.toInt = x1) {m2 : Int32} {x2 : Int} (p2 : m2.toInt = x2) {m3 : Int32} {x3 : Int} (p3 : m3.toInt = x3) {m4 : Int32} {x4 : Int} (p4 : m4.toInt = x4) {m5 : Int32} {x5 : Int} (p5 : m5.toInt = x5)  {kb : Int → Int → Option (Int)} {kx : Int → Option (Int)} {r : Int} {Q : Option Value → iv_H → Prop} (hb : ∀ (mw4 : Int32) (xw4 : Int) (pw4 : mw4.toInt = xw4) (mw5 : Int32) (xw5 : Int) (pw5 : mw5.toInt = xw5), kb xw4 xw5 = some r → Rn d 326 (some .int) 65 [some (.ref q0), some (.int m1), some (.int m2), some (.int m3), some (.int mw4), some (.int mw5), none] [] h Q) (hk : ∀ (mw4 : Int32) (xw4 : Int) (pw4 : mw4.toInt = xw4), kx xw4 = some r → Rn d 326 (some .int) 150 [some (.ref q0), some (.int m1), some (.int m2), some (.int m3), some (.int mw4), none, none] [] h Q) (hq : ∀ (z : Int32), z.toInt = r → Q (some (.int z)) h) (e : FX12_guards_b144 N s q0 x1 x2 x3 x4 x5  kb kx = some r) : Rn d 326 (some .int) 144 [some (.ref q0), some (.int m1), some (.int m2), some (.int m3), some (.int m4), some (.int m5), none] [] h Q := by
  have hT := hX12_guards
  unfold FX12_guards_b144 at e
  refine Rn.n hT 2 (pc' := 65) (L' := [some (.ref q0), some (.int m1), some (.int m2), some (.int m3), some (.int m4), some (.int (m5 + (1 : Int32))), none]) (st' := []) rfl ?_
  exact Rn.weak (ll_s (ll_s (ll_s (ll_s (ll_s (ll_s (ll_n ll_e))))))) (hb m4 x4 p4 (m5 + (1 : Int32)) (w32 (x5 + 1)) (ti_add p5 L32_1) e)
def FX12_guards_l65 (N : Nat) (s : iv_M) (q0 : Nat) (x1 : Int) (x2 : Int) (x3 : Int) (kx : Int → Option (Int)) : Nat → Int → Int → Option (Int)
  | 0, _, _ => none
  | n + 1, x4, x5 => ((rd s (q0 + 1) 14 2).bind fun v_4205 => (if v_4205 ≤ x5 then (kx x4) else (if x4 = 0 then (kx x4) else (FX12_guards_l84 N s q0 x1 x2 x3 x5 (fun (x4208_4 : Int) => (FX12_guards_b144 N s q0 x1 x2 x3 x4208_4 x5 (FX12_guards_l65 N s q0 x1 x2 x3 kx n) kx)) N x4 0))))
set_option maxRecDepth 10000 in
set_option maxHeartbeats 4000000 in
theorem RX12_guards_l65 {d N nc Ls : Nat} {Xs : Nat → Int32} (hd : 5 ≤ d) {h : iv_H} {s : iv_M} (hR : Rep nc Ls Xs h s) {q0 : Nat} (t0 : T12 nc q0) {m1 : Int32} {x1 : Int} (p1 : m1.toInt = x1) {m2 : Int32} {x2 : Int} (p2 : m2.toInt = x2) {m3 : Int32} {x3 : Int} (p3 : m3.toInt = x3) {kx : Int → Option (Int)} {r : Int} {Q : Option Value → iv_H → Prop} (hk : ∀ (m4 : Int32) (x4 : Int) (p4 : m4.toInt = x4), kx x4 = some r → Rn d 326 (some .int) 150 [some (.ref q0), some (.int m1), some (.int m2), some (.int m3), some (.int m4), none, none] [] h Q) (hq : ∀ (z : Int32), z.toInt = r → Q (some (.int z)) h) : ∀ (n : Nat) (m4 : Int32) (x4 : Int) (p4 : m4.toInt = x4) (m5 : Int32) (x5 : Int) (p5 : m5.toInt = x5), FX12_guards_l65 N s q0 x1 x2 x3 kx n x4 x5 = some r → Rn d 326 (some .int) 65 [some (.ref q0), some (.int m1), some (.int m2), some (.int m3), some (.int m4), some (.int m5), none] [] h Q := by
  have hT := hX12_guards
  intro n
  induction n with
  | zero =>
    intro m4 x4 p4 m5 x5 p5 e
    rw [FX12_guards_l65] at e
    cases e
  | succ n ih =>
    intro m4 x4 p4 m5 x5 p5 e
    rw [FX12_guards_l65] at e
    refine Rn.n hT 2 (pc' := 68) (L' := [some (.ref q0), some (.int m1), some (.int m2), some (.int m3), some (.int m4), some (.int m5), none]) (st' := [.ref q0, .int m5]) rfl ?_
    refine Rn.hp hT rfl rfl (gR_hp (rp_gR hR (T12_o t0) rfl)) ?_
    refine Rn.n hT 1 (pc' := 72) (L' := [some (.ref q0), some (.int m1), some (.int m2), some (.int m3), some (.int m4), some (.int m5), none]) (st' := [.int (2 : Int32), .ref (q0 + 1), .int m5]) rfl ?_
    obtain ⟨v_4205, e_4205, e⟩ := Option.bind_eq_some_iff.mp e
    obtain ⟨z_4205, g_4205, p_4205⟩ := rp_aI hR (T12_1 t0) (T12_1l t0) L32_2 e_4205
    refine Rn.hp hT rfl rfl (aI_hp g_4205) ?_
    by_cases c_4206 : v_4205 ≤ x5
    · rw [if_pos c_4206] at e
      refine Rn.bt hT rfl rfl rfl (decide_eq_true ((ti_le p_4205 p5).mpr c_4206)) ?_
      exact Rn.weak (ll_s (ll_s (ll_s (ll_s (ll_s (ll_n (ll_n ll_e))))))) (hk m4 x4 p4 e)
    · rw [if_neg c_4206] at e
      refine Rn.bf hT rfl rfl rfl (decide_eq_false (fun z => c_4206 ((ti_le p_4205 p5).mp z))) ?_
      refine Rn.n hT 1 (pc' := 78) (L' := [some (.ref q0), some (.int m1), some (.int m2), some (.int m3), some (.int m4), some (.int m5), none]) (st' := [.int m4]) rfl ?_
      by_cases c_4207 : x4 = 0
      · rw [if_pos c_4207] at e
        refine Rn.bt hT rfl rfl rfl (decide_eq_true ((ti_e p4 L32_0).mpr c_4207)) ?_
        exact Rn.weak (ll_s (ll_s (ll_s (ll_s (ll_s (ll_n (ll_n ll_e))))))) (hk m4 x4 p4 e)
      · rw [if_neg c_4207] at e
        refine Rn.bf hT rfl rfl rfl (decide_eq_false (fun z => c_4207 ((ti_e p4 L32_0).mp z))) ?_
        refine Rn.n hT 2 (pc' := 84) (L' := [some (.ref q0), some (.int m1), some (.int m2), some (.int m3), some (.int m4), some (.int m5), some (.int (0 : Int32))]) (st' := []) rfl ?_
        refine Rn.weak (ll_s (ll_s (ll_s (ll_s (ll_s (ll_s (ll_s ll_e))))))) (RX12_guards_l84 hd hR t0 p1 p2 p3 p5 (fun m4208_4 x4208_4 p4208_4 e => ?_) hq N m4 x4 p4 (0 : Int32) 0 L32_0 e)
        try dsimp only at e
        exact Rn.weak (ll_s (ll_s (ll_s (ll_s (ll_s (ll_s (ll_n ll_e))))))) (RX12_guards_b144 hd hR t0 p1 p2 p3 p4208_4 p5 ih hk hq e)
def FX12_guards_b160 (N : Nat) (s : iv_M) (q0 : Nat) (x1 : Int) (x3 : Int) (xs0 : Int) (kb : Int → Int → Option (Int)) (kx : Int → Option (Int)) : Option (Int) := (kb xs0 (w32 (x3 + 1)))
set_option maxRecDepth 10000 in
set_option maxHeartbeats 4000000 in
theorem RX12_guards_b160 {d N nc Ls : Nat} {Xs : Nat → Int32} (hd : 5 ≤ d) {h : iv_H} {s : iv_M} (hR : Rep nc Ls Xs h s) {q0 : Nat} (t0 : T12 nc q0) {m1 : Int32} {x1 : Int} (p1 : m1.toInt = x1) {m3 : Int32} {x3 : Int} (p3 : m3.toInt = x3) {ms0 : Int32} {xs0 : Int} (ps0 : ms0.toInt = xs0) {kb : Int → Int → Option (Int)} {kx : Int → Option (Int)} {r : Int} {Q : Option Value → iv_H → Prop} (hb : ∀ (mw2 : Int32) (xw2 : Int) (pw2 : mw2.toInt = xw2) (mw3 : Int32) (xw3 : Int) (pw3 : mw3.toInt = xw3), kb xw2 xw3 = some r → Rn d 326 (some .int) 32 [some (.ref q0), some (.int m1), some (.int mw2), some (.int mw3), none, none, none] [] h Q) (hk : ∀ (mw2 : Int32) (xw2 : Int) (pw2 : mw2.toInt = xw2), kx xw2 = some r → Rn d 326 (some .int) 167 [none, some (.int m1), some (.int mw2), none, none, none, none] [] h Q) (hq : ∀ (z : Int32), z.toInt = r → Q (some (.int z)) h) (e : FX12_guards_b160 N s q0 x1 x3 xs0 kb kx = some r) : Rn d 326 (some .int) 160 [some (.ref q0), some (.int m1), none, some (.int m3), none, none, none] [.int ms0] h Q := by
  have hT := hX12_guards
  unfold FX12_guards_b160 at e
  refine Rn.n hT 3 (pc' := 32) (L' := [some (.ref q0), some (.int m1), some (.int ms0), some (.int (m3 + (1 : Int32))), none, none, none]) (st' := []) rfl ?_
  exact Rn.weak (ll_s (ll_s (ll_s (ll_s (ll_n (ll_n (ll_n ll_e))))))) (hb ms0 xs0 ps0 (m3 + (1 : Int32)) (w32 (x3 + 1)) (ti_add p3 L32_1) e)
def FX12_guards_b150 (N : Nat) (s : iv_M) (q0 : Nat) (x1 : Int) (x2 : Int) (x3 : Int) (x4 : Int)  (kb : Int → Int → Option (Int)) (kx : Int → Option (Int)) : Option (Int) := (if x4 = 0 then (FX12_guards_b160 N s q0 x1 x3 x2 kb kx) else (FX12_guards_b160 N s q0 x1 x3 x3 kb kx))
set_option maxRecDepth 10000 in
set_option maxHeartbeats 4000000 in
theorem RX12_guards_b150 {d N nc Ls : Nat} {Xs : Nat → Int32} (hd : 5 ≤ d) {h : iv_H} {s : iv_M} (hR : Rep nc Ls Xs h s) {q0 : Nat} (t0 : T12 nc q0) {m1 : Int32} {x1 : Int} (p1 : m1.toInt = x1) {m2 : Int32} {x2 : Int} (p2 : m2.toInt = x2) {m3 : Int32} {x3 : Int} (p3 : m3.toInt = x3) {m4 : Int32} {x4 : Int} (p4 : m4.toInt = x4)  {kb : Int → Int → Option (Int)} {kx : Int → Option (Int)} {r : Int} {Q : Option Value → iv_H → Prop} (hb : ∀ (mw2 : Int32) (xw2 : Int) (pw2 : mw2.toInt = xw2) (mw3 : Int32) (xw3 : Int) (pw3 : mw3.toInt = xw3), kb xw2 xw3 = some r → Rn d 326 (some .int) 32 [some (.ref q0), some (.int m1), some (.int mw2), some (.int mw3), none, none, none] [] h Q) (hk : ∀ (mw2 : Int32) (xw2 : Int) (pw2 : mw2.toInt = xw2), kx xw2 = some r → Rn d 326 (some .int) 167 [none, some (.int m1), some (.int mw2), none, none, none, none] [] h Q) (hq : ∀ (z : Int32), z.toInt = r → Q (some (.int z)) h) (e : FX12_guards_b150 N s q0 x1 x2 x3 x4  kb kx = some r) : Rn d 326 (some .int) 150 [some (.ref q0), some (.int m1), some (.int m2), some (.int m3), some (.int m4), none, none] [] h Q := by
  have hT := hX12_guards
  unfold FX12_guards_b150 at e
  refine Rn.n hT 1 (pc' := 152) (L' := [some (.ref q0), some (.int m1), some (.int m2), some (.int m3), some (.int m4), none, none]) (st' := [.int m4]) rfl ?_
  by_cases c_4216 : x4 = 0
  · rw [if_pos c_4216] at e
    refine Rn.bt hT rfl rfl rfl (decide_eq_true ((ti_e p4 L32_0).mpr c_4216)) ?_
    refine Rn.n hT 1 (pc' := 160) (L' := [some (.ref q0), some (.int m1), some (.int m2), some (.int m3), some (.int m4), none, none]) (st' := [.int m2]) rfl ?_
    exact Rn.weak (ll_s (ll_s (ll_n (ll_s (ll_n (ll_n (ll_n ll_e))))))) (RX12_guards_b160 hd hR t0 p1 p3 p2 hb hk hq e)
  · rw [if_neg c_4216] at e
    refine Rn.bf hT rfl rfl rfl (decide_eq_false (fun z => c_4216 ((ti_e p4 L32_0).mp z))) ?_
    refine Rn.n hT 2 (pc' := 160) (L' := [some (.ref q0), some (.int m1), some (.int m2), some (.int m3), some (.int m4), none, none]) (st' := [.int m3]) rfl ?_
    exact Rn.weak (ll_s (ll_s (ll_n (ll_s (ll_n (ll_n (ll_n ll_e))))))) (RX12_guards_b160 hd hR t0 p1 p3 p3 hb hk hq e)
def FX12_guards_b60 (N : Nat) (s : iv_M) (q0 : Nat) (x1 : Int) (x2 : Int) (x3 : Int) (xs0 : Int) (kb : Int → Int → Option (Int)) (kx : Int → Option (Int)) : Option (Int) := (FX12_guards_l65 N s q0 x1 x2 x3 (fun (x4204_4 : Int) => (FX12_guards_b150 N s q0 x1 x2 x3 x4204_4 kb kx)) N xs0 0)
set_option maxRecDepth 10000 in
set_option maxHeartbeats 4000000 in
theorem RX12_guards_b60 {d N nc Ls : Nat} {Xs : Nat → Int32} (hd : 5 ≤ d) {h : iv_H} {s : iv_M} (hR : Rep nc Ls Xs h s) {q0 : Nat} (t0 : T12 nc q0) {m1 : Int32} {x1 : Int} (p1 : m1.toInt = x1) {m2 : Int32} {x2 : Int} (p2 : m2.toInt = x2) {m3 : Int32} {x3 : Int} (p3 : m3.toInt = x3) {ms0 : Int32} {xs0 : Int} (ps0 : ms0.toInt = xs0) {kb : Int → Int → Option (Int)} {kx : Int → Option (Int)} {r : Int} {Q : Option Value → iv_H → Prop} (hb : ∀ (mw2 : Int32) (xw2 : Int) (pw2 : mw2.toInt = xw2) (mw3 : Int32) (xw3 : Int) (pw3 : mw3.toInt = xw3), kb xw2 xw3 = some r → Rn d 326 (some .int) 32 [some (.ref q0), some (.int m1), some (.int mw2), some (.int mw3), none, none, none] [] h Q) (hk : ∀ (mw2 : Int32) (xw2 : Int) (pw2 : mw2.toInt = xw2), kx xw2 = some r → Rn d 326 (some .int) 167 [none, some (.int m1), some (.int mw2), none, none, none, none] [] h Q) (hq : ∀ (z : Int32), z.toInt = r → Q (some (.int z)) h) (e : FX12_guards_b60 N s q0 x1 x2 x3 xs0 kb kx = some r) : Rn d 326 (some .int) 60 [some (.ref q0), some (.int m1), some (.int m2), some (.int m3), none, none, none] [.int ms0] h Q := by
  have hT := hX12_guards
  unfold FX12_guards_b60 at e
  refine Rn.n hT 3 (pc' := 65) (L' := [some (.ref q0), some (.int m1), some (.int m2), some (.int m3), some (.int ms0), some (.int (0 : Int32)), none]) (st' := []) rfl ?_
  refine Rn.weak (ll_s (ll_s (ll_s (ll_s (ll_s (ll_s (ll_n ll_e))))))) (RX12_guards_l65 hd hR t0 p1 p2 p3 (fun m4204_4 x4204_4 p4204_4 e => ?_) hq N ms0 xs0 ps0 (0 : Int32) 0 L32_0 e)
  try dsimp only at e
  exact Rn.weak (ll_s (ll_s (ll_s (ll_s (ll_s (ll_n (ll_n ll_e))))))) (RX12_guards_b150 hd hR t0 p1 p2 p3 p4204_4 hb hk hq e)
def FX12_guards_l32 (N : Nat) (s : iv_M) (q0 : Nat) (x1 : Int) (kx : Int → Option (Int)) : Nat → Int → Int → Option (Int)
  | 0, _, _ => none
  | n + 1, x2, x3 => ((rd s (q0 + 1) 14 2).bind fun v_4199 => (if (sl32 1 v_4199) ≤ x3 then (kx x2) else ((FX12_bits N s x3).bind fun v_4201 => ((FX12_bits N s x2).bind fun v_4202 => (if v_4202 ≤ v_4201 then (FX12_guards_b60 N s q0 x1 x2 x3 0 (FX12_guards_l32 N s q0 x1 kx n) kx) else (FX12_guards_b60 N s q0 x1 x2 x3 1 (FX12_guards_l32 N s q0 x1 kx n) kx))))))
set_option maxRecDepth 10000 in
set_option maxHeartbeats 4000000 in
theorem RX12_guards_l32 {d N nc Ls : Nat} {Xs : Nat → Int32} (hd : 5 ≤ d) {h : iv_H} {s : iv_M} (hR : Rep nc Ls Xs h s) {q0 : Nat} (t0 : T12 nc q0) {m1 : Int32} {x1 : Int} (p1 : m1.toInt = x1) {kx : Int → Option (Int)} {r : Int} {Q : Option Value → iv_H → Prop} (hk : ∀ (m2 : Int32) (x2 : Int) (p2 : m2.toInt = x2), kx x2 = some r → Rn d 326 (some .int) 167 [none, some (.int m1), some (.int m2), none, none, none, none] [] h Q) (hq : ∀ (z : Int32), z.toInt = r → Q (some (.int z)) h) : ∀ (n : Nat) (m2 : Int32) (x2 : Int) (p2 : m2.toInt = x2) (m3 : Int32) (x3 : Int) (p3 : m3.toInt = x3), FX12_guards_l32 N s q0 x1 kx n x2 x3 = some r → Rn d 326 (some .int) 32 [some (.ref q0), some (.int m1), some (.int m2), some (.int m3), none, none, none] [] h Q := by
  have hT := hX12_guards
  intro n
  induction n with
  | zero =>
    intro m2 x2 p2 m3 x3 p3 e
    rw [FX12_guards_l32] at e
    cases e
  | succ n ih =>
    intro m2 x2 p2 m3 x3 p3 e
    rw [FX12_guards_l32] at e
    refine Rn.n hT 3 (pc' := 35) (L' := [some (.ref q0), some (.int m1), some (.int m2), some (.int m3), none, none, none]) (st' := [.ref q0, .int (1 : Int32), .int m3]) rfl ?_
    refine Rn.hp hT rfl rfl (gR_hp (rp_gR hR (T12_o t0) rfl)) ?_
    refine Rn.n hT 1 (pc' := 39) (L' := [some (.ref q0), some (.int m1), some (.int m2), some (.int m3), none, none, none]) (st' := [.int (2 : Int32), .ref (q0 + 1), .int (1 : Int32), .int m3]) rfl ?_
    obtain ⟨v_4199, e_4199, e⟩ := Option.bind_eq_some_iff.mp e
    obtain ⟨z_4199, g_4199, p_4199⟩ := rp_aI hR (T12_1 t0) (T12_1l t0) L32_2 e_4199
    refine Rn.hp hT rfl rfl (aI_hp g_4199) ?_
    refine Rn.n hT 1 (pc' := 41) (L' := [some (.ref q0), some (.int m1), some (.int m2), some (.int m3), none, none, none]) (st' := [.int ((1 : Int32) <<< (z_4199 &&& 31)), .int m3]) rfl ?_
    by_cases c_4200 : (sl32 1 v_4199) ≤ x3
    · rw [if_pos c_4200] at e
      refine Rn.bt hT rfl rfl rfl (decide_eq_true ((ti_le (ti_shl L32_1 p_4199) p3).mpr c_4200)) ?_
      exact Rn.weak (ll_n (ll_s (ll_s (ll_n (ll_n (ll_n (ll_n ll_e))))))) (hk m2 x2 p2 e)
    · rw [if_neg c_4200] at e
      refine Rn.bf hT rfl rfl rfl (decide_eq_false (fun z => c_4200 ((ti_le (ti_shl L32_1 p_4199) p3).mp z))) ?_
      refine Rn.n hT 1 (pc' := 45) (L' := [some (.ref q0), some (.int m1), some (.int m2), some (.int m3), none, none, none]) (st' := [.int m3]) rfl ?_
      obtain ⟨v_4201, e_4201, e⟩ := Option.bind_eq_some_iff.mp e
      refine Rn.call hT rfl rfl rfl (Nat.le_of_ble_eq_true rfl) rfl (RX12_bits (by omega) hR p3 e_4201 (fun z_4201 p_4201 => ?_))
      show Rn d _ _ 48 [some (.ref q0), some (.int m1), some (.int m2), some (.int m3), none, none, none] [.int z_4201] h Q
      refine Rn.n hT 1 (pc' := 49) (L' := [some (.ref q0), some (.int m1), some (.int m2), some (.int m3), none, none, none]) (st' := [.int m2, .int z_4201]) rfl ?_
      obtain ⟨v_4202, e_4202, e⟩ := Option.bind_eq_some_iff.mp e
      refine Rn.call hT rfl rfl rfl (Nat.le_of_ble_eq_true rfl) rfl (RX12_bits (by omega) hR p2 e_4202 (fun z_4202 p_4202 => ?_))
      show Rn d _ _ 52 [some (.ref q0), some (.int m1), some (.int m2), some (.int m3), none, none, none] [.int z_4202, .int z_4201] h Q
      by_cases c_4203 : v_4202 ≤ v_4201
      · rw [if_pos c_4203] at e
        refine Rn.bt hT rfl rfl rfl (decide_eq_true ((ti_le p_4202 p_4201).mpr c_4203)) ?_
        refine Rn.n hT 1 (pc' := 60) (L' := [some (.ref q0), some (.int m1), some (.int m2), some (.int m3), none, none, none]) (st' := [.int (0 : Int32)]) rfl ?_
        exact Rn.weak (ll_s (ll_s (ll_s (ll_s (ll_n (ll_n (ll_n ll_e))))))) (RX12_guards_b60 hd hR t0 p1 p2 p3 L32_0 ih hk hq e)
      · rw [if_neg c_4203] at e
        refine Rn.bf hT rfl rfl rfl (decide_eq_false (fun z => c_4203 ((ti_le p_4202 p_4201).mp z))) ?_
        refine Rn.n hT 2 (pc' := 60) (L' := [some (.ref q0), some (.int m1), some (.int m2), some (.int m3), none, none, none]) (st' := [.int (1 : Int32)]) rfl ?_
        exact Rn.weak (ll_s (ll_s (ll_s (ll_s (ll_n (ll_n (ll_n ll_e))))))) (RX12_guards_b60 hd hR t0 p1 p2 p3 L32_1 ih hk hq e)
def FX12_guards_b179 (N : Nat) (s : iv_M)  (xs0 : Int) : Option (Int) := (some xs0)
set_option maxRecDepth 10000 in
set_option maxHeartbeats 4000000 in
theorem RX12_guards_b179 {d N nc Ls : Nat} {Xs : Nat → Int32} (hd : 5 ≤ d) {h : iv_H} {s : iv_M} (hR : Rep nc Ls Xs h s)  {ms0 : Int32} {xs0 : Int} (ps0 : ms0.toInt = xs0) {r : Int} {Q : Option Value → iv_H → Prop} (hq : ∀ (z : Int32), z.toInt = r → Q (some (.int z)) h) (e : FX12_guards_b179 N s  xs0 = some r) : Rn d 326 (some .int) 179 [none, none, none, none, none, none, none] [.int ms0] h Q := by
  have hT := hX12_guards
  unfold FX12_guards_b179 at e
  obtain rfl := Option.some.inj e
  exact Rn.ret hT rfl rfl rfl (hq ms0 ps0)
def FX12_guards (N : Nat) (s : iv_M) (q0 : Nat) (x1 : Int) : Option (Int) := ((FX12_isPalace N s q0).bind fun v_4191 => (if v_4191 = 0 then (FX12_guards_b17 N s) else ((FX12_in N s x1 0 1).bind fun v_4193 => (if v_4193 = 0 then (FX12_guards_b17 N s) else ((rd s (q0 + 1) 14 2).bind fun v_4195 => (FX12_guards_l32 N s q0 x1 (fun (x4196_2 : Int) => (if x1 = 0 then ((FX12_bits N s x4196_2).bind fun v_4198 => (FX12_guards_b179 N s v_4198)) else (FX12_guards_b179 N s x4196_2))) N (w32 ((sl32 1 v_4195) - 1)) 0))))))
set_option maxRecDepth 10000 in
set_option maxHeartbeats 4000000 in
theorem RX12_guards {d N nc Ls : Nat} {Xs : Nat → Int32} (hd : 6 ≤ d) {h : iv_H} {s : iv_M} (hR : Rep nc Ls Xs h s) {q0 : Nat} (t0 : T12 nc q0) {m1 : Int32} {x1 : Int} (p1 : m1.toInt = x1) {r : Int} {Q : Option Value → iv_H → Prop} (e : FX12_guards N s q0 x1 = some r) (hq : ∀ (z : Int32), z.toInt = r → Q (some (.int z)) h) : Cl d 326 [.ref q0, .int m1] h Q := by
  obtain ⟨d, rfl⟩ : ∃ k, d = k + 1 := ⟨d - 1, by omega⟩
  have hd : 5 ≤ d := by omega
  have hT := hX12_guards
  unfold FX12_guards at e
  refine Cl.into (by decide) gX12_guards rfl ?_
  show Rn d 326 (some .int) 0 [some (.ref q0), some (.int m1), none, none, none, none, none] [] h Q
  refine Rn.n hT 1 (pc' := 1) (L' := [some (.ref q0), some (.int m1), none, none, none, none, none]) (st' := [.ref q0]) rfl ?_
  obtain ⟨v_4191, e_4191, e⟩ := Option.bind_eq_some_iff.mp e
  refine Rn.call hT rfl rfl rfl (Nat.le_of_ble_eq_true rfl) (rcv_v gX12_isPalace (by omega) (rp_ck hR (T12_o t0))) (RX12_isPalace (by omega) hR t0 e_4191 (fun z_4191 p_4191 => ?_))
  show Rn d _ _ 4 [some (.ref q0), some (.int m1), none, none, none, none, none] [.int z_4191] h Q
  by_cases c_4192 : v_4191 = 0
  · rw [if_pos c_4192] at e
    refine Rn.bt hT rfl rfl rfl (decide_eq_true ((ti_e p_4191 L32_0).mpr c_4192)) ?_
    exact Rn.weak (ll_n (ll_n (ll_n (ll_n (ll_n (ll_n (ll_n ll_e))))))) (RX12_guards_b17 hd hR hq e)
  · rw [if_neg c_4192] at e
    refine Rn.bf hT rfl rfl rfl (decide_eq_false (fun z => c_4192 ((ti_e p_4191 L32_0).mp z))) ?_
    refine Rn.n hT 4 (pc' := 11) (L' := [some (.ref q0), some (.int m1), none, none, none, none, none]) (st' := [.long (1 : Int64), .long (0 : Int64), .long ((m1).toInt64)]) rfl ?_
    obtain ⟨v_4193, e_4193, e⟩ := Option.bind_eq_some_iff.mp e
    refine Rn.call hT rfl rfl rfl (Nat.le_of_ble_eq_true rfl) rfl (RX12_in (by omega) hR (ti_j p1) L64_0 L64_1 e_4193 (fun z_4193 p_4193 => ?_))
    show Rn d _ _ 14 [some (.ref q0), some (.int m1), none, none, none, none, none] [.int z_4193] h Q
    by_cases c_4194 : v_4193 = 0
    · rw [if_pos c_4194] at e
      refine Rn.bf hT rfl rfl rfl (decide_eq_false (fun z => z ((ti_e p_4193 L32_0).mpr c_4194))) ?_
      exact Rn.weak (ll_n (ll_n (ll_n (ll_n (ll_n (ll_n (ll_n ll_e))))))) (RX12_guards_b17 hd hR hq e)
    · rw [if_neg c_4194] at e
      refine Rn.bt hT rfl rfl rfl (decide_eq_true (fun z => c_4194 ((ti_e p_4193 L32_0).mp z))) ?_
      refine Rn.n hT 2 (pc' := 21) (L' := [some (.ref q0), some (.int m1), none, none, none, none, none]) (st' := [.ref q0, .int (1 : Int32)]) rfl ?_
      refine Rn.hp hT rfl rfl (gR_hp (rp_gR hR (T12_o t0) rfl)) ?_
      refine Rn.n hT 1 (pc' := 25) (L' := [some (.ref q0), some (.int m1), none, none, none, none, none]) (st' := [.int (2 : Int32), .ref (q0 + 1), .int (1 : Int32)]) rfl ?_
      obtain ⟨v_4195, e_4195, e⟩ := Option.bind_eq_some_iff.mp e
      obtain ⟨z_4195, g_4195, p_4195⟩ := rp_aI hR (T12_1 t0) (T12_1l t0) L32_2 e_4195
      refine Rn.hp hT rfl rfl (aI_hp g_4195) ?_
      refine Rn.n hT 6 (pc' := 32) (L' := [some (.ref q0), some (.int m1), some (.int (((1 : Int32) <<< (z_4195 &&& 31)) - (1 : Int32))), some (.int (0 : Int32)), none, none, none]) (st' := []) rfl ?_
      refine Rn.weak (ll_s (ll_s (ll_s (ll_s (ll_n (ll_n (ll_n ll_e))))))) (RX12_guards_l32 hd hR t0 p1 (fun m4196_2 x4196_2 p4196_2 e => ?_) hq N (((1 : Int32) <<< (z_4195 &&& 31)) - (1 : Int32)) (w32 ((sl32 1 v_4195) - 1)) (ti_sub (ti_shl L32_1 p_4195) L32_1) (0 : Int32) 0 L32_0 e)
      try dsimp only at e
      refine Rn.n hT 1 (pc' := 168) (L' := [none, some (.int m1), some (.int m4196_2), none, none, none, none]) (st' := [.int m1]) rfl ?_
      by_cases c_4197 : x1 = 0
      · rw [if_pos c_4197] at e
        refine Rn.bf hT rfl rfl rfl (decide_eq_false (fun z => z ((ti_e p1 L32_0).mpr c_4197))) ?_
        refine Rn.n hT 1 (pc' := 172) (L' := [none, some (.int m1), some (.int m4196_2), none, none, none, none]) (st' := [.int m4196_2]) rfl ?_
        obtain ⟨v_4198, e_4198, e⟩ := Option.bind_eq_some_iff.mp e
        refine Rn.call hT rfl rfl rfl (Nat.le_of_ble_eq_true rfl) rfl (RX12_bits (by omega) hR p4196_2 e_4198 (fun z_4198 p_4198 => ?_))
        show Rn d _ _ 175 [none, some (.int m1), some (.int m4196_2), none, none, none, none] [.int z_4198] h Q
        refine Rn.n hT 1 (pc' := 179) (L' := [none, some (.int m1), some (.int m4196_2), none, none, none, none]) (st' := [.int z_4198]) rfl ?_
        exact Rn.weak (ll_n (ll_n (ll_n (ll_n (ll_n (ll_n (ll_n ll_e))))))) (RX12_guards_b179 hd hR p_4198 hq e)
      · rw [if_neg c_4197] at e
        refine Rn.bt hT rfl rfl rfl (decide_eq_true (fun z => c_4197 ((ti_e p1 L32_0).mp z))) ?_
        refine Rn.n hT 1 (pc' := 179) (L' := [none, some (.int m1), some (.int m4196_2), none, none, none, none]) (st' := [.int m4196_2]) rfl ?_
        exact Rn.weak (ll_n (ll_n (ll_n (ll_n (ll_n (ll_n (ll_n ll_e))))))) (RX12_guards_b179 hd hR p4196_2 hq e)
