-- FLAT MIRRORS, 8 (written by wip/whole/mir2.py)
set_option maxRecDepth 10000 in
theorem hX12_readsAll : iv_Tb 238 tX12_readsAll := iv_tb_of (m := mX12_readsAll) rfl
set_option maxRecDepth 10000 in
theorem gX12_readsAll : PG.2 238 = some mX12_readsAll := iv_pi_of (t := tX12_readsAll) rfl (by decide)
def FX12_readsAll_l11 (N : Nat) (q0 : Nat) (kx : iv_M → Option (iv_M)) : Nat → iv_M → Int → Option (iv_M)
  | 0, _, _ => none
  | n + 1, s, x1 => (if 5 ≤ x1 then (kx s) else ((wr s (q0 + 19) 5 x1 0).bind fun s_2914 => (FX12_readsAll_l11 N q0 kx n s_2914 (w32 (x1 + 1)))))
set_option maxRecDepth 10000 in
set_option maxHeartbeats 4000000 in
theorem RX12_readsAll_l11 {d N nc Ls : Nat} {Xs : Nat → Int32} (hd : 12 ≤ d) {q0 : Nat} (t0 : T12 nc q0) {kx : iv_M → Option (iv_M)} {r : iv_M} {Q : Option Value → iv_H → Prop} (hk : ∀ (h : iv_H) (s : iv_M) (hR : Rep nc Ls Xs h s), kx s = some r → Rn d 238 none 29 [some (.ref q0), none, none] [] h Q) (hq : ∀ h1, Rep nc Ls Xs h1 r → Q none h1) : ∀ (n : Nat) (h : iv_H) (s : iv_M) (hR : Rep nc Ls Xs h s) (m1 : Int32) (x1 : Int) (p1 : m1.toInt = x1), FX12_readsAll_l11 N q0 kx n s x1 = some r → Rn d 238 none 11 [some (.ref q0), some (.int m1), none] [] h Q := by
  have hT := hX12_readsAll
  intro n
  induction n with
  | zero =>
    intro h s hR m1 x1 p1 e
    rw [FX12_readsAll_l11] at e
    cases e
  | succ n ih =>
    intro h s hR m1 x1 p1 e
    rw [FX12_readsAll_l11] at e
    refine Rn.n hT 2 (pc' := 13) (L' := [some (.ref q0), some (.int m1), none]) (st' := [.int (5 : Int32), .int m1]) rfl ?_
    by_cases c_2913 : 5 ≤ x1
    · rw [if_pos c_2913] at e
      refine Rn.bt hT rfl rfl rfl (decide_eq_true ((ti_le L32_5 p1).mpr c_2913)) ?_
      exact Rn.weak (ll_s (ll_n (ll_n ll_e))) (hk h s hR e)
    · rw [if_neg c_2913] at e
      refine Rn.bf hT rfl rfl rfl (decide_eq_false (fun z => c_2913 ((ti_le L32_5 p1).mp z))) ?_
      refine Rn.n hT 1 (pc' := 17) (L' := [some (.ref q0), some (.int m1), none]) (st' := [.ref q0]) rfl ?_
      refine Rn.hp hT rfl rfl (gR_hp (rp_gR hR (T12_o t0) rfl)) ?_
      refine Rn.n hT 2 (pc' := 22) (L' := [some (.ref q0), some (.int m1), none]) (st' := [.int (0 : Int32), .int m1, .ref (q0 + 19)]) rfl ?_
      obtain ⟨s_2914, e_2915, e⟩ := Option.bind_eq_some_iff.mp e
      obtain ⟨h_2914, g_2915, R_2914⟩ := rp_wI hR (T12_19 t0) (T12_19l t0) p1 L32_0 e_2915
      refine Rn.hp hT rfl rfl (wI_hp g_2915) ?_
      refine Rn.n hT 2 (pc' := 11) (L' := [some (.ref q0), some (.int (m1 + (1 : Int32))), none]) (st' := []) rfl ?_
      exact Rn.weak (ll_s (ll_s (ll_n ll_e))) (ih h_2914 s_2914 R_2914 (m1 + (1 : Int32)) (w32 (x1 + 1)) (ti_add p1 L32_1) e)
def FX12_readsAll_l39 (N : Nat) (q0 : Nat) (kx : iv_M → Option (iv_M)) : Nat → iv_M → Int → Option (iv_M)
  | 0, _, _ => none
  | n + 1, s, x1 => (if 4 ≤ x1 then (kx s) else ((wr s (q0 + 23) 4 x1 (-1)).bind fun s_2917 => (FX12_readsAll_l39 N q0 kx n s_2917 (w32 (x1 + 1)))))
set_option maxRecDepth 10000 in
set_option maxHeartbeats 4000000 in
theorem RX12_readsAll_l39 {d N nc Ls : Nat} {Xs : Nat → Int32} (hd : 12 ≤ d) {q0 : Nat} (t0 : T12 nc q0) {kx : iv_M → Option (iv_M)} {r : iv_M} {Q : Option Value → iv_H → Prop} (hk : ∀ (h : iv_H) (s : iv_M) (hR : Rep nc Ls Xs h s), kx s = some r → Rn d 238 none 57 [some (.ref q0), none, none] [] h Q) (hq : ∀ h1, Rep nc Ls Xs h1 r → Q none h1) : ∀ (n : Nat) (h : iv_H) (s : iv_M) (hR : Rep nc Ls Xs h s) (m1 : Int32) (x1 : Int) (p1 : m1.toInt = x1), FX12_readsAll_l39 N q0 kx n s x1 = some r → Rn d 238 none 39 [some (.ref q0), some (.int m1), none] [] h Q := by
  have hT := hX12_readsAll
  intro n
  induction n with
  | zero =>
    intro h s hR m1 x1 p1 e
    rw [FX12_readsAll_l39] at e
    cases e
  | succ n ih =>
    intro h s hR m1 x1 p1 e
    rw [FX12_readsAll_l39] at e
    refine Rn.n hT 2 (pc' := 41) (L' := [some (.ref q0), some (.int m1), none]) (st' := [.int (4 : Int32), .int m1]) rfl ?_
    by_cases c_2916 : 4 ≤ x1
    · rw [if_pos c_2916] at e
      refine Rn.bt hT rfl rfl rfl (decide_eq_true ((ti_le L32_4 p1).mpr c_2916)) ?_
      exact Rn.weak (ll_s (ll_n (ll_n ll_e))) (hk h s hR e)
    · rw [if_neg c_2916] at e
      refine Rn.bf hT rfl rfl rfl (decide_eq_false (fun z => c_2916 ((ti_le L32_4 p1).mp z))) ?_
      refine Rn.n hT 1 (pc' := 45) (L' := [some (.ref q0), some (.int m1), none]) (st' := [.ref q0]) rfl ?_
      refine Rn.hp hT rfl rfl (gR_hp (rp_gR hR (T12_o t0) rfl)) ?_
      refine Rn.n hT 2 (pc' := 50) (L' := [some (.ref q0), some (.int m1), none]) (st' := [.int (-1 : Int32), .int m1, .ref (q0 + 23)]) rfl ?_
      obtain ⟨s_2917, e_2918, e⟩ := Option.bind_eq_some_iff.mp e
      obtain ⟨h_2917, g_2918, R_2917⟩ := rp_wI hR (T12_23 t0) (T12_23l t0) p1 L32_m1 e_2918
      refine Rn.hp hT rfl rfl (wI_hp g_2918) ?_
      refine Rn.n hT 2 (pc' := 39) (L' := [some (.ref q0), some (.int (m1 + (1 : Int32))), none]) (st' := []) rfl ?_
      exact Rn.weak (ll_s (ll_s (ll_n ll_e))) (ih h_2917 s_2917 R_2917 (m1 + (1 : Int32)) (w32 (x1 + 1)) (ti_add p1 L32_1) e)
def FX12_readsAll_l59 (N : Nat) (q0 : Nat) (kx : iv_M → Option (iv_M)) : Nat → iv_M → Int → Option (iv_M)
  | 0, _, _ => none
  | n + 1, s, x1 => (if 16 ≤ x1 then (kx s) else ((wr s (q0 + 25) 16 x1 (-1)).bind fun s_2920 => (FX12_readsAll_l59 N q0 kx n s_2920 (w32 (x1 + 1)))))
set_option maxRecDepth 10000 in
set_option maxHeartbeats 4000000 in
theorem RX12_readsAll_l59 {d N nc Ls : Nat} {Xs : Nat → Int32} (hd : 12 ≤ d) {q0 : Nat} (t0 : T12 nc q0) {kx : iv_M → Option (iv_M)} {r : iv_M} {Q : Option Value → iv_H → Prop} (hk : ∀ (h : iv_H) (s : iv_M) (hR : Rep nc Ls Xs h s), kx s = some r → Rn d 238 none 78 [some (.ref q0), none, none] [] h Q) (hq : ∀ h1, Rep nc Ls Xs h1 r → Q none h1) : ∀ (n : Nat) (h : iv_H) (s : iv_M) (hR : Rep nc Ls Xs h s) (m1 : Int32) (x1 : Int) (p1 : m1.toInt = x1), FX12_readsAll_l59 N q0 kx n s x1 = some r → Rn d 238 none 59 [some (.ref q0), some (.int m1), none] [] h Q := by
  have hT := hX12_readsAll
  intro n
  induction n with
  | zero =>
    intro h s hR m1 x1 p1 e
    rw [FX12_readsAll_l59] at e
    cases e
  | succ n ih =>
    intro h s hR m1 x1 p1 e
    rw [FX12_readsAll_l59] at e
    refine Rn.n hT 2 (pc' := 62) (L' := [some (.ref q0), some (.int m1), none]) (st' := [.int (16 : Int32), .int m1]) rfl ?_
    by_cases c_2919 : 16 ≤ x1
    · rw [if_pos c_2919] at e
      refine Rn.bt hT rfl rfl rfl (decide_eq_true ((ti_le L32_16 p1).mpr c_2919)) ?_
      exact Rn.weak (ll_s (ll_n (ll_n ll_e))) (hk h s hR e)
    · rw [if_neg c_2919] at e
      refine Rn.bf hT rfl rfl rfl (decide_eq_false (fun z => c_2919 ((ti_le L32_16 p1).mp z))) ?_
      refine Rn.n hT 1 (pc' := 66) (L' := [some (.ref q0), some (.int m1), none]) (st' := [.ref q0]) rfl ?_
      refine Rn.hp hT rfl rfl (gR_hp (rp_gR hR (T12_o t0) rfl)) ?_
      refine Rn.n hT 2 (pc' := 71) (L' := [some (.ref q0), some (.int m1), none]) (st' := [.int (-1 : Int32), .int m1, .ref (q0 + 25)]) rfl ?_
      obtain ⟨s_2920, e_2921, e⟩ := Option.bind_eq_some_iff.mp e
      obtain ⟨h_2920, g_2921, R_2920⟩ := rp_wI hR (T12_25 t0) (T12_25l t0) p1 L32_m1 e_2921
      refine Rn.hp hT rfl rfl (wI_hp g_2921) ?_
      refine Rn.n hT 2 (pc' := 59) (L' := [some (.ref q0), some (.int (m1 + (1 : Int32))), none]) (st' := []) rfl ?_
      exact Rn.weak (ll_s (ll_s (ll_n ll_e))) (ih h_2920 s_2920 R_2920 (m1 + (1 : Int32)) (w32 (x1 + 1)) (ti_add p1 L32_1) e)
def FX12_readsAll_l82 (N : Nat) (q0 : Nat) (kx : iv_M → Option (iv_M)) : Nat → iv_M → Int → Int → Option (iv_M)
  | 0, _, _, _ => none
  | n + 1, s, x1, x2 => (if x2 = 0 then (kx s) else ((FX12_palaceClause N s q0 x1).bind fun s_2924 => ((FX12_goesOn N s_2924 q0).bind fun r_2925 => (fun (v_2925 : Int) (s_2926 : iv_M) => (FX12_readsAll_l82 N q0 kx n s_2926 (w32 (x1 + 1)) v_2925)) r_2925.1 r_2925.2)))
set_option maxRecDepth 10000 in
set_option maxHeartbeats 4000000 in
theorem RX12_readsAll_l82 {d N nc Ls : Nat} {Xs : Nat → Int32} (hd : 12 ≤ d) {q0 : Nat} (t0 : T12 nc q0) {kx : iv_M → Option (iv_M)} {r : iv_M} {Q : Option Value → iv_H → Prop} (hk : ∀ (h : iv_H) (s : iv_M) (hR : Rep nc Ls Xs h s), kx s = some r → Rn d 238 none 102 [some (.ref q0), none, none] [] h Q) (hq : ∀ h1, Rep nc Ls Xs h1 r → Q none h1) : ∀ (n : Nat) (h : iv_H) (s : iv_M) (hR : Rep nc Ls Xs h s) (m1 : Int32) (x1 : Int) (p1 : m1.toInt = x1) (m2 : Int32) (x2 : Int) (p2 : m2.toInt = x2), FX12_readsAll_l82 N q0 kx n s x1 x2 = some r → Rn d 238 none 82 [some (.ref q0), some (.int m1), some (.int m2)] [] h Q := by
  have hT := hX12_readsAll
  intro n
  induction n with
  | zero =>
    intro h s hR m1 x1 p1 m2 x2 p2 e
    rw [FX12_readsAll_l82] at e
    cases e
  | succ n ih =>
    intro h s hR m1 x1 p1 m2 x2 p2 e
    rw [FX12_readsAll_l82] at e
    refine Rn.n hT 1 (pc' := 83) (L' := [some (.ref q0), some (.int m1), some (.int m2)]) (st' := [.int m2]) rfl ?_
    by_cases c_2922 : x2 = 0
    · rw [if_pos c_2922] at e
      refine Rn.bt hT rfl rfl rfl (decide_eq_true ((ti_e p2 L32_0).mpr c_2922)) ?_
      exact Rn.weak (ll_s (ll_n (ll_n ll_e))) (hk h s hR e)
    · rw [if_neg c_2922] at e
      refine Rn.bf hT rfl rfl rfl (decide_eq_false (fun z => c_2922 ((ti_e p2 L32_0).mp z))) ?_
      refine Rn.n hT 2 (pc' := 88) (L' := [some (.ref q0), some (.int m1), some (.int m2)]) (st' := [.int m1, .ref q0]) rfl ?_
      obtain ⟨s_2924, e_2923, e⟩ := Option.bind_eq_some_iff.mp e
      refine Rn.call hT rfl rfl rfl (Nat.le_of_ble_eq_true rfl) (rcv_v gX12_palaceClause (by omega) (rp_ck hR (T12_o t0))) (RX12_palaceClause (by omega) hR t0 p1 e_2923 (fun h_2924 R_2924 => ?_))
      show Rn d _ _ 91 [some (.ref q0), some (.int m1), some (.int m2)] [] h_2924 Q
      refine Rn.n hT 2 (pc' := 95) (L' := [some (.ref q0), some (.int (m1 + (1 : Int32))), some (.int m2)]) (st' := [.ref q0]) rfl ?_
      obtain ⟨⟨v_2925, s_2926⟩, e_2925, e⟩ := Option.bind_eq_some_iff.mp e
      try dsimp only at e
      try dsimp only at e
      refine Rn.call hT rfl rfl rfl (Nat.le_of_ble_eq_true rfl) (rcv_v gX12_goesOn (by omega) (rp_ck R_2924 (T12_o t0))) (RX12_goesOn (by omega) R_2924 t0 e_2925 (fun z_2925 h_2926 p_2925 R_2926 => ?_))
      show Rn d _ _ 98 [some (.ref q0), some (.int (m1 + (1 : Int32))), some (.int m2)] [.int z_2925] h_2926 Q
      refine Rn.n hT 2 (pc' := 82) (L' := [some (.ref q0), some (.int (m1 + (1 : Int32))), some (.int z_2925)]) (st' := []) rfl ?_
      exact Rn.weak (ll_s (ll_s (ll_s ll_e))) (ih h_2926 s_2926 R_2926 (m1 + (1 : Int32)) (w32 (x1 + 1)) (ti_add p1 L32_1) z_2925 v_2925 p_2925 e)
def FX12_readsAll (N : Nat) (s : iv_M) (q0 : Nat) : Option (iv_M) := ((FX12_starts N s q0).bind fun s_2898 => ((pt s_2898 q0 38 0).bind fun s_2899 => (FX12_readsAll_l11 N q0 (fun (s_2901 : iv_M) => ((wr s_2901 (q0 + 19) 5 4 7).bind fun s_2903 => (FX12_readsAll_l39 N q0 (fun (s_2905 : iv_M) => (FX12_readsAll_l59 N q0 (fun (s_2907 : iv_M) => (FX12_readsAll_l82 N q0 (fun (s_2909 : iv_M) => ((pt s_2909 q0 28 0).bind fun s_2911 => some s_2911)) N s_2907 0 1)) N s_2905 0)) N s_2903 0))) N s_2899 0)))
set_option maxRecDepth 10000 in
set_option maxHeartbeats 4000000 in
theorem RX12_readsAll {d N nc Ls : Nat} {Xs : Nat → Int32} (hd : 13 ≤ d) {h : iv_H} {s : iv_M} (hR : Rep nc Ls Xs h s) {q0 : Nat} (t0 : T12 nc q0) {r : iv_M} {Q : Option Value → iv_H → Prop} (e : FX12_readsAll N s q0 = some r) (hq : ∀ h1, Rep nc Ls Xs h1 r → Q none h1) : Cl d 238 [.ref q0] h Q := by
  obtain ⟨d, rfl⟩ : ∃ k, d = k + 1 := ⟨d - 1, by omega⟩
  have hd : 12 ≤ d := by omega
  have hT := hX12_readsAll
  unfold FX12_readsAll at e
  refine Cl.into (by decide) gX12_readsAll rfl ?_
  show Rn d 238 none 0 [some (.ref q0), none, none] [] h Q
  refine Rn.n hT 1 (pc' := 1) (L' := [some (.ref q0), none, none]) (st' := [.ref q0]) rfl ?_
  obtain ⟨s_2898, e_2897, e⟩ := Option.bind_eq_some_iff.mp e
  refine Rn.call hT rfl rfl rfl (Nat.le_of_ble_eq_true rfl) (rcv_v gX12_starts (by omega) (rp_ck hR (T12_o t0))) (RX12_starts (by omega) hR t0 e_2897 (fun h_2898 R_2898 => ?_))
  show Rn d _ _ 4 [some (.ref q0), none, none] [] h_2898 Q
  refine Rn.n hT 2 (pc' := 6) (L' := [some (.ref q0), none, none]) (st' := [.int (0 : Int32), .ref q0]) rfl ?_
  obtain ⟨s_2899, e_2900, e⟩ := Option.bind_eq_some_iff.mp e
  obtain ⟨h_2899, g_2900, R_2899⟩ := rp_pI (ci := 12) (k := 38) R_2898 (T12_o t0) rfl rfl L32_0 e_2900
  refine Rn.hp hT rfl rfl (pV_hp (by decide) g_2900) ?_
  refine Rn.n hT 2 (pc' := 11) (L' := [some (.ref q0), some (.int (0 : Int32)), none]) (st' := []) rfl ?_
  refine Rn.weak (ll_s (ll_s (ll_n ll_e))) (RX12_readsAll_l11 hd t0 (fun h_2901 s_2901 R_2901 e => ?_) hq N h_2899 s_2899 R_2899 (0 : Int32) 0 L32_0 e)
  try dsimp only at e
  refine Rn.n hT 1 (pc' := 30) (L' := [some (.ref q0), none, none]) (st' := [.ref q0]) rfl ?_
  refine Rn.hp hT rfl rfl (gR_hp (rp_gR R_2901 (T12_o t0) rfl)) ?_
  refine Rn.n hT 2 (pc' := 36) (L' := [some (.ref q0), none, none]) (st' := [.int (7 : Int32), .int (4 : Int32), .ref (q0 + 19)]) rfl ?_
  obtain ⟨s_2903, e_2904, e⟩ := Option.bind_eq_some_iff.mp e
  obtain ⟨h_2903, g_2904, R_2903⟩ := rp_wI R_2901 (T12_19 t0) (T12_19l t0) L32_4 L32_7 e_2904
  refine Rn.hp hT rfl rfl (wI_hp g_2904) ?_
  refine Rn.n hT 2 (pc' := 39) (L' := [some (.ref q0), some (.int (0 : Int32)), none]) (st' := []) rfl ?_
  refine Rn.weak (ll_s (ll_s (ll_n ll_e))) (RX12_readsAll_l39 hd t0 (fun h_2905 s_2905 R_2905 e => ?_) hq N h_2903 s_2903 R_2903 (0 : Int32) 0 L32_0 e)
  try dsimp only at e
  refine Rn.n hT 2 (pc' := 59) (L' := [some (.ref q0), some (.int (0 : Int32)), none]) (st' := []) rfl ?_
  refine Rn.weak (ll_s (ll_s (ll_n ll_e))) (RX12_readsAll_l59 hd t0 (fun h_2907 s_2907 R_2907 e => ?_) hq N h_2905 s_2905 R_2905 (0 : Int32) 0 L32_0 e)
  try dsimp only at e
  refine Rn.n hT 4 (pc' := 82) (L' := [some (.ref q0), some (.int (0 : Int32)), some (.int (1 : Int32))]) (st' := []) rfl ?_
  refine Rn.weak (ll_s (ll_s (ll_s ll_e))) (RX12_readsAll_l82 hd t0 (fun h_2909 s_2909 R_2909 e => ?_) hq N h_2907 s_2907 R_2907 (0 : Int32) 0 L32_0 (1 : Int32) 1 L32_1 e)
  try dsimp only at e
  refine Rn.n hT 2 (pc' := 104) (L' := [some (.ref q0), none, none]) (st' := [.int (0 : Int32), .ref q0]) rfl ?_
  obtain ⟨s_2911, e_2912, e⟩ := Option.bind_eq_some_iff.mp e
  obtain ⟨h_2911, g_2912, R_2911⟩ := rp_pI (ci := 12) (k := 28) R_2909 (T12_o t0) rfl rfl L32_0 e_2912
  refine Rn.hp hT rfl rfl (pV_hp rfl g_2912) ?_
  obtain rfl := Option.some.inj e
  exact Rn.ret hT rfl rfl rfl (hq h_2911 R_2911)
set_option maxRecDepth 10000 in
theorem hX12_palace : iv_Tb 239 tX12_palace := iv_tb_of (m := mX12_palace) rfl
set_option maxRecDepth 10000 in
theorem gX12_palace : PG.2 239 = some mX12_palace := iv_pi_of (t := tX12_palace) rfl (by decide)
def FX12_palace_b47 (N : Nat) (s : iv_M) (q0 : Nat) (x1 : Int) (xs0 : Int) (xs1 : Int) (qs2 : Nat) (kb : iv_M → Int → Option (Int × iv_M)) (kx : iv_M → Option (Int × iv_M)) : Option (Int × iv_M) := ((wr s qs2 ((sh qs2).2 : Int) xs1 xs0).bind fun s_2954 => (kb s_2954 (w32 (x1 + 1))))
set_option maxRecDepth 10000 in
set_option maxHeartbeats 4000000 in
theorem RX12_palace_b47 {d N nc Ls : Nat} {Xs : Nat → Int32} (hd : 13 ≤ d) {h : iv_H} {s : iv_M} (hR : Rep nc Ls Xs h s) {q0 : Nat} (t0 : T12 nc q0) {m1 : Int32} {x1 : Int} (p1 : m1.toInt = x1) {ms0 : Int32} {xs0 : Int} (ps0 : ms0.toInt = xs0) {ms1 : Int32} {xs1 : Int} (ps1 : ms1.toInt = xs1) {qs2 : Nat} (ts2 : TA 0 nc qs2) {kb : iv_M → Int → Option (Int × iv_M)} {kx : iv_M → Option (Int × iv_M)} {r : Int × iv_M} {Q : Option Value → iv_H → Prop} (hb : ∀ (h : iv_H) (s : iv_M) (hR : Rep nc Ls Xs h s) (mw1 : Int32) (xw1 : Int) (pw1 : mw1.toInt = xw1), kb s xw1 = some r → Rn d 239 (some .int) 21 [some (.ref q0), some (.int mw1)] [] h Q) (hk : ∀ (h : iv_H) (s : iv_M) (hR : Rep nc Ls Xs h s), kx s = some r → Rn d 239 (some .int) 54 [some (.ref q0), none] [] h Q) (hq : ∀ (z : Int32) (h1 : iv_H), z.toInt = r.1 → Rep nc Ls Xs h1 r.2 → Q (some (.int z)) h1) (e : FX12_palace_b47 N s q0 x1 xs0 xs1 qs2 kb kx = some r) : Rn d 239 (some .int) 47 [some (.ref q0), some (.int m1)] [.int ms0, .int ms1, .ref qs2] h Q := by
  have hT := hX12_palace
  unfold FX12_palace_b47 at e
  obtain ⟨s_2954, e_2955, e⟩ := Option.bind_eq_some_iff.mp e
  obtain ⟨h_2954, g_2955, R_2954⟩ := rp_wI hR ts2 rfl ps1 ps0 e_2955
  refine Rn.hp hT rfl rfl (wI_hp g_2955) ?_
  refine Rn.n hT 2 (pc' := 21) (L' := [some (.ref q0), some (.int (m1 + (1 : Int32)))]) (st' := []) rfl ?_
  exact Rn.weak (ll_s (ll_s ll_e)) (hb h_2954 s_2954 R_2954 (m1 + (1 : Int32)) (w32 (x1 + 1)) (ti_add p1 L32_1) e)
def FX12_palace_l21 (N : Nat) (q0 : Nat) (kx : iv_M → Option (Int × iv_M)) : Nat → iv_M → Int → Option (Int × iv_M)
  | 0, _, _ => none
  | n + 1, s, x1 => (if 12 ≤ x1 then (kx s) else (if 5 ≤ x1 then (FX12_palace_b47 N s q0 x1 0 x1 (q0 + 1) (FX12_palace_l21 N q0 kx n) kx) else ((rd s (q0 + 19) 5 x1).bind fun v_2953 => (FX12_palace_b47 N s q0 x1 v_2953 x1 (q0 + 1) (FX12_palace_l21 N q0 kx n) kx))))
set_option maxRecDepth 10000 in
set_option maxHeartbeats 4000000 in
theorem RX12_palace_l21 {d N nc Ls : Nat} {Xs : Nat → Int32} (hd : 13 ≤ d) {q0 : Nat} (t0 : T12 nc q0) {kx : iv_M → Option (Int × iv_M)} {r : Int × iv_M} {Q : Option Value → iv_H → Prop} (hk : ∀ (h : iv_H) (s : iv_M) (hR : Rep nc Ls Xs h s), kx s = some r → Rn d 239 (some .int) 54 [some (.ref q0), none] [] h Q) (hq : ∀ (z : Int32) (h1 : iv_H), z.toInt = r.1 → Rep nc Ls Xs h1 r.2 → Q (some (.int z)) h1) : ∀ (n : Nat) (h : iv_H) (s : iv_M) (hR : Rep nc Ls Xs h s) (m1 : Int32) (x1 : Int) (p1 : m1.toInt = x1), FX12_palace_l21 N q0 kx n s x1 = some r → Rn d 239 (some .int) 21 [some (.ref q0), some (.int m1)] [] h Q := by
  have hT := hX12_palace
  intro n
  induction n with
  | zero =>
    intro h s hR m1 x1 p1 e
    rw [FX12_palace_l21] at e
    cases e
  | succ n ih =>
    intro h s hR m1 x1 p1 e
    rw [FX12_palace_l21] at e
    refine Rn.n hT 2 (pc' := 24) (L' := [some (.ref q0), some (.int m1)]) (st' := [.int (12 : Int32), .int m1]) rfl ?_
    by_cases c_2951 : 12 ≤ x1
    · rw [if_pos c_2951] at e
      refine Rn.bt hT rfl rfl rfl (decide_eq_true ((ti_le L32_12 p1).mpr c_2951)) ?_
      exact Rn.weak (ll_s (ll_n ll_e)) (hk h s hR e)
    · rw [if_neg c_2951] at e
      refine Rn.bf hT rfl rfl rfl (decide_eq_false (fun z => c_2951 ((ti_le L32_12 p1).mp z))) ?_
      refine Rn.n hT 1 (pc' := 28) (L' := [some (.ref q0), some (.int m1)]) (st' := [.ref q0]) rfl ?_
      refine Rn.hp hT rfl rfl (gR_hp (rp_gR hR (T12_o t0) rfl)) ?_
      refine Rn.n hT 3 (pc' := 34) (L' := [some (.ref q0), some (.int m1)]) (st' := [.int (5 : Int32), .int m1, .int m1, .ref (q0 + 1)]) rfl ?_
      by_cases c_2952 : 5 ≤ x1
      · rw [if_pos c_2952] at e
        refine Rn.bt hT rfl rfl rfl (decide_eq_true ((ti_le L32_5 p1).mpr c_2952)) ?_
        refine Rn.n hT 1 (pc' := 47) (L' := [some (.ref q0), some (.int m1)]) (st' := [.int (0 : Int32), .int m1, .ref (q0 + 1)]) rfl ?_
        exact Rn.weak (ll_s (ll_s ll_e)) (RX12_palace_b47 hd hR t0 p1 L32_0 p1 (T12_1 t0) ih hk hq e)
      · rw [if_neg c_2952] at e
        refine Rn.bf hT rfl rfl rfl (decide_eq_false (fun z => c_2952 ((ti_le L32_5 p1).mp z))) ?_
        refine Rn.n hT 1 (pc' := 38) (L' := [some (.ref q0), some (.int m1)]) (st' := [.ref q0, .int m1, .ref (q0 + 1)]) rfl ?_
        refine Rn.hp hT rfl rfl (gR_hp (rp_gR hR (T12_o t0) rfl)) ?_
        refine Rn.n hT 1 (pc' := 42) (L' := [some (.ref q0), some (.int m1)]) (st' := [.int m1, .ref (q0 + 19), .int m1, .ref (q0 + 1)]) rfl ?_
        obtain ⟨v_2953, e_2953, e⟩ := Option.bind_eq_some_iff.mp e
        obtain ⟨z_2953, g_2953, p_2953⟩ := rp_aI hR (T12_19 t0) (T12_19l t0) p1 e_2953
        refine Rn.hp hT rfl rfl (aI_hp g_2953) ?_
        refine Rn.n hT 1 (pc' := 47) (L' := [some (.ref q0), some (.int m1)]) (st' := [.int z_2953, .int m1, .ref (q0 + 1)]) rfl ?_
        exact Rn.weak (ll_s (ll_s ll_e)) (RX12_palace_b47 hd hR t0 p1 p_2953 p1 (T12_1 t0) ih hk hq e)
def FX12_palace_l130 (N : Nat) (q0 : Nat) (kx : iv_M → Option (Int × iv_M)) : Nat → iv_M → Int → Option (Int × iv_M)
  | 0, _, _ => none
  | n + 1, s, x1 => (if 12 ≤ x1 then (kx s) else ((wr s (q0 + 4) 12 x1 0).bind fun s_2957 => (FX12_palace_l130 N q0 kx n s_2957 (w32 (x1 + 1)))))
set_option maxRecDepth 10000 in
set_option maxHeartbeats 4000000 in
theorem RX12_palace_l130 {d N nc Ls : Nat} {Xs : Nat → Int32} (hd : 13 ≤ d) {q0 : Nat} (t0 : T12 nc q0) {kx : iv_M → Option (Int × iv_M)} {r : Int × iv_M} {Q : Option Value → iv_H → Prop} (hk : ∀ (h : iv_H) (s : iv_M) (hR : Rep nc Ls Xs h s), kx s = some r → Rn d 239 (some .int) 149 [some (.ref q0), none] [] h Q) (hq : ∀ (z : Int32) (h1 : iv_H), z.toInt = r.1 → Rep nc Ls Xs h1 r.2 → Q (some (.int z)) h1) : ∀ (n : Nat) (h : iv_H) (s : iv_M) (hR : Rep nc Ls Xs h s) (m1 : Int32) (x1 : Int) (p1 : m1.toInt = x1), FX12_palace_l130 N q0 kx n s x1 = some r → Rn d 239 (some .int) 130 [some (.ref q0), some (.int m1)] [] h Q := by
  have hT := hX12_palace
  intro n
  induction n with
  | zero =>
    intro h s hR m1 x1 p1 e
    rw [FX12_palace_l130] at e
    cases e
  | succ n ih =>
    intro h s hR m1 x1 p1 e
    rw [FX12_palace_l130] at e
    refine Rn.n hT 2 (pc' := 133) (L' := [some (.ref q0), some (.int m1)]) (st' := [.int (12 : Int32), .int m1]) rfl ?_
    by_cases c_2956 : 12 ≤ x1
    · rw [if_pos c_2956] at e
      refine Rn.bt hT rfl rfl rfl (decide_eq_true ((ti_le L32_12 p1).mpr c_2956)) ?_
      exact Rn.weak (ll_s (ll_n ll_e)) (hk h s hR e)
    · rw [if_neg c_2956] at e
      refine Rn.bf hT rfl rfl rfl (decide_eq_false (fun z => c_2956 ((ti_le L32_12 p1).mp z))) ?_
      refine Rn.n hT 1 (pc' := 137) (L' := [some (.ref q0), some (.int m1)]) (st' := [.ref q0]) rfl ?_
      refine Rn.hp hT rfl rfl (gR_hp (rp_gR hR (T12_o t0) rfl)) ?_
      refine Rn.n hT 2 (pc' := 142) (L' := [some (.ref q0), some (.int m1)]) (st' := [.int (0 : Int32), .int m1, .ref (q0 + 4)]) rfl ?_
      obtain ⟨s_2957, e_2958, e⟩ := Option.bind_eq_some_iff.mp e
      obtain ⟨h_2957, g_2958, R_2957⟩ := rp_wI hR (T12_4 t0) (T12_4l t0) p1 L32_0 e_2958
      refine Rn.hp hT rfl rfl (wI_hp g_2958) ?_
      refine Rn.n hT 2 (pc' := 130) (L' := [some (.ref q0), some (.int (m1 + (1 : Int32)))]) (st' := []) rfl ?_
      exact Rn.weak (ll_s (ll_s ll_e)) (ih h_2957 s_2957 R_2957 (m1 + (1 : Int32)) (w32 (x1 + 1)) (ti_add p1 L32_1) e)
def FX12_palace (N : Nat) (s : iv_M) (q0 : Nat) : Option (Int × iv_M) := ((FX12_readsAll N s q0).bind fun s_2928 => (if (s_2928 q0 30) ≤ 0 then (FX12_palace_l21 N q0 (fun (s_2931 : iv_M) => ((wr s_2931 (q0 + 1) 14 12 (-1)).bind fun s_2933 => ((FX12_copies N s_2933 (q0 + 20) (q0 + 2)).bind fun s_2936 => ((FX12_copies N s_2936 (q0 + 21) (q0 + 3)).bind fun s_2938 => ((FX12_copies N s_2938 (q0 + 22) (q0 + 5)).bind fun s_2940 => ((FX12_copies N s_2940 (q0 + 23) (q0 + 6)).bind fun s_2942 => ((FX12_copies N s_2942 (q0 + 24) (q0 + 7)).bind fun s_2944 => ((FX12_copies N s_2944 (q0 + 25) (q0 + 8)).bind fun s_2946 => (FX12_palace_l130 N q0 (fun (s_2947 : iv_M) => ((rd s_2947 (q0 + 1) 14 2).bind fun v_2949 => (some (v_2949, s_2947)))) N s_2946 0))))))))) N s_2928 0) else (some ((w32 ((-2) - (s_2928 q0 30))), s_2928))))
set_option maxRecDepth 10000 in
set_option maxHeartbeats 4000000 in
theorem RX12_palace {d N nc Ls : Nat} {Xs : Nat → Int32} (hd : 14 ≤ d) {h : iv_H} {s : iv_M} (hR : Rep nc Ls Xs h s) {q0 : Nat} (t0 : T12 nc q0) {r : Int × iv_M} {Q : Option Value → iv_H → Prop} (e : FX12_palace N s q0 = some r) (hq : ∀ (z : Int32) (h1 : iv_H), z.toInt = r.1 → Rep nc Ls Xs h1 r.2 → Q (some (.int z)) h1) : Cl d 239 [.ref q0] h Q := by
  obtain ⟨d, rfl⟩ : ∃ k, d = k + 1 := ⟨d - 1, by omega⟩
  have hd : 13 ≤ d := by omega
  have hT := hX12_palace
  unfold FX12_palace at e
  refine Cl.into (by decide) gX12_palace rfl ?_
  show Rn d 239 (some .int) 0 [some (.ref q0), none] [] h Q
  refine Rn.n hT 1 (pc' := 1) (L' := [some (.ref q0), none]) (st' := [.ref q0]) rfl ?_
  obtain ⟨s_2928, e_2927, e⟩ := Option.bind_eq_some_iff.mp e
  refine Rn.call hT rfl rfl rfl (Nat.le_of_ble_eq_true rfl) (rcv_v gX12_readsAll (by omega) (rp_ck hR (T12_o t0))) (RX12_readsAll (by omega) hR t0 e_2927 (fun h_2928 R_2928 => ?_))
  show Rn d _ _ 4 [some (.ref q0), none] [] h_2928 Q
  refine Rn.n hT 1 (pc' := 5) (L' := [some (.ref q0), none]) (st' := [.ref q0]) rfl ?_
  obtain ⟨z_2929, g_2929, p_2929⟩ : ∃ z : Int32, gI h_2928 12 30 q0 = some z ∧ z.toInt = s_2928 q0 30 := rp_gI (k := 30) R_2928 (T12_o t0) rfl
  refine Rn.hp hT rfl rfl (gI_hp g_2929) ?_
  by_cases c_2930 : (s_2928 q0 30) ≤ 0
  · rw [if_pos c_2930] at e
    refine Rn.bt hT rfl rfl rfl (decide_eq_true ((ti_le p_2929 L32_0).mpr c_2930)) ?_
    refine Rn.n hT 2 (pc' := 21) (L' := [some (.ref q0), some (.int (0 : Int32))]) (st' := []) rfl ?_
    refine Rn.weak (ll_s (ll_s ll_e)) (RX12_palace_l21 hd t0 (fun h_2931 s_2931 R_2931 e => ?_) hq N h_2928 s_2928 R_2928 (0 : Int32) 0 L32_0 e)
    try dsimp only at e
    refine Rn.n hT 1 (pc' := 55) (L' := [some (.ref q0), none]) (st' := [.ref q0]) rfl ?_
    refine Rn.hp hT rfl rfl (gR_hp (rp_gR R_2931 (T12_o t0) rfl)) ?_
    refine Rn.n hT 2 (pc' := 61) (L' := [some (.ref q0), none]) (st' := [.int (-1 : Int32), .int (12 : Int32), .ref (q0 + 1)]) rfl ?_
    obtain ⟨s_2933, e_2934, e⟩ := Option.bind_eq_some_iff.mp e
    obtain ⟨h_2933, g_2934, R_2933⟩ := rp_wI R_2931 (T12_1 t0) (T12_1l t0) L32_12 L32_m1 e_2934
    refine Rn.hp hT rfl rfl (wI_hp g_2934) ?_
    refine Rn.n hT 1 (pc' := 63) (L' := [some (.ref q0), none]) (st' := [.ref q0]) rfl ?_
    refine Rn.hp hT rfl rfl (gR_hp (rp_gR R_2933 (T12_o t0) rfl)) ?_
    refine Rn.n hT 1 (pc' := 67) (L' := [some (.ref q0), none]) (st' := [.ref q0, .ref (q0 + 20)]) rfl ?_
    refine Rn.hp hT rfl rfl (gR_hp (rp_gR R_2933 (T12_o t0) rfl)) ?_
    obtain ⟨s_2936, e_2935, e⟩ := Option.bind_eq_some_iff.mp e
    refine Rn.call hT rfl rfl rfl (Nat.le_of_ble_eq_true rfl) rfl (RX12_copies (by omega) R_2933 (T12_20 t0) (T12_2 t0) e_2935 (fun h_2936 R_2936 => ?_))
    show Rn d _ _ 73 [some (.ref q0), none] [] h_2936 Q
    refine Rn.n hT 1 (pc' := 74) (L' := [some (.ref q0), none]) (st' := [.ref q0]) rfl ?_
    refine Rn.hp hT rfl rfl (gR_hp (rp_gR R_2936 (T12_o t0) rfl)) ?_
    refine Rn.n hT 1 (pc' := 78) (L' := [some (.ref q0), none]) (st' := [.ref q0, .ref (q0 + 21)]) rfl ?_
    refine Rn.hp hT rfl rfl (gR_hp (rp_gR R_2936 (T12_o t0) rfl)) ?_
    obtain ⟨s_2938, e_2937, e⟩ := Option.bind_eq_some_iff.mp e
    refine Rn.call hT rfl rfl rfl (Nat.le_of_ble_eq_true rfl) rfl (RX12_copies (by omega) R_2936 (T12_21 t0) (T12_3 t0) e_2937 (fun h_2938 R_2938 => ?_))
    show Rn d _ _ 84 [some (.ref q0), none] [] h_2938 Q
    refine Rn.n hT 1 (pc' := 85) (L' := [some (.ref q0), none]) (st' := [.ref q0]) rfl ?_
    refine Rn.hp hT rfl rfl (gR_hp (rp_gR R_2938 (T12_o t0) rfl)) ?_
    refine Rn.n hT 1 (pc' := 89) (L' := [some (.ref q0), none]) (st' := [.ref q0, .ref (q0 + 22)]) rfl ?_
    refine Rn.hp hT rfl rfl (gR_hp (rp_gR R_2938 (T12_o t0) rfl)) ?_
    obtain ⟨s_2940, e_2939, e⟩ := Option.bind_eq_some_iff.mp e
    refine Rn.call hT rfl rfl rfl (Nat.le_of_ble_eq_true rfl) rfl (RX12_copies (by omega) R_2938 (T12_22 t0) (T12_5 t0) e_2939 (fun h_2940 R_2940 => ?_))
    show Rn d _ _ 95 [some (.ref q0), none] [] h_2940 Q
    refine Rn.n hT 1 (pc' := 96) (L' := [some (.ref q0), none]) (st' := [.ref q0]) rfl ?_
    refine Rn.hp hT rfl rfl (gR_hp (rp_gR R_2940 (T12_o t0) rfl)) ?_
    refine Rn.n hT 1 (pc' := 100) (L' := [some (.ref q0), none]) (st' := [.ref q0, .ref (q0 + 23)]) rfl ?_
    refine Rn.hp hT rfl rfl (gR_hp (rp_gR R_2940 (T12_o t0) rfl)) ?_
    obtain ⟨s_2942, e_2941, e⟩ := Option.bind_eq_some_iff.mp e
    refine Rn.call hT rfl rfl rfl (Nat.le_of_ble_eq_true rfl) rfl (RX12_copies (by omega) R_2940 (T12_23 t0) (T12_6 t0) e_2941 (fun h_2942 R_2942 => ?_))
    show Rn d _ _ 106 [some (.ref q0), none] [] h_2942 Q
    refine Rn.n hT 1 (pc' := 107) (L' := [some (.ref q0), none]) (st' := [.ref q0]) rfl ?_
    refine Rn.hp hT rfl rfl (gR_hp (rp_gR R_2942 (T12_o t0) rfl)) ?_
    refine Rn.n hT 1 (pc' := 111) (L' := [some (.ref q0), none]) (st' := [.ref q0, .ref (q0 + 24)]) rfl ?_
    refine Rn.hp hT rfl rfl (gR_hp (rp_gR R_2942 (T12_o t0) rfl)) ?_
    obtain ⟨s_2944, e_2943, e⟩ := Option.bind_eq_some_iff.mp e
    refine Rn.call hT rfl rfl rfl (Nat.le_of_ble_eq_true rfl) rfl (RX12_copies (by omega) R_2942 (T12_24 t0) (T12_7 t0) e_2943 (fun h_2944 R_2944 => ?_))
    show Rn d _ _ 117 [some (.ref q0), none] [] h_2944 Q
    refine Rn.n hT 1 (pc' := 118) (L' := [some (.ref q0), none]) (st' := [.ref q0]) rfl ?_
    refine Rn.hp hT rfl rfl (gR_hp (rp_gR R_2944 (T12_o t0) rfl)) ?_
    refine Rn.n hT 1 (pc' := 122) (L' := [some (.ref q0), none]) (st' := [.ref q0, .ref (q0 + 25)]) rfl ?_
    refine Rn.hp hT rfl rfl (gR_hp (rp_gR R_2944 (T12_o t0) rfl)) ?_
    obtain ⟨s_2946, e_2945, e⟩ := Option.bind_eq_some_iff.mp e
    refine Rn.call hT rfl rfl rfl (Nat.le_of_ble_eq_true rfl) rfl (RX12_copies (by omega) R_2944 (T12_25 t0) (T12_8 t0) e_2945 (fun h_2946 R_2946 => ?_))
    show Rn d _ _ 128 [some (.ref q0), none] [] h_2946 Q
    refine Rn.n hT 2 (pc' := 130) (L' := [some (.ref q0), some (.int (0 : Int32))]) (st' := []) rfl ?_
    refine Rn.weak (ll_s (ll_s ll_e)) (RX12_palace_l130 hd t0 (fun h_2947 s_2947 R_2947 e => ?_) hq N h_2946 s_2946 R_2946 (0 : Int32) 0 L32_0 e)
    try dsimp only at e
    refine Rn.n hT 1 (pc' := 150) (L' := [some (.ref q0), none]) (st' := [.ref q0]) rfl ?_
    refine Rn.hp hT rfl rfl (gR_hp (rp_gR R_2947 (T12_o t0) rfl)) ?_
    refine Rn.n hT 1 (pc' := 154) (L' := [some (.ref q0), none]) (st' := [.int (2 : Int32), .ref (q0 + 1)]) rfl ?_
    obtain ⟨v_2949, e_2949, e⟩ := Option.bind_eq_some_iff.mp e
    obtain ⟨z_2949, g_2949, p_2949⟩ := rp_aI R_2947 (T12_1 t0) (T12_1l t0) L32_2 e_2949
    refine Rn.hp hT rfl rfl (aI_hp g_2949) ?_
    obtain rfl := Option.some.inj e
    exact Rn.ret hT rfl rfl rfl (hq z_2949 h_2947 p_2949 R_2947)
  · rw [if_neg c_2930] at e
    refine Rn.bf hT rfl rfl rfl (decide_eq_false (fun z => c_2930 ((ti_le p_2929 L32_0).mp z))) ?_
    refine Rn.n hT 2 (pc' := 14) (L' := [some (.ref q0), none]) (st' := [.ref q0, .int (-2 : Int32)]) rfl ?_
    obtain ⟨z_2950, g_2950, p_2950⟩ : ∃ z : Int32, gI h_2928 12 30 q0 = some z ∧ z.toInt = s_2928 q0 30 := rp_gI (k := 30) R_2928 (T12_o t0) rfl
    refine Rn.hp hT rfl rfl (gI_hp g_2950) ?_
    refine Rn.n hT 1 (pc' := 18) (L' := [some (.ref q0), none]) (st' := [.int ((-2 : Int32) - z_2950)]) rfl ?_
    obtain rfl := Option.some.inj e
    exact Rn.ret hT rfl rfl rfl (hq ((-2 : Int32) - z_2950) h_2928 (ti_sub L32_m2 p_2950) R_2928)
set_option maxRecDepth 10000 in
theorem hX12_ruleClause : iv_Tb 240 tX12_ruleClause := iv_tb_of (m := mX12_ruleClause) rfl
set_option maxRecDepth 10000 in
theorem gX12_ruleClause : PG.2 240 = some mX12_ruleClause := iv_pi_of (t := tX12_ruleClause) rfl (by decide)
def FX12_ruleClause (N : Nat) (s : iv_M) (q0 : Nat) (x1 : Int) : Option (iv_M) := ((FX12_blanks N s q0).bind fun s_2960 => ((FX12_stood N s_2960 q0 1000036).bind fun v_2962 => (if v_2962 = 0 then ((FX12_fails N s_2960 q0 0 (s_2960 q0 29)).bind fun s_2980 => some s_2980) else (if x1 = 12 then ((FX12_fails N s_2960 q0 4 (s_2960 q0 29)).bind fun s_2978 => some s_2978) else ((pt s_2960 q0 29 (w32 ((s_2960 q0 29) + 3))).bind fun s_2966 => ((wr s_2966 (q0 + 30) 72 (w32 ((w32 (12 * (s_2966 q0 31))) + x1)) (s_2966 q0 33)).bind fun s_2970 => ((FX12_test N s_2970 q0).bind fun s_2973 => ((wr s_2973 (q0 + 31) 72 (w32 ((w32 (12 * (s_2966 q0 31))) + x1)) (s_2973 q0 33)).bind fun s_2975 => some s_2975))))))))
set_option maxRecDepth 10000 in
set_option maxHeartbeats 4000000 in
theorem RX12_ruleClause {d N nc Ls : Nat} {Xs : Nat → Int32} (hd : 18 ≤ d) {h : iv_H} {s : iv_M} (hR : Rep nc Ls Xs h s) {q0 : Nat} (t0 : T12 nc q0) {m1 : Int32} {x1 : Int} (p1 : m1.toInt = x1) {r : iv_M} {Q : Option Value → iv_H → Prop} (e : FX12_ruleClause N s q0 x1 = some r) (hq : ∀ h1, Rep nc Ls Xs h1 r → Q none h1) : Cl d 240 [.ref q0, .int m1] h Q := by
  obtain ⟨d, rfl⟩ : ∃ k, d = k + 1 := ⟨d - 1, by omega⟩
  have hd : 17 ≤ d := by omega
  have hT := hX12_ruleClause
  unfold FX12_ruleClause at e
  refine Cl.into (by decide) gX12_ruleClause rfl ?_
  show Rn d 240 none 0 [some (.ref q0), some (.int m1), none, none] [] h Q
  refine Rn.n hT 1 (pc' := 1) (L' := [some (.ref q0), some (.int m1), none, none]) (st' := [.ref q0]) rfl ?_
  obtain ⟨s_2960, e_2959, e⟩ := Option.bind_eq_some_iff.mp e
  refine Rn.call hT rfl rfl rfl (Nat.le_of_ble_eq_true rfl) (rcv_v gX12_blanks (by omega) (rp_ck hR (T12_o t0))) (RX12_blanks (by omega) hR t0 e_2959 (fun h_2960 R_2960 => ?_))
  show Rn d _ _ 4 [some (.ref q0), some (.int m1), none, none] [] h_2960 Q
  refine Rn.n hT 1 (pc' := 5) (L' := [some (.ref q0), some (.int m1), none, none]) (st' := [.ref q0]) rfl ?_
  obtain ⟨z_2961, g_2961, p_2961⟩ : ∃ z : Int32, gI h_2960 12 29 q0 = some z ∧ z.toInt = s_2960 q0 29 := rp_gI (k := 29) R_2960 (T12_o t0) rfl
  refine Rn.hp hT rfl rfl (gI_hp g_2961) ?_
  refine Rn.n hT 3 (pc' := 13) (L' := [some (.ref q0), some (.int m1), some (.int z_2961), none]) (st' := [.ref 1000036, .ref q0]) rfl ?_
  obtain ⟨v_2962, e_2962, e⟩ := Option.bind_eq_some_iff.mp e
  refine Rn.call hT rfl rfl rfl (Nat.le_of_ble_eq_true rfl) (rcv_v gX12_stood (by omega) (rp_ck R_2960 (T12_o t0))) (RX12_stood (by omega) R_2960 t0 TS_1000036 e_2962 (fun z_2962 p_2962 => ?_))
  show Rn d _ _ 16 [some (.ref q0), some (.int m1), some (.int z_2961), none] [.int z_2962] h_2960 Q
  by_cases c_2963 : v_2962 = 0
  · rw [if_pos c_2963] at e
    refine Rn.bf hT rfl rfl rfl (decide_eq_false (fun z => z ((ti_e p_2962 L32_0).mpr c_2963))) ?_
    refine Rn.n hT 3 (pc' := 22) (L' := [some (.ref q0), some (.int m1), some (.int z_2961), none]) (st' := [.int z_2961, .int (0 : Int32), .ref q0]) rfl ?_
    obtain ⟨s_2980, e_2979, e⟩ := Option.bind_eq_some_iff.mp e
    refine Rn.call hT rfl rfl rfl (Nat.le_of_ble_eq_true rfl) (rcv_v gX12_fails (by omega) (rp_ck R_2960 (T12_o t0))) (RX12_fails (by omega) R_2960 t0 L32_0 p_2961 e_2979 (fun h_2980 R_2980 => ?_))
    show Rn d _ _ 25 [some (.ref q0), some (.int m1), some (.int z_2961), none] [] h_2980 Q
    obtain rfl := Option.some.inj e
    exact Rn.ret hT rfl rfl rfl (hq h_2980 R_2980)
  · rw [if_neg c_2963] at e
    refine Rn.bt hT rfl rfl rfl (decide_eq_true (fun z => c_2963 ((ti_e p_2962 L32_0).mp z))) ?_
    refine Rn.n hT 2 (pc' := 29) (L' := [some (.ref q0), some (.int m1), some (.int z_2961), none]) (st' := [.int (12 : Int32), .int m1]) rfl ?_
    by_cases c_2964 : x1 = 12
    · rw [if_pos c_2964] at e
      refine Rn.bf hT rfl rfl rfl (decide_eq_false (fun z => z ((ti_e p1 L32_12).mpr c_2964))) ?_
      refine Rn.n hT 3 (pc' := 35) (L' := [some (.ref q0), some (.int m1), some (.int z_2961), none]) (st' := [.int z_2961, .int (4 : Int32), .ref q0]) rfl ?_
      obtain ⟨s_2978, e_2977, e⟩ := Option.bind_eq_some_iff.mp e
      refine Rn.call hT rfl rfl rfl (Nat.le_of_ble_eq_true rfl) (rcv_v gX12_fails (by omega) (rp_ck R_2960 (T12_o t0))) (RX12_fails (by omega) R_2960 t0 L32_4 p_2961 e_2977 (fun h_2978 R_2978 => ?_))
      show Rn d _ _ 38 [some (.ref q0), some (.int m1), some (.int z_2961), none] [] h_2978 Q
      obtain rfl := Option.some.inj e
      exact Rn.ret hT rfl rfl rfl (hq h_2978 R_2978)
    · rw [if_neg c_2964] at e
      refine Rn.bt hT rfl rfl rfl (decide_eq_true (fun z => c_2964 ((ti_e p1 L32_12).mp z))) ?_
      refine Rn.n hT 2 (pc' := 41) (L' := [some (.ref q0), some (.int m1), some (.int z_2961), none]) (st' := [.ref q0, .ref q0]) rfl ?_
      obtain ⟨z_2965, g_2965, p_2965⟩ : ∃ z : Int32, gI h_2960 12 29 q0 = some z ∧ z.toInt = s_2960 q0 29 := rp_gI (k := 29) R_2960 (T12_o t0) rfl
      refine Rn.hp hT rfl rfl (gI_hp g_2965) ?_
      refine Rn.n hT 2 (pc' := 46) (L' := [some (.ref q0), some (.int m1), some (.int z_2961), none]) (st' := [.int (z_2965 + (3 : Int32)), .ref q0]) rfl ?_
      obtain ⟨s_2966, e_2967, e⟩ := Option.bind_eq_some_iff.mp e
      obtain ⟨h_2966, g_2967, R_2966⟩ := rp_pI (ci := 12) (k := 29) R_2960 (T12_o t0) rfl rfl (ti_add p_2965 L32_3) e_2967
      refine Rn.hp hT rfl rfl (pV_hp rfl g_2967) ?_
      refine Rn.n hT 2 (pc' := 52) (L' := [some (.ref q0), some (.int m1), some (.int z_2961), none]) (st' := [.ref q0, .int (12 : Int32)]) rfl ?_
      obtain ⟨z_2968, g_2968, p_2968⟩ : ∃ z : Int32, gI h_2966 12 31 q0 = some z ∧ z.toInt = s_2966 q0 31 := rp_gI (k := 31) R_2966 (T12_o t0) rfl
      refine Rn.hp hT rfl rfl (gI_hp g_2968) ?_
      refine Rn.n hT 5 (pc' := 60) (L' := [some (.ref q0), some (.int m1), some (.int z_2961), some (.int (((12 : Int32) * z_2968) + m1))]) (st' := [.ref q0]) rfl ?_
      refine Rn.hp hT rfl rfl (gR_hp (rp_gR R_2966 (T12_o t0) rfl)) ?_
      refine Rn.n hT 2 (pc' := 65) (L' := [some (.ref q0), some (.int m1), some (.int z_2961), some (.int (((12 : Int32) * z_2968) + m1))]) (st' := [.ref q0, .int (((12 : Int32) * z_2968) + m1), .ref (q0 + 30)]) rfl ?_
      obtain ⟨z_2969, g_2969, p_2969⟩ : ∃ z : Int32, gI h_2966 12 33 q0 = some z ∧ z.toInt = s_2966 q0 33 := rp_gI (k := 33) R_2966 (T12_o t0) rfl
      refine Rn.hp hT rfl rfl (gI_hp g_2969) ?_
      obtain ⟨s_2970, e_2971, e⟩ := Option.bind_eq_some_iff.mp e
      obtain ⟨h_2970, g_2971, R_2970⟩ := rp_wI R_2966 (T12_43 t0) (T12_43l t0) (ti_add (ti_mul L32_12 p_2968) p1) p_2969 e_2971
      refine Rn.hp hT rfl rfl (wI_hp g_2971) ?_
      refine Rn.n hT 1 (pc' := 70) (L' := [some (.ref q0), some (.int m1), some (.int z_2961), some (.int (((12 : Int32) * z_2968) + m1))]) (st' := [.ref q0]) rfl ?_
      obtain ⟨s_2973, e_2972, e⟩ := Option.bind_eq_some_iff.mp e
      refine Rn.call hT rfl rfl rfl (Nat.le_of_ble_eq_true rfl) (rcv_v gX12_test (by omega) (rp_ck R_2970 (T12_o t0))) (RX12_test (by omega) R_2970 t0 e_2972 (fun h_2973 R_2973 => ?_))
      show Rn d _ _ 73 [some (.ref q0), some (.int m1), some (.int z_2961), some (.int (((12 : Int32) * z_2968) + m1))] [] h_2973 Q
      refine Rn.n hT 1 (pc' := 74) (L' := [some (.ref q0), some (.int m1), some (.int z_2961), some (.int (((12 : Int32) * z_2968) + m1))]) (st' := [.ref q0]) rfl ?_
      refine Rn.hp hT rfl rfl (gR_hp (rp_gR R_2973 (T12_o t0) rfl)) ?_
      refine Rn.n hT 2 (pc' := 79) (L' := [some (.ref q0), some (.int m1), some (.int z_2961), some (.int (((12 : Int32) * z_2968) + m1))]) (st' := [.ref q0, .int (((12 : Int32) * z_2968) + m1), .ref (q0 + 31)]) rfl ?_
      obtain ⟨z_2974, g_2974, p_2974⟩ : ∃ z : Int32, gI h_2973 12 33 q0 = some z ∧ z.toInt = s_2973 q0 33 := rp_gI (k := 33) R_2973 (T12_o t0) rfl
      refine Rn.hp hT rfl rfl (gI_hp g_2974) ?_
      obtain ⟨s_2975, e_2976, e⟩ := Option.bind_eq_some_iff.mp e
      obtain ⟨h_2975, g_2976, R_2975⟩ := rp_wI R_2973 (T12_44 t0) (T12_44l t0) (ti_add (ti_mul L32_12 p_2968) p1) p_2974 e_2976
      refine Rn.hp hT rfl rfl (wI_hp g_2976) ?_
      obtain rfl := Option.some.inj e
      exact Rn.ret hT rfl rfl rfl (hq h_2975 R_2975)
set_option maxRecDepth 10000 in
theorem hX12_rule : iv_Tb 241 tX12_rule := iv_tb_of (m := mX12_rule) rfl
set_option maxRecDepth 10000 in
theorem gX12_rule : PG.2 241 = some mX12_rule := iv_pi_of (t := tX12_rule) rfl (by decide)
def FX12_rule_l27 (N : Nat) (q0 : Nat) (kx : iv_M → Int → Option (Int × iv_M)) : Nat → iv_M → Int → Int → Option (Int × iv_M)
  | 0, _, _, _ => none
  | n + 1, s, x1, x2 => (if x2 = 0 then (kx s x1) else ((FX12_ruleClause N s q0 x1).bind fun s_3000 => ((FX12_goesOn N s_3000 q0).bind fun r_3001 => (fun (v_3001 : Int) (s_3002 : iv_M) => (FX12_rule_l27 N q0 kx n s_3002 (w32 (x1 + 1)) v_3001)) r_3001.1 r_3001.2)))
set_option maxRecDepth 10000 in
set_option maxHeartbeats 4000000 in
theorem RX12_rule_l27 {d N nc Ls : Nat} {Xs : Nat → Int32} (hd : 18 ≤ d) {q0 : Nat} (t0 : T12 nc q0) {kx : iv_M → Int → Option (Int × iv_M)} {r : Int × iv_M} {Q : Option Value → iv_H → Prop} (hk : ∀ (h : iv_H) (s : iv_M) (hR : Rep nc Ls Xs h s) (m1 : Int32) (x1 : Int) (p1 : m1.toInt = x1), kx s x1 = some r → Rn d 241 (some .int) 47 [some (.ref q0), some (.int m1), none] [] h Q) (hq : ∀ (z : Int32) (h1 : iv_H), z.toInt = r.1 → Rep nc Ls Xs h1 r.2 → Q (some (.int z)) h1) : ∀ (n : Nat) (h : iv_H) (s : iv_M) (hR : Rep nc Ls Xs h s) (m1 : Int32) (x1 : Int) (p1 : m1.toInt = x1) (m2 : Int32) (x2 : Int) (p2 : m2.toInt = x2), FX12_rule_l27 N q0 kx n s x1 x2 = some r → Rn d 241 (some .int) 27 [some (.ref q0), some (.int m1), some (.int m2)] [] h Q := by
  have hT := hX12_rule
  intro n
  induction n with
  | zero =>
    intro h s hR m1 x1 p1 m2 x2 p2 e
    rw [FX12_rule_l27] at e
    cases e
  | succ n ih =>
    intro h s hR m1 x1 p1 m2 x2 p2 e
    rw [FX12_rule_l27] at e
    refine Rn.n hT 1 (pc' := 28) (L' := [some (.ref q0), some (.int m1), some (.int m2)]) (st' := [.int m2]) rfl ?_
    by_cases c_2998 : x2 = 0
    · rw [if_pos c_2998] at e
      refine Rn.bt hT rfl rfl rfl (decide_eq_true ((ti_e p2 L32_0).mpr c_2998)) ?_
      exact Rn.weak (ll_s (ll_s (ll_n ll_e))) (hk h s hR m1 x1 p1 e)
    · rw [if_neg c_2998] at e
      refine Rn.bf hT rfl rfl rfl (decide_eq_false (fun z => c_2998 ((ti_e p2 L32_0).mp z))) ?_
      refine Rn.n hT 2 (pc' := 33) (L' := [some (.ref q0), some (.int m1), some (.int m2)]) (st' := [.int m1, .ref q0]) rfl ?_
      obtain ⟨s_3000, e_2999, e⟩ := Option.bind_eq_some_iff.mp e
      refine Rn.call hT rfl rfl rfl (Nat.le_of_ble_eq_true rfl) (rcv_v gX12_ruleClause (by omega) (rp_ck hR (T12_o t0))) (RX12_ruleClause (by omega) hR t0 p1 e_2999 (fun h_3000 R_3000 => ?_))
      show Rn d _ _ 36 [some (.ref q0), some (.int m1), some (.int m2)] [] h_3000 Q
      refine Rn.n hT 2 (pc' := 40) (L' := [some (.ref q0), some (.int (m1 + (1 : Int32))), some (.int m2)]) (st' := [.ref q0]) rfl ?_
      obtain ⟨⟨v_3001, s_3002⟩, e_3001, e⟩ := Option.bind_eq_some_iff.mp e
      try dsimp only at e
      try dsimp only at e
      refine Rn.call hT rfl rfl rfl (Nat.le_of_ble_eq_true rfl) (rcv_v gX12_goesOn (by omega) (rp_ck R_3000 (T12_o t0))) (RX12_goesOn (by omega) R_3000 t0 e_3001 (fun z_3001 h_3002 p_3001 R_3002 => ?_))
      show Rn d _ _ 43 [some (.ref q0), some (.int (m1 + (1 : Int32))), some (.int m2)] [.int z_3001] h_3002 Q
      refine Rn.n hT 2 (pc' := 27) (L' := [some (.ref q0), some (.int (m1 + (1 : Int32))), some (.int z_3001)]) (st' := []) rfl ?_
      exact Rn.weak (ll_s (ll_s (ll_s ll_e))) (ih h_3002 s_3002 R_3002 (m1 + (1 : Int32)) (w32 (x1 + 1)) (ti_add p1 L32_1) z_3001 v_3001 p_3001 e)
def FX12_rule_b106 (N : Nat) (s : iv_M)  (xs0 : Int) : Option (Int × iv_M) := (some (xs0, s))
set_option maxRecDepth 10000 in
set_option maxHeartbeats 4000000 in
theorem RX12_rule_b106 {d N nc Ls : Nat} {Xs : Nat → Int32} (hd : 18 ≤ d) {h : iv_H} {s : iv_M} (hR : Rep nc Ls Xs h s)  {ms0 : Int32} {xs0 : Int} (ps0 : ms0.toInt = xs0) {r : Int × iv_M} {Q : Option Value → iv_H → Prop} (hq : ∀ (z : Int32) (h1 : iv_H), z.toInt = r.1 → Rep nc Ls Xs h1 r.2 → Q (some (.int z)) h1) (e : FX12_rule_b106 N s  xs0 = some r) : Rn d 241 (some .int) 106 [none, none, none] [.int ms0] h Q := by
  have hT := hX12_rule
  unfold FX12_rule_b106 at e
  obtain rfl := Option.some.inj e
  exact Rn.ret hT rfl rfl rfl (hq ms0 h ps0 hR)
def FX12_rule_b79 (N : Nat) (s : iv_M) (q0 : Nat) (xs0 : Int) (xs1 : Int) (qs2 : Nat) : Option (Int × iv_M) := ((pt s qs2 32 (w32 (xs1 + xs0))).bind fun s_3003 => (if (s_3003 q0 30) ≤ 0 then (FX12_rule_b106 N s_3003 (w32 ((s_3003 q0 32) - 1))) else (FX12_rule_b106 N s_3003 (w32 ((-2) - (s_3003 q0 30))))))
set_option maxRecDepth 10000 in
set_option maxHeartbeats 4000000 in
theorem RX12_rule_b79 {d N nc Ls : Nat} {Xs : Nat → Int32} (hd : 18 ≤ d) {h : iv_H} {s : iv_M} (hR : Rep nc Ls Xs h s) {q0 : Nat} (t0 : T12 nc q0) {ms0 : Int32} {xs0 : Int} (ps0 : ms0.toInt = xs0) {ms1 : Int32} {xs1 : Int} (ps1 : ms1.toInt = xs1) {qs2 : Nat} (ts2 : T12 nc qs2) {r : Int × iv_M} {Q : Option Value → iv_H → Prop} (hq : ∀ (z : Int32) (h1 : iv_H), z.toInt = r.1 → Rep nc Ls Xs h1 r.2 → Q (some (.int z)) h1) (e : FX12_rule_b79 N s q0 xs0 xs1 qs2 = some r) : Rn d 241 (some .int) 79 [some (.ref q0), none, none] [.int ms0, .int ms1, .ref qs2] h Q := by
  have hT := hX12_rule
  unfold FX12_rule_b79 at e
  refine Rn.n hT 1 (pc' := 80) (L' := [some (.ref q0), none, none]) (st' := [.int (ms1 + ms0), .ref qs2]) rfl ?_
  obtain ⟨s_3003, e_3004, e⟩ := Option.bind_eq_some_iff.mp e
  obtain ⟨h_3003, g_3004, R_3003⟩ := rp_pI (ci := 12) (k := 32) hR (T12_o ts2) rfl rfl (ti_add ps1 ps0) e_3004
  refine Rn.hp hT rfl rfl (pV_hp rfl g_3004) ?_
  refine Rn.n hT 1 (pc' := 84) (L' := [some (.ref q0), none, none]) (st' := [.ref q0]) rfl ?_
  obtain ⟨z_3005, g_3005, p_3005⟩ : ∃ z : Int32, gI h_3003 12 30 q0 = some z ∧ z.toInt = s_3003 q0 30 := rp_gI (k := 30) R_3003 (T12_o t0) rfl
  refine Rn.hp hT rfl rfl (gI_hp g_3005) ?_
  by_cases c_3006 : (s_3003 q0 30) ≤ 0
  · rw [if_pos c_3006] at e
    refine Rn.bt hT rfl rfl rfl (decide_eq_true ((ti_le p_3005 L32_0).mpr c_3006)) ?_
    refine Rn.n hT 1 (pc' := 101) (L' := [some (.ref q0), none, none]) (st' := [.ref q0]) rfl ?_
    obtain ⟨z_3007, g_3007, p_3007⟩ : ∃ z : Int32, gI h_3003 12 32 q0 = some z ∧ z.toInt = s_3003 q0 32 := rp_gI (k := 32) R_3003 (T12_o t0) rfl
    refine Rn.hp hT rfl rfl (gI_hp g_3007) ?_
    refine Rn.n hT 2 (pc' := 106) (L' := [some (.ref q0), none, none]) (st' := [.int (z_3007 - (1 : Int32))]) rfl ?_
    exact Rn.weak (ll_n (ll_n (ll_n ll_e))) (RX12_rule_b106 hd R_3003 (ti_sub p_3007 L32_1) hq e)
  · rw [if_neg c_3006] at e
    refine Rn.bf hT rfl rfl rfl (decide_eq_false (fun z => c_3006 ((ti_le p_3005 L32_0).mp z))) ?_
    refine Rn.n hT 2 (pc' := 93) (L' := [some (.ref q0), none, none]) (st' := [.ref q0, .int (-2 : Int32)]) rfl ?_
    obtain ⟨z_3008, g_3008, p_3008⟩ : ∃ z : Int32, gI h_3003 12 30 q0 = some z ∧ z.toInt = s_3003 q0 30 := rp_gI (k := 30) R_3003 (T12_o t0) rfl
    refine Rn.hp hT rfl rfl (gI_hp g_3008) ?_
    refine Rn.n hT 2 (pc' := 106) (L' := [some (.ref q0), none, none]) (st' := [.int ((-2 : Int32) - z_3008)]) rfl ?_
    exact Rn.weak (ll_n (ll_n (ll_n ll_e))) (RX12_rule_b106 hd R_3003 (ti_sub L32_m2 p_3008) hq e)
def FX12_rule (N : Nat) (s : iv_M) (q0 : Nat) : Option (Int × iv_M) := (if (s q0 32) = 6 then (some ((-1), s)) else ((pt s q0 31 (s q0 32)).bind fun s_2984 => ((FX12_starts N s_2984 q0).bind fun s_2987 => (FX12_rule_l27 N q0 (fun (s_2988 : iv_M) (x2989_1 : Int) => ((pt s_2988 q0 28 0).bind fun s_2990 => ((wr s_2990 (q0 + 29) 6 (s_2990 q0 31) x2989_1).bind fun s_2993 => (if (s_2993 q0 30) = 0 then (FX12_rule_b79 N s_2993 q0 1 (s_2993 q0 32) q0) else (FX12_rule_b79 N s_2993 q0 0 (s_2993 q0 32) q0))))) N s_2987 0 1))))
set_option maxRecDepth 10000 in
set_option maxHeartbeats 4000000 in
theorem RX12_rule {d N nc Ls : Nat} {Xs : Nat → Int32} (hd : 19 ≤ d) {h : iv_H} {s : iv_M} (hR : Rep nc Ls Xs h s) {q0 : Nat} (t0 : T12 nc q0) {r : Int × iv_M} {Q : Option Value → iv_H → Prop} (e : FX12_rule N s q0 = some r) (hq : ∀ (z : Int32) (h1 : iv_H), z.toInt = r.1 → Rep nc Ls Xs h1 r.2 → Q (some (.int z)) h1) : Cl d 241 [.ref q0] h Q := by
  obtain ⟨d, rfl⟩ : ∃ k, d = k + 1 := ⟨d - 1, by omega⟩
  have hd : 18 ≤ d := by omega
  have hT := hX12_rule
  unfold FX12_rule at e
  refine Cl.into (by decide) gX12_rule rfl ?_
  show Rn d 241 (some .int) 0 [some (.ref q0), none, none] [] h Q
  refine Rn.n hT 1 (pc' := 1) (L' := [some (.ref q0), none, none]) (st' := [.ref q0]) rfl ?_
  obtain ⟨z_2981, g_2981, p_2981⟩ : ∃ z : Int32, gI h 12 32 q0 = some z ∧ z.toInt = s q0 32 := rp_gI (k := 32) hR (T12_o t0) rfl
  refine Rn.hp hT rfl rfl (gI_hp g_2981) ?_
  refine Rn.n hT 1 (pc' := 6) (L' := [some (.ref q0), none, none]) (st' := [.int (6 : Int32), .int z_2981]) rfl ?_
  by_cases c_2982 : (s q0 32) = 6
  · rw [if_pos c_2982] at e
    refine Rn.bf hT rfl rfl rfl (decide_eq_false (fun z => z ((ti_e p_2981 L32_6).mpr c_2982))) ?_
    refine Rn.n hT 1 (pc' := 10) (L' := [some (.ref q0), none, none]) (st' := [.int (-1 : Int32)]) rfl ?_
    obtain rfl := Option.some.inj e
    exact Rn.ret hT rfl rfl rfl (hq (-1 : Int32) h L32_m1 hR)
  · rw [if_neg c_2982] at e
    refine Rn.bt hT rfl rfl rfl (decide_eq_true (fun z => c_2982 ((ti_e p_2981 L32_6).mp z))) ?_
    refine Rn.n hT 2 (pc' := 13) (L' := [some (.ref q0), none, none]) (st' := [.ref q0, .ref q0]) rfl ?_
    obtain ⟨z_2983, g_2983, p_2983⟩ : ∃ z : Int32, gI h 12 32 q0 = some z ∧ z.toInt = s q0 32 := rp_gI (k := 32) hR (T12_o t0) rfl
    refine Rn.hp hT rfl rfl (gI_hp g_2983) ?_
    obtain ⟨s_2984, e_2985, e⟩ := Option.bind_eq_some_iff.mp e
    obtain ⟨h_2984, g_2985, R_2984⟩ := rp_pI (ci := 12) (k := 31) hR (T12_o t0) rfl rfl p_2983 e_2985
    refine Rn.hp hT rfl rfl (pV_hp rfl g_2985) ?_
    refine Rn.n hT 1 (pc' := 20) (L' := [some (.ref q0), none, none]) (st' := [.ref q0]) rfl ?_
    obtain ⟨s_2987, e_2986, e⟩ := Option.bind_eq_some_iff.mp e
    refine Rn.call hT rfl rfl rfl (Nat.le_of_ble_eq_true rfl) (rcv_v gX12_starts (by omega) (rp_ck R_2984 (T12_o t0))) (RX12_starts (by omega) R_2984 t0 e_2986 (fun h_2987 R_2987 => ?_))
    show Rn d _ _ 23 [some (.ref q0), none, none] [] h_2987 Q
    refine Rn.n hT 4 (pc' := 27) (L' := [some (.ref q0), some (.int (0 : Int32)), some (.int (1 : Int32))]) (st' := []) rfl ?_
    refine Rn.weak (ll_s (ll_s (ll_s ll_e))) (RX12_rule_l27 hd t0 (fun h_2988 s_2988 R_2988 m2989_1 x2989_1 p2989_1 e => ?_) hq N h_2987 s_2987 R_2987 (0 : Int32) 0 L32_0 (1 : Int32) 1 L32_1 e)
    try dsimp only at e
    refine Rn.n hT 2 (pc' := 49) (L' := [some (.ref q0), some (.int m2989_1), none]) (st' := [.int (0 : Int32), .ref q0]) rfl ?_
    obtain ⟨s_2990, e_2991, e⟩ := Option.bind_eq_some_iff.mp e
    obtain ⟨h_2990, g_2991, R_2990⟩ := rp_pI (ci := 12) (k := 28) R_2988 (T12_o t0) rfl rfl L32_0 e_2991
    refine Rn.hp hT rfl rfl (pV_hp rfl g_2991) ?_
    refine Rn.n hT 1 (pc' := 53) (L' := [some (.ref q0), some (.int m2989_1), none]) (st' := [.ref q0]) rfl ?_
    refine Rn.hp hT rfl rfl (gR_hp (rp_gR R_2990 (T12_o t0) rfl)) ?_
    refine Rn.n hT 1 (pc' := 57) (L' := [some (.ref q0), some (.int m2989_1), none]) (st' := [.ref q0, .ref (q0 + 29)]) rfl ?_
    obtain ⟨z_2992, g_2992, p_2992⟩ : ∃ z : Int32, gI h_2990 12 31 q0 = some z ∧ z.toInt = s_2990 q0 31 := rp_gI (k := 31) R_2990 (T12_o t0) rfl
    refine Rn.hp hT rfl rfl (gI_hp g_2992) ?_
    refine Rn.n hT 1 (pc' := 61) (L' := [some (.ref q0), some (.int m2989_1), none]) (st' := [.int m2989_1, .int z_2992, .ref (q0 + 29)]) rfl ?_
    obtain ⟨s_2993, e_2994, e⟩ := Option.bind_eq_some_iff.mp e
    obtain ⟨h_2993, g_2994, R_2993⟩ := rp_wI R_2990 (T12_42 t0) (T12_42l t0) p_2992 p2989_1 e_2994
    refine Rn.hp hT rfl rfl (wI_hp g_2994) ?_
    refine Rn.n hT 2 (pc' := 64) (L' := [some (.ref q0), some (.int m2989_1), none]) (st' := [.ref q0, .ref q0]) rfl ?_
    obtain ⟨z_2995, g_2995, p_2995⟩ : ∃ z : Int32, gI h_2993 12 32 q0 = some z ∧ z.toInt = s_2993 q0 32 := rp_gI (k := 32) R_2993 (T12_o t0) rfl
    refine Rn.hp hT rfl rfl (gI_hp g_2995) ?_
    refine Rn.n hT 1 (pc' := 68) (L' := [some (.ref q0), some (.int m2989_1), none]) (st' := [.ref q0, .int z_2995, .ref q0]) rfl ?_
    obtain ⟨z_2996, g_2996, p_2996⟩ : ∃ z : Int32, gI h_2993 12 30 q0 = some z ∧ z.toInt = s_2993 q0 30 := rp_gI (k := 30) R_2993 (T12_o t0) rfl
    refine Rn.hp hT rfl rfl (gI_hp g_2996) ?_
    by_cases c_2997 : (s_2993 q0 30) = 0
    · rw [if_pos c_2997] at e
      refine Rn.bf hT rfl rfl rfl (decide_eq_false (fun z => z ((ti_e p_2996 L32_0).mpr c_2997))) ?_
      refine Rn.n hT 2 (pc' := 79) (L' := [some (.ref q0), some (.int m2989_1), none]) (st' := [.int (1 : Int32), .int z_2995, .ref q0]) rfl ?_
      exact Rn.weak (ll_s (ll_n (ll_n ll_e))) (RX12_rule_b79 hd R_2993 t0 L32_1 p_2995 t0 hq e)
    · rw [if_neg c_2997] at e
      refine Rn.bt hT rfl rfl rfl (decide_eq_true (fun z => c_2997 ((ti_e p_2996 L32_0).mp z))) ?_
      refine Rn.n hT 1 (pc' := 79) (L' := [some (.ref q0), some (.int m2989_1), none]) (st' := [.int (0 : Int32), .int z_2995, .ref q0]) rfl ?_
      exact Rn.weak (ll_s (ll_n (ll_n ll_e))) (RX12_rule_b79 hd R_2993 t0 L32_0 p_2995 t0 hq e)
set_option maxRecDepth 10000 in
theorem hX12_force : iv_Tb 242 tX12_force := iv_tb_of (m := mX12_force) rfl
set_option maxRecDepth 10000 in
theorem gX12_force : PG.2 242 = some mX12_force := iv_pi_of (t := tX12_force) rfl (by decide)
def FX12_force_b25 (N : Nat) (s : iv_M)   : Option (Int × iv_M) := (some ((-2), s))
set_option maxRecDepth 10000 in
set_option maxHeartbeats 4000000 in
theorem RX12_force_b25 {d N nc Ls : Nat} {Xs : Nat → Int32} (hd : 1 ≤ d) {h : iv_H} {s : iv_M} (hR : Rep nc Ls Xs h s)   {r : Int × iv_M} {Q : Option Value → iv_H → Prop} (hq : ∀ (z : Int32) (h1 : iv_H), z.toInt = r.1 → Rep nc Ls Xs h1 r.2 → Q (some (.int z)) h1) (e : FX12_force_b25 N s   = some r) : Rn d 242 (some .int) 25 [none, none, none] [] h Q := by
  have hT := hX12_force
  unfold FX12_force_b25 at e
  refine Rn.n hT 1 (pc' := 27) (L' := [none, none, none]) (st' := [.int (-2 : Int32)]) rfl ?_
  obtain rfl := Option.some.inj e
  exact Rn.ret hT rfl rfl rfl (hq (-2 : Int32) h L32_m2 hR)
def FX12_force (N : Nat) (s : iv_M) (q0 : Nat) (x1 : Int) : Option (Int × iv_M) := ((FX12_isPalace N s q0).bind fun v_3009 => (if v_3009 = 0 then (FX12_force_b25 N s) else ((FX12_in N s x1 (-1) (w32 ((s q0 32) - 1))).bind fun v_3012 => (if v_3012 = 0 then (FX12_force_b25 N s) else ((rd s (q0 + 1) 14 12).bind fun v_3014 => ((wr s (q0 + 1) 14 12 x1).bind fun s_3015 => (some (v_3014, s_3015))))))))
set_option maxRecDepth 10000 in
set_option maxHeartbeats 4000000 in
theorem RX12_force {d N nc Ls : Nat} {Xs : Nat → Int32} (hd : 2 ≤ d) {h : iv_H} {s : iv_M} (hR : Rep nc Ls Xs h s) {q0 : Nat} (t0 : T12 nc q0) {m1 : Int32} {x1 : Int} (p1 : m1.toInt = x1) {r : Int × iv_M} {Q : Option Value → iv_H → Prop} (e : FX12_force N s q0 x1 = some r) (hq : ∀ (z : Int32) (h1 : iv_H), z.toInt = r.1 → Rep nc Ls Xs h1 r.2 → Q (some (.int z)) h1) : Cl d 242 [.ref q0, .int m1] h Q := by
  obtain ⟨d, rfl⟩ : ∃ k, d = k + 1 := ⟨d - 1, by omega⟩
  have hd : 1 ≤ d := by omega
  have hT := hX12_force
  unfold FX12_force at e
  refine Cl.into (by decide) gX12_force rfl ?_
  show Rn d 242 (some .int) 0 [some (.ref q0), some (.int m1), none] [] h Q
  refine Rn.n hT 1 (pc' := 1) (L' := [some (.ref q0), some (.int m1), none]) (st' := [.ref q0]) rfl ?_
  obtain ⟨v_3009, e_3009, e⟩ := Option.bind_eq_some_iff.mp e
  refine Rn.call hT rfl rfl rfl (Nat.le_of_ble_eq_true rfl) (rcv_v gX12_isPalace (by omega) (rp_ck hR (T12_o t0))) (RX12_isPalace (by omega) hR t0 e_3009 (fun z_3009 p_3009 => ?_))
  show Rn d _ _ 4 [some (.ref q0), some (.int m1), none] [.int z_3009] h Q
  by_cases c_3010 : v_3009 = 0
  · rw [if_pos c_3010] at e
    refine Rn.bt hT rfl rfl rfl (decide_eq_true ((ti_e p_3009 L32_0).mpr c_3010)) ?_
    exact Rn.weak (ll_n (ll_n (ll_n ll_e))) (RX12_force_b25 hd hR hq e)
  · rw [if_neg c_3010] at e
    refine Rn.bf hT rfl rfl rfl (decide_eq_false (fun z => c_3010 ((ti_e p_3009 L32_0).mp z))) ?_
    refine Rn.n hT 4 (pc' := 13) (L' := [some (.ref q0), some (.int m1), none]) (st' := [.ref q0, .long (-1 : Int64), .long ((m1).toInt64)]) rfl ?_
    obtain ⟨z_3011, g_3011, p_3011⟩ : ∃ z : Int32, gI h 12 32 q0 = some z ∧ z.toInt = s q0 32 := rp_gI (k := 32) hR (T12_o t0) rfl
    refine Rn.hp hT rfl rfl (gI_hp g_3011) ?_
    refine Rn.n hT 3 (pc' := 19) (L' := [some (.ref q0), some (.int m1), none]) (st' := [.long (((z_3011 - (1 : Int32))).toInt64), .long (-1 : Int64), .long ((m1).toInt64)]) rfl ?_
    obtain ⟨v_3012, e_3012, e⟩ := Option.bind_eq_some_iff.mp e
    refine Rn.call hT rfl rfl rfl (Nat.le_of_ble_eq_true rfl) rfl (RX12_in (by omega) hR (ti_j p1) L64_m1 (ti_j (ti_sub p_3011 L32_1)) e_3012 (fun z_3012 p_3012 => ?_))
    show Rn d _ _ 22 [some (.ref q0), some (.int m1), none] [.int z_3012] h Q
    by_cases c_3013 : v_3012 = 0
    · rw [if_pos c_3013] at e
      refine Rn.bf hT rfl rfl rfl (decide_eq_false (fun z => z ((ti_e p_3012 L32_0).mpr c_3013))) ?_
      exact Rn.weak (ll_n (ll_n (ll_n ll_e))) (RX12_force_b25 hd hR hq e)
    · rw [if_neg c_3013] at e
      refine Rn.bt hT rfl rfl rfl (decide_eq_true (fun z => c_3013 ((ti_e p_3012 L32_0).mp z))) ?_
      refine Rn.n hT 1 (pc' := 29) (L' := [some (.ref q0), some (.int m1), none]) (st' := [.ref q0]) rfl ?_
      refine Rn.hp hT rfl rfl (gR_hp (rp_gR hR (T12_o t0) rfl)) ?_
      refine Rn.n hT 1 (pc' := 34) (L' := [some (.ref q0), some (.int m1), none]) (st' := [.int (12 : Int32), .ref (q0 + 1)]) rfl ?_
      obtain ⟨v_3014, e_3014, e⟩ := Option.bind_eq_some_iff.mp e
      obtain ⟨z_3014, g_3014, p_3014⟩ := rp_aI hR (T12_1 t0) (T12_1l t0) L32_12 e_3014
      refine Rn.hp hT rfl rfl (aI_hp g_3014) ?_
      refine Rn.n hT 2 (pc' := 37) (L' := [some (.ref q0), some (.int m1), some (.int z_3014)]) (st' := [.ref q0]) rfl ?_
      refine Rn.hp hT rfl rfl (gR_hp (rp_gR hR (T12_o t0) rfl)) ?_
      refine Rn.n hT 2 (pc' := 43) (L' := [some (.ref q0), some (.int m1), some (.int z_3014)]) (st' := [.int m1, .int (12 : Int32), .ref (q0 + 1)]) rfl ?_
      obtain ⟨s_3015, e_3016, e⟩ := Option.bind_eq_some_iff.mp e
      obtain ⟨h_3015, g_3016, R_3015⟩ := rp_wI hR (T12_1 t0) (T12_1l t0) L32_12 p1 e_3016
      refine Rn.hp hT rfl rfl (wI_hp g_3016) ?_
      refine Rn.n hT 1 (pc' := 45) (L' := [some (.ref q0), some (.int m1), some (.int z_3014)]) (st' := [.int z_3014]) rfl ?_
      obtain rfl := Option.some.inj e
      exact Rn.ret hT rfl rfl rfl (hq z_3014 h_3015 p_3014 R_3015)
set_option maxRecDepth 10000 in
theorem hX12_law : iv_Tb 243 tX12_law := iv_tb_of (m := mX12_law) rfl
set_option maxRecDepth 10000 in
theorem gX12_law : PG.2 243 = some mX12_law := iv_pi_of (t := tX12_law) rfl (by decide)
def FX12_law_b19 (N : Nat) (s : iv_M)   : Option (Int × iv_M) := (some ((-2), s))
set_option maxRecDepth 10000 in
set_option maxHeartbeats 4000000 in
theorem RX12_law_b19 {d N nc Ls : Nat} {Xs : Nat → Int32} (hd : 1 ≤ d) {h : iv_H} {s : iv_M} (hR : Rep nc Ls Xs h s)   {r : Int × iv_M} {Q : Option Value → iv_H → Prop} (hq : ∀ (z : Int32) (h1 : iv_H), z.toInt = r.1 → Rep nc Ls Xs h1 r.2 → Q (some (.int z)) h1) (e : FX12_law_b19 N s   = some r) : Rn d 243 (some .int) 19 [none, none, none] [] h Q := by
  have hT := hX12_law
  unfold FX12_law_b19 at e
  refine Rn.n hT 1 (pc' := 21) (L' := [none, none, none]) (st' := [.int (-2 : Int32)]) rfl ?_
  obtain rfl := Option.some.inj e
  exact Rn.ret hT rfl rfl rfl (hq (-2 : Int32) h L32_m2 hR)
def FX12_law (N : Nat) (s : iv_M) (q0 : Nat) (x1 : Int) : Option (Int × iv_M) := ((FX12_isPalace N s q0).bind fun v_3017 => (if v_3017 = 0 then (FX12_law_b19 N s) else ((FX12_in N s x1 0 2).bind fun v_3019 => (if v_3019 = 0 then (FX12_law_b19 N s) else ((rd s (q0 + 1) 14 5).bind fun v_3021 => ((wr s (q0 + 1) 14 5 x1).bind fun s_3022 => (some (v_3021, s_3022))))))))
set_option maxRecDepth 10000 in
set_option maxHeartbeats 4000000 in
theorem RX12_law {d N nc Ls : Nat} {Xs : Nat → Int32} (hd : 2 ≤ d) {h : iv_H} {s : iv_M} (hR : Rep nc Ls Xs h s) {q0 : Nat} (t0 : T12 nc q0) {m1 : Int32} {x1 : Int} (p1 : m1.toInt = x1) {r : Int × iv_M} {Q : Option Value → iv_H → Prop} (e : FX12_law N s q0 x1 = some r) (hq : ∀ (z : Int32) (h1 : iv_H), z.toInt = r.1 → Rep nc Ls Xs h1 r.2 → Q (some (.int z)) h1) : Cl d 243 [.ref q0, .int m1] h Q := by
  obtain ⟨d, rfl⟩ : ∃ k, d = k + 1 := ⟨d - 1, by omega⟩
  have hd : 1 ≤ d := by omega
  have hT := hX12_law
  unfold FX12_law at e
  refine Cl.into (by decide) gX12_law rfl ?_
  show Rn d 243 (some .int) 0 [some (.ref q0), some (.int m1), none] [] h Q
  refine Rn.n hT 1 (pc' := 1) (L' := [some (.ref q0), some (.int m1), none]) (st' := [.ref q0]) rfl ?_
  obtain ⟨v_3017, e_3017, e⟩ := Option.bind_eq_some_iff.mp e
  refine Rn.call hT rfl rfl rfl (Nat.le_of_ble_eq_true rfl) (rcv_v gX12_isPalace (by omega) (rp_ck hR (T12_o t0))) (RX12_isPalace (by omega) hR t0 e_3017 (fun z_3017 p_3017 => ?_))
  show Rn d _ _ 4 [some (.ref q0), some (.int m1), none] [.int z_3017] h Q
  by_cases c_3018 : v_3017 = 0
  · rw [if_pos c_3018] at e
    refine Rn.bt hT rfl rfl rfl (decide_eq_true ((ti_e p_3017 L32_0).mpr c_3018)) ?_
    exact Rn.weak (ll_n (ll_n (ll_n ll_e))) (RX12_law_b19 hd hR hq e)
  · rw [if_neg c_3018] at e
    refine Rn.bf hT rfl rfl rfl (decide_eq_false (fun z => c_3018 ((ti_e p_3017 L32_0).mp z))) ?_
    refine Rn.n hT 4 (pc' := 13) (L' := [some (.ref q0), some (.int m1), none]) (st' := [.long (2 : Int64), .long (0 : Int64), .long ((m1).toInt64)]) rfl ?_
    obtain ⟨v_3019, e_3019, e⟩ := Option.bind_eq_some_iff.mp e
    refine Rn.call hT rfl rfl rfl (Nat.le_of_ble_eq_true rfl) rfl (RX12_in (by omega) hR (ti_j p1) L64_0 L64_2 e_3019 (fun z_3019 p_3019 => ?_))
    show Rn d _ _ 16 [some (.ref q0), some (.int m1), none] [.int z_3019] h Q
    by_cases c_3020 : v_3019 = 0
    · rw [if_pos c_3020] at e
      refine Rn.bf hT rfl rfl rfl (decide_eq_false (fun z => z ((ti_e p_3019 L32_0).mpr c_3020))) ?_
      exact Rn.weak (ll_n (ll_n (ll_n ll_e))) (RX12_law_b19 hd hR hq e)
    · rw [if_neg c_3020] at e
      refine Rn.bt hT rfl rfl rfl (decide_eq_true (fun z => c_3020 ((ti_e p_3019 L32_0).mp z))) ?_
      refine Rn.n hT 1 (pc' := 23) (L' := [some (.ref q0), some (.int m1), none]) (st' := [.ref q0]) rfl ?_
      refine Rn.hp hT rfl rfl (gR_hp (rp_gR hR (T12_o t0) rfl)) ?_
      refine Rn.n hT 1 (pc' := 27) (L' := [some (.ref q0), some (.int m1), none]) (st' := [.int (5 : Int32), .ref (q0 + 1)]) rfl ?_
      obtain ⟨v_3021, e_3021, e⟩ := Option.bind_eq_some_iff.mp e
      obtain ⟨z_3021, g_3021, p_3021⟩ := rp_aI hR (T12_1 t0) (T12_1l t0) L32_5 e_3021
      refine Rn.hp hT rfl rfl (aI_hp g_3021) ?_
      refine Rn.n hT 2 (pc' := 30) (L' := [some (.ref q0), some (.int m1), some (.int z_3021)]) (st' := [.ref q0]) rfl ?_
      refine Rn.hp hT rfl rfl (gR_hp (rp_gR hR (T12_o t0) rfl)) ?_
      refine Rn.n hT 2 (pc' := 35) (L' := [some (.ref q0), some (.int m1), some (.int z_3021)]) (st' := [.int m1, .int (5 : Int32), .ref (q0 + 1)]) rfl ?_
      obtain ⟨s_3022, e_3023, e⟩ := Option.bind_eq_some_iff.mp e
      obtain ⟨h_3022, g_3023, R_3022⟩ := rp_wI hR (T12_1 t0) (T12_1l t0) L32_5 p1 e_3023
      refine Rn.hp hT rfl rfl (wI_hp g_3023) ?_
      refine Rn.n hT 1 (pc' := 37) (L' := [some (.ref q0), some (.int m1), some (.int z_3021)]) (st' := [.int z_3021]) rfl ?_
      obtain rfl := Option.some.inj e
      exact Rn.ret hT rfl rfl rfl (hq z_3021 h_3022 p_3021 R_3022)
set_option maxRecDepth 10000 in
theorem hX12_truth : iv_Tb 244 tX12_truth := iv_tb_of (m := mX12_truth) rfl
set_option maxRecDepth 10000 in
theorem gX12_truth : PG.2 244 = some mX12_truth := iv_pi_of (t := tX12_truth) rfl (by decide)
def FX12_truth_b9 (N : Nat) (s : iv_M)  (ys0 : Int) : Option (Int) := (some ys0)
set_option maxRecDepth 10000 in
set_option maxHeartbeats 4000000 in
theorem RX12_truth_b9 {d N nc Ls : Nat} {Xs : Nat → Int32} (hd : 0 ≤ d) {h : iv_H} {s : iv_M} (hR : Rep nc Ls Xs h s)  {js0 : Int64} {ys0 : Int} (ps0 : js0.toInt = ys0) {r : Int} {Q : Option Value → iv_H → Prop} (hq : ∀ (z : Int64), z.toInt = r → Q (some (.long z)) h) (e : FX12_truth_b9 N s  ys0 = some r) : Rn d 244 (some .long) 9 [none] [.long js0] h Q := by
  have hT := hX12_truth
  unfold FX12_truth_b9 at e
  obtain rfl := Option.some.inj e
  exact Rn.ret hT rfl rfl rfl (hq js0 ps0)
def FX12_truth (N : Nat) (s : iv_M) (x0 : Int) : Option (Int) := (if x0 = 0 then (FX12_truth_b9 N s 0) else (FX12_truth_b9 N s 1))
set_option maxRecDepth 10000 in
set_option maxHeartbeats 4000000 in
theorem RX12_truth {d N nc Ls : Nat} {Xs : Nat → Int32} (hd : 1 ≤ d) {h : iv_H} {s : iv_M} (hR : Rep nc Ls Xs h s) {m0 : Int32} {x0 : Int} (p0 : m0.toInt = x0) {r : Int} {Q : Option Value → iv_H → Prop} (e : FX12_truth N s x0 = some r) (hq : ∀ (z : Int64), z.toInt = r → Q (some (.long z)) h) : Cl d 244 [.int m0] h Q := by
  obtain ⟨d, rfl⟩ : ∃ k, d = k + 1 := ⟨d - 1, by omega⟩
  have hd : 0 ≤ d := by omega
  have hT := hX12_truth
  unfold FX12_truth at e
  refine Cl.into (by decide) gX12_truth rfl ?_
  show Rn d 244 (some .long) 0 [some (.int m0)] [] h Q
  refine Rn.n hT 1 (pc' := 1) (L' := [some (.int m0)]) (st' := [.int m0]) rfl ?_
  by_cases c_3024 : x0 = 0
  · rw [if_pos c_3024] at e
    refine Rn.bt hT rfl rfl rfl (decide_eq_true ((ti_e p0 L32_0).mpr c_3024)) ?_
    refine Rn.n hT 1 (pc' := 9) (L' := [some (.int m0)]) (st' := [.long (0 : Int64)]) rfl ?_
    exact Rn.weak (ll_n ll_e) (RX12_truth_b9 hd hR L64_0 hq e)
  · rw [if_neg c_3024] at e
    refine Rn.bf hT rfl rfl rfl (decide_eq_false (fun z => c_3024 ((ti_e p0 L32_0).mp z))) ?_
    refine Rn.n hT 2 (pc' := 9) (L' := [some (.int m0)]) (st' := [.long (1 : Int64)]) rfl ?_
    exact Rn.weak (ll_n ll_e) (RX12_truth_b9 hd hR L64_1 hq e)
set_option maxRecDepth 10000 in
theorem hX12_both : iv_Tb 245 tX12_both := iv_tb_of (m := mX12_both) rfl
set_option maxRecDepth 10000 in
theorem gX12_both : PG.2 245 = some mX12_both := iv_pi_of (t := tX12_both) rfl (by decide)
def FX12_both_b97 (N : Nat) (s : iv_M)  (ys0 : Int) : Option (Int) := (some ys0)
set_option maxRecDepth 10000 in
set_option maxHeartbeats 4000000 in
theorem RX12_both_b97 {d N nc Ls : Nat} {Xs : Nat → Int32} (hd : 1 ≤ d) {h : iv_H} {s : iv_M} (hR : Rep nc Ls Xs h s)  {js0 : Int64} {ys0 : Int} (ps0 : js0.toInt = ys0) {r : Int} {Q : Option Value → iv_H → Prop} (hq : ∀ (z : Int64), z.toInt = r → Q (some (.long z)) h) (e : FX12_both_b97 N s  ys0 = some r) : Rn d 245 (some .long) 97 [none, none, none, none, none] [.long js0] h Q := by
  have hT := hX12_both
  unfold FX12_both_b97 at e
  obtain rfl := Option.some.inj e
  exact Rn.ret hT rfl rfl rfl (hq js0 ps0)
def FX12_both_b111 (N : Nat) (s : iv_M)  (ys0 : Int) : Option (Int) := (some ys0)
set_option maxRecDepth 10000 in
set_option maxHeartbeats 4000000 in
theorem RX12_both_b111 {d N nc Ls : Nat} {Xs : Nat → Int32} (hd : 1 ≤ d) {h : iv_H} {s : iv_M} (hR : Rep nc Ls Xs h s)  {js0 : Int64} {ys0 : Int} (ps0 : js0.toInt = ys0) {r : Int} {Q : Option Value → iv_H → Prop} (hq : ∀ (z : Int64), z.toInt = r → Q (some (.long z)) h) (e : FX12_both_b111 N s  ys0 = some r) : Rn d 245 (some .long) 111 [none, none, none, none, none] [.long js0] h Q := by
  have hT := hX12_both
  unfold FX12_both_b111 at e
  obtain rfl := Option.some.inj e
  exact Rn.ret hT rfl rfl rfl (hq js0 ps0)
def FX12_both_b123 (N : Nat) (s : iv_M)  (xs0 : Int) : Option (Int) := ((FX12_truth N s xs0).bind fun v_3048 => (some v_3048))
set_option maxRecDepth 10000 in
set_option maxHeartbeats 4000000 in
theorem RX12_both_b123 {d N nc Ls : Nat} {Xs : Nat → Int32} (hd : 1 ≤ d) {h : iv_H} {s : iv_M} (hR : Rep nc Ls Xs h s)  {ms0 : Int32} {xs0 : Int} (ps0 : ms0.toInt = xs0) {r : Int} {Q : Option Value → iv_H → Prop} (hq : ∀ (z : Int64), z.toInt = r → Q (some (.long z)) h) (e : FX12_both_b123 N s  xs0 = some r) : Rn d 245 (some .long) 123 [none, none, none, none, none] [.int ms0] h Q := by
  have hT := hX12_both
  unfold FX12_both_b123 at e
  obtain ⟨v_3048, e_3048, e⟩ := Option.bind_eq_some_iff.mp e
  refine Rn.call hT rfl rfl rfl (Nat.le_of_ble_eq_true rfl) rfl (RX12_truth (by omega) hR ps0 e_3048 (fun z_3048 p_3048 => ?_))
  show Rn d _ _ 126 [none, none, none, none, none] [.long z_3048] h Q
  obtain rfl := Option.some.inj e
  exact Rn.ret hT rfl rfl rfl (hq z_3048 p_3048)
def FX12_both_b138 (N : Nat) (s : iv_M)  (xs0 : Int) : Option (Int) := ((FX12_truth N s xs0).bind fun v_3049 => (some v_3049))
set_option maxRecDepth 10000 in
set_option maxHeartbeats 4000000 in
theorem RX12_both_b138 {d N nc Ls : Nat} {Xs : Nat → Int32} (hd : 1 ≤ d) {h : iv_H} {s : iv_M} (hR : Rep nc Ls Xs h s)  {ms0 : Int32} {xs0 : Int} (ps0 : ms0.toInt = xs0) {r : Int} {Q : Option Value → iv_H → Prop} (hq : ∀ (z : Int64), z.toInt = r → Q (some (.long z)) h) (e : FX12_both_b138 N s  xs0 = some r) : Rn d 245 (some .long) 138 [none, none, none, none, none] [.int ms0] h Q := by
  have hT := hX12_both
  unfold FX12_both_b138 at e
  obtain ⟨v_3049, e_3049, e⟩ := Option.bind_eq_some_iff.mp e
  refine Rn.call hT rfl rfl rfl (Nat.le_of_ble_eq_true rfl) rfl (RX12_truth (by omega) hR ps0 e_3049 (fun z_3049 p_3049 => ?_))
  show Rn d _ _ 141 [none, none, none, none, none] [.long z_3049] h Q
  obtain rfl := Option.some.inj e
  exact Rn.ret hT rfl rfl rfl (hq z_3049 p_3049)
def FX12_both_b153 (N : Nat) (s : iv_M)  (xs0 : Int) : Option (Int) := ((FX12_truth N s xs0).bind fun v_3050 => (some v_3050))
set_option maxRecDepth 10000 in
set_option maxHeartbeats 4000000 in
theorem RX12_both_b153 {d N nc Ls : Nat} {Xs : Nat → Int32} (hd : 1 ≤ d) {h : iv_H} {s : iv_M} (hR : Rep nc Ls Xs h s)  {ms0 : Int32} {xs0 : Int} (ps0 : ms0.toInt = xs0) {r : Int} {Q : Option Value → iv_H → Prop} (hq : ∀ (z : Int64), z.toInt = r → Q (some (.long z)) h) (e : FX12_both_b153 N s  xs0 = some r) : Rn d 245 (some .long) 153 [none, none, none, none, none] [.int ms0] h Q := by
  have hT := hX12_both
  unfold FX12_both_b153 at e
  obtain ⟨v_3050, e_3050, e⟩ := Option.bind_eq_some_iff.mp e
  refine Rn.call hT rfl rfl rfl (Nat.le_of_ble_eq_true rfl) rfl (RX12_truth (by omega) hR ps0 e_3050 (fun z_3050 p_3050 => ?_))
  show Rn d _ _ 156 [none, none, none, none, none] [.long z_3050] h Q
  obtain rfl := Option.some.inj e
  exact Rn.ret hT rfl rfl rfl (hq z_3050 p_3050)
def FX12_both_b168 (N : Nat) (s : iv_M)  (xs0 : Int) : Option (Int) := ((FX12_truth N s xs0).bind fun v_3051 => (some v_3051))
set_option maxRecDepth 10000 in
set_option maxHeartbeats 4000000 in
theorem RX12_both_b168 {d N nc Ls : Nat} {Xs : Nat → Int32} (hd : 1 ≤ d) {h : iv_H} {s : iv_M} (hR : Rep nc Ls Xs h s)  {ms0 : Int32} {xs0 : Int} (ps0 : ms0.toInt = xs0) {r : Int} {Q : Option Value → iv_H → Prop} (hq : ∀ (z : Int64), z.toInt = r → Q (some (.long z)) h) (e : FX12_both_b168 N s  xs0 = some r) : Rn d 245 (some .long) 168 [none, none, none, none, none] [.int ms0] h Q := by
  have hT := hX12_both
  unfold FX12_both_b168 at e
  obtain ⟨v_3051, e_3051, e⟩ := Option.bind_eq_some_iff.mp e
  refine Rn.call hT rfl rfl rfl (Nat.le_of_ble_eq_true rfl) rfl (RX12_truth (by omega) hR ps0 e_3051 (fun z_3051 p_3051 => ?_))
  show Rn d _ _ 171 [none, none, none, none, none] [.long z_3051] h Q
  obtain rfl := Option.some.inj e
  exact Rn.ret hT rfl rfl rfl (hq z_3051 p_3051)
def FX12_both_b183 (N : Nat) (s : iv_M)  (xs0 : Int) : Option (Int) := ((FX12_truth N s xs0).bind fun v_3052 => (some v_3052))
set_option maxRecDepth 10000 in
set_option maxHeartbeats 4000000 in
theorem RX12_both_b183 {d N nc Ls : Nat} {Xs : Nat → Int32} (hd : 1 ≤ d) {h : iv_H} {s : iv_M} (hR : Rep nc Ls Xs h s)  {ms0 : Int32} {xs0 : Int} (ps0 : ms0.toInt = xs0) {r : Int} {Q : Option Value → iv_H → Prop} (hq : ∀ (z : Int64), z.toInt = r → Q (some (.long z)) h) (e : FX12_both_b183 N s  xs0 = some r) : Rn d 245 (some .long) 183 [none, none, none, none, none] [.int ms0] h Q := by
  have hT := hX12_both
  unfold FX12_both_b183 at e
  obtain ⟨v_3052, e_3052, e⟩ := Option.bind_eq_some_iff.mp e
  refine Rn.call hT rfl rfl rfl (Nat.le_of_ble_eq_true rfl) rfl (RX12_truth (by omega) hR ps0 e_3052 (fun z_3052 p_3052 => ?_))
  show Rn d _ _ 186 [none, none, none, none, none] [.long z_3052] h Q
  obtain rfl := Option.some.inj e
  exact Rn.ret hT rfl rfl rfl (hq z_3052 p_3052)
def FX12_both (N : Nat) (s : iv_M) (x0 : Int) (y1 : Int) (y3 : Int) : Option (Int) := (if x0 = 2 then (some (w64 (y1 + y3))) else (if x0 = 3 then (some (w64 (y1 - y3))) else (if x0 = 4 then (if y3 ≤ y1 then (FX12_both_b123 N s 0) else (FX12_both_b123 N s 1)) else (if x0 = 5 then (if y3 < y1 then (FX12_both_b138 N s 0) else (FX12_both_b138 N s 1)) else (if x0 = 6 then (if y1 = y3 then (FX12_both_b153 N s 1) else (FX12_both_b153 N s 0)) else (if x0 = 7 then (if y1 < y3 then (FX12_both_b168 N s 0) else (FX12_both_b168 N s 1)) else (if x0 = 8 then (if y1 ≤ y3 then (FX12_both_b183 N s 0) else (FX12_both_b183 N s 1)) else (if x0 = 9 then (some (bOr y1 y3)) else (if x0 = 10 then (some (bAn y1 y3)) else (if x0 = 11 then (some (bOr y1 y3)) else (if x0 = 12 then (some (bOr y1 y3)) else (if x0 = 13 then (some (w64 (y1 * y3))) else (if x0 = 14 then (if y3 = 0 then (FX12_both_b97 N s 0) else (if y3 = 0 then none else (FX12_both_b97 N s (dv64 y1 y3)))) else (if x0 = 15 then (if y3 = 0 then (FX12_both_b111 N s 0) else (if y3 = 0 then none else (FX12_both_b111 N s (Int.tmod y1 y3)))) else (some (bOr y1 y3))))))))))))))))
set_option maxRecDepth 10000 in
set_option maxHeartbeats 4000000 in
theorem RX12_both {d N nc Ls : Nat} {Xs : Nat → Int32} (hd : 2 ≤ d) {h : iv_H} {s : iv_M} (hR : Rep nc Ls Xs h s) {m0 : Int32} {x0 : Int} (p0 : m0.toInt = x0) {j1 : Int64} {y1 : Int} (p1 : j1.toInt = y1) {j3 : Int64} {y3 : Int} (p3 : j3.toInt = y3) {r : Int} {Q : Option Value → iv_H → Prop} (e : FX12_both N s x0 y1 y3 = some r) (hq : ∀ (z : Int64), z.toInt = r → Q (some (.long z)) h) : Cl d 245 [.int m0, .long j1, .long j3] h Q := by
  obtain ⟨d, rfl⟩ : ∃ k, d = k + 1 := ⟨d - 1, by omega⟩
  have hd : 1 ≤ d := by omega
  have hT := hX12_both
  unfold FX12_both at e
  refine Cl.into (by decide) gX12_both rfl ?_
  show Rn d 245 (some .long) 0 [some (.int m0), some (.long j1), none, some (.long j3), none] [] h Q
  refine Rn.n hT 1 (pc' := 1) (L' := [some (.int m0), some (.long j1), none, some (.long j3), none]) (st' := [.int m0]) rfl ?_
  by_cases c_3025 : x0 = 2
  · rw [if_pos c_3025] at e
    refine Rn.sw2 hT rfl rfl rfl (if_pos ((ti_e p0 L32_2).mpr c_3025)) ?_
    refine Rn.n hT 3 (pc' := 75) (L' := [some (.int m0), some (.long j1), none, some (.long j3), none]) (st' := [.long (j1 + j3)]) rfl ?_
    obtain rfl := Option.some.inj e
    exact Rn.ret hT rfl rfl rfl (hq (j1 + j3) (tj_add p1 p3))
  · rw [if_neg c_3025] at e
    by_cases c_3026 : x0 = 3
    · rw [if_pos c_3026] at e
      refine Rn.sw2 hT rfl rfl rfl ((if_neg (fun z => c_3025 ((ti_e p0 L32_2).mp z))).trans (if_pos ((ti_e p0 L32_3).mpr c_3026))) ?_
      refine Rn.n hT 3 (pc' := 79) (L' := [some (.int m0), some (.long j1), none, some (.long j3), none]) (st' := [.long (j1 - j3)]) rfl ?_
      obtain rfl := Option.some.inj e
      exact Rn.ret hT rfl rfl rfl (hq (j1 - j3) (tj_sub p1 p3))
    · rw [if_neg c_3026] at e
      by_cases c_3027 : x0 = 4
      · rw [if_pos c_3027] at e
        refine Rn.sw2 hT rfl rfl rfl ((if_neg (fun z => c_3025 ((ti_e p0 L32_2).mp z))).trans ((if_neg (fun z => c_3026 ((ti_e p0 L32_3).mp z))).trans (if_pos ((ti_e p0 L32_4).mpr c_3027)))) ?_
        refine Rn.n hT 3 (pc' := 115) (L' := [some (.int m0), some (.long j1), none, some (.long j3), none]) (st' := [.int (lg_cmp j1 j3)]) rfl ?_
        by_cases c_3028 : y3 ≤ y1
        · rw [if_pos c_3028] at e
          refine Rn.bt hT rfl rfl rfl (decide_eq_true ((lc_ge p1 p3).mpr c_3028)) ?_
          refine Rn.n hT 1 (pc' := 123) (L' := [some (.int m0), some (.long j1), none, some (.long j3), none]) (st' := [.int (0 : Int32)]) rfl ?_
          exact Rn.weak (ll_n (ll_n (ll_n (ll_n (ll_n ll_e))))) (RX12_both_b123 hd hR L32_0 hq e)
        · rw [if_neg c_3028] at e
          refine Rn.bf hT rfl rfl rfl (decide_eq_false (fun z => c_3028 ((lc_ge p1 p3).mp z))) ?_
          refine Rn.n hT 2 (pc' := 123) (L' := [some (.int m0), some (.long j1), none, some (.long j3), none]) (st' := [.int (1 : Int32)]) rfl ?_
          exact Rn.weak (ll_n (ll_n (ll_n (ll_n (ll_n ll_e))))) (RX12_both_b123 hd hR L32_1 hq e)
      · rw [if_neg c_3027] at e
        by_cases c_3029 : x0 = 5
        · rw [if_pos c_3029] at e
          refine Rn.sw2 hT rfl rfl rfl ((if_neg (fun z => c_3025 ((ti_e p0 L32_2).mp z))).trans ((if_neg (fun z => c_3026 ((ti_e p0 L32_3).mp z))).trans ((if_neg (fun z => c_3027 ((ti_e p0 L32_4).mp z))).trans (if_pos ((ti_e p0 L32_5).mpr c_3029))))) ?_
          refine Rn.n hT 3 (pc' := 130) (L' := [some (.int m0), some (.long j1), none, some (.long j3), none]) (st' := [.int (lg_cmp j1 j3)]) rfl ?_
          by_cases c_3030 : y3 < y1
          · rw [if_pos c_3030] at e
            refine Rn.bt hT rfl rfl rfl (decide_eq_true ((lc_g p1 p3).mpr c_3030)) ?_
            refine Rn.n hT 1 (pc' := 138) (L' := [some (.int m0), some (.long j1), none, some (.long j3), none]) (st' := [.int (0 : Int32)]) rfl ?_
            exact Rn.weak (ll_n (ll_n (ll_n (ll_n (ll_n ll_e))))) (RX12_both_b138 hd hR L32_0 hq e)
          · rw [if_neg c_3030] at e
            refine Rn.bf hT rfl rfl rfl (decide_eq_false (fun z => c_3030 ((lc_g p1 p3).mp z))) ?_
            refine Rn.n hT 2 (pc' := 138) (L' := [some (.int m0), some (.long j1), none, some (.long j3), none]) (st' := [.int (1 : Int32)]) rfl ?_
            exact Rn.weak (ll_n (ll_n (ll_n (ll_n (ll_n ll_e))))) (RX12_both_b138 hd hR L32_1 hq e)
        · rw [if_neg c_3029] at e
          by_cases c_3031 : x0 = 6
          · rw [if_pos c_3031] at e
            refine Rn.sw2 hT rfl rfl rfl ((if_neg (fun z => c_3025 ((ti_e p0 L32_2).mp z))).trans ((if_neg (fun z => c_3026 ((ti_e p0 L32_3).mp z))).trans ((if_neg (fun z => c_3027 ((ti_e p0 L32_4).mp z))).trans ((if_neg (fun z => c_3029 ((ti_e p0 L32_5).mp z))).trans (if_pos ((ti_e p0 L32_6).mpr c_3031)))))) ?_
            refine Rn.n hT 3 (pc' := 145) (L' := [some (.int m0), some (.long j1), none, some (.long j3), none]) (st' := [.int (lg_cmp j1 j3)]) rfl ?_
            by_cases c_3032 : y1 = y3
            · rw [if_pos c_3032] at e
              refine Rn.bf hT rfl rfl rfl (decide_eq_false (fun z => z ((lc_e p1 p3).mpr c_3032))) ?_
              refine Rn.n hT 2 (pc' := 153) (L' := [some (.int m0), some (.long j1), none, some (.long j3), none]) (st' := [.int (1 : Int32)]) rfl ?_
              exact Rn.weak (ll_n (ll_n (ll_n (ll_n (ll_n ll_e))))) (RX12_both_b153 hd hR L32_1 hq e)
            · rw [if_neg c_3032] at e
              refine Rn.bt hT rfl rfl rfl (decide_eq_true (fun z => c_3032 ((lc_e p1 p3).mp z))) ?_
              refine Rn.n hT 1 (pc' := 153) (L' := [some (.int m0), some (.long j1), none, some (.long j3), none]) (st' := [.int (0 : Int32)]) rfl ?_
              exact Rn.weak (ll_n (ll_n (ll_n (ll_n (ll_n ll_e))))) (RX12_both_b153 hd hR L32_0 hq e)
          · rw [if_neg c_3031] at e
            by_cases c_3033 : x0 = 7
            · rw [if_pos c_3033] at e
              refine Rn.sw2 hT rfl rfl rfl ((if_neg (fun z => c_3025 ((ti_e p0 L32_2).mp z))).trans ((if_neg (fun z => c_3026 ((ti_e p0 L32_3).mp z))).trans ((if_neg (fun z => c_3027 ((ti_e p0 L32_4).mp z))).trans ((if_neg (fun z => c_3029 ((ti_e p0 L32_5).mp z))).trans ((if_neg (fun z => c_3031 ((ti_e p0 L32_6).mp z))).trans (if_pos ((ti_e p0 L32_7).mpr c_3033))))))) ?_
              refine Rn.n hT 3 (pc' := 160) (L' := [some (.int m0), some (.long j1), none, some (.long j3), none]) (st' := [.int (lg_cmp j1 j3)]) rfl ?_
              by_cases c_3034 : y1 < y3
              · rw [if_pos c_3034] at e
                refine Rn.bt hT rfl rfl rfl (decide_eq_true ((lc_l p1 p3).mpr c_3034)) ?_
                refine Rn.n hT 1 (pc' := 168) (L' := [some (.int m0), some (.long j1), none, some (.long j3), none]) (st' := [.int (0 : Int32)]) rfl ?_
                exact Rn.weak (ll_n (ll_n (ll_n (ll_n (ll_n ll_e))))) (RX12_both_b168 hd hR L32_0 hq e)
              · rw [if_neg c_3034] at e
                refine Rn.bf hT rfl rfl rfl (decide_eq_false (fun z => c_3034 ((lc_l p1 p3).mp z))) ?_
                refine Rn.n hT 2 (pc' := 168) (L' := [some (.int m0), some (.long j1), none, some (.long j3), none]) (st' := [.int (1 : Int32)]) rfl ?_
                exact Rn.weak (ll_n (ll_n (ll_n (ll_n (ll_n ll_e))))) (RX12_both_b168 hd hR L32_1 hq e)
            · rw [if_neg c_3033] at e
              by_cases c_3035 : x0 = 8
              · rw [if_pos c_3035] at e
                refine Rn.sw2 hT rfl rfl rfl ((if_neg (fun z => c_3025 ((ti_e p0 L32_2).mp z))).trans ((if_neg (fun z => c_3026 ((ti_e p0 L32_3).mp z))).trans ((if_neg (fun z => c_3027 ((ti_e p0 L32_4).mp z))).trans ((if_neg (fun z => c_3029 ((ti_e p0 L32_5).mp z))).trans ((if_neg (fun z => c_3031 ((ti_e p0 L32_6).mp z))).trans ((if_neg (fun z => c_3033 ((ti_e p0 L32_7).mp z))).trans (if_pos ((ti_e p0 L32_8).mpr c_3035)))))))) ?_
                refine Rn.n hT 3 (pc' := 175) (L' := [some (.int m0), some (.long j1), none, some (.long j3), none]) (st' := [.int (lg_cmp j1 j3)]) rfl ?_
                by_cases c_3036 : y1 ≤ y3
                · rw [if_pos c_3036] at e
                  refine Rn.bt hT rfl rfl rfl (decide_eq_true ((lc_le p1 p3).mpr c_3036)) ?_
                  refine Rn.n hT 1 (pc' := 183) (L' := [some (.int m0), some (.long j1), none, some (.long j3), none]) (st' := [.int (0 : Int32)]) rfl ?_
                  exact Rn.weak (ll_n (ll_n (ll_n (ll_n (ll_n ll_e))))) (RX12_both_b183 hd hR L32_0 hq e)
                · rw [if_neg c_3036] at e
                  refine Rn.bf hT rfl rfl rfl (decide_eq_false (fun z => c_3036 ((lc_le p1 p3).mp z))) ?_
                  refine Rn.n hT 2 (pc' := 183) (L' := [some (.int m0), some (.long j1), none, some (.long j3), none]) (st' := [.int (1 : Int32)]) rfl ?_
                  exact Rn.weak (ll_n (ll_n (ll_n (ll_n (ll_n ll_e))))) (RX12_both_b183 hd hR L32_1 hq e)
              · rw [if_neg c_3035] at e
                by_cases c_3037 : x0 = 9
                · rw [if_pos c_3037] at e
                  refine Rn.sw2 hT rfl rfl rfl ((if_neg (fun z => c_3025 ((ti_e p0 L32_2).mp z))).trans ((if_neg (fun z => c_3026 ((ti_e p0 L32_3).mp z))).trans ((if_neg (fun z => c_3027 ((ti_e p0 L32_4).mp z))).trans ((if_neg (fun z => c_3029 ((ti_e p0 L32_5).mp z))).trans ((if_neg (fun z => c_3031 ((ti_e p0 L32_6).mp z))).trans ((if_neg (fun z => c_3033 ((ti_e p0 L32_7).mp z))).trans ((if_neg (fun z => c_3035 ((ti_e p0 L32_8).mp z))).trans (if_pos ((ti_e p0 L32_9).mpr c_3037))))))))) ?_
                  refine Rn.n hT 3 (pc' := 194) (L' := [some (.int m0), some (.long j1), none, some (.long j3), none]) (st' := [.long (j1 ||| j3)]) rfl ?_
                  obtain rfl := Option.some.inj e
                  exact Rn.ret hT rfl rfl rfl (hq (j1 ||| j3) (tj_or p1 p3))
                · rw [if_neg c_3037] at e
                  by_cases c_3038 : x0 = 10
                  · rw [if_pos c_3038] at e
                    refine Rn.sw2 hT rfl rfl rfl ((if_neg (fun z => c_3025 ((ti_e p0 L32_2).mp z))).trans ((if_neg (fun z => c_3026 ((ti_e p0 L32_3).mp z))).trans ((if_neg (fun z => c_3027 ((ti_e p0 L32_4).mp z))).trans ((if_neg (fun z => c_3029 ((ti_e p0 L32_5).mp z))).trans ((if_neg (fun z => c_3031 ((ti_e p0 L32_6).mp z))).trans ((if_neg (fun z => c_3033 ((ti_e p0 L32_7).mp z))).trans ((if_neg (fun z => c_3035 ((ti_e p0 L32_8).mp z))).trans ((if_neg (fun z => c_3037 ((ti_e p0 L32_9).mp z))).trans (if_pos ((ti_e p0 L32_10).mpr c_3038)))))))))) ?_
                    refine Rn.n hT 3 (pc' := 190) (L' := [some (.int m0), some (.long j1), none, some (.long j3), none]) (st' := [.long (j1 &&& j3)]) rfl ?_
                    obtain rfl := Option.some.inj e
                    exact Rn.ret hT rfl rfl rfl (hq (j1 &&& j3) (tj_and p1 p3))
                  · rw [if_neg c_3038] at e
                    by_cases c_3039 : x0 = 11
                    · rw [if_pos c_3039] at e
                      refine Rn.sw2 hT rfl rfl rfl ((if_neg (fun z => c_3025 ((ti_e p0 L32_2).mp z))).trans ((if_neg (fun z => c_3026 ((ti_e p0 L32_3).mp z))).trans ((if_neg (fun z => c_3027 ((ti_e p0 L32_4).mp z))).trans ((if_neg (fun z => c_3029 ((ti_e p0 L32_5).mp z))).trans ((if_neg (fun z => c_3031 ((ti_e p0 L32_6).mp z))).trans ((if_neg (fun z => c_3033 ((ti_e p0 L32_7).mp z))).trans ((if_neg (fun z => c_3035 ((ti_e p0 L32_8).mp z))).trans ((if_neg (fun z => c_3037 ((ti_e p0 L32_9).mp z))).trans ((if_neg (fun z => c_3038 ((ti_e p0 L32_10).mp z))).trans (if_pos ((ti_e p0 L32_11).mpr c_3039))))))))))) ?_
                      refine Rn.n hT 3 (pc' := 194) (L' := [some (.int m0), some (.long j1), none, some (.long j3), none]) (st' := [.long (j1 ||| j3)]) rfl ?_
                      obtain rfl := Option.some.inj e
                      exact Rn.ret hT rfl rfl rfl (hq (j1 ||| j3) (tj_or p1 p3))
                    · rw [if_neg c_3039] at e
                      by_cases c_3040 : x0 = 12
                      · rw [if_pos c_3040] at e
                        refine Rn.sw2 hT rfl rfl rfl ((if_neg (fun z => c_3025 ((ti_e p0 L32_2).mp z))).trans ((if_neg (fun z => c_3026 ((ti_e p0 L32_3).mp z))).trans ((if_neg (fun z => c_3027 ((ti_e p0 L32_4).mp z))).trans ((if_neg (fun z => c_3029 ((ti_e p0 L32_5).mp z))).trans ((if_neg (fun z => c_3031 ((ti_e p0 L32_6).mp z))).trans ((if_neg (fun z => c_3033 ((ti_e p0 L32_7).mp z))).trans ((if_neg (fun z => c_3035 ((ti_e p0 L32_8).mp z))).trans ((if_neg (fun z => c_3037 ((ti_e p0 L32_9).mp z))).trans ((if_neg (fun z => c_3038 ((ti_e p0 L32_10).mp z))).trans ((if_neg (fun z => c_3039 ((ti_e p0 L32_11).mp z))).trans (if_pos ((ti_e p0 L32_12).mpr c_3040)))))))))))) ?_
                        refine Rn.n hT 3 (pc' := 194) (L' := [some (.int m0), some (.long j1), none, some (.long j3), none]) (st' := [.long (j1 ||| j3)]) rfl ?_
                        obtain rfl := Option.some.inj e
                        exact Rn.ret hT rfl rfl rfl (hq (j1 ||| j3) (tj_or p1 p3))
                      · rw [if_neg c_3040] at e
                        by_cases c_3041 : x0 = 13
                        · rw [if_pos c_3041] at e
                          refine Rn.sw2 hT rfl rfl rfl ((if_neg (fun z => c_3025 ((ti_e p0 L32_2).mp z))).trans ((if_neg (fun z => c_3026 ((ti_e p0 L32_3).mp z))).trans ((if_neg (fun z => c_3027 ((ti_e p0 L32_4).mp z))).trans ((if_neg (fun z => c_3029 ((ti_e p0 L32_5).mp z))).trans ((if_neg (fun z => c_3031 ((ti_e p0 L32_6).mp z))).trans ((if_neg (fun z => c_3033 ((ti_e p0 L32_7).mp z))).trans ((if_neg (fun z => c_3035 ((ti_e p0 L32_8).mp z))).trans ((if_neg (fun z => c_3037 ((ti_e p0 L32_9).mp z))).trans ((if_neg (fun z => c_3038 ((ti_e p0 L32_10).mp z))).trans ((if_neg (fun z => c_3039 ((ti_e p0 L32_11).mp z))).trans ((if_neg (fun z => c_3040 ((ti_e p0 L32_12).mp z))).trans (if_pos ((ti_e p0 L32_13).mpr c_3041))))))))))))) ?_
                          refine Rn.n hT 3 (pc' := 83) (L' := [some (.int m0), some (.long j1), none, some (.long j3), none]) (st' := [.long (j1 * j3)]) rfl ?_
                          obtain rfl := Option.some.inj e
                          exact Rn.ret hT rfl rfl rfl (hq (j1 * j3) (tj_mul p1 p3))
                        · rw [if_neg c_3041] at e
                          by_cases c_3042 : x0 = 14
                          · rw [if_pos c_3042] at e
                            refine Rn.sw2 hT rfl rfl rfl ((if_neg (fun z => c_3025 ((ti_e p0 L32_2).mp z))).trans ((if_neg (fun z => c_3026 ((ti_e p0 L32_3).mp z))).trans ((if_neg (fun z => c_3027 ((ti_e p0 L32_4).mp z))).trans ((if_neg (fun z => c_3029 ((ti_e p0 L32_5).mp z))).trans ((if_neg (fun z => c_3031 ((ti_e p0 L32_6).mp z))).trans ((if_neg (fun z => c_3033 ((ti_e p0 L32_7).mp z))).trans ((if_neg (fun z => c_3035 ((ti_e p0 L32_8).mp z))).trans ((if_neg (fun z => c_3037 ((ti_e p0 L32_9).mp z))).trans ((if_neg (fun z => c_3038 ((ti_e p0 L32_10).mp z))).trans ((if_neg (fun z => c_3039 ((ti_e p0 L32_11).mp z))).trans ((if_neg (fun z => c_3040 ((ti_e p0 L32_12).mp z))).trans ((if_neg (fun z => c_3041 ((ti_e p0 L32_13).mp z))).trans (if_pos ((ti_e p0 L32_14).mpr c_3042)))))))))))))) ?_
                            refine Rn.n hT 3 (pc' := 87) (L' := [some (.int m0), some (.long j1), none, some (.long j3), none]) (st' := [.int (lg_cmp j3 (0 : Int64))]) rfl ?_
                            by_cases c_3043 : y3 = 0
                            · rw [if_pos c_3043] at e
                              refine Rn.bf hT rfl rfl rfl (decide_eq_false (fun z => z ((lc_e p3 L64_0).mpr c_3043))) ?_
                              refine Rn.n hT 2 (pc' := 97) (L' := [some (.int m0), some (.long j1), none, some (.long j3), none]) (st' := [.long (0 : Int64)]) rfl ?_
                              exact Rn.weak (ll_n (ll_n (ll_n (ll_n (ll_n ll_e))))) (RX12_both_b97 hd hR L64_0 hq e)
                            · rw [if_neg c_3043] at e
                              refine Rn.bt hT rfl rfl rfl (decide_eq_true (fun z => c_3043 ((lc_e p3 L64_0).mp z))) ?_
                              refine Rn.n hT 2 (pc' := 96) (L' := [some (.int m0), some (.long j1), none, some (.long j3), none]) (st' := [.long j3, .long j1]) rfl ?_
                              by_cases c_3044 : y3 = 0
                              · rw [if_pos c_3044] at e
                                cases e
                              · rw [if_neg c_3044] at e
                                refine Rn.pu hT rfl rfl (st' := [.long (j1 / j3)]) (if_neg (fun z => c_3044 ((tj_e p3 L64_0).mp z))) ?_
                                exact Rn.weak (ll_n (ll_n (ll_n (ll_n (ll_n ll_e))))) (RX12_both_b97 hd hR (tj_div p1 p3) hq e)
                          · rw [if_neg c_3042] at e
                            by_cases c_3045 : x0 = 15
                            · rw [if_pos c_3045] at e
                              refine Rn.sw2 hT rfl rfl rfl ((if_neg (fun z => c_3025 ((ti_e p0 L32_2).mp z))).trans ((if_neg (fun z => c_3026 ((ti_e p0 L32_3).mp z))).trans ((if_neg (fun z => c_3027 ((ti_e p0 L32_4).mp z))).trans ((if_neg (fun z => c_3029 ((ti_e p0 L32_5).mp z))).trans ((if_neg (fun z => c_3031 ((ti_e p0 L32_6).mp z))).trans ((if_neg (fun z => c_3033 ((ti_e p0 L32_7).mp z))).trans ((if_neg (fun z => c_3035 ((ti_e p0 L32_8).mp z))).trans ((if_neg (fun z => c_3037 ((ti_e p0 L32_9).mp z))).trans ((if_neg (fun z => c_3038 ((ti_e p0 L32_10).mp z))).trans ((if_neg (fun z => c_3039 ((ti_e p0 L32_11).mp z))).trans ((if_neg (fun z => c_3040 ((ti_e p0 L32_12).mp z))).trans ((if_neg (fun z => c_3041 ((ti_e p0 L32_13).mp z))).trans ((if_neg (fun z => c_3042 ((ti_e p0 L32_14).mp z))).trans (if_pos ((ti_e p0 L32_15).mpr c_3045))))))))))))))) ?_
                              refine Rn.n hT 3 (pc' := 101) (L' := [some (.int m0), some (.long j1), none, some (.long j3), none]) (st' := [.int (lg_cmp j3 (0 : Int64))]) rfl ?_
                              by_cases c_3046 : y3 = 0
                              · rw [if_pos c_3046] at e
                                refine Rn.bf hT rfl rfl rfl (decide_eq_false (fun z => z ((lc_e p3 L64_0).mpr c_3046))) ?_
                                refine Rn.n hT 2 (pc' := 111) (L' := [some (.int m0), some (.long j1), none, some (.long j3), none]) (st' := [.long (0 : Int64)]) rfl ?_
                                exact Rn.weak (ll_n (ll_n (ll_n (ll_n (ll_n ll_e))))) (RX12_both_b111 hd hR L64_0 hq e)
                              · rw [if_neg c_3046] at e
                                refine Rn.bt hT rfl rfl rfl (decide_eq_true (fun z => c_3046 ((lc_e p3 L64_0).mp z))) ?_
                                refine Rn.n hT 2 (pc' := 110) (L' := [some (.int m0), some (.long j1), none, some (.long j3), none]) (st' := [.long j3, .long j1]) rfl ?_
                                by_cases c_3047 : y3 = 0
                                · rw [if_pos c_3047] at e
                                  cases e
                                · rw [if_neg c_3047] at e
                                  refine Rn.pu hT rfl rfl (st' := [.long (j1 - j1 / j3 * j3)]) (if_neg (fun z => c_3047 ((tj_e p3 L64_0).mp z))) ?_
                                  exact Rn.weak (ll_n (ll_n (ll_n (ll_n (ll_n ll_e))))) (RX12_both_b111 hd hR (tj_rem p1 p3) hq e)
                            · rw [if_neg c_3045] at e
                              refine Rn.sw2 hT rfl rfl rfl ((if_neg (fun z => c_3025 ((ti_e p0 L32_2).mp z))).trans ((if_neg (fun z => c_3026 ((ti_e p0 L32_3).mp z))).trans ((if_neg (fun z => c_3027 ((ti_e p0 L32_4).mp z))).trans ((if_neg (fun z => c_3029 ((ti_e p0 L32_5).mp z))).trans ((if_neg (fun z => c_3031 ((ti_e p0 L32_6).mp z))).trans ((if_neg (fun z => c_3033 ((ti_e p0 L32_7).mp z))).trans ((if_neg (fun z => c_3035 ((ti_e p0 L32_8).mp z))).trans ((if_neg (fun z => c_3037 ((ti_e p0 L32_9).mp z))).trans ((if_neg (fun z => c_3038 ((ti_e p0 L32_10).mp z))).trans ((if_neg (fun z => c_3039 ((ti_e p0 L32_11).mp z))).trans ((if_neg (fun z => c_3040 ((ti_e p0 L32_12).mp z))).trans ((if_neg (fun z => c_3041 ((ti_e p0 L32_13).mp z))).trans ((if_neg (fun z => c_3042 ((ti_e p0 L32_14).mp z))).trans ((if_neg (fun z => c_3045 ((ti_e p0 L32_15).mp z))).trans rfl)))))))))))))) ?_
                              refine Rn.n hT 3 (pc' := 194) (L' := [some (.int m0), some (.long j1), none, some (.long j3), none]) (st' := [.long (j1 ||| j3)]) rfl ?_
                              obtain rfl := Option.some.inj e
                              exact Rn.ret hT rfl rfl rfl (hq (j1 ||| j3) (tj_or p1 p3))
set_option maxRecDepth 10000 in
theorem hX12_answer : iv_Tb 246 tX12_answer := iv_tb_of (m := mX12_answer) rfl
set_option maxRecDepth 10000 in
theorem gX12_answer : PG.2 246 = some mX12_answer := iv_pi_of (t := tX12_answer) rfl (by decide)
def FX12_answer_b147 (N : Nat) (s : iv_M) (q0 : Nat) (x1 : Int) (x3 : Int) (x4 : Int) (x5 : Int)  (kb : iv_M → Int → Int → Option (Int × iv_M)) (kx : iv_M → Option (Int × iv_M)) : Option (Int × iv_M) := (kb s x4 (w32 (x5 + 1)))
set_option maxRecDepth 10000 in
set_option maxHeartbeats 4000000 in
theorem RX12_answer_b147 {d N nc Ls : Nat} {Xs : Nat → Int32} (hd : 2 ≤ d) {h : iv_H} {s : iv_M} (hR : Rep nc Ls Xs h s) {q0 : Nat} (t0 : T12 nc q0) {m1 : Int32} {x1 : Int} (p1 : m1.toInt = x1) {m3 : Int32} {x3 : Int} (p3 : m3.toInt = x3) {m4 : Int32} {x4 : Int} (p4 : m4.toInt = x4) {m5 : Int32} {x5 : Int} (p5 : m5.toInt = x5)  {kb : iv_M → Int → Int → Option (Int × iv_M)} {kx : iv_M → Option (Int × iv_M)} {r : Int × iv_M} {Q : Option Value → iv_H → Prop} (hb : ∀ (h : iv_H) (s : iv_M) (hR : Rep nc Ls Xs h s) (mw4 : Int32) (xw4 : Int) (pw4 : mw4.toInt = xw4) (mw5 : Int32) (xw5 : Int) (pw5 : mw5.toInt = xw5), kb s xw4 xw5 = some r → Rn d 246 (some .long) 6 [some (.ref q0), some (.int m1), none, some (.int m3), some (.int mw4), some (.int mw5), none, none] [] h Q) (hk : ∀ (h : iv_H) (s : iv_M) (hR : Rep nc Ls Xs h s), kx s = some r → Rn d 246 (some .long) 153 [some (.ref q0), none, none, none, none, none, none, none] [] h Q) (hq : ∀ (z : Int64) (h1 : iv_H), z.toInt = r.1 → Rep nc Ls Xs h1 r.2 → Q (some (.long z)) h1) (e : FX12_answer_b147 N s q0 x1 x3 x4 x5  kb kx = some r) : Rn d 246 (some .long) 147 [some (.ref q0), some (.int m1), none, some (.int m3), some (.int m4), some (.int m5), none, none] [] h Q := by
  have hT := hX12_answer
  unfold FX12_answer_b147 at e
  refine Rn.n hT 2 (pc' := 6) (L' := [some (.ref q0), some (.int m1), none, some (.int m3), some (.int m4), some (.int (m5 + (1 : Int32))), none, none]) (st' := []) rfl ?_
  exact Rn.weak (ll_s (ll_s (ll_n (ll_s (ll_s (ll_s (ll_n (ll_n ll_e)))))))) (hb h s hR m4 x4 p4 (m5 + (1 : Int32)) (w32 (x5 + 1)) (ti_add p5 L32_1) e)
def FX12_answer_b77 (N : Nat) (s : iv_M) (q0 : Nat) (x1 : Int) (x3 : Int) (x4 : Int) (x5 : Int) (ys0 : Int) (xs1 : Int) (qs2 : Nat) (kb : iv_M → Int → Int → Option (Int × iv_M)) (kx : iv_M → Option (Int × iv_M)) : Option (Int × iv_M) := ((wr s qs2 ((sh qs2).2 : Int) xs1 ys0).bind fun s_3072 => (FX12_answer_b147 N s_3072 q0 x1 x3 (w32 (x4 + 1)) x5 kb kx))
set_option maxRecDepth 10000 in
set_option maxHeartbeats 4000000 in
theorem RX12_answer_b77 {d N nc Ls : Nat} {Xs : Nat → Int32} (hd : 2 ≤ d) {h : iv_H} {s : iv_M} (hR : Rep nc Ls Xs h s) {q0 : Nat} (t0 : T12 nc q0) {m1 : Int32} {x1 : Int} (p1 : m1.toInt = x1) {m3 : Int32} {x3 : Int} (p3 : m3.toInt = x3) {m4 : Int32} {x4 : Int} (p4 : m4.toInt = x4) {m5 : Int32} {x5 : Int} (p5 : m5.toInt = x5) {js0 : Int64} {ys0 : Int} (ps0 : js0.toInt = ys0) {ms1 : Int32} {xs1 : Int} (ps1 : ms1.toInt = xs1) {qs2 : Nat} (ts2 : TA 1 nc qs2) {kb : iv_M → Int → Int → Option (Int × iv_M)} {kx : iv_M → Option (Int × iv_M)} {r : Int × iv_M} {Q : Option Value → iv_H → Prop} (hb : ∀ (h : iv_H) (s : iv_M) (hR : Rep nc Ls Xs h s) (mw4 : Int32) (xw4 : Int) (pw4 : mw4.toInt = xw4) (mw5 : Int32) (xw5 : Int) (pw5 : mw5.toInt = xw5), kb s xw4 xw5 = some r → Rn d 246 (some .long) 6 [some (.ref q0), some (.int m1), none, some (.int m3), some (.int mw4), some (.int mw5), none, none] [] h Q) (hk : ∀ (h : iv_H) (s : iv_M) (hR : Rep nc Ls Xs h s), kx s = some r → Rn d 246 (some .long) 153 [some (.ref q0), none, none, none, none, none, none, none] [] h Q) (hq : ∀ (z : Int64) (h1 : iv_H), z.toInt = r.1 → Rep nc Ls Xs h1 r.2 → Q (some (.long z)) h1) (e : FX12_answer_b77 N s q0 x1 x3 x4 x5 ys0 xs1 qs2 kb kx = some r) : Rn d 246 (some .long) 77 [some (.ref q0), some (.int m1), none, some (.int m3), some (.int m4), some (.int m5), none, none] [.long js0, .int ms1, .ref qs2] h Q := by
  have hT := hX12_answer
  unfold FX12_answer_b77 at e
  obtain ⟨s_3072, e_3073, e⟩ := Option.bind_eq_some_iff.mp e
  obtain ⟨h_3072, g_3073, R_3072⟩ := rp_wJ hR ts2 rfl ps1 ps0 e_3073
  refine Rn.hp hT rfl rfl (wJ_hp g_3073) ?_
  refine Rn.n hT 2 (pc' := 147) (L' := [some (.ref q0), some (.int m1), none, some (.int m3), some (.int (m4 + (1 : Int32))), some (.int m5), none, none]) (st' := []) rfl ?_
  exact Rn.weak (ll_s (ll_s (ll_n (ll_s (ll_s (ll_s (ll_n (ll_n ll_e)))))))) (RX12_answer_b147 hd R_3072 t0 p1 p3 (ti_add p4 L32_1) p5 hb hk hq e)
def FX12_answer_b53 (N : Nat) (s : iv_M) (q0 : Nat) (x1 : Int) (x3 : Int) (x4 : Int) (x5 : Int) (x6 : Int) (x7 : Int)  (kb : iv_M → Int → Int → Option (Int × iv_M)) (kx : iv_M → Option (Int × iv_M)) : Option (Int × iv_M) := (if x6 = 0 then (FX12_answer_b77 N s q0 x1 x3 x4 x5 x7 x4 (q0 + 34) kb kx) else ((rd s (q0 + 33) 13 x7).bind fun v_3071 => (FX12_answer_b77 N s q0 x1 x3 x4 x5 v_3071 x4 (q0 + 34) kb kx)))
set_option maxRecDepth 10000 in
set_option maxHeartbeats 4000000 in
theorem RX12_answer_b53 {d N nc Ls : Nat} {Xs : Nat → Int32} (hd : 2 ≤ d) {h : iv_H} {s : iv_M} (hR : Rep nc Ls Xs h s) {q0 : Nat} (t0 : T12 nc q0) {m1 : Int32} {x1 : Int} (p1 : m1.toInt = x1) {m3 : Int32} {x3 : Int} (p3 : m3.toInt = x3) {m4 : Int32} {x4 : Int} (p4 : m4.toInt = x4) {m5 : Int32} {x5 : Int} (p5 : m5.toInt = x5) {m6 : Int32} {x6 : Int} (p6 : m6.toInt = x6) {m7 : Int32} {x7 : Int} (p7 : m7.toInt = x7)  {kb : iv_M → Int → Int → Option (Int × iv_M)} {kx : iv_M → Option (Int × iv_M)} {r : Int × iv_M} {Q : Option Value → iv_H → Prop} (hb : ∀ (h : iv_H) (s : iv_M) (hR : Rep nc Ls Xs h s) (mw4 : Int32) (xw4 : Int) (pw4 : mw4.toInt = xw4) (mw5 : Int32) (xw5 : Int) (pw5 : mw5.toInt = xw5), kb s xw4 xw5 = some r → Rn d 246 (some .long) 6 [some (.ref q0), some (.int m1), none, some (.int m3), some (.int mw4), some (.int mw5), none, none] [] h Q) (hk : ∀ (h : iv_H) (s : iv_M) (hR : Rep nc Ls Xs h s), kx s = some r → Rn d 246 (some .long) 153 [some (.ref q0), none, none, none, none, none, none, none] [] h Q) (hq : ∀ (z : Int64) (h1 : iv_H), z.toInt = r.1 → Rep nc Ls Xs h1 r.2 → Q (some (.long z)) h1) (e : FX12_answer_b53 N s q0 x1 x3 x4 x5 x6 x7  kb kx = some r) : Rn d 246 (some .long) 53 [some (.ref q0), some (.int m1), none, some (.int m3), some (.int m4), some (.int m5), some (.int m6), some (.int m7)] [] h Q := by
  have hT := hX12_answer
  unfold FX12_answer_b53 at e
  refine Rn.n hT 1 (pc' := 54) (L' := [some (.ref q0), some (.int m1), none, some (.int m3), some (.int m4), some (.int m5), some (.int m6), some (.int m7)]) (st' := [.ref q0]) rfl ?_
  refine Rn.hp hT rfl rfl (gR_hp (rp_gR hR (T12_o t0) rfl)) ?_
  refine Rn.n hT 2 (pc' := 61) (L' := [some (.ref q0), some (.int m1), none, some (.int m3), some (.int m4), some (.int m5), some (.int m6), some (.int m7)]) (st' := [.int m6, .int m4, .ref (q0 + 34)]) rfl ?_
  by_cases c_3070 : x6 = 0
  · rw [if_pos c_3070] at e
    refine Rn.bf hT rfl rfl rfl (decide_eq_false (fun z => z ((ti_e p6 L32_0).mpr c_3070))) ?_
    refine Rn.n hT 3 (pc' := 77) (L' := [some (.ref q0), some (.int m1), none, some (.int m3), some (.int m4), some (.int m5), some (.int m6), some (.int m7)]) (st' := [.long ((m7).toInt64), .int m4, .ref (q0 + 34)]) rfl ?_
    exact Rn.weak (ll_s (ll_s (ll_n (ll_s (ll_s (ll_s (ll_n (ll_n ll_e)))))))) (RX12_answer_b77 hd hR t0 p1 p3 p4 p5 (ti_j p7) p4 (T12_47 t0) hb hk hq e)
  · rw [if_neg c_3070] at e
    refine Rn.bt hT rfl rfl rfl (decide_eq_true (fun z => c_3070 ((ti_e p6 L32_0).mp z))) ?_
    refine Rn.n hT 1 (pc' := 71) (L' := [some (.ref q0), some (.int m1), none, some (.int m3), some (.int m4), some (.int m5), some (.int m6), some (.int m7)]) (st' := [.ref q0, .int m4, .ref (q0 + 34)]) rfl ?_
    refine Rn.hp hT rfl rfl (gR_hp (rp_gR hR (T12_o t0) rfl)) ?_
    refine Rn.n hT 1 (pc' := 76) (L' := [some (.ref q0), some (.int m1), none, some (.int m3), some (.int m4), some (.int m5), some (.int m6), some (.int m7)]) (st' := [.int m7, .ref (q0 + 33), .int m4, .ref (q0 + 34)]) rfl ?_
    obtain ⟨v_3071, e_3071, e⟩ := Option.bind_eq_some_iff.mp e
    obtain ⟨z_3071, g_3071, p_3071⟩ := rp_aJ hR (T12_46 t0) (T12_46l t0) p7 e_3071
    refine Rn.hp hT rfl rfl (aJ_hp g_3071) ?_
    exact Rn.weak (ll_s (ll_s (ll_n (ll_s (ll_s (ll_s (ll_n (ll_n ll_e)))))))) (RX12_answer_b77 hd hR t0 p1 p3 p4 p5 p_3071 p4 (T12_47 t0) hb hk hq e)
def FX12_answer_l6 (N : Nat) (q0 : Nat) (x1 : Int) (x3 : Int) (kx : iv_M → Option (Int × iv_M)) : Nat → iv_M → Int → Int → Option (Int × iv_M)
  | 0, _, _, _ => none
  | n + 1, s, x4, x5 => (if x3 ≤ x5 then (kx s) else ((rd s (q0 + 27) 1800 (w32 ((w32 (300 * x1)) + x5))).bind fun v_3057 => ((rd s (q0 + 28) 1800 (w32 ((w32 (300 * x1)) + x5))).bind fun v_3058 => (if v_3057 = 0 then (FX12_answer_b53 N s q0 x1 x3 x4 x5 v_3057 v_3058 (FX12_answer_l6 N q0 x1 x3 kx n) kx) else (if v_3057 = 1 then (FX12_answer_b53 N s q0 x1 x3 x4 x5 v_3057 v_3058 (FX12_answer_l6 N q0 x1 x3 kx n) kx) else (if v_3057 = 9 then ((rd s (q0 + 34) 300 (w32 (x4 - 1))).bind fun v_3067 => ((wr s (q0 + 34) 300 (w32 (x4 - 1)) (w64 (1 - v_3067))).bind fun s_3068 => (FX12_answer_b147 N s_3068 q0 x1 x3 x4 x5 (FX12_answer_l6 N q0 x1 x3 kx n) kx))) else ((rd s (q0 + 34) 300 (w32 ((w32 (x4 + (-1))) - 1))).bind fun v_3062 => ((rd s (q0 + 34) 300 (w32 (x4 + (-1)))).bind fun v_3063 => ((FX12_both N s v_3057 v_3062 v_3063).bind fun v_3064 => ((wr s (q0 + 34) 300 (w32 ((w32 (x4 + (-1))) - 1)) v_3064).bind fun s_3065 => (FX12_answer_b147 N s_3065 q0 x1 x3 (w32 (x4 + (-1))) x5 (FX12_answer_l6 N q0 x1 x3 kx n) kx)))))))))))
set_option maxRecDepth 10000 in
set_option maxHeartbeats 4000000 in
theorem RX12_answer_l6 {d N nc Ls : Nat} {Xs : Nat → Int32} (hd : 2 ≤ d) {q0 : Nat} (t0 : T12 nc q0) {m1 : Int32} {x1 : Int} (p1 : m1.toInt = x1) {m3 : Int32} {x3 : Int} (p3 : m3.toInt = x3) {kx : iv_M → Option (Int × iv_M)} {r : Int × iv_M} {Q : Option Value → iv_H → Prop} (hk : ∀ (h : iv_H) (s : iv_M) (hR : Rep nc Ls Xs h s), kx s = some r → Rn d 246 (some .long) 153 [some (.ref q0), none, none, none, none, none, none, none] [] h Q) (hq : ∀ (z : Int64) (h1 : iv_H), z.toInt = r.1 → Rep nc Ls Xs h1 r.2 → Q (some (.long z)) h1) : ∀ (n : Nat) (h : iv_H) (s : iv_M) (hR : Rep nc Ls Xs h s) (m4 : Int32) (x4 : Int) (p4 : m4.toInt = x4) (m5 : Int32) (x5 : Int) (p5 : m5.toInt = x5), FX12_answer_l6 N q0 x1 x3 kx n s x4 x5 = some r → Rn d 246 (some .long) 6 [some (.ref q0), some (.int m1), none, some (.int m3), some (.int m4), some (.int m5), none, none] [] h Q := by
  have hT := hX12_answer
  intro n
  induction n with
  | zero =>
    intro h s hR m4 x4 p4 m5 x5 p5 e
    rw [FX12_answer_l6] at e
    cases e
  | succ n ih =>
    intro h s hR m4 x4 p4 m5 x5 p5 e
    rw [FX12_answer_l6] at e
    refine Rn.n hT 2 (pc' := 9) (L' := [some (.ref q0), some (.int m1), none, some (.int m3), some (.int m4), some (.int m5), none, none]) (st' := [.int m3, .int m5]) rfl ?_
    by_cases c_3056 : x3 ≤ x5
    · rw [if_pos c_3056] at e
      refine Rn.bt hT rfl rfl rfl (decide_eq_true ((ti_le p3 p5).mpr c_3056)) ?_
      exact Rn.weak (ll_s (ll_n (ll_n (ll_n (ll_n (ll_n (ll_n (ll_n ll_e)))))))) (hk h s hR e)
    · rw [if_neg c_3056] at e
      refine Rn.bf hT rfl rfl rfl (decide_eq_false (fun z => c_3056 ((ti_le p3 p5).mp z))) ?_
      refine Rn.n hT 1 (pc' := 13) (L' := [some (.ref q0), some (.int m1), none, some (.int m3), some (.int m4), some (.int m5), none, none]) (st' := [.ref q0]) rfl ?_
      refine Rn.hp hT rfl rfl (gR_hp (rp_gR hR (T12_o t0) rfl)) ?_
      refine Rn.n hT 5 (pc' := 24) (L' := [some (.ref q0), some (.int m1), none, some (.int m3), some (.int m4), some (.int m5), none, none]) (st' := [.int (((300 : Int32) * m1) + m5), .ref (q0 + 27)]) rfl ?_
      obtain ⟨v_3057, e_3057, e⟩ := Option.bind_eq_some_iff.mp e
      obtain ⟨z_3057, g_3057, p_3057⟩ := rp_aI hR (T12_40 t0) (T12_40l t0) (ti_add (ti_mul L32_300 p1) p5) e_3057
      refine Rn.hp hT rfl rfl (aI_hp g_3057) ?_
      refine Rn.n hT 2 (pc' := 28) (L' := [some (.ref q0), some (.int m1), none, some (.int m3), some (.int m4), some (.int m5), some (.int z_3057), none]) (st' := [.ref q0]) rfl ?_
      refine Rn.hp hT rfl rfl (gR_hp (rp_gR hR (T12_o t0) rfl)) ?_
      refine Rn.n hT 5 (pc' := 39) (L' := [some (.ref q0), some (.int m1), none, some (.int m3), some (.int m4), some (.int m5), some (.int z_3057), none]) (st' := [.int (((300 : Int32) * m1) + m5), .ref (q0 + 28)]) rfl ?_
      obtain ⟨v_3058, e_3058, e⟩ := Option.bind_eq_some_iff.mp e
      obtain ⟨z_3058, g_3058, p_3058⟩ := rp_aI hR (T12_41 t0) (T12_41l t0) (ti_add (ti_mul L32_300 p1) p5) e_3058
      refine Rn.hp hT rfl rfl (aI_hp g_3058) ?_
      refine Rn.n hT 2 (pc' := 44) (L' := [some (.ref q0), some (.int m1), none, some (.int m3), some (.int m4), some (.int m5), some (.int z_3057), some (.int z_3058)]) (st' := [.int z_3057]) rfl ?_
      by_cases c_3059 : v_3057 = 0
      · rw [if_pos c_3059] at e
        refine Rn.bt hT rfl rfl rfl (decide_eq_true ((ti_e p_3057 L32_0).mpr c_3059)) ?_
        exact Rn.weak (ll_s (ll_s (ll_n (ll_s (ll_s (ll_s (ll_s (ll_s ll_e)))))))) (RX12_answer_b53 hd hR t0 p1 p3 p4 p5 p_3057 p_3058 ih hk hq e)
      · rw [if_neg c_3059] at e
        refine Rn.bf hT rfl rfl rfl (decide_eq_false (fun z => c_3059 ((ti_e p_3057 L32_0).mp z))) ?_
        refine Rn.n hT 2 (pc' := 50) (L' := [some (.ref q0), some (.int m1), none, some (.int m3), some (.int m4), some (.int m5), some (.int z_3057), some (.int z_3058)]) (st' := [.int (1 : Int32), .int z_3057]) rfl ?_
        by_cases c_3060 : v_3057 = 1
        · rw [if_pos c_3060] at e
          refine Rn.bf hT rfl rfl rfl (decide_eq_false (fun z => z ((ti_e p_3057 L32_1).mpr c_3060))) ?_
          exact Rn.weak (ll_s (ll_s (ll_n (ll_s (ll_s (ll_s (ll_s (ll_s ll_e)))))))) (RX12_answer_b53 hd hR t0 p1 p3 p4 p5 p_3057 p_3058 ih hk hq e)
        · rw [if_neg c_3060] at e
          refine Rn.bt hT rfl rfl rfl (decide_eq_true (fun z => c_3060 ((ti_e p_3057 L32_1).mp z))) ?_
          refine Rn.n hT 2 (pc' := 88) (L' := [some (.ref q0), some (.int m1), none, some (.int m3), some (.int m4), some (.int m5), some (.int z_3057), some (.int z_3058)]) (st' := [.int (9 : Int32), .int z_3057]) rfl ?_
          by_cases c_3061 : v_3057 = 9
          · rw [if_pos c_3061] at e
            refine Rn.bf hT rfl rfl rfl (decide_eq_false (fun z => z ((ti_e p_3057 L32_9).mpr c_3061))) ?_
            refine Rn.n hT 1 (pc' := 92) (L' := [some (.ref q0), some (.int m1), none, some (.int m3), some (.int m4), some (.int m5), some (.int z_3057), some (.int z_3058)]) (st' := [.ref q0]) rfl ?_
            refine Rn.hp hT rfl rfl (gR_hp (rp_gR hR (T12_o t0) rfl)) ?_
            refine Rn.n hT 5 (pc' := 101) (L' := [some (.ref q0), some (.int m1), none, some (.int m3), some (.int m4), some (.int m5), some (.int z_3057), some (.int z_3058)]) (st' := [.ref q0, .long (1 : Int64), .int (m4 - (1 : Int32)), .ref (q0 + 34)]) rfl ?_
            refine Rn.hp hT rfl rfl (gR_hp (rp_gR hR (T12_o t0) rfl)) ?_
            refine Rn.n hT 3 (pc' := 108) (L' := [some (.ref q0), some (.int m1), none, some (.int m3), some (.int m4), some (.int m5), some (.int z_3057), some (.int z_3058)]) (st' := [.int (m4 - (1 : Int32)), .ref (q0 + 34), .long (1 : Int64), .int (m4 - (1 : Int32)), .ref (q0 + 34)]) rfl ?_
            obtain ⟨v_3067, e_3067, e⟩ := Option.bind_eq_some_iff.mp e
            obtain ⟨z_3067, g_3067, p_3067⟩ := rp_aJ hR (T12_47 t0) (T12_47l t0) (ti_sub p4 L32_1) e_3067
            refine Rn.hp hT rfl rfl (aJ_hp g_3067) ?_
            refine Rn.n hT 1 (pc' := 110) (L' := [some (.ref q0), some (.int m1), none, some (.int m3), some (.int m4), some (.int m5), some (.int z_3057), some (.int z_3058)]) (st' := [.long ((1 : Int64) - z_3067), .int (m4 - (1 : Int32)), .ref (q0 + 34)]) rfl ?_
            obtain ⟨s_3068, e_3069, e⟩ := Option.bind_eq_some_iff.mp e
            obtain ⟨h_3068, g_3069, R_3068⟩ := rp_wJ hR (T12_47 t0) (T12_47l t0) (ti_sub p4 L32_1) (tj_sub L64_1 p_3067) e_3069
            refine Rn.hp hT rfl rfl (wJ_hp g_3069) ?_
            refine Rn.n hT 1 (pc' := 147) (L' := [some (.ref q0), some (.int m1), none, some (.int m3), some (.int m4), some (.int m5), some (.int z_3057), some (.int z_3058)]) (st' := []) rfl ?_
            exact Rn.weak (ll_s (ll_s (ll_n (ll_s (ll_s (ll_s (ll_n (ll_n ll_e)))))))) (RX12_answer_b147 hd R_3068 t0 p1 p3 p4 p5 ih hk hq e)
          · rw [if_neg c_3061] at e
            refine Rn.bt hT rfl rfl rfl (decide_eq_true (fun z => c_3061 ((ti_e p_3057 L32_9).mp z))) ?_
            refine Rn.n hT 2 (pc' := 118) (L' := [some (.ref q0), some (.int m1), none, some (.int m3), some (.int (m4 + (-1 : Int32))), some (.int m5), some (.int z_3057), some (.int z_3058)]) (st' := [.ref q0]) rfl ?_
            refine Rn.hp hT rfl rfl (gR_hp (rp_gR hR (T12_o t0) rfl)) ?_
            refine Rn.n hT 5 (pc' := 128) (L' := [some (.ref q0), some (.int m1), none, some (.int m3), some (.int (m4 + (-1 : Int32))), some (.int m5), some (.int z_3057), some (.int z_3058)]) (st' := [.ref q0, .int z_3057, .int ((m4 + (-1 : Int32)) - (1 : Int32)), .ref (q0 + 34)]) rfl ?_
            refine Rn.hp hT rfl rfl (gR_hp (rp_gR hR (T12_o t0) rfl)) ?_
            refine Rn.n hT 3 (pc' := 135) (L' := [some (.ref q0), some (.int m1), none, some (.int m3), some (.int (m4 + (-1 : Int32))), some (.int m5), some (.int z_3057), some (.int z_3058)]) (st' := [.int ((m4 + (-1 : Int32)) - (1 : Int32)), .ref (q0 + 34), .int z_3057, .int ((m4 + (-1 : Int32)) - (1 : Int32)), .ref (q0 + 34)]) rfl ?_
            obtain ⟨v_3062, e_3062, e⟩ := Option.bind_eq_some_iff.mp e
            obtain ⟨z_3062, g_3062, p_3062⟩ := rp_aJ hR (T12_47 t0) (T12_47l t0) (ti_sub (ti_add p4 L32_m1) L32_1) e_3062
            refine Rn.hp hT rfl rfl (aJ_hp g_3062) ?_
            refine Rn.n hT 1 (pc' := 137) (L' := [some (.ref q0), some (.int m1), none, some (.int m3), some (.int (m4 + (-1 : Int32))), some (.int m5), some (.int z_3057), some (.int z_3058)]) (st' := [.ref q0, .long z_3062, .int z_3057, .int ((m4 + (-1 : Int32)) - (1 : Int32)), .ref (q0 + 34)]) rfl ?_
            refine Rn.hp hT rfl rfl (gR_hp (rp_gR hR (T12_o t0) rfl)) ?_
            refine Rn.n hT 1 (pc' := 142) (L' := [some (.ref q0), some (.int m1), none, some (.int m3), some (.int (m4 + (-1 : Int32))), some (.int m5), some (.int z_3057), some (.int z_3058)]) (st' := [.int (m4 + (-1 : Int32)), .ref (q0 + 34), .long z_3062, .int z_3057, .int ((m4 + (-1 : Int32)) - (1 : Int32)), .ref (q0 + 34)]) rfl ?_
            obtain ⟨v_3063, e_3063, e⟩ := Option.bind_eq_some_iff.mp e
            obtain ⟨z_3063, g_3063, p_3063⟩ := rp_aJ hR (T12_47 t0) (T12_47l t0) (ti_add p4 L32_m1) e_3063
            refine Rn.hp hT rfl rfl (aJ_hp g_3063) ?_
            obtain ⟨v_3064, e_3064, e⟩ := Option.bind_eq_some_iff.mp e
            refine Rn.call hT rfl rfl rfl (Nat.le_of_ble_eq_true rfl) rfl (RX12_both (by omega) hR p_3057 p_3062 p_3063 e_3064 (fun z_3064 p_3064 => ?_))
            show Rn d _ _ 146 [some (.ref q0), some (.int m1), none, some (.int m3), some (.int (m4 + (-1 : Int32))), some (.int m5), some (.int z_3057), some (.int z_3058)] [.long z_3064, .int ((m4 + (-1 : Int32)) - (1 : Int32)), .ref (q0 + 34)] h Q
            obtain ⟨s_3065, e_3066, e⟩ := Option.bind_eq_some_iff.mp e
            obtain ⟨h_3065, g_3066, R_3065⟩ := rp_wJ hR (T12_47 t0) (T12_47l t0) (ti_sub (ti_add p4 L32_m1) L32_1) p_3064 e_3066
            refine Rn.hp hT rfl rfl (wJ_hp g_3066) ?_
            exact Rn.weak (ll_s (ll_s (ll_n (ll_s (ll_s (ll_s (ll_n (ll_n ll_e)))))))) (RX12_answer_b147 hd R_3065 t0 p1 p3 (ti_add p4 L32_m1) p5 ih hk hq e)
def FX12_answer (N : Nat) (s : iv_M) (q0 : Nat) (x1 : Int) (x2 : Int) (x3 : Int) : Option (Int × iv_M) := (FX12_answer_l6 N q0 x1 x3 (fun (s_3053 : iv_M) => ((rd s_3053 (q0 + 34) 300 0).bind fun v_3055 => (some (v_3055, s_3053)))) N s 0 x2)
set_option maxRecDepth 10000 in
set_option maxHeartbeats 4000000 in
theorem RX12_answer {d N nc Ls : Nat} {Xs : Nat → Int32} (hd : 3 ≤ d) {h : iv_H} {s : iv_M} (hR : Rep nc Ls Xs h s) {q0 : Nat} (t0 : T12 nc q0) {m1 : Int32} {x1 : Int} (p1 : m1.toInt = x1) {m2 : Int32} {x2 : Int} (p2 : m2.toInt = x2) {m3 : Int32} {x3 : Int} (p3 : m3.toInt = x3) {r : Int × iv_M} {Q : Option Value → iv_H → Prop} (e : FX12_answer N s q0 x1 x2 x3 = some r) (hq : ∀ (z : Int64) (h1 : iv_H), z.toInt = r.1 → Rep nc Ls Xs h1 r.2 → Q (some (.long z)) h1) : Cl d 246 [.ref q0, .int m1, .int m2, .int m3] h Q := by
  obtain ⟨d, rfl⟩ : ∃ k, d = k + 1 := ⟨d - 1, by omega⟩
  have hd : 2 ≤ d := by omega
  have hT := hX12_answer
  unfold FX12_answer at e
  refine Cl.into (by decide) gX12_answer rfl ?_
  show Rn d 246 (some .long) 0 [some (.ref q0), some (.int m1), some (.int m2), some (.int m3), none, none, none, none] [] h Q
  refine Rn.n hT 4 (pc' := 6) (L' := [some (.ref q0), some (.int m1), some (.int m2), some (.int m3), some (.int (0 : Int32)), some (.int m2), none, none]) (st' := []) rfl ?_
  refine Rn.weak (ll_s (ll_s (ll_n (ll_s (ll_s (ll_s (ll_n (ll_n ll_e)))))))) (RX12_answer_l6 hd t0 p1 p3 (fun h_3053 s_3053 R_3053 e => ?_) hq N h s hR (0 : Int32) 0 L32_0 m2 x2 p2 e)
  try dsimp only at e
  refine Rn.n hT 1 (pc' := 154) (L' := [some (.ref q0), none, none, none, none, none, none, none]) (st' := [.ref q0]) rfl ?_
  refine Rn.hp hT rfl rfl (gR_hp (rp_gR R_3053 (T12_o t0) rfl)) ?_
  refine Rn.n hT 1 (pc' := 158) (L' := [some (.ref q0), none, none, none, none, none, none, none]) (st' := [.int (0 : Int32), .ref (q0 + 34)]) rfl ?_
  obtain ⟨v_3055, e_3055, e⟩ := Option.bind_eq_some_iff.mp e
  obtain ⟨z_3055, g_3055, p_3055⟩ := rp_aJ R_3053 (T12_47 t0) (T12_47l t0) L32_0 e_3055
  refine Rn.hp hT rfl rfl (aJ_hp g_3055) ?_
  obtain rfl := Option.some.inj e
  exact Rn.ret hT rfl rfl rfl (hq z_3055 h_3053 p_3055 R_3053)
set_option maxRecDepth 10000 in
theorem hX12_areNeighbours : iv_Tb 247 tX12_areNeighbours := iv_tb_of (m := mX12_areNeighbours) rfl
set_option maxRecDepth 10000 in
theorem gX12_areNeighbours : PG.2 247 = some mX12_areNeighbours := iv_pi_of (t := tX12_areNeighbours) rfl (by decide)
def FX12_areNeighbours_b31 (N : Nat) (s : iv_M) (q0 : Nat) (x1 : Int) (x2 : Int) (x4 : Int) (xs0 : Int) (kb : Int → Int → Option (Int)) (kx : Int → Option (Int)) : Option (Int) := (kb xs0 (w32 (x4 + 1)))
set_option maxRecDepth 10000 in
set_option maxHeartbeats 4000000 in
theorem RX12_areNeighbours_b31 {d N nc Ls : Nat} {Xs : Nat → Int32} (hd : 4 ≤ d) {h : iv_H} {s : iv_M} (hR : Rep nc Ls Xs h s) {q0 : Nat} (t0 : T12 nc q0) {m1 : Int32} {x1 : Int} (p1 : m1.toInt = x1) {m2 : Int32} {x2 : Int} (p2 : m2.toInt = x2) {m4 : Int32} {x4 : Int} (p4 : m4.toInt = x4) {ms0 : Int32} {xs0 : Int} (ps0 : ms0.toInt = xs0) {kb : Int → Int → Option (Int)} {kx : Int → Option (Int)} {r : Int} {Q : Option Value → iv_H → Prop} (hb : ∀ (mw3 : Int32) (xw3 : Int) (pw3 : mw3.toInt = xw3) (mw4 : Int32) (xw4 : Int) (pw4 : mw4.toInt = xw4), kb xw3 xw4 = some r → Rn d 247 (some .boolean) 5 [some (.ref q0), some (.int m1), some (.int m2), some (.int mw3), some (.int mw4)] [] h Q) (hk : ∀ (mw3 : Int32) (xw3 : Int) (pw3 : mw3.toInt = xw3), kx xw3 = some r → Rn d 247 (some .boolean) 38 [none, none, none, some (.int mw3), none] [] h Q) (hq : ∀ (z : Int32), z.toInt = r → Q (some (.int z)) h) (e : FX12_areNeighbours_b31 N s q0 x1 x2 x4 xs0 kb kx = some r) : Rn d 247 (some .boolean) 31 [some (.ref q0), some (.int m1), some (.int m2), none, some (.int m4)] [.int ms0] h Q := by
  have hT := hX12_areNeighbours
  unfold FX12_areNeighbours_b31 at e
  refine Rn.n hT 3 (pc' := 5) (L' := [some (.ref q0), some (.int m1), some (.int m2), some (.int ms0), some (.int (m4 + (1 : Int32)))]) (st' := []) rfl ?_
  exact Rn.weak (ll_s (ll_s (ll_s (ll_s (ll_s ll_e))))) (hb ms0 xs0 ps0 (m4 + (1 : Int32)) (w32 (x4 + 1)) (ti_add p4 L32_1) e)
def FX12_areNeighbours_b26 (N : Nat) (s : iv_M) (q0 : Nat) (x1 : Int) (x2 : Int) (x4 : Int)  (kb : Int → Int → Option (Int)) (kx : Int → Option (Int)) : Option (Int) := (FX12_areNeighbours_b31 N s q0 x1 x2 x4 1 kb kx)
set_option maxRecDepth 10000 in
set_option maxHeartbeats 4000000 in
theorem RX12_areNeighbours_b26 {d N nc Ls : Nat} {Xs : Nat → Int32} (hd : 4 ≤ d) {h : iv_H} {s : iv_M} (hR : Rep nc Ls Xs h s) {q0 : Nat} (t0 : T12 nc q0) {m1 : Int32} {x1 : Int} (p1 : m1.toInt = x1) {m2 : Int32} {x2 : Int} (p2 : m2.toInt = x2) {m4 : Int32} {x4 : Int} (p4 : m4.toInt = x4)  {kb : Int → Int → Option (Int)} {kx : Int → Option (Int)} {r : Int} {Q : Option Value → iv_H → Prop} (hb : ∀ (mw3 : Int32) (xw3 : Int) (pw3 : mw3.toInt = xw3) (mw4 : Int32) (xw4 : Int) (pw4 : mw4.toInt = xw4), kb xw3 xw4 = some r → Rn d 247 (some .boolean) 5 [some (.ref q0), some (.int m1), some (.int m2), some (.int mw3), some (.int mw4)] [] h Q) (hk : ∀ (mw3 : Int32) (xw3 : Int) (pw3 : mw3.toInt = xw3), kx xw3 = some r → Rn d 247 (some .boolean) 38 [none, none, none, some (.int mw3), none] [] h Q) (hq : ∀ (z : Int32), z.toInt = r → Q (some (.int z)) h) (e : FX12_areNeighbours_b26 N s q0 x1 x2 x4  kb kx = some r) : Rn d 247 (some .boolean) 26 [some (.ref q0), some (.int m1), some (.int m2), none, some (.int m4)] [] h Q := by
  have hT := hX12_areNeighbours
  unfold FX12_areNeighbours_b26 at e
  refine Rn.n hT 2 (pc' := 31) (L' := [some (.ref q0), some (.int m1), some (.int m2), none, some (.int m4)]) (st' := [.int (1 : Int32)]) rfl ?_
  exact Rn.weak (ll_s (ll_s (ll_s (ll_n (ll_s ll_e))))) (RX12_areNeighbours_b31 hd hR t0 p1 p2 p4 L32_1 hb hk hq e)
def FX12_areNeighbours_l5 (N : Nat) (s : iv_M) (q0 : Nat) (x1 : Int) (x2 : Int) (kx : Int → Option (Int)) : Nat → Int → Int → Option (Int)
  | 0, _, _ => none
  | n + 1, x3, x4 => (if 4 ≤ x4 then (kx x3) else (if x3 = 0 then ((FX12_faced N s q0 x1 x4).bind fun v_3078 => (if v_3078 = x2 then (FX12_areNeighbours_b26 N s q0 x1 x2 x4 (FX12_areNeighbours_l5 N s q0 x1 x2 kx n) kx) else (FX12_areNeighbours_b31 N s q0 x1 x2 x4 0 (FX12_areNeighbours_l5 N s q0 x1 x2 kx n) kx))) else (FX12_areNeighbours_b26 N s q0 x1 x2 x4 (FX12_areNeighbours_l5 N s q0 x1 x2 kx n) kx)))
set_option maxRecDepth 10000 in
set_option maxHeartbeats 4000000 in
theorem RX12_areNeighbours_l5 {d N nc Ls : Nat} {Xs : Nat → Int32} (hd : 4 ≤ d) {h : iv_H} {s : iv_M} (hR : Rep nc Ls Xs h s) {q0 : Nat} (t0 : T12 nc q0) {m1 : Int32} {x1 : Int} (p1 : m1.toInt = x1) {m2 : Int32} {x2 : Int} (p2 : m2.toInt = x2) {kx : Int → Option (Int)} {r : Int} {Q : Option Value → iv_H → Prop} (hk : ∀ (m3 : Int32) (x3 : Int) (p3 : m3.toInt = x3), kx x3 = some r → Rn d 247 (some .boolean) 38 [none, none, none, some (.int m3), none] [] h Q) (hq : ∀ (z : Int32), z.toInt = r → Q (some (.int z)) h) : ∀ (n : Nat) (m3 : Int32) (x3 : Int) (p3 : m3.toInt = x3) (m4 : Int32) (x4 : Int) (p4 : m4.toInt = x4), FX12_areNeighbours_l5 N s q0 x1 x2 kx n x3 x4 = some r → Rn d 247 (some .boolean) 5 [some (.ref q0), some (.int m1), some (.int m2), some (.int m3), some (.int m4)] [] h Q := by
  have hT := hX12_areNeighbours
  intro n
  induction n with
  | zero =>
    intro m3 x3 p3 m4 x4 p4 e
    rw [FX12_areNeighbours_l5] at e
    cases e
  | succ n ih =>
    intro m3 x3 p3 m4 x4 p4 e
    rw [FX12_areNeighbours_l5] at e
    refine Rn.n hT 2 (pc' := 8) (L' := [some (.ref q0), some (.int m1), some (.int m2), some (.int m3), some (.int m4)]) (st' := [.int (4 : Int32), .int m4]) rfl ?_
    by_cases c_3076 : 4 ≤ x4
    · rw [if_pos c_3076] at e
      refine Rn.bt hT rfl rfl rfl (decide_eq_true ((ti_le L32_4 p4).mpr c_3076)) ?_
      exact Rn.weak (ll_n (ll_n (ll_n (ll_s (ll_n ll_e))))) (hk m3 x3 p3 e)
    · rw [if_neg c_3076] at e
      refine Rn.bf hT rfl rfl rfl (decide_eq_false (fun z => c_3076 ((ti_le L32_4 p4).mp z))) ?_
      refine Rn.n hT 1 (pc' := 12) (L' := [some (.ref q0), some (.int m1), some (.int m2), some (.int m3), some (.int m4)]) (st' := [.int m3]) rfl ?_
      by_cases c_3077 : x3 = 0
      · rw [if_pos c_3077] at e
        refine Rn.bf hT rfl rfl rfl (decide_eq_false (fun z => z ((ti_e p3 L32_0).mpr c_3077))) ?_
        refine Rn.n hT 3 (pc' := 19) (L' := [some (.ref q0), some (.int m1), some (.int m2), some (.int m3), some (.int m4)]) (st' := [.int m4, .int m1, .ref q0]) rfl ?_
        obtain ⟨v_3078, e_3078, e⟩ := Option.bind_eq_some_iff.mp e
        refine Rn.call hT rfl rfl rfl (Nat.le_of_ble_eq_true rfl) (rcv_v gX12_faced (by omega) (rp_ck hR (T12_o t0))) (RX12_faced (by omega) hR t0 p1 p4 e_3078 (fun z_3078 p_3078 => ?_))
        show Rn d _ _ 22 [some (.ref q0), some (.int m1), some (.int m2), some (.int m3), some (.int m4)] [.int z_3078] h Q
        refine Rn.n hT 1 (pc' := 23) (L' := [some (.ref q0), some (.int m1), some (.int m2), some (.int m3), some (.int m4)]) (st' := [.int m2, .int z_3078]) rfl ?_
        by_cases c_3079 : v_3078 = x2
        · rw [if_pos c_3079] at e
          refine Rn.bf hT rfl rfl rfl (decide_eq_false (fun z => z ((ti_e p_3078 p2).mpr c_3079))) ?_
          exact Rn.weak (ll_s (ll_s (ll_s (ll_n (ll_s ll_e))))) (RX12_areNeighbours_b26 hd hR t0 p1 p2 p4 ih hk hq e)
        · rw [if_neg c_3079] at e
          refine Rn.bt hT rfl rfl rfl (decide_eq_true (fun z => c_3079 ((ti_e p_3078 p2).mp z))) ?_
          refine Rn.n hT 1 (pc' := 31) (L' := [some (.ref q0), some (.int m1), some (.int m2), some (.int m3), some (.int m4)]) (st' := [.int (0 : Int32)]) rfl ?_
          exact Rn.weak (ll_s (ll_s (ll_s (ll_n (ll_s ll_e))))) (RX12_areNeighbours_b31 hd hR t0 p1 p2 p4 L32_0 ih hk hq e)
      · rw [if_neg c_3077] at e
        refine Rn.bt hT rfl rfl rfl (decide_eq_true (fun z => c_3077 ((ti_e p3 L32_0).mp z))) ?_
        exact Rn.weak (ll_s (ll_s (ll_s (ll_n (ll_s ll_e))))) (RX12_areNeighbours_b26 hd hR t0 p1 p2 p4 ih hk hq e)
def FX12_areNeighbours (N : Nat) (s : iv_M) (q0 : Nat) (x1 : Int) (x2 : Int) : Option (Int) := (FX12_areNeighbours_l5 N s q0 x1 x2 (fun (x3074_3 : Int) => (if x3074_3 = 0 ∨ x3074_3 = 1 then some x3074_3 else none)) N 0 0)
set_option maxRecDepth 10000 in
set_option maxHeartbeats 4000000 in
theorem RX12_areNeighbours {d N nc Ls : Nat} {Xs : Nat → Int32} (hd : 5 ≤ d) {h : iv_H} {s : iv_M} (hR : Rep nc Ls Xs h s) {q0 : Nat} (t0 : T12 nc q0) {m1 : Int32} {x1 : Int} (p1 : m1.toInt = x1) {m2 : Int32} {x2 : Int} (p2 : m2.toInt = x2) {r : Int} {Q : Option Value → iv_H → Prop} (e : FX12_areNeighbours N s q0 x1 x2 = some r) (hq : ∀ (z : Int32), z.toInt = r → Q (some (.int z)) h) : Cl d 247 [.ref q0, .int m1, .int m2] h Q := by
  obtain ⟨d, rfl⟩ : ∃ k, d = k + 1 := ⟨d - 1, by omega⟩
  have hd : 4 ≤ d := by omega
  have hT := hX12_areNeighbours
  unfold FX12_areNeighbours at e
  refine Cl.into (by decide) gX12_areNeighbours rfl ?_
  show Rn d 247 (some .boolean) 0 [some (.ref q0), some (.int m1), some (.int m2), none, none] [] h Q
  refine Rn.n hT 4 (pc' := 5) (L' := [some (.ref q0), some (.int m1), some (.int m2), some (.int (0 : Int32)), some (.int (0 : Int32))]) (st' := []) rfl ?_
  refine Rn.weak (ll_s (ll_s (ll_s (ll_s (ll_s ll_e))))) (RX12_areNeighbours_l5 hd hR t0 p1 p2 (fun m3074_3 x3074_3 p3074_3 e => ?_) hq N (0 : Int32) 0 L32_0 (0 : Int32) 0 L32_0 e)
  try dsimp only at e
  refine Rn.n hT 1 (pc' := 39) (L' := [none, none, none, some (.int m3074_3), none]) (st' := [.int m3074_3]) rfl ?_
  by_cases c_3075 : x3074_3 = 0 ∨ x3074_3 = 1
  · rw [if_pos c_3075] at e
    obtain rfl := Option.some.inj e
    exact Rn.ret hT rfl rfl (if_pos (ti_b p3074_3 c_3075)) (hq m3074_3 p3074_3)
  · rw [if_neg c_3075] at e
    cases e
set_option maxRecDepth 10000 in
theorem hX12_goesTo : iv_Tb 248 tX12_goesTo := iv_tb_of (m := mX12_goesTo) rfl
set_option maxRecDepth 10000 in
theorem gX12_goesTo : PG.2 248 = some mX12_goesTo := iv_pi_of (t := tX12_goesTo) rfl (by decide)
def FX12_goesTo (N : Nat) (s : iv_M) (q0 : Nat) (x1 : Int) (x2 : Int) : Option (iv_M) := ((rd s (q0 + 3) 12 x1).bind fun v_3080 => ((wr s (q0 + 8) 16 v_3080 (-1)).bind fun s_3081 => ((wr s_3081 (q0 + 3) 12 x1 x2).bind fun s_3083 => ((wr s_3083 (q0 + 8) 16 x2 x1).bind fun s_3085 => some s_3085))))
set_option maxRecDepth 10000 in
set_option maxHeartbeats 4000000 in
theorem RX12_goesTo {d N nc Ls : Nat} {Xs : Nat → Int32} (hd : 1 ≤ d) {h : iv_H} {s : iv_M} (hR : Rep nc Ls Xs h s) {q0 : Nat} (t0 : T12 nc q0) {m1 : Int32} {x1 : Int} (p1 : m1.toInt = x1) {m2 : Int32} {x2 : Int} (p2 : m2.toInt = x2) {r : iv_M} {Q : Option Value → iv_H → Prop} (e : FX12_goesTo N s q0 x1 x2 = some r) (hq : ∀ h1, Rep nc Ls Xs h1 r → Q none h1) : Cl d 248 [.ref q0, .int m1, .int m2] h Q := by
  obtain ⟨d, rfl⟩ : ∃ k, d = k + 1 := ⟨d - 1, by omega⟩
  have hd : 0 ≤ d := by omega
  have hT := hX12_goesTo
  unfold FX12_goesTo at e
  refine Cl.into (by decide) gX12_goesTo rfl ?_
  show Rn d 248 none 0 [some (.ref q0), some (.int m1), some (.int m2)] [] h Q
  refine Rn.n hT 1 (pc' := 1) (L' := [some (.ref q0), some (.int m1), some (.int m2)]) (st' := [.ref q0]) rfl ?_
  refine Rn.hp hT rfl rfl (gR_hp (rp_gR hR (T12_o t0) rfl)) ?_
  refine Rn.n hT 1 (pc' := 5) (L' := [some (.ref q0), some (.int m1), some (.int m2)]) (st' := [.ref q0, .ref (q0 + 8)]) rfl ?_
  refine Rn.hp hT rfl rfl (gR_hp (rp_gR hR (T12_o t0) rfl)) ?_
  refine Rn.n hT 1 (pc' := 9) (L' := [some (.ref q0), some (.int m1), some (.int m2)]) (st' := [.int m1, .ref (q0 + 3), .ref (q0 + 8)]) rfl ?_
  obtain ⟨v_3080, e_3080, e⟩ := Option.bind_eq_some_iff.mp e
  obtain ⟨z_3080, g_3080, p_3080⟩ := rp_aI hR (T12_3 t0) (T12_3l t0) p1 e_3080
  refine Rn.hp hT rfl rfl (aI_hp g_3080) ?_
  refine Rn.n hT 1 (pc' := 11) (L' := [some (.ref q0), some (.int m1), some (.int m2)]) (st' := [.int (-1 : Int32), .int z_3080, .ref (q0 + 8)]) rfl ?_
  obtain ⟨s_3081, e_3082, e⟩ := Option.bind_eq_some_iff.mp e
  obtain ⟨h_3081, g_3082, R_3081⟩ := rp_wI hR (T12_8 t0) (T12_8l t0) p_3080 L32_m1 e_3082
  refine Rn.hp hT rfl rfl (wI_hp g_3082) ?_
  refine Rn.n hT 1 (pc' := 13) (L' := [some (.ref q0), some (.int m1), some (.int m2)]) (st' := [.ref q0]) rfl ?_
  refine Rn.hp hT rfl rfl (gR_hp (rp_gR R_3081 (T12_o t0) rfl)) ?_
  refine Rn.n hT 2 (pc' := 18) (L' := [some (.ref q0), some (.int m1), some (.int m2)]) (st' := [.int m2, .int m1, .ref (q0 + 3)]) rfl ?_
  obtain ⟨s_3083, e_3084, e⟩ := Option.bind_eq_some_iff.mp e
  obtain ⟨h_3083, g_3084, R_3083⟩ := rp_wI R_3081 (T12_3 t0) (T12_3l t0) p1 p2 e_3084
  refine Rn.hp hT rfl rfl (wI_hp g_3084) ?_
  refine Rn.n hT 1 (pc' := 20) (L' := [some (.ref q0), some (.int m1), some (.int m2)]) (st' := [.ref q0]) rfl ?_
  refine Rn.hp hT rfl rfl (gR_hp (rp_gR R_3083 (T12_o t0) rfl)) ?_
  refine Rn.n hT 2 (pc' := 25) (L' := [some (.ref q0), some (.int m1), some (.int m2)]) (st' := [.int m1, .int m2, .ref (q0 + 8)]) rfl ?_
  obtain ⟨s_3085, e_3086, e⟩ := Option.bind_eq_some_iff.mp e
  obtain ⟨h_3085, g_3086, R_3085⟩ := rp_wI R_3083 (T12_8 t0) (T12_8l t0) p2 p1 e_3086
  refine Rn.hp hT rfl rfl (wI_hp g_3086) ?_
  obtain rfl := Option.some.inj e
  exact Rn.ret hT rfl rfl rfl (hq h_3085 R_3085)
set_option maxRecDepth 10000 in
theorem hX12_swaps : iv_Tb 249 tX12_swaps := iv_tb_of (m := mX12_swaps) rfl
set_option maxRecDepth 10000 in
theorem gX12_swaps : PG.2 249 = some mX12_swaps := iv_pi_of (t := tX12_swaps) rfl (by decide)
def FX12_swaps (N : Nat) (s : iv_M) (q0 : Nat) (x1 : Int) (x2 : Int) : Option (iv_M) := ((rd s (q0 + 3) 12 x1).bind fun v_3087 => ((rd s (q0 + 3) 12 x2).bind fun v_3088 => ((wr s (q0 + 3) 12 x1 v_3088).bind fun s_3089 => ((wr s_3089 (q0 + 3) 12 x2 v_3087).bind fun s_3091 => ((rd s_3091 (q0 + 3) 12 x1).bind fun v_3093 => ((wr s_3091 (q0 + 8) 16 v_3093 x1).bind fun s_3094 => ((rd s_3094 (q0 + 3) 12 x2).bind fun v_3096 => ((wr s_3094 (q0 + 8) 16 v_3096 x2).bind fun s_3097 => some s_3097))))))))
set_option maxRecDepth 10000 in
set_option maxHeartbeats 4000000 in
theorem RX12_swaps {d N nc Ls : Nat} {Xs : Nat → Int32} (hd : 1 ≤ d) {h : iv_H} {s : iv_M} (hR : Rep nc Ls Xs h s) {q0 : Nat} (t0 : T12 nc q0) {m1 : Int32} {x1 : Int} (p1 : m1.toInt = x1) {m2 : Int32} {x2 : Int} (p2 : m2.toInt = x2) {r : iv_M} {Q : Option Value → iv_H → Prop} (e : FX12_swaps N s q0 x1 x2 = some r) (hq : ∀ h1, Rep nc Ls Xs h1 r → Q none h1) : Cl d 249 [.ref q0, .int m1, .int m2] h Q := by
  obtain ⟨d, rfl⟩ : ∃ k, d = k + 1 := ⟨d - 1, by omega⟩
  have hd : 0 ≤ d := by omega
  have hT := hX12_swaps
  unfold FX12_swaps at e
  refine Cl.into (by decide) gX12_swaps rfl ?_
  show Rn d 249 none 0 [some (.ref q0), some (.int m1), some (.int m2), none] [] h Q
  refine Rn.n hT 1 (pc' := 1) (L' := [some (.ref q0), some (.int m1), some (.int m2), none]) (st' := [.ref q0]) rfl ?_
  refine Rn.hp hT rfl rfl (gR_hp (rp_gR hR (T12_o t0) rfl)) ?_
  refine Rn.n hT 1 (pc' := 5) (L' := [some (.ref q0), some (.int m1), some (.int m2), none]) (st' := [.int m1, .ref (q0 + 3)]) rfl ?_
  obtain ⟨v_3087, e_3087, e⟩ := Option.bind_eq_some_iff.mp e
  obtain ⟨z_3087, g_3087, p_3087⟩ := rp_aI hR (T12_3 t0) (T12_3l t0) p1 e_3087
  refine Rn.hp hT rfl rfl (aI_hp g_3087) ?_
  refine Rn.n hT 2 (pc' := 8) (L' := [some (.ref q0), some (.int m1), some (.int m2), some (.int z_3087)]) (st' := [.ref q0]) rfl ?_
  refine Rn.hp hT rfl rfl (gR_hp (rp_gR hR (T12_o t0) rfl)) ?_
  refine Rn.n hT 2 (pc' := 13) (L' := [some (.ref q0), some (.int m1), some (.int m2), some (.int z_3087)]) (st' := [.ref q0, .int m1, .ref (q0 + 3)]) rfl ?_
  refine Rn.hp hT rfl rfl (gR_hp (rp_gR hR (T12_o t0) rfl)) ?_
  refine Rn.n hT 1 (pc' := 17) (L' := [some (.ref q0), some (.int m1), some (.int m2), some (.int z_3087)]) (st' := [.int m2, .ref (q0 + 3), .int m1, .ref (q0 + 3)]) rfl ?_
  obtain ⟨v_3088, e_3088, e⟩ := Option.bind_eq_some_iff.mp e
  obtain ⟨z_3088, g_3088, p_3088⟩ := rp_aI hR (T12_3 t0) (T12_3l t0) p2 e_3088
  refine Rn.hp hT rfl rfl (aI_hp g_3088) ?_
  obtain ⟨s_3089, e_3090, e⟩ := Option.bind_eq_some_iff.mp e
  obtain ⟨h_3089, g_3090, R_3089⟩ := rp_wI hR (T12_3 t0) (T12_3l t0) p1 p_3088 e_3090
  refine Rn.hp hT rfl rfl (wI_hp g_3090) ?_
  refine Rn.n hT 1 (pc' := 20) (L' := [some (.ref q0), some (.int m1), some (.int m2), some (.int z_3087)]) (st' := [.ref q0]) rfl ?_
  refine Rn.hp hT rfl rfl (gR_hp (rp_gR R_3089 (T12_o t0) rfl)) ?_
  refine Rn.n hT 2 (pc' := 25) (L' := [some (.ref q0), some (.int m1), some (.int m2), some (.int z_3087)]) (st' := [.int z_3087, .int m2, .ref (q0 + 3)]) rfl ?_
  obtain ⟨s_3091, e_3092, e⟩ := Option.bind_eq_some_iff.mp e
  obtain ⟨h_3091, g_3092, R_3091⟩ := rp_wI R_3089 (T12_3 t0) (T12_3l t0) p2 p_3087 e_3092
  refine Rn.hp hT rfl rfl (wI_hp g_3092) ?_
  refine Rn.n hT 1 (pc' := 27) (L' := [some (.ref q0), some (.int m1), some (.int m2), some (.int z_3087)]) (st' := [.ref q0]) rfl ?_
  refine Rn.hp hT rfl rfl (gR_hp (rp_gR R_3091 (T12_o t0) rfl)) ?_
  refine Rn.n hT 1 (pc' := 31) (L' := [some (.ref q0), some (.int m1), some (.int m2), some (.int z_3087)]) (st' := [.ref q0, .ref (q0 + 8)]) rfl ?_
  refine Rn.hp hT rfl rfl (gR_hp (rp_gR R_3091 (T12_o t0) rfl)) ?_
  refine Rn.n hT 1 (pc' := 35) (L' := [some (.ref q0), some (.int m1), some (.int m2), some (.int z_3087)]) (st' := [.int m1, .ref (q0 + 3), .ref (q0 + 8)]) rfl ?_
  obtain ⟨v_3093, e_3093, e⟩ := Option.bind_eq_some_iff.mp e
  obtain ⟨z_3093, g_3093, p_3093⟩ := rp_aI R_3091 (T12_3 t0) (T12_3l t0) p1 e_3093
  refine Rn.hp hT rfl rfl (aI_hp g_3093) ?_
  refine Rn.n hT 1 (pc' := 37) (L' := [some (.ref q0), some (.int m1), some (.int m2), some (.int z_3087)]) (st' := [.int m1, .int z_3093, .ref (q0 + 8)]) rfl ?_
  obtain ⟨s_3094, e_3095, e⟩ := Option.bind_eq_some_iff.mp e
  obtain ⟨h_3094, g_3095, R_3094⟩ := rp_wI R_3091 (T12_8 t0) (T12_8l t0) p_3093 p1 e_3095
  refine Rn.hp hT rfl rfl (wI_hp g_3095) ?_
  refine Rn.n hT 1 (pc' := 39) (L' := [some (.ref q0), some (.int m1), some (.int m2), some (.int z_3087)]) (st' := [.ref q0]) rfl ?_
  refine Rn.hp hT rfl rfl (gR_hp (rp_gR R_3094 (T12_o t0) rfl)) ?_
  refine Rn.n hT 1 (pc' := 43) (L' := [some (.ref q0), some (.int m1), some (.int m2), some (.int z_3087)]) (st' := [.ref q0, .ref (q0 + 8)]) rfl ?_
  refine Rn.hp hT rfl rfl (gR_hp (rp_gR R_3094 (T12_o t0) rfl)) ?_
  refine Rn.n hT 1 (pc' := 47) (L' := [some (.ref q0), some (.int m1), some (.int m2), some (.int z_3087)]) (st' := [.int m2, .ref (q0 + 3), .ref (q0 + 8)]) rfl ?_
  obtain ⟨v_3096, e_3096, e⟩ := Option.bind_eq_some_iff.mp e
  obtain ⟨z_3096, g_3096, p_3096⟩ := rp_aI R_3094 (T12_3 t0) (T12_3l t0) p2 e_3096
  refine Rn.hp hT rfl rfl (aI_hp g_3096) ?_
  refine Rn.n hT 1 (pc' := 49) (L' := [some (.ref q0), some (.int m1), some (.int m2), some (.int z_3087)]) (st' := [.int m2, .int z_3096, .ref (q0 + 8)]) rfl ?_
  obtain ⟨s_3097, e_3098, e⟩ := Option.bind_eq_some_iff.mp e
  obtain ⟨h_3097, g_3098, R_3097⟩ := rp_wI R_3094 (T12_8 t0) (T12_8l t0) p_3096 p2 e_3098
  refine Rn.hp hT rfl rfl (wI_hp g_3098) ?_
  obtain rfl := Option.some.inj e
  exact Rn.ret hT rfl rfl rfl (hq h_3097 R_3097)
set_option maxRecDepth 10000 in
theorem hX12_walks : iv_Tb 250 tX12_walks := iv_tb_of (m := mX12_walks) rfl
set_option maxRecDepth 10000 in
theorem gX12_walks : PG.2 250 = some mX12_walks := iv_pi_of (t := tX12_walks) rfl (by decide)
def FX12_walks_b72 (N : Nat) (s : iv_M)   : Option (iv_M) := some s
set_option maxRecDepth 10000 in
set_option maxHeartbeats 4000000 in
theorem RX12_walks_b72 {d N nc Ls : Nat} {Xs : Nat → Int32} (hd : 3 ≤ d) {h : iv_H} {s : iv_M} (hR : Rep nc Ls Xs h s)   {r : iv_M} {Q : Option Value → iv_H → Prop} (hq : ∀ h1, Rep nc Ls Xs h1 r → Q none h1) (e : FX12_walks_b72 N s   = some r) : Rn d 250 none 72 [none, none, none, none] [] h Q := by
  have hT := hX12_walks
  unfold FX12_walks_b72 at e
  obtain rfl := Option.some.inj e
  exact Rn.ret hT rfl rfl rfl (hq h hR)
def FX12_walks (N : Nat) (s : iv_M) (q0 : Nat) (x1 : Int) (x2 : Int) (x3 : Int) : Option (iv_M) := (if x1 = 1 then ((rd s (q0 + 3) 12 x2).bind fun v_3100 => ((FX12_by N s q0 v_3100 x3).bind fun v_3101 => ((FX12_goesTo N s q0 x2 v_3101).bind fun s_3103 => (FX12_walks_b72 N s_3103)))) else (if x1 = 2 then ((FX12_swaps N s q0 x2 x3).bind fun s_3106 => (FX12_walks_b72 N s_3106)) else ((rd s (q0 + 4) 12 x2).bind fun v_3107 => ((wr s (q0 + 4) 12 x2 (bAn (w32 (v_3107 + 1)) 3)).bind fun s_3108 => (FX12_walks_b72 N s_3108)))))
set_option maxRecDepth 10000 in
set_option maxHeartbeats 4000000 in
theorem RX12_walks {d N nc Ls : Nat} {Xs : Nat → Int32} (hd : 4 ≤ d) {h : iv_H} {s : iv_M} (hR : Rep nc Ls Xs h s) {q0 : Nat} (t0 : T12 nc q0) {m1 : Int32} {x1 : Int} (p1 : m1.toInt = x1) {m2 : Int32} {x2 : Int} (p2 : m2.toInt = x2) {m3 : Int32} {x3 : Int} (p3 : m3.toInt = x3) {r : iv_M} {Q : Option Value → iv_H → Prop} (e : FX12_walks N s q0 x1 x2 x3 = some r) (hq : ∀ h1, Rep nc Ls Xs h1 r → Q none h1) : Cl d 250 [.ref q0, .int m1, .int m2, .int m3] h Q := by
  obtain ⟨d, rfl⟩ : ∃ k, d = k + 1 := ⟨d - 1, by omega⟩
  have hd : 3 ≤ d := by omega
  have hT := hX12_walks
  unfold FX12_walks at e
  refine Cl.into (by decide) gX12_walks rfl ?_
  show Rn d 250 none 0 [some (.ref q0), some (.int m1), some (.int m2), some (.int m3)] [] h Q
  refine Rn.n hT 1 (pc' := 1) (L' := [some (.ref q0), some (.int m1), some (.int m2), some (.int m3)]) (st' := [.int m1]) rfl ?_
  by_cases c_3099 : x1 = 1
  · rw [if_pos c_3099] at e
    refine Rn.sw2 hT rfl rfl rfl (if_pos ((ti_e p1 L32_1).mpr c_3099)) ?_
    refine Rn.n hT 4 (pc' := 32) (L' := [some (.ref q0), some (.int m1), some (.int m2), some (.int m3)]) (st' := [.ref q0, .ref q0, .int m2, .ref q0]) rfl ?_
    refine Rn.hp hT rfl rfl (gR_hp (rp_gR hR (T12_o t0) rfl)) ?_
    refine Rn.n hT 1 (pc' := 36) (L' := [some (.ref q0), some (.int m1), some (.int m2), some (.int m3)]) (st' := [.int m2, .ref (q0 + 3), .ref q0, .int m2, .ref q0]) rfl ?_
    obtain ⟨v_3100, e_3100, e⟩ := Option.bind_eq_some_iff.mp e
    obtain ⟨z_3100, g_3100, p_3100⟩ := rp_aI hR (T12_3 t0) (T12_3l t0) p2 e_3100
    refine Rn.hp hT rfl rfl (aI_hp g_3100) ?_
    refine Rn.n hT 1 (pc' := 38) (L' := [some (.ref q0), some (.int m1), some (.int m2), some (.int m3)]) (st' := [.int m3, .int z_3100, .ref q0, .int m2, .ref q0]) rfl ?_
    obtain ⟨v_3101, e_3101, e⟩ := Option.bind_eq_some_iff.mp e
    refine Rn.call hT rfl rfl rfl (Nat.le_of_ble_eq_true rfl) (rcv_v gX12_by (by omega) (rp_ck hR (T12_o t0))) (RX12_by (by omega) hR t0 p_3100 p3 e_3101 (fun z_3101 p_3101 => ?_))
    show Rn d _ _ 41 [some (.ref q0), some (.int m1), some (.int m2), some (.int m3)] [.int z_3101, .int m2, .ref q0] h Q
    obtain ⟨s_3103, e_3102, e⟩ := Option.bind_eq_some_iff.mp e
    refine Rn.call hT rfl rfl rfl (Nat.le_of_ble_eq_true rfl) (rcv_v gX12_goesTo (by omega) (rp_ck hR (T12_o t0))) (RX12_goesTo (by omega) hR t0 p2 p_3101 e_3102 (fun h_3103 R_3103 => ?_))
    show Rn d _ _ 44 [some (.ref q0), some (.int m1), some (.int m2), some (.int m3)] [] h_3103 Q
    refine Rn.n hT 1 (pc' := 72) (L' := [some (.ref q0), some (.int m1), some (.int m2), some (.int m3)]) (st' := []) rfl ?_
    exact Rn.weak (ll_n (ll_n (ll_n (ll_n ll_e)))) (RX12_walks_b72 hd R_3103 hq e)
  · rw [if_neg c_3099] at e
    by_cases c_3104 : x1 = 2
    · rw [if_pos c_3104] at e
      refine Rn.sw2 hT rfl rfl rfl ((if_neg (fun z => c_3099 ((ti_e p1 L32_1).mp z))).trans (if_pos ((ti_e p1 L32_2).mpr c_3104))) ?_
      refine Rn.n hT 3 (pc' := 50) (L' := [some (.ref q0), some (.int m1), some (.int m2), some (.int m3)]) (st' := [.int m3, .int m2, .ref q0]) rfl ?_
      obtain ⟨s_3106, e_3105, e⟩ := Option.bind_eq_some_iff.mp e
      refine Rn.call hT rfl rfl rfl (Nat.le_of_ble_eq_true rfl) (rcv_v gX12_swaps (by omega) (rp_ck hR (T12_o t0))) (RX12_swaps (by omega) hR t0 p2 p3 e_3105 (fun h_3106 R_3106 => ?_))
      show Rn d _ _ 53 [some (.ref q0), some (.int m1), some (.int m2), some (.int m3)] [] h_3106 Q
      refine Rn.n hT 1 (pc' := 72) (L' := [some (.ref q0), some (.int m1), some (.int m2), some (.int m3)]) (st' := []) rfl ?_
      exact Rn.weak (ll_n (ll_n (ll_n (ll_n ll_e)))) (RX12_walks_b72 hd R_3106 hq e)
    · rw [if_neg c_3104] at e
      refine Rn.sw2 hT rfl rfl rfl ((if_neg (fun z => c_3099 ((ti_e p1 L32_1).mp z))).trans ((if_neg (fun z => c_3104 ((ti_e p1 L32_2).mp z))).trans rfl)) ?_
      refine Rn.n hT 1 (pc' := 57) (L' := [some (.ref q0), some (.int m1), some (.int m2), some (.int m3)]) (st' := [.ref q0]) rfl ?_
      refine Rn.hp hT rfl rfl (gR_hp (rp_gR hR (T12_o t0) rfl)) ?_
      refine Rn.n hT 2 (pc' := 62) (L' := [some (.ref q0), some (.int m1), some (.int m2), some (.int m3)]) (st' := [.ref q0, .int m2, .ref (q0 + 4)]) rfl ?_
      refine Rn.hp hT rfl rfl (gR_hp (rp_gR hR (T12_o t0) rfl)) ?_
      refine Rn.n hT 1 (pc' := 66) (L' := [some (.ref q0), some (.int m1), some (.int m2), some (.int m3)]) (st' := [.int m2, .ref (q0 + 4), .int m2, .ref (q0 + 4)]) rfl ?_
      obtain ⟨v_3107, e_3107, e⟩ := Option.bind_eq_some_iff.mp e
      obtain ⟨z_3107, g_3107, p_3107⟩ := rp_aI hR (T12_4 t0) (T12_4l t0) p2 e_3107
      refine Rn.hp hT rfl rfl (aI_hp g_3107) ?_
      refine Rn.n hT 4 (pc' := 71) (L' := [some (.ref q0), some (.int m1), some (.int m2), some (.int m3)]) (st' := [.int ((z_3107 + (1 : Int32)) &&& (3 : Int32)), .int m2, .ref (q0 + 4)]) rfl ?_
      obtain ⟨s_3108, e_3109, e⟩ := Option.bind_eq_some_iff.mp e
      obtain ⟨h_3108, g_3109, R_3108⟩ := rp_wI hR (T12_4 t0) (T12_4l t0) p2 (ti_and (ti_add p_3107 L32_1) L32_3) e_3109
      refine Rn.hp hT rfl rfl (wI_hp g_3109) ?_
      exact Rn.weak (ll_n (ll_n (ll_n (ll_n ll_e)))) (RX12_walks_b72 hd R_3108 hq e)
set_option maxRecDepth 10000 in
theorem hX12_walksBack : iv_Tb 251 tX12_walksBack := iv_tb_of (m := mX12_walksBack) rfl
set_option maxRecDepth 10000 in
theorem gX12_walksBack : PG.2 251 = some mX12_walksBack := iv_pi_of (t := tX12_walksBack) rfl (by decide)
def FX12_walksBack_b76 (N : Nat) (s : iv_M)   : Option (iv_M) := some s
set_option maxRecDepth 10000 in
set_option maxHeartbeats 4000000 in
theorem RX12_walksBack_b76 {d N nc Ls : Nat} {Xs : Nat → Int32} (hd : 3 ≤ d) {h : iv_H} {s : iv_M} (hR : Rep nc Ls Xs h s)   {r : iv_M} {Q : Option Value → iv_H → Prop} (hq : ∀ h1, Rep nc Ls Xs h1 r → Q none h1) (e : FX12_walksBack_b76 N s   = some r) : Rn d 251 none 76 [none, none, none, none] [] h Q := by
  have hT := hX12_walksBack
  unfold FX12_walksBack_b76 at e
  obtain rfl := Option.some.inj e
  exact Rn.ret hT rfl rfl rfl (hq h hR)
def FX12_walksBack (N : Nat) (s : iv_M) (q0 : Nat) (x1 : Int) (x2 : Int) (x3 : Int) : Option (iv_M) := (if x1 = 1 then ((rd s (q0 + 3) 12 x2).bind fun v_3111 => ((FX12_by N s q0 v_3111 (bAn (w32 (x3 + 2)) 3)).bind fun v_3112 => ((FX12_goesTo N s q0 x2 v_3112).bind fun s_3114 => (FX12_walksBack_b76 N s_3114)))) else (if x1 = 2 then ((FX12_swaps N s q0 x2 x3).bind fun s_3117 => (FX12_walksBack_b76 N s_3117)) else ((rd s (q0 + 4) 12 x2).bind fun v_3118 => ((wr s (q0 + 4) 12 x2 (bAn (w32 (v_3118 + 3)) 3)).bind fun s_3119 => (FX12_walksBack_b76 N s_3119)))))
set_option maxRecDepth 10000 in
set_option maxHeartbeats 4000000 in
theorem RX12_walksBack {d N nc Ls : Nat} {Xs : Nat → Int32} (hd : 4 ≤ d) {h : iv_H} {s : iv_M} (hR : Rep nc Ls Xs h s) {q0 : Nat} (t0 : T12 nc q0) {m1 : Int32} {x1 : Int} (p1 : m1.toInt = x1) {m2 : Int32} {x2 : Int} (p2 : m2.toInt = x2) {m3 : Int32} {x3 : Int} (p3 : m3.toInt = x3) {r : iv_M} {Q : Option Value → iv_H → Prop} (e : FX12_walksBack N s q0 x1 x2 x3 = some r) (hq : ∀ h1, Rep nc Ls Xs h1 r → Q none h1) : Cl d 251 [.ref q0, .int m1, .int m2, .int m3] h Q := by
  obtain ⟨d, rfl⟩ : ∃ k, d = k + 1 := ⟨d - 1, by omega⟩
  have hd : 3 ≤ d := by omega
  have hT := hX12_walksBack
  unfold FX12_walksBack at e
  refine Cl.into (by decide) gX12_walksBack rfl ?_
  show Rn d 251 none 0 [some (.ref q0), some (.int m1), some (.int m2), some (.int m3)] [] h Q
  refine Rn.n hT 1 (pc' := 1) (L' := [some (.ref q0), some (.int m1), some (.int m2), some (.int m3)]) (st' := [.int m1]) rfl ?_
  by_cases c_3110 : x1 = 1
  · rw [if_pos c_3110] at e
    refine Rn.sw2 hT rfl rfl rfl (if_pos ((ti_e p1 L32_1).mpr c_3110)) ?_
    refine Rn.n hT 4 (pc' := 32) (L' := [some (.ref q0), some (.int m1), some (.int m2), some (.int m3)]) (st' := [.ref q0, .ref q0, .int m2, .ref q0]) rfl ?_
    refine Rn.hp hT rfl rfl (gR_hp (rp_gR hR (T12_o t0) rfl)) ?_
    refine Rn.n hT 1 (pc' := 36) (L' := [some (.ref q0), some (.int m1), some (.int m2), some (.int m3)]) (st' := [.int m2, .ref (q0 + 3), .ref q0, .int m2, .ref q0]) rfl ?_
    obtain ⟨v_3111, e_3111, e⟩ := Option.bind_eq_some_iff.mp e
    obtain ⟨z_3111, g_3111, p_3111⟩ := rp_aI hR (T12_3 t0) (T12_3l t0) p2 e_3111
    refine Rn.hp hT rfl rfl (aI_hp g_3111) ?_
    refine Rn.n hT 5 (pc' := 42) (L' := [some (.ref q0), some (.int m1), some (.int m2), some (.int m3)]) (st' := [.int ((m3 + (2 : Int32)) &&& (3 : Int32)), .int z_3111, .ref q0, .int m2, .ref q0]) rfl ?_
    obtain ⟨v_3112, e_3112, e⟩ := Option.bind_eq_some_iff.mp e
    refine Rn.call hT rfl rfl rfl (Nat.le_of_ble_eq_true rfl) (rcv_v gX12_by (by omega) (rp_ck hR (T12_o t0))) (RX12_by (by omega) hR t0 p_3111 (ti_and (ti_add p3 L32_2) L32_3) e_3112 (fun z_3112 p_3112 => ?_))
    show Rn d _ _ 45 [some (.ref q0), some (.int m1), some (.int m2), some (.int m3)] [.int z_3112, .int m2, .ref q0] h Q
    obtain ⟨s_3114, e_3113, e⟩ := Option.bind_eq_some_iff.mp e
    refine Rn.call hT rfl rfl rfl (Nat.le_of_ble_eq_true rfl) (rcv_v gX12_goesTo (by omega) (rp_ck hR (T12_o t0))) (RX12_goesTo (by omega) hR t0 p2 p_3112 e_3113 (fun h_3114 R_3114 => ?_))
    show Rn d _ _ 48 [some (.ref q0), some (.int m1), some (.int m2), some (.int m3)] [] h_3114 Q
    refine Rn.n hT 1 (pc' := 76) (L' := [some (.ref q0), some (.int m1), some (.int m2), some (.int m3)]) (st' := []) rfl ?_
    exact Rn.weak (ll_n (ll_n (ll_n (ll_n ll_e)))) (RX12_walksBack_b76 hd R_3114 hq e)
  · rw [if_neg c_3110] at e
    by_cases c_3115 : x1 = 2
    · rw [if_pos c_3115] at e
      refine Rn.sw2 hT rfl rfl rfl ((if_neg (fun z => c_3110 ((ti_e p1 L32_1).mp z))).trans (if_pos ((ti_e p1 L32_2).mpr c_3115))) ?_
      refine Rn.n hT 3 (pc' := 54) (L' := [some (.ref q0), some (.int m1), some (.int m2), some (.int m3)]) (st' := [.int m3, .int m2, .ref q0]) rfl ?_
      obtain ⟨s_3117, e_3116, e⟩ := Option.bind_eq_some_iff.mp e
      refine Rn.call hT rfl rfl rfl (Nat.le_of_ble_eq_true rfl) (rcv_v gX12_swaps (by omega) (rp_ck hR (T12_o t0))) (RX12_swaps (by omega) hR t0 p2 p3 e_3116 (fun h_3117 R_3117 => ?_))
      show Rn d _ _ 57 [some (.ref q0), some (.int m1), some (.int m2), some (.int m3)] [] h_3117 Q
      refine Rn.n hT 1 (pc' := 76) (L' := [some (.ref q0), some (.int m1), some (.int m2), some (.int m3)]) (st' := []) rfl ?_
      exact Rn.weak (ll_n (ll_n (ll_n (ll_n ll_e)))) (RX12_walksBack_b76 hd R_3117 hq e)
    · rw [if_neg c_3115] at e
      refine Rn.sw2 hT rfl rfl rfl ((if_neg (fun z => c_3110 ((ti_e p1 L32_1).mp z))).trans ((if_neg (fun z => c_3115 ((ti_e p1 L32_2).mp z))).trans rfl)) ?_
      refine Rn.n hT 1 (pc' := 61) (L' := [some (.ref q0), some (.int m1), some (.int m2), some (.int m3)]) (st' := [.ref q0]) rfl ?_
      refine Rn.hp hT rfl rfl (gR_hp (rp_gR hR (T12_o t0) rfl)) ?_
      refine Rn.n hT 2 (pc' := 66) (L' := [some (.ref q0), some (.int m1), some (.int m2), some (.int m3)]) (st' := [.ref q0, .int m2, .ref (q0 + 4)]) rfl ?_
      refine Rn.hp hT rfl rfl (gR_hp (rp_gR hR (T12_o t0) rfl)) ?_
      refine Rn.n hT 1 (pc' := 70) (L' := [some (.ref q0), some (.int m1), some (.int m2), some (.int m3)]) (st' := [.int m2, .ref (q0 + 4), .int m2, .ref (q0 + 4)]) rfl ?_
      obtain ⟨v_3118, e_3118, e⟩ := Option.bind_eq_some_iff.mp e
      obtain ⟨z_3118, g_3118, p_3118⟩ := rp_aI hR (T12_4 t0) (T12_4l t0) p2 e_3118
      refine Rn.hp hT rfl rfl (aI_hp g_3118) ?_
      refine Rn.n hT 4 (pc' := 75) (L' := [some (.ref q0), some (.int m1), some (.int m2), some (.int m3)]) (st' := [.int ((z_3118 + (3 : Int32)) &&& (3 : Int32)), .int m2, .ref (q0 + 4)]) rfl ?_
      obtain ⟨s_3119, e_3120, e⟩ := Option.bind_eq_some_iff.mp e
      obtain ⟨h_3119, g_3120, R_3119⟩ := rp_wI hR (T12_4 t0) (T12_4l t0) p2 (ti_and (ti_add p_3118 L32_3) L32_3) e_3120
      refine Rn.hp hT rfl rfl (wI_hp g_3120) ?_
      exact Rn.weak (ll_n (ll_n (ll_n (ll_n ll_e)))) (RX12_walksBack_b76 hd R_3119 hq e)
set_option maxRecDepth 10000 in
theorem hX12_canBe : iv_Tb 252 tX12_canBe := iv_tb_of (m := mX12_canBe) rfl
set_option maxRecDepth 10000 in
theorem gX12_canBe : PG.2 252 = some mX12_canBe := iv_pi_of (t := tX12_canBe) rfl (by decide)
def FX12_canBe_b63 (N : Nat) (s : iv_M)  (xs0 : Int) : Option (Int) := (if xs0 = 0 ∨ xs0 = 1 then some xs0 else none)
set_option maxRecDepth 10000 in
set_option maxHeartbeats 4000000 in
theorem RX12_canBe_b63 {d N nc Ls : Nat} {Xs : Nat → Int32} (hd : 5 ≤ d) {h : iv_H} {s : iv_M} (hR : Rep nc Ls Xs h s)  {ms0 : Int32} {xs0 : Int} (ps0 : ms0.toInt = xs0) {r : Int} {Q : Option Value → iv_H → Prop} (hq : ∀ (z : Int32), z.toInt = r → Q (some (.int z)) h) (e : FX12_canBe_b63 N s  xs0 = some r) : Rn d 252 (some .boolean) 63 [none, none, none, none, none] [.int ms0] h Q := by
  have hT := hX12_canBe
  unfold FX12_canBe_b63 at e
  by_cases c_3130 : xs0 = 0 ∨ xs0 = 1
  · rw [if_pos c_3130] at e
    obtain rfl := Option.some.inj e
    exact Rn.ret hT rfl rfl (if_pos (ti_b ps0 c_3130)) (hq ms0 ps0)
  · rw [if_neg c_3130] at e
    cases e
def FX12_canBe_b62 (N : Nat) (s : iv_M)   : Option (Int) := (FX12_canBe_b63 N s 0)
set_option maxRecDepth 10000 in
set_option maxHeartbeats 4000000 in
theorem RX12_canBe_b62 {d N nc Ls : Nat} {Xs : Nat → Int32} (hd : 5 ≤ d) {h : iv_H} {s : iv_M} (hR : Rep nc Ls Xs h s)   {r : Int} {Q : Option Value → iv_H → Prop} (hq : ∀ (z : Int32), z.toInt = r → Q (some (.int z)) h) (e : FX12_canBe_b62 N s   = some r) : Rn d 252 (some .boolean) 62 [none, none, none, none, none] [] h Q := by
  have hT := hX12_canBe
  unfold FX12_canBe_b62 at e
  refine Rn.n hT 1 (pc' := 63) (L' := [none, none, none, none, none]) (st' := [.int (0 : Int32)]) rfl ?_
  exact Rn.weak (ll_n (ll_n (ll_n (ll_n (ll_n ll_e))))) (RX12_canBe_b63 hd hR L32_0 hq e)
def FX12_canBe (N : Nat) (s : iv_M) (q0 : Nat) (x1 : Int) (x2 : Int) (x3 : Int) : Option (Int) := (if x1 = 1 then ((rd s (q0 + 3) 12 x2).bind fun v_3122 => ((FX12_by N s q0 v_3122 x3).bind fun v_3123 => (if v_3123 = (-1) then (FX12_canBe_b62 N s) else ((rd s (q0 + 8) 16 v_3123).bind fun v_3125 => (if v_3125 = (-1) then (FX12_canBe_b63 N s 1) else (FX12_canBe_b62 N s)))))) else (if x1 = 2 then ((FX12_areNeighbours N s q0 x2 x3).bind fun v_3128 => (if v_3128 = 0 ∨ v_3128 = 1 then some v_3128 else none)) else (some 1)))
set_option maxRecDepth 10000 in
set_option maxHeartbeats 4000000 in
theorem RX12_canBe {d N nc Ls : Nat} {Xs : Nat → Int32} (hd : 6 ≤ d) {h : iv_H} {s : iv_M} (hR : Rep nc Ls Xs h s) {q0 : Nat} (t0 : T12 nc q0) {m1 : Int32} {x1 : Int} (p1 : m1.toInt = x1) {m2 : Int32} {x2 : Int} (p2 : m2.toInt = x2) {m3 : Int32} {x3 : Int} (p3 : m3.toInt = x3) {r : Int} {Q : Option Value → iv_H → Prop} (e : FX12_canBe N s q0 x1 x2 x3 = some r) (hq : ∀ (z : Int32), z.toInt = r → Q (some (.int z)) h) : Cl d 252 [.ref q0, .int m1, .int m2, .int m3] h Q := by
  obtain ⟨d, rfl⟩ : ∃ k, d = k + 1 := ⟨d - 1, by omega⟩
  have hd : 5 ≤ d := by omega
  have hT := hX12_canBe
  unfold FX12_canBe at e
  refine Cl.into (by decide) gX12_canBe rfl ?_
  show Rn d 252 (some .boolean) 0 [some (.ref q0), some (.int m1), some (.int m2), some (.int m3), none] [] h Q
  refine Rn.n hT 1 (pc' := 1) (L' := [some (.ref q0), some (.int m1), some (.int m2), some (.int m3), none]) (st' := [.int m1]) rfl ?_
  by_cases c_3121 : x1 = 1
  · rw [if_pos c_3121] at e
    refine Rn.sw2 hT rfl rfl rfl (if_pos ((ti_e p1 L32_1).mpr c_3121)) ?_
    refine Rn.n hT 2 (pc' := 30) (L' := [some (.ref q0), some (.int m1), some (.int m2), some (.int m3), none]) (st' := [.ref q0, .ref q0]) rfl ?_
    refine Rn.hp hT rfl rfl (gR_hp (rp_gR hR (T12_o t0) rfl)) ?_
    refine Rn.n hT 1 (pc' := 34) (L' := [some (.ref q0), some (.int m1), some (.int m2), some (.int m3), none]) (st' := [.int m2, .ref (q0 + 3), .ref q0]) rfl ?_
    obtain ⟨v_3122, e_3122, e⟩ := Option.bind_eq_some_iff.mp e
    obtain ⟨z_3122, g_3122, p_3122⟩ := rp_aI hR (T12_3 t0) (T12_3l t0) p2 e_3122
    refine Rn.hp hT rfl rfl (aI_hp g_3122) ?_
    refine Rn.n hT 1 (pc' := 36) (L' := [some (.ref q0), some (.int m1), some (.int m2), some (.int m3), none]) (st' := [.int m3, .int z_3122, .ref q0]) rfl ?_
    obtain ⟨v_3123, e_3123, e⟩ := Option.bind_eq_some_iff.mp e
    refine Rn.call hT rfl rfl rfl (Nat.le_of_ble_eq_true rfl) (rcv_v gX12_by (by omega) (rp_ck hR (T12_o t0))) (RX12_by (by omega) hR t0 p_3122 p3 e_3123 (fun z_3123 p_3123 => ?_))
    show Rn d _ _ 39 [some (.ref q0), some (.int m1), some (.int m2), some (.int m3), none] [.int z_3123] h Q
    refine Rn.n hT 3 (pc' := 44) (L' := [some (.ref q0), some (.int m1), some (.int m2), some (.int m3), some (.int z_3123)]) (st' := [.int (-1 : Int32), .int z_3123]) rfl ?_
    by_cases c_3124 : v_3123 = (-1)
    · rw [if_pos c_3124] at e
      refine Rn.bt hT rfl rfl rfl (decide_eq_true ((ti_e p_3123 L32_m1).mpr c_3124)) ?_
      exact Rn.weak (ll_n (ll_n (ll_n (ll_n (ll_n ll_e))))) (RX12_canBe_b62 hd hR hq e)
    · rw [if_neg c_3124] at e
      refine Rn.bf hT rfl rfl rfl (decide_eq_false (fun z => c_3124 ((ti_e p_3123 L32_m1).mp z))) ?_
      refine Rn.n hT 1 (pc' := 48) (L' := [some (.ref q0), some (.int m1), some (.int m2), some (.int m3), some (.int z_3123)]) (st' := [.ref q0]) rfl ?_
      refine Rn.hp hT rfl rfl (gR_hp (rp_gR hR (T12_o t0) rfl)) ?_
      refine Rn.n hT 1 (pc' := 53) (L' := [some (.ref q0), some (.int m1), some (.int m2), some (.int m3), some (.int z_3123)]) (st' := [.int z_3123, .ref (q0 + 8)]) rfl ?_
      obtain ⟨v_3125, e_3125, e⟩ := Option.bind_eq_some_iff.mp e
      obtain ⟨z_3125, g_3125, p_3125⟩ := rp_aI hR (T12_8 t0) (T12_8l t0) p_3123 e_3125
      refine Rn.hp hT rfl rfl (aI_hp g_3125) ?_
      refine Rn.n hT 1 (pc' := 55) (L' := [some (.ref q0), some (.int m1), some (.int m2), some (.int m3), some (.int z_3123)]) (st' := [.int (-1 : Int32), .int z_3125]) rfl ?_
      by_cases c_3126 : v_3125 = (-1)
      · rw [if_pos c_3126] at e
        refine Rn.bf hT rfl rfl rfl (decide_eq_false (fun z => z ((ti_e p_3125 L32_m1).mpr c_3126))) ?_
        refine Rn.n hT 2 (pc' := 63) (L' := [some (.ref q0), some (.int m1), some (.int m2), some (.int m3), some (.int z_3123)]) (st' := [.int (1 : Int32)]) rfl ?_
        exact Rn.weak (ll_n (ll_n (ll_n (ll_n (ll_n ll_e))))) (RX12_canBe_b63 hd hR L32_1 hq e)
      · rw [if_neg c_3126] at e
        refine Rn.bt hT rfl rfl rfl (decide_eq_true (fun z => c_3126 ((ti_e p_3125 L32_m1).mp z))) ?_
        exact Rn.weak (ll_n (ll_n (ll_n (ll_n (ll_n ll_e))))) (RX12_canBe_b62 hd hR hq e)
  · rw [if_neg c_3121] at e
    by_cases c_3127 : x1 = 2
    · rw [if_pos c_3127] at e
      refine Rn.sw2 hT rfl rfl rfl ((if_neg (fun z => c_3121 ((ti_e p1 L32_1).mp z))).trans (if_pos ((ti_e p1 L32_2).mpr c_3127))) ?_
      refine Rn.n hT 3 (pc' := 67) (L' := [some (.ref q0), some (.int m1), some (.int m2), some (.int m3), none]) (st' := [.int m3, .int m2, .ref q0]) rfl ?_
      obtain ⟨v_3128, e_3128, e⟩ := Option.bind_eq_some_iff.mp e
      refine Rn.call hT rfl rfl rfl (Nat.le_of_ble_eq_true rfl) (rcv_v gX12_areNeighbours (by omega) (rp_ck hR (T12_o t0))) (RX12_areNeighbours (by omega) hR t0 p2 p3 e_3128 (fun z_3128 p_3128 => ?_))
      show Rn d _ _ 70 [some (.ref q0), some (.int m1), some (.int m2), some (.int m3), none] [.int z_3128] h Q
      by_cases c_3129 : v_3128 = 0 ∨ v_3128 = 1
      · rw [if_pos c_3129] at e
        obtain rfl := Option.some.inj e
        exact Rn.ret hT rfl rfl (if_pos (ti_b p_3128 c_3129)) (hq z_3128 p_3128)
      · rw [if_neg c_3129] at e
        cases e
    · rw [if_neg c_3127] at e
      refine Rn.sw2 hT rfl rfl rfl ((if_neg (fun z => c_3121 ((ti_e p1 L32_1).mp z))).trans ((if_neg (fun z => c_3127 ((ti_e p1 L32_2).mp z))).trans rfl)) ?_
      refine Rn.n hT 1 (pc' := 72) (L' := [some (.ref q0), some (.int m1), some (.int m2), some (.int m3), none]) (st' := [.int (1 : Int32)]) rfl ?_
      obtain rfl := Option.some.inj e
      exact Rn.ret hT rfl rfl rfl (hq (1 : Int32) L32_1)
set_option maxRecDepth 10000 in
theorem hX12_doorsOf : iv_Tb 253 tX12_doorsOf := iv_tb_of (m := mX12_doorsOf) rfl
set_option maxRecDepth 10000 in
theorem gX12_doorsOf : PG.2 253 = some mX12_doorsOf := iv_pi_of (t := tX12_doorsOf) rfl (by decide)
def FX12_doorsOf_b51 (N : Nat) (s : iv_M) (q0 : Nat) (x1 : Int) (x2 : Int) (x4 : Int) (xs0 : Int) (xs1 : Int) (kb : Int → Int → Option (Int)) (kx : Int → Option (Int)) : Option (Int) := (kb (w32 (xs1 + xs0)) (w32 (x4 + 1)))
set_option maxRecDepth 10000 in
set_option maxHeartbeats 4000000 in
theorem RX12_doorsOf_b51 {d N nc Ls : Nat} {Xs : Nat → Int32} (hd : 3 ≤ d) {h : iv_H} {s : iv_M} (hR : Rep nc Ls Xs h s) {q0 : Nat} (t0 : T12 nc q0) {m1 : Int32} {x1 : Int} (p1 : m1.toInt = x1) {m2 : Int32} {x2 : Int} (p2 : m2.toInt = x2) {m4 : Int32} {x4 : Int} (p4 : m4.toInt = x4) {ms0 : Int32} {xs0 : Int} (ps0 : ms0.toInt = xs0) {ms1 : Int32} {xs1 : Int} (ps1 : ms1.toInt = xs1) {kb : Int → Int → Option (Int)} {kx : Int → Option (Int)} {r : Int} {Q : Option Value → iv_H → Prop} (hb : ∀ (mw3 : Int32) (xw3 : Int) (pw3 : mw3.toInt = xw3) (mw4 : Int32) (xw4 : Int) (pw4 : mw4.toInt = xw4), kb xw3 xw4 = some r → Rn d 253 (some .int) 5 [some (.ref q0), some (.int m1), some (.int m2), some (.int mw3), some (.int mw4)] [] h Q) (hk : ∀ (mw3 : Int32) (xw3 : Int) (pw3 : mw3.toInt = xw3), kx xw3 = some r → Rn d 253 (some .int) 59 [none, none, none, some (.int mw3), none] [] h Q) (hq : ∀ (z : Int32), z.toInt = r → Q (some (.int z)) h) (e : FX12_doorsOf_b51 N s q0 x1 x2 x4 xs0 xs1 kb kx = some r) : Rn d 253 (some .int) 51 [some (.ref q0), some (.int m1), some (.int m2), none, some (.int m4)] [.int ms0, .int ms1] h Q := by
  have hT := hX12_doorsOf
  unfold FX12_doorsOf_b51 at e
  refine Rn.n hT 4 (pc' := 5) (L' := [some (.ref q0), some (.int m1), some (.int m2), some (.int (ms1 + ms0)), some (.int (m4 + (1 : Int32)))]) (st' := []) rfl ?_
  exact Rn.weak (ll_s (ll_s (ll_s (ll_s (ll_s ll_e))))) (hb (ms1 + ms0) (w32 (xs1 + xs0)) (ti_add ps1 ps0) (m4 + (1 : Int32)) (w32 (x4 + 1)) (ti_add p4 L32_1) e)
def FX12_doorsOf_l5 (N : Nat) (s : iv_M) (q0 : Nat) (x1 : Int) (x2 : Int) (kx : Int → Option (Int)) : Nat → Int → Int → Option (Int)
  | 0, _, _ => none
  | n + 1, x3, x4 => (if 4 ≤ x4 then (kx x3) else (if x2 = 0 then ((FX12_sortAt N s q0 x1 x4).bind fun v_3134 => (if v_3134 = 1 then (FX12_doorsOf_b51 N s q0 x1 x2 x4 1 x3 (FX12_doorsOf_l5 N s q0 x1 x2 kx n) kx) else (FX12_doorsOf_b51 N s q0 x1 x2 x4 0 x3 (FX12_doorsOf_l5 N s q0 x1 x2 kx n) kx))) else ((FX12_sideOf N s q0 x1 x4).bind fun v_3136 => (if v_3136 < 3 then (FX12_doorsOf_b51 N s q0 x1 x2 x4 0 x3 (FX12_doorsOf_l5 N s q0 x1 x2 kx n) kx) else (FX12_doorsOf_b51 N s q0 x1 x2 x4 1 x3 (FX12_doorsOf_l5 N s q0 x1 x2 kx n) kx)))))
set_option maxRecDepth 10000 in
set_option maxHeartbeats 4000000 in
theorem RX12_doorsOf_l5 {d N nc Ls : Nat} {Xs : Nat → Int32} (hd : 3 ≤ d) {h : iv_H} {s : iv_M} (hR : Rep nc Ls Xs h s) {q0 : Nat} (t0 : T12 nc q0) {m1 : Int32} {x1 : Int} (p1 : m1.toInt = x1) {m2 : Int32} {x2 : Int} (p2 : m2.toInt = x2) {kx : Int → Option (Int)} {r : Int} {Q : Option Value → iv_H → Prop} (hk : ∀ (m3 : Int32) (x3 : Int) (p3 : m3.toInt = x3), kx x3 = some r → Rn d 253 (some .int) 59 [none, none, none, some (.int m3), none] [] h Q) (hq : ∀ (z : Int32), z.toInt = r → Q (some (.int z)) h) : ∀ (n : Nat) (m3 : Int32) (x3 : Int) (p3 : m3.toInt = x3) (m4 : Int32) (x4 : Int) (p4 : m4.toInt = x4), FX12_doorsOf_l5 N s q0 x1 x2 kx n x3 x4 = some r → Rn d 253 (some .int) 5 [some (.ref q0), some (.int m1), some (.int m2), some (.int m3), some (.int m4)] [] h Q := by
  have hT := hX12_doorsOf
  intro n
  induction n with
  | zero =>
    intro m3 x3 p3 m4 x4 p4 e
    rw [FX12_doorsOf_l5] at e
    cases e
  | succ n ih =>
    intro m3 x3 p3 m4 x4 p4 e
    rw [FX12_doorsOf_l5] at e
    refine Rn.n hT 2 (pc' := 8) (L' := [some (.ref q0), some (.int m1), some (.int m2), some (.int m3), some (.int m4)]) (st' := [.int (4 : Int32), .int m4]) rfl ?_
    by_cases c_3132 : 4 ≤ x4
    · rw [if_pos c_3132] at e
      refine Rn.bt hT rfl rfl rfl (decide_eq_true ((ti_le L32_4 p4).mpr c_3132)) ?_
      exact Rn.weak (ll_n (ll_n (ll_n (ll_s (ll_n ll_e))))) (hk m3 x3 p3 e)
    · rw [if_neg c_3132] at e
      refine Rn.bf hT rfl rfl rfl (decide_eq_false (fun z => c_3132 ((ti_le L32_4 p4).mp z))) ?_
      refine Rn.n hT 2 (pc' := 13) (L' := [some (.ref q0), some (.int m1), some (.int m2), some (.int m3), some (.int m4)]) (st' := [.int m2, .int m3]) rfl ?_
      by_cases c_3133 : x2 = 0
      · rw [if_pos c_3133] at e
        refine Rn.bt hT rfl rfl rfl (decide_eq_true ((ti_e p2 L32_0).mpr c_3133)) ?_
        refine Rn.n hT 3 (pc' := 39) (L' := [some (.ref q0), some (.int m1), some (.int m2), some (.int m3), some (.int m4)]) (st' := [.int m4, .int m1, .ref q0, .int m3]) rfl ?_
        obtain ⟨v_3134, e_3134, e⟩ := Option.bind_eq_some_iff.mp e
        refine Rn.call hT rfl rfl rfl (Nat.le_of_ble_eq_true rfl) (rcv_v gX12_sortAt (by omega) (rp_ck hR (T12_o t0))) (RX12_sortAt (by omega) hR t0 p1 p4 e_3134 (fun z_3134 p_3134 => ?_))
        show Rn d _ _ 42 [some (.ref q0), some (.int m1), some (.int m2), some (.int m3), some (.int m4)] [.int z_3134, .int m3] h Q
        refine Rn.n hT 1 (pc' := 43) (L' := [some (.ref q0), some (.int m1), some (.int m2), some (.int m3), some (.int m4)]) (st' := [.int (1 : Int32), .int z_3134, .int m3]) rfl ?_
        by_cases c_3135 : v_3134 = 1
        · rw [if_pos c_3135] at e
          refine Rn.bf hT rfl rfl rfl (decide_eq_false (fun z => z ((ti_e p_3134 L32_1).mpr c_3135))) ?_
          refine Rn.n hT 2 (pc' := 51) (L' := [some (.ref q0), some (.int m1), some (.int m2), some (.int m3), some (.int m4)]) (st' := [.int (1 : Int32), .int m3]) rfl ?_
          exact Rn.weak (ll_s (ll_s (ll_s (ll_n (ll_s ll_e))))) (RX12_doorsOf_b51 hd hR t0 p1 p2 p4 L32_1 p3 ih hk hq e)
        · rw [if_neg c_3135] at e
          refine Rn.bt hT rfl rfl rfl (decide_eq_true (fun z => c_3135 ((ti_e p_3134 L32_1).mp z))) ?_
          refine Rn.n hT 1 (pc' := 51) (L' := [some (.ref q0), some (.int m1), some (.int m2), some (.int m3), some (.int m4)]) (st' := [.int (0 : Int32), .int m3]) rfl ?_
          exact Rn.weak (ll_s (ll_s (ll_s (ll_n (ll_s ll_e))))) (RX12_doorsOf_b51 hd hR t0 p1 p2 p4 L32_0 p3 ih hk hq e)
      · rw [if_neg c_3133] at e
        refine Rn.bf hT rfl rfl rfl (decide_eq_false (fun z => c_3133 ((ti_e p2 L32_0).mp z))) ?_
        refine Rn.n hT 3 (pc' := 20) (L' := [some (.ref q0), some (.int m1), some (.int m2), some (.int m3), some (.int m4)]) (st' := [.int m4, .int m1, .ref q0, .int m3]) rfl ?_
        obtain ⟨v_3136, e_3136, e⟩ := Option.bind_eq_some_iff.mp e
        refine Rn.call hT rfl rfl rfl (Nat.le_of_ble_eq_true rfl) (rcv_v gX12_sideOf (by omega) (rp_ck hR (T12_o t0))) (RX12_sideOf (by omega) hR t0 p1 p4 e_3136 (fun z_3136 p_3136 => ?_))
        show Rn d _ _ 23 [some (.ref q0), some (.int m1), some (.int m2), some (.int m3), some (.int m4)] [.int z_3136, .int m3] h Q
        refine Rn.n hT 1 (pc' := 24) (L' := [some (.ref q0), some (.int m1), some (.int m2), some (.int m3), some (.int m4)]) (st' := [.int (3 : Int32), .int z_3136, .int m3]) rfl ?_
        by_cases c_3137 : v_3136 < 3
        · rw [if_pos c_3137] at e
          refine Rn.bt hT rfl rfl rfl (decide_eq_true ((ti_l p_3136 L32_3).mpr c_3137)) ?_
          refine Rn.n hT 2 (pc' := 51) (L' := [some (.ref q0), some (.int m1), some (.int m2), some (.int m3), some (.int m4)]) (st' := [.int (0 : Int32), .int m3]) rfl ?_
          exact Rn.weak (ll_s (ll_s (ll_s (ll_n (ll_s ll_e))))) (RX12_doorsOf_b51 hd hR t0 p1 p2 p4 L32_0 p3 ih hk hq e)
        · rw [if_neg c_3137] at e
          refine Rn.bf hT rfl rfl rfl (decide_eq_false (fun z => c_3137 ((ti_l p_3136 L32_3).mp z))) ?_
          refine Rn.n hT 2 (pc' := 51) (L' := [some (.ref q0), some (.int m1), some (.int m2), some (.int m3), some (.int m4)]) (st' := [.int (1 : Int32), .int m3]) rfl ?_
          exact Rn.weak (ll_s (ll_s (ll_s (ll_n (ll_s ll_e))))) (RX12_doorsOf_b51 hd hR t0 p1 p2 p4 L32_1 p3 ih hk hq e)
def FX12_doorsOf (N : Nat) (s : iv_M) (q0 : Nat) (x1 : Int) (x2 : Int) : Option (Int) := (FX12_doorsOf_l5 N s q0 x1 x2 (fun (x3131_3 : Int) => (some x3131_3)) N 0 0)
set_option maxRecDepth 10000 in
set_option maxHeartbeats 4000000 in
theorem RX12_doorsOf {d N nc Ls : Nat} {Xs : Nat → Int32} (hd : 4 ≤ d) {h : iv_H} {s : iv_M} (hR : Rep nc Ls Xs h s) {q0 : Nat} (t0 : T12 nc q0) {m1 : Int32} {x1 : Int} (p1 : m1.toInt = x1) {m2 : Int32} {x2 : Int} (p2 : m2.toInt = x2) {r : Int} {Q : Option Value → iv_H → Prop} (e : FX12_doorsOf N s q0 x1 x2 = some r) (hq : ∀ (z : Int32), z.toInt = r → Q (some (.int z)) h) : Cl d 253 [.ref q0, .int m1, .int m2] h Q := by
  obtain ⟨d, rfl⟩ : ∃ k, d = k + 1 := ⟨d - 1, by omega⟩
  have hd : 3 ≤ d := by omega
  have hT := hX12_doorsOf
  unfold FX12_doorsOf at e
  refine Cl.into (by decide) gX12_doorsOf rfl ?_
  show Rn d 253 (some .int) 0 [some (.ref q0), some (.int m1), some (.int m2), none, none] [] h Q
  refine Rn.n hT 4 (pc' := 5) (L' := [some (.ref q0), some (.int m1), some (.int m2), some (.int (0 : Int32)), some (.int (0 : Int32))]) (st' := []) rfl ?_
  refine Rn.weak (ll_s (ll_s (ll_s (ll_s (ll_s ll_e))))) (RX12_doorsOf_l5 hd hR t0 p1 p2 (fun m3131_3 x3131_3 p3131_3 e => ?_) hq N (0 : Int32) 0 L32_0 (0 : Int32) 0 L32_0 e)
  try dsimp only at e
  refine Rn.n hT 1 (pc' := 60) (L' := [none, none, none, some (.int m3131_3), none]) (st' := [.int m3131_3]) rfl ?_
  obtain rfl := Option.some.inj e
  exact Rn.ret hT rfl rfl rfl (hq m3131_3 p3131_3)
set_option maxRecDepth 10000 in
theorem hX12_sleepers : iv_Tb 254 tX12_sleepers := iv_tb_of (m := mX12_sleepers) rfl
set_option maxRecDepth 10000 in
theorem gX12_sleepers : PG.2 254 = some mX12_sleepers := iv_pi_of (t := tX12_sleepers) rfl (by decide)
def FX12_sleepers_b32 (N : Nat) (s : iv_M) (q0 : Nat) (x1 : Int) (x3 : Int) (xs0 : Int) (xs1 : Int) (kb : Int → Int → Option (Int)) (kx : Int → Option (Int)) : Option (Int) := (kb (bOr xs1 xs0) (w32 (x3 + 1)))
set_option maxRecDepth 10000 in
set_option maxHeartbeats 4000000 in
theorem RX12_sleepers_b32 {d N nc Ls : Nat} {Xs : Nat → Int32} (hd : 0 ≤ d) {h : iv_H} {s : iv_M} (hR : Rep nc Ls Xs h s) {q0 : Nat} (t0 : T12 nc q0) {m1 : Int32} {x1 : Int} (p1 : m1.toInt = x1) {m3 : Int32} {x3 : Int} (p3 : m3.toInt = x3) {ms0 : Int32} {xs0 : Int} (ps0 : ms0.toInt = xs0) {ms1 : Int32} {xs1 : Int} (ps1 : ms1.toInt = xs1) {kb : Int → Int → Option (Int)} {kx : Int → Option (Int)} {r : Int} {Q : Option Value → iv_H → Prop} (hb : ∀ (mw2 : Int32) (xw2 : Int) (pw2 : mw2.toInt = xw2) (mw3 : Int32) (xw3 : Int) (pw3 : mw3.toInt = xw3), kb xw2 xw3 = some r → Rn d 254 (some .int) 4 [some (.ref q0), some (.int m1), some (.int mw2), some (.int mw3)] [] h Q) (hk : ∀ (mw2 : Int32) (xw2 : Int) (pw2 : mw2.toInt = xw2), kx xw2 = some r → Rn d 254 (some .int) 40 [none, none, some (.int mw2), none] [] h Q) (hq : ∀ (z : Int32), z.toInt = r → Q (some (.int z)) h) (e : FX12_sleepers_b32 N s q0 x1 x3 xs0 xs1 kb kx = some r) : Rn d 254 (some .int) 32 [some (.ref q0), some (.int m1), none, some (.int m3)] [.int ms0, .int ms1] h Q := by
  have hT := hX12_sleepers
  unfold FX12_sleepers_b32 at e
  refine Rn.n hT 4 (pc' := 4) (L' := [some (.ref q0), some (.int m1), some (.int (ms1 ||| ms0)), some (.int (m3 + (1 : Int32)))]) (st' := []) rfl ?_
  exact Rn.weak (ll_s (ll_s (ll_s (ll_s ll_e)))) (hb (ms1 ||| ms0) (bOr xs1 xs0) (ti_or ps1 ps0) (m3 + (1 : Int32)) (w32 (x3 + 1)) (ti_add p3 L32_1) e)
def FX12_sleepers_l4 (N : Nat) (s : iv_M) (q0 : Nat) (x1 : Int) (kx : Int → Option (Int)) : Nat → Int → Int → Option (Int)
  | 0, _, _ => none
  | n + 1, x2, x3 => ((rd s (q0 + 1) 14 3).bind fun v_3139 => (if v_3139 ≤ x3 then (kx x2) else ((rd s (q0 + 7) 6 x3).bind fun v_3141 => (if v_3141 = x1 then (FX12_sleepers_b32 N s q0 x1 x3 (sl32 1 x3) x2 (FX12_sleepers_l4 N s q0 x1 kx n) kx) else (FX12_sleepers_b32 N s q0 x1 x3 0 x2 (FX12_sleepers_l4 N s q0 x1 kx n) kx)))))
set_option maxRecDepth 10000 in
set_option maxHeartbeats 4000000 in
theorem RX12_sleepers_l4 {d N nc Ls : Nat} {Xs : Nat → Int32} (hd : 0 ≤ d) {h : iv_H} {s : iv_M} (hR : Rep nc Ls Xs h s) {q0 : Nat} (t0 : T12 nc q0) {m1 : Int32} {x1 : Int} (p1 : m1.toInt = x1) {kx : Int → Option (Int)} {r : Int} {Q : Option Value → iv_H → Prop} (hk : ∀ (m2 : Int32) (x2 : Int) (p2 : m2.toInt = x2), kx x2 = some r → Rn d 254 (some .int) 40 [none, none, some (.int m2), none] [] h Q) (hq : ∀ (z : Int32), z.toInt = r → Q (some (.int z)) h) : ∀ (n : Nat) (m2 : Int32) (x2 : Int) (p2 : m2.toInt = x2) (m3 : Int32) (x3 : Int) (p3 : m3.toInt = x3), FX12_sleepers_l4 N s q0 x1 kx n x2 x3 = some r → Rn d 254 (some .int) 4 [some (.ref q0), some (.int m1), some (.int m2), some (.int m3)] [] h Q := by
  have hT := hX12_sleepers
  intro n
  induction n with
  | zero =>
    intro m2 x2 p2 m3 x3 p3 e
    rw [FX12_sleepers_l4] at e
    cases e
  | succ n ih =>
    intro m2 x2 p2 m3 x3 p3 e
    rw [FX12_sleepers_l4] at e
    refine Rn.n hT 2 (pc' := 6) (L' := [some (.ref q0), some (.int m1), some (.int m2), some (.int m3)]) (st' := [.ref q0, .int m3]) rfl ?_
    refine Rn.hp hT rfl rfl (gR_hp (rp_gR hR (T12_o t0) rfl)) ?_
    refine Rn.n hT 1 (pc' := 10) (L' := [some (.ref q0), some (.int m1), some (.int m2), some (.int m3)]) (st' := [.int (3 : Int32), .ref (q0 + 1), .int m3]) rfl ?_
    obtain ⟨v_3139, e_3139, e⟩ := Option.bind_eq_some_iff.mp e
    obtain ⟨z_3139, g_3139, p_3139⟩ := rp_aI hR (T12_1 t0) (T12_1l t0) L32_3 e_3139
    refine Rn.hp hT rfl rfl (aI_hp g_3139) ?_
    by_cases c_3140 : v_3139 ≤ x3
    · rw [if_pos c_3140] at e
      refine Rn.bt hT rfl rfl rfl (decide_eq_true ((ti_le p_3139 p3).mpr c_3140)) ?_
      exact Rn.weak (ll_n (ll_n (ll_s (ll_n ll_e)))) (hk m2 x2 p2 e)
    · rw [if_neg c_3140] at e
      refine Rn.bf hT rfl rfl rfl (decide_eq_false (fun z => c_3140 ((ti_le p_3139 p3).mp z))) ?_
      refine Rn.n hT 2 (pc' := 16) (L' := [some (.ref q0), some (.int m1), some (.int m2), some (.int m3)]) (st' := [.ref q0, .int m2]) rfl ?_
      refine Rn.hp hT rfl rfl (gR_hp (rp_gR hR (T12_o t0) rfl)) ?_
      refine Rn.n hT 1 (pc' := 20) (L' := [some (.ref q0), some (.int m1), some (.int m2), some (.int m3)]) (st' := [.int m3, .ref (q0 + 7), .int m2]) rfl ?_
      obtain ⟨v_3141, e_3141, e⟩ := Option.bind_eq_some_iff.mp e
      obtain ⟨z_3141, g_3141, p_3141⟩ := rp_aI hR (T12_7 t0) (T12_7l t0) p3 e_3141
      refine Rn.hp hT rfl rfl (aI_hp g_3141) ?_
      refine Rn.n hT 1 (pc' := 22) (L' := [some (.ref q0), some (.int m1), some (.int m2), some (.int m3)]) (st' := [.int m1, .int z_3141, .int m2]) rfl ?_
      by_cases c_3142 : v_3141 = x1
      · rw [if_pos c_3142] at e
        refine Rn.bf hT rfl rfl rfl (decide_eq_false (fun z => z ((ti_e p_3141 p1).mpr c_3142))) ?_
        refine Rn.n hT 4 (pc' := 32) (L' := [some (.ref q0), some (.int m1), some (.int m2), some (.int m3)]) (st' := [.int ((1 : Int32) <<< (m3 &&& 31)), .int m2]) rfl ?_
        exact Rn.weak (ll_s (ll_s (ll_n (ll_s ll_e)))) (RX12_sleepers_b32 hd hR t0 p1 p3 (ti_shl L32_1 p3) p2 ih hk hq e)
      · rw [if_neg c_3142] at e
        refine Rn.bt hT rfl rfl rfl (decide_eq_true (fun z => c_3142 ((ti_e p_3141 p1).mp z))) ?_
        refine Rn.n hT 1 (pc' := 32) (L' := [some (.ref q0), some (.int m1), some (.int m2), some (.int m3)]) (st' := [.int (0 : Int32), .int m2]) rfl ?_
        exact Rn.weak (ll_s (ll_s (ll_n (ll_s ll_e)))) (RX12_sleepers_b32 hd hR t0 p1 p3 L32_0 p2 ih hk hq e)
def FX12_sleepers (N : Nat) (s : iv_M) (q0 : Nat) (x1 : Int) : Option (Int) := (FX12_sleepers_l4 N s q0 x1 (fun (x3138_2 : Int) => (some x3138_2)) N 0 0)
set_option maxRecDepth 10000 in
set_option maxHeartbeats 4000000 in
theorem RX12_sleepers {d N nc Ls : Nat} {Xs : Nat → Int32} (hd : 1 ≤ d) {h : iv_H} {s : iv_M} (hR : Rep nc Ls Xs h s) {q0 : Nat} (t0 : T12 nc q0) {m1 : Int32} {x1 : Int} (p1 : m1.toInt = x1) {r : Int} {Q : Option Value → iv_H → Prop} (e : FX12_sleepers N s q0 x1 = some r) (hq : ∀ (z : Int32), z.toInt = r → Q (some (.int z)) h) : Cl d 254 [.ref q0, .int m1] h Q := by
  obtain ⟨d, rfl⟩ : ∃ k, d = k + 1 := ⟨d - 1, by omega⟩
  have hd : 0 ≤ d := by omega
  have hT := hX12_sleepers
  unfold FX12_sleepers at e
  refine Cl.into (by decide) gX12_sleepers rfl ?_
  show Rn d 254 (some .int) 0 [some (.ref q0), some (.int m1), none, none] [] h Q
  refine Rn.n hT 4 (pc' := 4) (L' := [some (.ref q0), some (.int m1), some (.int (0 : Int32)), some (.int (0 : Int32))]) (st' := []) rfl ?_
  refine Rn.weak (ll_s (ll_s (ll_s (ll_s ll_e)))) (RX12_sleepers_l4 hd hR t0 p1 (fun m3138_2 x3138_2 p3138_2 e => ?_) hq N (0 : Int32) 0 L32_0 (0 : Int32) 0 L32_0 e)
  try dsimp only at e
  refine Rn.n hT 1 (pc' := 41) (L' := [none, none, some (.int m3138_2), none]) (st' := [.int m3138_2]) rfl ?_
  obtain rfl := Option.some.inj e
  exact Rn.ret hT rfl rfl rfl (hq m3138_2 p3138_2)
set_option maxRecDepth 10000 in
theorem hX12_isBarred : iv_Tb 255 tX12_isBarred := iv_tb_of (m := mX12_isBarred) rfl
set_option maxRecDepth 10000 in
theorem gX12_isBarred : PG.2 255 = some mX12_isBarred := iv_pi_of (t := tX12_isBarred) rfl (by decide)
def FX12_isBarred_l232 (N : Nat) (q0 : Nat) (x6 : Int) (kx : iv_M → Option (Int × iv_M)) : Nat → iv_M → Int → Option (Int × iv_M)
  | 0, _, _ => none
  | n + 1, s, x8 => ((rd s (q0 + 29) 6 x6).bind fun v_3187 => (if (w32 ((w32 (12 * x6)) + v_3187)) ≤ x8 then (kx s) else ((rd s (q0 + 30) 72 x8).bind fun v_3189 => ((rd s (q0 + 31) 72 x8).bind fun v_3190 => ((FX12_answer N s q0 x6 v_3189 v_3190).bind fun r_3191 => (fun (v_3191 : Int) (s_3192 : iv_M) => (if v_3191 = 1 then (some (1, s_3192)) else (FX12_isBarred_l232 N q0 x6 kx n s_3192 (w32 (x8 + 1))))) r_3191.1 r_3191.2)))))
set_option maxRecDepth 10000 in
set_option maxHeartbeats 4000000 in
theorem RX12_isBarred_l232 {d N nc Ls : Nat} {Xs : Nat → Int32} (hd : 4 ≤ d) {q0 : Nat} (t0 : T12 nc q0) {m6 : Int32} {x6 : Int} (p6 : m6.toInt = x6) {kx : iv_M → Option (Int × iv_M)} {r : Int × iv_M} {Q : Option Value → iv_H → Prop} (hk : ∀ (h : iv_H) (s : iv_M) (hR : Rep nc Ls Xs h s), kx s = some r → Rn d 255 (some .boolean) 283 [none, none, none, none, none, none, none, none, none] [] h Q) (hq : ∀ (z : Int32) (h1 : iv_H), z.toInt = r.1 → Rep nc Ls Xs h1 r.2 → Q (some (.int z)) h1) : ∀ (n : Nat) (h : iv_H) (s : iv_M) (hR : Rep nc Ls Xs h s) (m8 : Int32) (x8 : Int) (p8 : m8.toInt = x8), FX12_isBarred_l232 N q0 x6 kx n s x8 = some r → Rn d 255 (some .boolean) 232 [some (.ref q0), none, none, none, none, none, some (.int m6), none, some (.int m8)] [] h Q := by
  have hT := hX12_isBarred
  intro n
  induction n with
  | zero =>
    intro h s hR m8 x8 p8 e
    rw [FX12_isBarred_l232] at e
    cases e
  | succ n ih =>
    intro h s hR m8 x8 p8 e
    rw [FX12_isBarred_l232] at e
    refine Rn.n hT 5 (pc' := 240) (L' := [some (.ref q0), none, none, none, none, none, some (.int m6), none, some (.int m8)]) (st' := [.ref q0, .int ((12 : Int32) * m6), .int m8]) rfl ?_
    refine Rn.hp hT rfl rfl (gR_hp (rp_gR hR (T12_o t0) rfl)) ?_
    refine Rn.n hT 1 (pc' := 245) (L' := [some (.ref q0), none, none, none, none, none, some (.int m6), none, some (.int m8)]) (st' := [.int m6, .ref (q0 + 29), .int ((12 : Int32) * m6), .int m8]) rfl ?_
    obtain ⟨v_3187, e_3187, e⟩ := Option.bind_eq_some_iff.mp e
    obtain ⟨z_3187, g_3187, p_3187⟩ := rp_aI hR (T12_42 t0) (T12_42l t0) p6 e_3187
    refine Rn.hp hT rfl rfl (aI_hp g_3187) ?_
    refine Rn.n hT 1 (pc' := 247) (L' := [some (.ref q0), none, none, none, none, none, some (.int m6), none, some (.int m8)]) (st' := [.int (((12 : Int32) * m6) + z_3187), .int m8]) rfl ?_
    by_cases c_3188 : (w32 ((w32 (12 * x6)) + v_3187)) ≤ x8
    · rw [if_pos c_3188] at e
      refine Rn.bt hT rfl rfl rfl (decide_eq_true ((ti_le (ti_add (ti_mul L32_12 p6) p_3187) p8).mpr c_3188)) ?_
      exact Rn.weak (ll_n (ll_n (ll_n (ll_n (ll_n (ll_n (ll_n (ll_n (ll_n ll_e))))))))) (hk h s hR e)
    · rw [if_neg c_3188] at e
      refine Rn.bf hT rfl rfl rfl (decide_eq_false (fun z => c_3188 ((ti_le (ti_add (ti_mul L32_12 p6) p_3187) p8).mp z))) ?_
      refine Rn.n hT 3 (pc' := 254) (L' := [some (.ref q0), none, none, none, none, none, some (.int m6), none, some (.int m8)]) (st' := [.ref q0, .int m6, .ref q0]) rfl ?_
      refine Rn.hp hT rfl rfl (gR_hp (rp_gR hR (T12_o t0) rfl)) ?_
      refine Rn.n hT 1 (pc' := 259) (L' := [some (.ref q0), none, none, none, none, none, some (.int m6), none, some (.int m8)]) (st' := [.int m8, .ref (q0 + 30), .int m6, .ref q0]) rfl ?_
      obtain ⟨v_3189, e_3189, e⟩ := Option.bind_eq_some_iff.mp e
      obtain ⟨z_3189, g_3189, p_3189⟩ := rp_aI hR (T12_43 t0) (T12_43l t0) p8 e_3189
      refine Rn.hp hT rfl rfl (aI_hp g_3189) ?_
      refine Rn.n hT 1 (pc' := 261) (L' := [some (.ref q0), none, none, none, none, none, some (.int m6), none, some (.int m8)]) (st' := [.ref q0, .int z_3189, .int m6, .ref q0]) rfl ?_
      refine Rn.hp hT rfl rfl (gR_hp (rp_gR hR (T12_o t0) rfl)) ?_
      refine Rn.n hT 1 (pc' := 266) (L' := [some (.ref q0), none, none, none, none, none, some (.int m6), none, some (.int m8)]) (st' := [.int m8, .ref (q0 + 31), .int z_3189, .int m6, .ref q0]) rfl ?_
      obtain ⟨v_3190, e_3190, e⟩ := Option.bind_eq_some_iff.mp e
      obtain ⟨z_3190, g_3190, p_3190⟩ := rp_aI hR (T12_44 t0) (T12_44l t0) p8 e_3190
      refine Rn.hp hT rfl rfl (aI_hp g_3190) ?_
      obtain ⟨⟨v_3191, s_3192⟩, e_3191, e⟩ := Option.bind_eq_some_iff.mp e
      try dsimp only at e
      try dsimp only at e
      refine Rn.call hT rfl rfl rfl (Nat.le_of_ble_eq_true rfl) (rcv_v gX12_answer (by omega) (rp_ck hR (T12_o t0))) (RX12_answer (by omega) hR t0 p6 p_3189 p_3190 e_3191 (fun z_3191 h_3192 p_3191 R_3192 => ?_))
      show Rn d _ _ 270 [some (.ref q0), none, none, none, none, none, some (.int m6), none, some (.int m8)] [.long z_3191] h_3192 Q
      refine Rn.n hT 2 (pc' := 272) (L' := [some (.ref q0), none, none, none, none, none, some (.int m6), none, some (.int m8)]) (st' := [.int (lg_cmp z_3191 (1 : Int64))]) rfl ?_
      by_cases c_3193 : v_3191 = 1
      · rw [if_pos c_3193] at e
        refine Rn.bf hT rfl rfl rfl (decide_eq_false (fun z => z ((lc_e p_3191 L64_1).mpr c_3193))) ?_
        refine Rn.n hT 1 (pc' := 276) (L' := [some (.ref q0), none, none, none, none, none, some (.int m6), none, some (.int m8)]) (st' := [.int (1 : Int32)]) rfl ?_
        obtain rfl := Option.some.inj e
        exact Rn.ret hT rfl rfl rfl (hq (1 : Int32) h_3192 L32_1 R_3192)
      · rw [if_neg c_3193] at e
        refine Rn.bt hT rfl rfl rfl (decide_eq_true (fun z => c_3193 ((lc_e p_3191 L64_1).mp z))) ?_
        refine Rn.n hT 2 (pc' := 232) (L' := [some (.ref q0), none, none, none, none, none, some (.int m6), none, some (.int (m8 + (1 : Int32)))]) (st' := []) rfl ?_
        exact Rn.weak (ll_s (ll_n (ll_n (ll_n (ll_n (ll_n (ll_s (ll_n (ll_s ll_e))))))))) (ih h_3192 s_3192 R_3192 (m8 + (1 : Int32)) (w32 (x8 + 1)) (ti_add p8 L32_1) e)
def FX12_isBarred_b92 (N : Nat) (s : iv_M) (q0 : Nat) (x2 : Int) (x4 : Int) (x5 : Int) (x6 : Int) (x7 : Int) (ys0 : Int) (xs1 : Int) (qs2 : Nat) : Option (Int × iv_M) := ((wr s qs2 ((sh qs2).2 : Int) xs1 ys0).bind fun s_3156 => ((rd s_3156 (q0 + 3) 12 x2).bind fun v_3158 => ((wr s_3156 (q0 + 33) 13 3 (Int.tmod v_3158 4)).bind fun s_3159 => ((rd s_3159 (q0 + 3) 12 x2).bind fun v_3161 => ((wr s_3159 (q0 + 33) 13 4 (dv32 v_3161 4)).bind fun s_3162 => ((wr s_3162 (q0 + 33) 13 5 (Int.tmod x7 4)).bind fun s_3164 => ((wr s_3164 (q0 + 33) 13 6 (dv32 x7 4)).bind fun s_3166 => ((FX12_doorsOf N s_3166 q0 x2 0).bind fun v_3168 => ((wr s_3166 (q0 + 33) 13 7 v_3168).bind fun s_3169 => ((FX12_doorsOf N s_3169 q0 x2 1).bind fun v_3171 => ((wr s_3169 (q0 + 33) 13 8 v_3171).bind fun s_3172 => ((FX12_sleepers N s_3172 q0 x2).bind fun v_3174 => ((FX12_bits N s_3172 v_3174).bind fun v_3175 => ((wr s_3172 (q0 + 33) 13 9 v_3175).bind fun s_3176 => ((rd s_3176 (q0 + 1) 14 6).bind fun v_3178 => ((wr s_3176 (q0 + 33) 13 10 v_3178).bind fun s_3179 => ((wr s_3179 (q0 + 33) 13 11 x4).bind fun s_3181 => ((wr s_3181 (q0 + 33) 13 12 x5).bind fun s_3183 => (FX12_isBarred_l232 N q0 x6 (fun (s_3185 : iv_M) => (some (0, s_3185))) N s_3183 (w32 (12 * x6)))))))))))))))))))))
set_option maxRecDepth 10000 in
set_option maxHeartbeats 4000000 in
theorem RX12_isBarred_b92 {d N nc Ls : Nat} {Xs : Nat → Int32} (hd : 4 ≤ d) {h : iv_H} {s : iv_M} (hR : Rep nc Ls Xs h s) {q0 : Nat} (t0 : T12 nc q0) {m2 : Int32} {x2 : Int} (p2 : m2.toInt = x2) {m4 : Int32} {x4 : Int} (p4 : m4.toInt = x4) {m5 : Int32} {x5 : Int} (p5 : m5.toInt = x5) {m6 : Int32} {x6 : Int} (p6 : m6.toInt = x6) {m7 : Int32} {x7 : Int} (p7 : m7.toInt = x7) {js0 : Int64} {ys0 : Int} (ps0 : js0.toInt = ys0) {ms1 : Int32} {xs1 : Int} (ps1 : ms1.toInt = xs1) {qs2 : Nat} (ts2 : TA 1 nc qs2) {r : Int × iv_M} {Q : Option Value → iv_H → Prop} (hq : ∀ (z : Int32) (h1 : iv_H), z.toInt = r.1 → Rep nc Ls Xs h1 r.2 → Q (some (.int z)) h1) (e : FX12_isBarred_b92 N s q0 x2 x4 x5 x6 x7 ys0 xs1 qs2 = some r) : Rn d 255 (some .boolean) 92 [some (.ref q0), none, some (.int m2), none, some (.int m4), some (.int m5), some (.int m6), some (.int m7), none] [.long js0, .int ms1, .ref qs2] h Q := by
  have hT := hX12_isBarred
  unfold FX12_isBarred_b92 at e
  obtain ⟨s_3156, e_3157, e⟩ := Option.bind_eq_some_iff.mp e
  obtain ⟨h_3156, g_3157, R_3156⟩ := rp_wJ hR ts2 rfl ps1 ps0 e_3157
  refine Rn.hp hT rfl rfl (wJ_hp g_3157) ?_
  refine Rn.n hT 1 (pc' := 94) (L' := [some (.ref q0), none, some (.int m2), none, some (.int m4), some (.int m5), some (.int m6), some (.int m7), none]) (st' := [.ref q0]) rfl ?_
  refine Rn.hp hT rfl rfl (gR_hp (rp_gR R_3156 (T12_o t0) rfl)) ?_
  refine Rn.n hT 2 (pc' := 99) (L' := [some (.ref q0), none, some (.int m2), none, some (.int m4), some (.int m5), some (.int m6), some (.int m7), none]) (st' := [.ref q0, .int (3 : Int32), .ref (q0 + 33)]) rfl ?_
  refine Rn.hp hT rfl rfl (gR_hp (rp_gR R_3156 (T12_o t0) rfl)) ?_
  refine Rn.n hT 1 (pc' := 103) (L' := [some (.ref q0), none, some (.int m2), none, some (.int m4), some (.int m5), some (.int m6), some (.int m7), none]) (st' := [.int m2, .ref (q0 + 3), .int (3 : Int32), .ref (q0 + 33)]) rfl ?_
  obtain ⟨v_3158, e_3158, e⟩ := Option.bind_eq_some_iff.mp e
  obtain ⟨z_3158, g_3158, p_3158⟩ := rp_aI R_3156 (T12_3 t0) (T12_3l t0) p2 e_3158
  refine Rn.hp hT rfl rfl (aI_hp g_3158) ?_
  refine Rn.n hT 3 (pc' := 107) (L' := [some (.ref q0), none, some (.int m2), none, some (.int m4), some (.int m5), some (.int m6), some (.int m7), none]) (st' := [.long (((z_3158 - z_3158 / (4 : Int32) * (4 : Int32))).toInt64), .int (3 : Int32), .ref (q0 + 33)]) rfl ?_
  obtain ⟨s_3159, e_3160, e⟩ := Option.bind_eq_some_iff.mp e
  obtain ⟨h_3159, g_3160, R_3159⟩ := rp_wJ R_3156 (T12_46 t0) (T12_46l t0) L32_3 (ti_j (ti_rem p_3158 L32_4)) e_3160
  refine Rn.hp hT rfl rfl (wJ_hp g_3160) ?_
  refine Rn.n hT 1 (pc' := 109) (L' := [some (.ref q0), none, some (.int m2), none, some (.int m4), some (.int m5), some (.int m6), some (.int m7), none]) (st' := [.ref q0]) rfl ?_
  refine Rn.hp hT rfl rfl (gR_hp (rp_gR R_3159 (T12_o t0) rfl)) ?_
  refine Rn.n hT 2 (pc' := 114) (L' := [some (.ref q0), none, some (.int m2), none, some (.int m4), some (.int m5), some (.int m6), some (.int m7), none]) (st' := [.ref q0, .int (4 : Int32), .ref (q0 + 33)]) rfl ?_
  refine Rn.hp hT rfl rfl (gR_hp (rp_gR R_3159 (T12_o t0) rfl)) ?_
  refine Rn.n hT 1 (pc' := 118) (L' := [some (.ref q0), none, some (.int m2), none, some (.int m4), some (.int m5), some (.int m6), some (.int m7), none]) (st' := [.int m2, .ref (q0 + 3), .int (4 : Int32), .ref (q0 + 33)]) rfl ?_
  obtain ⟨v_3161, e_3161, e⟩ := Option.bind_eq_some_iff.mp e
  obtain ⟨z_3161, g_3161, p_3161⟩ := rp_aI R_3159 (T12_3 t0) (T12_3l t0) p2 e_3161
  refine Rn.hp hT rfl rfl (aI_hp g_3161) ?_
  refine Rn.n hT 3 (pc' := 122) (L' := [some (.ref q0), none, some (.int m2), none, some (.int m4), some (.int m5), some (.int m6), some (.int m7), none]) (st' := [.long (((z_3161 / (4 : Int32))).toInt64), .int (4 : Int32), .ref (q0 + 33)]) rfl ?_
  obtain ⟨s_3162, e_3163, e⟩ := Option.bind_eq_some_iff.mp e
  obtain ⟨h_3162, g_3163, R_3162⟩ := rp_wJ R_3159 (T12_46 t0) (T12_46l t0) L32_4 (ti_j (ti_div p_3161 L32_4)) e_3163
  refine Rn.hp hT rfl rfl (wJ_hp g_3163) ?_
  refine Rn.n hT 1 (pc' := 124) (L' := [some (.ref q0), none, some (.int m2), none, some (.int m4), some (.int m5), some (.int m6), some (.int m7), none]) (st' := [.ref q0]) rfl ?_
  refine Rn.hp hT rfl rfl (gR_hp (rp_gR R_3162 (T12_o t0) rfl)) ?_
  refine Rn.n hT 5 (pc' := 133) (L' := [some (.ref q0), none, some (.int m2), none, some (.int m4), some (.int m5), some (.int m6), some (.int m7), none]) (st' := [.long (((m7 - m7 / (4 : Int32) * (4 : Int32))).toInt64), .int (5 : Int32), .ref (q0 + 33)]) rfl ?_
  obtain ⟨s_3164, e_3165, e⟩ := Option.bind_eq_some_iff.mp e
  obtain ⟨h_3164, g_3165, R_3164⟩ := rp_wJ R_3162 (T12_46 t0) (T12_46l t0) L32_5 (ti_j (ti_rem p7 L32_4)) e_3165
  refine Rn.hp hT rfl rfl (wJ_hp g_3165) ?_
  refine Rn.n hT 1 (pc' := 135) (L' := [some (.ref q0), none, some (.int m2), none, some (.int m4), some (.int m5), some (.int m6), some (.int m7), none]) (st' := [.ref q0]) rfl ?_
  refine Rn.hp hT rfl rfl (gR_hp (rp_gR R_3164 (T12_o t0) rfl)) ?_
  refine Rn.n hT 5 (pc' := 145) (L' := [some (.ref q0), none, some (.int m2), none, some (.int m4), some (.int m5), some (.int m6), some (.int m7), none]) (st' := [.long (((m7 / (4 : Int32))).toInt64), .int (6 : Int32), .ref (q0 + 33)]) rfl ?_
  obtain ⟨s_3166, e_3167, e⟩ := Option.bind_eq_some_iff.mp e
  obtain ⟨h_3166, g_3167, R_3166⟩ := rp_wJ R_3164 (T12_46 t0) (T12_46l t0) L32_6 (ti_j (ti_div p7 L32_4)) e_3167
  refine Rn.hp hT rfl rfl (wJ_hp g_3167) ?_
  refine Rn.n hT 1 (pc' := 147) (L' := [some (.ref q0), none, some (.int m2), none, some (.int m4), some (.int m5), some (.int m6), some (.int m7), none]) (st' := [.ref q0]) rfl ?_
  refine Rn.hp hT rfl rfl (gR_hp (rp_gR R_3166 (T12_o t0) rfl)) ?_
  refine Rn.n hT 4 (pc' := 155) (L' := [some (.ref q0), none, some (.int m2), none, some (.int m4), some (.int m5), some (.int m6), some (.int m7), none]) (st' := [.int (0 : Int32), .int m2, .ref q0, .int (7 : Int32), .ref (q0 + 33)]) rfl ?_
  obtain ⟨v_3168, e_3168, e⟩ := Option.bind_eq_some_iff.mp e
  refine Rn.call hT rfl rfl rfl (Nat.le_of_ble_eq_true rfl) (rcv_v gX12_doorsOf (by omega) (rp_ck R_3166 (T12_o t0))) (RX12_doorsOf (by omega) R_3166 t0 p2 L32_0 e_3168 (fun z_3168 p_3168 => ?_))
  show Rn d _ _ 158 [some (.ref q0), none, some (.int m2), none, some (.int m4), some (.int m5), some (.int m6), some (.int m7), none] [.int z_3168, .int (7 : Int32), .ref (q0 + 33)] h_3166 Q
  refine Rn.n hT 1 (pc' := 159) (L' := [some (.ref q0), none, some (.int m2), none, some (.int m4), some (.int m5), some (.int m6), some (.int m7), none]) (st' := [.long ((z_3168).toInt64), .int (7 : Int32), .ref (q0 + 33)]) rfl ?_
  obtain ⟨s_3169, e_3170, e⟩ := Option.bind_eq_some_iff.mp e
  obtain ⟨h_3169, g_3170, R_3169⟩ := rp_wJ R_3166 (T12_46 t0) (T12_46l t0) L32_7 (ti_j p_3168) e_3170
  refine Rn.hp hT rfl rfl (wJ_hp g_3170) ?_
  refine Rn.n hT 1 (pc' := 161) (L' := [some (.ref q0), none, some (.int m2), none, some (.int m4), some (.int m5), some (.int m6), some (.int m7), none]) (st' := [.ref q0]) rfl ?_
  refine Rn.hp hT rfl rfl (gR_hp (rp_gR R_3169 (T12_o t0) rfl)) ?_
  refine Rn.n hT 4 (pc' := 169) (L' := [some (.ref q0), none, some (.int m2), none, some (.int m4), some (.int m5), some (.int m6), some (.int m7), none]) (st' := [.int (1 : Int32), .int m2, .ref q0, .int (8 : Int32), .ref (q0 + 33)]) rfl ?_
  obtain ⟨v_3171, e_3171, e⟩ := Option.bind_eq_some_iff.mp e
  refine Rn.call hT rfl rfl rfl (Nat.le_of_ble_eq_true rfl) (rcv_v gX12_doorsOf (by omega) (rp_ck R_3169 (T12_o t0))) (RX12_doorsOf (by omega) R_3169 t0 p2 L32_1 e_3171 (fun z_3171 p_3171 => ?_))
  show Rn d _ _ 172 [some (.ref q0), none, some (.int m2), none, some (.int m4), some (.int m5), some (.int m6), some (.int m7), none] [.int z_3171, .int (8 : Int32), .ref (q0 + 33)] h_3169 Q
  refine Rn.n hT 1 (pc' := 173) (L' := [some (.ref q0), none, some (.int m2), none, some (.int m4), some (.int m5), some (.int m6), some (.int m7), none]) (st' := [.long ((z_3171).toInt64), .int (8 : Int32), .ref (q0 + 33)]) rfl ?_
  obtain ⟨s_3172, e_3173, e⟩ := Option.bind_eq_some_iff.mp e
  obtain ⟨h_3172, g_3173, R_3172⟩ := rp_wJ R_3169 (T12_46 t0) (T12_46l t0) L32_8 (ti_j p_3171) e_3173
  refine Rn.hp hT rfl rfl (wJ_hp g_3173) ?_
  refine Rn.n hT 1 (pc' := 175) (L' := [some (.ref q0), none, some (.int m2), none, some (.int m4), some (.int m5), some (.int m6), some (.int m7), none]) (st' := [.ref q0]) rfl ?_
  refine Rn.hp hT rfl rfl (gR_hp (rp_gR R_3172 (T12_o t0) rfl)) ?_
  refine Rn.n hT 3 (pc' := 182) (L' := [some (.ref q0), none, some (.int m2), none, some (.int m4), some (.int m5), some (.int m6), some (.int m7), none]) (st' := [.int m2, .ref q0, .int (9 : Int32), .ref (q0 + 33)]) rfl ?_
  obtain ⟨v_3174, e_3174, e⟩ := Option.bind_eq_some_iff.mp e
  refine Rn.call hT rfl rfl rfl (Nat.le_of_ble_eq_true rfl) (rcv_v gX12_sleepers (by omega) (rp_ck R_3172 (T12_o t0))) (RX12_sleepers (by omega) R_3172 t0 p2 e_3174 (fun z_3174 p_3174 => ?_))
  show Rn d _ _ 185 [some (.ref q0), none, some (.int m2), none, some (.int m4), some (.int m5), some (.int m6), some (.int m7), none] [.int z_3174, .int (9 : Int32), .ref (q0 + 33)] h_3172 Q
  obtain ⟨v_3175, e_3175, e⟩ := Option.bind_eq_some_iff.mp e
  refine Rn.call hT rfl rfl rfl (Nat.le_of_ble_eq_true rfl) rfl (RX12_bits (by omega) R_3172 p_3174 e_3175 (fun z_3175 p_3175 => ?_))
  show Rn d _ _ 188 [some (.ref q0), none, some (.int m2), none, some (.int m4), some (.int m5), some (.int m6), some (.int m7), none] [.int z_3175, .int (9 : Int32), .ref (q0 + 33)] h_3172 Q
  refine Rn.n hT 1 (pc' := 189) (L' := [some (.ref q0), none, some (.int m2), none, some (.int m4), some (.int m5), some (.int m6), some (.int m7), none]) (st' := [.long ((z_3175).toInt64), .int (9 : Int32), .ref (q0 + 33)]) rfl ?_
  obtain ⟨s_3176, e_3177, e⟩ := Option.bind_eq_some_iff.mp e
  obtain ⟨h_3176, g_3177, R_3176⟩ := rp_wJ R_3172 (T12_46 t0) (T12_46l t0) L32_9 (ti_j p_3175) e_3177
  refine Rn.hp hT rfl rfl (wJ_hp g_3177) ?_
  refine Rn.n hT 1 (pc' := 191) (L' := [some (.ref q0), none, some (.int m2), none, some (.int m4), some (.int m5), some (.int m6), some (.int m7), none]) (st' := [.ref q0]) rfl ?_
  refine Rn.hp hT rfl rfl (gR_hp (rp_gR R_3176 (T12_o t0) rfl)) ?_
  refine Rn.n hT 2 (pc' := 197) (L' := [some (.ref q0), none, some (.int m2), none, some (.int m4), some (.int m5), some (.int m6), some (.int m7), none]) (st' := [.ref q0, .int (10 : Int32), .ref (q0 + 33)]) rfl ?_
  refine Rn.hp hT rfl rfl (gR_hp (rp_gR R_3176 (T12_o t0) rfl)) ?_
  refine Rn.n hT 1 (pc' := 202) (L' := [some (.ref q0), none, some (.int m2), none, some (.int m4), some (.int m5), some (.int m6), some (.int m7), none]) (st' := [.int (6 : Int32), .ref (q0 + 1), .int (10 : Int32), .ref (q0 + 33)]) rfl ?_
  obtain ⟨v_3178, e_3178, e⟩ := Option.bind_eq_some_iff.mp e
  obtain ⟨z_3178, g_3178, p_3178⟩ := rp_aI R_3176 (T12_1 t0) (T12_1l t0) L32_6 e_3178
  refine Rn.hp hT rfl rfl (aI_hp g_3178) ?_
  refine Rn.n hT 1 (pc' := 204) (L' := [some (.ref q0), none, some (.int m2), none, some (.int m4), some (.int m5), some (.int m6), some (.int m7), none]) (st' := [.long ((z_3178).toInt64), .int (10 : Int32), .ref (q0 + 33)]) rfl ?_
  obtain ⟨s_3179, e_3180, e⟩ := Option.bind_eq_some_iff.mp e
  obtain ⟨h_3179, g_3180, R_3179⟩ := rp_wJ R_3176 (T12_46 t0) (T12_46l t0) L32_10 (ti_j p_3178) e_3180
  refine Rn.hp hT rfl rfl (wJ_hp g_3180) ?_
  refine Rn.n hT 1 (pc' := 206) (L' := [some (.ref q0), none, some (.int m2), none, some (.int m4), some (.int m5), some (.int m6), some (.int m7), none]) (st' := [.ref q0]) rfl ?_
  refine Rn.hp hT rfl rfl (gR_hp (rp_gR R_3179 (T12_o t0) rfl)) ?_
  refine Rn.n hT 3 (pc' := 214) (L' := [some (.ref q0), none, some (.int m2), none, some (.int m4), some (.int m5), some (.int m6), some (.int m7), none]) (st' := [.long ((m4).toInt64), .int (11 : Int32), .ref (q0 + 33)]) rfl ?_
  obtain ⟨s_3181, e_3182, e⟩ := Option.bind_eq_some_iff.mp e
  obtain ⟨h_3181, g_3182, R_3181⟩ := rp_wJ R_3179 (T12_46 t0) (T12_46l t0) L32_11 (ti_j p4) e_3182
  refine Rn.hp hT rfl rfl (wJ_hp g_3182) ?_
  refine Rn.n hT 1 (pc' := 216) (L' := [some (.ref q0), none, some (.int m2), none, some (.int m4), some (.int m5), some (.int m6), some (.int m7), none]) (st' := [.ref q0]) rfl ?_
  refine Rn.hp hT rfl rfl (gR_hp (rp_gR R_3181 (T12_o t0) rfl)) ?_
  refine Rn.n hT 3 (pc' := 224) (L' := [some (.ref q0), none, some (.int m2), none, some (.int m4), some (.int m5), some (.int m6), some (.int m7), none]) (st' := [.long ((m5).toInt64), .int (12 : Int32), .ref (q0 + 33)]) rfl ?_
  obtain ⟨s_3183, e_3184, e⟩ := Option.bind_eq_some_iff.mp e
  obtain ⟨h_3183, g_3184, R_3183⟩ := rp_wJ R_3181 (T12_46 t0) (T12_46l t0) L32_12 (ti_j p5) e_3184
  refine Rn.hp hT rfl rfl (wJ_hp g_3184) ?_
  refine Rn.n hT 4 (pc' := 232) (L' := [some (.ref q0), none, some (.int m2), none, some (.int m4), some (.int m5), some (.int m6), some (.int m7), some (.int ((12 : Int32) * m6))]) (st' := []) rfl ?_
  refine Rn.weak (ll_s (ll_n (ll_n (ll_n (ll_n (ll_n (ll_s (ll_n (ll_s ll_e))))))))) (RX12_isBarred_l232 hd t0 p6 (fun h_3185 s_3185 R_3185 e => ?_) hq N h_3183 s_3183 R_3183 ((12 : Int32) * m6) (w32 (12 * x6)) (ti_mul L32_12 p6) e)
  try dsimp only at e
  refine Rn.n hT 1 (pc' := 284) (L' := [none, none, none, none, none, none, none, none, none]) (st' := [.int (0 : Int32)]) rfl ?_
  obtain rfl := Option.some.inj e
  exact Rn.ret hT rfl rfl rfl (hq (0 : Int32) h_3185 L32_0 R_3185)
def FX12_isBarred_b56 (N : Nat) (s : iv_M) (q0 : Nat) (x1 : Int) (x2 : Int) (x3 : Int) (x4 : Int) (x5 : Int) (x6 : Int) (xs0 : Int) : Option (Int × iv_M) := ((wr s (q0 + 33) 13 0 x1).bind fun s_3151 => ((wr s_3151 (q0 + 33) 13 1 x2).bind fun s_3153 => (if x1 = 2 then (FX12_isBarred_b92 N s_3153 q0 x2 x4 x5 x6 xs0 x3 2 (q0 + 33)) else (FX12_isBarred_b92 N s_3153 q0 x2 x4 x5 x6 xs0 99 2 (q0 + 33)))))
set_option maxRecDepth 10000 in
set_option maxHeartbeats 4000000 in
theorem RX12_isBarred_b56 {d N nc Ls : Nat} {Xs : Nat → Int32} (hd : 4 ≤ d) {h : iv_H} {s : iv_M} (hR : Rep nc Ls Xs h s) {q0 : Nat} (t0 : T12 nc q0) {m1 : Int32} {x1 : Int} (p1 : m1.toInt = x1) {m2 : Int32} {x2 : Int} (p2 : m2.toInt = x2) {m3 : Int32} {x3 : Int} (p3 : m3.toInt = x3) {m4 : Int32} {x4 : Int} (p4 : m4.toInt = x4) {m5 : Int32} {x5 : Int} (p5 : m5.toInt = x5) {m6 : Int32} {x6 : Int} (p6 : m6.toInt = x6) {ms0 : Int32} {xs0 : Int} (ps0 : ms0.toInt = xs0) {r : Int × iv_M} {Q : Option Value → iv_H → Prop} (hq : ∀ (z : Int32) (h1 : iv_H), z.toInt = r.1 → Rep nc Ls Xs h1 r.2 → Q (some (.int z)) h1) (e : FX12_isBarred_b56 N s q0 x1 x2 x3 x4 x5 x6 xs0 = some r) : Rn d 255 (some .boolean) 56 [some (.ref q0), some (.int m1), some (.int m2), some (.int m3), some (.int m4), some (.int m5), some (.int m6), none, none] [.int ms0] h Q := by
  have hT := hX12_isBarred
  unfold FX12_isBarred_b56 at e
  refine Rn.n hT 2 (pc' := 59) (L' := [some (.ref q0), some (.int m1), some (.int m2), some (.int m3), some (.int m4), some (.int m5), some (.int m6), some (.int ms0), none]) (st' := [.ref q0]) rfl ?_
  refine Rn.hp hT rfl rfl (gR_hp (rp_gR hR (T12_o t0) rfl)) ?_
  refine Rn.n hT 3 (pc' := 65) (L' := [some (.ref q0), some (.int m1), some (.int m2), some (.int m3), some (.int m4), some (.int m5), some (.int m6), some (.int ms0), none]) (st' := [.long ((m1).toInt64), .int (0 : Int32), .ref (q0 + 33)]) rfl ?_
  obtain ⟨s_3151, e_3152, e⟩ := Option.bind_eq_some_iff.mp e
  obtain ⟨h_3151, g_3152, R_3151⟩ := rp_wJ hR (T12_46 t0) (T12_46l t0) L32_0 (ti_j p1) e_3152
  refine Rn.hp hT rfl rfl (wJ_hp g_3152) ?_
  refine Rn.n hT 1 (pc' := 67) (L' := [some (.ref q0), some (.int m1), some (.int m2), some (.int m3), some (.int m4), some (.int m5), some (.int m6), some (.int ms0), none]) (st' := [.ref q0]) rfl ?_
  refine Rn.hp hT rfl rfl (gR_hp (rp_gR R_3151 (T12_o t0) rfl)) ?_
  refine Rn.n hT 3 (pc' := 73) (L' := [some (.ref q0), some (.int m1), some (.int m2), some (.int m3), some (.int m4), some (.int m5), some (.int m6), some (.int ms0), none]) (st' := [.long ((m2).toInt64), .int (1 : Int32), .ref (q0 + 33)]) rfl ?_
  obtain ⟨s_3153, e_3154, e⟩ := Option.bind_eq_some_iff.mp e
  obtain ⟨h_3153, g_3154, R_3153⟩ := rp_wJ R_3151 (T12_46 t0) (T12_46l t0) L32_1 (ti_j p2) e_3154
  refine Rn.hp hT rfl rfl (wJ_hp g_3154) ?_
  refine Rn.n hT 1 (pc' := 75) (L' := [some (.ref q0), some (.int m1), some (.int m2), some (.int m3), some (.int m4), some (.int m5), some (.int m6), some (.int ms0), none]) (st' := [.ref q0]) rfl ?_
  refine Rn.hp hT rfl rfl (gR_hp (rp_gR R_3153 (T12_o t0) rfl)) ?_
  refine Rn.n hT 3 (pc' := 81) (L' := [some (.ref q0), some (.int m1), some (.int m2), some (.int m3), some (.int m4), some (.int m5), some (.int m6), some (.int ms0), none]) (st' := [.int (2 : Int32), .int m1, .int (2 : Int32), .ref (q0 + 33)]) rfl ?_
  by_cases c_3155 : x1 = 2
  · rw [if_pos c_3155] at e
    refine Rn.bf hT rfl rfl rfl (decide_eq_false (fun z => z ((ti_e p1 L32_2).mpr c_3155))) ?_
    refine Rn.n hT 3 (pc' := 92) (L' := [some (.ref q0), some (.int m1), some (.int m2), some (.int m3), some (.int m4), some (.int m5), some (.int m6), some (.int ms0), none]) (st' := [.long ((m3).toInt64), .int (2 : Int32), .ref (q0 + 33)]) rfl ?_
    exact Rn.weak (ll_s (ll_n (ll_s (ll_n (ll_s (ll_s (ll_s (ll_s (ll_n ll_e))))))))) (RX12_isBarred_b92 hd R_3153 t0 p2 p4 p5 p6 ps0 (ti_j p3) L32_2 (T12_46 t0) hq e)
  · rw [if_neg c_3155] at e
    refine Rn.bt hT rfl rfl rfl (decide_eq_true (fun z => c_3155 ((ti_e p1 L32_2).mp z))) ?_
    refine Rn.n hT 1 (pc' := 92) (L' := [some (.ref q0), some (.int m1), some (.int m2), some (.int m3), some (.int m4), some (.int m5), some (.int m6), some (.int ms0), none]) (st' := [.long (99 : Int64), .int (2 : Int32), .ref (q0 + 33)]) rfl ?_
    exact Rn.weak (ll_s (ll_n (ll_s (ll_n (ll_s (ll_s (ll_s (ll_s (ll_n ll_e))))))))) (RX12_isBarred_b92 hd R_3153 t0 p2 p4 p5 p6 ps0 L64_99 L32_2 (T12_46 t0) hq e)
def FX12_isBarred (N : Nat) (s : iv_M) (q0 : Nat) (x1 : Int) (x2 : Int) (x3 : Int) (x4 : Int) (x5 : Int) : Option (Int × iv_M) := ((rd s (q0 + 1) 14 12).bind fun v_3143 => (if v_3143 = (-1) then (some (0, s)) else (if x1 = 1 then ((rd s (q0 + 3) 12 x2).bind fun v_3149 => ((FX12_by N s q0 v_3149 x3).bind fun v_3150 => (FX12_isBarred_b56 N s q0 x1 x2 x3 x4 x5 v_3143 v_3150))) else (if x1 = 2 then ((rd s (q0 + 3) 12 x3).bind fun v_3148 => (FX12_isBarred_b56 N s q0 x1 x2 x3 x4 x5 v_3143 v_3148)) else ((rd s (q0 + 3) 12 x2).bind fun v_3147 => (FX12_isBarred_b56 N s q0 x1 x2 x3 x4 x5 v_3143 v_3147))))))
set_option maxRecDepth 10000 in
set_option maxHeartbeats 4000000 in
theorem RX12_isBarred {d N nc Ls : Nat} {Xs : Nat → Int32} (hd : 5 ≤ d) {h : iv_H} {s : iv_M} (hR : Rep nc Ls Xs h s) {q0 : Nat} (t0 : T12 nc q0) {m1 : Int32} {x1 : Int} (p1 : m1.toInt = x1) {m2 : Int32} {x2 : Int} (p2 : m2.toInt = x2) {m3 : Int32} {x3 : Int} (p3 : m3.toInt = x3) {m4 : Int32} {x4 : Int} (p4 : m4.toInt = x4) {m5 : Int32} {x5 : Int} (p5 : m5.toInt = x5) {r : Int × iv_M} {Q : Option Value → iv_H → Prop} (e : FX12_isBarred N s q0 x1 x2 x3 x4 x5 = some r) (hq : ∀ (z : Int32) (h1 : iv_H), z.toInt = r.1 → Rep nc Ls Xs h1 r.2 → Q (some (.int z)) h1) : Cl d 255 [.ref q0, .int m1, .int m2, .int m3, .int m4, .int m5] h Q := by
  obtain ⟨d, rfl⟩ : ∃ k, d = k + 1 := ⟨d - 1, by omega⟩
  have hd : 4 ≤ d := by omega
  have hT := hX12_isBarred
  unfold FX12_isBarred at e
  refine Cl.into (by decide) gX12_isBarred rfl ?_
  show Rn d 255 (some .boolean) 0 [some (.ref q0), some (.int m1), some (.int m2), some (.int m3), some (.int m4), some (.int m5), none, none, none] [] h Q
  refine Rn.n hT 1 (pc' := 1) (L' := [some (.ref q0), some (.int m1), some (.int m2), some (.int m3), some (.int m4), some (.int m5), none, none, none]) (st' := [.ref q0]) rfl ?_
  refine Rn.hp hT rfl rfl (gR_hp (rp_gR hR (T12_o t0) rfl)) ?_
  refine Rn.n hT 1 (pc' := 6) (L' := [some (.ref q0), some (.int m1), some (.int m2), some (.int m3), some (.int m4), some (.int m5), none, none, none]) (st' := [.int (12 : Int32), .ref (q0 + 1)]) rfl ?_
  obtain ⟨v_3143, e_3143, e⟩ := Option.bind_eq_some_iff.mp e
  obtain ⟨z_3143, g_3143, p_3143⟩ := rp_aI hR (T12_1 t0) (T12_1l t0) L32_12 e_3143
  refine Rn.hp hT rfl rfl (aI_hp g_3143) ?_
  refine Rn.n hT 3 (pc' := 12) (L' := [some (.ref q0), some (.int m1), some (.int m2), some (.int m3), some (.int m4), some (.int m5), some (.int z_3143), none, none]) (st' := [.int (-1 : Int32), .int z_3143]) rfl ?_
  by_cases c_3144 : v_3143 = (-1)
  · rw [if_pos c_3144] at e
    refine Rn.bf hT rfl rfl rfl (decide_eq_false (fun z => z ((ti_e p_3143 L32_m1).mpr c_3144))) ?_
    refine Rn.n hT 1 (pc' := 16) (L' := [some (.ref q0), some (.int m1), some (.int m2), some (.int m3), some (.int m4), some (.int m5), some (.int z_3143), none, none]) (st' := [.int (0 : Int32)]) rfl ?_
    obtain rfl := Option.some.inj e
    exact Rn.ret hT rfl rfl rfl (hq (0 : Int32) h L32_0 hR)
  · rw [if_neg c_3144] at e
    refine Rn.bt hT rfl rfl rfl (decide_eq_true (fun z => c_3144 ((ti_e p_3143 L32_m1).mp z))) ?_
    refine Rn.n hT 2 (pc' := 19) (L' := [some (.ref q0), some (.int m1), some (.int m2), some (.int m3), some (.int m4), some (.int m5), some (.int z_3143), none, none]) (st' := [.int (1 : Int32), .int m1]) rfl ?_
    by_cases c_3145 : x1 = 1
    · rw [if_pos c_3145] at e
      refine Rn.bf hT rfl rfl rfl (decide_eq_false (fun z => z ((ti_e p1 L32_1).mpr c_3145))) ?_
      refine Rn.n hT 2 (pc' := 24) (L' := [some (.ref q0), some (.int m1), some (.int m2), some (.int m3), some (.int m4), some (.int m5), some (.int z_3143), none, none]) (st' := [.ref q0, .ref q0]) rfl ?_
      refine Rn.hp hT rfl rfl (gR_hp (rp_gR hR (T12_o t0) rfl)) ?_
      refine Rn.n hT 1 (pc' := 28) (L' := [some (.ref q0), some (.int m1), some (.int m2), some (.int m3), some (.int m4), some (.int m5), some (.int z_3143), none, none]) (st' := [.int m2, .ref (q0 + 3), .ref q0]) rfl ?_
      obtain ⟨v_3149, e_3149, e⟩ := Option.bind_eq_some_iff.mp e
      obtain ⟨z_3149, g_3149, p_3149⟩ := rp_aI hR (T12_3 t0) (T12_3l t0) p2 e_3149
      refine Rn.hp hT rfl rfl (aI_hp g_3149) ?_
      refine Rn.n hT 1 (pc' := 30) (L' := [some (.ref q0), some (.int m1), some (.int m2), some (.int m3), some (.int m4), some (.int m5), some (.int z_3143), none, none]) (st' := [.int m3, .int z_3149, .ref q0]) rfl ?_
      obtain ⟨v_3150, e_3150, e⟩ := Option.bind_eq_some_iff.mp e
      refine Rn.call hT rfl rfl rfl (Nat.le_of_ble_eq_true rfl) (rcv_v gX12_by (by omega) (rp_ck hR (T12_o t0))) (RX12_by (by omega) hR t0 p_3149 p3 e_3150 (fun z_3150 p_3150 => ?_))
      show Rn d _ _ 33 [some (.ref q0), some (.int m1), some (.int m2), some (.int m3), some (.int m4), some (.int m5), some (.int z_3143), none, none] [.int z_3150] h Q
      refine Rn.n hT 1 (pc' := 56) (L' := [some (.ref q0), some (.int m1), some (.int m2), some (.int m3), some (.int m4), some (.int m5), some (.int z_3143), none, none]) (st' := [.int z_3150]) rfl ?_
      exact Rn.weak (ll_s (ll_s (ll_s (ll_s (ll_s (ll_s (ll_s (ll_n (ll_n ll_e))))))))) (RX12_isBarred_b56 hd hR t0 p1 p2 p3 p4 p5 p_3143 p_3150 hq e)
    · rw [if_neg c_3145] at e
      refine Rn.bt hT rfl rfl rfl (decide_eq_true (fun z => c_3145 ((ti_e p1 L32_1).mp z))) ?_
      refine Rn.n hT 2 (pc' := 38) (L' := [some (.ref q0), some (.int m1), some (.int m2), some (.int m3), some (.int m4), some (.int m5), some (.int z_3143), none, none]) (st' := [.int (2 : Int32), .int m1]) rfl ?_
      by_cases c_3146 : x1 = 2
      · rw [if_pos c_3146] at e
        refine Rn.bf hT rfl rfl rfl (decide_eq_false (fun z => z ((ti_e p1 L32_2).mpr c_3146))) ?_
        refine Rn.n hT 1 (pc' := 42) (L' := [some (.ref q0), some (.int m1), some (.int m2), some (.int m3), some (.int m4), some (.int m5), some (.int z_3143), none, none]) (st' := [.ref q0]) rfl ?_
        refine Rn.hp hT rfl rfl (gR_hp (rp_gR hR (T12_o t0) rfl)) ?_
        refine Rn.n hT 1 (pc' := 46) (L' := [some (.ref q0), some (.int m1), some (.int m2), some (.int m3), some (.int m4), some (.int m5), some (.int z_3143), none, none]) (st' := [.int m3, .ref (q0 + 3)]) rfl ?_
        obtain ⟨v_3148, e_3148, e⟩ := Option.bind_eq_some_iff.mp e
        obtain ⟨z_3148, g_3148, p_3148⟩ := rp_aI hR (T12_3 t0) (T12_3l t0) p3 e_3148
        refine Rn.hp hT rfl rfl (aI_hp g_3148) ?_
        refine Rn.n hT 1 (pc' := 56) (L' := [some (.ref q0), some (.int m1), some (.int m2), some (.int m3), some (.int m4), some (.int m5), some (.int z_3143), none, none]) (st' := [.int z_3148]) rfl ?_
        exact Rn.weak (ll_s (ll_s (ll_s (ll_s (ll_s (ll_s (ll_s (ll_n (ll_n ll_e))))))))) (RX12_isBarred_b56 hd hR t0 p1 p2 p3 p4 p5 p_3143 p_3148 hq e)
      · rw [if_neg c_3146] at e
        refine Rn.bt hT rfl rfl rfl (decide_eq_true (fun z => c_3146 ((ti_e p1 L32_2).mp z))) ?_
        refine Rn.n hT 1 (pc' := 51) (L' := [some (.ref q0), some (.int m1), some (.int m2), some (.int m3), some (.int m4), some (.int m5), some (.int z_3143), none, none]) (st' := [.ref q0]) rfl ?_
        refine Rn.hp hT rfl rfl (gR_hp (rp_gR hR (T12_o t0) rfl)) ?_
        refine Rn.n hT 1 (pc' := 55) (L' := [some (.ref q0), some (.int m1), some (.int m2), some (.int m3), some (.int m4), some (.int m5), some (.int z_3143), none, none]) (st' := [.int m2, .ref (q0 + 3)]) rfl ?_
        obtain ⟨v_3147, e_3147, e⟩ := Option.bind_eq_some_iff.mp e
        obtain ⟨z_3147, g_3147, p_3147⟩ := rp_aI hR (T12_3 t0) (T12_3l t0) p2 e_3147
        refine Rn.hp hT rfl rfl (aI_hp g_3147) ?_
        exact Rn.weak (ll_s (ll_s (ll_s (ll_s (ll_s (ll_s (ll_s (ll_n (ll_n ll_e))))))))) (RX12_isBarred_b56 hd hR t0 p1 p2 p3 p4 p5 p_3143 p_3147 hq e)
set_option maxRecDepth 10000 in
theorem hX12_lawOf : iv_Tb 256 tX12_lawOf := iv_tb_of (m := mX12_lawOf) rfl
set_option maxRecDepth 10000 in
theorem gX12_lawOf : PG.2 256 = some mX12_lawOf := iv_pi_of (t := tX12_lawOf) rfl (by decide)
def FX12_lawOf_b40 (N : Nat) (s : iv_M)   : Option (Int × iv_M) := (some (1, s))
set_option maxRecDepth 10000 in
set_option maxHeartbeats 4000000 in
theorem RX12_lawOf_b40 {d N nc Ls : Nat} {Xs : Nat → Int32} (hd : 6 ≤ d) {h : iv_H} {s : iv_M} (hR : Rep nc Ls Xs h s)   {r : Int × iv_M} {Q : Option Value → iv_H → Prop} (hq : ∀ (z : Int32) (h1 : iv_H), z.toInt = r.1 → Rep nc Ls Xs h1 r.2 → Q (some (.int z)) h1) (e : FX12_lawOf_b40 N s   = some r) : Rn d 256 (some .int) 40 [none, none, none, none, none] [] h Q := by
  have hT := hX12_lawOf
  unfold FX12_lawOf_b40 at e
  refine Rn.n hT 1 (pc' := 41) (L' := [none, none, none, none, none]) (st' := [.int (1 : Int32)]) rfl ?_
  obtain rfl := Option.some.inj e
  exact Rn.ret hT rfl rfl rfl (hq (1 : Int32) h L32_1 hR)
def FX12_lawOf_b118 (N : Nat) (s : iv_M)   : Option (Int × iv_M) := (some (3, s))
set_option maxRecDepth 10000 in
set_option maxHeartbeats 4000000 in
theorem RX12_lawOf_b118 {d N nc Ls : Nat} {Xs : Nat → Int32} (hd : 6 ≤ d) {h : iv_H} {s : iv_M} (hR : Rep nc Ls Xs h s)   {r : Int × iv_M} {Q : Option Value → iv_H → Prop} (hq : ∀ (z : Int32) (h1 : iv_H), z.toInt = r.1 → Rep nc Ls Xs h1 r.2 → Q (some (.int z)) h1) (e : FX12_lawOf_b118 N s   = some r) : Rn d 256 (some .int) 118 [none, none, none, none, none] [] h Q := by
  have hT := hX12_lawOf
  unfold FX12_lawOf_b118 at e
  refine Rn.n hT 1 (pc' := 119) (L' := [none, none, none, none, none]) (st' := [.int (3 : Int32)]) rfl ?_
  obtain rfl := Option.some.inj e
  exact Rn.ret hT rfl rfl rfl (hq (3 : Int32) h L32_3 hR)
def FX12_lawOf_b141 (N : Nat) (s : iv_M)  (xs0 : Int) : Option (Int × iv_M) := (some (xs0, s))
set_option maxRecDepth 10000 in
set_option maxHeartbeats 4000000 in
theorem RX12_lawOf_b141 {d N nc Ls : Nat} {Xs : Nat → Int32} (hd : 6 ≤ d) {h : iv_H} {s : iv_M} (hR : Rep nc Ls Xs h s)  {ms0 : Int32} {xs0 : Int} (ps0 : ms0.toInt = xs0) {r : Int × iv_M} {Q : Option Value → iv_H → Prop} (hq : ∀ (z : Int32) (h1 : iv_H), z.toInt = r.1 → Rep nc Ls Xs h1 r.2 → Q (some (.int z)) h1) (e : FX12_lawOf_b141 N s  xs0 = some r) : Rn d 256 (some .int) 141 [none, none, none, none, none] [.int ms0] h Q := by
  have hT := hX12_lawOf
  unfold FX12_lawOf_b141 at e
  obtain rfl := Option.some.inj e
  exact Rn.ret hT rfl rfl rfl (hq ms0 h ps0 hR)
def FX12_lawOf_b120 (N : Nat) (s : iv_M) (q0 : Nat) (x1 : Int) (x2 : Int) (x3 : Int) (x4 : Int)  : Option (Int × iv_M) := ((FX12_isBarred N s q0 x1 x2 x3 x4 (s q0 48)).bind fun r_3222 => (fun (v_3222 : Int) (s_3223 : iv_M) => (if v_3222 = 0 then (FX12_lawOf_b141 N s_3223 0) else (FX12_lawOf_b141 N s_3223 4))) r_3222.1 r_3222.2)
set_option maxRecDepth 10000 in
set_option maxHeartbeats 4000000 in
theorem RX12_lawOf_b120 {d N nc Ls : Nat} {Xs : Nat → Int32} (hd : 6 ≤ d) {h : iv_H} {s : iv_M} (hR : Rep nc Ls Xs h s) {q0 : Nat} (t0 : T12 nc q0) {m1 : Int32} {x1 : Int} (p1 : m1.toInt = x1) {m2 : Int32} {x2 : Int} (p2 : m2.toInt = x2) {m3 : Int32} {x3 : Int} (p3 : m3.toInt = x3) {m4 : Int32} {x4 : Int} (p4 : m4.toInt = x4)  {r : Int × iv_M} {Q : Option Value → iv_H → Prop} (hq : ∀ (z : Int32) (h1 : iv_H), z.toInt = r.1 → Rep nc Ls Xs h1 r.2 → Q (some (.int z)) h1) (e : FX12_lawOf_b120 N s q0 x1 x2 x3 x4  = some r) : Rn d 256 (some .int) 120 [some (.ref q0), some (.int m1), some (.int m2), some (.int m3), some (.int m4)] [] h Q := by
  have hT := hX12_lawOf
  unfold FX12_lawOf_b120 at e
  refine Rn.n hT 6 (pc' := 127) (L' := [some (.ref q0), some (.int m1), some (.int m2), some (.int m3), some (.int m4)]) (st' := [.ref q0, .int m4, .int m3, .int m2, .int m1, .ref q0]) rfl ?_
  obtain ⟨z_3221, g_3221, p_3221⟩ : ∃ z : Int32, gI h 12 48 q0 = some z ∧ z.toInt = s q0 48 := rp_gI (k := 48) hR (T12_o t0) rfl
  refine Rn.hp hT rfl rfl (gI_hp g_3221) ?_
  obtain ⟨⟨v_3222, s_3223⟩, e_3222, e⟩ := Option.bind_eq_some_iff.mp e
  try dsimp only at e
  try dsimp only at e
  refine Rn.call hT rfl rfl rfl (Nat.le_of_ble_eq_true rfl) (rcv_v gX12_isBarred (by omega) (rp_ck hR (T12_o t0))) (RX12_isBarred (by omega) hR t0 p1 p2 p3 p4 p_3221 e_3222 (fun z_3222 h_3223 p_3222 R_3223 => ?_))
  show Rn d _ _ 133 [some (.ref q0), some (.int m1), some (.int m2), some (.int m3), some (.int m4)] [.int z_3222] h_3223 Q
  by_cases c_3224 : v_3222 = 0
  · rw [if_pos c_3224] at e
    refine Rn.bt hT rfl rfl rfl (decide_eq_true ((ti_e p_3222 L32_0).mpr c_3224)) ?_
    refine Rn.n hT 1 (pc' := 141) (L' := [some (.ref q0), some (.int m1), some (.int m2), some (.int m3), some (.int m4)]) (st' := [.int (0 : Int32)]) rfl ?_
    exact Rn.weak (ll_n (ll_n (ll_n (ll_n (ll_n ll_e))))) (RX12_lawOf_b141 hd R_3223 L32_0 hq e)
  · rw [if_neg c_3224] at e
    refine Rn.bf hT rfl rfl rfl (decide_eq_false (fun z => c_3224 ((ti_e p_3222 L32_0).mp z))) ?_
    refine Rn.n hT 2 (pc' := 141) (L' := [some (.ref q0), some (.int m1), some (.int m2), some (.int m3), some (.int m4)]) (st' := [.int (4 : Int32)]) rfl ?_
    exact Rn.weak (ll_n (ll_n (ll_n (ll_n (ll_n ll_e))))) (RX12_lawOf_b141 hd R_3223 L32_4 hq e)
def FX12_lawOf_b101 (N : Nat) (s : iv_M) (q0 : Nat) (x1 : Int) (x2 : Int) (x3 : Int) (x4 : Int)  : Option (Int × iv_M) := ((rd s (q0 + 1) 14 5).bind fun v_3217 => (if v_3217 = 2 then (if (s q0 48) ≤ 0 then (FX12_lawOf_b120 N s q0 x1 x2 x3 x4) else (FX12_lawOf_b118 N s)) else (FX12_lawOf_b120 N s q0 x1 x2 x3 x4)))
set_option maxRecDepth 10000 in
set_option maxHeartbeats 4000000 in
theorem RX12_lawOf_b101 {d N nc Ls : Nat} {Xs : Nat → Int32} (hd : 6 ≤ d) {h : iv_H} {s : iv_M} (hR : Rep nc Ls Xs h s) {q0 : Nat} (t0 : T12 nc q0) {m1 : Int32} {x1 : Int} (p1 : m1.toInt = x1) {m2 : Int32} {x2 : Int} (p2 : m2.toInt = x2) {m3 : Int32} {x3 : Int} (p3 : m3.toInt = x3) {m4 : Int32} {x4 : Int} (p4 : m4.toInt = x4)  {r : Int × iv_M} {Q : Option Value → iv_H → Prop} (hq : ∀ (z : Int32) (h1 : iv_H), z.toInt = r.1 → Rep nc Ls Xs h1 r.2 → Q (some (.int z)) h1) (e : FX12_lawOf_b101 N s q0 x1 x2 x3 x4  = some r) : Rn d 256 (some .int) 101 [some (.ref q0), some (.int m1), some (.int m2), some (.int m3), some (.int m4)] [] h Q := by
  have hT := hX12_lawOf
  unfold FX12_lawOf_b101 at e
  refine Rn.n hT 1 (pc' := 102) (L' := [some (.ref q0), some (.int m1), some (.int m2), some (.int m3), some (.int m4)]) (st' := [.ref q0]) rfl ?_
  refine Rn.hp hT rfl rfl (gR_hp (rp_gR hR (T12_o t0) rfl)) ?_
  refine Rn.n hT 1 (pc' := 106) (L' := [some (.ref q0), some (.int m1), some (.int m2), some (.int m3), some (.int m4)]) (st' := [.int (5 : Int32), .ref (q0 + 1)]) rfl ?_
  obtain ⟨v_3217, e_3217, e⟩ := Option.bind_eq_some_iff.mp e
  obtain ⟨z_3217, g_3217, p_3217⟩ := rp_aI hR (T12_1 t0) (T12_1l t0) L32_5 e_3217
  refine Rn.hp hT rfl rfl (aI_hp g_3217) ?_
  refine Rn.n hT 1 (pc' := 108) (L' := [some (.ref q0), some (.int m1), some (.int m2), some (.int m3), some (.int m4)]) (st' := [.int (2 : Int32), .int z_3217]) rfl ?_
  by_cases c_3218 : v_3217 = 2
  · rw [if_pos c_3218] at e
    refine Rn.bf hT rfl rfl rfl (decide_eq_false (fun z => z ((ti_e p_3217 L32_2).mpr c_3218))) ?_
    refine Rn.n hT 1 (pc' := 112) (L' := [some (.ref q0), some (.int m1), some (.int m2), some (.int m3), some (.int m4)]) (st' := [.ref q0]) rfl ?_
    obtain ⟨z_3219, g_3219, p_3219⟩ : ∃ z : Int32, gI h 12 48 q0 = some z ∧ z.toInt = s q0 48 := rp_gI (k := 48) hR (T12_o t0) rfl
    refine Rn.hp hT rfl rfl (gI_hp g_3219) ?_
    by_cases c_3220 : (s q0 48) ≤ 0
    · rw [if_pos c_3220] at e
      refine Rn.bt hT rfl rfl rfl (decide_eq_true ((ti_le p_3219 L32_0).mpr c_3220)) ?_
      exact Rn.weak (ll_s (ll_s (ll_s (ll_s (ll_s ll_e))))) (RX12_lawOf_b120 hd hR t0 p1 p2 p3 p4 hq e)
    · rw [if_neg c_3220] at e
      refine Rn.bf hT rfl rfl rfl (decide_eq_false (fun z => c_3220 ((ti_le p_3219 L32_0).mp z))) ?_
      exact Rn.weak (ll_n (ll_n (ll_n (ll_n (ll_n ll_e))))) (RX12_lawOf_b118 hd hR hq e)
  · rw [if_neg c_3218] at e
    refine Rn.bt hT rfl rfl rfl (decide_eq_true (fun z => c_3218 ((ti_e p_3217 L32_2).mp z))) ?_
    exact Rn.weak (ll_s (ll_s (ll_s (ll_s (ll_s ll_e))))) (RX12_lawOf_b120 hd hR t0 p1 p2 p3 p4 hq e)
def FX12_lawOf_b42 (N : Nat) (s : iv_M) (q0 : Nat) (x1 : Int) (x2 : Int) (x3 : Int)  : Option (Int × iv_M) := ((FX12_canBe N s q0 x1 x2 x3).bind fun v_3201 => (if v_3201 = 0 then (some (2, s)) else ((FX12_mismatches N s q0).bind fun r_3203 => (fun (v_3203 : Int) (s_3204 : iv_M) => ((FX12_walks N s_3204 q0 x1 x2 x3).bind fun s_3206 => ((FX12_mismatches N s_3206 q0).bind fun r_3207 => (fun (v_3207 : Int) (s_3208 : iv_M) => ((pt s_3208 q0 48 v_3207).bind fun s_3209 => ((FX12_walksBack N s_3209 q0 x1 x2 x3).bind fun s_3212 => ((rd s_3212 (q0 + 1) 14 5).bind fun v_3213 => (if v_3213 = 1 then (if v_3203 < (s_3212 q0 48) then (FX12_lawOf_b118 N s_3212) else (FX12_lawOf_b101 N s_3212 q0 x1 x2 x3 v_3203)) else (FX12_lawOf_b101 N s_3212 q0 x1 x2 x3 v_3203)))))) r_3207.1 r_3207.2))) r_3203.1 r_3203.2)))
set_option maxRecDepth 10000 in
set_option maxHeartbeats 4000000 in
theorem RX12_lawOf_b42 {d N nc Ls : Nat} {Xs : Nat → Int32} (hd : 6 ≤ d) {h : iv_H} {s : iv_M} (hR : Rep nc Ls Xs h s) {q0 : Nat} (t0 : T12 nc q0) {m1 : Int32} {x1 : Int} (p1 : m1.toInt = x1) {m2 : Int32} {x2 : Int} (p2 : m2.toInt = x2) {m3 : Int32} {x3 : Int} (p3 : m3.toInt = x3)  {r : Int × iv_M} {Q : Option Value → iv_H → Prop} (hq : ∀ (z : Int32) (h1 : iv_H), z.toInt = r.1 → Rep nc Ls Xs h1 r.2 → Q (some (.int z)) h1) (e : FX12_lawOf_b42 N s q0 x1 x2 x3  = some r) : Rn d 256 (some .int) 42 [some (.ref q0), some (.int m1), some (.int m2), some (.int m3), none] [] h Q := by
  have hT := hX12_lawOf
  unfold FX12_lawOf_b42 at e
  refine Rn.n hT 4 (pc' := 46) (L' := [some (.ref q0), some (.int m1), some (.int m2), some (.int m3), none]) (st' := [.int m3, .int m2, .int m1, .ref q0]) rfl ?_
  obtain ⟨v_3201, e_3201, e⟩ := Option.bind_eq_some_iff.mp e
  refine Rn.call hT rfl rfl rfl (Nat.le_of_ble_eq_true rfl) (rcv_v gX12_canBe (by omega) (rp_ck hR (T12_o t0))) (RX12_canBe (by omega) hR t0 p1 p2 p3 e_3201 (fun z_3201 p_3201 => ?_))
  show Rn d _ _ 49 [some (.ref q0), some (.int m1), some (.int m2), some (.int m3), none] [.int z_3201] h Q
  by_cases c_3202 : v_3201 = 0
  · rw [if_pos c_3202] at e
    refine Rn.bf hT rfl rfl rfl (decide_eq_false (fun z => z ((ti_e p_3201 L32_0).mpr c_3202))) ?_
    refine Rn.n hT 1 (pc' := 53) (L' := [some (.ref q0), some (.int m1), some (.int m2), some (.int m3), none]) (st' := [.int (2 : Int32)]) rfl ?_
    obtain rfl := Option.some.inj e
    exact Rn.ret hT rfl rfl rfl (hq (2 : Int32) h L32_2 hR)
  · rw [if_neg c_3202] at e
    refine Rn.bt hT rfl rfl rfl (decide_eq_true (fun z => c_3202 ((ti_e p_3201 L32_0).mp z))) ?_
    refine Rn.n hT 1 (pc' := 55) (L' := [some (.ref q0), some (.int m1), some (.int m2), some (.int m3), none]) (st' := [.ref q0]) rfl ?_
    obtain ⟨⟨v_3203, s_3204⟩, e_3203, e⟩ := Option.bind_eq_some_iff.mp e
    try dsimp only at e
    try dsimp only at e
    refine Rn.call hT rfl rfl rfl (Nat.le_of_ble_eq_true rfl) (rcv_v gX12_mismatches (by omega) (rp_ck hR (T12_o t0))) (RX12_mismatches (by omega) hR t0 e_3203 (fun z_3203 h_3204 p_3203 R_3204 => ?_))
    show Rn d _ _ 58 [some (.ref q0), some (.int m1), some (.int m2), some (.int m3), none] [.int z_3203] h_3204 Q
    refine Rn.n hT 5 (pc' := 64) (L' := [some (.ref q0), some (.int m1), some (.int m2), some (.int m3), some (.int z_3203)]) (st' := [.int m3, .int m2, .int m1, .ref q0]) rfl ?_
    obtain ⟨s_3206, e_3205, e⟩ := Option.bind_eq_some_iff.mp e
    refine Rn.call hT rfl rfl rfl (Nat.le_of_ble_eq_true rfl) (rcv_v gX12_walks (by omega) (rp_ck R_3204 (T12_o t0))) (RX12_walks (by omega) R_3204 t0 p1 p2 p3 e_3205 (fun h_3206 R_3206 => ?_))
    show Rn d _ _ 67 [some (.ref q0), some (.int m1), some (.int m2), some (.int m3), some (.int z_3203)] [] h_3206 Q
    refine Rn.n hT 2 (pc' := 69) (L' := [some (.ref q0), some (.int m1), some (.int m2), some (.int m3), some (.int z_3203)]) (st' := [.ref q0, .ref q0]) rfl ?_
    obtain ⟨⟨v_3207, s_3208⟩, e_3207, e⟩ := Option.bind_eq_some_iff.mp e
    try dsimp only at e
    try dsimp only at e
    refine Rn.call hT rfl rfl rfl (Nat.le_of_ble_eq_true rfl) (rcv_v gX12_mismatches (by omega) (rp_ck R_3206 (T12_o t0))) (RX12_mismatches (by omega) R_3206 t0 e_3207 (fun z_3207 h_3208 p_3207 R_3208 => ?_))
    show Rn d _ _ 72 [some (.ref q0), some (.int m1), some (.int m2), some (.int m3), some (.int z_3203)] [.int z_3207, .ref q0] h_3208 Q
    obtain ⟨s_3209, e_3210, e⟩ := Option.bind_eq_some_iff.mp e
    obtain ⟨h_3209, g_3210, R_3209⟩ := rp_pI (ci := 12) (k := 48) R_3208 (T12_o t0) rfl rfl p_3207 e_3210
    refine Rn.hp hT rfl rfl (pV_hp rfl g_3210) ?_
    refine Rn.n hT 4 (pc' := 79) (L' := [some (.ref q0), some (.int m1), some (.int m2), some (.int m3), some (.int z_3203)]) (st' := [.int m3, .int m2, .int m1, .ref q0]) rfl ?_
    obtain ⟨s_3212, e_3211, e⟩ := Option.bind_eq_some_iff.mp e
    refine Rn.call hT rfl rfl rfl (Nat.le_of_ble_eq_true rfl) (rcv_v gX12_walksBack (by omega) (rp_ck R_3209 (T12_o t0))) (RX12_walksBack (by omega) R_3209 t0 p1 p2 p3 e_3211 (fun h_3212 R_3212 => ?_))
    show Rn d _ _ 82 [some (.ref q0), some (.int m1), some (.int m2), some (.int m3), some (.int z_3203)] [] h_3212 Q
    refine Rn.n hT 1 (pc' := 83) (L' := [some (.ref q0), some (.int m1), some (.int m2), some (.int m3), some (.int z_3203)]) (st' := [.ref q0]) rfl ?_
    refine Rn.hp hT rfl rfl (gR_hp (rp_gR R_3212 (T12_o t0) rfl)) ?_
    refine Rn.n hT 1 (pc' := 87) (L' := [some (.ref q0), some (.int m1), some (.int m2), some (.int m3), some (.int z_3203)]) (st' := [.int (5 : Int32), .ref (q0 + 1)]) rfl ?_
    obtain ⟨v_3213, e_3213, e⟩ := Option.bind_eq_some_iff.mp e
    obtain ⟨z_3213, g_3213, p_3213⟩ := rp_aI R_3212 (T12_1 t0) (T12_1l t0) L32_5 e_3213
    refine Rn.hp hT rfl rfl (aI_hp g_3213) ?_
    refine Rn.n hT 1 (pc' := 89) (L' := [some (.ref q0), some (.int m1), some (.int m2), some (.int m3), some (.int z_3203)]) (st' := [.int (1 : Int32), .int z_3213]) rfl ?_
    by_cases c_3214 : v_3213 = 1
    · rw [if_pos c_3214] at e
      refine Rn.bf hT rfl rfl rfl (decide_eq_false (fun z => z ((ti_e p_3213 L32_1).mpr c_3214))) ?_
      refine Rn.n hT 1 (pc' := 93) (L' := [some (.ref q0), some (.int m1), some (.int m2), some (.int m3), some (.int z_3203)]) (st' := [.ref q0]) rfl ?_
      obtain ⟨z_3215, g_3215, p_3215⟩ : ∃ z : Int32, gI h_3212 12 48 q0 = some z ∧ z.toInt = s_3212 q0 48 := rp_gI (k := 48) R_3212 (T12_o t0) rfl
      refine Rn.hp hT rfl rfl (gI_hp g_3215) ?_
      refine Rn.n hT 1 (pc' := 98) (L' := [some (.ref q0), some (.int m1), some (.int m2), some (.int m3), some (.int z_3203)]) (st' := [.int z_3203, .int z_3215]) rfl ?_
      by_cases c_3216 : v_3203 < (s_3212 q0 48)
      · rw [if_pos c_3216] at e
        refine Rn.bt hT rfl rfl rfl (decide_eq_true ((ti_l p_3203 p_3215).mpr c_3216)) ?_
        exact Rn.weak (ll_n (ll_n (ll_n (ll_n (ll_n ll_e))))) (RX12_lawOf_b118 hd R_3212 hq e)
      · rw [if_neg c_3216] at e
        refine Rn.bf hT rfl rfl rfl (decide_eq_false (fun z => c_3216 ((ti_l p_3203 p_3215).mp z))) ?_
        exact Rn.weak (ll_s (ll_s (ll_s (ll_s (ll_s ll_e))))) (RX12_lawOf_b101 hd R_3212 t0 p1 p2 p3 p_3203 hq e)
    · rw [if_neg c_3214] at e
      refine Rn.bt hT rfl rfl rfl (decide_eq_true (fun z => c_3214 ((ti_e p_3213 L32_1).mp z))) ?_
      exact Rn.weak (ll_s (ll_s (ll_s (ll_s (ll_s ll_e))))) (RX12_lawOf_b101 hd R_3212 t0 p1 p2 p3 p_3203 hq e)
def FX12_lawOf (N : Nat) (s : iv_M) (q0 : Nat) (x1 : Int) (x2 : Int) (x3 : Int) : Option (Int × iv_M) := ((rd s (q0 + 1) 14 4).bind fun v_3194 => (if (bAn (sr32 v_3194 (w32 (x1 - 1))) 1) = 0 then (FX12_lawOf_b40 N s) else ((rd s (q0 + 5) 12 x2).bind fun v_3196 => (if v_3196 = 1 then (FX12_lawOf_b40 N s) else (if x1 = 2 then ((rd s (q0 + 5) 12 x3).bind fun v_3199 => (if v_3199 = 1 then (FX12_lawOf_b40 N s) else (FX12_lawOf_b42 N s q0 x1 x2 x3))) else (FX12_lawOf_b42 N s q0 x1 x2 x3))))))
set_option maxRecDepth 10000 in
set_option maxHeartbeats 4000000 in
theorem RX12_lawOf {d N nc Ls : Nat} {Xs : Nat → Int32} (hd : 7 ≤ d) {h : iv_H} {s : iv_M} (hR : Rep nc Ls Xs h s) {q0 : Nat} (t0 : T12 nc q0) {m1 : Int32} {x1 : Int} (p1 : m1.toInt = x1) {m2 : Int32} {x2 : Int} (p2 : m2.toInt = x2) {m3 : Int32} {x3 : Int} (p3 : m3.toInt = x3) {r : Int × iv_M} {Q : Option Value → iv_H → Prop} (e : FX12_lawOf N s q0 x1 x2 x3 = some r) (hq : ∀ (z : Int32) (h1 : iv_H), z.toInt = r.1 → Rep nc Ls Xs h1 r.2 → Q (some (.int z)) h1) : Cl d 256 [.ref q0, .int m1, .int m2, .int m3] h Q := by
  obtain ⟨d, rfl⟩ : ∃ k, d = k + 1 := ⟨d - 1, by omega⟩
  have hd : 6 ≤ d := by omega
  have hT := hX12_lawOf
  unfold FX12_lawOf at e
  refine Cl.into (by decide) gX12_lawOf rfl ?_
  show Rn d 256 (some .int) 0 [some (.ref q0), some (.int m1), some (.int m2), some (.int m3), none] [] h Q
  refine Rn.n hT 1 (pc' := 1) (L' := [some (.ref q0), some (.int m1), some (.int m2), some (.int m3), none]) (st' := [.ref q0]) rfl ?_
  refine Rn.hp hT rfl rfl (gR_hp (rp_gR hR (T12_o t0) rfl)) ?_
  refine Rn.n hT 1 (pc' := 5) (L' := [some (.ref q0), some (.int m1), some (.int m2), some (.int m3), none]) (st' := [.int (4 : Int32), .ref (q0 + 1)]) rfl ?_
  obtain ⟨v_3194, e_3194, e⟩ := Option.bind_eq_some_iff.mp e
  obtain ⟨z_3194, g_3194, p_3194⟩ := rp_aI hR (T12_1 t0) (T12_1l t0) L32_4 e_3194
  refine Rn.hp hT rfl rfl (aI_hp g_3194) ?_
  refine Rn.n hT 6 (pc' := 12) (L' := [some (.ref q0), some (.int m1), some (.int m2), some (.int m3), none]) (st' := [.int ((z_3194 >>> ((m1 - (1 : Int32)) &&& 31)) &&& (1 : Int32))]) rfl ?_
  by_cases c_3195 : (bAn (sr32 v_3194 (w32 (x1 - 1))) 1) = 0
  · rw [if_pos c_3195] at e
    refine Rn.bt hT rfl rfl rfl (decide_eq_true ((ti_e (ti_and (ti_shr p_3194 (ti_sub p1 L32_1)) L32_1) L32_0).mpr c_3195)) ?_
    exact Rn.weak (ll_n (ll_n (ll_n (ll_n (ll_n ll_e))))) (RX12_lawOf_b40 hd hR hq e)
  · rw [if_neg c_3195] at e
    refine Rn.bf hT rfl rfl rfl (decide_eq_false (fun z => c_3195 ((ti_e (ti_and (ti_shr p_3194 (ti_sub p1 L32_1)) L32_1) L32_0).mp z))) ?_
    refine Rn.n hT 1 (pc' := 16) (L' := [some (.ref q0), some (.int m1), some (.int m2), some (.int m3), none]) (st' := [.ref q0]) rfl ?_
    refine Rn.hp hT rfl rfl (gR_hp (rp_gR hR (T12_o t0) rfl)) ?_
    refine Rn.n hT 1 (pc' := 20) (L' := [some (.ref q0), some (.int m1), some (.int m2), some (.int m3), none]) (st' := [.int m2, .ref (q0 + 5)]) rfl ?_
    obtain ⟨v_3196, e_3196, e⟩ := Option.bind_eq_some_iff.mp e
    obtain ⟨z_3196, g_3196, p_3196⟩ := rp_aI hR (T12_5 t0) (T12_5l t0) p2 e_3196
    refine Rn.hp hT rfl rfl (aI_hp g_3196) ?_
    refine Rn.n hT 1 (pc' := 22) (L' := [some (.ref q0), some (.int m1), some (.int m2), some (.int m3), none]) (st' := [.int (1 : Int32), .int z_3196]) rfl ?_
    by_cases c_3197 : v_3196 = 1
    · rw [if_pos c_3197] at e
      refine Rn.bt hT rfl rfl rfl (decide_eq_true ((ti_e p_3196 L32_1).mpr c_3197)) ?_
      exact Rn.weak (ll_n (ll_n (ll_n (ll_n (ll_n ll_e))))) (RX12_lawOf_b40 hd hR hq e)
    · rw [if_neg c_3197] at e
      refine Rn.bf hT rfl rfl rfl (decide_eq_false (fun z => c_3197 ((ti_e p_3196 L32_1).mp z))) ?_
      refine Rn.n hT 2 (pc' := 27) (L' := [some (.ref q0), some (.int m1), some (.int m2), some (.int m3), none]) (st' := [.int (2 : Int32), .int m1]) rfl ?_
      by_cases c_3198 : x1 = 2
      · rw [if_pos c_3198] at e
        refine Rn.bf hT rfl rfl rfl (decide_eq_false (fun z => z ((ti_e p1 L32_2).mpr c_3198))) ?_
        refine Rn.n hT 1 (pc' := 31) (L' := [some (.ref q0), some (.int m1), some (.int m2), some (.int m3), none]) (st' := [.ref q0]) rfl ?_
        refine Rn.hp hT rfl rfl (gR_hp (rp_gR hR (T12_o t0) rfl)) ?_
        refine Rn.n hT 1 (pc' := 35) (L' := [some (.ref q0), some (.int m1), some (.int m2), some (.int m3), none]) (st' := [.int m3, .ref (q0 + 5)]) rfl ?_
        obtain ⟨v_3199, e_3199, e⟩ := Option.bind_eq_some_iff.mp e
        obtain ⟨z_3199, g_3199, p_3199⟩ := rp_aI hR (T12_5 t0) (T12_5l t0) p3 e_3199
        refine Rn.hp hT rfl rfl (aI_hp g_3199) ?_
        refine Rn.n hT 1 (pc' := 37) (L' := [some (.ref q0), some (.int m1), some (.int m2), some (.int m3), none]) (st' := [.int (1 : Int32), .int z_3199]) rfl ?_
        by_cases c_3200 : v_3199 = 1
        · rw [if_pos c_3200] at e
          refine Rn.bf hT rfl rfl rfl (decide_eq_false (fun z => z ((ti_e p_3199 L32_1).mpr c_3200))) ?_
          exact Rn.weak (ll_n (ll_n (ll_n (ll_n (ll_n ll_e))))) (RX12_lawOf_b40 hd hR hq e)
        · rw [if_neg c_3200] at e
          refine Rn.bt hT rfl rfl rfl (decide_eq_true (fun z => c_3200 ((ti_e p_3199 L32_1).mp z))) ?_
          exact Rn.weak (ll_s (ll_s (ll_s (ll_s (ll_n ll_e))))) (RX12_lawOf_b42 hd hR t0 p1 p2 p3 hq e)
      · rw [if_neg c_3198] at e
        refine Rn.bt hT rfl rfl rfl (decide_eq_true (fun z => c_3198 ((ti_e p1 L32_2).mp z))) ?_
        exact Rn.weak (ll_s (ll_s (ll_s (ll_s (ll_n ll_e))))) (RX12_lawOf_b42 hd hR t0 p1 p2 p3 hq e)
set_option maxRecDepth 10000 in
theorem hX12_kindOf : iv_Tb 257 tX12_kindOf := iv_tb_of (m := mX12_kindOf) rfl
set_option maxRecDepth 10000 in
theorem gX12_kindOf : PG.2 257 = some mX12_kindOf := iv_pi_of (t := tX12_kindOf) rfl (by decide)
def FX12_kindOf_b22 (N : Nat) (s : iv_M)  (xs0 : Int) : Option (Int) := (some xs0)
set_option maxRecDepth 10000 in
set_option maxHeartbeats 4000000 in
theorem RX12_kindOf_b22 {d N nc Ls : Nat} {Xs : Nat → Int32} (hd : 0 ≤ d) {h : iv_H} {s : iv_M} (hR : Rep nc Ls Xs h s)  {ms0 : Int32} {xs0 : Int} (ps0 : ms0.toInt = xs0) {r : Int} {Q : Option Value → iv_H → Prop} (hq : ∀ (z : Int32), z.toInt = r → Q (some (.int z)) h) (e : FX12_kindOf_b22 N s  xs0 = some r) : Rn d 257 (some .int) 22 [none] [.int ms0] h Q := by
  have hT := hX12_kindOf
  unfold FX12_kindOf_b22 at e
  obtain rfl := Option.some.inj e
  exact Rn.ret hT rfl rfl rfl (hq ms0 ps0)
def FX12_kindOf (N : Nat) (s : iv_M) (x0 : Int) : Option (Int) := (if 48 ≤ x0 then (if 192 ≤ x0 then (FX12_kindOf_b22 N s 3) else (FX12_kindOf_b22 N s 2)) else (FX12_kindOf_b22 N s 1))
set_option maxRecDepth 10000 in
set_option maxHeartbeats 4000000 in
theorem RX12_kindOf {d N nc Ls : Nat} {Xs : Nat → Int32} (hd : 1 ≤ d) {h : iv_H} {s : iv_M} (hR : Rep nc Ls Xs h s) {m0 : Int32} {x0 : Int} (p0 : m0.toInt = x0) {r : Int} {Q : Option Value → iv_H → Prop} (e : FX12_kindOf N s x0 = some r) (hq : ∀ (z : Int32), z.toInt = r → Q (some (.int z)) h) : Cl d 257 [.int m0] h Q := by
  obtain ⟨d, rfl⟩ : ∃ k, d = k + 1 := ⟨d - 1, by omega⟩
  have hd : 0 ≤ d := by omega
  have hT := hX12_kindOf
  unfold FX12_kindOf at e
  refine Cl.into (by decide) gX12_kindOf rfl ?_
  show Rn d 257 (some .int) 0 [some (.int m0)] [] h Q
  refine Rn.n hT 2 (pc' := 3) (L' := [some (.int m0)]) (st' := [.int (48 : Int32), .int m0]) rfl ?_
  by_cases c_3225 : 48 ≤ x0
  · rw [if_pos c_3225] at e
    refine Rn.bt hT rfl rfl rfl (decide_eq_true ((ti_le L32_48 p0).mpr c_3225)) ?_
    refine Rn.n hT 2 (pc' := 14) (L' := [some (.int m0)]) (st' := [.int (192 : Int32), .int m0]) rfl ?_
    by_cases c_3226 : 192 ≤ x0
    · rw [if_pos c_3226] at e
      refine Rn.bt hT rfl rfl rfl (decide_eq_true ((ti_le L32_192 p0).mpr c_3226)) ?_
      refine Rn.n hT 1 (pc' := 22) (L' := [some (.int m0)]) (st' := [.int (3 : Int32)]) rfl ?_
      exact Rn.weak (ll_n ll_e) (RX12_kindOf_b22 hd hR L32_3 hq e)
    · rw [if_neg c_3226] at e
      refine Rn.bf hT rfl rfl rfl (decide_eq_false (fun z => c_3226 ((ti_le L32_192 p0).mp z))) ?_
      refine Rn.n hT 2 (pc' := 22) (L' := [some (.int m0)]) (st' := [.int (2 : Int32)]) rfl ?_
      exact Rn.weak (ll_n ll_e) (RX12_kindOf_b22 hd hR L32_2 hq e)
  · rw [if_neg c_3225] at e
    refine Rn.bf hT rfl rfl rfl (decide_eq_false (fun z => c_3225 ((ti_le L32_48 p0).mp z))) ?_
    refine Rn.n hT 2 (pc' := 22) (L' := [some (.int m0)]) (st' := [.int (1 : Int32)]) rfl ?_
    exact Rn.weak (ll_n ll_e) (RX12_kindOf_b22 hd hR L32_1 hq e)
set_option maxRecDepth 10000 in
theorem hX12_roomOf : iv_Tb 258 tX12_roomOf := iv_tb_of (m := mX12_roomOf) rfl
set_option maxRecDepth 10000 in
theorem gX12_roomOf : PG.2 258 = some mX12_roomOf := iv_pi_of (t := tX12_roomOf) rfl (by decide)
def FX12_roomOf_b37 (N : Nat) (s : iv_M)  (xs0 : Int) : Option (Int) := (some xs0)
set_option maxRecDepth 10000 in
set_option maxHeartbeats 4000000 in
theorem RX12_roomOf_b37 {d N nc Ls : Nat} {Xs : Nat → Int32} (hd : 0 ≤ d) {h : iv_H} {s : iv_M} (hR : Rep nc Ls Xs h s)  {ms0 : Int32} {xs0 : Int} (ps0 : ms0.toInt = xs0) {r : Int} {Q : Option Value → iv_H → Prop} (hq : ∀ (z : Int32), z.toInt = r → Q (some (.int z)) h) (e : FX12_roomOf_b37 N s  xs0 = some r) : Rn d 258 (some .int) 37 [none] [.int ms0] h Q := by
  have hT := hX12_roomOf
  unfold FX12_roomOf_b37 at e
  obtain rfl := Option.some.inj e
  exact Rn.ret hT rfl rfl rfl (hq ms0 ps0)
def FX12_roomOf (N : Nat) (s : iv_M) (x0 : Int) : Option (Int) := (if 48 ≤ x0 then (if 192 ≤ x0 then (FX12_roomOf_b37 N s (w32 ((w32 (x0 - 48)) - 144))) else (FX12_roomOf_b37 N s (dv32 (w32 (x0 - 48)) 12))) else (FX12_roomOf_b37 N s (dv32 x0 4)))
set_option maxRecDepth 10000 in
set_option maxHeartbeats 4000000 in
theorem RX12_roomOf {d N nc Ls : Nat} {Xs : Nat → Int32} (hd : 1 ≤ d) {h : iv_H} {s : iv_M} (hR : Rep nc Ls Xs h s) {m0 : Int32} {x0 : Int} (p0 : m0.toInt = x0) {r : Int} {Q : Option Value → iv_H → Prop} (e : FX12_roomOf N s x0 = some r) (hq : ∀ (z : Int32), z.toInt = r → Q (some (.int z)) h) : Cl d 258 [.int m0] h Q := by
  obtain ⟨d, rfl⟩ : ∃ k, d = k + 1 := ⟨d - 1, by omega⟩
  have hd : 0 ≤ d := by omega
  have hT := hX12_roomOf
  unfold FX12_roomOf at e
  refine Cl.into (by decide) gX12_roomOf rfl ?_
  show Rn d 258 (some .int) 0 [some (.int m0)] [] h Q
  refine Rn.n hT 2 (pc' := 3) (L' := [some (.int m0)]) (st' := [.int (48 : Int32), .int m0]) rfl ?_
  by_cases c_3227 : 48 ≤ x0
  · rw [if_pos c_3227] at e
    refine Rn.bt hT rfl rfl rfl (decide_eq_true ((ti_le L32_48 p0).mpr c_3227)) ?_
    refine Rn.n hT 2 (pc' := 16) (L' := [some (.int m0)]) (st' := [.int (192 : Int32), .int m0]) rfl ?_
    by_cases c_3228 : 192 ≤ x0
    · rw [if_pos c_3228] at e
      refine Rn.bt hT rfl rfl rfl (decide_eq_true ((ti_le L32_192 p0).mpr c_3228)) ?_
      refine Rn.n hT 5 (pc' := 37) (L' := [some (.int m0)]) (st' := [.int ((m0 - (48 : Int32)) - (144 : Int32))]) rfl ?_
      exact Rn.weak (ll_n ll_e) (RX12_roomOf_b37 hd hR (ti_sub (ti_sub p0 L32_48) L32_144) hq e)
    · rw [if_neg c_3228] at e
      refine Rn.bf hT rfl rfl rfl (decide_eq_false (fun z => c_3228 ((ti_le L32_192 p0).mp z))) ?_
      refine Rn.n hT 6 (pc' := 37) (L' := [some (.int m0)]) (st' := [.int ((m0 - (48 : Int32)) / (12 : Int32))]) rfl ?_
      exact Rn.weak (ll_n ll_e) (RX12_roomOf_b37 hd hR (ti_div (ti_sub p0 L32_48) L32_12) hq e)
  · rw [if_neg c_3227] at e
    refine Rn.bf hT rfl rfl rfl (decide_eq_false (fun z => c_3227 ((ti_le L32_48 p0).mp z))) ?_
    refine Rn.n hT 4 (pc' := 37) (L' := [some (.int m0)]) (st' := [.int (m0 / (4 : Int32))]) rfl ?_
    exact Rn.weak (ll_n ll_e) (RX12_roomOf_b37 hd hR (ti_div p0 L32_4) hq e)
set_option maxRecDepth 10000 in
theorem hX12_otherOf : iv_Tb 259 tX12_otherOf := iv_tb_of (m := mX12_otherOf) rfl
set_option maxRecDepth 10000 in
theorem gX12_otherOf : PG.2 259 = some mX12_otherOf := iv_pi_of (t := tX12_otherOf) rfl (by decide)
def FX12_otherOf_b30 (N : Nat) (s : iv_M)  (xs0 : Int) : Option (Int) := (some xs0)
set_option maxRecDepth 10000 in
set_option maxHeartbeats 4000000 in
theorem RX12_otherOf_b30 {d N nc Ls : Nat} {Xs : Nat → Int32} (hd : 0 ≤ d) {h : iv_H} {s : iv_M} (hR : Rep nc Ls Xs h s)  {ms0 : Int32} {xs0 : Int} (ps0 : ms0.toInt = xs0) {r : Int} {Q : Option Value → iv_H → Prop} (hq : ∀ (z : Int32), z.toInt = r → Q (some (.int z)) h) (e : FX12_otherOf_b30 N s  xs0 = some r) : Rn d 259 (some .int) 30 [none] [.int ms0] h Q := by
  have hT := hX12_otherOf
  unfold FX12_otherOf_b30 at e
  obtain rfl := Option.some.inj e
  exact Rn.ret hT rfl rfl rfl (hq ms0 ps0)
def FX12_otherOf (N : Nat) (s : iv_M) (x0 : Int) : Option (Int) := (if 48 ≤ x0 then (if 192 ≤ x0 then (FX12_otherOf_b30 N s 0) else (FX12_otherOf_b30 N s (Int.tmod (w32 (x0 - 48)) 12))) else (FX12_otherOf_b30 N s (Int.tmod x0 4)))
set_option maxRecDepth 10000 in
set_option maxHeartbeats 4000000 in
theorem RX12_otherOf {d N nc Ls : Nat} {Xs : Nat → Int32} (hd : 1 ≤ d) {h : iv_H} {s : iv_M} (hR : Rep nc Ls Xs h s) {m0 : Int32} {x0 : Int} (p0 : m0.toInt = x0) {r : Int} {Q : Option Value → iv_H → Prop} (e : FX12_otherOf N s x0 = some r) (hq : ∀ (z : Int32), z.toInt = r → Q (some (.int z)) h) : Cl d 259 [.int m0] h Q := by
  obtain ⟨d, rfl⟩ : ∃ k, d = k + 1 := ⟨d - 1, by omega⟩
  have hd : 0 ≤ d := by omega
  have hT := hX12_otherOf
  unfold FX12_otherOf at e
  refine Cl.into (by decide) gX12_otherOf rfl ?_
  show Rn d 259 (some .int) 0 [some (.int m0)] [] h Q
  refine Rn.n hT 2 (pc' := 3) (L' := [some (.int m0)]) (st' := [.int (48 : Int32), .int m0]) rfl ?_
  by_cases c_3229 : 48 ≤ x0
  · rw [if_pos c_3229] at e
    refine Rn.bt hT rfl rfl rfl (decide_eq_true ((ti_le L32_48 p0).mpr c_3229)) ?_
    refine Rn.n hT 2 (pc' := 16) (L' := [some (.int m0)]) (st' := [.int (192 : Int32), .int m0]) rfl ?_
    by_cases c_3230 : 192 ≤ x0
    · rw [if_pos c_3230] at e
      refine Rn.bt hT rfl rfl rfl (decide_eq_true ((ti_le L32_192 p0).mpr c_3230)) ?_
      refine Rn.n hT 1 (pc' := 30) (L' := [some (.int m0)]) (st' := [.int (0 : Int32)]) rfl ?_
      exact Rn.weak (ll_n ll_e) (RX12_otherOf_b30 hd hR L32_0 hq e)
    · rw [if_neg c_3230] at e
      refine Rn.bf hT rfl rfl rfl (decide_eq_false (fun z => c_3230 ((ti_le L32_192 p0).mp z))) ?_
      refine Rn.n hT 6 (pc' := 30) (L' := [some (.int m0)]) (st' := [.int ((m0 - (48 : Int32)) - (m0 - (48 : Int32)) / (12 : Int32) * (12 : Int32))]) rfl ?_
      exact Rn.weak (ll_n ll_e) (RX12_otherOf_b30 hd hR (ti_rem (ti_sub p0 L32_48) L32_12) hq e)
  · rw [if_neg c_3229] at e
    refine Rn.bf hT rfl rfl rfl (decide_eq_false (fun z => c_3229 ((ti_le L32_48 p0).mp z))) ?_
    refine Rn.n hT 4 (pc' := 30) (L' := [some (.int m0)]) (st' := [.int (m0 - m0 / (4 : Int32) * (4 : Int32))]) rfl ?_
    exact Rn.weak (ll_n ll_e) (RX12_otherOf_b30 hd hR (ti_rem p0 L32_4) hq e)
set_option maxRecDepth 10000 in
theorem hX12_mayBe : iv_Tb 260 tX12_mayBe := iv_tb_of (m := mX12_mayBe) rfl
set_option maxRecDepth 10000 in
theorem gX12_mayBe : PG.2 260 = some mX12_mayBe := iv_pi_of (t := tX12_mayBe) rfl (by decide)
def FX12_mayBe_b75 (N : Nat) (s : iv_M)  (xs0 : Int) : Option (Int × iv_M) := (if xs0 = 0 ∨ xs0 = 1 then some (xs0, s) else none)
set_option maxRecDepth 10000 in
set_option maxHeartbeats 4000000 in
theorem RX12_mayBe_b75 {d N nc Ls : Nat} {Xs : Nat → Int32} (hd : 7 ≤ d) {h : iv_H} {s : iv_M} (hR : Rep nc Ls Xs h s)  {ms0 : Int32} {xs0 : Int} (ps0 : ms0.toInt = xs0) {r : Int × iv_M} {Q : Option Value → iv_H → Prop} (hq : ∀ (z : Int32) (h1 : iv_H), z.toInt = r.1 → Rep nc Ls Xs h1 r.2 → Q (some (.int z)) h1) (e : FX12_mayBe_b75 N s  xs0 = some r) : Rn d 260 (some .boolean) 75 [none, none, none] [.int ms0] h Q := by
  have hT := hX12_mayBe
  unfold FX12_mayBe_b75 at e
  by_cases c_3249 : xs0 = 0 ∨ xs0 = 1
  · rw [if_pos c_3249] at e
    obtain rfl := Option.some.inj e
    exact Rn.ret hT rfl rfl (if_pos (ti_b ps0 c_3249)) (hq ms0 h ps0 hR)
  · rw [if_neg c_3249] at e
    cases e
def FX12_mayBe_b74 (N : Nat) (s : iv_M)   : Option (Int × iv_M) := (FX12_mayBe_b75 N s 0)
set_option maxRecDepth 10000 in
set_option maxHeartbeats 4000000 in
theorem RX12_mayBe_b74 {d N nc Ls : Nat} {Xs : Nat → Int32} (hd : 7 ≤ d) {h : iv_H} {s : iv_M} (hR : Rep nc Ls Xs h s)   {r : Int × iv_M} {Q : Option Value → iv_H → Prop} (hq : ∀ (z : Int32) (h1 : iv_H), z.toInt = r.1 → Rep nc Ls Xs h1 r.2 → Q (some (.int z)) h1) (e : FX12_mayBe_b74 N s   = some r) : Rn d 260 (some .boolean) 74 [none, none, none] [] h Q := by
  have hT := hX12_mayBe
  unfold FX12_mayBe_b74 at e
  refine Rn.n hT 1 (pc' := 75) (L' := [none, none, none]) (st' := [.int (0 : Int32)]) rfl ?_
  exact Rn.weak (ll_n (ll_n (ll_n ll_e))) (RX12_mayBe_b75 hd hR L32_0 hq e)
def FX12_mayBe_b46 (N : Nat) (s : iv_M) (q0 : Nat) (x1 : Int) (xs0 : Int) : Option (Int × iv_M) := (if xs0 = 0 then (FX12_mayBe_b74 N s) else ((FX12_kindOf N s x1).bind fun v_3243 => ((FX12_roomOf N s x1).bind fun v_3244 => ((FX12_otherOf N s x1).bind fun v_3245 => ((FX12_lawOf N s q0 v_3243 v_3244 v_3245).bind fun r_3246 => (fun (v_3246 : Int) (s_3247 : iv_M) => (if v_3246 = 0 then (FX12_mayBe_b75 N s_3247 1) else (FX12_mayBe_b74 N s_3247))) r_3246.1 r_3246.2)))))
set_option maxRecDepth 10000 in
set_option maxHeartbeats 4000000 in
theorem RX12_mayBe_b46 {d N nc Ls : Nat} {Xs : Nat → Int32} (hd : 7 ≤ d) {h : iv_H} {s : iv_M} (hR : Rep nc Ls Xs h s) {q0 : Nat} (t0 : T12 nc q0) {m1 : Int32} {x1 : Int} (p1 : m1.toInt = x1) {ms0 : Int32} {xs0 : Int} (ps0 : ms0.toInt = xs0) {r : Int × iv_M} {Q : Option Value → iv_H → Prop} (hq : ∀ (z : Int32) (h1 : iv_H), z.toInt = r.1 → Rep nc Ls Xs h1 r.2 → Q (some (.int z)) h1) (e : FX12_mayBe_b46 N s q0 x1 xs0 = some r) : Rn d 260 (some .boolean) 46 [some (.ref q0), some (.int m1), none] [.int ms0] h Q := by
  have hT := hX12_mayBe
  unfold FX12_mayBe_b46 at e
  refine Rn.n hT 2 (pc' := 48) (L' := [some (.ref q0), some (.int m1), some (.int ms0)]) (st' := [.int ms0]) rfl ?_
  by_cases c_3242 : xs0 = 0
  · rw [if_pos c_3242] at e
    refine Rn.bt hT rfl rfl rfl (decide_eq_true ((ti_e ps0 L32_0).mpr c_3242)) ?_
    exact Rn.weak (ll_n (ll_n (ll_n ll_e))) (RX12_mayBe_b74 hd hR hq e)
  · rw [if_neg c_3242] at e
    refine Rn.bf hT rfl rfl rfl (decide_eq_false (fun z => c_3242 ((ti_e ps0 L32_0).mp z))) ?_
    refine Rn.n hT 2 (pc' := 53) (L' := [some (.ref q0), some (.int m1), some (.int ms0)]) (st' := [.int m1, .ref q0]) rfl ?_
    obtain ⟨v_3243, e_3243, e⟩ := Option.bind_eq_some_iff.mp e
    refine Rn.call hT rfl rfl rfl (Nat.le_of_ble_eq_true rfl) rfl (RX12_kindOf (by omega) hR p1 e_3243 (fun z_3243 p_3243 => ?_))
    show Rn d _ _ 56 [some (.ref q0), some (.int m1), some (.int ms0)] [.int z_3243, .ref q0] h Q
    refine Rn.n hT 1 (pc' := 57) (L' := [some (.ref q0), some (.int m1), some (.int ms0)]) (st' := [.int m1, .int z_3243, .ref q0]) rfl ?_
    obtain ⟨v_3244, e_3244, e⟩ := Option.bind_eq_some_iff.mp e
    refine Rn.call hT rfl rfl rfl (Nat.le_of_ble_eq_true rfl) rfl (RX12_roomOf (by omega) hR p1 e_3244 (fun z_3244 p_3244 => ?_))
    show Rn d _ _ 60 [some (.ref q0), some (.int m1), some (.int ms0)] [.int z_3244, .int z_3243, .ref q0] h Q
    refine Rn.n hT 1 (pc' := 61) (L' := [some (.ref q0), some (.int m1), some (.int ms0)]) (st' := [.int m1, .int z_3244, .int z_3243, .ref q0]) rfl ?_
    obtain ⟨v_3245, e_3245, e⟩ := Option.bind_eq_some_iff.mp e
    refine Rn.call hT rfl rfl rfl (Nat.le_of_ble_eq_true rfl) rfl (RX12_otherOf (by omega) hR p1 e_3245 (fun z_3245 p_3245 => ?_))
    show Rn d _ _ 64 [some (.ref q0), some (.int m1), some (.int ms0)] [.int z_3245, .int z_3244, .int z_3243, .ref q0] h Q
    obtain ⟨⟨v_3246, s_3247⟩, e_3246, e⟩ := Option.bind_eq_some_iff.mp e
    try dsimp only at e
    try dsimp only at e
    refine Rn.call hT rfl rfl rfl (Nat.le_of_ble_eq_true rfl) (rcv_v gX12_lawOf (by omega) (rp_ck hR (T12_o t0))) (RX12_lawOf (by omega) hR t0 p_3243 p_3244 p_3245 e_3246 (fun z_3246 h_3247 p_3246 R_3247 => ?_))
    show Rn d _ _ 67 [some (.ref q0), some (.int m1), some (.int ms0)] [.int z_3246] h_3247 Q
    by_cases c_3248 : v_3246 = 0
    · rw [if_pos c_3248] at e
      refine Rn.bf hT rfl rfl rfl (decide_eq_false (fun z => z ((ti_e p_3246 L32_0).mpr c_3248))) ?_
      refine Rn.n hT 2 (pc' := 75) (L' := [some (.ref q0), some (.int m1), some (.int ms0)]) (st' := [.int (1 : Int32)]) rfl ?_
      exact Rn.weak (ll_n (ll_n (ll_n ll_e))) (RX12_mayBe_b75 hd R_3247 L32_1 hq e)
    · rw [if_neg c_3248] at e
      refine Rn.bt hT rfl rfl rfl (decide_eq_true (fun z => c_3248 ((ti_e p_3246 L32_0).mp z))) ?_
      exact Rn.weak (ll_n (ll_n (ll_n ll_e))) (RX12_mayBe_b74 hd R_3247 hq e)
def FX12_mayBe_b41 (N : Nat) (s : iv_M) (q0 : Nat) (x1 : Int)  : Option (Int × iv_M) := (FX12_mayBe_b46 N s q0 x1 1)
set_option maxRecDepth 10000 in
set_option maxHeartbeats 4000000 in
theorem RX12_mayBe_b41 {d N nc Ls : Nat} {Xs : Nat → Int32} (hd : 7 ≤ d) {h : iv_H} {s : iv_M} (hR : Rep nc Ls Xs h s) {q0 : Nat} (t0 : T12 nc q0) {m1 : Int32} {x1 : Int} (p1 : m1.toInt = x1)  {r : Int × iv_M} {Q : Option Value → iv_H → Prop} (hq : ∀ (z : Int32) (h1 : iv_H), z.toInt = r.1 → Rep nc Ls Xs h1 r.2 → Q (some (.int z)) h1) (e : FX12_mayBe_b41 N s q0 x1  = some r) : Rn d 260 (some .boolean) 41 [some (.ref q0), some (.int m1), none] [] h Q := by
  have hT := hX12_mayBe
  unfold FX12_mayBe_b41 at e
  refine Rn.n hT 2 (pc' := 46) (L' := [some (.ref q0), some (.int m1), none]) (st' := [.int (1 : Int32)]) rfl ?_
  exact Rn.weak (ll_s (ll_s (ll_n ll_e))) (RX12_mayBe_b46 hd hR t0 p1 L32_1 hq e)
def FX12_mayBe_b45 (N : Nat) (s : iv_M) (q0 : Nat) (x1 : Int)  : Option (Int × iv_M) := (FX12_mayBe_b46 N s q0 x1 0)
set_option maxRecDepth 10000 in
set_option maxHeartbeats 4000000 in
theorem RX12_mayBe_b45 {d N nc Ls : Nat} {Xs : Nat → Int32} (hd : 7 ≤ d) {h : iv_H} {s : iv_M} (hR : Rep nc Ls Xs h s) {q0 : Nat} (t0 : T12 nc q0) {m1 : Int32} {x1 : Int} (p1 : m1.toInt = x1)  {r : Int × iv_M} {Q : Option Value → iv_H → Prop} (hq : ∀ (z : Int32) (h1 : iv_H), z.toInt = r.1 → Rep nc Ls Xs h1 r.2 → Q (some (.int z)) h1) (e : FX12_mayBe_b45 N s q0 x1  = some r) : Rn d 260 (some .boolean) 45 [some (.ref q0), some (.int m1), none] [] h Q := by
  have hT := hX12_mayBe
  unfold FX12_mayBe_b45 at e
  refine Rn.n hT 1 (pc' := 46) (L' := [some (.ref q0), some (.int m1), none]) (st' := [.int (0 : Int32)]) rfl ?_
  exact Rn.weak (ll_s (ll_s (ll_n ll_e))) (RX12_mayBe_b46 hd hR t0 p1 L32_0 hq e)
def FX12_mayBe (N : Nat) (s : iv_M) (q0 : Nat) (x1 : Int) : Option (Int × iv_M) := ((FX12_roomOf N s x1).bind fun v_3231 => ((FX12_isRoom N s q0 v_3231).bind fun v_3232 => (if v_3232 = 0 then (FX12_mayBe_b45 N s q0 x1) else ((FX12_kindOf N s x1).bind fun v_3234 => (if v_3234 = 2 then ((FX12_otherOf N s x1).bind fun v_3236 => ((FX12_isRoom N s q0 v_3236).bind fun v_3237 => (if v_3237 = 0 then (FX12_mayBe_b45 N s q0 x1) else ((FX12_roomOf N s x1).bind fun v_3239 => ((FX12_otherOf N s x1).bind fun v_3240 => (if v_3240 ≤ v_3239 then (FX12_mayBe_b45 N s q0 x1) else (FX12_mayBe_b41 N s q0 x1))))))) else (FX12_mayBe_b41 N s q0 x1))))))
set_option maxRecDepth 10000 in
set_option maxHeartbeats 4000000 in
theorem RX12_mayBe {d N nc Ls : Nat} {Xs : Nat → Int32} (hd : 8 ≤ d) {h : iv_H} {s : iv_M} (hR : Rep nc Ls Xs h s) {q0 : Nat} (t0 : T12 nc q0) {m1 : Int32} {x1 : Int} (p1 : m1.toInt = x1) {r : Int × iv_M} {Q : Option Value → iv_H → Prop} (e : FX12_mayBe N s q0 x1 = some r) (hq : ∀ (z : Int32) (h1 : iv_H), z.toInt = r.1 → Rep nc Ls Xs h1 r.2 → Q (some (.int z)) h1) : Cl d 260 [.ref q0, .int m1] h Q := by
  obtain ⟨d, rfl⟩ : ∃ k, d = k + 1 := ⟨d - 1, by omega⟩
  have hd : 7 ≤ d := by omega
  have hT := hX12_mayBe
  unfold FX12_mayBe at e
  refine Cl.into (by decide) gX12_mayBe rfl ?_
  show Rn d 260 (some .boolean) 0 [some (.ref q0), some (.int m1), none] [] h Q
  refine Rn.n hT 2 (pc' := 2) (L' := [some (.ref q0), some (.int m1), none]) (st' := [.int m1, .ref q0]) rfl ?_
  obtain ⟨v_3231, e_3231, e⟩ := Option.bind_eq_some_iff.mp e
  refine Rn.call hT rfl rfl rfl (Nat.le_of_ble_eq_true rfl) rfl (RX12_roomOf (by omega) hR p1 e_3231 (fun z_3231 p_3231 => ?_))
  show Rn d _ _ 5 [some (.ref q0), some (.int m1), none] [.int z_3231, .ref q0] h Q
  obtain ⟨v_3232, e_3232, e⟩ := Option.bind_eq_some_iff.mp e
  refine Rn.call hT rfl rfl rfl (Nat.le_of_ble_eq_true rfl) (rcv_v gX12_isRoom (by omega) (rp_ck hR (T12_o t0))) (RX12_isRoom (by omega) hR t0 p_3231 e_3232 (fun z_3232 p_3232 => ?_))
  show Rn d _ _ 8 [some (.ref q0), some (.int m1), none] [.int z_3232] h Q
  by_cases c_3233 : v_3232 = 0
  · rw [if_pos c_3233] at e
    refine Rn.bt hT rfl rfl rfl (decide_eq_true ((ti_e p_3232 L32_0).mpr c_3233)) ?_
    exact Rn.weak (ll_s (ll_s (ll_n ll_e))) (RX12_mayBe_b45 hd hR t0 p1 hq e)
  · rw [if_neg c_3233] at e
    refine Rn.bf hT rfl rfl rfl (decide_eq_false (fun z => c_3233 ((ti_e p_3232 L32_0).mp z))) ?_
    refine Rn.n hT 1 (pc' := 12) (L' := [some (.ref q0), some (.int m1), none]) (st' := [.int m1]) rfl ?_
    obtain ⟨v_3234, e_3234, e⟩ := Option.bind_eq_some_iff.mp e
    refine Rn.call hT rfl rfl rfl (Nat.le_of_ble_eq_true rfl) rfl (RX12_kindOf (by omega) hR p1 e_3234 (fun z_3234 p_3234 => ?_))
    show Rn d _ _ 15 [some (.ref q0), some (.int m1), none] [.int z_3234] h Q
    refine Rn.n hT 1 (pc' := 16) (L' := [some (.ref q0), some (.int m1), none]) (st' := [.int (2 : Int32), .int z_3234]) rfl ?_
    by_cases c_3235 : v_3234 = 2
    · rw [if_pos c_3235] at e
      refine Rn.bf hT rfl rfl rfl (decide_eq_false (fun z => z ((ti_e p_3234 L32_2).mpr c_3235))) ?_
      refine Rn.n hT 2 (pc' := 21) (L' := [some (.ref q0), some (.int m1), none]) (st' := [.int m1, .ref q0]) rfl ?_
      obtain ⟨v_3236, e_3236, e⟩ := Option.bind_eq_some_iff.mp e
      refine Rn.call hT rfl rfl rfl (Nat.le_of_ble_eq_true rfl) rfl (RX12_otherOf (by omega) hR p1 e_3236 (fun z_3236 p_3236 => ?_))
      show Rn d _ _ 24 [some (.ref q0), some (.int m1), none] [.int z_3236, .ref q0] h Q
      obtain ⟨v_3237, e_3237, e⟩ := Option.bind_eq_some_iff.mp e
      refine Rn.call hT rfl rfl rfl (Nat.le_of_ble_eq_true rfl) (rcv_v gX12_isRoom (by omega) (rp_ck hR (T12_o t0))) (RX12_isRoom (by omega) hR t0 p_3236 e_3237 (fun z_3237 p_3237 => ?_))
      show Rn d _ _ 27 [some (.ref q0), some (.int m1), none] [.int z_3237] h Q
      by_cases c_3238 : v_3237 = 0
      · rw [if_pos c_3238] at e
        refine Rn.bt hT rfl rfl rfl (decide_eq_true ((ti_e p_3237 L32_0).mpr c_3238)) ?_
        exact Rn.weak (ll_s (ll_s (ll_n ll_e))) (RX12_mayBe_b45 hd hR t0 p1 hq e)
      · rw [if_neg c_3238] at e
        refine Rn.bf hT rfl rfl rfl (decide_eq_false (fun z => c_3238 ((ti_e p_3237 L32_0).mp z))) ?_
        refine Rn.n hT 1 (pc' := 31) (L' := [some (.ref q0), some (.int m1), none]) (st' := [.int m1]) rfl ?_
        obtain ⟨v_3239, e_3239, e⟩ := Option.bind_eq_some_iff.mp e
        refine Rn.call hT rfl rfl rfl (Nat.le_of_ble_eq_true rfl) rfl (RX12_roomOf (by omega) hR p1 e_3239 (fun z_3239 p_3239 => ?_))
        show Rn d _ _ 34 [some (.ref q0), some (.int m1), none] [.int z_3239] h Q
        refine Rn.n hT 1 (pc' := 35) (L' := [some (.ref q0), some (.int m1), none]) (st' := [.int m1, .int z_3239]) rfl ?_
        obtain ⟨v_3240, e_3240, e⟩ := Option.bind_eq_some_iff.mp e
        refine Rn.call hT rfl rfl rfl (Nat.le_of_ble_eq_true rfl) rfl (RX12_otherOf (by omega) hR p1 e_3240 (fun z_3240 p_3240 => ?_))
        show Rn d _ _ 38 [some (.ref q0), some (.int m1), none] [.int z_3240, .int z_3239] h Q
        by_cases c_3241 : v_3240 ≤ v_3239
        · rw [if_pos c_3241] at e
          refine Rn.bt hT rfl rfl rfl (decide_eq_true ((ti_le p_3240 p_3239).mpr c_3241)) ?_
          exact Rn.weak (ll_s (ll_s (ll_n ll_e))) (RX12_mayBe_b45 hd hR t0 p1 hq e)
        · rw [if_neg c_3241] at e
          refine Rn.bf hT rfl rfl rfl (decide_eq_false (fun z => c_3241 ((ti_le p_3240 p_3239).mp z))) ?_
          exact Rn.weak (ll_s (ll_s (ll_n ll_e))) (RX12_mayBe_b41 hd hR t0 p1 hq e)
    · rw [if_neg c_3235] at e
      refine Rn.bt hT rfl rfl rfl (decide_eq_true (fun z => c_3235 ((ti_e p_3234 L32_2).mp z))) ?_
      exact Rn.weak (ll_s (ll_s (ll_n ll_e))) (RX12_mayBe_b41 hd hR t0 p1 hq e)
set_option maxRecDepth 10000 in
theorem hX12_canNow : iv_Tb 261 tX12_canNow := iv_tb_of (m := mX12_canNow) rfl
set_option maxRecDepth 10000 in
theorem gX12_canNow : PG.2 261 = some mX12_canNow := iv_pi_of (t := tX12_canNow) rfl (by decide)
def FX12_canNow_b25 (N : Nat) (s : iv_M) (q0 : Nat) (x2 : Int) (xs0 : Int) (xs1 : Int) (kb : iv_M → Int → Int → Option (Int × iv_M)) (kx : iv_M → Int → Option (Int × iv_M)) : Option (Int × iv_M) := (kb s (w32 (xs1 + xs0)) (w32 (x2 + 1)))
set_option maxRecDepth 10000 in
set_option maxHeartbeats 4000000 in
theorem RX12_canNow_b25 {d N nc Ls : Nat} {Xs : Nat → Int32} (hd : 8 ≤ d) {h : iv_H} {s : iv_M} (hR : Rep nc Ls Xs h s) {q0 : Nat} (t0 : T12 nc q0) {m2 : Int32} {x2 : Int} (p2 : m2.toInt = x2) {ms0 : Int32} {xs0 : Int} (ps0 : ms0.toInt = xs0) {ms1 : Int32} {xs1 : Int} (ps1 : ms1.toInt = xs1) {kb : iv_M → Int → Int → Option (Int × iv_M)} {kx : iv_M → Int → Option (Int × iv_M)} {r : Int × iv_M} {Q : Option Value → iv_H → Prop} (hb : ∀ (h : iv_H) (s : iv_M) (hR : Rep nc Ls Xs h s) (mw1 : Int32) (xw1 : Int) (pw1 : mw1.toInt = xw1) (mw2 : Int32) (xw2 : Int) (pw2 : mw2.toInt = xw2), kb s xw1 xw2 = some r → Rn d 261 (some .int) 4 [some (.ref q0), some (.int mw1), some (.int mw2)] [] h Q) (hk : ∀ (h : iv_H) (s : iv_M) (hR : Rep nc Ls Xs h s) (mw1 : Int32) (xw1 : Int) (pw1 : mw1.toInt = xw1), kx s xw1 = some r → Rn d 261 (some .int) 33 [none, some (.int mw1), none] [] h Q) (hq : ∀ (z : Int32) (h1 : iv_H), z.toInt = r.1 → Rep nc Ls Xs h1 r.2 → Q (some (.int z)) h1) (e : FX12_canNow_b25 N s q0 x2 xs0 xs1 kb kx = some r) : Rn d 261 (some .int) 25 [some (.ref q0), none, some (.int m2)] [.int ms0, .int ms1] h Q := by
  have hT := hX12_canNow
  unfold FX12_canNow_b25 at e
  refine Rn.n hT 4 (pc' := 4) (L' := [some (.ref q0), some (.int (ms1 + ms0)), some (.int (m2 + (1 : Int32)))]) (st' := []) rfl ?_
  exact Rn.weak (ll_s (ll_s (ll_s ll_e))) (hb h s hR (ms1 + ms0) (w32 (xs1 + xs0)) (ti_add ps1 ps0) (m2 + (1 : Int32)) (w32 (x2 + 1)) (ti_add p2 L32_1) e)
def FX12_canNow_l4 (N : Nat) (q0 : Nat) (kx : iv_M → Int → Option (Int × iv_M)) : Nat → iv_M → Int → Int → Option (Int × iv_M)
  | 0, _, _, _ => none
  | n + 1, s, x1, x2 => (if 204 ≤ x2 then (kx s x1) else ((FX12_mayBe N s q0 x2).bind fun r_3253 => (fun (v_3253 : Int) (s_3254 : iv_M) => (if v_3253 = 0 then (FX12_canNow_b25 N s_3254 q0 x2 0 x1 (FX12_canNow_l4 N q0 kx n) kx) else (FX12_canNow_b25 N s_3254 q0 x2 1 x1 (FX12_canNow_l4 N q0 kx n) kx))) r_3253.1 r_3253.2))
set_option maxRecDepth 10000 in
set_option maxHeartbeats 4000000 in
theorem RX12_canNow_l4 {d N nc Ls : Nat} {Xs : Nat → Int32} (hd : 8 ≤ d) {q0 : Nat} (t0 : T12 nc q0) {kx : iv_M → Int → Option (Int × iv_M)} {r : Int × iv_M} {Q : Option Value → iv_H → Prop} (hk : ∀ (h : iv_H) (s : iv_M) (hR : Rep nc Ls Xs h s) (m1 : Int32) (x1 : Int) (p1 : m1.toInt = x1), kx s x1 = some r → Rn d 261 (some .int) 33 [none, some (.int m1), none] [] h Q) (hq : ∀ (z : Int32) (h1 : iv_H), z.toInt = r.1 → Rep nc Ls Xs h1 r.2 → Q (some (.int z)) h1) : ∀ (n : Nat) (h : iv_H) (s : iv_M) (hR : Rep nc Ls Xs h s) (m1 : Int32) (x1 : Int) (p1 : m1.toInt = x1) (m2 : Int32) (x2 : Int) (p2 : m2.toInt = x2), FX12_canNow_l4 N q0 kx n s x1 x2 = some r → Rn d 261 (some .int) 4 [some (.ref q0), some (.int m1), some (.int m2)] [] h Q := by
  have hT := hX12_canNow
  intro n
  induction n with
  | zero =>
    intro h s hR m1 x1 p1 m2 x2 p2 e
    rw [FX12_canNow_l4] at e
    cases e
  | succ n ih =>
    intro h s hR m1 x1 p1 m2 x2 p2 e
    rw [FX12_canNow_l4] at e
    refine Rn.n hT 2 (pc' := 8) (L' := [some (.ref q0), some (.int m1), some (.int m2)]) (st' := [.int (204 : Int32), .int m2]) rfl ?_
    by_cases c_3252 : 204 ≤ x2
    · rw [if_pos c_3252] at e
      refine Rn.bt hT rfl rfl rfl (decide_eq_true ((ti_le L32_204 p2).mpr c_3252)) ?_
      exact Rn.weak (ll_n (ll_s (ll_n ll_e))) (hk h s hR m1 x1 p1 e)
    · rw [if_neg c_3252] at e
      refine Rn.bf hT rfl rfl rfl (decide_eq_false (fun z => c_3252 ((ti_le L32_204 p2).mp z))) ?_
      refine Rn.n hT 3 (pc' := 14) (L' := [some (.ref q0), some (.int m1), some (.int m2)]) (st' := [.int m2, .ref q0, .int m1]) rfl ?_
      obtain ⟨⟨v_3253, s_3254⟩, e_3253, e⟩ := Option.bind_eq_some_iff.mp e
      try dsimp only at e
      try dsimp only at e
      refine Rn.call hT rfl rfl rfl (Nat.le_of_ble_eq_true rfl) (rcv_v gX12_mayBe (by omega) (rp_ck hR (T12_o t0))) (RX12_mayBe (by omega) hR t0 p2 e_3253 (fun z_3253 h_3254 p_3253 R_3254 => ?_))
      show Rn d _ _ 17 [some (.ref q0), some (.int m1), some (.int m2)] [.int z_3253, .int m1] h_3254 Q
      by_cases c_3255 : v_3253 = 0
      · rw [if_pos c_3255] at e
        refine Rn.bt hT rfl rfl rfl (decide_eq_true ((ti_e p_3253 L32_0).mpr c_3255)) ?_
        refine Rn.n hT 1 (pc' := 25) (L' := [some (.ref q0), some (.int m1), some (.int m2)]) (st' := [.int (0 : Int32), .int m1]) rfl ?_
        exact Rn.weak (ll_s (ll_n (ll_s ll_e))) (RX12_canNow_b25 hd R_3254 t0 p2 L32_0 p1 ih hk hq e)
      · rw [if_neg c_3255] at e
        refine Rn.bf hT rfl rfl rfl (decide_eq_false (fun z => c_3255 ((ti_e p_3253 L32_0).mp z))) ?_
        refine Rn.n hT 2 (pc' := 25) (L' := [some (.ref q0), some (.int m1), some (.int m2)]) (st' := [.int (1 : Int32), .int m1]) rfl ?_
        exact Rn.weak (ll_s (ll_n (ll_s ll_e))) (RX12_canNow_b25 hd R_3254 t0 p2 L32_1 p1 ih hk hq e)
def FX12_canNow (N : Nat) (s : iv_M) (q0 : Nat) : Option (Int × iv_M) := (FX12_canNow_l4 N q0 (fun (s_3250 : iv_M) (x3251_1 : Int) => (some (x3251_1, s_3250))) N s 0 0)
set_option maxRecDepth 10000 in
set_option maxHeartbeats 4000000 in
theorem RX12_canNow {d N nc Ls : Nat} {Xs : Nat → Int32} (hd : 9 ≤ d) {h : iv_H} {s : iv_M} (hR : Rep nc Ls Xs h s) {q0 : Nat} (t0 : T12 nc q0) {r : Int × iv_M} {Q : Option Value → iv_H → Prop} (e : FX12_canNow N s q0 = some r) (hq : ∀ (z : Int32) (h1 : iv_H), z.toInt = r.1 → Rep nc Ls Xs h1 r.2 → Q (some (.int z)) h1) : Cl d 261 [.ref q0] h Q := by
  obtain ⟨d, rfl⟩ : ∃ k, d = k + 1 := ⟨d - 1, by omega⟩
  have hd : 8 ≤ d := by omega
  have hT := hX12_canNow
  unfold FX12_canNow at e
  refine Cl.into (by decide) gX12_canNow rfl ?_
  show Rn d 261 (some .int) 0 [some (.ref q0), none, none] [] h Q
  refine Rn.n hT 4 (pc' := 4) (L' := [some (.ref q0), some (.int (0 : Int32)), some (.int (0 : Int32))]) (st' := []) rfl ?_
  refine Rn.weak (ll_s (ll_s (ll_s ll_e))) (RX12_canNow_l4 hd t0 (fun h_3250 s_3250 R_3250 m3251_1 x3251_1 p3251_1 e => ?_) hq N h s hR (0 : Int32) 0 L32_0 (0 : Int32) 0 L32_0 e)
  try dsimp only at e
  refine Rn.n hT 1 (pc' := 34) (L' := [none, some (.int m3251_1), none]) (st' := [.int m3251_1]) rfl ?_
  obtain rfl := Option.some.inj e
  exact Rn.ret hT rfl rfl rfl (hq m3251_1 h_3250 p3251_1 R_3250)
