-- MIRRORS, 4 (written by wip/whole/mir.py)
set_option maxRecDepth 10000 in
theorem hX8_readComparison : iv_Tb 110 tX8_readComparison := iv_tb_of (m := mX8_readComparison) rfl
set_option maxRecDepth 10000 in
theorem gX8_readComparison : PG.2 110 = some mX8_readComparison := iv_pi_of (t := tX8_readComparison) rfl (by decide)
def fX8_readComparison_b147 (N : Nat) (h : iv_H) (q0 : Nat)  : Option (iv_H) := ((pV h 8 6 q0 (.int (1 : Int32))).bind fun h_2743 => ((pV h_2743 8 5 q0 (.int (2 : Int32))).bind fun h_2745 => some h_2745))
set_option maxRecDepth 10000 in
set_option maxHeartbeats 4000000 in
theorem rX8_readComparison_b147 {d N : Nat} (hd : 3 ≤ d) {h : iv_H} {q0 : Nat}  {r : iv_H} {Q : Option Value → iv_H → Prop} (hq : Q none r) (e : fX8_readComparison_b147 N h q0  = some r) : Rn d 110 none 147 [some (.ref q0), none, none, none] [] h Q := by
  have hT := hX8_readComparison
  unfold fX8_readComparison_b147 at e
  refine Rn.n hT 2 (pc' := 149) (L' := [some (.ref q0), none, none, none]) (st' := [.int (1 : Int32), .ref q0]) rfl ?_
  obtain ⟨h_2743, e_2744, e⟩ := Option.bind_eq_some_iff.mp e
  refine Rn.hp hT rfl rfl (pV_hp (by decide) e_2744) ?_
  refine Rn.n hT 2 (pc' := 154) (L' := [some (.ref q0), none, none, none]) (st' := [.int (2 : Int32), .ref q0]) rfl ?_
  obtain ⟨h_2745, e_2746, e⟩ := Option.bind_eq_some_iff.mp e
  refine Rn.hp hT rfl rfl (pV_hp rfl e_2746) ?_
  obtain rfl := Option.some.inj e
  exact Rn.ret hT rfl rfl rfl hq
def fX8_readComparison_b111 (N : Nat) (h : iv_H) (q0 : Nat) (s0 : Int32) (sq1 : Nat) : Option (iv_H) := ((cko h sq1 8).bind fun _ => (fX8_join N h sq1 s0).bind fun h_2742 => (fX8_readComparison_b147 N h_2742 q0))
set_option maxRecDepth 10000 in
set_option maxHeartbeats 4000000 in
theorem rX8_readComparison_b111 {d N : Nat} (hd : 3 ≤ d) {h : iv_H} {q0 : Nat} {s0 : Int32} {sq1 : Nat} {r : iv_H} {Q : Option Value → iv_H → Prop} (hq : Q none r) (e : fX8_readComparison_b111 N h q0 s0 sq1 = some r) : Rn d 110 none 111 [some (.ref q0), none, none, none] [.int s0, .ref sq1] h Q := by
  have hT := hX8_readComparison
  unfold fX8_readComparison_b111 at e
  obtain ⟨_, e_2740, e⟩ := Option.bind_eq_some_iff.mp e
  obtain ⟨h_2742, e_2739, e⟩ := Option.bind_eq_some_iff.mp e
  refine Rn.call hT rfl rfl rfl (Nat.le_of_ble_eq_true rfl) (rcv_v gX8_join (by omega) e_2740) (rX8_join (by omega) e_2739 ?_)
  show Rn d _ _ 114 [some (.ref q0), none, none, none] [] h_2742 Q
  refine Rn.n hT 1 (pc' := 147) (L' := [some (.ref q0), none, none, none]) (st' := []) rfl ?_
  exact Rn.weak (ll_s (ll_n (ll_n (ll_n ll_e)))) (rX8_readComparison_b147 hd hq e)
def fX8_readComparison_b135 (N : Nat) (h : iv_H) (q0 : Nat) (s0 : Int32) (sq1 : Nat) : Option (iv_H) := ((cko h sq1 8).bind fun _ => (fX8_join N h sq1 s0).bind fun h_2750 => (fX8_readComparison_b147 N h_2750 q0))
set_option maxRecDepth 10000 in
set_option maxHeartbeats 4000000 in
theorem rX8_readComparison_b135 {d N : Nat} (hd : 3 ≤ d) {h : iv_H} {q0 : Nat} {s0 : Int32} {sq1 : Nat} {r : iv_H} {Q : Option Value → iv_H → Prop} (hq : Q none r) (e : fX8_readComparison_b135 N h q0 s0 sq1 = some r) : Rn d 110 none 135 [some (.ref q0), none, none, none] [.int s0, .ref sq1] h Q := by
  have hT := hX8_readComparison
  unfold fX8_readComparison_b135 at e
  obtain ⟨_, e_2748, e⟩ := Option.bind_eq_some_iff.mp e
  obtain ⟨h_2750, e_2747, e⟩ := Option.bind_eq_some_iff.mp e
  refine Rn.call hT rfl rfl rfl (Nat.le_of_ble_eq_true rfl) (rcv_v gX8_join (by omega) e_2748) (rX8_join (by omega) e_2747 ?_)
  show Rn d _ _ 138 [some (.ref q0), none, none, none] [] h_2750 Q
  refine Rn.n hT 1 (pc' := 147) (L' := [some (.ref q0), none, none, none]) (st' := []) rfl ?_
  exact Rn.weak (ll_s (ll_n (ll_n (ll_n ll_e)))) (rX8_readComparison_b147 hd hq e)
def fX8_readComparison_b90 (N : Nat) (h : iv_H) (q0 : Nat) (x1 : Int32) (x2 : Int32) (x3 : Int32)  : Option (iv_H) := ((cko h q0 8).bind fun _ => (fX8_countOne N h q0 x2).bind fun h_2730 => (if x1 = (60 : Int32) then (if x3 = 0 then (fX8_readComparison_b111 N h_2730 q0 (4 : Int32) q0) else (fX8_readComparison_b111 N h_2730 q0 (5 : Int32) q0)) else (if x1 = (62 : Int32) then (if x3 = 0 then (fX8_readComparison_b135 N h_2730 q0 (8 : Int32) q0) else (fX8_readComparison_b135 N h_2730 q0 (7 : Int32) q0)) else ((cko h_2730 q0 8).bind fun _ => (fX8_join N h_2730 q0 (6 : Int32)).bind fun h_2736 => (fX8_readComparison_b147 N h_2736 q0)))))
set_option maxRecDepth 10000 in
set_option maxHeartbeats 4000000 in
theorem rX8_readComparison_b90 {d N : Nat} (hd : 3 ≤ d) {h : iv_H} {q0 : Nat} {x1 : Int32} {x2 : Int32} {x3 : Int32}  {r : iv_H} {Q : Option Value → iv_H → Prop} (hq : Q none r) (e : fX8_readComparison_b90 N h q0 x1 x2 x3  = some r) : Rn d 110 none 90 [some (.ref q0), some (.int x1), some (.int x2), some (.int x3)] [] h Q := by
  have hT := hX8_readComparison
  unfold fX8_readComparison_b90 at e
  refine Rn.n hT 2 (pc' := 92) (L' := [some (.ref q0), some (.int x1), some (.int x2), some (.int x3)]) (st' := [.int x2, .ref q0]) rfl ?_
  obtain ⟨_, e_2728, e⟩ := Option.bind_eq_some_iff.mp e
  obtain ⟨h_2730, e_2727, e⟩ := Option.bind_eq_some_iff.mp e
  refine Rn.call hT rfl rfl rfl (Nat.le_of_ble_eq_true rfl) (rcv_v gX8_countOne (by omega) e_2728) (rX8_countOne (by omega) e_2727 ?_)
  show Rn d _ _ 95 [some (.ref q0), some (.int x1), some (.int x2), some (.int x3)] [] h_2730 Q
  refine Rn.n hT 2 (pc' := 98) (L' := [some (.ref q0), some (.int x1), some (.int x2), some (.int x3)]) (st' := [.int (60 : Int32), .int x1]) rfl ?_
  by_cases c_2731 : x1 = (60 : Int32)
  · rw [if_pos c_2731] at e
    refine Rn.bf hT rfl rfl rfl (decide_eq_false (fun z => z c_2731)) ?_
    refine Rn.n hT 2 (pc' := 103) (L' := [some (.ref q0), some (.int x1), some (.int x2), some (.int x3)]) (st' := [.int x3, .ref q0]) rfl ?_
    by_cases c_2738 : x3 = 0
    · rw [if_pos c_2738] at e
      refine Rn.bt hT rfl rfl rfl (decide_eq_true c_2738) ?_
      refine Rn.n hT 1 (pc' := 111) (L' := [some (.ref q0), some (.int x1), some (.int x2), some (.int x3)]) (st' := [.int (4 : Int32), .ref q0]) rfl ?_
      exact Rn.weak (ll_s (ll_n (ll_n (ll_n ll_e)))) (rX8_readComparison_b111 hd hq e)
    · rw [if_neg c_2738] at e
      refine Rn.bf hT rfl rfl rfl (decide_eq_false c_2738) ?_
      refine Rn.n hT 2 (pc' := 111) (L' := [some (.ref q0), some (.int x1), some (.int x2), some (.int x3)]) (st' := [.int (5 : Int32), .ref q0]) rfl ?_
      exact Rn.weak (ll_s (ll_n (ll_n (ll_n ll_e)))) (rX8_readComparison_b111 hd hq e)
  · rw [if_neg c_2731] at e
    refine Rn.bt hT rfl rfl rfl (decide_eq_true c_2731) ?_
    refine Rn.n hT 2 (pc' := 120) (L' := [some (.ref q0), some (.int x1), some (.int x2), some (.int x3)]) (st' := [.int (62 : Int32), .int x1]) rfl ?_
    by_cases c_2732 : x1 = (62 : Int32)
    · rw [if_pos c_2732] at e
      refine Rn.bf hT rfl rfl rfl (decide_eq_false (fun z => z c_2732)) ?_
      refine Rn.n hT 2 (pc' := 125) (L' := [some (.ref q0), some (.int x1), some (.int x2), some (.int x3)]) (st' := [.int x3, .ref q0]) rfl ?_
      by_cases c_2737 : x3 = 0
      · rw [if_pos c_2737] at e
        refine Rn.bt hT rfl rfl rfl (decide_eq_true c_2737) ?_
        refine Rn.n hT 1 (pc' := 135) (L' := [some (.ref q0), some (.int x1), some (.int x2), some (.int x3)]) (st' := [.int (8 : Int32), .ref q0]) rfl ?_
        exact Rn.weak (ll_s (ll_n (ll_n (ll_n ll_e)))) (rX8_readComparison_b135 hd hq e)
      · rw [if_neg c_2737] at e
        refine Rn.bf hT rfl rfl rfl (decide_eq_false c_2737) ?_
        refine Rn.n hT 2 (pc' := 135) (L' := [some (.ref q0), some (.int x1), some (.int x2), some (.int x3)]) (st' := [.int (7 : Int32), .ref q0]) rfl ?_
        exact Rn.weak (ll_s (ll_n (ll_n (ll_n ll_e)))) (rX8_readComparison_b135 hd hq e)
    · rw [if_neg c_2732] at e
      refine Rn.bt hT rfl rfl rfl (decide_eq_true c_2732) ?_
      refine Rn.n hT 2 (pc' := 144) (L' := [some (.ref q0), some (.int x1), some (.int x2), some (.int x3)]) (st' := [.int (6 : Int32), .ref q0]) rfl ?_
      obtain ⟨_, e_2734, e⟩ := Option.bind_eq_some_iff.mp e
      obtain ⟨h_2736, e_2733, e⟩ := Option.bind_eq_some_iff.mp e
      refine Rn.call hT rfl rfl rfl (Nat.le_of_ble_eq_true rfl) (rcv_v gX8_join (by omega) e_2734) (rX8_join (by omega) e_2733 ?_)
      show Rn d _ _ 147 [some (.ref q0), some (.int x1), some (.int x2), some (.int x3)] [] h_2736 Q
      exact Rn.weak (ll_s (ll_n (ll_n (ll_n ll_e)))) (rX8_readComparison_b147 hd hq e)
def fX8_readComparison_b72 (N : Nat) (h : iv_H) (q0 : Nat) (x1 : Int32) (x2 : Int32) (s0 : Int32) : Option (iv_H) := (if s0 = 0 then (fX8_readComparison_b90 N h q0 x1 x2 s0) else ((gR h 8 0 q0).bind fun v_2721 => ((gI h 6 2 v_2721).bind fun v_2723 => ((pV h 6 2 v_2721 (.int (v_2723 + (1 : Int32)))).bind fun h_2725 => (fX8_readComparison_b90 N h_2725 q0 x1 x2 s0)))))
set_option maxRecDepth 10000 in
set_option maxHeartbeats 4000000 in
theorem rX8_readComparison_b72 {d N : Nat} (hd : 3 ≤ d) {h : iv_H} {q0 : Nat} {x1 : Int32} {x2 : Int32} {s0 : Int32} {r : iv_H} {Q : Option Value → iv_H → Prop} (hq : Q none r) (e : fX8_readComparison_b72 N h q0 x1 x2 s0 = some r) : Rn d 110 none 72 [some (.ref q0), some (.int x1), some (.int x2), none] [.int s0] h Q := by
  have hT := hX8_readComparison
  unfold fX8_readComparison_b72 at e
  refine Rn.n hT 2 (pc' := 74) (L' := [some (.ref q0), some (.int x1), some (.int x2), some (.int s0)]) (st' := [.int s0]) rfl ?_
  by_cases c_2720 : s0 = 0
  · rw [if_pos c_2720] at e
    refine Rn.bt hT rfl rfl rfl (decide_eq_true c_2720) ?_
    exact Rn.weak (ll_s (ll_s (ll_s (ll_s ll_e)))) (rX8_readComparison_b90 hd hq e)
  · rw [if_neg c_2720] at e
    refine Rn.bf hT rfl rfl rfl (decide_eq_false c_2720) ?_
    refine Rn.n hT 1 (pc' := 78) (L' := [some (.ref q0), some (.int x1), some (.int x2), some (.int s0)]) (st' := [.ref q0]) rfl ?_
    obtain ⟨v_2721, e_2722, e⟩ := Option.bind_eq_some_iff.mp e
    refine Rn.hp hT rfl rfl (gR_hp e_2722) ?_
    refine Rn.n hT 1 (pc' := 82) (L' := [some (.ref q0), some (.int x1), some (.int x2), some (.int s0)]) (st' := [.ref v_2721, .ref v_2721]) rfl ?_
    obtain ⟨v_2723, e_2724, e⟩ := Option.bind_eq_some_iff.mp e
    refine Rn.hp hT rfl rfl (gI_hp e_2724) ?_
    refine Rn.n hT 2 (pc' := 87) (L' := [some (.ref q0), some (.int x1), some (.int x2), some (.int s0)]) (st' := [.int (v_2723 + (1 : Int32)), .ref v_2721]) rfl ?_
    obtain ⟨h_2725, e_2726, e⟩ := Option.bind_eq_some_iff.mp e
    refine Rn.hp hT rfl rfl (pV_hp rfl e_2726) ?_
    exact Rn.weak (ll_s (ll_s (ll_s (ll_s ll_e)))) (rX8_readComparison_b90 hd hq e)
def fX8_readComparison_b71 (N : Nat) (h : iv_H) (q0 : Nat) (x1 : Int32) (x2 : Int32)  : Option (iv_H) := (fX8_readComparison_b72 N h q0 x1 x2 (0 : Int32))
set_option maxRecDepth 10000 in
set_option maxHeartbeats 4000000 in
theorem rX8_readComparison_b71 {d N : Nat} (hd : 3 ≤ d) {h : iv_H} {q0 : Nat} {x1 : Int32} {x2 : Int32}  {r : iv_H} {Q : Option Value → iv_H → Prop} (hq : Q none r) (e : fX8_readComparison_b71 N h q0 x1 x2  = some r) : Rn d 110 none 71 [some (.ref q0), some (.int x1), some (.int x2), none] [] h Q := by
  have hT := hX8_readComparison
  unfold fX8_readComparison_b71 at e
  refine Rn.n hT 1 (pc' := 72) (L' := [some (.ref q0), some (.int x1), some (.int x2), none]) (st' := [.int (0 : Int32)]) rfl ?_
  exact Rn.weak (ll_s (ll_s (ll_s (ll_n ll_e)))) (rX8_readComparison_b72 hd hq e)
def fX8_readComparison_b36 (N : Nat) (h : iv_H) (q0 : Nat) (x1 : Int32) (x2 : Int32)  : Option (iv_H) := ((gR h 8 0 q0).bind fun v_2707 => ((gI h 6 2 v_2707).bind fun v_2709 => ((pV h 6 2 v_2707 (.int (v_2709 + (1 : Int32)))).bind fun h_2711 => (if x1 = (61 : Int32) then (fX8_readComparison_b71 N h_2711 q0 x1 x2) else ((gR h_2711 8 0 q0).bind fun v_2714 => ((cko h_2711 v_2714 6).bind fun _ => (fX6_here N h_2711 v_2714).bind fun v_2718 => (if v_2718 = (61 : Int32) then (fX8_readComparison_b72 N h_2711 q0 x1 x2 (1 : Int32)) else (fX8_readComparison_b71 N h_2711 q0 x1 x2))))))))
set_option maxRecDepth 10000 in
set_option maxHeartbeats 4000000 in
theorem rX8_readComparison_b36 {d N : Nat} (hd : 3 ≤ d) {h : iv_H} {q0 : Nat} {x1 : Int32} {x2 : Int32}  {r : iv_H} {Q : Option Value → iv_H → Prop} (hq : Q none r) (e : fX8_readComparison_b36 N h q0 x1 x2  = some r) : Rn d 110 none 36 [some (.ref q0), some (.int x1), some (.int x2), none] [] h Q := by
  have hT := hX8_readComparison
  unfold fX8_readComparison_b36 at e
  refine Rn.n hT 1 (pc' := 37) (L' := [some (.ref q0), some (.int x1), some (.int x2), none]) (st' := [.ref q0]) rfl ?_
  obtain ⟨v_2707, e_2708, e⟩ := Option.bind_eq_some_iff.mp e
  refine Rn.hp hT rfl rfl (gR_hp e_2708) ?_
  refine Rn.n hT 1 (pc' := 41) (L' := [some (.ref q0), some (.int x1), some (.int x2), none]) (st' := [.ref v_2707, .ref v_2707]) rfl ?_
  obtain ⟨v_2709, e_2710, e⟩ := Option.bind_eq_some_iff.mp e
  refine Rn.hp hT rfl rfl (gI_hp e_2710) ?_
  refine Rn.n hT 2 (pc' := 46) (L' := [some (.ref q0), some (.int x1), some (.int x2), none]) (st' := [.int (v_2709 + (1 : Int32)), .ref v_2707]) rfl ?_
  obtain ⟨h_2711, e_2712, e⟩ := Option.bind_eq_some_iff.mp e
  refine Rn.hp hT rfl rfl (pV_hp rfl e_2712) ?_
  refine Rn.n hT 2 (pc' := 52) (L' := [some (.ref q0), some (.int x1), some (.int x2), none]) (st' := [.int (61 : Int32), .int x1]) rfl ?_
  by_cases c_2713 : x1 = (61 : Int32)
  · rw [if_pos c_2713] at e
    refine Rn.bt hT rfl rfl rfl (decide_eq_true c_2713) ?_
    exact Rn.weak (ll_s (ll_s (ll_s (ll_n ll_e)))) (rX8_readComparison_b71 hd hq e)
  · rw [if_neg c_2713] at e
    refine Rn.bf hT rfl rfl rfl (decide_eq_false c_2713) ?_
    refine Rn.n hT 1 (pc' := 56) (L' := [some (.ref q0), some (.int x1), some (.int x2), none]) (st' := [.ref q0]) rfl ?_
    obtain ⟨v_2714, e_2715, e⟩ := Option.bind_eq_some_iff.mp e
    refine Rn.hp hT rfl rfl (gR_hp e_2715) ?_
    obtain ⟨_, e_2717, e⟩ := Option.bind_eq_some_iff.mp e
    obtain ⟨v_2718, e_2716, e⟩ := Option.bind_eq_some_iff.mp e
    refine Rn.call hT rfl rfl rfl (Nat.le_of_ble_eq_true rfl) (rcv_v gX6_here (by omega) e_2717) (rX6_here (by omega) e_2716 ?_)
    show Rn d _ _ 62 [some (.ref q0), some (.int x1), some (.int x2), none] [.int v_2718] h_2711 Q
    refine Rn.n hT 1 (pc' := 64) (L' := [some (.ref q0), some (.int x1), some (.int x2), none]) (st' := [.int (61 : Int32), .int v_2718]) rfl ?_
    by_cases c_2719 : v_2718 = (61 : Int32)
    · rw [if_pos c_2719] at e
      refine Rn.bf hT rfl rfl rfl (decide_eq_false (fun z => z c_2719)) ?_
      refine Rn.n hT 2 (pc' := 72) (L' := [some (.ref q0), some (.int x1), some (.int x2), none]) (st' := [.int (1 : Int32)]) rfl ?_
      exact Rn.weak (ll_s (ll_s (ll_s (ll_n ll_e)))) (rX8_readComparison_b72 hd hq e)
    · rw [if_neg c_2719] at e
      refine Rn.bt hT rfl rfl rfl (decide_eq_true c_2719) ?_
      exact Rn.weak (ll_s (ll_s (ll_s (ll_n ll_e)))) (rX8_readComparison_b71 hd hq e)
def fX8_readComparison (N : Nat) (h : iv_H) (q0 : Nat) (x1 : Int32) : Option (iv_H) := ((gR h 8 0 q0).bind fun v_2694 => ((gI h 6 2 v_2694).bind fun v_2696 => (if x1 = (60 : Int32) then (fX8_readComparison_b36 N h q0 x1 v_2696) else (if x1 = (61 : Int32) then (fX8_readComparison_b36 N h q0 x1 v_2696) else (if x1 = (62 : Int32) then (fX8_readComparison_b36 N h q0 x1 v_2696) else ((gR h 8 0 q0).bind fun v_2701 => ((cko h v_2701 6).bind fun _ => (fX6_fail N h v_2701 v_2696 (0 : Int32)).bind fun h_2706 => some h_2706)))))))
set_option maxRecDepth 10000 in
set_option maxHeartbeats 4000000 in
theorem rX8_readComparison {d N : Nat} (hd : 4 ≤ d) {h : iv_H} {q0 : Nat} {x1 : Int32} {r : iv_H} {Q : Option Value → iv_H → Prop} (e : fX8_readComparison N h q0 x1 = some r) (hq : Q none r) : Cl d 110 [.ref q0, .int x1] h Q := by
  obtain ⟨d, rfl⟩ : ∃ k, d = k + 1 := ⟨d - 1, by omega⟩
  have hd : 3 ≤ d := by omega
  have hT := hX8_readComparison
  unfold fX8_readComparison at e
  refine Cl.into (by decide) gX8_readComparison rfl ?_
  show Rn d 110 none 0 [some (.ref q0), some (.int x1), none, none] [] h Q
  refine Rn.n hT 1 (pc' := 1) (L' := [some (.ref q0), some (.int x1), none, none]) (st' := [.ref q0]) rfl ?_
  obtain ⟨v_2694, e_2695, e⟩ := Option.bind_eq_some_iff.mp e
  refine Rn.hp hT rfl rfl (gR_hp e_2695) ?_
  obtain ⟨v_2696, e_2697, e⟩ := Option.bind_eq_some_iff.mp e
  refine Rn.hp hT rfl rfl (gI_hp e_2697) ?_
  refine Rn.n hT 3 (pc' := 11) (L' := [some (.ref q0), some (.int x1), some (.int v_2696), none]) (st' := [.int (60 : Int32), .int x1]) rfl ?_
  by_cases c_2698 : x1 = (60 : Int32)
  · rw [if_pos c_2698] at e
    refine Rn.bt hT rfl rfl rfl (decide_eq_true c_2698) ?_
    exact Rn.weak (ll_s (ll_s (ll_s (ll_n ll_e)))) (rX8_readComparison_b36 hd hq e)
  · rw [if_neg c_2698] at e
    refine Rn.bf hT rfl rfl rfl (decide_eq_false c_2698) ?_
    refine Rn.n hT 2 (pc' := 17) (L' := [some (.ref q0), some (.int x1), some (.int v_2696), none]) (st' := [.int (61 : Int32), .int x1]) rfl ?_
    by_cases c_2699 : x1 = (61 : Int32)
    · rw [if_pos c_2699] at e
      refine Rn.bt hT rfl rfl rfl (decide_eq_true c_2699) ?_
      exact Rn.weak (ll_s (ll_s (ll_s (ll_n ll_e)))) (rX8_readComparison_b36 hd hq e)
    · rw [if_neg c_2699] at e
      refine Rn.bf hT rfl rfl rfl (decide_eq_false c_2699) ?_
      refine Rn.n hT 2 (pc' := 23) (L' := [some (.ref q0), some (.int x1), some (.int v_2696), none]) (st' := [.int (62 : Int32), .int x1]) rfl ?_
      by_cases c_2700 : x1 = (62 : Int32)
      · rw [if_pos c_2700] at e
        refine Rn.bt hT rfl rfl rfl (decide_eq_true c_2700) ?_
        exact Rn.weak (ll_s (ll_s (ll_s (ll_n ll_e)))) (rX8_readComparison_b36 hd hq e)
      · rw [if_neg c_2700] at e
        refine Rn.bf hT rfl rfl rfl (decide_eq_false c_2700) ?_
        refine Rn.n hT 1 (pc' := 27) (L' := [some (.ref q0), some (.int x1), some (.int v_2696), none]) (st' := [.ref q0]) rfl ?_
        obtain ⟨v_2701, e_2702, e⟩ := Option.bind_eq_some_iff.mp e
        refine Rn.hp hT rfl rfl (gR_hp e_2702) ?_
        refine Rn.n hT 2 (pc' := 32) (L' := [some (.ref q0), some (.int x1), some (.int v_2696), none]) (st' := [.int (0 : Int32), .int v_2696, .ref v_2701]) rfl ?_
        obtain ⟨_, e_2704, e⟩ := Option.bind_eq_some_iff.mp e
        obtain ⟨h_2706, e_2703, e⟩ := Option.bind_eq_some_iff.mp e
        refine Rn.call hT rfl rfl rfl (Nat.le_of_ble_eq_true rfl) (rcv_v gX6_fail (by omega) e_2704) (rX6_fail (by omega) e_2703 ?_)
        show Rn d _ _ 35 [some (.ref q0), some (.int x1), some (.int v_2696), none] [] h_2706 Q
        obtain rfl := Option.some.inj e
        exact Rn.ret hT rfl rfl rfl hq
set_option maxRecDepth 10000 in
theorem hX8_readClosing : iv_Tb 111 tX8_readClosing := iv_tb_of (m := mX8_readClosing) rfl
set_option maxRecDepth 10000 in
theorem gX8_readClosing : PG.2 111 = some mX8_readClosing := iv_pi_of (t := tX8_readClosing) rfl (by decide)
def fX8_readClosing_b94 (N : Nat) (h : iv_H) (q0 : Nat)  : Option (Int32 × iv_H) := ((gR h 8 0 q0).bind fun v_2787 => ((gR h 8 0 q0).bind fun v_2789 => ((gI h 6 2 v_2789).bind fun v_2791 => ((cko h v_2787 6).bind fun _ => (fX6_fail N h v_2787 v_2791 (0 : Int32)).bind fun h_2796 => (some ((0 : Int32), h_2796))))))
set_option maxRecDepth 10000 in
set_option maxHeartbeats 4000000 in
theorem rX8_readClosing_b94 {d N : Nat} (hd : 2 ≤ d) {h : iv_H} {q0 : Nat}  {r : Int32 × iv_H} {Q : Option Value → iv_H → Prop} (hq : Q (some (.int r.1)) r.2) (e : fX8_readClosing_b94 N h q0  = some r) : Rn d 111 (some .boolean) 94 [some (.ref q0), none] [] h Q := by
  have hT := hX8_readClosing
  unfold fX8_readClosing_b94 at e
  refine Rn.n hT 1 (pc' := 95) (L' := [some (.ref q0), none]) (st' := [.ref q0]) rfl ?_
  obtain ⟨v_2787, e_2788, e⟩ := Option.bind_eq_some_iff.mp e
  refine Rn.hp hT rfl rfl (gR_hp e_2788) ?_
  refine Rn.n hT 1 (pc' := 99) (L' := [some (.ref q0), none]) (st' := [.ref q0, .ref v_2787]) rfl ?_
  obtain ⟨v_2789, e_2790, e⟩ := Option.bind_eq_some_iff.mp e
  refine Rn.hp hT rfl rfl (gR_hp e_2790) ?_
  obtain ⟨v_2791, e_2792, e⟩ := Option.bind_eq_some_iff.mp e
  refine Rn.hp hT rfl rfl (gI_hp e_2792) ?_
  refine Rn.n hT 1 (pc' := 106) (L' := [some (.ref q0), none]) (st' := [.int (0 : Int32), .int v_2791, .ref v_2787]) rfl ?_
  obtain ⟨_, e_2794, e⟩ := Option.bind_eq_some_iff.mp e
  obtain ⟨h_2796, e_2793, e⟩ := Option.bind_eq_some_iff.mp e
  refine Rn.call hT rfl rfl rfl (Nat.le_of_ble_eq_true rfl) (rcv_v gX6_fail (by omega) e_2794) (rX6_fail (by omega) e_2793 ?_)
  show Rn d _ _ 109 [some (.ref q0), none] [] h_2796 Q
  refine Rn.n hT 1 (pc' := 110) (L' := [some (.ref q0), none]) (st' := [.int (0 : Int32)]) rfl ?_
  obtain rfl := Option.some.inj e
  exact Rn.ret hT rfl rfl rfl hq
def fX8_readClosing_b168 (N : Nat) (h : iv_H)  (s0 : Int32) : Option (Int32 × iv_H) := (if s0 = 0 ∨ s0 = 1 then some (s0, h) else none)
set_option maxRecDepth 10000 in
set_option maxHeartbeats 4000000 in
theorem rX8_readClosing_b168 {d N : Nat} (hd : 2 ≤ d) {h : iv_H}  {s0 : Int32} {r : Int32 × iv_H} {Q : Option Value → iv_H → Prop} (hq : Q (some (.int r.1)) r.2) (e : fX8_readClosing_b168 N h  s0 = some r) : Rn d 111 (some .boolean) 168 [none, none] [.int s0] h Q := by
  have hT := hX8_readClosing
  unfold fX8_readClosing_b168 at e
  by_cases c_2820 : s0 = 0 ∨ s0 = 1
  · rw [if_pos c_2820] at e
    obtain rfl := Option.some.inj e
    exact Rn.ret hT rfl rfl (if_pos c_2820) hq
  · rw [if_neg c_2820] at e
    cases e
def fX8_readClosing_b152 (N : Nat) (h : iv_H) (q0 : Nat) (x1 : Int32)  : Option (Int32 × iv_H) := ((pV h 8 5 q0 (.int (0 : Int32))).bind fun h_2817 => (if x1 = (59 : Int32) then (fX8_readClosing_b168 N h_2817 (1 : Int32)) else (fX8_readClosing_b168 N h_2817 (0 : Int32))))
set_option maxRecDepth 10000 in
set_option maxHeartbeats 4000000 in
theorem rX8_readClosing_b152 {d N : Nat} (hd : 2 ≤ d) {h : iv_H} {q0 : Nat} {x1 : Int32}  {r : Int32 × iv_H} {Q : Option Value → iv_H → Prop} (hq : Q (some (.int r.1)) r.2) (e : fX8_readClosing_b152 N h q0 x1  = some r) : Rn d 111 (some .boolean) 152 [some (.ref q0), some (.int x1)] [] h Q := by
  have hT := hX8_readClosing
  unfold fX8_readClosing_b152 at e
  refine Rn.n hT 2 (pc' := 154) (L' := [some (.ref q0), some (.int x1)]) (st' := [.int (0 : Int32), .ref q0]) rfl ?_
  obtain ⟨h_2817, e_2818, e⟩ := Option.bind_eq_some_iff.mp e
  refine Rn.hp hT rfl rfl (pV_hp rfl e_2818) ?_
  refine Rn.n hT 2 (pc' := 160) (L' := [some (.ref q0), some (.int x1)]) (st' := [.int (59 : Int32), .int x1]) rfl ?_
  by_cases c_2819 : x1 = (59 : Int32)
  · rw [if_pos c_2819] at e
    refine Rn.bf hT rfl rfl rfl (decide_eq_false (fun z => z c_2819)) ?_
    refine Rn.n hT 2 (pc' := 168) (L' := [some (.ref q0), some (.int x1)]) (st' := [.int (1 : Int32)]) rfl ?_
    exact Rn.weak (ll_n (ll_n ll_e)) (rX8_readClosing_b168 hd hq e)
  · rw [if_neg c_2819] at e
    refine Rn.bt hT rfl rfl rfl (decide_eq_true c_2819) ?_
    refine Rn.n hT 1 (pc' := 168) (L' := [some (.ref q0), some (.int x1)]) (st' := [.int (0 : Int32)]) rfl ?_
    exact Rn.weak (ll_n (ll_n ll_e)) (rX8_readClosing_b168 hd hq e)
def fX8_readClosing_b133 (N : Nat) (h : iv_H) (q0 : Nat) (x1 : Int32)  : Option (Int32 × iv_H) := (if x1 = (59 : Int32) then ((gR h 8 0 q0).bind fun v_2811 => ((gI h 6 2 v_2811).bind fun v_2813 => ((pV h 6 2 v_2811 (.int (v_2813 + (1 : Int32)))).bind fun h_2815 => (fX8_readClosing_b152 N h_2815 q0 x1)))) else (fX8_readClosing_b152 N h q0 x1))
set_option maxRecDepth 10000 in
set_option maxHeartbeats 4000000 in
theorem rX8_readClosing_b133 {d N : Nat} (hd : 2 ≤ d) {h : iv_H} {q0 : Nat} {x1 : Int32}  {r : Int32 × iv_H} {Q : Option Value → iv_H → Prop} (hq : Q (some (.int r.1)) r.2) (e : fX8_readClosing_b133 N h q0 x1  = some r) : Rn d 111 (some .boolean) 133 [some (.ref q0), some (.int x1)] [] h Q := by
  have hT := hX8_readClosing
  unfold fX8_readClosing_b133 at e
  refine Rn.n hT 2 (pc' := 136) (L' := [some (.ref q0), some (.int x1)]) (st' := [.int (59 : Int32), .int x1]) rfl ?_
  by_cases c_2810 : x1 = (59 : Int32)
  · rw [if_pos c_2810] at e
    refine Rn.bf hT rfl rfl rfl (decide_eq_false (fun z => z c_2810)) ?_
    refine Rn.n hT 1 (pc' := 140) (L' := [some (.ref q0), some (.int x1)]) (st' := [.ref q0]) rfl ?_
    obtain ⟨v_2811, e_2812, e⟩ := Option.bind_eq_some_iff.mp e
    refine Rn.hp hT rfl rfl (gR_hp e_2812) ?_
    refine Rn.n hT 1 (pc' := 144) (L' := [some (.ref q0), some (.int x1)]) (st' := [.ref v_2811, .ref v_2811]) rfl ?_
    obtain ⟨v_2813, e_2814, e⟩ := Option.bind_eq_some_iff.mp e
    refine Rn.hp hT rfl rfl (gI_hp e_2814) ?_
    refine Rn.n hT 2 (pc' := 149) (L' := [some (.ref q0), some (.int x1)]) (st' := [.int (v_2813 + (1 : Int32)), .ref v_2811]) rfl ?_
    obtain ⟨h_2815, e_2816, e⟩ := Option.bind_eq_some_iff.mp e
    refine Rn.hp hT rfl rfl (pV_hp rfl e_2816) ?_
    exact Rn.weak (ll_s (ll_s ll_e)) (rX8_readClosing_b152 hd hq e)
  · rw [if_neg c_2810] at e
    refine Rn.bt hT rfl rfl rfl (decide_eq_true c_2810) ?_
    exact Rn.weak (ll_s (ll_s ll_e)) (rX8_readClosing_b152 hd hq e)
def fX8_readClosing_b111 (N : Nat) (h : iv_H) (q0 : Nat) (x1 : Int32)  : Option (Int32 × iv_H) := ((aI h 1000001 (1 : Int32)).bind fun v_2797 => ((cko h q0 8).bind fun _ => (fX8_release N h q0 v_2797).bind fun h_2802 => ((gI h_2802 8 7 q0).bind fun v_2803 => (if v_2803 ≤ (1 : Int32) then (fX8_readClosing_b133 N h_2802 q0 x1) else ((cko h_2802 q0 8).bind fun _ => (fX8_emit N h_2802 q0 (1 : Int32)).bind fun h_2809 => (fX8_readClosing_b133 N h_2809 q0 x1))))))
set_option maxRecDepth 10000 in
set_option maxHeartbeats 4000000 in
theorem rX8_readClosing_b111 {d N : Nat} (hd : 2 ≤ d) {h : iv_H} {q0 : Nat} {x1 : Int32}  {r : Int32 × iv_H} {Q : Option Value → iv_H → Prop} (hq : Q (some (.int r.1)) r.2) (e : fX8_readClosing_b111 N h q0 x1  = some r) : Rn d 111 (some .boolean) 111 [some (.ref q0), some (.int x1)] [] h Q := by
  have hT := hX8_readClosing
  unfold fX8_readClosing_b111 at e
  refine Rn.n hT 1 (pc' := 112) (L' := [some (.ref q0), some (.int x1)]) (st' := [.ref q0]) rfl ?_
  refine Rn.hp hT rfl rfl rfl ?_
  refine Rn.n hT 1 (pc' := 116) (L' := [some (.ref q0), some (.int x1)]) (st' := [.int (1 : Int32), .ref 1000001, .ref q0]) rfl ?_
  obtain ⟨v_2797, e_2798, e⟩ := Option.bind_eq_some_iff.mp e
  refine Rn.hp hT rfl rfl (aI_hp e_2798) ?_
  obtain ⟨_, e_2800, e⟩ := Option.bind_eq_some_iff.mp e
  obtain ⟨h_2802, e_2799, e⟩ := Option.bind_eq_some_iff.mp e
  refine Rn.call hT rfl rfl rfl (Nat.le_of_ble_eq_true rfl) (rcv_v gX8_release (by omega) e_2800) (rX8_release (by omega) e_2799 ?_)
  show Rn d _ _ 120 [some (.ref q0), some (.int x1)] [] h_2802 Q
  refine Rn.n hT 1 (pc' := 121) (L' := [some (.ref q0), some (.int x1)]) (st' := [.ref q0]) rfl ?_
  obtain ⟨v_2803, e_2804, e⟩ := Option.bind_eq_some_iff.mp e
  refine Rn.hp hT rfl rfl (gI_hp e_2804) ?_
  refine Rn.n hT 1 (pc' := 125) (L' := [some (.ref q0), some (.int x1)]) (st' := [.int (1 : Int32), .int v_2803]) rfl ?_
  by_cases c_2805 : v_2803 ≤ (1 : Int32)
  · rw [if_pos c_2805] at e
    refine Rn.bt hT rfl rfl rfl (decide_eq_true c_2805) ?_
    exact Rn.weak (ll_s (ll_s ll_e)) (rX8_readClosing_b133 hd hq e)
  · rw [if_neg c_2805] at e
    refine Rn.bf hT rfl rfl rfl (decide_eq_false c_2805) ?_
    refine Rn.n hT 2 (pc' := 130) (L' := [some (.ref q0), some (.int x1)]) (st' := [.int (1 : Int32), .ref q0]) rfl ?_
    obtain ⟨_, e_2807, e⟩ := Option.bind_eq_some_iff.mp e
    obtain ⟨h_2809, e_2806, e⟩ := Option.bind_eq_some_iff.mp e
    refine Rn.call hT rfl rfl rfl (Nat.le_of_ble_eq_true rfl) (rcv_v gX8_emit (by omega) e_2807) (rX8_emit (by omega) e_2806 ?_)
    show Rn d _ _ 133 [some (.ref q0), some (.int x1)] [] h_2809 Q
    exact Rn.weak (ll_s (ll_s ll_e)) (rX8_readClosing_b133 hd hq e)
def fX8_readClosing_b76 (N : Nat) (h : iv_H) (q0 : Nat) (x1 : Int32)  : Option (Int32 × iv_H) := ((gI h 8 9 q0).bind fun v_2782 => (if 0 < v_2782 then (fX8_readClosing_b94 N h q0) else (if x1 = (59 : Int32) then (fX8_readClosing_b111 N h q0 x1) else (if x1 = (-1 : Int32) then (fX8_readClosing_b111 N h q0 x1) else (fX8_readClosing_b94 N h q0)))))
set_option maxRecDepth 10000 in
set_option maxHeartbeats 4000000 in
theorem rX8_readClosing_b76 {d N : Nat} (hd : 2 ≤ d) {h : iv_H} {q0 : Nat} {x1 : Int32}  {r : Int32 × iv_H} {Q : Option Value → iv_H → Prop} (hq : Q (some (.int r.1)) r.2) (e : fX8_readClosing_b76 N h q0 x1  = some r) : Rn d 111 (some .boolean) 76 [some (.ref q0), some (.int x1)] [] h Q := by
  have hT := hX8_readClosing
  unfold fX8_readClosing_b76 at e
  refine Rn.n hT 1 (pc' := 77) (L' := [some (.ref q0), some (.int x1)]) (st' := [.ref q0]) rfl ?_
  obtain ⟨v_2782, e_2783, e⟩ := Option.bind_eq_some_iff.mp e
  refine Rn.hp hT rfl rfl (gI_hp e_2783) ?_
  by_cases c_2784 : 0 < v_2782
  · rw [if_pos c_2784] at e
    refine Rn.bt hT rfl rfl rfl (decide_eq_true c_2784) ?_
    exact Rn.weak (ll_s (ll_n ll_e)) (rX8_readClosing_b94 hd hq e)
  · rw [if_neg c_2784] at e
    refine Rn.bf hT rfl rfl rfl (decide_eq_false c_2784) ?_
    refine Rn.n hT 2 (pc' := 86) (L' := [some (.ref q0), some (.int x1)]) (st' := [.int (59 : Int32), .int x1]) rfl ?_
    by_cases c_2785 : x1 = (59 : Int32)
    · rw [if_pos c_2785] at e
      refine Rn.bt hT rfl rfl rfl (decide_eq_true c_2785) ?_
      exact Rn.weak (ll_s (ll_s ll_e)) (rX8_readClosing_b111 hd hq e)
    · rw [if_neg c_2785] at e
      refine Rn.bf hT rfl rfl rfl (decide_eq_false c_2785) ?_
      refine Rn.n hT 2 (pc' := 91) (L' := [some (.ref q0), some (.int x1)]) (st' := [.int (-1 : Int32), .int x1]) rfl ?_
      by_cases c_2786 : x1 = (-1 : Int32)
      · rw [if_pos c_2786] at e
        refine Rn.bt hT rfl rfl rfl (decide_eq_true c_2786) ?_
        exact Rn.weak (ll_s (ll_s ll_e)) (rX8_readClosing_b111 hd hq e)
      · rw [if_neg c_2786] at e
        refine Rn.bf hT rfl rfl rfl (decide_eq_false c_2786) ?_
        exact Rn.weak (ll_s (ll_n ll_e)) (rX8_readClosing_b94 hd hq e)
def fX8_readClosing (N : Nat) (h : iv_H) (q0 : Nat) (x1 : Int32) : Option (Int32 × iv_H) := (if x1 = (93 : Int32) then ((gI h 8 9 q0).bind fun v_2752 => (if v_2752 ≤ 0 then (fX8_readClosing_b76 N h q0 x1) else ((gR h 8 0 q0).bind fun v_2755 => ((gI h 6 2 v_2755).bind fun v_2757 => ((pV h 6 2 v_2755 (.int (v_2757 + (1 : Int32)))).bind fun h_2759 => ((aI h_2759 1000001 (1 : Int32)).bind fun v_2761 => ((cko h_2759 q0 8).bind fun _ => (fX8_release N h_2759 q0 v_2761).bind fun h_2766 => ((gI h_2766 8 9 q0).bind fun v_2767 => ((pV h_2766 8 9 q0 (.int (v_2767 - (1 : Int32)))).bind fun h_2769 => ((gI h_2769 8 8 q0).bind fun v_2771 => ((pV h_2769 8 8 q0 (.int (v_2771 - (1 : Int32)))).bind fun h_2773 => ((gI h_2773 8 4 q0).bind fun v_2775 => ((pV h_2773 8 4 q0 (.int (iv_mx (0 : Int32) (v_2775 - (1 : Int32))))).bind fun h_2778 => ((pV h_2778 8 5 q0 (.int (5 : Int32))).bind fun h_2780 => (some ((1 : Int32), h_2780)))))))))))))))) else (fX8_readClosing_b76 N h q0 x1))
set_option maxRecDepth 10000 in
set_option maxHeartbeats 4000000 in
theorem rX8_readClosing {d N : Nat} (hd : 3 ≤ d) {h : iv_H} {q0 : Nat} {x1 : Int32} {r : Int32 × iv_H} {Q : Option Value → iv_H → Prop} (e : fX8_readClosing N h q0 x1 = some r) (hq : Q (some (.int r.1)) r.2) : Cl d 111 [.ref q0, .int x1] h Q := by
  obtain ⟨d, rfl⟩ : ∃ k, d = k + 1 := ⟨d - 1, by omega⟩
  have hd : 2 ≤ d := by omega
  have hT := hX8_readClosing
  unfold fX8_readClosing at e
  refine Cl.into (by decide) gX8_readClosing rfl ?_
  show Rn d 111 (some .boolean) 0 [some (.ref q0), some (.int x1)] [] h Q
  refine Rn.n hT 2 (pc' := 3) (L' := [some (.ref q0), some (.int x1)]) (st' := [.int (93 : Int32), .int x1]) rfl ?_
  by_cases c_2751 : x1 = (93 : Int32)
  · rw [if_pos c_2751] at e
    refine Rn.bf hT rfl rfl rfl (decide_eq_false (fun z => z c_2751)) ?_
    refine Rn.n hT 1 (pc' := 7) (L' := [some (.ref q0), some (.int x1)]) (st' := [.ref q0]) rfl ?_
    obtain ⟨v_2752, e_2753, e⟩ := Option.bind_eq_some_iff.mp e
    refine Rn.hp hT rfl rfl (gI_hp e_2753) ?_
    by_cases c_2754 : v_2752 ≤ 0
    · rw [if_pos c_2754] at e
      refine Rn.bt hT rfl rfl rfl (decide_eq_true c_2754) ?_
      exact Rn.weak (ll_s (ll_s ll_e)) (rX8_readClosing_b76 hd hq e)
    · rw [if_neg c_2754] at e
      refine Rn.bf hT rfl rfl rfl (decide_eq_false c_2754) ?_
      refine Rn.n hT 1 (pc' := 14) (L' := [some (.ref q0), some (.int x1)]) (st' := [.ref q0]) rfl ?_
      obtain ⟨v_2755, e_2756, e⟩ := Option.bind_eq_some_iff.mp e
      refine Rn.hp hT rfl rfl (gR_hp e_2756) ?_
      refine Rn.n hT 1 (pc' := 18) (L' := [some (.ref q0), some (.int x1)]) (st' := [.ref v_2755, .ref v_2755]) rfl ?_
      obtain ⟨v_2757, e_2758, e⟩ := Option.bind_eq_some_iff.mp e
      refine Rn.hp hT rfl rfl (gI_hp e_2758) ?_
      refine Rn.n hT 2 (pc' := 23) (L' := [some (.ref q0), some (.int x1)]) (st' := [.int (v_2757 + (1 : Int32)), .ref v_2755]) rfl ?_
      obtain ⟨h_2759, e_2760, e⟩ := Option.bind_eq_some_iff.mp e
      refine Rn.hp hT rfl rfl (pV_hp rfl e_2760) ?_
      refine Rn.n hT 1 (pc' := 27) (L' := [some (.ref q0), some (.int x1)]) (st' := [.ref q0]) rfl ?_
      refine Rn.hp hT rfl rfl rfl ?_
      refine Rn.n hT 1 (pc' := 31) (L' := [some (.ref q0), some (.int x1)]) (st' := [.int (1 : Int32), .ref 1000001, .ref q0]) rfl ?_
      obtain ⟨v_2761, e_2762, e⟩ := Option.bind_eq_some_iff.mp e
      refine Rn.hp hT rfl rfl (aI_hp e_2762) ?_
      obtain ⟨_, e_2764, e⟩ := Option.bind_eq_some_iff.mp e
      obtain ⟨h_2766, e_2763, e⟩ := Option.bind_eq_some_iff.mp e
      refine Rn.call hT rfl rfl rfl (Nat.le_of_ble_eq_true rfl) (rcv_v gX8_release (by omega) e_2764) (rX8_release (by omega) e_2763 ?_)
      show Rn d _ _ 35 [some (.ref q0), some (.int x1)] [] h_2766 Q
      refine Rn.n hT 2 (pc' := 37) (L' := [some (.ref q0), some (.int x1)]) (st' := [.ref q0, .ref q0]) rfl ?_
      obtain ⟨v_2767, e_2768, e⟩ := Option.bind_eq_some_iff.mp e
      refine Rn.hp hT rfl rfl (gI_hp e_2768) ?_
      refine Rn.n hT 2 (pc' := 42) (L' := [some (.ref q0), some (.int x1)]) (st' := [.int (v_2767 - (1 : Int32)), .ref q0]) rfl ?_
      obtain ⟨h_2769, e_2770, e⟩ := Option.bind_eq_some_iff.mp e
      refine Rn.hp hT rfl rfl (pV_hp rfl e_2770) ?_
      refine Rn.n hT 2 (pc' := 47) (L' := [some (.ref q0), some (.int x1)]) (st' := [.ref q0, .ref q0]) rfl ?_
      obtain ⟨v_2771, e_2772, e⟩ := Option.bind_eq_some_iff.mp e
      refine Rn.hp hT rfl rfl (gI_hp e_2772) ?_
      refine Rn.n hT 2 (pc' := 52) (L' := [some (.ref q0), some (.int x1)]) (st' := [.int (v_2771 - (1 : Int32)), .ref q0]) rfl ?_
      obtain ⟨h_2773, e_2774, e⟩ := Option.bind_eq_some_iff.mp e
      refine Rn.hp hT rfl rfl (pV_hp rfl e_2774) ?_
      refine Rn.n hT 3 (pc' := 58) (L' := [some (.ref q0), some (.int x1)]) (st' := [.ref q0, .int (0 : Int32), .ref q0]) rfl ?_
      obtain ⟨v_2775, e_2776, e⟩ := Option.bind_eq_some_iff.mp e
      refine Rn.hp hT rfl rfl (gI_hp e_2776) ?_
      refine Rn.n hT 2 (pc' := 63) (L' := [some (.ref q0), some (.int x1)]) (st' := [.int (v_2775 - (1 : Int32)), .int (0 : Int32), .ref q0]) rfl ?_
      refine Rn.hp hT rfl rfl (mx_hp (Nat.le_of_ble_eq_true rfl)) ?_
      obtain ⟨h_2778, e_2779, e⟩ := Option.bind_eq_some_iff.mp e
      refine Rn.hp hT rfl rfl (pV_hp rfl e_2779) ?_
      refine Rn.n hT 2 (pc' := 71) (L' := [some (.ref q0), some (.int x1)]) (st' := [.int (5 : Int32), .ref q0]) rfl ?_
      obtain ⟨h_2780, e_2781, e⟩ := Option.bind_eq_some_iff.mp e
      refine Rn.hp hT rfl rfl (pV_hp rfl e_2781) ?_
      refine Rn.n hT 1 (pc' := 75) (L' := [some (.ref q0), some (.int x1)]) (st' := [.int (1 : Int32)]) rfl ?_
      obtain rfl := Option.some.inj e
      exact Rn.ret hT rfl rfl rfl hq
  · rw [if_neg c_2751] at e
    refine Rn.bt hT rfl rfl rfl (decide_eq_true c_2751) ?_
    exact Rn.weak (ll_s (ll_s ll_e)) (rX8_readClosing_b76 hd hq e)
set_option maxRecDepth 10000 in
theorem hX8_readBehind : iv_Tb 108 tX8_readBehind := iv_tb_of (m := mX8_readBehind) rfl
set_option maxRecDepth 10000 in
theorem gX8_readBehind : PG.2 108 = some mX8_readBehind := iv_pi_of (t := tX8_readBehind) rfl (by decide)
def fX8_readBehind_b87 (N : Nat) (h : iv_H) (q0 : Nat) (s0 : Int32) (sq1 : Nat) : Option (Int32 × iv_H) := ((cko h sq1 8).bind fun _ => (fX8_join N h sq1 s0).bind fun h_2866 => ((pV h_2866 8 5 q0 (.int (1 : Int32))).bind fun h_2867 => (some ((1 : Int32), h_2867))))
set_option maxRecDepth 10000 in
set_option maxHeartbeats 4000000 in
theorem rX8_readBehind_b87 {d N : Nat} (hd : 12 ≤ d) {h : iv_H} {q0 : Nat} {s0 : Int32} {sq1 : Nat} {r : Int32 × iv_H} {Q : Option Value → iv_H → Prop} (hq : Q (some (.int r.1)) r.2) (e : fX8_readBehind_b87 N h q0 s0 sq1 = some r) : Rn d 108 (some .boolean) 87 [some (.ref q0), none, none] [.int s0, .ref sq1] h Q := by
  have hT := hX8_readBehind
  unfold fX8_readBehind_b87 at e
  obtain ⟨_, e_2864, e⟩ := Option.bind_eq_some_iff.mp e
  obtain ⟨h_2866, e_2863, e⟩ := Option.bind_eq_some_iff.mp e
  refine Rn.call hT rfl rfl rfl (Nat.le_of_ble_eq_true rfl) (rcv_v gX8_join (by omega) e_2864) (rX8_join (by omega) e_2863 ?_)
  show Rn d _ _ 90 [some (.ref q0), none, none] [] h_2866 Q
  refine Rn.n hT 2 (pc' := 92) (L' := [some (.ref q0), none, none]) (st' := [.int (1 : Int32), .ref q0]) rfl ?_
  obtain ⟨h_2867, e_2868, e⟩ := Option.bind_eq_some_iff.mp e
  refine Rn.hp hT rfl rfl (pV_hp rfl e_2868) ?_
  refine Rn.n hT 1 (pc' := 96) (L' := [some (.ref q0), none, none]) (st' := [.int (1 : Int32)]) rfl ?_
  obtain rfl := Option.some.inj e
  exact Rn.ret hT rfl rfl rfl hq
def fX8_readBehind_b16 (N : Nat) (h : iv_H) (q0 : Nat) (x1 : Int32) (s0 : Int32) : Option (Int32 × iv_H) := (if s0 = (-1 : Int32) then ((gI h 8 5 q0).bind fun v_2827 => (if v_2827 = (3 : Int32) then ((cko h q0 8).bind fun _ => (fX8_readComparison N h q0 x1).bind fun h_2850 => (some ((1 : Int32), h_2850))) else ((fX6_isLetter N h x1).bind fun v_2831 => (if v_2831 = 0 then ((cko h q0 8).bind fun _ => (fX8_readClosing N h q0 x1).bind fun p_2838 => (fun (v_2835 : Int32) (h_2836 : iv_H) => (if v_2835 = 0 ∨ v_2835 = 1 then some (v_2835, h_2836) else none)) p_2838.1 p_2838.2) else ((gR h 8 0 q0).bind fun v_2839 => ((cko h v_2839 6).bind fun _ => (fX6_readWord N h v_2839 1000014).bind fun p_2846 => (fun (v_2843 : Int32) (h_2844 : iv_H) => (if v_2843 = 0 then (fX8_readBehind_b87 N h_2844 q0 (2 : Int32) q0) else (fX8_readBehind_b87 N h_2844 q0 (1 : Int32) q0))) p_2846.1 p_2846.2)))))) else ((gR h 8 0 q0).bind fun v_2851 => ((gI h 6 2 v_2851).bind fun v_2853 => ((pV h 6 2 v_2851 (.int (v_2853 + (1 : Int32)))).bind fun h_2855 => ((cko h_2855 q0 8).bind fun _ => (fX8_join N h_2855 q0 s0).bind fun h_2860 => ((pV h_2860 8 5 q0 (.int (2 : Int32))).bind fun h_2861 => (some ((1 : Int32), h_2861))))))))
set_option maxRecDepth 10000 in
set_option maxHeartbeats 4000000 in
theorem rX8_readBehind_b16 {d N : Nat} (hd : 12 ≤ d) {h : iv_H} {q0 : Nat} {x1 : Int32} {s0 : Int32} {r : Int32 × iv_H} {Q : Option Value → iv_H → Prop} (hq : Q (some (.int r.1)) r.2) (e : fX8_readBehind_b16 N h q0 x1 s0 = some r) : Rn d 108 (some .boolean) 16 [some (.ref q0), some (.int x1), none] [.int s0] h Q := by
  have hT := hX8_readBehind
  unfold fX8_readBehind_b16 at e
  refine Rn.n hT 3 (pc' := 19) (L' := [some (.ref q0), some (.int x1), some (.int s0)]) (st' := [.int (-1 : Int32), .int s0]) rfl ?_
  by_cases c_2826 : s0 = (-1 : Int32)
  · rw [if_pos c_2826] at e
    refine Rn.bt hT rfl rfl rfl (decide_eq_true c_2826) ?_
    refine Rn.n hT 1 (pc' := 48) (L' := [some (.ref q0), some (.int x1), some (.int s0)]) (st' := [.ref q0]) rfl ?_
    obtain ⟨v_2827, e_2828, e⟩ := Option.bind_eq_some_iff.mp e
    refine Rn.hp hT rfl rfl (gI_hp e_2828) ?_
    refine Rn.n hT 1 (pc' := 52) (L' := [some (.ref q0), some (.int x1), some (.int s0)]) (st' := [.int (3 : Int32), .int v_2827]) rfl ?_
    by_cases c_2829 : v_2827 = (3 : Int32)
    · rw [if_pos c_2829] at e
      refine Rn.bf hT rfl rfl rfl (decide_eq_false (fun z => z c_2829)) ?_
      refine Rn.n hT 2 (pc' := 57) (L' := [some (.ref q0), some (.int x1), some (.int s0)]) (st' := [.int x1, .ref q0]) rfl ?_
      obtain ⟨_, e_2848, e⟩ := Option.bind_eq_some_iff.mp e
      obtain ⟨h_2850, e_2847, e⟩ := Option.bind_eq_some_iff.mp e
      refine Rn.call hT rfl rfl rfl (Nat.le_of_ble_eq_true rfl) (rcv_v gX8_readComparison (by omega) e_2848) (rX8_readComparison (by omega) e_2847 ?_)
      show Rn d _ _ 60 [some (.ref q0), some (.int x1), some (.int s0)] [] h_2850 Q
      refine Rn.n hT 1 (pc' := 61) (L' := [some (.ref q0), some (.int x1), some (.int s0)]) (st' := [.int (1 : Int32)]) rfl ?_
      obtain rfl := Option.some.inj e
      exact Rn.ret hT rfl rfl rfl hq
    · rw [if_neg c_2829] at e
      refine Rn.bt hT rfl rfl rfl (decide_eq_true c_2829) ?_
      refine Rn.n hT 1 (pc' := 63) (L' := [some (.ref q0), some (.int x1), some (.int s0)]) (st' := [.int x1]) rfl ?_
      obtain ⟨v_2831, e_2830, e⟩ := Option.bind_eq_some_iff.mp e
      refine Rn.call hT rfl rfl rfl (Nat.le_of_ble_eq_true rfl) rfl (rX6_isLetter (by omega) e_2830 ?_)
      show Rn d _ _ 66 [some (.ref q0), some (.int x1), some (.int s0)] [.int v_2831] h Q
      by_cases c_2832 : v_2831 = 0
      · rw [if_pos c_2832] at e
        refine Rn.bt hT rfl rfl rfl (decide_eq_true c_2832) ?_
        refine Rn.n hT 2 (pc' := 99) (L' := [some (.ref q0), some (.int x1), some (.int s0)]) (st' := [.int x1, .ref q0]) rfl ?_
        obtain ⟨_, e_2834, e⟩ := Option.bind_eq_some_iff.mp e
        obtain ⟨⟨v_2835, h_2836⟩, e_2833, e⟩ := Option.bind_eq_some_iff.mp e
        try dsimp only at e
        try dsimp only at e
        refine Rn.call hT rfl rfl rfl (Nat.le_of_ble_eq_true rfl) (rcv_v gX8_readClosing (by omega) e_2834) (rX8_readClosing (by omega) e_2833 ?_)
        show Rn d _ _ 102 [some (.ref q0), some (.int x1), some (.int s0)] [.int v_2835] h_2836 Q
        by_cases c_2837 : v_2835 = 0 ∨ v_2835 = 1
        · rw [if_pos c_2837] at e
          obtain rfl := Option.some.inj e
          exact Rn.ret hT rfl rfl (if_pos c_2837) hq
        · rw [if_neg c_2837] at e
          cases e
      · rw [if_neg c_2832] at e
        refine Rn.bf hT rfl rfl rfl (decide_eq_false c_2832) ?_
        refine Rn.n hT 2 (pc' := 71) (L' := [some (.ref q0), some (.int x1), some (.int s0)]) (st' := [.ref q0, .ref q0]) rfl ?_
        obtain ⟨v_2839, e_2840, e⟩ := Option.bind_eq_some_iff.mp e
        refine Rn.hp hT rfl rfl (gR_hp e_2840) ?_
        refine Rn.n hT 1 (pc' := 76) (L' := [some (.ref q0), some (.int x1), some (.int s0)]) (st' := [.ref 1000014, .ref v_2839, .ref q0]) rfl ?_
        obtain ⟨_, e_2842, e⟩ := Option.bind_eq_some_iff.mp e
        obtain ⟨⟨v_2843, h_2844⟩, e_2841, e⟩ := Option.bind_eq_some_iff.mp e
        try dsimp only at e
        try dsimp only at e
        refine Rn.call hT rfl rfl rfl (Nat.le_of_ble_eq_true rfl) (rcv_v gX6_readWord (by omega) e_2842) (rX6_readWord (by omega) e_2841 ?_)
        show Rn d _ _ 79 [some (.ref q0), some (.int x1), some (.int s0)] [.int v_2843, .ref q0] h_2844 Q
        by_cases c_2845 : v_2843 = 0
        · rw [if_pos c_2845] at e
          refine Rn.bf hT rfl rfl rfl (decide_eq_false (fun z => z c_2845)) ?_
          refine Rn.n hT 2 (pc' := 87) (L' := [some (.ref q0), some (.int x1), some (.int s0)]) (st' := [.int (2 : Int32), .ref q0]) rfl ?_
          exact Rn.weak (ll_s (ll_n (ll_n ll_e))) (rX8_readBehind_b87 hd hq e)
        · rw [if_neg c_2845] at e
          refine Rn.bt hT rfl rfl rfl (decide_eq_true c_2845) ?_
          refine Rn.n hT 1 (pc' := 87) (L' := [some (.ref q0), some (.int x1), some (.int s0)]) (st' := [.int (1 : Int32), .ref q0]) rfl ?_
          exact Rn.weak (ll_s (ll_n (ll_n ll_e))) (rX8_readBehind_b87 hd hq e)
  · rw [if_neg c_2826] at e
    refine Rn.bf hT rfl rfl rfl (decide_eq_false c_2826) ?_
    refine Rn.n hT 1 (pc' := 23) (L' := [some (.ref q0), some (.int x1), some (.int s0)]) (st' := [.ref q0]) rfl ?_
    obtain ⟨v_2851, e_2852, e⟩ := Option.bind_eq_some_iff.mp e
    refine Rn.hp hT rfl rfl (gR_hp e_2852) ?_
    refine Rn.n hT 1 (pc' := 27) (L' := [some (.ref q0), some (.int x1), some (.int s0)]) (st' := [.ref v_2851, .ref v_2851]) rfl ?_
    obtain ⟨v_2853, e_2854, e⟩ := Option.bind_eq_some_iff.mp e
    refine Rn.hp hT rfl rfl (gI_hp e_2854) ?_
    refine Rn.n hT 2 (pc' := 32) (L' := [some (.ref q0), some (.int x1), some (.int s0)]) (st' := [.int (v_2853 + (1 : Int32)), .ref v_2851]) rfl ?_
    obtain ⟨h_2855, e_2856, e⟩ := Option.bind_eq_some_iff.mp e
    refine Rn.hp hT rfl rfl (pV_hp rfl e_2856) ?_
    refine Rn.n hT 2 (pc' := 37) (L' := [some (.ref q0), some (.int x1), some (.int s0)]) (st' := [.int s0, .ref q0]) rfl ?_
    obtain ⟨_, e_2858, e⟩ := Option.bind_eq_some_iff.mp e
    obtain ⟨h_2860, e_2857, e⟩ := Option.bind_eq_some_iff.mp e
    refine Rn.call hT rfl rfl rfl (Nat.le_of_ble_eq_true rfl) (rcv_v gX8_join (by omega) e_2858) (rX8_join (by omega) e_2857 ?_)
    show Rn d _ _ 40 [some (.ref q0), some (.int x1), some (.int s0)] [] h_2860 Q
    refine Rn.n hT 2 (pc' := 42) (L' := [some (.ref q0), some (.int x1), some (.int s0)]) (st' := [.int (2 : Int32), .ref q0]) rfl ?_
    obtain ⟨h_2861, e_2862, e⟩ := Option.bind_eq_some_iff.mp e
    refine Rn.hp hT rfl rfl (pV_hp rfl e_2862) ?_
    refine Rn.n hT 1 (pc' := 46) (L' := [some (.ref q0), some (.int x1), some (.int s0)]) (st' := [.int (1 : Int32)]) rfl ?_
    obtain rfl := Option.some.inj e
    exact Rn.ret hT rfl rfl rfl hq
def fX8_readBehind (N : Nat) (h : iv_H) (q0 : Nat) (x1 : Int32) : Option (Int32 × iv_H) := ((gI h 8 5 q0).bind fun v_2821 => (if v_2821 = (5 : Int32) then (fX8_readBehind_b16 N h q0 x1 (-1 : Int32)) else ((fX8_arithmeticOf N h x1).bind fun v_2825 => (fX8_readBehind_b16 N h q0 x1 v_2825))))
set_option maxRecDepth 10000 in
set_option maxHeartbeats 4000000 in
theorem rX8_readBehind {d N : Nat} (hd : 13 ≤ d) {h : iv_H} {q0 : Nat} {x1 : Int32} {r : Int32 × iv_H} {Q : Option Value → iv_H → Prop} (e : fX8_readBehind N h q0 x1 = some r) (hq : Q (some (.int r.1)) r.2) : Cl d 108 [.ref q0, .int x1] h Q := by
  obtain ⟨d, rfl⟩ : ∃ k, d = k + 1 := ⟨d - 1, by omega⟩
  have hd : 12 ≤ d := by omega
  have hT := hX8_readBehind
  unfold fX8_readBehind at e
  refine Cl.into (by decide) gX8_readBehind rfl ?_
  show Rn d 108 (some .boolean) 0 [some (.ref q0), some (.int x1), none] [] h Q
  refine Rn.n hT 1 (pc' := 1) (L' := [some (.ref q0), some (.int x1), none]) (st' := [.ref q0]) rfl ?_
  obtain ⟨v_2821, e_2822, e⟩ := Option.bind_eq_some_iff.mp e
  refine Rn.hp hT rfl rfl (gI_hp e_2822) ?_
  refine Rn.n hT 1 (pc' := 5) (L' := [some (.ref q0), some (.int x1), none]) (st' := [.int (5 : Int32), .int v_2821]) rfl ?_
  by_cases c_2823 : v_2821 = (5 : Int32)
  · rw [if_pos c_2823] at e
    refine Rn.bf hT rfl rfl rfl (decide_eq_false (fun z => z c_2823)) ?_
    refine Rn.n hT 2 (pc' := 16) (L' := [some (.ref q0), some (.int x1), none]) (st' := [.int (-1 : Int32)]) rfl ?_
    exact Rn.weak (ll_s (ll_s (ll_n ll_e))) (rX8_readBehind_b16 hd hq e)
  · rw [if_neg c_2823] at e
    refine Rn.bt hT rfl rfl rfl (decide_eq_true c_2823) ?_
    refine Rn.n hT 1 (pc' := 13) (L' := [some (.ref q0), some (.int x1), none]) (st' := [.int x1]) rfl ?_
    obtain ⟨v_2825, e_2824, e⟩ := Option.bind_eq_some_iff.mp e
    refine Rn.call hT rfl rfl rfl (Nat.le_of_ble_eq_true rfl) rfl (rX8_arithmeticOf (by omega) e_2824 ?_)
    show Rn d _ _ 16 [some (.ref q0), some (.int x1), none] [.int v_2825] h Q
    exact Rn.weak (ll_s (ll_s (ll_n ll_e))) (rX8_readBehind_b16 hd hq e)
set_option maxRecDepth 10000 in
theorem hX8_readNext : iv_Tb 102 tX8_readNext := iv_tb_of (m := mX8_readNext) rfl
set_option maxRecDepth 10000 in
theorem gX8_readNext : PG.2 102 = some mX8_readNext := iv_pi_of (t := tX8_readNext) rfl (by decide)
def fX8_readNext (N : Nat) (h : iv_H) (q0 : Nat) (x1 : Int32) : Option (Int32 × iv_H) := ((gI h 8 5 q0).bind fun v_2869 => (if v_2869 = (0 : Int32) then ((cko h q0 8).bind fun _ => (fX8_readBar N h q0).bind fun h_2875 => (some ((1 : Int32), h_2875))) else (if v_2869 = (1 : Int32) then ((cko h q0 8).bind fun _ => (fX8_readFact N h q0 x1).bind fun h_2880 => (some ((1 : Int32), h_2880))) else (if v_2869 = (2 : Int32) then ((cko h q0 8).bind fun _ => (fX8_readValue N h q0 x1 1000011).bind fun h_2885 => (some ((1 : Int32), h_2885))) else ((cko h q0 8).bind fun _ => (fX8_readBehind N h q0 x1).bind fun p_2891 => (fun (v_2888 : Int32) (h_2889 : iv_H) => (if v_2888 = 0 ∨ v_2888 = 1 then some (v_2888, h_2889) else none)) p_2891.1 p_2891.2)))))
set_option maxRecDepth 10000 in
set_option maxHeartbeats 4000000 in
theorem rX8_readNext {d N : Nat} (hd : 15 ≤ d) {h : iv_H} {q0 : Nat} {x1 : Int32} {r : Int32 × iv_H} {Q : Option Value → iv_H → Prop} (e : fX8_readNext N h q0 x1 = some r) (hq : Q (some (.int r.1)) r.2) : Cl d 102 [.ref q0, .int x1] h Q := by
  obtain ⟨d, rfl⟩ : ∃ k, d = k + 1 := ⟨d - 1, by omega⟩
  have hd : 14 ≤ d := by omega
  have hT := hX8_readNext
  unfold fX8_readNext at e
  refine Cl.into (by decide) gX8_readNext rfl ?_
  show Rn d 102 (some .boolean) 0 [some (.ref q0), some (.int x1)] [] h Q
  refine Rn.n hT 1 (pc' := 1) (L' := [some (.ref q0), some (.int x1)]) (st' := [.ref q0]) rfl ?_
  obtain ⟨v_2869, e_2870, e⟩ := Option.bind_eq_some_iff.mp e
  refine Rn.hp hT rfl rfl (gI_hp e_2870) ?_
  by_cases c_2871 : v_2869 = (0 : Int32)
  · rw [if_pos c_2871] at e
    refine Rn.sw2 hT rfl rfl rfl (if_pos c_2871) ?_
    refine Rn.n hT 1 (pc' := 33) (L' := [some (.ref q0), some (.int x1)]) (st' := [.ref q0]) rfl ?_
    obtain ⟨_, e_2873, e⟩ := Option.bind_eq_some_iff.mp e
    obtain ⟨h_2875, e_2872, e⟩ := Option.bind_eq_some_iff.mp e
    refine Rn.call hT rfl rfl rfl (Nat.le_of_ble_eq_true rfl) (rcv_v gX8_readBar (by omega) e_2873) (rX8_readBar (by omega) e_2872 ?_)
    show Rn d _ _ 36 [some (.ref q0), some (.int x1)] [] h_2875 Q
    refine Rn.n hT 1 (pc' := 37) (L' := [some (.ref q0), some (.int x1)]) (st' := [.int (1 : Int32)]) rfl ?_
    obtain rfl := Option.some.inj e
    exact Rn.ret hT rfl rfl rfl hq
  · rw [if_neg c_2871] at e
    by_cases c_2876 : v_2869 = (1 : Int32)
    · rw [if_pos c_2876] at e
      refine Rn.sw2 hT rfl rfl rfl ((if_neg c_2871).trans (if_pos c_2876)) ?_
      refine Rn.n hT 2 (pc' := 40) (L' := [some (.ref q0), some (.int x1)]) (st' := [.int x1, .ref q0]) rfl ?_
      obtain ⟨_, e_2878, e⟩ := Option.bind_eq_some_iff.mp e
      obtain ⟨h_2880, e_2877, e⟩ := Option.bind_eq_some_iff.mp e
      refine Rn.call hT rfl rfl rfl (Nat.le_of_ble_eq_true rfl) (rcv_v gX8_readFact (by omega) e_2878) (rX8_readFact (by omega) e_2877 ?_)
      show Rn d _ _ 43 [some (.ref q0), some (.int x1)] [] h_2880 Q
      refine Rn.n hT 1 (pc' := 44) (L' := [some (.ref q0), some (.int x1)]) (st' := [.int (1 : Int32)]) rfl ?_
      obtain rfl := Option.some.inj e
      exact Rn.ret hT rfl rfl rfl hq
    · rw [if_neg c_2876] at e
      by_cases c_2881 : v_2869 = (2 : Int32)
      · rw [if_pos c_2881] at e
        refine Rn.sw2 hT rfl rfl rfl ((if_neg c_2871).trans ((if_neg c_2876).trans (if_pos c_2881))) ?_
        refine Rn.n hT 3 (pc' := 49) (L' := [some (.ref q0), some (.int x1)]) (st' := [.ref 1000011, .int x1, .ref q0]) rfl ?_
        obtain ⟨_, e_2883, e⟩ := Option.bind_eq_some_iff.mp e
        obtain ⟨h_2885, e_2882, e⟩ := Option.bind_eq_some_iff.mp e
        refine Rn.call hT rfl rfl rfl (Nat.le_of_ble_eq_true rfl) (rcv_v gX8_readValue (by omega) e_2883) (rX8_readValue (by omega) e_2882 ?_)
        show Rn d _ _ 52 [some (.ref q0), some (.int x1)] [] h_2885 Q
        refine Rn.n hT 1 (pc' := 53) (L' := [some (.ref q0), some (.int x1)]) (st' := [.int (1 : Int32)]) rfl ?_
        obtain rfl := Option.some.inj e
        exact Rn.ret hT rfl rfl rfl hq
      · rw [if_neg c_2881] at e
        refine Rn.sw2 hT rfl rfl rfl ((if_neg c_2871).trans ((if_neg c_2876).trans ((if_neg c_2881).trans rfl))) ?_
        refine Rn.n hT 2 (pc' := 56) (L' := [some (.ref q0), some (.int x1)]) (st' := [.int x1, .ref q0]) rfl ?_
        obtain ⟨_, e_2887, e⟩ := Option.bind_eq_some_iff.mp e
        obtain ⟨⟨v_2888, h_2889⟩, e_2886, e⟩ := Option.bind_eq_some_iff.mp e
        try dsimp only at e
        try dsimp only at e
        refine Rn.call hT rfl rfl rfl (Nat.le_of_ble_eq_true rfl) (rcv_v gX8_readBehind (by omega) e_2887) (rX8_readBehind (by omega) e_2886 ?_)
        show Rn d _ _ 59 [some (.ref q0), some (.int x1)] [.int v_2888] h_2889 Q
        by_cases c_2890 : v_2888 = 0 ∨ v_2888 = 1
        · rw [if_pos c_2890] at e
          obtain rfl := Option.some.inj e
          exact Rn.ret hT rfl rfl (if_pos c_2890) hq
        · rw [if_neg c_2890] at e
          cases e
set_option maxRecDepth 10000 in
theorem hX8_read : iv_Tb 100 tX8_read := iv_tb_of (m := mX8_read) rfl
set_option maxRecDepth 10000 in
theorem gX8_read : PG.2 100 = some mX8_read := iv_pi_of (t := tX8_read) rfl (by decide)
def fX8_read_b95 (N : Nat) (h : iv_H) (q0 : Nat) (x4 : Int32) (s0 : Int32) (kb : iv_H → Int32 → Int32 → Option (Int32 × iv_H)) (kx : iv_H → Option (Int32 × iv_H)) : Option (Int32 × iv_H) := (kb h s0 (x4 + (1 : Int32)))
set_option maxRecDepth 10000 in
set_option maxHeartbeats 4000000 in
theorem rX8_read_b95 {d N : Nat} (hd : 15 ≤ d) {h : iv_H} {q0 : Nat} {x4 : Int32} {s0 : Int32} {kb : iv_H → Int32 → Int32 → Option (Int32 × iv_H)} {kx : iv_H → Option (Int32 × iv_H)} {r : Int32 × iv_H} {Q : Option Value → iv_H → Prop} (hb : ∀ (h : iv_H) (w3 : Int32) (w4 : Int32), kb h w3 w4 = some r → Rn d 100 (some .int) 54 [some (.ref q0), none, none, some (.int w3), some (.int w4)] [] h Q) (hk : ∀ (h : iv_H), kx h = some r → Rn d 100 (some .int) 102 [some (.ref q0), none, none, none, none] [] h Q) (hq : Q (some (.int r.1)) r.2) (e : fX8_read_b95 N h q0 x4 s0 kb kx = some r) : Rn d 100 (some .int) 95 [some (.ref q0), none, none, none, some (.int x4)] [.int s0] h Q := by
  have hT := hX8_read
  unfold fX8_read_b95 at e
  refine Rn.n hT 3 (pc' := 54) (L' := [some (.ref q0), none, none, some (.int s0), some (.int (x4 + (1 : Int32)))]) (st' := []) rfl ?_
  exact Rn.weak (ll_s (ll_n (ll_n (ll_s (ll_s ll_e))))) (hb h s0 (x4 + (1 : Int32)) e)
def fX8_read_b94 (N : Nat) (h : iv_H) (q0 : Nat) (x4 : Int32)  (kb : iv_H → Int32 → Int32 → Option (Int32 × iv_H)) (kx : iv_H → Option (Int32 × iv_H)) : Option (Int32 × iv_H) := (fX8_read_b95 N h q0 x4 (0 : Int32) kb kx)
set_option maxRecDepth 10000 in
set_option maxHeartbeats 4000000 in
theorem rX8_read_b94 {d N : Nat} (hd : 15 ≤ d) {h : iv_H} {q0 : Nat} {x4 : Int32}  {kb : iv_H → Int32 → Int32 → Option (Int32 × iv_H)} {kx : iv_H → Option (Int32 × iv_H)} {r : Int32 × iv_H} {Q : Option Value → iv_H → Prop} (hb : ∀ (h : iv_H) (w3 : Int32) (w4 : Int32), kb h w3 w4 = some r → Rn d 100 (some .int) 54 [some (.ref q0), none, none, some (.int w3), some (.int w4)] [] h Q) (hk : ∀ (h : iv_H), kx h = some r → Rn d 100 (some .int) 102 [some (.ref q0), none, none, none, none] [] h Q) (hq : Q (some (.int r.1)) r.2) (e : fX8_read_b94 N h q0 x4  kb kx = some r) : Rn d 100 (some .int) 94 [some (.ref q0), none, none, none, some (.int x4)] [] h Q := by
  have hT := hX8_read
  unfold fX8_read_b94 at e
  refine Rn.n hT 1 (pc' := 95) (L' := [some (.ref q0), none, none, none, some (.int x4)]) (st' := [.int (0 : Int32)]) rfl ?_
  exact Rn.weak (ll_s (ll_n (ll_n (ll_n (ll_s ll_e))))) (rX8_read_b95 hd hb hk hq e)
def fX8_read_l54 (N : Nat) (q0 : Nat) (kx : iv_H → Option (Int32 × iv_H)) : Nat → iv_H → Int32 → Int32 → Option (Int32 × iv_H)
  | 0, _, _, _ => none
  | n + 1, h, x3, x4 => (if (400 : Int32) < x4 then (kx h) else (if x3 = 0 then (kx h) else ((gR h 8 0 q0).bind fun v_2917 => ((cko h v_2917 6).bind fun _ => (fX6_skipBlanks N h v_2917).bind fun p_2934 => (fun (v_2921 : Int32) (h_2922 : iv_H) => ((cko h_2922 q0 8).bind fun _ => (fX8_readNext N h_2922 q0 v_2921).bind fun p_2933 => (fun (v_2925 : Int32) (h_2926 : iv_H) => (if v_2925 = 0 then (fX8_read_b94 N h_2926 q0 x4 (fX8_read_l54 N q0 kx n) kx) else ((gR h_2926 8 0 q0).bind fun v_2928 => ((gI h_2926 6 4 v_2928).bind fun v_2930 => (if v_2930 = 0 then (fX8_read_b95 N h_2926 q0 x4 (1 : Int32) (fX8_read_l54 N q0 kx n) kx) else (fX8_read_b94 N h_2926 q0 x4 (fX8_read_l54 N q0 kx n) kx)))))) p_2933.1 p_2933.2)) p_2934.1 p_2934.2))))
set_option maxRecDepth 10000 in
set_option maxHeartbeats 4000000 in
theorem rX8_read_l54 {d N : Nat} (hd : 15 ≤ d) {q0 : Nat} {kx : iv_H → Option (Int32 × iv_H)} {r : Int32 × iv_H} {Q : Option Value → iv_H → Prop} (hk : ∀ (h : iv_H), kx h = some r → Rn d 100 (some .int) 102 [some (.ref q0), none, none, none, none] [] h Q) (hq : Q (some (.int r.1)) r.2) : ∀ (n : Nat) (h : iv_H) (x3 : Int32) (x4 : Int32), fX8_read_l54 N q0 kx n h x3 x4 = some r → Rn d 100 (some .int) 54 [some (.ref q0), none, none, some (.int x3), some (.int x4)] [] h Q := by
  have hT := hX8_read
  intro n
  induction n with
  | zero =>
    intro h x3 x4 e
    rw [fX8_read_l54] at e
    cases e
  | succ n ih =>
    intro h x3 x4 e
    rw [fX8_read_l54] at e
    refine Rn.n hT 2 (pc' := 59) (L' := [some (.ref q0), none, none, some (.int x3), some (.int x4)]) (st' := [.int (400 : Int32), .int x4]) rfl ?_
    by_cases c_2915 : (400 : Int32) < x4
    · rw [if_pos c_2915] at e
      refine Rn.bt hT rfl rfl rfl (decide_eq_true c_2915) ?_
      exact Rn.weak (ll_s (ll_n (ll_n (ll_n (ll_n ll_e))))) (hk h e)
    · rw [if_neg c_2915] at e
      refine Rn.bf hT rfl rfl rfl (decide_eq_false c_2915) ?_
      refine Rn.n hT 1 (pc' := 63) (L' := [some (.ref q0), none, none, some (.int x3), some (.int x4)]) (st' := [.int x3]) rfl ?_
      by_cases c_2916 : x3 = 0
      · rw [if_pos c_2916] at e
        refine Rn.bt hT rfl rfl rfl (decide_eq_true c_2916) ?_
        exact Rn.weak (ll_s (ll_n (ll_n (ll_n (ll_n ll_e))))) (hk h e)
      · rw [if_neg c_2916] at e
        refine Rn.bf hT rfl rfl rfl (decide_eq_false c_2916) ?_
        refine Rn.n hT 2 (pc' := 68) (L' := [some (.ref q0), none, none, some (.int x3), some (.int x4)]) (st' := [.ref q0, .ref q0]) rfl ?_
        obtain ⟨v_2917, e_2918, e⟩ := Option.bind_eq_some_iff.mp e
        refine Rn.hp hT rfl rfl (gR_hp e_2918) ?_
        obtain ⟨_, e_2920, e⟩ := Option.bind_eq_some_iff.mp e
        obtain ⟨⟨v_2921, h_2922⟩, e_2919, e⟩ := Option.bind_eq_some_iff.mp e
        try dsimp only at e
        try dsimp only at e
        refine Rn.call hT rfl rfl rfl (Nat.le_of_ble_eq_true rfl) (rcv_v gX6_skipBlanks (by omega) e_2920) (rX6_skipBlanks (by omega) e_2919 ?_)
        show Rn d _ _ 74 [some (.ref q0), none, none, some (.int x3), some (.int x4)] [.int v_2921, .ref q0] h_2922 Q
        obtain ⟨_, e_2924, e⟩ := Option.bind_eq_some_iff.mp e
        obtain ⟨⟨v_2925, h_2926⟩, e_2923, e⟩ := Option.bind_eq_some_iff.mp e
        try dsimp only at e
        try dsimp only at e
        refine Rn.call hT rfl rfl rfl (Nat.le_of_ble_eq_true rfl) (rcv_v gX8_readNext (by omega) e_2924) (rX8_readNext (by omega) e_2923 ?_)
        show Rn d _ _ 77 [some (.ref q0), none, none, some (.int x3), some (.int x4)] [.int v_2925] h_2926 Q
        by_cases c_2927 : v_2925 = 0
        · rw [if_pos c_2927] at e
          refine Rn.bt hT rfl rfl rfl (decide_eq_true c_2927) ?_
          exact Rn.weak (ll_s (ll_n (ll_n (ll_n (ll_s ll_e))))) (rX8_read_b94 hd ih hk hq e)
        · rw [if_neg c_2927] at e
          refine Rn.bf hT rfl rfl rfl (decide_eq_false c_2927) ?_
          refine Rn.n hT 1 (pc' := 81) (L' := [some (.ref q0), none, none, some (.int x3), some (.int x4)]) (st' := [.ref q0]) rfl ?_
          obtain ⟨v_2928, e_2929, e⟩ := Option.bind_eq_some_iff.mp e
          refine Rn.hp hT rfl rfl (gR_hp e_2929) ?_
          obtain ⟨v_2930, e_2931, e⟩ := Option.bind_eq_some_iff.mp e
          refine Rn.hp hT rfl rfl (gI_hp e_2931) ?_
          by_cases c_2932 : v_2930 = 0
          · rw [if_pos c_2932] at e
            refine Rn.bf hT rfl rfl rfl (decide_eq_false (fun z => z c_2932)) ?_
            refine Rn.n hT 2 (pc' := 95) (L' := [some (.ref q0), none, none, some (.int x3), some (.int x4)]) (st' := [.int (1 : Int32)]) rfl ?_
            exact Rn.weak (ll_s (ll_n (ll_n (ll_n (ll_s ll_e))))) (rX8_read_b95 hd ih hk hq e)
          · rw [if_neg c_2932] at e
            refine Rn.bt hT rfl rfl rfl (decide_eq_true c_2932) ?_
            exact Rn.weak (ll_s (ll_n (ll_n (ll_n (ll_s ll_e))))) (rX8_read_b94 hd ih hk hq e)
def fX8_read_b102 (N : Nat) (h : iv_H) (q0 : Nat)  : Option (Int32 × iv_H) := ((gR h 8 0 q0).bind fun v_2935 => ((gI h 6 4 v_2935).bind fun v_2937 => (some (v_2937, h))))
set_option maxRecDepth 10000 in
set_option maxHeartbeats 4000000 in
theorem rX8_read_b102 {d N : Nat} (hd : 15 ≤ d) {h : iv_H} {q0 : Nat}  {r : Int32 × iv_H} {Q : Option Value → iv_H → Prop} (hq : Q (some (.int r.1)) r.2) (e : fX8_read_b102 N h q0  = some r) : Rn d 100 (some .int) 102 [some (.ref q0), none, none, none, none] [] h Q := by
  have hT := hX8_read
  unfold fX8_read_b102 at e
  refine Rn.n hT 1 (pc' := 103) (L' := [some (.ref q0), none, none, none, none]) (st' := [.ref q0]) rfl ?_
  obtain ⟨v_2935, e_2936, e⟩ := Option.bind_eq_some_iff.mp e
  refine Rn.hp hT rfl rfl (gR_hp e_2936) ?_
  obtain ⟨v_2937, e_2938, e⟩ := Option.bind_eq_some_iff.mp e
  refine Rn.hp hT rfl rfl (gI_hp e_2938) ?_
  obtain rfl := Option.some.inj e
  exact Rn.ret hT rfl rfl rfl hq
def fX8_read (N : Nat) (h : iv_H) (q0 : Nat) (q1 : Nat) (x2 : Int32) : Option (Int32 × iv_H) := ((gR h 8 0 q0).bind fun v_2892 => ((cko h v_2892 6).bind fun _ => (fX6_open N h v_2892 q1 x2).bind fun h_2897 => ((pV h_2897 8 2 q0 (.int (0 : Int32))).bind fun h_2898 => ((pV h_2898 8 4 q0 (.int (0 : Int32))).bind fun h_2900 => ((pV h_2900 8 5 q0 (.int (0 : Int32))).bind fun h_2902 => ((pV h_2902 8 6 q0 (.int (0 : Int32))).bind fun h_2904 => ((pV h_2904 8 7 q0 (.int (0 : Int32))).bind fun h_2906 => ((pV h_2906 8 8 q0 (.int (0 : Int32))).bind fun h_2908 => ((pV h_2908 8 9 q0 (.int (0 : Int32))).bind fun h_2910 => ((pV h_2910 8 10 q0 (.int (0 : Int32))).bind fun h_2912 => (fX8_read_l54 N q0 (fun (h_2914 : iv_H) => (fX8_read_b102 N h_2914 q0)) N h_2912 (1 : Int32) (0 : Int32))))))))))))
set_option maxRecDepth 10000 in
set_option maxHeartbeats 4000000 in
theorem rX8_read {d N : Nat} (hd : 16 ≤ d) {h : iv_H} {q0 : Nat} {q1 : Nat} {x2 : Int32} {r : Int32 × iv_H} {Q : Option Value → iv_H → Prop} (e : fX8_read N h q0 q1 x2 = some r) (hq : Q (some (.int r.1)) r.2) : Cl d 100 [.ref q0, .ref q1, .int x2] h Q := by
  obtain ⟨d, rfl⟩ : ∃ k, d = k + 1 := ⟨d - 1, by omega⟩
  have hd : 15 ≤ d := by omega
  have hT := hX8_read
  unfold fX8_read at e
  refine Cl.into (by decide) gX8_read rfl ?_
  show Rn d 100 (some .int) 0 [some (.ref q0), some (.ref q1), some (.int x2), none, none] [] h Q
  refine Rn.n hT 1 (pc' := 1) (L' := [some (.ref q0), some (.ref q1), some (.int x2), none, none]) (st' := [.ref q0]) rfl ?_
  obtain ⟨v_2892, e_2893, e⟩ := Option.bind_eq_some_iff.mp e
  refine Rn.hp hT rfl rfl (gR_hp e_2893) ?_
  refine Rn.n hT 2 (pc' := 6) (L' := [some (.ref q0), some (.ref q1), some (.int x2), none, none]) (st' := [.int x2, .ref q1, .ref v_2892]) rfl ?_
  obtain ⟨_, e_2895, e⟩ := Option.bind_eq_some_iff.mp e
  obtain ⟨h_2897, e_2894, e⟩ := Option.bind_eq_some_iff.mp e
  refine Rn.call hT rfl rfl rfl (Nat.le_of_ble_eq_true rfl) (rcv_v gX6_open (by omega) e_2895) (rX6_open (by omega) e_2894 ?_)
  show Rn d _ _ 9 [some (.ref q0), some (.ref q1), some (.int x2), none, none] [] h_2897 Q
  refine Rn.n hT 2 (pc' := 11) (L' := [some (.ref q0), some (.ref q1), some (.int x2), none, none]) (st' := [.int (0 : Int32), .ref q0]) rfl ?_
  obtain ⟨h_2898, e_2899, e⟩ := Option.bind_eq_some_iff.mp e
  refine Rn.hp hT rfl rfl (pV_hp rfl e_2899) ?_
  refine Rn.n hT 2 (pc' := 16) (L' := [some (.ref q0), some (.ref q1), some (.int x2), none, none]) (st' := [.int (0 : Int32), .ref q0]) rfl ?_
  obtain ⟨h_2900, e_2901, e⟩ := Option.bind_eq_some_iff.mp e
  refine Rn.hp hT rfl rfl (pV_hp rfl e_2901) ?_
  refine Rn.n hT 2 (pc' := 21) (L' := [some (.ref q0), some (.ref q1), some (.int x2), none, none]) (st' := [.int (0 : Int32), .ref q0]) rfl ?_
  obtain ⟨h_2902, e_2903, e⟩ := Option.bind_eq_some_iff.mp e
  refine Rn.hp hT rfl rfl (pV_hp rfl e_2903) ?_
  refine Rn.n hT 2 (pc' := 26) (L' := [some (.ref q0), some (.ref q1), some (.int x2), none, none]) (st' := [.int (0 : Int32), .ref q0]) rfl ?_
  obtain ⟨h_2904, e_2905, e⟩ := Option.bind_eq_some_iff.mp e
  refine Rn.hp hT rfl rfl (pV_hp (by decide) e_2905) ?_
  refine Rn.n hT 2 (pc' := 31) (L' := [some (.ref q0), some (.ref q1), some (.int x2), none, none]) (st' := [.int (0 : Int32), .ref q0]) rfl ?_
  obtain ⟨h_2906, e_2907, e⟩ := Option.bind_eq_some_iff.mp e
  refine Rn.hp hT rfl rfl (pV_hp rfl e_2907) ?_
  refine Rn.n hT 2 (pc' := 36) (L' := [some (.ref q0), some (.ref q1), some (.int x2), none, none]) (st' := [.int (0 : Int32), .ref q0]) rfl ?_
  obtain ⟨h_2908, e_2909, e⟩ := Option.bind_eq_some_iff.mp e
  refine Rn.hp hT rfl rfl (pV_hp rfl e_2909) ?_
  refine Rn.n hT 2 (pc' := 41) (L' := [some (.ref q0), some (.ref q1), some (.int x2), none, none]) (st' := [.int (0 : Int32), .ref q0]) rfl ?_
  obtain ⟨h_2910, e_2911, e⟩ := Option.bind_eq_some_iff.mp e
  refine Rn.hp hT rfl rfl (pV_hp rfl e_2911) ?_
  refine Rn.n hT 2 (pc' := 46) (L' := [some (.ref q0), some (.ref q1), some (.int x2), none, none]) (st' := [.int (0 : Int32), .ref q0]) rfl ?_
  obtain ⟨h_2912, e_2913, e⟩ := Option.bind_eq_some_iff.mp e
  refine Rn.hp hT rfl rfl (pV_hp rfl e_2913) ?_
  refine Rn.n hT 4 (pc' := 54) (L' := [some (.ref q0), some (.ref q1), some (.int x2), some (.int (1 : Int32)), some (.int (0 : Int32))]) (st' := []) rfl ?_
  refine Rn.weak (ll_s (ll_n (ll_n (ll_s (ll_s ll_e))))) (rX8_read_l54 hd (fun h_2914 e => ?_) hq N h_2912 (1 : Int32) (0 : Int32) e)
  try dsimp only at e
  exact Rn.weak (ll_s (ll_n (ll_n (ll_n (ll_n ll_e))))) (rX8_read_b102 hd hq e)
set_option maxRecDepth 10000 in
theorem hX8_copyTo : iv_Tb 101 tX8_copyTo := iv_tb_of (m := mX8_copyTo) rfl
set_option maxRecDepth 10000 in
theorem gX8_copyTo : PG.2 101 = some mX8_copyTo := iv_pi_of (t := tX8_copyTo) rfl (by decide)
def fX8_copyTo (N : Nat) (h : iv_H) (q0 : Nat) (q1 : Nat) : Option (iv_H) := ((fJ7_fill_53178 N h q1 (0 : Int32)).bind fun h_2941 => ((gR h_2941 8 1 q0).bind fun v_2942 => ((gI h_2941 8 2 q0).bind fun v_2944 => ((aL h_2941 q1).bind fun v_2946 => ((cpA h_2941 v_2942 (0 : Int32) q1 (0 : Int32) (iv_mn v_2944 v_2946)).bind fun h_2950 => some h_2950)))))
set_option maxRecDepth 10000 in
set_option maxHeartbeats 4000000 in
theorem rX8_copyTo {d N : Nat} (hd : 2 ≤ d) {h : iv_H} {q0 : Nat} {q1 : Nat} {r : iv_H} {Q : Option Value → iv_H → Prop} (e : fX8_copyTo N h q0 q1 = some r) (hq : Q none r) : Cl d 101 [.ref q0, .ref q1] h Q := by
  obtain ⟨d, rfl⟩ : ∃ k, d = k + 1 := ⟨d - 1, by omega⟩
  have hd : 1 ≤ d := by omega
  have hT := hX8_copyTo
  unfold fX8_copyTo at e
  refine Cl.into (by decide) gX8_copyTo rfl ?_
  show Rn d 101 none 0 [some (.ref q0), some (.ref q1)] [] h Q
  refine Rn.n hT 2 (pc' := 2) (L' := [some (.ref q0), some (.ref q1)]) (st' := [.int (0 : Int32), .ref q1]) rfl ?_
  obtain ⟨h_2941, e_2939, e⟩ := Option.bind_eq_some_iff.mp e
  refine Rn.call hT rfl rfl rfl (Nat.le_of_ble_eq_true rfl) rfl (rJ7_fill_53178 (by omega) e_2939 ?_)
  show Rn d _ _ 5 [some (.ref q0), some (.ref q1)] [] h_2941 Q
  refine Rn.n hT 1 (pc' := 6) (L' := [some (.ref q0), some (.ref q1)]) (st' := [.ref q0]) rfl ?_
  obtain ⟨v_2942, e_2943, e⟩ := Option.bind_eq_some_iff.mp e
  refine Rn.hp hT rfl rfl (gR_hp e_2943) ?_
  refine Rn.n hT 4 (pc' := 13) (L' := [some (.ref q0), some (.ref q1)]) (st' := [.ref q0, .int (0 : Int32), .ref q1, .int (0 : Int32), .ref v_2942]) rfl ?_
  obtain ⟨v_2944, e_2945, e⟩ := Option.bind_eq_some_iff.mp e
  refine Rn.hp hT rfl rfl (gI_hp e_2945) ?_
  refine Rn.n hT 1 (pc' := 17) (L' := [some (.ref q0), some (.ref q1)]) (st' := [.ref q1, .int v_2944, .int (0 : Int32), .ref q1, .int (0 : Int32), .ref v_2942]) rfl ?_
  obtain ⟨v_2946, e_2947, e⟩ := Option.bind_eq_some_iff.mp e
  refine Rn.hp hT rfl rfl (aL_hp e_2947) ?_
  refine Rn.hp hT rfl rfl (mn_hp (Nat.le_of_ble_eq_true rfl)) ?_
  obtain ⟨h_2950, e_2949, e⟩ := Option.bind_eq_some_iff.mp e
  refine Rn.hp hT rfl rfl (cpA_hp (Nat.le_of_ble_eq_true rfl) e_2949) ?_
  obtain rfl := Option.some.inj e
  exact Rn.ret hT rfl rfl rfl hq
set_option maxRecDepth 10000 in
theorem hX9_init : iv_Tb 116 tX9_init := iv_tb_of (m := mX9_init) rfl
set_option maxRecDepth 10000 in
theorem gX9_init : PG.2 116 = some mX9_init := iv_pi_of (t := tX9_init) rfl (by decide)
def fX9_init (N : Nat) (h : iv_H) (q0 : Nat) : Option (iv_H) := ((nA h 1 (1500 : Int32)).bind fun p_2955 => (fun (v_2954 : Nat) (h_2952 : iv_H) => ((pV h_2952 9 0 q0 (.ref v_2954)).bind fun h_2956 => ((nA h_2956 0 (1500 : Int32)).bind fun p_2961 => (fun (v_2960 : Nat) (h_2958 : iv_H) => ((pV h_2958 9 1 q0 (.ref v_2960)).bind fun h_2962 => ((nA h_2962 0 (1500 : Int32)).bind fun p_2967 => (fun (v_2966 : Nat) (h_2964 : iv_H) => ((pV h_2964 9 2 q0 (.ref v_2966)).bind fun h_2968 => ((nA h_2968 0 (1500 : Int32)).bind fun p_2973 => (fun (v_2972 : Nat) (h_2970 : iv_H) => ((pV h_2970 9 3 q0 (.ref v_2972)).bind fun h_2974 => ((pV h_2974 9 4 q0 (.int (0 : Int32))).bind fun h_2976 => ((nA h_2976 0 (4096 : Int32)).bind fun p_2981 => (fun (v_2980 : Nat) (h_2978 : iv_H) => ((pV h_2978 9 5 q0 (.ref v_2980)).bind fun h_2982 => ((nA h_2982 0 (126 : Int32)).bind fun p_2987 => (fun (v_2986 : Nat) (h_2984 : iv_H) => ((pV h_2984 9 6 q0 (.ref v_2986)).bind fun h_2988 => ((nO h_2988 1).bind fun p_2993 => (fun (v_2992 : Nat) (h_2990 : iv_H) => ((fX1_init N h_2990 v_2992).bind fun h_2996 => ((pV h_2996 9 7 q0 (.ref v_2992)).bind fun h_2997 => ((nO h_2997 3).bind fun p_3002 => (fun (v_3001 : Nat) (h_2999 : iv_H) => ((fX3_init N h_2999 v_3001).bind fun h_3005 => ((pV h_3005 9 8 q0 (.ref v_3001)).bind fun h_3006 => ((pV h_3006 9 9 q0 (.int (-1 : Int32))).bind fun h_3008 => ((pV h_3008 9 10 q0 (.int (-1 : Int32))).bind fun h_3010 => ((pV h_3010 9 11 q0 (.int (0 : Int32))).bind fun h_3012 => ((nA h_3012 0 (1500 : Int32)).bind fun p_3017 => (fun (v_3016 : Nat) (h_3014 : iv_H) => ((pV h_3014 9 12 q0 (.ref v_3016)).bind fun h_3018 => some h_3018)) p_3017.1 p_3017.2))))))) p_3002.1 p_3002.2)))) p_2993.1 p_2993.2))) p_2987.1 p_2987.2))) p_2981.1 p_2981.2)))) p_2973.1 p_2973.2))) p_2967.1 p_2967.2))) p_2961.1 p_2961.2))) p_2955.1 p_2955.2)
set_option maxRecDepth 10000 in
set_option maxHeartbeats 4000000 in
theorem rX9_init {d N : Nat} (hd : 3 ≤ d) {h : iv_H} {q0 : Nat} {r : iv_H} {Q : Option Value → iv_H → Prop} (e : fX9_init N h q0 = some r) (hq : Q none r) : Cl d 116 [.ref q0] h Q := by
  obtain ⟨d, rfl⟩ : ∃ k, d = k + 1 := ⟨d - 1, by omega⟩
  have hd : 2 ≤ d := by omega
  have hT := hX9_init
  unfold fX9_init at e
  refine Cl.into (by decide) gX9_init rfl ?_
  show Rn d 116 none 0 [some (.ref q0)] [] h Q
  refine Rn.n hT 1 (pc' := 1) (L' := [some (.ref q0)]) (st' := [.ref q0]) rfl ?_
  refine Rn.hp hT rfl rfl (st' := []) (h1 := h) rfl ?_
  refine Rn.n hT 2 (pc' := 8) (L' := [some (.ref q0)]) (st' := [.int (1500 : Int32), .ref q0]) rfl ?_
  obtain ⟨⟨v_2954, h_2952⟩, e_2953, e⟩ := Option.bind_eq_some_iff.mp e
  try dsimp only at e
  refine Rn.hp hT rfl rfl (nA_hp rfl e_2953) ?_
  obtain ⟨h_2956, e_2957, e⟩ := Option.bind_eq_some_iff.mp e
  refine Rn.hp hT rfl rfl (pV_hp rfl e_2957) ?_
  refine Rn.n hT 2 (pc' := 17) (L' := [some (.ref q0)]) (st' := [.int (1500 : Int32), .ref q0]) rfl ?_
  obtain ⟨⟨v_2960, h_2958⟩, e_2959, e⟩ := Option.bind_eq_some_iff.mp e
  try dsimp only at e
  refine Rn.hp hT rfl rfl (nA_hp rfl e_2959) ?_
  obtain ⟨h_2962, e_2963, e⟩ := Option.bind_eq_some_iff.mp e
  refine Rn.hp hT rfl rfl (pV_hp rfl e_2963) ?_
  refine Rn.n hT 2 (pc' := 26) (L' := [some (.ref q0)]) (st' := [.int (1500 : Int32), .ref q0]) rfl ?_
  obtain ⟨⟨v_2966, h_2964⟩, e_2965, e⟩ := Option.bind_eq_some_iff.mp e
  try dsimp only at e
  refine Rn.hp hT rfl rfl (nA_hp rfl e_2965) ?_
  obtain ⟨h_2968, e_2969, e⟩ := Option.bind_eq_some_iff.mp e
  refine Rn.hp hT rfl rfl (pV_hp rfl e_2969) ?_
  refine Rn.n hT 2 (pc' := 35) (L' := [some (.ref q0)]) (st' := [.int (1500 : Int32), .ref q0]) rfl ?_
  obtain ⟨⟨v_2972, h_2970⟩, e_2971, e⟩ := Option.bind_eq_some_iff.mp e
  try dsimp only at e
  refine Rn.hp hT rfl rfl (nA_hp rfl e_2971) ?_
  obtain ⟨h_2974, e_2975, e⟩ := Option.bind_eq_some_iff.mp e
  refine Rn.hp hT rfl rfl (pV_hp rfl e_2975) ?_
  refine Rn.n hT 2 (pc' := 42) (L' := [some (.ref q0)]) (st' := [.int (0 : Int32), .ref q0]) rfl ?_
  obtain ⟨h_2976, e_2977, e⟩ := Option.bind_eq_some_iff.mp e
  refine Rn.hp hT rfl rfl (pV_hp rfl e_2977) ?_
  refine Rn.n hT 2 (pc' := 49) (L' := [some (.ref q0)]) (st' := [.int (4096 : Int32), .ref q0]) rfl ?_
  obtain ⟨⟨v_2980, h_2978⟩, e_2979, e⟩ := Option.bind_eq_some_iff.mp e
  try dsimp only at e
  refine Rn.hp hT rfl rfl (nA_hp rfl e_2979) ?_
  obtain ⟨h_2982, e_2983, e⟩ := Option.bind_eq_some_iff.mp e
  refine Rn.hp hT rfl rfl (pV_hp rfl e_2983) ?_
  refine Rn.n hT 2 (pc' := 57) (L' := [some (.ref q0)]) (st' := [.int (126 : Int32), .ref q0]) rfl ?_
  obtain ⟨⟨v_2986, h_2984⟩, e_2985, e⟩ := Option.bind_eq_some_iff.mp e
  try dsimp only at e
  refine Rn.hp hT rfl rfl (nA_hp rfl e_2985) ?_
  obtain ⟨h_2988, e_2989, e⟩ := Option.bind_eq_some_iff.mp e
  refine Rn.hp hT rfl rfl (pV_hp rfl e_2989) ?_
  refine Rn.n hT 1 (pc' := 63) (L' := [some (.ref q0)]) (st' := [.ref q0]) rfl ?_
  obtain ⟨⟨v_2992, h_2990⟩, e_2991, e⟩ := Option.bind_eq_some_iff.mp e
  try dsimp only at e
  refine Rn.hp hT rfl rfl (nO_hp e_2991) ?_
  refine Rn.n hT 1 (pc' := 67) (L' := [some (.ref q0)]) (st' := [.ref v_2992, .ref v_2992, .ref q0]) rfl ?_
  obtain ⟨h_2996, e_2994, e⟩ := Option.bind_eq_some_iff.mp e
  refine Rn.call hT rfl rfl rfl (Nat.le_of_ble_eq_true rfl) rfl (rX1_init (by omega) e_2994 ?_)
  show Rn d _ _ 70 [some (.ref q0)] [.ref v_2992, .ref q0] h_2996 Q
  obtain ⟨h_2997, e_2998, e⟩ := Option.bind_eq_some_iff.mp e
  refine Rn.hp hT rfl rfl (pV_hp rfl e_2998) ?_
  refine Rn.n hT 1 (pc' := 74) (L' := [some (.ref q0)]) (st' := [.ref q0]) rfl ?_
  obtain ⟨⟨v_3001, h_2999⟩, e_3000, e⟩ := Option.bind_eq_some_iff.mp e
  try dsimp only at e
  refine Rn.hp hT rfl rfl (nO_hp e_3000) ?_
  refine Rn.n hT 1 (pc' := 78) (L' := [some (.ref q0)]) (st' := [.ref v_3001, .ref v_3001, .ref q0]) rfl ?_
  obtain ⟨h_3005, e_3003, e⟩ := Option.bind_eq_some_iff.mp e
  refine Rn.call hT rfl rfl rfl (Nat.le_of_ble_eq_true rfl) rfl (rX3_init (by omega) e_3003 ?_)
  show Rn d _ _ 81 [some (.ref q0)] [.ref v_3001, .ref q0] h_3005 Q
  obtain ⟨h_3006, e_3007, e⟩ := Option.bind_eq_some_iff.mp e
  refine Rn.hp hT rfl rfl (pV_hp rfl e_3007) ?_
  refine Rn.n hT 2 (pc' := 86) (L' := [some (.ref q0)]) (st' := [.int (-1 : Int32), .ref q0]) rfl ?_
  obtain ⟨h_3008, e_3009, e⟩ := Option.bind_eq_some_iff.mp e
  refine Rn.hp hT rfl rfl (pV_hp rfl e_3009) ?_
  refine Rn.n hT 2 (pc' := 91) (L' := [some (.ref q0)]) (st' := [.int (-1 : Int32), .ref q0]) rfl ?_
  obtain ⟨h_3010, e_3011, e⟩ := Option.bind_eq_some_iff.mp e
  refine Rn.hp hT rfl rfl (pV_hp rfl e_3011) ?_
  refine Rn.n hT 2 (pc' := 96) (L' := [some (.ref q0)]) (st' := [.int (0 : Int32), .ref q0]) rfl ?_
  obtain ⟨h_3012, e_3013, e⟩ := Option.bind_eq_some_iff.mp e
  refine Rn.hp hT rfl rfl (pV_hp rfl e_3013) ?_
  refine Rn.n hT 2 (pc' := 103) (L' := [some (.ref q0)]) (st' := [.int (1500 : Int32), .ref q0]) rfl ?_
  obtain ⟨⟨v_3016, h_3014⟩, e_3015, e⟩ := Option.bind_eq_some_iff.mp e
  try dsimp only at e
  refine Rn.hp hT rfl rfl (nA_hp rfl e_3015) ?_
  obtain ⟨h_3018, e_3019, e⟩ := Option.bind_eq_some_iff.mp e
  refine Rn.hp hT rfl rfl (pV_hp rfl e_3019) ?_
  obtain rfl := Option.some.inj e
  exact Rn.ret hT rfl rfl rfl hq
set_option maxRecDepth 10000 in
theorem hX9_add : iv_Tb 119 tX9_add := iv_tb_of (m := mX9_add) rfl
set_option maxRecDepth 10000 in
theorem gX9_add : PG.2 119 = some mX9_add := iv_pi_of (t := tX9_add) rfl (by decide)
def fX9_add_b79 (N : Nat) (h : iv_H) (q0 : Nat) (y1 : Int64) (x3 : Int32) (x4 : Int32) (x5 : Int32) (x8 : Int32) (x9 : Int32)  (kb : iv_H → Int32 → Int32 → Option (Int32 × iv_H)) (kx : iv_H → Int32 → Option (Int32 × iv_H)) : Option (Int32 × iv_H) := (kb h ((x8 + (1 : Int32)) &&& (4095 : Int32)) (x9 + (1 : Int32)))
set_option maxRecDepth 10000 in
set_option maxHeartbeats 4000000 in
theorem rX9_add_b79 {d N : Nat} (hd : 0 ≤ d) {h : iv_H} {q0 : Nat} {y1 : Int64} {x3 : Int32} {x4 : Int32} {x5 : Int32} {x8 : Int32} {x9 : Int32}  {kb : iv_H → Int32 → Int32 → Option (Int32 × iv_H)} {kx : iv_H → Int32 → Option (Int32 × iv_H)} {r : Int32 × iv_H} {Q : Option Value → iv_H → Prop} (hb : ∀ (h : iv_H) (w8 : Int32) (w9 : Int32), kb h w8 w9 = some r → Rn d 119 (some .boolean) 25 [some (.ref q0), some (.long y1), none, some (.int x3), some (.int x4), some (.int x5), none, none, some (.int w8), some (.int w9), none] [] h Q) (hk : ∀ (h : iv_H) (w8 : Int32), kx h w8 = some r → Rn d 119 (some .boolean) 95 [some (.ref q0), some (.long y1), none, some (.int x3), some (.int x4), some (.int x5), none, none, some (.int w8), none, none] [] h Q) (hq : Q (some (.int r.1)) r.2) (e : fX9_add_b79 N h q0 y1 x3 x4 x5 x8 x9  kb kx = some r) : Rn d 119 (some .boolean) 79 [some (.ref q0), some (.long y1), none, some (.int x3), some (.int x4), some (.int x5), none, none, some (.int x8), some (.int x9), none] [] h Q := by
  have hT := hX9_add
  unfold fX9_add_b79 at e
  refine Rn.n hT 8 (pc' := 25) (L' := [some (.ref q0), some (.long y1), none, some (.int x3), some (.int x4), some (.int x5), none, none, some (.int ((x8 + (1 : Int32)) &&& (4095 : Int32))), some (.int (x9 + (1 : Int32))), none]) (st' := []) rfl ?_
  exact Rn.weak (ll_s (ll_s (ll_n (ll_s (ll_s (ll_s (ll_n (ll_n (ll_s (ll_s (ll_n ll_e))))))))))) (hb h ((x8 + (1 : Int32)) &&& (4095 : Int32)) (x9 + (1 : Int32)) e)
def fX9_add_l25 (N : Nat) (q0 : Nat) (y1 : Int64) (x3 : Int32) (x4 : Int32) (x5 : Int32) (kx : iv_H → Int32 → Option (Int32 × iv_H)) : Nat → iv_H → Int32 → Int32 → Option (Int32 × iv_H)
  | 0, _, _, _ => none
  | n + 1, h, x8, x9 => (if (4096 : Int32) ≤ x9 then (kx h x8) else ((gR h 9 5 q0).bind fun v_3023 => ((aI h v_3023 x8).bind fun v_3025 => (if v_3025 = 0 then (kx h x8) else ((gR h 9 5 q0).bind fun v_3028 => ((aI h v_3028 x8).bind fun v_3030 => ((gR h 9 0 q0).bind fun v_3032 => ((aJ h v_3032 (v_3030 - (1 : Int32))).bind fun v_3034 => (if (lg_cmp v_3034 y1) = 0 then ((gR h 9 1 q0).bind fun v_3037 => ((aI h v_3037 (v_3030 - (1 : Int32))).bind fun v_3039 => (if v_3039 = x3 then (some ((1 : Int32), h)) else (fX9_add_b79 N h q0 y1 x3 x4 x5 x8 x9 (fX9_add_l25 N q0 y1 x3 x4 x5 kx n) kx)))) else (fX9_add_b79 N h q0 y1 x3 x4 x5 x8 x9 (fX9_add_l25 N q0 y1 x3 x4 x5 kx n) kx))))))))))
set_option maxRecDepth 10000 in
set_option maxHeartbeats 4000000 in
theorem rX9_add_l25 {d N : Nat} (hd : 0 ≤ d) {q0 : Nat} {y1 : Int64} {x3 : Int32} {x4 : Int32} {x5 : Int32} {kx : iv_H → Int32 → Option (Int32 × iv_H)} {r : Int32 × iv_H} {Q : Option Value → iv_H → Prop} (hk : ∀ (h : iv_H) (x8 : Int32), kx h x8 = some r → Rn d 119 (some .boolean) 95 [some (.ref q0), some (.long y1), none, some (.int x3), some (.int x4), some (.int x5), none, none, some (.int x8), none, none] [] h Q) (hq : Q (some (.int r.1)) r.2) : ∀ (n : Nat) (h : iv_H) (x8 : Int32) (x9 : Int32), fX9_add_l25 N q0 y1 x3 x4 x5 kx n h x8 x9 = some r → Rn d 119 (some .boolean) 25 [some (.ref q0), some (.long y1), none, some (.int x3), some (.int x4), some (.int x5), none, none, some (.int x8), some (.int x9), none] [] h Q := by
  have hT := hX9_add
  intro n
  induction n with
  | zero =>
    intro h x8 x9 e
    rw [fX9_add_l25] at e
    cases e
  | succ n ih =>
    intro h x8 x9 e
    rw [fX9_add_l25] at e
    refine Rn.n hT 2 (pc' := 30) (L' := [some (.ref q0), some (.long y1), none, some (.int x3), some (.int x4), some (.int x5), none, none, some (.int x8), some (.int x9), none]) (st' := [.int (4096 : Int32), .int x9]) rfl ?_
    by_cases c_3022 : (4096 : Int32) ≤ x9
    · rw [if_pos c_3022] at e
      refine Rn.bt hT rfl rfl rfl (decide_eq_true c_3022) ?_
      exact Rn.weak (ll_s (ll_s (ll_n (ll_s (ll_s (ll_s (ll_n (ll_n (ll_s (ll_n (ll_n ll_e))))))))))) (hk h x8 e)
    · rw [if_neg c_3022] at e
      refine Rn.bf hT rfl rfl rfl (decide_eq_false c_3022) ?_
      refine Rn.n hT 1 (pc' := 34) (L' := [some (.ref q0), some (.long y1), none, some (.int x3), some (.int x4), some (.int x5), none, none, some (.int x8), some (.int x9), none]) (st' := [.ref q0]) rfl ?_
      obtain ⟨v_3023, e_3024, e⟩ := Option.bind_eq_some_iff.mp e
      refine Rn.hp hT rfl rfl (gR_hp e_3024) ?_
      refine Rn.n hT 1 (pc' := 39) (L' := [some (.ref q0), some (.long y1), none, some (.int x3), some (.int x4), some (.int x5), none, none, some (.int x8), some (.int x9), none]) (st' := [.int x8, .ref v_3023]) rfl ?_
      obtain ⟨v_3025, e_3026, e⟩ := Option.bind_eq_some_iff.mp e
      refine Rn.hp hT rfl rfl (aI_hp e_3026) ?_
      by_cases c_3027 : v_3025 = 0
      · rw [if_pos c_3027] at e
        refine Rn.bt hT rfl rfl rfl (decide_eq_true c_3027) ?_
        exact Rn.weak (ll_s (ll_s (ll_n (ll_s (ll_s (ll_s (ll_n (ll_n (ll_s (ll_n (ll_n ll_e))))))))))) (hk h x8 e)
      · rw [if_neg c_3027] at e
        refine Rn.bf hT rfl rfl rfl (decide_eq_false c_3027) ?_
        refine Rn.n hT 1 (pc' := 44) (L' := [some (.ref q0), some (.long y1), none, some (.int x3), some (.int x4), some (.int x5), none, none, some (.int x8), some (.int x9), none]) (st' := [.ref q0]) rfl ?_
        obtain ⟨v_3028, e_3029, e⟩ := Option.bind_eq_some_iff.mp e
        refine Rn.hp hT rfl rfl (gR_hp e_3029) ?_
        refine Rn.n hT 1 (pc' := 49) (L' := [some (.ref q0), some (.long y1), none, some (.int x3), some (.int x4), some (.int x5), none, none, some (.int x8), some (.int x9), none]) (st' := [.int x8, .ref v_3028]) rfl ?_
        obtain ⟨v_3030, e_3031, e⟩ := Option.bind_eq_some_iff.mp e
        refine Rn.hp hT rfl rfl (aI_hp e_3031) ?_
        refine Rn.n hT 4 (pc' := 55) (L' := [some (.ref q0), some (.long y1), none, some (.int x3), some (.int x4), some (.int x5), none, none, some (.int x8), some (.int x9), some (.int (v_3030 - (1 : Int32)))]) (st' := [.ref q0]) rfl ?_
        obtain ⟨v_3032, e_3033, e⟩ := Option.bind_eq_some_iff.mp e
        refine Rn.hp hT rfl rfl (gR_hp e_3033) ?_
        refine Rn.n hT 1 (pc' := 60) (L' := [some (.ref q0), some (.long y1), none, some (.int x3), some (.int x4), some (.int x5), none, none, some (.int x8), some (.int x9), some (.int (v_3030 - (1 : Int32)))]) (st' := [.int (v_3030 - (1 : Int32)), .ref v_3032]) rfl ?_
        obtain ⟨v_3034, e_3035, e⟩ := Option.bind_eq_some_iff.mp e
        refine Rn.hp hT rfl rfl (aJ_hp e_3035) ?_
        refine Rn.n hT 2 (pc' := 63) (L' := [some (.ref q0), some (.long y1), none, some (.int x3), some (.int x4), some (.int x5), none, none, some (.int x8), some (.int x9), some (.int (v_3030 - (1 : Int32)))]) (st' := [.int (lg_cmp v_3034 y1)]) rfl ?_
        by_cases c_3036 : (lg_cmp v_3034 y1) = 0
        · rw [if_pos c_3036] at e
          refine Rn.bf hT rfl rfl rfl (decide_eq_false (fun z => z c_3036)) ?_
          refine Rn.n hT 1 (pc' := 67) (L' := [some (.ref q0), some (.long y1), none, some (.int x3), some (.int x4), some (.int x5), none, none, some (.int x8), some (.int x9), some (.int (v_3030 - (1 : Int32)))]) (st' := [.ref q0]) rfl ?_
          obtain ⟨v_3037, e_3038, e⟩ := Option.bind_eq_some_iff.mp e
          refine Rn.hp hT rfl rfl (gR_hp e_3038) ?_
          refine Rn.n hT 1 (pc' := 72) (L' := [some (.ref q0), some (.long y1), none, some (.int x3), some (.int x4), some (.int x5), none, none, some (.int x8), some (.int x9), some (.int (v_3030 - (1 : Int32)))]) (st' := [.int (v_3030 - (1 : Int32)), .ref v_3037]) rfl ?_
          obtain ⟨v_3039, e_3040, e⟩ := Option.bind_eq_some_iff.mp e
          refine Rn.hp hT rfl rfl (aI_hp e_3040) ?_
          refine Rn.n hT 1 (pc' := 74) (L' := [some (.ref q0), some (.long y1), none, some (.int x3), some (.int x4), some (.int x5), none, none, some (.int x8), some (.int x9), some (.int (v_3030 - (1 : Int32)))]) (st' := [.int x3, .int v_3039]) rfl ?_
          by_cases c_3041 : v_3039 = x3
          · rw [if_pos c_3041] at e
            refine Rn.bf hT rfl rfl rfl (decide_eq_false (fun z => z c_3041)) ?_
            refine Rn.n hT 1 (pc' := 78) (L' := [some (.ref q0), some (.long y1), none, some (.int x3), some (.int x4), some (.int x5), none, none, some (.int x8), some (.int x9), some (.int (v_3030 - (1 : Int32)))]) (st' := [.int (1 : Int32)]) rfl ?_
            obtain rfl := Option.some.inj e
            exact Rn.ret hT rfl rfl rfl hq
          · rw [if_neg c_3041] at e
            refine Rn.bt hT rfl rfl rfl (decide_eq_true c_3041) ?_
            exact Rn.weak (ll_s (ll_s (ll_n (ll_s (ll_s (ll_s (ll_n (ll_n (ll_s (ll_s (ll_n ll_e))))))))))) (rX9_add_b79 hd ih hk hq e)
        · rw [if_neg c_3036] at e
          refine Rn.bt hT rfl rfl rfl (decide_eq_true c_3036) ?_
          exact Rn.weak (ll_s (ll_s (ll_n (ll_s (ll_s (ll_s (ll_n (ll_n (ll_s (ll_s (ll_n ll_e))))))))))) (rX9_add_b79 hd ih hk hq e)
def fX9_add_b95 (N : Nat) (h : iv_H) (q0 : Nat) (y1 : Int64) (x3 : Int32) (x4 : Int32) (x5 : Int32) (x8 : Int32)  : Option (Int32 × iv_H) := ((gI h 9 4 q0).bind fun v_3042 => (if v_3042 < (1500 : Int32) then ((gR h 9 0 q0).bind fun v_3045 => ((gI h 9 4 q0).bind fun v_3047 => ((wJ h v_3045 v_3047 y1).bind fun h_3049 => ((gR h_3049 9 1 q0).bind fun v_3051 => ((gI h_3049 9 4 q0).bind fun v_3053 => ((wI h_3049 v_3051 v_3053 x3).bind fun h_3055 => ((gR h_3055 9 2 q0).bind fun v_3057 => ((gI h_3055 9 4 q0).bind fun v_3059 => ((wI h_3055 v_3057 v_3059 x4).bind fun h_3061 => ((gR h_3061 9 3 q0).bind fun v_3063 => ((gI h_3061 9 4 q0).bind fun v_3065 => ((wI h_3061 v_3063 v_3065 x5).bind fun h_3067 => ((gI h_3067 9 4 q0).bind fun v_3069 => ((pV h_3067 9 4 q0 (.int (v_3069 + (1 : Int32)))).bind fun h_3071 => ((gR h_3071 9 5 q0).bind fun v_3073 => ((gI h_3071 9 4 q0).bind fun v_3075 => ((wI h_3071 v_3073 x8 v_3075).bind fun h_3077 => (some ((1 : Int32), h_3077))))))))))))))))))) else (some ((0 : Int32), h))))
set_option maxRecDepth 10000 in
set_option maxHeartbeats 4000000 in
theorem rX9_add_b95 {d N : Nat} (hd : 0 ≤ d) {h : iv_H} {q0 : Nat} {y1 : Int64} {x3 : Int32} {x4 : Int32} {x5 : Int32} {x8 : Int32}  {r : Int32 × iv_H} {Q : Option Value → iv_H → Prop} (hq : Q (some (.int r.1)) r.2) (e : fX9_add_b95 N h q0 y1 x3 x4 x5 x8  = some r) : Rn d 119 (some .boolean) 95 [some (.ref q0), some (.long y1), none, some (.int x3), some (.int x4), some (.int x5), none, none, some (.int x8), none, none] [] h Q := by
  have hT := hX9_add
  unfold fX9_add_b95 at e
  refine Rn.n hT 1 (pc' := 96) (L' := [some (.ref q0), some (.long y1), none, some (.int x3), some (.int x4), some (.int x5), none, none, some (.int x8), none, none]) (st' := [.ref q0]) rfl ?_
  obtain ⟨v_3042, e_3043, e⟩ := Option.bind_eq_some_iff.mp e
  refine Rn.hp hT rfl rfl (gI_hp e_3043) ?_
  refine Rn.n hT 1 (pc' := 102) (L' := [some (.ref q0), some (.long y1), none, some (.int x3), some (.int x4), some (.int x5), none, none, some (.int x8), none, none]) (st' := [.int (1500 : Int32), .int v_3042]) rfl ?_
  by_cases c_3044 : v_3042 < (1500 : Int32)
  · rw [if_pos c_3044] at e
    refine Rn.bt hT rfl rfl rfl (decide_eq_true c_3044) ?_
    refine Rn.n hT 1 (pc' := 108) (L' := [some (.ref q0), some (.long y1), none, some (.int x3), some (.int x4), some (.int x5), none, none, some (.int x8), none, none]) (st' := [.ref q0]) rfl ?_
    obtain ⟨v_3045, e_3046, e⟩ := Option.bind_eq_some_iff.mp e
    refine Rn.hp hT rfl rfl (gR_hp e_3046) ?_
    refine Rn.n hT 1 (pc' := 112) (L' := [some (.ref q0), some (.long y1), none, some (.int x3), some (.int x4), some (.int x5), none, none, some (.int x8), none, none]) (st' := [.ref q0, .ref v_3045]) rfl ?_
    obtain ⟨v_3047, e_3048, e⟩ := Option.bind_eq_some_iff.mp e
    refine Rn.hp hT rfl rfl (gI_hp e_3048) ?_
    refine Rn.n hT 1 (pc' := 116) (L' := [some (.ref q0), some (.long y1), none, some (.int x3), some (.int x4), some (.int x5), none, none, some (.int x8), none, none]) (st' := [.long y1, .int v_3047, .ref v_3045]) rfl ?_
    obtain ⟨h_3049, e_3050, e⟩ := Option.bind_eq_some_iff.mp e
    refine Rn.hp hT rfl rfl (wJ_hp e_3050) ?_
    refine Rn.n hT 1 (pc' := 118) (L' := [some (.ref q0), some (.long y1), none, some (.int x3), some (.int x4), some (.int x5), none, none, some (.int x8), none, none]) (st' := [.ref q0]) rfl ?_
    obtain ⟨v_3051, e_3052, e⟩ := Option.bind_eq_some_iff.mp e
    refine Rn.hp hT rfl rfl (gR_hp e_3052) ?_
    refine Rn.n hT 1 (pc' := 122) (L' := [some (.ref q0), some (.long y1), none, some (.int x3), some (.int x4), some (.int x5), none, none, some (.int x8), none, none]) (st' := [.ref q0, .ref v_3051]) rfl ?_
    obtain ⟨v_3053, e_3054, e⟩ := Option.bind_eq_some_iff.mp e
    refine Rn.hp hT rfl rfl (gI_hp e_3054) ?_
    refine Rn.n hT 1 (pc' := 126) (L' := [some (.ref q0), some (.long y1), none, some (.int x3), some (.int x4), some (.int x5), none, none, some (.int x8), none, none]) (st' := [.int x3, .int v_3053, .ref v_3051]) rfl ?_
    obtain ⟨h_3055, e_3056, e⟩ := Option.bind_eq_some_iff.mp e
    refine Rn.hp hT rfl rfl (wI_hp e_3056) ?_
    refine Rn.n hT 1 (pc' := 128) (L' := [some (.ref q0), some (.long y1), none, some (.int x3), some (.int x4), some (.int x5), none, none, some (.int x8), none, none]) (st' := [.ref q0]) rfl ?_
    obtain ⟨v_3057, e_3058, e⟩ := Option.bind_eq_some_iff.mp e
    refine Rn.hp hT rfl rfl (gR_hp e_3058) ?_
    refine Rn.n hT 1 (pc' := 132) (L' := [some (.ref q0), some (.long y1), none, some (.int x3), some (.int x4), some (.int x5), none, none, some (.int x8), none, none]) (st' := [.ref q0, .ref v_3057]) rfl ?_
    obtain ⟨v_3059, e_3060, e⟩ := Option.bind_eq_some_iff.mp e
    refine Rn.hp hT rfl rfl (gI_hp e_3060) ?_
    refine Rn.n hT 1 (pc' := 137) (L' := [some (.ref q0), some (.long y1), none, some (.int x3), some (.int x4), some (.int x5), none, none, some (.int x8), none, none]) (st' := [.int x4, .int v_3059, .ref v_3057]) rfl ?_
    obtain ⟨h_3061, e_3062, e⟩ := Option.bind_eq_some_iff.mp e
    refine Rn.hp hT rfl rfl (wI_hp e_3062) ?_
    refine Rn.n hT 1 (pc' := 139) (L' := [some (.ref q0), some (.long y1), none, some (.int x3), some (.int x4), some (.int x5), none, none, some (.int x8), none, none]) (st' := [.ref q0]) rfl ?_
    obtain ⟨v_3063, e_3064, e⟩ := Option.bind_eq_some_iff.mp e
    refine Rn.hp hT rfl rfl (gR_hp e_3064) ?_
    refine Rn.n hT 1 (pc' := 143) (L' := [some (.ref q0), some (.long y1), none, some (.int x3), some (.int x4), some (.int x5), none, none, some (.int x8), none, none]) (st' := [.ref q0, .ref v_3063]) rfl ?_
    obtain ⟨v_3065, e_3066, e⟩ := Option.bind_eq_some_iff.mp e
    refine Rn.hp hT rfl rfl (gI_hp e_3066) ?_
    refine Rn.n hT 1 (pc' := 148) (L' := [some (.ref q0), some (.long y1), none, some (.int x3), some (.int x4), some (.int x5), none, none, some (.int x8), none, none]) (st' := [.int x5, .int v_3065, .ref v_3063]) rfl ?_
    obtain ⟨h_3067, e_3068, e⟩ := Option.bind_eq_some_iff.mp e
    refine Rn.hp hT rfl rfl (wI_hp e_3068) ?_
    refine Rn.n hT 2 (pc' := 151) (L' := [some (.ref q0), some (.long y1), none, some (.int x3), some (.int x4), some (.int x5), none, none, some (.int x8), none, none]) (st' := [.ref q0, .ref q0]) rfl ?_
    obtain ⟨v_3069, e_3070, e⟩ := Option.bind_eq_some_iff.mp e
    refine Rn.hp hT rfl rfl (gI_hp e_3070) ?_
    refine Rn.n hT 2 (pc' := 156) (L' := [some (.ref q0), some (.long y1), none, some (.int x3), some (.int x4), some (.int x5), none, none, some (.int x8), none, none]) (st' := [.int (v_3069 + (1 : Int32)), .ref q0]) rfl ?_
    obtain ⟨h_3071, e_3072, e⟩ := Option.bind_eq_some_iff.mp e
    refine Rn.hp hT rfl rfl (pV_hp rfl e_3072) ?_
    refine Rn.n hT 1 (pc' := 160) (L' := [some (.ref q0), some (.long y1), none, some (.int x3), some (.int x4), some (.int x5), none, none, some (.int x8), none, none]) (st' := [.ref q0]) rfl ?_
    obtain ⟨v_3073, e_3074, e⟩ := Option.bind_eq_some_iff.mp e
    refine Rn.hp hT rfl rfl (gR_hp e_3074) ?_
    refine Rn.n hT 2 (pc' := 166) (L' := [some (.ref q0), some (.long y1), none, some (.int x3), some (.int x4), some (.int x5), none, none, some (.int x8), none, none]) (st' := [.ref q0, .int x8, .ref v_3073]) rfl ?_
    obtain ⟨v_3075, e_3076, e⟩ := Option.bind_eq_some_iff.mp e
    refine Rn.hp hT rfl rfl (gI_hp e_3076) ?_
    obtain ⟨h_3077, e_3078, e⟩ := Option.bind_eq_some_iff.mp e
    refine Rn.hp hT rfl rfl (wI_hp e_3078) ?_
    refine Rn.n hT 1 (pc' := 171) (L' := [some (.ref q0), some (.long y1), none, some (.int x3), some (.int x4), some (.int x5), none, none, some (.int x8), none, none]) (st' := [.int (1 : Int32)]) rfl ?_
    obtain rfl := Option.some.inj e
    exact Rn.ret hT rfl rfl rfl hq
  · rw [if_neg c_3044] at e
    refine Rn.bf hT rfl rfl rfl (decide_eq_false c_3044) ?_
    refine Rn.n hT 1 (pc' := 106) (L' := [some (.ref q0), some (.long y1), none, some (.int x3), some (.int x4), some (.int x5), none, none, some (.int x8), none, none]) (st' := [.int (0 : Int32)]) rfl ?_
    obtain rfl := Option.some.inj e
    exact Rn.ret hT rfl rfl rfl hq
def fX9_add (N : Nat) (h : iv_H) (q0 : Nat) (y1 : Int64) (x3 : Int32) (x4 : Int32) (x5 : Int32) : Option (Int32 × iv_H) := (fX9_add_l25 N q0 y1 x3 x4 x5 (fun (h_3020 : iv_H) (z_3021 : Int32) => (fX9_add_b95 N h_3020 q0 y1 x3 x4 x5 z_3021)) N h ((((((((y1 * (31 : Int64)) + (x3).toInt64) * (-7046029254386353131 : Int64))).toUInt64 >>> (((52 : Int32)).toInt64.toUInt64 &&& Int64.toUInt64 63)).toInt64)).toInt32) (0 : Int32))
set_option maxRecDepth 10000 in
set_option maxHeartbeats 4000000 in
theorem rX9_add {d N : Nat} (hd : 1 ≤ d) {h : iv_H} {q0 : Nat} {y1 : Int64} {x3 : Int32} {x4 : Int32} {x5 : Int32} {r : Int32 × iv_H} {Q : Option Value → iv_H → Prop} (e : fX9_add N h q0 y1 x3 x4 x5 = some r) (hq : Q (some (.int r.1)) r.2) : Cl d 119 [.ref q0, .long y1, .int x3, .int x4, .int x5] h Q := by
  obtain ⟨d, rfl⟩ : ∃ k, d = k + 1 := ⟨d - 1, by omega⟩
  have hd : 0 ≤ d := by omega
  have hT := hX9_add
  unfold fX9_add at e
  refine Cl.into (by decide) gX9_add rfl ?_
  show Rn d 119 (some .boolean) 0 [some (.ref q0), some (.long y1), none, some (.int x3), some (.int x4), some (.int x5), none, none, none, none, none] [] h Q
  refine Rn.n hT 16 (pc' := 25) (L' := [some (.ref q0), some (.long y1), none, some (.int x3), some (.int x4), some (.int x5), some (.long (((y1 * (31 : Int64)) + (x3).toInt64) * (-7046029254386353131 : Int64))), none, some (.int ((((((((y1 * (31 : Int64)) + (x3).toInt64) * (-7046029254386353131 : Int64))).toUInt64 >>> (((52 : Int32)).toInt64.toUInt64 &&& Int64.toUInt64 63)).toInt64)).toInt32)), some (.int (0 : Int32)), none]) (st' := []) rfl ?_
  refine Rn.weak (ll_s (ll_s (ll_n (ll_s (ll_s (ll_s (ll_n (ll_n (ll_s (ll_s (ll_n ll_e))))))))))) (rX9_add_l25 hd (fun h_3020 z_3021 e => ?_) hq N h ((((((((y1 * (31 : Int64)) + (x3).toInt64) * (-7046029254386353131 : Int64))).toUInt64 >>> (((52 : Int32)).toInt64.toUInt64 &&& Int64.toUInt64 63)).toInt64)).toInt32) (0 : Int32) e)
  try dsimp only at e
  exact Rn.weak (ll_s (ll_s (ll_n (ll_s (ll_s (ll_s (ll_n (ll_n (ll_s (ll_n (ll_n ll_e))))))))))) (rX9_add_b95 hd hq e)
set_option maxRecDepth 10000 in
theorem hX9_trace : iv_Tb 120 tX9_trace := iv_tb_of (m := mX9_trace) rfl
set_option maxRecDepth 10000 in
theorem gX9_trace : PG.2 120 = some mX9_trace := iv_pi_of (t := tX9_trace) rfl (by decide)
def fX9_trace_l5 (N : Nat) (q0 : Nat) (x1 : Int32) (x2 : Int32) (kx : iv_H → Int32 → Option (Int32 × iv_H)) : Nat → iv_H → Int32 → Int32 → Option (Int32 × iv_H)
  | 0, _, _, _ => none
  | n + 1, h, x3, x4 => (if x4 ≤ 0 then (kx h x3) else ((gR h 9 12 q0).bind fun v_3082 => ((aL h v_3082).bind fun v_3084 => (if v_3084 ≤ x3 then (kx h x3) else ((gR h 9 2 q0).bind fun v_3087 => ((aI h v_3087 x4).bind fun v_3089 => (fX9_trace_l5 N q0 x1 x2 kx n h (x3 + (1 : Int32)) v_3089)))))))
set_option maxRecDepth 10000 in
set_option maxHeartbeats 4000000 in
theorem rX9_trace_l5 {d N : Nat} (hd : 0 ≤ d) {q0 : Nat} {x1 : Int32} {x2 : Int32} {kx : iv_H → Int32 → Option (Int32 × iv_H)} {r : Int32 × iv_H} {Q : Option Value → iv_H → Prop} (hk : ∀ (h : iv_H) (x3 : Int32), kx h x3 = some r → Rn d 120 (some .int) 34 [some (.ref q0), some (.int x1), some (.int x2), some (.int x3), none, none] [] h Q) (hq : Q (some (.int r.1)) r.2) : ∀ (n : Nat) (h : iv_H) (x3 : Int32) (x4 : Int32), fX9_trace_l5 N q0 x1 x2 kx n h x3 x4 = some r → Rn d 120 (some .int) 5 [some (.ref q0), some (.int x1), some (.int x2), some (.int x3), some (.int x4), none] [] h Q := by
  have hT := hX9_trace
  intro n
  induction n with
  | zero =>
    intro h x3 x4 e
    rw [fX9_trace_l5] at e
    cases e
  | succ n ih =>
    intro h x3 x4 e
    rw [fX9_trace_l5] at e
    refine Rn.n hT 1 (pc' := 7) (L' := [some (.ref q0), some (.int x1), some (.int x2), some (.int x3), some (.int x4), none]) (st' := [.int x4]) rfl ?_
    by_cases c_3081 : x4 ≤ 0
    · rw [if_pos c_3081] at e
      refine Rn.bt hT rfl rfl rfl (decide_eq_true c_3081) ?_
      exact Rn.weak (ll_s (ll_s (ll_s (ll_s (ll_n (ll_n ll_e)))))) (hk h x3 e)
    · rw [if_neg c_3081] at e
      refine Rn.bf hT rfl rfl rfl (decide_eq_false c_3081) ?_
      refine Rn.n hT 2 (pc' := 12) (L' := [some (.ref q0), some (.int x1), some (.int x2), some (.int x3), some (.int x4), none]) (st' := [.ref q0, .int x3]) rfl ?_
      obtain ⟨v_3082, e_3083, e⟩ := Option.bind_eq_some_iff.mp e
      refine Rn.hp hT rfl rfl (gR_hp e_3083) ?_
      obtain ⟨v_3084, e_3085, e⟩ := Option.bind_eq_some_iff.mp e
      refine Rn.hp hT rfl rfl (aL_hp e_3085) ?_
      by_cases c_3086 : v_3084 ≤ x3
      · rw [if_pos c_3086] at e
        refine Rn.bt hT rfl rfl rfl (decide_eq_true c_3086) ?_
        exact Rn.weak (ll_s (ll_s (ll_s (ll_s (ll_n (ll_n ll_e)))))) (hk h x3 e)
      · rw [if_neg c_3086] at e
        refine Rn.bf hT rfl rfl rfl (decide_eq_false c_3086) ?_
        refine Rn.n hT 2 (pc' := 23) (L' := [some (.ref q0), some (.int x1), some (.int x2), some (.int (x3 + (1 : Int32))), some (.int x4), none]) (st' := [.ref q0]) rfl ?_
        obtain ⟨v_3087, e_3088, e⟩ := Option.bind_eq_some_iff.mp e
        refine Rn.hp hT rfl rfl (gR_hp e_3088) ?_
        refine Rn.n hT 1 (pc' := 28) (L' := [some (.ref q0), some (.int x1), some (.int x2), some (.int (x3 + (1 : Int32))), some (.int x4), none]) (st' := [.int x4, .ref v_3087]) rfl ?_
        obtain ⟨v_3089, e_3090, e⟩ := Option.bind_eq_some_iff.mp e
        refine Rn.hp hT rfl rfl (aI_hp e_3090) ?_
        refine Rn.n hT 2 (pc' := 5) (L' := [some (.ref q0), some (.int x1), some (.int x2), some (.int (x3 + (1 : Int32))), some (.int v_3089), none]) (st' := []) rfl ?_
        exact Rn.weak (ll_s (ll_s (ll_s (ll_s (ll_s (ll_n ll_e)))))) (ih h (x3 + (1 : Int32)) v_3089 e)
def fX9_trace_l51 (N : Nat) (q0 : Nat) (x3 : Int32) (kx : iv_H → Option (Int32 × iv_H)) : Nat → iv_H → Int32 → Int32 → Option (Int32 × iv_H)
  | 0, _, _, _ => none
  | n + 1, h, x4, x5 => (if x5 < 0 then (kx h) else (if x4 ≤ 0 then (kx h) else ((gR h 9 12 q0).bind fun v_3098 => ((gR h 9 3 q0).bind fun v_3100 => ((aI h v_3100 x4).bind fun v_3102 => ((wI h v_3098 x5 v_3102).bind fun h_3104 => ((gR h_3104 9 2 q0).bind fun v_3106 => ((aI h_3104 v_3106 x4).bind fun v_3108 => (fX9_trace_l51 N q0 x3 kx n h_3104 v_3108 (x5 + (-1 : Int32)))))))))))
set_option maxRecDepth 10000 in
set_option maxHeartbeats 4000000 in
theorem rX9_trace_l51 {d N : Nat} (hd : 0 ≤ d) {q0 : Nat} {x3 : Int32} {kx : iv_H → Option (Int32 × iv_H)} {r : Int32 × iv_H} {Q : Option Value → iv_H → Prop} (hk : ∀ (h : iv_H), kx h = some r → Rn d 120 (some .int) 90 [none, none, none, some (.int x3), none, none] [] h Q) (hq : Q (some (.int r.1)) r.2) : ∀ (n : Nat) (h : iv_H) (x4 : Int32) (x5 : Int32), fX9_trace_l51 N q0 x3 kx n h x4 x5 = some r → Rn d 120 (some .int) 51 [some (.ref q0), none, none, some (.int x3), some (.int x4), some (.int x5)] [] h Q := by
  have hT := hX9_trace
  intro n
  induction n with
  | zero =>
    intro h x4 x5 e
    rw [fX9_trace_l51] at e
    cases e
  | succ n ih =>
    intro h x4 x5 e
    rw [fX9_trace_l51] at e
    refine Rn.n hT 1 (pc' := 53) (L' := [some (.ref q0), none, none, some (.int x3), some (.int x4), some (.int x5)]) (st' := [.int x5]) rfl ?_
    by_cases c_3096 : x5 < 0
    · rw [if_pos c_3096] at e
      refine Rn.bt hT rfl rfl rfl (decide_eq_true c_3096) ?_
      exact Rn.weak (ll_n (ll_n (ll_n (ll_s (ll_n (ll_n ll_e)))))) (hk h e)
    · rw [if_neg c_3096] at e
      refine Rn.bf hT rfl rfl rfl (decide_eq_false c_3096) ?_
      refine Rn.n hT 1 (pc' := 58) (L' := [some (.ref q0), none, none, some (.int x3), some (.int x4), some (.int x5)]) (st' := [.int x4]) rfl ?_
      by_cases c_3097 : x4 ≤ 0
      · rw [if_pos c_3097] at e
        refine Rn.bt hT rfl rfl rfl (decide_eq_true c_3097) ?_
        exact Rn.weak (ll_n (ll_n (ll_n (ll_s (ll_n (ll_n ll_e)))))) (hk h e)
      · rw [if_neg c_3097] at e
        refine Rn.bf hT rfl rfl rfl (decide_eq_false c_3097) ?_
        refine Rn.n hT 1 (pc' := 62) (L' := [some (.ref q0), none, none, some (.int x3), some (.int x4), some (.int x5)]) (st' := [.ref q0]) rfl ?_
        obtain ⟨v_3098, e_3099, e⟩ := Option.bind_eq_some_iff.mp e
        refine Rn.hp hT rfl rfl (gR_hp e_3099) ?_
        refine Rn.n hT 2 (pc' := 68) (L' := [some (.ref q0), none, none, some (.int x3), some (.int x4), some (.int x5)]) (st' := [.ref q0, .int x5, .ref v_3098]) rfl ?_
        obtain ⟨v_3100, e_3101, e⟩ := Option.bind_eq_some_iff.mp e
        refine Rn.hp hT rfl rfl (gR_hp e_3101) ?_
        refine Rn.n hT 1 (pc' := 73) (L' := [some (.ref q0), none, none, some (.int x3), some (.int x4), some (.int x5)]) (st' := [.int x4, .ref v_3100, .int x5, .ref v_3098]) rfl ?_
        obtain ⟨v_3102, e_3103, e⟩ := Option.bind_eq_some_iff.mp e
        refine Rn.hp hT rfl rfl (aI_hp e_3103) ?_
        obtain ⟨h_3104, e_3105, e⟩ := Option.bind_eq_some_iff.mp e
        refine Rn.hp hT rfl rfl (wI_hp e_3105) ?_
        refine Rn.n hT 1 (pc' := 76) (L' := [some (.ref q0), none, none, some (.int x3), some (.int x4), some (.int x5)]) (st' := [.ref q0]) rfl ?_
        obtain ⟨v_3106, e_3107, e⟩ := Option.bind_eq_some_iff.mp e
        refine Rn.hp hT rfl rfl (gR_hp e_3107) ?_
        refine Rn.n hT 1 (pc' := 81) (L' := [some (.ref q0), none, none, some (.int x3), some (.int x4), some (.int x5)]) (st' := [.int x4, .ref v_3106]) rfl ?_
        obtain ⟨v_3108, e_3109, e⟩ := Option.bind_eq_some_iff.mp e
        refine Rn.hp hT rfl rfl (aI_hp e_3109) ?_
        refine Rn.n hT 3 (pc' := 51) (L' := [some (.ref q0), none, none, some (.int x3), some (.int v_3108), some (.int (x5 + (-1 : Int32)))]) (st' := []) rfl ?_
        exact Rn.weak (ll_s (ll_n (ll_n (ll_s (ll_s (ll_s ll_e)))))) (ih h_3104 v_3108 (x5 + (-1 : Int32)) e)
def fX9_trace_b90 (N : Nat) (h : iv_H) (x3 : Int32)  : Option (Int32 × iv_H) := (some (x3, h))
set_option maxRecDepth 10000 in
set_option maxHeartbeats 4000000 in
theorem rX9_trace_b90 {d N : Nat} (hd : 0 ≤ d) {h : iv_H} {x3 : Int32}  {r : Int32 × iv_H} {Q : Option Value → iv_H → Prop} (hq : Q (some (.int r.1)) r.2) (e : fX9_trace_b90 N h x3  = some r) : Rn d 120 (some .int) 90 [none, none, none, some (.int x3), none, none] [] h Q := by
  have hT := hX9_trace
  unfold fX9_trace_b90 at e
  refine Rn.n hT 1 (pc' := 91) (L' := [none, none, none, some (.int x3), none, none]) (st' := [.int x3]) rfl ?_
  obtain rfl := Option.some.inj e
  exact Rn.ret hT rfl rfl rfl hq
def fX9_trace_b34 (N : Nat) (h : iv_H) (q0 : Nat) (x1 : Int32) (x2 : Int32) (x3 : Int32)  : Option (Int32 × iv_H) := ((gR h 9 12 q0).bind fun v_3091 => ((wI h v_3091 (x3 - (1 : Int32)) x2).bind fun h_3093 => (fX9_trace_l51 N q0 x3 (fun (h_3095 : iv_H) => (fX9_trace_b90 N h_3095 x3)) N h_3093 x1 (x3 - (2 : Int32)))))
set_option maxRecDepth 10000 in
set_option maxHeartbeats 4000000 in
theorem rX9_trace_b34 {d N : Nat} (hd : 0 ≤ d) {h : iv_H} {q0 : Nat} {x1 : Int32} {x2 : Int32} {x3 : Int32}  {r : Int32 × iv_H} {Q : Option Value → iv_H → Prop} (hq : Q (some (.int r.1)) r.2) (e : fX9_trace_b34 N h q0 x1 x2 x3  = some r) : Rn d 120 (some .int) 34 [some (.ref q0), some (.int x1), some (.int x2), some (.int x3), none, none] [] h Q := by
  have hT := hX9_trace
  unfold fX9_trace_b34 at e
  refine Rn.n hT 1 (pc' := 35) (L' := [some (.ref q0), some (.int x1), some (.int x2), some (.int x3), none, none]) (st' := [.ref q0]) rfl ?_
  obtain ⟨v_3091, e_3092, e⟩ := Option.bind_eq_some_iff.mp e
  refine Rn.hp hT rfl rfl (gR_hp e_3092) ?_
  refine Rn.n hT 4 (pc' := 42) (L' := [some (.ref q0), some (.int x1), some (.int x2), some (.int x3), none, none]) (st' := [.int x2, .int (x3 - (1 : Int32)), .ref v_3091]) rfl ?_
  obtain ⟨h_3093, e_3094, e⟩ := Option.bind_eq_some_iff.mp e
  refine Rn.hp hT rfl rfl (wI_hp e_3094) ?_
  refine Rn.n hT 6 (pc' := 51) (L' := [some (.ref q0), some (.int x1), some (.int x2), some (.int x3), some (.int x1), some (.int (x3 - (2 : Int32)))]) (st' := []) rfl ?_
  refine Rn.weak (ll_s (ll_n (ll_n (ll_s (ll_s (ll_s ll_e)))))) (rX9_trace_l51 hd (fun h_3095 e => ?_) hq N h_3093 x1 (x3 - (2 : Int32)) e)
  try dsimp only at e
  exact Rn.weak (ll_n (ll_n (ll_n (ll_s (ll_n (ll_n ll_e)))))) (rX9_trace_b90 hd hq e)
def fX9_trace (N : Nat) (h : iv_H) (q0 : Nat) (x1 : Int32) (x2 : Int32) : Option (Int32 × iv_H) := (fX9_trace_l5 N q0 x1 x2 (fun (h_3079 : iv_H) (z_3080 : Int32) => (fX9_trace_b34 N h_3079 q0 x1 x2 z_3080)) N h (1 : Int32) x1)
set_option maxRecDepth 10000 in
set_option maxHeartbeats 4000000 in
theorem rX9_trace {d N : Nat} (hd : 1 ≤ d) {h : iv_H} {q0 : Nat} {x1 : Int32} {x2 : Int32} {r : Int32 × iv_H} {Q : Option Value → iv_H → Prop} (e : fX9_trace N h q0 x1 x2 = some r) (hq : Q (some (.int r.1)) r.2) : Cl d 120 [.ref q0, .int x1, .int x2] h Q := by
  obtain ⟨d, rfl⟩ : ∃ k, d = k + 1 := ⟨d - 1, by omega⟩
  have hd : 0 ≤ d := by omega
  have hT := hX9_trace
  unfold fX9_trace at e
  refine Cl.into (by decide) gX9_trace rfl ?_
  show Rn d 120 (some .int) 0 [some (.ref q0), some (.int x1), some (.int x2), none, none, none] [] h Q
  refine Rn.n hT 4 (pc' := 5) (L' := [some (.ref q0), some (.int x1), some (.int x2), some (.int (1 : Int32)), some (.int x1), none]) (st' := []) rfl ?_
  refine Rn.weak (ll_s (ll_s (ll_s (ll_s (ll_s (ll_n ll_e)))))) (rX9_trace_l5 hd (fun h_3079 z_3080 e => ?_) hq N h (1 : Int32) x1 e)
  try dsimp only at e
  exact Rn.weak (ll_s (ll_s (ll_s (ll_s (ll_n (ll_n ll_e)))))) (rX9_trace_b34 hd hq e)
set_option maxRecDepth 10000 in
theorem hX9_find : iv_Tb 118 tX9_find := iv_tb_of (m := mX9_find) rfl
set_option maxRecDepth 10000 in
theorem gX9_find : PG.2 118 = some mX9_find := iv_pi_of (t := tX9_find) rfl (by decide)
def fX9_find_b203 (N : Nat) (h : iv_H) (q0 : Nat) (y1 : Int64) (x3 : Int32) (x4 : Int32) (x5 : Int32) (x6 : Int32) (y7 : Int64) (x9 : Int32)  (kb : iv_H → Int32 → Option (Int32 × iv_H)) (kx : iv_H → Option (Int32 × iv_H)) : Option (Int32 × iv_H) := ((gR h 9 6 q0).bind fun v_3215 => ((aI h v_3215 x6).bind fun v_3217 => ((cko h q0 9).bind fun _ => (fX9_add N h q0 y7 x9 x4 v_3217).bind fun p_3224 => (fun (v_3221 : Int32) (h_3222 : iv_H) => (if v_3221 = 0 then (some ((-3 : Int32), h_3222)) else (kb h_3222 (x6 + (1 : Int32))))) p_3224.1 p_3224.2)))
set_option maxRecDepth 10000 in
set_option maxHeartbeats 4000000 in
theorem rX9_find_b203 {d N : Nat} (hd : 5 ≤ d) {h : iv_H} {q0 : Nat} {y1 : Int64} {x3 : Int32} {x4 : Int32} {x5 : Int32} {x6 : Int32} {y7 : Int64} {x9 : Int32}  {kb : iv_H → Int32 → Option (Int32 × iv_H)} {kx : iv_H → Option (Int32 × iv_H)} {r : Int32 × iv_H} {Q : Option Value → iv_H → Prop} (hb : ∀ (h : iv_H) (w6 : Int32), kb h w6 = some r → Rn d 118 (some .int) 123 [some (.ref q0), some (.long y1), none, some (.int x3), some (.int x4), some (.int x5), some (.int w6), none, none, none] [] h Q) (hk : ∀ (h : iv_H), kx h = some r → Rn d 118 (some .int) 232 [some (.ref q0), some (.long y1), none, some (.int x3), some (.int x4), none, none, none, none, none] [] h Q) (hq : Q (some (.int r.1)) r.2) (e : fX9_find_b203 N h q0 y1 x3 x4 x5 x6 y7 x9  kb kx = some r) : Rn d 118 (some .int) 203 [some (.ref q0), some (.long y1), none, some (.int x3), some (.int x4), some (.int x5), some (.int x6), some (.long y7), none, some (.int x9)] [] h Q := by
  have hT := hX9_find
  unfold fX9_find_b203 at e
  refine Rn.n hT 5 (pc' := 211) (L' := [some (.ref q0), some (.long y1), none, some (.int x3), some (.int x4), some (.int x5), some (.int x6), some (.long y7), none, some (.int x9)]) (st' := [.ref q0, .int x4, .int x9, .long y7, .ref q0]) rfl ?_
  obtain ⟨v_3215, e_3216, e⟩ := Option.bind_eq_some_iff.mp e
  refine Rn.hp hT rfl rfl (gR_hp e_3216) ?_
  refine Rn.n hT 1 (pc' := 216) (L' := [some (.ref q0), some (.long y1), none, some (.int x3), some (.int x4), some (.int x5), some (.int x6), some (.long y7), none, some (.int x9)]) (st' := [.int x6, .ref v_3215, .int x4, .int x9, .long y7, .ref q0]) rfl ?_
  obtain ⟨v_3217, e_3218, e⟩ := Option.bind_eq_some_iff.mp e
  refine Rn.hp hT rfl rfl (aI_hp e_3218) ?_
  obtain ⟨_, e_3220, e⟩ := Option.bind_eq_some_iff.mp e
  obtain ⟨⟨v_3221, h_3222⟩, e_3219, e⟩ := Option.bind_eq_some_iff.mp e
  try dsimp only at e
  try dsimp only at e
  refine Rn.call hT rfl rfl rfl (Nat.le_of_ble_eq_true rfl) (rcv_v gX9_add (by omega) e_3220) (rX9_add (by omega) e_3219 ?_)
  show Rn d _ _ 220 [some (.ref q0), some (.long y1), none, some (.int x3), some (.int x4), some (.int x5), some (.int x6), some (.long y7), none, some (.int x9)] [.int v_3221] h_3222 Q
  by_cases c_3223 : v_3221 = 0
  · rw [if_pos c_3223] at e
    refine Rn.bf hT rfl rfl rfl (decide_eq_false (fun z => z c_3223)) ?_
    refine Rn.n hT 1 (pc' := 225) (L' := [some (.ref q0), some (.long y1), none, some (.int x3), some (.int x4), some (.int x5), some (.int x6), some (.long y7), none, some (.int x9)]) (st' := [.int (-3 : Int32)]) rfl ?_
    obtain rfl := Option.some.inj e
    exact Rn.ret hT rfl rfl rfl hq
  · rw [if_neg c_3223] at e
    refine Rn.bt hT rfl rfl rfl (decide_eq_true c_3223) ?_
    refine Rn.n hT 2 (pc' := 123) (L' := [some (.ref q0), some (.long y1), none, some (.int x3), some (.int x4), some (.int x5), some (.int (x6 + (1 : Int32))), some (.long y7), none, some (.int x9)]) (st' := []) rfl ?_
    exact Rn.weak (ll_s (ll_s (ll_n (ll_s (ll_s (ll_s (ll_s (ll_n (ll_n (ll_n ll_e)))))))))) (hb h_3222 (x6 + (1 : Int32)) e)
def fX9_find_l123 (N : Nat) (q0 : Nat) (y1 : Int64) (x3 : Int32) (x4 : Int32) (x5 : Int32) (kx : iv_H → Option (Int32 × iv_H)) : Nat → iv_H → Int32 → Option (Int32 × iv_H)
  | 0, _, _ => none
  | n + 1, h, x6 => (if x5 ≤ x6 then (kx h) else ((gR h 9 7 q0).bind fun v_3176 => ((gR h 9 6 q0).bind fun v_3178 => ((aI h v_3178 x6).bind fun v_3180 => ((cko h v_3176 1).bind fun _ => (fX1_go N h v_3176 v_3180).bind fun h_3185 => ((gR h_3185 9 7 q0).bind fun v_3186 => ((gJ h_3185 1 3 v_3186).bind fun v_3188 => ((gR h_3185 9 7 q0).bind fun v_3190 => ((gI h_3185 1 4 v_3190).bind fun v_3192 => ((gR h_3185 9 7 q0).bind fun v_3194 => ((gR h_3185 9 6 q0).bind fun v_3196 => ((aI h_3185 v_3196 x6).bind fun v_3198 => ((cko h_3185 v_3194 1).bind fun _ => (fX1_goBack N h_3185 v_3194 v_3198).bind fun h_3203 => (if (lg_cmp v_3188 y1) = 0 then (if v_3192 = x3 then ((gR h_3203 9 6 q0).bind fun v_3206 => ((aI h_3203 v_3206 x6).bind fun v_3208 => ((cko h_3203 q0 9).bind fun _ => (fX9_trace N h_3203 q0 x4 v_3208).bind fun p_3214 => (fun (v_3212 : Int32) (h_3213 : iv_H) => (some (v_3212, h_3213))) p_3214.1 p_3214.2))) else (fX9_find_b203 N h_3203 q0 y1 x3 x4 x5 x6 v_3188 v_3192 (fX9_find_l123 N q0 y1 x3 x4 x5 kx n) kx)) else (fX9_find_b203 N h_3203 q0 y1 x3 x4 x5 x6 v_3188 v_3192 (fX9_find_l123 N q0 y1 x3 x4 x5 kx n) kx)))))))))))))))
set_option maxRecDepth 10000 in
set_option maxHeartbeats 4000000 in
theorem rX9_find_l123 {d N : Nat} (hd : 5 ≤ d) {q0 : Nat} {y1 : Int64} {x3 : Int32} {x4 : Int32} {x5 : Int32} {kx : iv_H → Option (Int32 × iv_H)} {r : Int32 × iv_H} {Q : Option Value → iv_H → Prop} (hk : ∀ (h : iv_H), kx h = some r → Rn d 118 (some .int) 232 [some (.ref q0), some (.long y1), none, some (.int x3), some (.int x4), none, none, none, none, none] [] h Q) (hq : Q (some (.int r.1)) r.2) : ∀ (n : Nat) (h : iv_H) (x6 : Int32), fX9_find_l123 N q0 y1 x3 x4 x5 kx n h x6 = some r → Rn d 118 (some .int) 123 [some (.ref q0), some (.long y1), none, some (.int x3), some (.int x4), some (.int x5), some (.int x6), none, none, none] [] h Q := by
  have hT := hX9_find
  intro n
  induction n with
  | zero =>
    intro h x6 e
    rw [fX9_find_l123] at e
    cases e
  | succ n ih =>
    intro h x6 e
    rw [fX9_find_l123] at e
    refine Rn.n hT 2 (pc' := 127) (L' := [some (.ref q0), some (.long y1), none, some (.int x3), some (.int x4), some (.int x5), some (.int x6), none, none, none]) (st' := [.int x5, .int x6]) rfl ?_
    by_cases c_3175 : x5 ≤ x6
    · rw [if_pos c_3175] at e
      refine Rn.bt hT rfl rfl rfl (decide_eq_true c_3175) ?_
      exact Rn.weak (ll_s (ll_s (ll_n (ll_s (ll_s (ll_n (ll_n (ll_n (ll_n (ll_n ll_e)))))))))) (hk h e)
    · rw [if_neg c_3175] at e
      refine Rn.bf hT rfl rfl rfl (decide_eq_false c_3175) ?_
      refine Rn.n hT 1 (pc' := 131) (L' := [some (.ref q0), some (.long y1), none, some (.int x3), some (.int x4), some (.int x5), some (.int x6), none, none, none]) (st' := [.ref q0]) rfl ?_
      obtain ⟨v_3176, e_3177, e⟩ := Option.bind_eq_some_iff.mp e
      refine Rn.hp hT rfl rfl (gR_hp e_3177) ?_
      refine Rn.n hT 1 (pc' := 135) (L' := [some (.ref q0), some (.long y1), none, some (.int x3), some (.int x4), some (.int x5), some (.int x6), none, none, none]) (st' := [.ref q0, .ref v_3176]) rfl ?_
      obtain ⟨v_3178, e_3179, e⟩ := Option.bind_eq_some_iff.mp e
      refine Rn.hp hT rfl rfl (gR_hp e_3179) ?_
      refine Rn.n hT 1 (pc' := 140) (L' := [some (.ref q0), some (.long y1), none, some (.int x3), some (.int x4), some (.int x5), some (.int x6), none, none, none]) (st' := [.int x6, .ref v_3178, .ref v_3176]) rfl ?_
      obtain ⟨v_3180, e_3181, e⟩ := Option.bind_eq_some_iff.mp e
      refine Rn.hp hT rfl rfl (aI_hp e_3181) ?_
      obtain ⟨_, e_3183, e⟩ := Option.bind_eq_some_iff.mp e
      obtain ⟨h_3185, e_3182, e⟩ := Option.bind_eq_some_iff.mp e
      refine Rn.call hT rfl rfl rfl (Nat.le_of_ble_eq_true rfl) (rcv_v gX1_go (by omega) e_3183) (rX1_go (by omega) e_3182 ?_)
      show Rn d _ _ 144 [some (.ref q0), some (.long y1), none, some (.int x3), some (.int x4), some (.int x5), some (.int x6), none, none, none] [] h_3185 Q
      refine Rn.n hT 1 (pc' := 145) (L' := [some (.ref q0), some (.long y1), none, some (.int x3), some (.int x4), some (.int x5), some (.int x6), none, none, none]) (st' := [.ref q0]) rfl ?_
      obtain ⟨v_3186, e_3187, e⟩ := Option.bind_eq_some_iff.mp e
      refine Rn.hp hT rfl rfl (gR_hp e_3187) ?_
      obtain ⟨v_3188, e_3189, e⟩ := Option.bind_eq_some_iff.mp e
      refine Rn.hp hT rfl rfl (gJ_hp e_3189) ?_
      refine Rn.n hT 2 (pc' := 154) (L' := [some (.ref q0), some (.long y1), none, some (.int x3), some (.int x4), some (.int x5), some (.int x6), some (.long v_3188), none, none]) (st' := [.ref q0]) rfl ?_
      obtain ⟨v_3190, e_3191, e⟩ := Option.bind_eq_some_iff.mp e
      refine Rn.hp hT rfl rfl (gR_hp e_3191) ?_
      obtain ⟨v_3192, e_3193, e⟩ := Option.bind_eq_some_iff.mp e
      refine Rn.hp hT rfl rfl (gI_hp e_3193) ?_
      refine Rn.n hT 2 (pc' := 163) (L' := [some (.ref q0), some (.long y1), none, some (.int x3), some (.int x4), some (.int x5), some (.int x6), some (.long v_3188), none, some (.int v_3192)]) (st' := [.ref q0]) rfl ?_
      obtain ⟨v_3194, e_3195, e⟩ := Option.bind_eq_some_iff.mp e
      refine Rn.hp hT rfl rfl (gR_hp e_3195) ?_
      refine Rn.n hT 1 (pc' := 167) (L' := [some (.ref q0), some (.long y1), none, some (.int x3), some (.int x4), some (.int x5), some (.int x6), some (.long v_3188), none, some (.int v_3192)]) (st' := [.ref q0, .ref v_3194]) rfl ?_
      obtain ⟨v_3196, e_3197, e⟩ := Option.bind_eq_some_iff.mp e
      refine Rn.hp hT rfl rfl (gR_hp e_3197) ?_
      refine Rn.n hT 1 (pc' := 172) (L' := [some (.ref q0), some (.long y1), none, some (.int x3), some (.int x4), some (.int x5), some (.int x6), some (.long v_3188), none, some (.int v_3192)]) (st' := [.int x6, .ref v_3196, .ref v_3194]) rfl ?_
      obtain ⟨v_3198, e_3199, e⟩ := Option.bind_eq_some_iff.mp e
      refine Rn.hp hT rfl rfl (aI_hp e_3199) ?_
      obtain ⟨_, e_3201, e⟩ := Option.bind_eq_some_iff.mp e
      obtain ⟨h_3203, e_3200, e⟩ := Option.bind_eq_some_iff.mp e
      refine Rn.call hT rfl rfl rfl (Nat.le_of_ble_eq_true rfl) (rcv_v gX1_goBack (by omega) e_3201) (rX1_goBack (by omega) e_3200 ?_)
      show Rn d _ _ 176 [some (.ref q0), some (.long y1), none, some (.int x3), some (.int x4), some (.int x5), some (.int x6), some (.long v_3188), none, some (.int v_3192)] [] h_3203 Q
      refine Rn.n hT 3 (pc' := 180) (L' := [some (.ref q0), some (.long y1), none, some (.int x3), some (.int x4), some (.int x5), some (.int x6), some (.long v_3188), none, some (.int v_3192)]) (st' := [.int (lg_cmp v_3188 y1)]) rfl ?_
      by_cases c_3204 : (lg_cmp v_3188 y1) = 0
      · rw [if_pos c_3204] at e
        refine Rn.bf hT rfl rfl rfl (decide_eq_false (fun z => z c_3204)) ?_
        refine Rn.n hT 2 (pc' := 186) (L' := [some (.ref q0), some (.long y1), none, some (.int x3), some (.int x4), some (.int x5), some (.int x6), some (.long v_3188), none, some (.int v_3192)]) (st' := [.int x3, .int v_3192]) rfl ?_
        by_cases c_3205 : v_3192 = x3
        · rw [if_pos c_3205] at e
          refine Rn.bf hT rfl rfl rfl (decide_eq_false (fun z => z c_3205)) ?_
          refine Rn.n hT 3 (pc' := 193) (L' := [some (.ref q0), some (.long y1), none, some (.int x3), some (.int x4), some (.int x5), some (.int x6), some (.long v_3188), none, some (.int v_3192)]) (st' := [.ref q0, .int x4, .ref q0]) rfl ?_
          obtain ⟨v_3206, e_3207, e⟩ := Option.bind_eq_some_iff.mp e
          refine Rn.hp hT rfl rfl (gR_hp e_3207) ?_
          refine Rn.n hT 1 (pc' := 198) (L' := [some (.ref q0), some (.long y1), none, some (.int x3), some (.int x4), some (.int x5), some (.int x6), some (.long v_3188), none, some (.int v_3192)]) (st' := [.int x6, .ref v_3206, .int x4, .ref q0]) rfl ?_
          obtain ⟨v_3208, e_3209, e⟩ := Option.bind_eq_some_iff.mp e
          refine Rn.hp hT rfl rfl (aI_hp e_3209) ?_
          obtain ⟨_, e_3211, e⟩ := Option.bind_eq_some_iff.mp e
          obtain ⟨⟨v_3212, h_3213⟩, e_3210, e⟩ := Option.bind_eq_some_iff.mp e
          try dsimp only at e
          try dsimp only at e
          refine Rn.call hT rfl rfl rfl (Nat.le_of_ble_eq_true rfl) (rcv_v gX9_trace (by omega) e_3211) (rX9_trace (by omega) e_3210 ?_)
          show Rn d _ _ 202 [some (.ref q0), some (.long y1), none, some (.int x3), some (.int x4), some (.int x5), some (.int x6), some (.long v_3188), none, some (.int v_3192)] [.int v_3212] h_3213 Q
          obtain rfl := Option.some.inj e
          exact Rn.ret hT rfl rfl rfl hq
        · rw [if_neg c_3205] at e
          refine Rn.bt hT rfl rfl rfl (decide_eq_true c_3205) ?_
          exact Rn.weak (ll_s (ll_s (ll_n (ll_s (ll_s (ll_s (ll_s (ll_s (ll_n (ll_s ll_e)))))))))) (rX9_find_b203 hd ih hk hq e)
      · rw [if_neg c_3204] at e
        refine Rn.bt hT rfl rfl rfl (decide_eq_true c_3204) ?_
        exact Rn.weak (ll_s (ll_s (ll_n (ll_s (ll_s (ll_s (ll_s (ll_s (ll_n (ll_s ll_e)))))))))) (rX9_find_b203 hd ih hk hq e)
def fX9_find_l62 (N : Nat) (q0 : Nat) (y1 : Int64) (x3 : Int32) (kx : iv_H → Option (Int32 × iv_H)) : Nat → iv_H → Int32 → Option (Int32 × iv_H)
  | 0, _, _ => none
  | n + 1, h, x4 => ((gI h 9 4 q0).bind fun v_3141 => (if v_3141 ≤ x4 then (kx h) else (if (1500 : Int32) ≤ x4 then (kx h) else ((gR h 9 7 q0).bind fun v_3145 => ((gR h 9 0 q0).bind fun v_3147 => ((aJ h v_3147 x4).bind fun v_3149 => ((gR h 9 1 q0).bind fun v_3151 => ((aI h v_3151 x4).bind fun v_3153 => ((cko h v_3145 1).bind fun _ => (fX1_arrange N h v_3145 v_3149 v_3153).bind fun h_3158 => ((gR h_3158 9 8 q0).bind fun v_3159 => ((cko h_3158 v_3159 3).bind fun _ => (fX3_look N h_3158 v_3159).bind fun h_3164 => ((gR h_3164 9 8 q0).bind fun v_3165 => ((gR h_3164 9 6 q0).bind fun v_3167 => ((cko h_3164 v_3165 3).bind fun _ => (fX3_list N h_3164 v_3165 v_3167).bind fun p_3174 => (fun (v_3171 : Int32) (h_3172 : iv_H) => (fX9_find_l123 N q0 y1 x3 x4 v_3171 (fun (h_3173 : iv_H) => (fX9_find_l62 N q0 y1 x3 kx n h_3173 (x4 + (1 : Int32)))) N h_3172 (0 : Int32))) p_3174.1 p_3174.2))))))))))))))
set_option maxRecDepth 10000 in
set_option maxHeartbeats 4000000 in
theorem rX9_find_l62 {d N : Nat} (hd : 5 ≤ d) {q0 : Nat} {y1 : Int64} {x3 : Int32} {kx : iv_H → Option (Int32 × iv_H)} {r : Int32 × iv_H} {Q : Option Value → iv_H → Prop} (hk : ∀ (h : iv_H), kx h = some r → Rn d 118 (some .int) 238 [none, none, none, none, none, none, none, none, none, none] [] h Q) (hq : Q (some (.int r.1)) r.2) : ∀ (n : Nat) (h : iv_H) (x4 : Int32), fX9_find_l62 N q0 y1 x3 kx n h x4 = some r → Rn d 118 (some .int) 62 [some (.ref q0), some (.long y1), none, some (.int x3), some (.int x4), none, none, none, none, none] [] h Q := by
  have hT := hX9_find
  intro n
  induction n with
  | zero =>
    intro h x4 e
    rw [fX9_find_l62] at e
    cases e
  | succ n ih =>
    intro h x4 e
    rw [fX9_find_l62] at e
    refine Rn.n hT 2 (pc' := 65) (L' := [some (.ref q0), some (.long y1), none, some (.int x3), some (.int x4), none, none, none, none, none]) (st' := [.ref q0, .int x4]) rfl ?_
    obtain ⟨v_3141, e_3142, e⟩ := Option.bind_eq_some_iff.mp e
    refine Rn.hp hT rfl rfl (gI_hp e_3142) ?_
    by_cases c_3143 : v_3141 ≤ x4
    · rw [if_pos c_3143] at e
      refine Rn.bt hT rfl rfl rfl (decide_eq_true c_3143) ?_
      exact Rn.weak (ll_n (ll_n (ll_n (ll_n (ll_n (ll_n (ll_n (ll_n (ll_n (ll_n ll_e)))))))))) (hk h e)
    · rw [if_neg c_3143] at e
      refine Rn.bf hT rfl rfl rfl (decide_eq_false c_3143) ?_
      refine Rn.n hT 2 (pc' := 76) (L' := [some (.ref q0), some (.long y1), none, some (.int x3), some (.int x4), none, none, none, none, none]) (st' := [.int (1500 : Int32), .int x4]) rfl ?_
      by_cases c_3144 : (1500 : Int32) ≤ x4
      · rw [if_pos c_3144] at e
        refine Rn.bt hT rfl rfl rfl (decide_eq_true c_3144) ?_
        exact Rn.weak (ll_n (ll_n (ll_n (ll_n (ll_n (ll_n (ll_n (ll_n (ll_n (ll_n ll_e)))))))))) (hk h e)
      · rw [if_neg c_3144] at e
        refine Rn.bf hT rfl rfl rfl (decide_eq_false c_3144) ?_
        refine Rn.n hT 1 (pc' := 80) (L' := [some (.ref q0), some (.long y1), none, some (.int x3), some (.int x4), none, none, none, none, none]) (st' := [.ref q0]) rfl ?_
        obtain ⟨v_3145, e_3146, e⟩ := Option.bind_eq_some_iff.mp e
        refine Rn.hp hT rfl rfl (gR_hp e_3146) ?_
        refine Rn.n hT 1 (pc' := 84) (L' := [some (.ref q0), some (.long y1), none, some (.int x3), some (.int x4), none, none, none, none, none]) (st' := [.ref q0, .ref v_3145]) rfl ?_
        obtain ⟨v_3147, e_3148, e⟩ := Option.bind_eq_some_iff.mp e
        refine Rn.hp hT rfl rfl (gR_hp e_3148) ?_
        refine Rn.n hT 1 (pc' := 89) (L' := [some (.ref q0), some (.long y1), none, some (.int x3), some (.int x4), none, none, none, none, none]) (st' := [.int x4, .ref v_3147, .ref v_3145]) rfl ?_
        obtain ⟨v_3149, e_3150, e⟩ := Option.bind_eq_some_iff.mp e
        refine Rn.hp hT rfl rfl (aJ_hp e_3150) ?_
        refine Rn.n hT 1 (pc' := 91) (L' := [some (.ref q0), some (.long y1), none, some (.int x3), some (.int x4), none, none, none, none, none]) (st' := [.ref q0, .long v_3149, .ref v_3145]) rfl ?_
        obtain ⟨v_3151, e_3152, e⟩ := Option.bind_eq_some_iff.mp e
        refine Rn.hp hT rfl rfl (gR_hp e_3152) ?_
        refine Rn.n hT 1 (pc' := 96) (L' := [some (.ref q0), some (.long y1), none, some (.int x3), some (.int x4), none, none, none, none, none]) (st' := [.int x4, .ref v_3151, .long v_3149, .ref v_3145]) rfl ?_
        obtain ⟨v_3153, e_3154, e⟩ := Option.bind_eq_some_iff.mp e
        refine Rn.hp hT rfl rfl (aI_hp e_3154) ?_
        obtain ⟨_, e_3156, e⟩ := Option.bind_eq_some_iff.mp e
        obtain ⟨h_3158, e_3155, e⟩ := Option.bind_eq_some_iff.mp e
        refine Rn.call hT rfl rfl rfl (Nat.le_of_ble_eq_true rfl) (rcv_v gX1_arrange (by omega) e_3156) (rX1_arrange (by omega) e_3155 ?_)
        show Rn d _ _ 100 [some (.ref q0), some (.long y1), none, some (.int x3), some (.int x4), none, none, none, none, none] [] h_3158 Q
        refine Rn.n hT 1 (pc' := 101) (L' := [some (.ref q0), some (.long y1), none, some (.int x3), some (.int x4), none, none, none, none, none]) (st' := [.ref q0]) rfl ?_
        obtain ⟨v_3159, e_3160, e⟩ := Option.bind_eq_some_iff.mp e
        refine Rn.hp hT rfl rfl (gR_hp e_3160) ?_
        obtain ⟨_, e_3162, e⟩ := Option.bind_eq_some_iff.mp e
        obtain ⟨h_3164, e_3161, e⟩ := Option.bind_eq_some_iff.mp e
        refine Rn.call hT rfl rfl rfl (Nat.le_of_ble_eq_true rfl) (rcv_v gX3_look (by omega) e_3162) (rX3_look (by omega) e_3161 ?_)
        show Rn d _ _ 107 [some (.ref q0), some (.long y1), none, some (.int x3), some (.int x4), none, none, none, none, none] [] h_3164 Q
        refine Rn.n hT 1 (pc' := 108) (L' := [some (.ref q0), some (.long y1), none, some (.int x3), some (.int x4), none, none, none, none, none]) (st' := [.ref q0]) rfl ?_
        obtain ⟨v_3165, e_3166, e⟩ := Option.bind_eq_some_iff.mp e
        refine Rn.hp hT rfl rfl (gR_hp e_3166) ?_
        refine Rn.n hT 1 (pc' := 112) (L' := [some (.ref q0), some (.long y1), none, some (.int x3), some (.int x4), none, none, none, none, none]) (st' := [.ref q0, .ref v_3165]) rfl ?_
        obtain ⟨v_3167, e_3168, e⟩ := Option.bind_eq_some_iff.mp e
        refine Rn.hp hT rfl rfl (gR_hp e_3168) ?_
        obtain ⟨_, e_3170, e⟩ := Option.bind_eq_some_iff.mp e
        obtain ⟨⟨v_3171, h_3172⟩, e_3169, e⟩ := Option.bind_eq_some_iff.mp e
        try dsimp only at e
        try dsimp only at e
        refine Rn.call hT rfl rfl rfl (Nat.le_of_ble_eq_true rfl) (rcv_v gX3_list (by omega) e_3170) (rX3_list (by omega) e_3169 ?_)
        show Rn d _ _ 118 [some (.ref q0), some (.long y1), none, some (.int x3), some (.int x4), none, none, none, none, none] [.int v_3171] h_3172 Q
        refine Rn.n hT 3 (pc' := 123) (L' := [some (.ref q0), some (.long y1), none, some (.int x3), some (.int x4), some (.int v_3171), some (.int (0 : Int32)), none, none, none]) (st' := []) rfl ?_
        refine Rn.weak (ll_s (ll_s (ll_n (ll_s (ll_s (ll_s (ll_s (ll_n (ll_n (ll_n ll_e)))))))))) (rX9_find_l123 hd (fun h_3173 e => ?_) hq N h_3172 (0 : Int32) e)
        try dsimp only at e
        refine Rn.n hT 2 (pc' := 62) (L' := [some (.ref q0), some (.long y1), none, some (.int x3), some (.int (x4 + (1 : Int32))), none, none, none, none, none]) (st' := []) rfl ?_
        exact Rn.weak (ll_s (ll_s (ll_n (ll_s (ll_s (ll_n (ll_n (ll_n (ll_n (ll_n ll_e)))))))))) (ih h_3173 (x4 + (1 : Int32)) e)
def fX9_find_b238 (N : Nat) (h : iv_H)   : Option (Int32 × iv_H) := (some ((-2 : Int32), h))
set_option maxRecDepth 10000 in
set_option maxHeartbeats 4000000 in
theorem rX9_find_b238 {d N : Nat} (hd : 5 ≤ d) {h : iv_H}   {r : Int32 × iv_H} {Q : Option Value → iv_H → Prop} (hq : Q (some (.int r.1)) r.2) (e : fX9_find_b238 N h   = some r) : Rn d 118 (some .int) 238 [none, none, none, none, none, none, none, none, none, none] [] h Q := by
  have hT := hX9_find
  unfold fX9_find_b238 at e
  refine Rn.n hT 1 (pc' := 240) (L' := [none, none, none, none, none, none, none, none, none, none]) (st' := [.int (-2 : Int32)]) rfl ?_
  obtain rfl := Option.some.inj e
  exact Rn.ret hT rfl rfl rfl hq
def fX9_find_b25 (N : Nat) (h : iv_H) (q0 : Nat) (y1 : Int64) (x3 : Int32)  : Option (Int32 × iv_H) := ((gR h 9 5 q0).bind fun v_3120 => ((fJ7_fill_53178 N h v_3120 (0 : Int32)).bind fun h_3124 => ((pV h_3124 9 4 q0 (.int (0 : Int32))).bind fun h_3125 => ((gR h_3125 9 7 q0).bind fun v_3127 => ((gJ h_3125 1 3 v_3127).bind fun v_3129 => ((gR h_3125 9 7 q0).bind fun v_3131 => ((gI h_3125 1 4 v_3131).bind fun v_3133 => ((cko h_3125 q0 9).bind fun _ => (fX9_add N h_3125 q0 v_3129 v_3133 (-1 : Int32) (-1 : Int32)).bind fun p_3140 => (fun (v_3137 : Int32) (h_3138 : iv_H) => (fX9_find_l62 N q0 y1 x3 (fun (h_3139 : iv_H) => (fX9_find_b238 N h_3139)) N h_3138 (0 : Int32))) p_3140.1 p_3140.2))))))))
set_option maxRecDepth 10000 in
set_option maxHeartbeats 4000000 in
theorem rX9_find_b25 {d N : Nat} (hd : 5 ≤ d) {h : iv_H} {q0 : Nat} {y1 : Int64} {x3 : Int32}  {r : Int32 × iv_H} {Q : Option Value → iv_H → Prop} (hq : Q (some (.int r.1)) r.2) (e : fX9_find_b25 N h q0 y1 x3  = some r) : Rn d 118 (some .int) 25 [some (.ref q0), some (.long y1), none, some (.int x3), none, none, none, none, none, none] [] h Q := by
  have hT := hX9_find
  unfold fX9_find_b25 at e
  refine Rn.n hT 1 (pc' := 26) (L' := [some (.ref q0), some (.long y1), none, some (.int x3), none, none, none, none, none, none]) (st' := [.ref q0]) rfl ?_
  obtain ⟨v_3120, e_3121, e⟩ := Option.bind_eq_some_iff.mp e
  refine Rn.hp hT rfl rfl (gR_hp e_3121) ?_
  refine Rn.n hT 1 (pc' := 30) (L' := [some (.ref q0), some (.long y1), none, some (.int x3), none, none, none, none, none, none]) (st' := [.int (0 : Int32), .ref v_3120]) rfl ?_
  obtain ⟨h_3124, e_3122, e⟩ := Option.bind_eq_some_iff.mp e
  refine Rn.call hT rfl rfl rfl (Nat.le_of_ble_eq_true rfl) rfl (rJ7_fill_53178 (by omega) e_3122 ?_)
  show Rn d _ _ 33 [some (.ref q0), some (.long y1), none, some (.int x3), none, none, none, none, none, none] [] h_3124 Q
  refine Rn.n hT 2 (pc' := 35) (L' := [some (.ref q0), some (.long y1), none, some (.int x3), none, none, none, none, none, none]) (st' := [.int (0 : Int32), .ref q0]) rfl ?_
  obtain ⟨h_3125, e_3126, e⟩ := Option.bind_eq_some_iff.mp e
  refine Rn.hp hT rfl rfl (pV_hp rfl e_3126) ?_
  refine Rn.n hT 2 (pc' := 40) (L' := [some (.ref q0), some (.long y1), none, some (.int x3), none, none, none, none, none, none]) (st' := [.ref q0, .ref q0]) rfl ?_
  obtain ⟨v_3127, e_3128, e⟩ := Option.bind_eq_some_iff.mp e
  refine Rn.hp hT rfl rfl (gR_hp e_3128) ?_
  obtain ⟨v_3129, e_3130, e⟩ := Option.bind_eq_some_iff.mp e
  refine Rn.hp hT rfl rfl (gJ_hp e_3130) ?_
  refine Rn.n hT 1 (pc' := 47) (L' := [some (.ref q0), some (.long y1), none, some (.int x3), none, none, none, none, none, none]) (st' := [.ref q0, .long v_3129, .ref q0]) rfl ?_
  obtain ⟨v_3131, e_3132, e⟩ := Option.bind_eq_some_iff.mp e
  refine Rn.hp hT rfl rfl (gR_hp e_3132) ?_
  obtain ⟨v_3133, e_3134, e⟩ := Option.bind_eq_some_iff.mp e
  refine Rn.hp hT rfl rfl (gI_hp e_3134) ?_
  refine Rn.n hT 2 (pc' := 55) (L' := [some (.ref q0), some (.long y1), none, some (.int x3), none, none, none, none, none, none]) (st' := [.int (-1 : Int32), .int (-1 : Int32), .int v_3133, .long v_3129, .ref q0]) rfl ?_
  obtain ⟨_, e_3136, e⟩ := Option.bind_eq_some_iff.mp e
  obtain ⟨⟨v_3137, h_3138⟩, e_3135, e⟩ := Option.bind_eq_some_iff.mp e
  try dsimp only at e
  try dsimp only at e
  refine Rn.call hT rfl rfl rfl (Nat.le_of_ble_eq_true rfl) (rcv_v gX9_add (by omega) e_3136) (rX9_add (by omega) e_3135 ?_)
  show Rn d _ _ 58 [some (.ref q0), some (.long y1), none, some (.int x3), none, none, none, none, none, none] [.int v_3137] h_3138 Q
  refine Rn.n hT 3 (pc' := 62) (L' := [some (.ref q0), some (.long y1), none, some (.int x3), some (.int (0 : Int32)), none, none, none, none, none]) (st' := []) rfl ?_
  refine Rn.weak (ll_s (ll_s (ll_n (ll_s (ll_s (ll_n (ll_n (ll_n (ll_n (ll_n ll_e)))))))))) (rX9_find_l62 hd (fun h_3139 e => ?_) hq N h_3138 (0 : Int32) e)
  try dsimp only at e
  exact Rn.weak (ll_n (ll_n (ll_n (ll_n (ll_n (ll_n (ll_n (ll_n (ll_n (ll_n ll_e)))))))))) (rX9_find_b238 hd hq e)
def fX9_find (N : Nat) (h : iv_H) (q0 : Nat) (y1 : Int64) (x3 : Int32) : Option (Int32 × iv_H) := ((gR h 9 7 q0).bind fun v_3110 => ((gJ h 1 3 v_3110).bind fun v_3112 => (if (lg_cmp v_3112 y1) = 0 then ((gR h 9 7 q0).bind fun v_3115 => ((gI h 1 4 v_3115).bind fun v_3117 => (if v_3117 = x3 then (some ((0 : Int32), h)) else (fX9_find_b25 N h q0 y1 x3)))) else (fX9_find_b25 N h q0 y1 x3))))
set_option maxRecDepth 10000 in
set_option maxHeartbeats 4000000 in
theorem rX9_find {d N : Nat} (hd : 6 ≤ d) {h : iv_H} {q0 : Nat} {y1 : Int64} {x3 : Int32} {r : Int32 × iv_H} {Q : Option Value → iv_H → Prop} (e : fX9_find N h q0 y1 x3 = some r) (hq : Q (some (.int r.1)) r.2) : Cl d 118 [.ref q0, .long y1, .int x3] h Q := by
  obtain ⟨d, rfl⟩ : ∃ k, d = k + 1 := ⟨d - 1, by omega⟩
  have hd : 5 ≤ d := by omega
  have hT := hX9_find
  unfold fX9_find at e
  refine Cl.into (by decide) gX9_find rfl ?_
  show Rn d 118 (some .int) 0 [some (.ref q0), some (.long y1), none, some (.int x3), none, none, none, none, none, none] [] h Q
  refine Rn.n hT 1 (pc' := 1) (L' := [some (.ref q0), some (.long y1), none, some (.int x3), none, none, none, none, none, none]) (st' := [.ref q0]) rfl ?_
  obtain ⟨v_3110, e_3111, e⟩ := Option.bind_eq_some_iff.mp e
  refine Rn.hp hT rfl rfl (gR_hp e_3111) ?_
  obtain ⟨v_3112, e_3113, e⟩ := Option.bind_eq_some_iff.mp e
  refine Rn.hp hT rfl rfl (gJ_hp e_3113) ?_
  refine Rn.n hT 2 (pc' := 9) (L' := [some (.ref q0), some (.long y1), none, some (.int x3), none, none, none, none, none, none]) (st' := [.int (lg_cmp v_3112 y1)]) rfl ?_
  by_cases c_3114 : (lg_cmp v_3112 y1) = 0
  · rw [if_pos c_3114] at e
    refine Rn.bf hT rfl rfl rfl (decide_eq_false (fun z => z c_3114)) ?_
    refine Rn.n hT 1 (pc' := 13) (L' := [some (.ref q0), some (.long y1), none, some (.int x3), none, none, none, none, none, none]) (st' := [.ref q0]) rfl ?_
    obtain ⟨v_3115, e_3116, e⟩ := Option.bind_eq_some_iff.mp e
    refine Rn.hp hT rfl rfl (gR_hp e_3116) ?_
    obtain ⟨v_3117, e_3118, e⟩ := Option.bind_eq_some_iff.mp e
    refine Rn.hp hT rfl rfl (gI_hp e_3118) ?_
    refine Rn.n hT 1 (pc' := 20) (L' := [some (.ref q0), some (.long y1), none, some (.int x3), none, none, none, none, none, none]) (st' := [.int x3, .int v_3117]) rfl ?_
    by_cases c_3119 : v_3117 = x3
    · rw [if_pos c_3119] at e
      refine Rn.bf hT rfl rfl rfl (decide_eq_false (fun z => z c_3119)) ?_
      refine Rn.n hT 1 (pc' := 24) (L' := [some (.ref q0), some (.long y1), none, some (.int x3), none, none, none, none, none, none]) (st' := [.int (0 : Int32)]) rfl ?_
      obtain rfl := Option.some.inj e
      exact Rn.ret hT rfl rfl rfl hq
    · rw [if_neg c_3119] at e
      refine Rn.bt hT rfl rfl rfl (decide_eq_true c_3119) ?_
      exact Rn.weak (ll_s (ll_s (ll_n (ll_s (ll_n (ll_n (ll_n (ll_n (ll_n (ll_n ll_e)))))))))) (rX9_find_b25 hd hq e)
  · rw [if_neg c_3114] at e
    refine Rn.bt hT rfl rfl rfl (decide_eq_true c_3114) ?_
    exact Rn.weak (ll_s (ll_s (ll_n (ll_s (ll_n (ll_n (ll_n (ll_n (ll_n (ll_n ll_e)))))))))) (rX9_find_b25 hd hq e)
set_option maxRecDepth 10000 in
theorem hX9_ask : iv_Tb 117 tX9_ask := iv_tb_of (m := mX9_ask) rfl
set_option maxRecDepth 10000 in
theorem gX9_ask : PG.2 117 = some mX9_ask := iv_pi_of (t := tX9_ask) rfl (by decide)
def fX9_ask_b18 (N : Nat) (h : iv_H) (q0 : Nat) (q1 : Nat) (o2 : Option Nat) (x3 : Int32) (x4 : Int32)  : Option (iv_H) := ((pV h 9 9 q0 (.int x4)).bind fun h_3231 => ((pV h_3231 9 10 q0 (.int x3)).bind fun h_3233 => ((gR h_3233 9 7 q0).bind fun v_3235 => ((gR h_3233 2 9 q1).bind fun v_3237 => ((cko h_3233 v_3235 1).bind fun _ => (fX1_copyFrom N h_3233 v_3235 v_3237).bind fun h_3242 => ((gR h_3242 9 8 q0).bind fun v_3243 => ((gR h_3242 9 7 q0).bind fun v_3245 => ((cko h_3242 v_3243 3).bind fun _ => (fX3_open N h_3242 v_3243 q1 v_3245 o2).bind fun h_3250 => ((gR h_3250 2 14 q1).bind fun v_3251 => ((aJ h_3250 v_3251 x3).bind fun v_3253 => ((gR h_3250 2 15 q1).bind fun v_3255 => ((aI h_3250 v_3255 x3).bind fun v_3257 => ((cko h_3250 q0 9).bind fun _ => (fX9_find N h_3250 q0 v_3253 v_3257).bind fun p_3265 => (fun (v_3261 : Int32) (h_3262 : iv_H) => ((pV h_3262 9 11 q0 (.int v_3261)).bind fun h_3263 => some h_3263)) p_3265.1 p_3265.2)))))))))))))
set_option maxRecDepth 10000 in
set_option maxHeartbeats 4000000 in
theorem rX9_ask_b18 {d N : Nat} (hd : 6 ≤ d) {h : iv_H} {q0 : Nat} {q1 : Nat} {o2 : Option Nat} {x3 : Int32} {x4 : Int32}  {r : iv_H} {Q : Option Value → iv_H → Prop} (hq : Q none r) (e : fX9_ask_b18 N h q0 q1 o2 x3 x4  = some r) : Rn d 117 none 18 [some (.ref q0), some (.ref q1), some (iv_rf o2), some (.int x3), some (.int x4)] [] h Q := by
  have hT := hX9_ask
  unfold fX9_ask_b18 at e
  refine Rn.n hT 2 (pc' := 21) (L' := [some (.ref q0), some (.ref q1), some (iv_rf o2), some (.int x3), some (.int x4)]) (st' := [.int x4, .ref q0]) rfl ?_
  obtain ⟨h_3231, e_3232, e⟩ := Option.bind_eq_some_iff.mp e
  refine Rn.hp hT rfl rfl (pV_hp rfl e_3232) ?_
  refine Rn.n hT 2 (pc' := 26) (L' := [some (.ref q0), some (.ref q1), some (iv_rf o2), some (.int x3), some (.int x4)]) (st' := [.int x3, .ref q0]) rfl ?_
  obtain ⟨h_3233, e_3234, e⟩ := Option.bind_eq_some_iff.mp e
  refine Rn.hp hT rfl rfl (pV_hp rfl e_3234) ?_
  refine Rn.n hT 1 (pc' := 30) (L' := [some (.ref q0), some (.ref q1), some (iv_rf o2), some (.int x3), some (.int x4)]) (st' := [.ref q0]) rfl ?_
  obtain ⟨v_3235, e_3236, e⟩ := Option.bind_eq_some_iff.mp e
  refine Rn.hp hT rfl rfl (gR_hp e_3236) ?_
  refine Rn.n hT 1 (pc' := 34) (L' := [some (.ref q0), some (.ref q1), some (iv_rf o2), some (.int x3), some (.int x4)]) (st' := [.ref q1, .ref v_3235]) rfl ?_
  obtain ⟨v_3237, e_3238, e⟩ := Option.bind_eq_some_iff.mp e
  refine Rn.hp hT rfl rfl (gR_hp e_3238) ?_
  obtain ⟨_, e_3240, e⟩ := Option.bind_eq_some_iff.mp e
  obtain ⟨h_3242, e_3239, e⟩ := Option.bind_eq_some_iff.mp e
  refine Rn.call hT rfl rfl rfl (Nat.le_of_ble_eq_true rfl) (rcv_v gX1_copyFrom (by omega) e_3240) (rX1_copyFrom (by omega) e_3239 ?_)
  show Rn d _ _ 40 [some (.ref q0), some (.ref q1), some (iv_rf o2), some (.int x3), some (.int x4)] [] h_3242 Q
  refine Rn.n hT 1 (pc' := 41) (L' := [some (.ref q0), some (.ref q1), some (iv_rf o2), some (.int x3), some (.int x4)]) (st' := [.ref q0]) rfl ?_
  obtain ⟨v_3243, e_3244, e⟩ := Option.bind_eq_some_iff.mp e
  refine Rn.hp hT rfl rfl (gR_hp e_3244) ?_
  refine Rn.n hT 2 (pc' := 46) (L' := [some (.ref q0), some (.ref q1), some (iv_rf o2), some (.int x3), some (.int x4)]) (st' := [.ref q0, .ref q1, .ref v_3243]) rfl ?_
  obtain ⟨v_3245, e_3246, e⟩ := Option.bind_eq_some_iff.mp e
  refine Rn.hp hT rfl rfl (gR_hp e_3246) ?_
  refine Rn.lo hT rfl rfl (L' := [some (.ref q0), some (.ref q1), some (iv_rf o2), some (.int x3), some (.int x4)]) (st' := [iv_rf o2, .ref v_3245, .ref q1, .ref v_3243]) (ldN (o := o2) rfl) ?_
  obtain ⟨_, e_3248, e⟩ := Option.bind_eq_some_iff.mp e
  obtain ⟨h_3250, e_3247, e⟩ := Option.bind_eq_some_iff.mp e
  refine Rn.call hT rfl rfl rfl (Nat.le_of_ble_eq_true rfl) (rcv_v gX3_open (by omega) e_3248) (rX3_open (by omega) e_3247 ?_)
  show Rn d _ _ 53 [some (.ref q0), some (.ref q1), some (iv_rf o2), some (.int x3), some (.int x4)] [] h_3250 Q
  refine Rn.n hT 3 (pc' := 56) (L' := [some (.ref q0), some (.ref q1), some (iv_rf o2), some (.int x3), some (.int x4)]) (st' := [.ref q1, .ref q0, .ref q0]) rfl ?_
  obtain ⟨v_3251, e_3252, e⟩ := Option.bind_eq_some_iff.mp e
  refine Rn.hp hT rfl rfl (gR_hp e_3252) ?_
  refine Rn.n hT 1 (pc' := 60) (L' := [some (.ref q0), some (.ref q1), some (iv_rf o2), some (.int x3), some (.int x4)]) (st' := [.int x3, .ref v_3251, .ref q0, .ref q0]) rfl ?_
  obtain ⟨v_3253, e_3254, e⟩ := Option.bind_eq_some_iff.mp e
  refine Rn.hp hT rfl rfl (aJ_hp e_3254) ?_
  refine Rn.n hT 1 (pc' := 62) (L' := [some (.ref q0), some (.ref q1), some (iv_rf o2), some (.int x3), some (.int x4)]) (st' := [.ref q1, .long v_3253, .ref q0, .ref q0]) rfl ?_
  obtain ⟨v_3255, e_3256, e⟩ := Option.bind_eq_some_iff.mp e
  refine Rn.hp hT rfl rfl (gR_hp e_3256) ?_
  refine Rn.n hT 1 (pc' := 66) (L' := [some (.ref q0), some (.ref q1), some (iv_rf o2), some (.int x3), some (.int x4)]) (st' := [.int x3, .ref v_3255, .long v_3253, .ref q0, .ref q0]) rfl ?_
  obtain ⟨v_3257, e_3258, e⟩ := Option.bind_eq_some_iff.mp e
  refine Rn.hp hT rfl rfl (aI_hp e_3258) ?_
  obtain ⟨_, e_3260, e⟩ := Option.bind_eq_some_iff.mp e
  obtain ⟨⟨v_3261, h_3262⟩, e_3259, e⟩ := Option.bind_eq_some_iff.mp e
  try dsimp only at e
  try dsimp only at e
  refine Rn.call hT rfl rfl rfl (Nat.le_of_ble_eq_true rfl) (rcv_v gX9_find (by omega) e_3260) (rX9_find (by omega) e_3259 ?_)
  show Rn d _ _ 70 [some (.ref q0), some (.ref q1), some (iv_rf o2), some (.int x3), some (.int x4)] [.int v_3261, .ref q0] h_3262 Q
  obtain ⟨h_3263, e_3264, e⟩ := Option.bind_eq_some_iff.mp e
  refine Rn.hp hT rfl rfl (pV_hp rfl e_3264) ?_
  obtain rfl := Option.some.inj e
  exact Rn.ret hT rfl rfl rfl hq
def fX9_ask (N : Nat) (h : iv_H) (q0 : Nat) (q1 : Nat) (o2 : Option Nat) (x3 : Int32) (x4 : Int32) : Option (iv_H) := ((gI h 9 9 q0).bind fun v_3225 => (if v_3225 = x4 then ((gI h 9 10 q0).bind fun v_3228 => (if v_3228 = x3 then some h else (fX9_ask_b18 N h q0 q1 o2 x3 x4))) else (fX9_ask_b18 N h q0 q1 o2 x3 x4)))
set_option maxRecDepth 10000 in
set_option maxHeartbeats 4000000 in
theorem rX9_ask {d N : Nat} (hd : 7 ≤ d) {h : iv_H} {q0 : Nat} {q1 : Nat} {o2 : Option Nat} {x3 : Int32} {x4 : Int32} {r : iv_H} {Q : Option Value → iv_H → Prop} (e : fX9_ask N h q0 q1 o2 x3 x4 = some r) (hq : Q none r) : Cl d 117 [.ref q0, .ref q1, iv_rf o2, .int x3, .int x4] h Q := by
  obtain ⟨d, rfl⟩ : ∃ k, d = k + 1 := ⟨d - 1, by omega⟩
  have hd : 6 ≤ d := by omega
  have hT := hX9_ask
  unfold fX9_ask at e
  have he : iv_ent 5 [.ref q0, .ref q1, iv_rf o2, .int x3, .int x4] = [some (.ref q0), some (.ref q1), some (iv_rf o2), some (.int x3), some (.int x4)] := by cases o2 <;> rfl
  refine Cl.into (by decide) gX9_ask (by rw [he]; rfl) ?_
  rw [he]
  refine Rn.n hT 1 (pc' := 1) (L' := [some (.ref q0), some (.ref q1), some (iv_rf o2), some (.int x3), some (.int x4)]) (st' := [.ref q0]) rfl ?_
  obtain ⟨v_3225, e_3226, e⟩ := Option.bind_eq_some_iff.mp e
  refine Rn.hp hT rfl rfl (gI_hp e_3226) ?_
  refine Rn.n hT 1 (pc' := 6) (L' := [some (.ref q0), some (.ref q1), some (iv_rf o2), some (.int x3), some (.int x4)]) (st' := [.int x4, .int v_3225]) rfl ?_
  by_cases c_3227 : v_3225 = x4
  · rw [if_pos c_3227] at e
    refine Rn.bf hT rfl rfl rfl (decide_eq_false (fun z => z c_3227)) ?_
    refine Rn.n hT 1 (pc' := 10) (L' := [some (.ref q0), some (.ref q1), some (iv_rf o2), some (.int x3), some (.int x4)]) (st' := [.ref q0]) rfl ?_
    obtain ⟨v_3228, e_3229, e⟩ := Option.bind_eq_some_iff.mp e
    refine Rn.hp hT rfl rfl (gI_hp e_3229) ?_
    refine Rn.n hT 1 (pc' := 14) (L' := [some (.ref q0), some (.ref q1), some (iv_rf o2), some (.int x3), some (.int x4)]) (st' := [.int x3, .int v_3228]) rfl ?_
    by_cases c_3230 : v_3228 = x3
    · rw [if_pos c_3230] at e
      refine Rn.bf hT rfl rfl rfl (decide_eq_false (fun z => z c_3230)) ?_
      obtain rfl := Option.some.inj e
      exact Rn.ret hT rfl rfl rfl hq
    · rw [if_neg c_3230] at e
      refine Rn.bt hT rfl rfl rfl (decide_eq_true c_3230) ?_
      exact Rn.weak (ll_s (ll_s (ll_s (ll_s (ll_s ll_e))))) (rX9_ask_b18 hd hq e)
  · rw [if_neg c_3227] at e
    refine Rn.bt hT rfl rfl rfl (decide_eq_true c_3227) ?_
    exact Rn.weak (ll_s (ll_s (ll_s (ll_s (ll_s ll_e))))) (rX9_ask_b18 hd hq e)
set_option maxRecDepth 10000 in
theorem hX9_emptyCell : iv_Tb 123 tX9_emptyCell := iv_tb_of (m := mX9_emptyCell) rfl
set_option maxRecDepth 10000 in
theorem gX9_emptyCell : PG.2 123 = some mX9_emptyCell := iv_pi_of (t := tX9_emptyCell) rfl (by decide)
def fX9_emptyCell_l2 (N : Nat) (h : iv_H) (q0 : Nat) (kx : Unit → Option (Int32)) : Nat → Int32 → Option (Int32)
  | 0, _ => none
  | n + 1, x1 => (if (16 : Int32) ≤ x1 then (kx ()) else ((cko h q0 1).bind fun _ => (fX1_isEmptyCell N h q0 x1).bind fun v_3269 => (if v_3269 = 0 then (fX9_emptyCell_l2 N h q0 kx n (x1 + (1 : Int32))) else (some x1))))
set_option maxRecDepth 10000 in
set_option maxHeartbeats 4000000 in
theorem rX9_emptyCell_l2 {d N : Nat} (hd : 1 ≤ d) {h : iv_H} {q0 : Nat} {kx : Unit → Option (Int32)} {r : Int32} {Q : Option Value → iv_H → Prop} (hk : ∀ (u : Unit), kx u = some r → Rn d 123 (some .int) 24 [none, none] [] h Q) (hq : Q (some (.int r)) h) : ∀ (n : Nat) (x1 : Int32), fX9_emptyCell_l2 N h q0 kx n x1 = some r → Rn d 123 (some .int) 2 [some (.ref q0), some (.int x1)] [] h Q := by
  have hT := hX9_emptyCell
  intro n
  induction n with
  | zero =>
    intro x1 e
    rw [fX9_emptyCell_l2] at e
    cases e
  | succ n ih =>
    intro x1 e
    rw [fX9_emptyCell_l2] at e
    refine Rn.n hT 2 (pc' := 5) (L' := [some (.ref q0), some (.int x1)]) (st' := [.int (16 : Int32), .int x1]) rfl ?_
    by_cases c_3266 : (16 : Int32) ≤ x1
    · rw [if_pos c_3266] at e
      refine Rn.bt hT rfl rfl rfl (decide_eq_true c_3266) ?_
      exact Rn.weak (ll_n (ll_n ll_e)) (hk () e)
    · rw [if_neg c_3266] at e
      refine Rn.bf hT rfl rfl rfl (decide_eq_false c_3266) ?_
      refine Rn.n hT 2 (pc' := 10) (L' := [some (.ref q0), some (.int x1)]) (st' := [.int x1, .ref q0]) rfl ?_
      obtain ⟨_, e_3268, e⟩ := Option.bind_eq_some_iff.mp e
      obtain ⟨v_3269, e_3267, e⟩ := Option.bind_eq_some_iff.mp e
      refine Rn.call hT rfl rfl rfl (Nat.le_of_ble_eq_true rfl) (rcv_v gX1_isEmptyCell (by omega) e_3268) (rX1_isEmptyCell (by omega) e_3267 ?_)
      show Rn d _ _ 13 [some (.ref q0), some (.int x1)] [.int v_3269] h Q
      by_cases c_3270 : v_3269 = 0
      · rw [if_pos c_3270] at e
        refine Rn.bt hT rfl rfl rfl (decide_eq_true c_3270) ?_
        refine Rn.n hT 2 (pc' := 2) (L' := [some (.ref q0), some (.int (x1 + (1 : Int32)))]) (st' := []) rfl ?_
        exact Rn.weak (ll_s (ll_s ll_e)) (ih (x1 + (1 : Int32)) e)
      · rw [if_neg c_3270] at e
        refine Rn.bf hT rfl rfl rfl (decide_eq_false c_3270) ?_
        refine Rn.n hT 1 (pc' := 17) (L' := [some (.ref q0), some (.int x1)]) (st' := [.int x1]) rfl ?_
        obtain rfl := Option.some.inj e
        exact Rn.ret hT rfl rfl rfl hq
def fX9_emptyCell (N : Nat) (h : iv_H) (q0 : Nat) : Option (Int32) := (fX9_emptyCell_l2 N h q0 (fun (_ : Unit) => (some (0 : Int32))) N (0 : Int32))
set_option maxRecDepth 10000 in
set_option maxHeartbeats 4000000 in
theorem rX9_emptyCell {d N : Nat} (hd : 2 ≤ d) {h : iv_H} {q0 : Nat} {r : Int32} {Q : Option Value → iv_H → Prop} (e : fX9_emptyCell N h q0 = some r) (hq : Q (some (.int r)) h) : Cl d 123 [.ref q0] h Q := by
  obtain ⟨d, rfl⟩ : ∃ k, d = k + 1 := ⟨d - 1, by omega⟩
  have hd : 1 ≤ d := by omega
  have hT := hX9_emptyCell
  unfold fX9_emptyCell at e
  refine Cl.into (by decide) gX9_emptyCell rfl ?_
  show Rn d 123 (some .int) 0 [some (.ref q0), none] [] h Q
  refine Rn.n hT 2 (pc' := 2) (L' := [some (.ref q0), some (.int (0 : Int32))]) (st' := []) rfl ?_
  refine Rn.weak (ll_s (ll_s ll_e)) (rX9_emptyCell_l2 hd (fun _ e => ?_) hq N (0 : Int32) e)
  try dsimp only at e
  refine Rn.n hT 1 (pc' := 25) (L' := [none, none]) (st' := [.int (0 : Int32)]) rfl ?_
  obtain rfl := Option.some.inj e
  exact Rn.ret hT rfl rfl rfl hq
set_option maxRecDepth 10000 in
theorem hX9_isOdd : iv_Tb 122 tX9_isOdd := iv_tb_of (m := mX9_isOdd) rfl
set_option maxRecDepth 10000 in
theorem gX9_isOdd : PG.2 122 = some mX9_isOdd := iv_pi_of (t := tX9_isOdd) rfl (by decide)
def fX9_isOdd_b209 (N : Nat) (h : iv_H) (q0 : Nat) (q1 : Nat) (x3 : Int32) (x4 : Int32) (x6 : Int32) (x7 : Int32) (x8 : Int32) (x9 : Int32) (x10 : Int32) (s0 : Int32) (s1 : Int32) (kb : iv_H → Int32 → Int32 → Option (Int32 × iv_H)) (kx : iv_H → Int32 → Option (Int32 × iv_H)) : Option (Int32 × iv_H) := (kb h (s1 + s0) (x10 + (1 : Int32)))
set_option maxRecDepth 10000 in
set_option maxHeartbeats 4000000 in
theorem rX9_isOdd_b209 {d N : Nat} (hd : 4 ≤ d) {h : iv_H} {q0 : Nat} {q1 : Nat} {x3 : Int32} {x4 : Int32} {x6 : Int32} {x7 : Int32} {x8 : Int32} {x9 : Int32} {x10 : Int32} {s0 : Int32} {s1 : Int32} {kb : iv_H → Int32 → Int32 → Option (Int32 × iv_H)} {kx : iv_H → Int32 → Option (Int32 × iv_H)} {r : Int32 × iv_H} {Q : Option Value → iv_H → Prop} (hb : ∀ (h : iv_H) (w5 : Int32) (w10 : Int32), kb h w5 w10 = some r → Rn d 122 (some .boolean) 148 [some (.ref q0), some (.ref q1), none, some (.int x3), some (.int x4), some (.int w5), some (.int x6), some (.int x7), some (.int x8), some (.int x9), some (.int w10), none] [] h Q) (hk : ∀ (h : iv_H) (w5 : Int32), kx h w5 = some r → Rn d 122 (some .boolean) 218 [some (.ref q0), some (.ref q1), none, some (.int x3), some (.int x4), some (.int w5), some (.int x6), some (.int x7), none, none, none, none] [] h Q) (hq : Q (some (.int r.1)) r.2) (e : fX9_isOdd_b209 N h q0 q1 x3 x4 x6 x7 x8 x9 x10 s0 s1 kb kx = some r) : Rn d 122 (some .boolean) 209 [some (.ref q0), some (.ref q1), none, some (.int x3), some (.int x4), none, some (.int x6), some (.int x7), some (.int x8), some (.int x9), some (.int x10), none] [.int s0, .int s1] h Q := by
  have hT := hX9_isOdd
  unfold fX9_isOdd_b209 at e
  refine Rn.n hT 4 (pc' := 148) (L' := [some (.ref q0), some (.ref q1), none, some (.int x3), some (.int x4), some (.int (s1 + s0)), some (.int x6), some (.int x7), some (.int x8), some (.int x9), some (.int (x10 + (1 : Int32))), none]) (st' := []) rfl ?_
  exact Rn.weak (ll_s (ll_s (ll_n (ll_s (ll_s (ll_s (ll_s (ll_s (ll_s (ll_s (ll_s (ll_n ll_e)))))))))))) (hb h (s1 + s0) (x10 + (1 : Int32)) e)
def fX9_isOdd_b201 (N : Nat) (h : iv_H) (q0 : Nat) (q1 : Nat) (x3 : Int32) (x4 : Int32) (x6 : Int32) (x7 : Int32) (x8 : Int32) (x9 : Int32) (x10 : Int32) (s0 : Int32) (s1 : Int32) (s2 : Int32) (kb : iv_H → Int32 → Int32 → Option (Int32 × iv_H)) (kx : iv_H → Int32 → Option (Int32 × iv_H)) : Option (Int32 × iv_H) := (if s1 = s0 then (fX9_isOdd_b209 N h q0 q1 x3 x4 x6 x7 x8 x9 x10 (0 : Int32) s2 kb kx) else (fX9_isOdd_b209 N h q0 q1 x3 x4 x6 x7 x8 x9 x10 (1 : Int32) s2 kb kx))
set_option maxRecDepth 10000 in
set_option maxHeartbeats 4000000 in
theorem rX9_isOdd_b201 {d N : Nat} (hd : 4 ≤ d) {h : iv_H} {q0 : Nat} {q1 : Nat} {x3 : Int32} {x4 : Int32} {x6 : Int32} {x7 : Int32} {x8 : Int32} {x9 : Int32} {x10 : Int32} {s0 : Int32} {s1 : Int32} {s2 : Int32} {kb : iv_H → Int32 → Int32 → Option (Int32 × iv_H)} {kx : iv_H → Int32 → Option (Int32 × iv_H)} {r : Int32 × iv_H} {Q : Option Value → iv_H → Prop} (hb : ∀ (h : iv_H) (w5 : Int32) (w10 : Int32), kb h w5 w10 = some r → Rn d 122 (some .boolean) 148 [some (.ref q0), some (.ref q1), none, some (.int x3), some (.int x4), some (.int w5), some (.int x6), some (.int x7), some (.int x8), some (.int x9), some (.int w10), none] [] h Q) (hk : ∀ (h : iv_H) (w5 : Int32), kx h w5 = some r → Rn d 122 (some .boolean) 218 [some (.ref q0), some (.ref q1), none, some (.int x3), some (.int x4), some (.int w5), some (.int x6), some (.int x7), none, none, none, none] [] h Q) (hq : Q (some (.int r.1)) r.2) (e : fX9_isOdd_b201 N h q0 q1 x3 x4 x6 x7 x8 x9 x10 s0 s1 s2 kb kx = some r) : Rn d 122 (some .boolean) 201 [some (.ref q0), some (.ref q1), none, some (.int x3), some (.int x4), none, some (.int x6), some (.int x7), some (.int x8), some (.int x9), some (.int x10), none] [.int s0, .int s1, .int s2] h Q := by
  have hT := hX9_isOdd
  unfold fX9_isOdd_b201 at e
  by_cases c_3341 : s1 = s0
  · rw [if_pos c_3341] at e
    refine Rn.bt hT rfl rfl rfl (decide_eq_true c_3341) ?_
    refine Rn.n hT 1 (pc' := 209) (L' := [some (.ref q0), some (.ref q1), none, some (.int x3), some (.int x4), none, some (.int x6), some (.int x7), some (.int x8), some (.int x9), some (.int x10), none]) (st' := [.int (0 : Int32), .int s2]) rfl ?_
    exact Rn.weak (ll_s (ll_s (ll_n (ll_s (ll_s (ll_n (ll_s (ll_s (ll_s (ll_s (ll_s (ll_n ll_e)))))))))))) (rX9_isOdd_b209 hd hb hk hq e)
  · rw [if_neg c_3341] at e
    refine Rn.bf hT rfl rfl rfl (decide_eq_false c_3341) ?_
    refine Rn.n hT 2 (pc' := 209) (L' := [some (.ref q0), some (.ref q1), none, some (.int x3), some (.int x4), none, some (.int x6), some (.int x7), some (.int x8), some (.int x9), some (.int x10), none]) (st' := [.int (1 : Int32), .int s2]) rfl ?_
    exact Rn.weak (ll_s (ll_s (ll_n (ll_s (ll_s (ll_n (ll_s (ll_s (ll_s (ll_s (ll_s (ll_n ll_e)))))))))))) (rX9_isOdd_b209 hd hb hk hq e)
def fX9_isOdd_b175 (N : Nat) (h : iv_H) (q0 : Nat) (q1 : Nat) (x3 : Int32) (x4 : Int32) (x5 : Int32) (x6 : Int32) (x7 : Int32) (x8 : Int32) (x9 : Int32) (x10 : Int32) (s0 : Int32) (kb : iv_H → Int32 → Int32 → Option (Int32 × iv_H)) (kx : iv_H → Int32 → Option (Int32 × iv_H)) : Option (Int32 × iv_H) := ((gR h 9 7 q0).bind fun v_3334 => ((gR h 1 5 v_3334).bind fun v_3336 => ((aI h v_3336 x10).bind fun v_3338 => (if v_3338 ≤ x9 then (fX9_isOdd_b201 N h q0 q1 x3 x4 x6 x7 x8 x9 x10 (0 : Int32) s0 x5 kb kx) else (fX9_isOdd_b201 N h q0 q1 x3 x4 x6 x7 x8 x9 x10 (1 : Int32) s0 x5 kb kx)))))
set_option maxRecDepth 10000 in
set_option maxHeartbeats 4000000 in
theorem rX9_isOdd_b175 {d N : Nat} (hd : 4 ≤ d) {h : iv_H} {q0 : Nat} {q1 : Nat} {x3 : Int32} {x4 : Int32} {x5 : Int32} {x6 : Int32} {x7 : Int32} {x8 : Int32} {x9 : Int32} {x10 : Int32} {s0 : Int32} {kb : iv_H → Int32 → Int32 → Option (Int32 × iv_H)} {kx : iv_H → Int32 → Option (Int32 × iv_H)} {r : Int32 × iv_H} {Q : Option Value → iv_H → Prop} (hb : ∀ (h : iv_H) (w5 : Int32) (w10 : Int32), kb h w5 w10 = some r → Rn d 122 (some .boolean) 148 [some (.ref q0), some (.ref q1), none, some (.int x3), some (.int x4), some (.int w5), some (.int x6), some (.int x7), some (.int x8), some (.int x9), some (.int w10), none] [] h Q) (hk : ∀ (h : iv_H) (w5 : Int32), kx h w5 = some r → Rn d 122 (some .boolean) 218 [some (.ref q0), some (.ref q1), none, some (.int x3), some (.int x4), some (.int w5), some (.int x6), some (.int x7), none, none, none, none] [] h Q) (hq : Q (some (.int r.1)) r.2) (e : fX9_isOdd_b175 N h q0 q1 x3 x4 x5 x6 x7 x8 x9 x10 s0 kb kx = some r) : Rn d 122 (some .boolean) 175 [some (.ref q0), some (.ref q1), none, some (.int x3), some (.int x4), some (.int x5), some (.int x6), some (.int x7), some (.int x8), some (.int x9), some (.int x10), none] [.int s0] h Q := by
  have hT := hX9_isOdd
  unfold fX9_isOdd_b175 at e
  refine Rn.n hT 5 (pc' := 184) (L' := [some (.ref q0), some (.ref q1), none, some (.int x3), some (.int x4), some (.int x5), some (.int x6), some (.int x7), some (.int x8), some (.int x9), some (.int x10), some (.int s0)]) (st' := [.ref q0, .int x9, .int s0, .int x5]) rfl ?_
  obtain ⟨v_3334, e_3335, e⟩ := Option.bind_eq_some_iff.mp e
  refine Rn.hp hT rfl rfl (gR_hp e_3335) ?_
  obtain ⟨v_3336, e_3337, e⟩ := Option.bind_eq_some_iff.mp e
  refine Rn.hp hT rfl rfl (gR_hp e_3337) ?_
  refine Rn.n hT 1 (pc' := 192) (L' := [some (.ref q0), some (.ref q1), none, some (.int x3), some (.int x4), some (.int x5), some (.int x6), some (.int x7), some (.int x8), some (.int x9), some (.int x10), some (.int s0)]) (st' := [.int x10, .ref v_3336, .int x9, .int s0, .int x5]) rfl ?_
  obtain ⟨v_3338, e_3339, e⟩ := Option.bind_eq_some_iff.mp e
  refine Rn.hp hT rfl rfl (aI_hp e_3339) ?_
  by_cases c_3340 : v_3338 ≤ x9
  · rw [if_pos c_3340] at e
    refine Rn.bt hT rfl rfl rfl (decide_eq_true c_3340) ?_
    refine Rn.n hT 1 (pc' := 201) (L' := [some (.ref q0), some (.ref q1), none, some (.int x3), some (.int x4), some (.int x5), some (.int x6), some (.int x7), some (.int x8), some (.int x9), some (.int x10), some (.int s0)]) (st' := [.int (0 : Int32), .int s0, .int x5]) rfl ?_
    exact Rn.weak (ll_s (ll_s (ll_n (ll_s (ll_s (ll_n (ll_s (ll_s (ll_s (ll_s (ll_s (ll_n ll_e)))))))))))) (rX9_isOdd_b201 hd hb hk hq e)
  · rw [if_neg c_3340] at e
    refine Rn.bf hT rfl rfl rfl (decide_eq_false c_3340) ?_
    refine Rn.n hT 2 (pc' := 201) (L' := [some (.ref q0), some (.ref q1), none, some (.int x3), some (.int x4), some (.int x5), some (.int x6), some (.int x7), some (.int x8), some (.int x9), some (.int x10), some (.int s0)]) (st' := [.int (1 : Int32), .int s0, .int x5]) rfl ?_
    exact Rn.weak (ll_s (ll_s (ll_n (ll_s (ll_s (ll_n (ll_s (ll_s (ll_s (ll_s (ll_s (ll_n ll_e)))))))))))) (rX9_isOdd_b201 hd hb hk hq e)
def fX9_isOdd_l148 (N : Nat) (q0 : Nat) (q1 : Nat) (x3 : Int32) (x4 : Int32) (x6 : Int32) (x7 : Int32) (x8 : Int32) (x9 : Int32) (kx : iv_H → Int32 → Option (Int32 × iv_H)) : Nat → iv_H → Int32 → Int32 → Option (Int32 × iv_H)
  | 0, _, _, _ => none
  | n + 1, h, x5, x10 => (if x7 ≤ x10 then (kx h x5) else ((gR h 2 9 q1).bind fun v_3327 => ((gR h 1 5 v_3327).bind fun v_3329 => ((aI h v_3329 x10).bind fun v_3331 => (if v_3331 ≤ x8 then (fX9_isOdd_b175 N h q0 q1 x3 x4 x5 x6 x7 x8 x9 x10 (0 : Int32) (fX9_isOdd_l148 N q0 q1 x3 x4 x6 x7 x8 x9 kx n) kx) else (fX9_isOdd_b175 N h q0 q1 x3 x4 x5 x6 x7 x8 x9 x10 (1 : Int32) (fX9_isOdd_l148 N q0 q1 x3 x4 x6 x7 x8 x9 kx n) kx))))))
set_option maxRecDepth 10000 in
set_option maxHeartbeats 4000000 in
theorem rX9_isOdd_l148 {d N : Nat} (hd : 4 ≤ d) {q0 : Nat} {q1 : Nat} {x3 : Int32} {x4 : Int32} {x6 : Int32} {x7 : Int32} {x8 : Int32} {x9 : Int32} {kx : iv_H → Int32 → Option (Int32 × iv_H)} {r : Int32 × iv_H} {Q : Option Value → iv_H → Prop} (hk : ∀ (h : iv_H) (x5 : Int32), kx h x5 = some r → Rn d 122 (some .boolean) 218 [some (.ref q0), some (.ref q1), none, some (.int x3), some (.int x4), some (.int x5), some (.int x6), some (.int x7), none, none, none, none] [] h Q) (hq : Q (some (.int r.1)) r.2) : ∀ (n : Nat) (h : iv_H) (x5 : Int32) (x10 : Int32), fX9_isOdd_l148 N q0 q1 x3 x4 x6 x7 x8 x9 kx n h x5 x10 = some r → Rn d 122 (some .boolean) 148 [some (.ref q0), some (.ref q1), none, some (.int x3), some (.int x4), some (.int x5), some (.int x6), some (.int x7), some (.int x8), some (.int x9), some (.int x10), none] [] h Q := by
  have hT := hX9_isOdd
  intro n
  induction n with
  | zero =>
    intro h x5 x10 e
    rw [fX9_isOdd_l148] at e
    cases e
  | succ n ih =>
    intro h x5 x10 e
    rw [fX9_isOdd_l148] at e
    refine Rn.n hT 2 (pc' := 152) (L' := [some (.ref q0), some (.ref q1), none, some (.int x3), some (.int x4), some (.int x5), some (.int x6), some (.int x7), some (.int x8), some (.int x9), some (.int x10), none]) (st' := [.int x7, .int x10]) rfl ?_
    by_cases c_3326 : x7 ≤ x10
    · rw [if_pos c_3326] at e
      refine Rn.bt hT rfl rfl rfl (decide_eq_true c_3326) ?_
      exact Rn.weak (ll_s (ll_s (ll_n (ll_s (ll_s (ll_s (ll_s (ll_s (ll_n (ll_n (ll_n (ll_n ll_e)))))))))))) (hk h x5 e)
    · rw [if_neg c_3326] at e
      refine Rn.bf hT rfl rfl rfl (decide_eq_false c_3326) ?_
      refine Rn.n hT 2 (pc' := 158) (L' := [some (.ref q0), some (.ref q1), none, some (.int x3), some (.int x4), some (.int x5), some (.int x6), some (.int x7), some (.int x8), some (.int x9), some (.int x10), none]) (st' := [.ref q1, .int x8]) rfl ?_
      obtain ⟨v_3327, e_3328, e⟩ := Option.bind_eq_some_iff.mp e
      refine Rn.hp hT rfl rfl (gR_hp e_3328) ?_
      obtain ⟨v_3329, e_3330, e⟩ := Option.bind_eq_some_iff.mp e
      refine Rn.hp hT rfl rfl (gR_hp e_3330) ?_
      refine Rn.n hT 1 (pc' := 166) (L' := [some (.ref q0), some (.ref q1), none, some (.int x3), some (.int x4), some (.int x5), some (.int x6), some (.int x7), some (.int x8), some (.int x9), some (.int x10), none]) (st' := [.int x10, .ref v_3329, .int x8]) rfl ?_
      obtain ⟨v_3331, e_3332, e⟩ := Option.bind_eq_some_iff.mp e
      refine Rn.hp hT rfl rfl (aI_hp e_3332) ?_
      by_cases c_3333 : v_3331 ≤ x8
      · rw [if_pos c_3333] at e
        refine Rn.bt hT rfl rfl rfl (decide_eq_true c_3333) ?_
        refine Rn.n hT 1 (pc' := 175) (L' := [some (.ref q0), some (.ref q1), none, some (.int x3), some (.int x4), some (.int x5), some (.int x6), some (.int x7), some (.int x8), some (.int x9), some (.int x10), none]) (st' := [.int (0 : Int32)]) rfl ?_
        exact Rn.weak (ll_s (ll_s (ll_n (ll_s (ll_s (ll_s (ll_s (ll_s (ll_s (ll_s (ll_s (ll_n ll_e)))))))))))) (rX9_isOdd_b175 hd ih hk hq e)
      · rw [if_neg c_3333] at e
        refine Rn.bf hT rfl rfl rfl (decide_eq_false c_3333) ?_
        refine Rn.n hT 2 (pc' := 175) (L' := [some (.ref q0), some (.ref q1), none, some (.int x3), some (.int x4), some (.int x5), some (.int x6), some (.int x7), some (.int x8), some (.int x9), some (.int x10), none]) (st' := [.int (1 : Int32)]) rfl ?_
        exact Rn.weak (ll_s (ll_s (ll_n (ll_s (ll_s (ll_s (ll_s (ll_s (ll_s (ll_s (ll_s (ll_n ll_e)))))))))))) (rX9_isOdd_b175 hd ih hk hq e)
def fX9_isOdd_b142 (N : Nat) (h : iv_H) (q0 : Nat) (q1 : Nat) (x3 : Int32) (x4 : Int32) (x6 : Int32) (x7 : Int32) (x8 : Int32) (x9 : Int32) (s0 : Int32) (s1 : Int32) (kb : iv_H → Int32 → Int32 → Option (Int32 × iv_H)) (kx : iv_H → Int32 → Option (Int32 × iv_H)) : Option (Int32 × iv_H) := (fX9_isOdd_l148 N q0 q1 x3 x4 x6 x7 x8 x9 (fun (h_3324 : iv_H) (z_3325 : Int32) => (kb h_3324 z_3325 (x7 + (1 : Int32)))) N h (s1 + s0) (0 : Int32))
set_option maxRecDepth 10000 in
set_option maxHeartbeats 4000000 in
theorem rX9_isOdd_b142 {d N : Nat} (hd : 4 ≤ d) {h : iv_H} {q0 : Nat} {q1 : Nat} {x3 : Int32} {x4 : Int32} {x6 : Int32} {x7 : Int32} {x8 : Int32} {x9 : Int32} {s0 : Int32} {s1 : Int32} {kb : iv_H → Int32 → Int32 → Option (Int32 × iv_H)} {kx : iv_H → Int32 → Option (Int32 × iv_H)} {r : Int32 × iv_H} {Q : Option Value → iv_H → Prop} (hb : ∀ (h : iv_H) (w5 : Int32) (w7 : Int32), kb h w5 w7 = some r → Rn d 122 (some .boolean) 78 [some (.ref q0), some (.ref q1), none, some (.int x3), some (.int x4), some (.int w5), some (.int x6), some (.int w7), none, none, none, none] [] h Q) (hk : ∀ (h : iv_H) (w5 : Int32), kx h w5 = some r → Rn d 122 (some .boolean) 224 [none, none, none, none, none, some (.int w5), none, none, none, none, none, none] [] h Q) (hq : Q (some (.int r.1)) r.2) (e : fX9_isOdd_b142 N h q0 q1 x3 x4 x6 x7 x8 x9 s0 s1 kb kx = some r) : Rn d 122 (some .boolean) 142 [some (.ref q0), some (.ref q1), none, some (.int x3), some (.int x4), none, some (.int x6), some (.int x7), some (.int x8), some (.int x9), none, none] [.int s0, .int s1] h Q := by
  have hT := hX9_isOdd
  unfold fX9_isOdd_b142 at e
  refine Rn.n hT 4 (pc' := 148) (L' := [some (.ref q0), some (.ref q1), none, some (.int x3), some (.int x4), some (.int (s1 + s0)), some (.int x6), some (.int x7), some (.int x8), some (.int x9), some (.int (0 : Int32)), none]) (st' := []) rfl ?_
  refine Rn.weak (ll_s (ll_s (ll_n (ll_s (ll_s (ll_s (ll_s (ll_s (ll_s (ll_s (ll_s (ll_n ll_e)))))))))))) (rX9_isOdd_l148 hd (fun h_3324 z_3325 e => ?_) hq N h (s1 + s0) (0 : Int32) e)
  try dsimp only at e
  refine Rn.n hT 2 (pc' := 78) (L' := [some (.ref q0), some (.ref q1), none, some (.int x3), some (.int x4), some (.int z_3325), some (.int x6), some (.int (x7 + (1 : Int32))), none, none, none, none]) (st' := []) rfl ?_
  exact Rn.weak (ll_s (ll_s (ll_n (ll_s (ll_s (ll_s (ll_s (ll_s (ll_n (ll_n (ll_n (ll_n ll_e)))))))))))) (hb h_3324 z_3325 (x7 + (1 : Int32)) e)
def fX9_isOdd_b134 (N : Nat) (h : iv_H) (q0 : Nat) (q1 : Nat) (x3 : Int32) (x4 : Int32) (x6 : Int32) (x7 : Int32) (x8 : Int32) (x9 : Int32) (s0 : Int32) (s1 : Int32) (s2 : Int32) (kb : iv_H → Int32 → Int32 → Option (Int32 × iv_H)) (kx : iv_H → Int32 → Option (Int32 × iv_H)) : Option (Int32 × iv_H) := (if s1 = s0 then (fX9_isOdd_b142 N h q0 q1 x3 x4 x6 x7 x8 x9 (0 : Int32) s2 kb kx) else (fX9_isOdd_b142 N h q0 q1 x3 x4 x6 x7 x8 x9 (1 : Int32) s2 kb kx))
set_option maxRecDepth 10000 in
set_option maxHeartbeats 4000000 in
theorem rX9_isOdd_b134 {d N : Nat} (hd : 4 ≤ d) {h : iv_H} {q0 : Nat} {q1 : Nat} {x3 : Int32} {x4 : Int32} {x6 : Int32} {x7 : Int32} {x8 : Int32} {x9 : Int32} {s0 : Int32} {s1 : Int32} {s2 : Int32} {kb : iv_H → Int32 → Int32 → Option (Int32 × iv_H)} {kx : iv_H → Int32 → Option (Int32 × iv_H)} {r : Int32 × iv_H} {Q : Option Value → iv_H → Prop} (hb : ∀ (h : iv_H) (w5 : Int32) (w7 : Int32), kb h w5 w7 = some r → Rn d 122 (some .boolean) 78 [some (.ref q0), some (.ref q1), none, some (.int x3), some (.int x4), some (.int w5), some (.int x6), some (.int w7), none, none, none, none] [] h Q) (hk : ∀ (h : iv_H) (w5 : Int32), kx h w5 = some r → Rn d 122 (some .boolean) 224 [none, none, none, none, none, some (.int w5), none, none, none, none, none, none] [] h Q) (hq : Q (some (.int r.1)) r.2) (e : fX9_isOdd_b134 N h q0 q1 x3 x4 x6 x7 x8 x9 s0 s1 s2 kb kx = some r) : Rn d 122 (some .boolean) 134 [some (.ref q0), some (.ref q1), none, some (.int x3), some (.int x4), none, some (.int x6), some (.int x7), some (.int x8), some (.int x9), none, none] [.int s0, .int s1, .int s2] h Q := by
  have hT := hX9_isOdd
  unfold fX9_isOdd_b134 at e
  by_cases c_3323 : s1 = s0
  · rw [if_pos c_3323] at e
    refine Rn.bt hT rfl rfl rfl (decide_eq_true c_3323) ?_
    refine Rn.n hT 1 (pc' := 142) (L' := [some (.ref q0), some (.ref q1), none, some (.int x3), some (.int x4), none, some (.int x6), some (.int x7), some (.int x8), some (.int x9), none, none]) (st' := [.int (0 : Int32), .int s2]) rfl ?_
    exact Rn.weak (ll_s (ll_s (ll_n (ll_s (ll_s (ll_n (ll_s (ll_s (ll_s (ll_s (ll_n (ll_n ll_e)))))))))))) (rX9_isOdd_b142 hd hb hk hq e)
  · rw [if_neg c_3323] at e
    refine Rn.bf hT rfl rfl rfl (decide_eq_false c_3323) ?_
    refine Rn.n hT 2 (pc' := 142) (L' := [some (.ref q0), some (.ref q1), none, some (.int x3), some (.int x4), none, some (.int x6), some (.int x7), some (.int x8), some (.int x9), none, none]) (st' := [.int (1 : Int32), .int s2]) rfl ?_
    exact Rn.weak (ll_s (ll_s (ll_n (ll_s (ll_s (ll_n (ll_s (ll_s (ll_s (ll_s (ll_n (ll_n ll_e)))))))))))) (rX9_isOdd_b142 hd hb hk hq e)
def fX9_isOdd_b122 (N : Nat) (h : iv_H) (q0 : Nat) (q1 : Nat) (x3 : Int32) (x4 : Int32) (x6 : Int32) (x7 : Int32) (x8 : Int32) (x9 : Int32) (s0 : Int32) (s1 : Int32) (kb : iv_H → Int32 → Int32 → Option (Int32 × iv_H)) (kx : iv_H → Int32 → Option (Int32 × iv_H)) : Option (Int32 × iv_H) := (if x4 ≤ x9 then (fX9_isOdd_b134 N h q0 q1 x3 x4 x6 x7 x8 x9 (0 : Int32) s0 s1 kb kx) else (fX9_isOdd_b134 N h q0 q1 x3 x4 x6 x7 x8 x9 (1 : Int32) s0 s1 kb kx))
set_option maxRecDepth 10000 in
set_option maxHeartbeats 4000000 in
theorem rX9_isOdd_b122 {d N : Nat} (hd : 4 ≤ d) {h : iv_H} {q0 : Nat} {q1 : Nat} {x3 : Int32} {x4 : Int32} {x6 : Int32} {x7 : Int32} {x8 : Int32} {x9 : Int32} {s0 : Int32} {s1 : Int32} {kb : iv_H → Int32 → Int32 → Option (Int32 × iv_H)} {kx : iv_H → Int32 → Option (Int32 × iv_H)} {r : Int32 × iv_H} {Q : Option Value → iv_H → Prop} (hb : ∀ (h : iv_H) (w5 : Int32) (w7 : Int32), kb h w5 w7 = some r → Rn d 122 (some .boolean) 78 [some (.ref q0), some (.ref q1), none, some (.int x3), some (.int x4), some (.int w5), some (.int x6), some (.int w7), none, none, none, none] [] h Q) (hk : ∀ (h : iv_H) (w5 : Int32), kx h w5 = some r → Rn d 122 (some .boolean) 224 [none, none, none, none, none, some (.int w5), none, none, none, none, none, none] [] h Q) (hq : Q (some (.int r.1)) r.2) (e : fX9_isOdd_b122 N h q0 q1 x3 x4 x6 x7 x8 x9 s0 s1 kb kx = some r) : Rn d 122 (some .boolean) 122 [some (.ref q0), some (.ref q1), none, some (.int x3), some (.int x4), none, some (.int x6), some (.int x7), some (.int x8), some (.int x9), none, none] [.int s0, .int s1] h Q := by
  have hT := hX9_isOdd
  unfold fX9_isOdd_b122 at e
  refine Rn.n hT 2 (pc' := 126) (L' := [some (.ref q0), some (.ref q1), none, some (.int x3), some (.int x4), none, some (.int x6), some (.int x7), some (.int x8), some (.int x9), none, none]) (st' := [.int x4, .int x9, .int s0, .int s1]) rfl ?_
  by_cases c_3322 : x4 ≤ x9
  · rw [if_pos c_3322] at e
    refine Rn.bt hT rfl rfl rfl (decide_eq_true c_3322) ?_
    refine Rn.n hT 1 (pc' := 134) (L' := [some (.ref q0), some (.ref q1), none, some (.int x3), some (.int x4), none, some (.int x6), some (.int x7), some (.int x8), some (.int x9), none, none]) (st' := [.int (0 : Int32), .int s0, .int s1]) rfl ?_
    exact Rn.weak (ll_s (ll_s (ll_n (ll_s (ll_s (ll_n (ll_s (ll_s (ll_s (ll_s (ll_n (ll_n ll_e)))))))))))) (rX9_isOdd_b134 hd hb hk hq e)
  · rw [if_neg c_3322] at e
    refine Rn.bf hT rfl rfl rfl (decide_eq_false c_3322) ?_
    refine Rn.n hT 2 (pc' := 134) (L' := [some (.ref q0), some (.ref q1), none, some (.int x3), some (.int x4), none, some (.int x6), some (.int x7), some (.int x8), some (.int x9), none, none]) (st' := [.int (1 : Int32), .int s0, .int s1]) rfl ?_
    exact Rn.weak (ll_s (ll_s (ll_n (ll_s (ll_s (ll_n (ll_s (ll_s (ll_s (ll_s (ll_n (ll_n ll_e)))))))))))) (rX9_isOdd_b134 hd hb hk hq e)
def fX9_isOdd_l78 (N : Nat) (q0 : Nat) (q1 : Nat) (x3 : Int32) (x4 : Int32) (x6 : Int32) (kx : iv_H → Int32 → Option (Int32 × iv_H)) : Nat → iv_H → Int32 → Int32 → Option (Int32 × iv_H)
  | 0, _, _, _ => none
  | n + 1, h, x5, x7 => (if x6 ≤ x7 then (kx h x5) else ((gR h 2 9 q1).bind fun v_3309 => ((gR h 1 5 v_3309).bind fun v_3311 => ((aI h v_3311 x7).bind fun v_3313 => ((gR h 9 7 q0).bind fun v_3315 => ((gR h 1 5 v_3315).bind fun v_3317 => ((aI h v_3317 x7).bind fun v_3319 => (if x3 ≤ v_3313 then (fX9_isOdd_b122 N h q0 q1 x3 x4 x6 x7 v_3313 v_3319 (0 : Int32) x5 (fX9_isOdd_l78 N q0 q1 x3 x4 x6 kx n) kx) else (fX9_isOdd_b122 N h q0 q1 x3 x4 x6 x7 v_3313 v_3319 (1 : Int32) x5 (fX9_isOdd_l78 N q0 q1 x3 x4 x6 kx n) kx)))))))))
set_option maxRecDepth 10000 in
set_option maxHeartbeats 4000000 in
theorem rX9_isOdd_l78 {d N : Nat} (hd : 4 ≤ d) {q0 : Nat} {q1 : Nat} {x3 : Int32} {x4 : Int32} {x6 : Int32} {kx : iv_H → Int32 → Option (Int32 × iv_H)} {r : Int32 × iv_H} {Q : Option Value → iv_H → Prop} (hk : ∀ (h : iv_H) (x5 : Int32), kx h x5 = some r → Rn d 122 (some .boolean) 224 [none, none, none, none, none, some (.int x5), none, none, none, none, none, none] [] h Q) (hq : Q (some (.int r.1)) r.2) : ∀ (n : Nat) (h : iv_H) (x5 : Int32) (x7 : Int32), fX9_isOdd_l78 N q0 q1 x3 x4 x6 kx n h x5 x7 = some r → Rn d 122 (some .boolean) 78 [some (.ref q0), some (.ref q1), none, some (.int x3), some (.int x4), some (.int x5), some (.int x6), some (.int x7), none, none, none, none] [] h Q := by
  have hT := hX9_isOdd
  intro n
  induction n with
  | zero =>
    intro h x5 x7 e
    rw [fX9_isOdd_l78] at e
    cases e
  | succ n ih =>
    intro h x5 x7 e
    rw [fX9_isOdd_l78] at e
    refine Rn.n hT 2 (pc' := 82) (L' := [some (.ref q0), some (.ref q1), none, some (.int x3), some (.int x4), some (.int x5), some (.int x6), some (.int x7), none, none, none, none]) (st' := [.int x6, .int x7]) rfl ?_
    by_cases c_3308 : x6 ≤ x7
    · rw [if_pos c_3308] at e
      refine Rn.bt hT rfl rfl rfl (decide_eq_true c_3308) ?_
      exact Rn.weak (ll_n (ll_n (ll_n (ll_n (ll_n (ll_s (ll_n (ll_n (ll_n (ll_n (ll_n (ll_n ll_e)))))))))))) (hk h x5 e)
    · rw [if_neg c_3308] at e
      refine Rn.bf hT rfl rfl rfl (decide_eq_false c_3308) ?_
      refine Rn.n hT 1 (pc' := 86) (L' := [some (.ref q0), some (.ref q1), none, some (.int x3), some (.int x4), some (.int x5), some (.int x6), some (.int x7), none, none, none, none]) (st' := [.ref q1]) rfl ?_
      obtain ⟨v_3309, e_3310, e⟩ := Option.bind_eq_some_iff.mp e
      refine Rn.hp hT rfl rfl (gR_hp e_3310) ?_
      obtain ⟨v_3311, e_3312, e⟩ := Option.bind_eq_some_iff.mp e
      refine Rn.hp hT rfl rfl (gR_hp e_3312) ?_
      refine Rn.n hT 1 (pc' := 94) (L' := [some (.ref q0), some (.ref q1), none, some (.int x3), some (.int x4), some (.int x5), some (.int x6), some (.int x7), none, none, none, none]) (st' := [.int x7, .ref v_3311]) rfl ?_
      obtain ⟨v_3313, e_3314, e⟩ := Option.bind_eq_some_iff.mp e
      refine Rn.hp hT rfl rfl (aI_hp e_3314) ?_
      refine Rn.n hT 2 (pc' := 98) (L' := [some (.ref q0), some (.ref q1), none, some (.int x3), some (.int x4), some (.int x5), some (.int x6), some (.int x7), some (.int v_3313), none, none, none]) (st' := [.ref q0]) rfl ?_
      obtain ⟨v_3315, e_3316, e⟩ := Option.bind_eq_some_iff.mp e
      refine Rn.hp hT rfl rfl (gR_hp e_3316) ?_
      obtain ⟨v_3317, e_3318, e⟩ := Option.bind_eq_some_iff.mp e
      refine Rn.hp hT rfl rfl (gR_hp e_3318) ?_
      refine Rn.n hT 1 (pc' := 106) (L' := [some (.ref q0), some (.ref q1), none, some (.int x3), some (.int x4), some (.int x5), some (.int x6), some (.int x7), some (.int v_3313), none, none, none]) (st' := [.int x7, .ref v_3317]) rfl ?_
      obtain ⟨v_3319, e_3320, e⟩ := Option.bind_eq_some_iff.mp e
      refine Rn.hp hT rfl rfl (aI_hp e_3320) ?_
      refine Rn.n hT 4 (pc' := 114) (L' := [some (.ref q0), some (.ref q1), none, some (.int x3), some (.int x4), some (.int x5), some (.int x6), some (.int x7), some (.int v_3313), some (.int v_3319), none, none]) (st' := [.int x3, .int v_3313, .int x5]) rfl ?_
      by_cases c_3321 : x3 ≤ v_3313
      · rw [if_pos c_3321] at e
        refine Rn.bt hT rfl rfl rfl (decide_eq_true c_3321) ?_
        refine Rn.n hT 1 (pc' := 122) (L' := [some (.ref q0), some (.ref q1), none, some (.int x3), some (.int x4), some (.int x5), some (.int x6), some (.int x7), some (.int v_3313), some (.int v_3319), none, none]) (st' := [.int (0 : Int32), .int x5]) rfl ?_
        exact Rn.weak (ll_s (ll_s (ll_n (ll_s (ll_s (ll_n (ll_s (ll_s (ll_s (ll_s (ll_n (ll_n ll_e)))))))))))) (rX9_isOdd_b122 hd ih hk hq e)
      · rw [if_neg c_3321] at e
        refine Rn.bf hT rfl rfl rfl (decide_eq_false c_3321) ?_
        refine Rn.n hT 2 (pc' := 122) (L' := [some (.ref q0), some (.ref q1), none, some (.int x3), some (.int x4), some (.int x5), some (.int x6), some (.int x7), some (.int v_3313), some (.int v_3319), none, none]) (st' := [.int (1 : Int32), .int x5]) rfl ?_
        exact Rn.weak (ll_s (ll_s (ll_n (ll_s (ll_s (ll_n (ll_s (ll_s (ll_s (ll_s (ll_n (ll_n ll_e)))))))))))) (rX9_isOdd_b122 hd ih hk hq e)
def fX9_isOdd_b237 (N : Nat) (h : iv_H)  (s0 : Int32) : Option (Int32 × iv_H) := (if s0 = 0 ∨ s0 = 1 then some (s0, h) else none)
set_option maxRecDepth 10000 in
set_option maxHeartbeats 4000000 in
theorem rX9_isOdd_b237 {d N : Nat} (hd : 4 ≤ d) {h : iv_H}  {s0 : Int32} {r : Int32 × iv_H} {Q : Option Value → iv_H → Prop} (hq : Q (some (.int r.1)) r.2) (e : fX9_isOdd_b237 N h  s0 = some r) : Rn d 122 (some .boolean) 237 [none, none, none, none, none, none, none, none, none, none, none, none] [.int s0] h Q := by
  have hT := hX9_isOdd
  unfold fX9_isOdd_b237 at e
  by_cases c_3342 : s0 = 0 ∨ s0 = 1
  · rw [if_pos c_3342] at e
    obtain rfl := Option.some.inj e
    exact Rn.ret hT rfl rfl (if_pos c_3342) hq
  · rw [if_neg c_3342] at e
    cases e
def fX9_isOdd (N : Nat) (h : iv_H) (q0 : Nat) (q1 : Nat) (x2 : Int32) : Option (Int32 × iv_H) := ((gR h 9 7 q0).bind fun v_3271 => ((gR h 2 9 q1).bind fun v_3273 => ((cko h v_3271 1).bind fun _ => (fX1_copyFrom N h v_3271 v_3273).bind fun h_3278 => ((gR h_3278 9 7 q0).bind fun v_3279 => ((gR h_3278 2 14 q1).bind fun v_3281 => ((aJ h_3278 v_3281 x2).bind fun v_3283 => ((gR h_3278 2 15 q1).bind fun v_3285 => ((aI h_3278 v_3285 x2).bind fun v_3287 => ((cko h_3278 v_3279 1).bind fun _ => (fX1_arrange N h_3278 v_3279 v_3283 v_3287).bind fun h_3292 => ((gR h_3292 2 9 q1).bind fun v_3293 => ((fX9_emptyCell N h_3292 v_3293).bind fun v_3296 => ((gR h_3292 9 7 q0).bind fun v_3297 => ((fX9_emptyCell N h_3292 v_3297).bind fun v_3300 => ((gR h_3292 2 9 q1).bind fun v_3301 => ((gI h_3292 1 2 v_3301).bind fun v_3303 => (fX9_isOdd_l78 N q0 q1 v_3296 v_3300 v_3303 (fun (h_3305 : iv_H) (z_3306 : Int32) => (if (z_3306 &&& (1 : Int32)) = (1 : Int32) then (fX9_isOdd_b237 N h_3305 (1 : Int32)) else (fX9_isOdd_b237 N h_3305 (0 : Int32)))) N h_3292 ((((v_3296 &&& (3 : Int32)) + (v_3296 >>> ((2 : Int32) &&& 31))) + (v_3300 &&& (3 : Int32))) + (v_3300 >>> ((2 : Int32) &&& 31))) (0 : Int32)))))))))))))))))
set_option maxRecDepth 10000 in
set_option maxHeartbeats 4000000 in
theorem rX9_isOdd {d N : Nat} (hd : 5 ≤ d) {h : iv_H} {q0 : Nat} {q1 : Nat} {x2 : Int32} {r : Int32 × iv_H} {Q : Option Value → iv_H → Prop} (e : fX9_isOdd N h q0 q1 x2 = some r) (hq : Q (some (.int r.1)) r.2) : Cl d 122 [.ref q0, .ref q1, .int x2] h Q := by
  obtain ⟨d, rfl⟩ : ∃ k, d = k + 1 := ⟨d - 1, by omega⟩
  have hd : 4 ≤ d := by omega
  have hT := hX9_isOdd
  unfold fX9_isOdd at e
  refine Cl.into (by decide) gX9_isOdd rfl ?_
  show Rn d 122 (some .boolean) 0 [some (.ref q0), some (.ref q1), some (.int x2), none, none, none, none, none, none, none, none, none] [] h Q
  refine Rn.n hT 1 (pc' := 1) (L' := [some (.ref q0), some (.ref q1), some (.int x2), none, none, none, none, none, none, none, none, none]) (st' := [.ref q0]) rfl ?_
  obtain ⟨v_3271, e_3272, e⟩ := Option.bind_eq_some_iff.mp e
  refine Rn.hp hT rfl rfl (gR_hp e_3272) ?_
  refine Rn.n hT 1 (pc' := 5) (L' := [some (.ref q0), some (.ref q1), some (.int x2), none, none, none, none, none, none, none, none, none]) (st' := [.ref q1, .ref v_3271]) rfl ?_
  obtain ⟨v_3273, e_3274, e⟩ := Option.bind_eq_some_iff.mp e
  refine Rn.hp hT rfl rfl (gR_hp e_3274) ?_
  obtain ⟨_, e_3276, e⟩ := Option.bind_eq_some_iff.mp e
  obtain ⟨h_3278, e_3275, e⟩ := Option.bind_eq_some_iff.mp e
  refine Rn.call hT rfl rfl rfl (Nat.le_of_ble_eq_true rfl) (rcv_v gX1_copyFrom (by omega) e_3276) (rX1_copyFrom (by omega) e_3275 ?_)
  show Rn d _ _ 11 [some (.ref q0), some (.ref q1), some (.int x2), none, none, none, none, none, none, none, none, none] [] h_3278 Q
  refine Rn.n hT 1 (pc' := 12) (L' := [some (.ref q0), some (.ref q1), some (.int x2), none, none, none, none, none, none, none, none, none]) (st' := [.ref q0]) rfl ?_
  obtain ⟨v_3279, e_3280, e⟩ := Option.bind_eq_some_iff.mp e
  refine Rn.hp hT rfl rfl (gR_hp e_3280) ?_
  refine Rn.n hT 1 (pc' := 16) (L' := [some (.ref q0), some (.ref q1), some (.int x2), none, none, none, none, none, none, none, none, none]) (st' := [.ref q1, .ref v_3279]) rfl ?_
  obtain ⟨v_3281, e_3282, e⟩ := Option.bind_eq_some_iff.mp e
  refine Rn.hp hT rfl rfl (gR_hp e_3282) ?_
  refine Rn.n hT 1 (pc' := 20) (L' := [some (.ref q0), some (.ref q1), some (.int x2), none, none, none, none, none, none, none, none, none]) (st' := [.int x2, .ref v_3281, .ref v_3279]) rfl ?_
  obtain ⟨v_3283, e_3284, e⟩ := Option.bind_eq_some_iff.mp e
  refine Rn.hp hT rfl rfl (aJ_hp e_3284) ?_
  refine Rn.n hT 1 (pc' := 22) (L' := [some (.ref q0), some (.ref q1), some (.int x2), none, none, none, none, none, none, none, none, none]) (st' := [.ref q1, .long v_3283, .ref v_3279]) rfl ?_
  obtain ⟨v_3285, e_3286, e⟩ := Option.bind_eq_some_iff.mp e
  refine Rn.hp hT rfl rfl (gR_hp e_3286) ?_
  refine Rn.n hT 1 (pc' := 26) (L' := [some (.ref q0), some (.ref q1), some (.int x2), none, none, none, none, none, none, none, none, none]) (st' := [.int x2, .ref v_3285, .long v_3283, .ref v_3279]) rfl ?_
  obtain ⟨v_3287, e_3288, e⟩ := Option.bind_eq_some_iff.mp e
  refine Rn.hp hT rfl rfl (aI_hp e_3288) ?_
  obtain ⟨_, e_3290, e⟩ := Option.bind_eq_some_iff.mp e
  obtain ⟨h_3292, e_3289, e⟩ := Option.bind_eq_some_iff.mp e
  refine Rn.call hT rfl rfl rfl (Nat.le_of_ble_eq_true rfl) (rcv_v gX1_arrange (by omega) e_3290) (rX1_arrange (by omega) e_3289 ?_)
  show Rn d _ _ 30 [some (.ref q0), some (.ref q1), some (.int x2), none, none, none, none, none, none, none, none, none] [] h_3292 Q
  refine Rn.n hT 1 (pc' := 31) (L' := [some (.ref q0), some (.ref q1), some (.int x2), none, none, none, none, none, none, none, none, none]) (st' := [.ref q1]) rfl ?_
  obtain ⟨v_3293, e_3294, e⟩ := Option.bind_eq_some_iff.mp e
  refine Rn.hp hT rfl rfl (gR_hp e_3294) ?_
  obtain ⟨v_3296, e_3295, e⟩ := Option.bind_eq_some_iff.mp e
  refine Rn.call hT rfl rfl rfl (Nat.le_of_ble_eq_true rfl) rfl (rX9_emptyCell (by omega) e_3295 ?_)
  show Rn d _ _ 37 [some (.ref q0), some (.ref q1), some (.int x2), none, none, none, none, none, none, none, none, none] [.int v_3296] h_3292 Q
  refine Rn.n hT 2 (pc' := 39) (L' := [some (.ref q0), some (.ref q1), some (.int x2), some (.int v_3296), none, none, none, none, none, none, none, none]) (st' := [.ref q0]) rfl ?_
  obtain ⟨v_3297, e_3298, e⟩ := Option.bind_eq_some_iff.mp e
  refine Rn.hp hT rfl rfl (gR_hp e_3298) ?_
  obtain ⟨v_3300, e_3299, e⟩ := Option.bind_eq_some_iff.mp e
  refine Rn.call hT rfl rfl rfl (Nat.le_of_ble_eq_true rfl) rfl (rX9_emptyCell (by omega) e_3299 ?_)
  show Rn d _ _ 45 [some (.ref q0), some (.ref q1), some (.int x2), some (.int v_3296), none, none, none, none, none, none, none, none] [.int v_3300] h_3292 Q
  refine Rn.n hT 18 (pc' := 67) (L' := [some (.ref q0), some (.ref q1), some (.int x2), some (.int v_3296), some (.int v_3300), some (.int ((((v_3296 &&& (3 : Int32)) + (v_3296 >>> ((2 : Int32) &&& 31))) + (v_3300 &&& (3 : Int32))) + (v_3300 >>> ((2 : Int32) &&& 31)))), none, none, none, none, none, none]) (st' := [.ref q1]) rfl ?_
  obtain ⟨v_3301, e_3302, e⟩ := Option.bind_eq_some_iff.mp e
  refine Rn.hp hT rfl rfl (gR_hp e_3302) ?_
  obtain ⟨v_3303, e_3304, e⟩ := Option.bind_eq_some_iff.mp e
  refine Rn.hp hT rfl rfl (gI_hp e_3304) ?_
  refine Rn.n hT 3 (pc' := 78) (L' := [some (.ref q0), some (.ref q1), some (.int x2), some (.int v_3296), some (.int v_3300), some (.int ((((v_3296 &&& (3 : Int32)) + (v_3296 >>> ((2 : Int32) &&& 31))) + (v_3300 &&& (3 : Int32))) + (v_3300 >>> ((2 : Int32) &&& 31)))), some (.int v_3303), some (.int (0 : Int32)), none, none, none, none]) (st' := []) rfl ?_
  refine Rn.weak (ll_s (ll_s (ll_n (ll_s (ll_s (ll_s (ll_s (ll_s (ll_n (ll_n (ll_n (ll_n ll_e)))))))))))) (rX9_isOdd_l78 hd (fun h_3305 z_3306 e => ?_) hq N h_3292 ((((v_3296 &&& (3 : Int32)) + (v_3296 >>> ((2 : Int32) &&& 31))) + (v_3300 &&& (3 : Int32))) + (v_3300 >>> ((2 : Int32) &&& 31))) (0 : Int32) e)
  try dsimp only at e
  refine Rn.n hT 4 (pc' := 229) (L' := [none, none, none, none, none, some (.int z_3306), none, none, none, none, none, none]) (st' := [.int (1 : Int32), .int (z_3306 &&& (1 : Int32))]) rfl ?_
  by_cases c_3307 : (z_3306 &&& (1 : Int32)) = (1 : Int32)
  · rw [if_pos c_3307] at e
    refine Rn.bf hT rfl rfl rfl (decide_eq_false (fun z => z c_3307)) ?_
    refine Rn.n hT 2 (pc' := 237) (L' := [none, none, none, none, none, some (.int z_3306), none, none, none, none, none, none]) (st' := [.int (1 : Int32)]) rfl ?_
    exact Rn.weak (ll_n (ll_n (ll_n (ll_n (ll_n (ll_n (ll_n (ll_n (ll_n (ll_n (ll_n (ll_n ll_e)))))))))))) (rX9_isOdd_b237 hd hq e)
  · rw [if_neg c_3307] at e
    refine Rn.bt hT rfl rfl rfl (decide_eq_true c_3307) ?_
    refine Rn.n hT 1 (pc' := 237) (L' := [none, none, none, none, none, some (.int z_3306), none, none, none, none, none, none]) (st' := [.int (0 : Int32)]) rfl ?_
    exact Rn.weak (ll_n (ll_n (ll_n (ll_n (ll_n (ll_n (ll_n (ll_n (ll_n (ll_n (ll_n (ll_n ll_e)))))))))))) (rX9_isOdd_b237 hd hq e)
set_option maxRecDepth 10000 in
theorem hX9_marksOf : iv_Tb 121 tX9_marksOf := iv_tb_of (m := mX9_marksOf) rfl
set_option maxRecDepth 10000 in
theorem gX9_marksOf : PG.2 121 = some mX9_marksOf := iv_pi_of (t := tX9_marksOf) rfl (by decide)
def fX9_marksOf_b140 (N : Nat) (h : iv_H) (q0 : Nat) (q1 : Nat) (x2 : Int32) (x4 : Int32) (s0 : Int32) (s1 : Int32) (kb : iv_H → Int32 → Int32 → Option (Int32 × iv_H)) (kx : iv_H → Int32 → Option (Int32 × iv_H)) : Option (Int32 × iv_H) := (kb h (s1 ||| s0) (x4 + (1 : Int32)))
set_option maxRecDepth 10000 in
set_option maxHeartbeats 4000000 in
theorem rX9_marksOf_b140 {d N : Nat} (hd : 5 ≤ d) {h : iv_H} {q0 : Nat} {q1 : Nat} {x2 : Int32} {x4 : Int32} {s0 : Int32} {s1 : Int32} {kb : iv_H → Int32 → Int32 → Option (Int32 × iv_H)} {kx : iv_H → Int32 → Option (Int32 × iv_H)} {r : Int32 × iv_H} {Q : Option Value → iv_H → Prop} (hb : ∀ (h : iv_H) (w3 : Int32) (w4 : Int32), kb h w3 w4 = some r → Rn d 121 (some .int) 5 [some (.ref q0), some (.ref q1), some (.int x2), some (.int w3), some (.int w4), none, none] [] h Q) (hk : ∀ (h : iv_H) (w3 : Int32), kx h w3 = some r → Rn d 121 (some .int) 148 [some (.ref q0), some (.ref q1), some (.int x2), some (.int w3), none, none, none] [] h Q) (hq : Q (some (.int r.1)) r.2) (e : fX9_marksOf_b140 N h q0 q1 x2 x4 s0 s1 kb kx = some r) : Rn d 121 (some .int) 140 [some (.ref q0), some (.ref q1), some (.int x2), none, some (.int x4), none, none] [.int s0, .int s1] h Q := by
  have hT := hX9_marksOf
  unfold fX9_marksOf_b140 at e
  refine Rn.n hT 4 (pc' := 5) (L' := [some (.ref q0), some (.ref q1), some (.int x2), some (.int (s1 ||| s0)), some (.int (x4 + (1 : Int32))), none, none]) (st' := []) rfl ?_
  exact Rn.weak (ll_s (ll_s (ll_s (ll_s (ll_s (ll_n (ll_n ll_e))))))) (hb h (s1 ||| s0) (x4 + (1 : Int32)) e)
def fX9_marksOf_b139 (N : Nat) (h : iv_H) (q0 : Nat) (q1 : Nat) (x2 : Int32) (x4 : Int32) (s0 : Int32) (kb : iv_H → Int32 → Int32 → Option (Int32 × iv_H)) (kx : iv_H → Int32 → Option (Int32 × iv_H)) : Option (Int32 × iv_H) := (fX9_marksOf_b140 N h q0 q1 x2 x4 (0 : Int32) s0 kb kx)
set_option maxRecDepth 10000 in
set_option maxHeartbeats 4000000 in
theorem rX9_marksOf_b139 {d N : Nat} (hd : 5 ≤ d) {h : iv_H} {q0 : Nat} {q1 : Nat} {x2 : Int32} {x4 : Int32} {s0 : Int32} {kb : iv_H → Int32 → Int32 → Option (Int32 × iv_H)} {kx : iv_H → Int32 → Option (Int32 × iv_H)} {r : Int32 × iv_H} {Q : Option Value → iv_H → Prop} (hb : ∀ (h : iv_H) (w3 : Int32) (w4 : Int32), kb h w3 w4 = some r → Rn d 121 (some .int) 5 [some (.ref q0), some (.ref q1), some (.int x2), some (.int w3), some (.int w4), none, none] [] h Q) (hk : ∀ (h : iv_H) (w3 : Int32), kx h w3 = some r → Rn d 121 (some .int) 148 [some (.ref q0), some (.ref q1), some (.int x2), some (.int w3), none, none, none] [] h Q) (hq : Q (some (.int r.1)) r.2) (e : fX9_marksOf_b139 N h q0 q1 x2 x4 s0 kb kx = some r) : Rn d 121 (some .int) 139 [some (.ref q0), some (.ref q1), some (.int x2), none, some (.int x4), none, none] [.int s0] h Q := by
  have hT := hX9_marksOf
  unfold fX9_marksOf_b139 at e
  refine Rn.n hT 1 (pc' := 140) (L' := [some (.ref q0), some (.ref q1), some (.int x2), none, some (.int x4), none, none]) (st' := [.int (0 : Int32), .int s0]) rfl ?_
  exact Rn.weak (ll_s (ll_s (ll_s (ll_n (ll_s (ll_n (ll_n ll_e))))))) (rX9_marksOf_b140 hd hb hk hq e)
def fX9_marksOf_b118 (N : Nat) (h : iv_H) (q0 : Nat) (q1 : Nat) (x2 : Int32) (x4 : Int32) (x5 : Int32) (s0 : Int32) (s1 : Int32) (kb : iv_H → Int32 → Int32 → Option (Int32 × iv_H)) (kx : iv_H → Int32 → Option (Int32 × iv_H)) : Option (Int32 × iv_H) := (if x5 = 0 then (fX9_marksOf_b139 N h q0 q1 x2 x4 (s1 ||| s0) kb kx) else ((gI h 2 1 q1).bind fun v_3396 => (if (v_3396 &&& (3 : Int32)) = 0 then (fX9_marksOf_b140 N h q0 q1 x2 x4 (4 : Int32) (s1 ||| s0) kb kx) else (fX9_marksOf_b139 N h q0 q1 x2 x4 (s1 ||| s0) kb kx))))
set_option maxRecDepth 10000 in
set_option maxHeartbeats 4000000 in
theorem rX9_marksOf_b118 {d N : Nat} (hd : 5 ≤ d) {h : iv_H} {q0 : Nat} {q1 : Nat} {x2 : Int32} {x4 : Int32} {x5 : Int32} {s0 : Int32} {s1 : Int32} {kb : iv_H → Int32 → Int32 → Option (Int32 × iv_H)} {kx : iv_H → Int32 → Option (Int32 × iv_H)} {r : Int32 × iv_H} {Q : Option Value → iv_H → Prop} (hb : ∀ (h : iv_H) (w3 : Int32) (w4 : Int32), kb h w3 w4 = some r → Rn d 121 (some .int) 5 [some (.ref q0), some (.ref q1), some (.int x2), some (.int w3), some (.int w4), none, none] [] h Q) (hk : ∀ (h : iv_H) (w3 : Int32), kx h w3 = some r → Rn d 121 (some .int) 148 [some (.ref q0), some (.ref q1), some (.int x2), some (.int w3), none, none, none] [] h Q) (hq : Q (some (.int r.1)) r.2) (e : fX9_marksOf_b118 N h q0 q1 x2 x4 x5 s0 s1 kb kx = some r) : Rn d 121 (some .int) 118 [some (.ref q0), some (.ref q1), some (.int x2), none, some (.int x4), some (.int x5), none] [.int s0, .int s1] h Q := by
  have hT := hX9_marksOf
  unfold fX9_marksOf_b118 at e
  refine Rn.n hT 4 (pc' := 123) (L' := [some (.ref q0), some (.ref q1), some (.int x2), some (.int (s1 ||| s0)), some (.int x4), some (.int x5), none]) (st' := [.int x5, .int (s1 ||| s0)]) rfl ?_
  by_cases c_3395 : x5 = 0
  · rw [if_pos c_3395] at e
    refine Rn.bt hT rfl rfl rfl (decide_eq_true c_3395) ?_
    exact Rn.weak (ll_s (ll_s (ll_s (ll_n (ll_s (ll_n (ll_n ll_e))))))) (rX9_marksOf_b139 hd hb hk hq e)
  · rw [if_neg c_3395] at e
    refine Rn.bf hT rfl rfl rfl (decide_eq_false c_3395) ?_
    refine Rn.n hT 1 (pc' := 127) (L' := [some (.ref q0), some (.ref q1), some (.int x2), some (.int (s1 ||| s0)), some (.int x4), some (.int x5), none]) (st' := [.ref q1, .int (s1 ||| s0)]) rfl ?_
    obtain ⟨v_3396, e_3397, e⟩ := Option.bind_eq_some_iff.mp e
    refine Rn.hp hT rfl rfl (gI_hp e_3397) ?_
    refine Rn.n hT 2 (pc' := 132) (L' := [some (.ref q0), some (.ref q1), some (.int x2), some (.int (s1 ||| s0)), some (.int x4), some (.int x5), none]) (st' := [.int (v_3396 &&& (3 : Int32)), .int (s1 ||| s0)]) rfl ?_
    by_cases c_3398 : (v_3396 &&& (3 : Int32)) = 0
    · rw [if_pos c_3398] at e
      refine Rn.bf hT rfl rfl rfl (decide_eq_false (fun z => z c_3398)) ?_
      refine Rn.n hT 2 (pc' := 140) (L' := [some (.ref q0), some (.ref q1), some (.int x2), some (.int (s1 ||| s0)), some (.int x4), some (.int x5), none]) (st' := [.int (4 : Int32), .int (s1 ||| s0)]) rfl ?_
      exact Rn.weak (ll_s (ll_s (ll_s (ll_n (ll_s (ll_n (ll_n ll_e))))))) (rX9_marksOf_b140 hd hb hk hq e)
    · rw [if_neg c_3398] at e
      refine Rn.bt hT rfl rfl rfl (decide_eq_true c_3398) ?_
      exact Rn.weak (ll_s (ll_s (ll_s (ll_n (ll_s (ll_n (ll_n ll_e))))))) (rX9_marksOf_b139 hd hb hk hq e)
def fX9_marksOf_b117 (N : Nat) (h : iv_H) (q0 : Nat) (q1 : Nat) (x2 : Int32) (x4 : Int32) (x5 : Int32) (s0 : Int32) (kb : iv_H → Int32 → Int32 → Option (Int32 × iv_H)) (kx : iv_H → Int32 → Option (Int32 × iv_H)) : Option (Int32 × iv_H) := (fX9_marksOf_b118 N h q0 q1 x2 x4 x5 (0 : Int32) s0 kb kx)
set_option maxRecDepth 10000 in
set_option maxHeartbeats 4000000 in
theorem rX9_marksOf_b117 {d N : Nat} (hd : 5 ≤ d) {h : iv_H} {q0 : Nat} {q1 : Nat} {x2 : Int32} {x4 : Int32} {x5 : Int32} {s0 : Int32} {kb : iv_H → Int32 → Int32 → Option (Int32 × iv_H)} {kx : iv_H → Int32 → Option (Int32 × iv_H)} {r : Int32 × iv_H} {Q : Option Value → iv_H → Prop} (hb : ∀ (h : iv_H) (w3 : Int32) (w4 : Int32), kb h w3 w4 = some r → Rn d 121 (some .int) 5 [some (.ref q0), some (.ref q1), some (.int x2), some (.int w3), some (.int w4), none, none] [] h Q) (hk : ∀ (h : iv_H) (w3 : Int32), kx h w3 = some r → Rn d 121 (some .int) 148 [some (.ref q0), some (.ref q1), some (.int x2), some (.int w3), none, none, none] [] h Q) (hq : Q (some (.int r.1)) r.2) (e : fX9_marksOf_b117 N h q0 q1 x2 x4 x5 s0 kb kx = some r) : Rn d 121 (some .int) 117 [some (.ref q0), some (.ref q1), some (.int x2), none, some (.int x4), some (.int x5), none] [.int s0] h Q := by
  have hT := hX9_marksOf
  unfold fX9_marksOf_b117 at e
  refine Rn.n hT 1 (pc' := 118) (L' := [some (.ref q0), some (.ref q1), some (.int x2), none, some (.int x4), some (.int x5), none]) (st' := [.int (0 : Int32), .int s0]) rfl ?_
  exact Rn.weak (ll_s (ll_s (ll_s (ll_n (ll_s (ll_s (ll_n ll_e))))))) (rX9_marksOf_b118 hd hb hk hq e)
def fX9_marksOf_b96 (N : Nat) (h : iv_H) (q0 : Nat) (q1 : Nat) (x2 : Int32) (x4 : Int32) (x5 : Int32) (x6 : Int32) (s0 : Int32) (s1 : Int32) (kb : iv_H → Int32 → Int32 → Option (Int32 × iv_H)) (kx : iv_H → Int32 → Option (Int32 × iv_H)) : Option (Int32 × iv_H) := (if x6 = 0 then (fX9_marksOf_b117 N h q0 q1 x2 x4 x5 (s1 ||| s0) kb kx) else ((gI h 2 1 q1).bind fun v_3392 => (if (v_3392 &&& (4 : Int32)) = 0 then (fX9_marksOf_b118 N h q0 q1 x2 x4 x5 (2 : Int32) (s1 ||| s0) kb kx) else (fX9_marksOf_b117 N h q0 q1 x2 x4 x5 (s1 ||| s0) kb kx))))
set_option maxRecDepth 10000 in
set_option maxHeartbeats 4000000 in
theorem rX9_marksOf_b96 {d N : Nat} (hd : 5 ≤ d) {h : iv_H} {q0 : Nat} {q1 : Nat} {x2 : Int32} {x4 : Int32} {x5 : Int32} {x6 : Int32} {s0 : Int32} {s1 : Int32} {kb : iv_H → Int32 → Int32 → Option (Int32 × iv_H)} {kx : iv_H → Int32 → Option (Int32 × iv_H)} {r : Int32 × iv_H} {Q : Option Value → iv_H → Prop} (hb : ∀ (h : iv_H) (w3 : Int32) (w4 : Int32), kb h w3 w4 = some r → Rn d 121 (some .int) 5 [some (.ref q0), some (.ref q1), some (.int x2), some (.int w3), some (.int w4), none, none] [] h Q) (hk : ∀ (h : iv_H) (w3 : Int32), kx h w3 = some r → Rn d 121 (some .int) 148 [some (.ref q0), some (.ref q1), some (.int x2), some (.int w3), none, none, none] [] h Q) (hq : Q (some (.int r.1)) r.2) (e : fX9_marksOf_b96 N h q0 q1 x2 x4 x5 x6 s0 s1 kb kx = some r) : Rn d 121 (some .int) 96 [some (.ref q0), some (.ref q1), some (.int x2), none, some (.int x4), some (.int x5), some (.int x6)] [.int s0, .int s1] h Q := by
  have hT := hX9_marksOf
  unfold fX9_marksOf_b96 at e
  refine Rn.n hT 4 (pc' := 101) (L' := [some (.ref q0), some (.ref q1), some (.int x2), some (.int (s1 ||| s0)), some (.int x4), some (.int x5), some (.int x6)]) (st' := [.int x6, .int (s1 ||| s0)]) rfl ?_
  by_cases c_3391 : x6 = 0
  · rw [if_pos c_3391] at e
    refine Rn.bt hT rfl rfl rfl (decide_eq_true c_3391) ?_
    exact Rn.weak (ll_s (ll_s (ll_s (ll_n (ll_s (ll_s (ll_n ll_e))))))) (rX9_marksOf_b117 hd hb hk hq e)
  · rw [if_neg c_3391] at e
    refine Rn.bf hT rfl rfl rfl (decide_eq_false c_3391) ?_
    refine Rn.n hT 1 (pc' := 105) (L' := [some (.ref q0), some (.ref q1), some (.int x2), some (.int (s1 ||| s0)), some (.int x4), some (.int x5), some (.int x6)]) (st' := [.ref q1, .int (s1 ||| s0)]) rfl ?_
    obtain ⟨v_3392, e_3393, e⟩ := Option.bind_eq_some_iff.mp e
    refine Rn.hp hT rfl rfl (gI_hp e_3393) ?_
    refine Rn.n hT 2 (pc' := 110) (L' := [some (.ref q0), some (.ref q1), some (.int x2), some (.int (s1 ||| s0)), some (.int x4), some (.int x5), some (.int x6)]) (st' := [.int (v_3392 &&& (4 : Int32)), .int (s1 ||| s0)]) rfl ?_
    by_cases c_3394 : (v_3392 &&& (4 : Int32)) = 0
    · rw [if_pos c_3394] at e
      refine Rn.bf hT rfl rfl rfl (decide_eq_false (fun z => z c_3394)) ?_
      refine Rn.n hT 2 (pc' := 118) (L' := [some (.ref q0), some (.ref q1), some (.int x2), some (.int (s1 ||| s0)), some (.int x4), some (.int x5), some (.int x6)]) (st' := [.int (2 : Int32), .int (s1 ||| s0)]) rfl ?_
      exact Rn.weak (ll_s (ll_s (ll_s (ll_n (ll_s (ll_s (ll_n ll_e))))))) (rX9_marksOf_b118 hd hb hk hq e)
    · rw [if_neg c_3394] at e
      refine Rn.bt hT rfl rfl rfl (decide_eq_true c_3394) ?_
      exact Rn.weak (ll_s (ll_s (ll_s (ll_n (ll_s (ll_s (ll_n ll_e))))))) (rX9_marksOf_b117 hd hb hk hq e)
def fX9_marksOf_b95 (N : Nat) (h : iv_H) (q0 : Nat) (q1 : Nat) (x2 : Int32) (x4 : Int32) (x5 : Int32) (x6 : Int32) (s0 : Int32) (kb : iv_H → Int32 → Int32 → Option (Int32 × iv_H)) (kx : iv_H → Int32 → Option (Int32 × iv_H)) : Option (Int32 × iv_H) := (fX9_marksOf_b96 N h q0 q1 x2 x4 x5 x6 (0 : Int32) s0 kb kx)
set_option maxRecDepth 10000 in
set_option maxHeartbeats 4000000 in
theorem rX9_marksOf_b95 {d N : Nat} (hd : 5 ≤ d) {h : iv_H} {q0 : Nat} {q1 : Nat} {x2 : Int32} {x4 : Int32} {x5 : Int32} {x6 : Int32} {s0 : Int32} {kb : iv_H → Int32 → Int32 → Option (Int32 × iv_H)} {kx : iv_H → Int32 → Option (Int32 × iv_H)} {r : Int32 × iv_H} {Q : Option Value → iv_H → Prop} (hb : ∀ (h : iv_H) (w3 : Int32) (w4 : Int32), kb h w3 w4 = some r → Rn d 121 (some .int) 5 [some (.ref q0), some (.ref q1), some (.int x2), some (.int w3), some (.int w4), none, none] [] h Q) (hk : ∀ (h : iv_H) (w3 : Int32), kx h w3 = some r → Rn d 121 (some .int) 148 [some (.ref q0), some (.ref q1), some (.int x2), some (.int w3), none, none, none] [] h Q) (hq : Q (some (.int r.1)) r.2) (e : fX9_marksOf_b95 N h q0 q1 x2 x4 x5 x6 s0 kb kx = some r) : Rn d 121 (some .int) 95 [some (.ref q0), some (.ref q1), some (.int x2), none, some (.int x4), some (.int x5), some (.int x6)] [.int s0] h Q := by
  have hT := hX9_marksOf
  unfold fX9_marksOf_b95 at e
  refine Rn.n hT 1 (pc' := 96) (L' := [some (.ref q0), some (.ref q1), some (.int x2), none, some (.int x4), some (.int x5), some (.int x6)]) (st' := [.int (0 : Int32), .int s0]) rfl ?_
  exact Rn.weak (ll_s (ll_s (ll_s (ll_n (ll_s (ll_s (ll_s ll_e))))))) (rX9_marksOf_b96 hd hb hk hq e)
def fX9_marksOf_b82 (N : Nat) (h : iv_H) (q0 : Nat) (q1 : Nat) (x2 : Int32) (x4 : Int32) (x5 : Int32) (x6 : Int32) (s0 : Int32) (kb : iv_H → Int32 → Int32 → Option (Int32 × iv_H)) (kx : iv_H → Int32 → Option (Int32 × iv_H)) : Option (Int32 × iv_H) := ((cko h q1 2).bind fun _ => (fX2_isFixed N h q1 x4).bind fun v_3389 => (if v_3389 = 0 then (fX9_marksOf_b95 N h q0 q1 x2 x4 x5 x6 s0 kb kx) else (fX9_marksOf_b96 N h q0 q1 x2 x4 x5 x6 (1 : Int32) s0 kb kx)))
set_option maxRecDepth 10000 in
set_option maxHeartbeats 4000000 in
theorem rX9_marksOf_b82 {d N : Nat} (hd : 5 ≤ d) {h : iv_H} {q0 : Nat} {q1 : Nat} {x2 : Int32} {x4 : Int32} {x5 : Int32} {x6 : Int32} {s0 : Int32} {kb : iv_H → Int32 → Int32 → Option (Int32 × iv_H)} {kx : iv_H → Int32 → Option (Int32 × iv_H)} {r : Int32 × iv_H} {Q : Option Value → iv_H → Prop} (hb : ∀ (h : iv_H) (w3 : Int32) (w4 : Int32), kb h w3 w4 = some r → Rn d 121 (some .int) 5 [some (.ref q0), some (.ref q1), some (.int x2), some (.int w3), some (.int w4), none, none] [] h Q) (hk : ∀ (h : iv_H) (w3 : Int32), kx h w3 = some r → Rn d 121 (some .int) 148 [some (.ref q0), some (.ref q1), some (.int x2), some (.int w3), none, none, none] [] h Q) (hq : Q (some (.int r.1)) r.2) (e : fX9_marksOf_b82 N h q0 q1 x2 x4 x5 x6 s0 kb kx = some r) : Rn d 121 (some .int) 82 [some (.ref q0), some (.ref q1), some (.int x2), none, some (.int x4), some (.int x5), some (.int x6)] [.int s0] h Q := by
  have hT := hX9_marksOf
  unfold fX9_marksOf_b82 at e
  refine Rn.n hT 2 (pc' := 85) (L' := [some (.ref q0), some (.ref q1), some (.int x2), none, some (.int x4), some (.int x5), some (.int x6)]) (st' := [.int x4, .ref q1, .int s0]) rfl ?_
  obtain ⟨_, e_3388, e⟩ := Option.bind_eq_some_iff.mp e
  obtain ⟨v_3389, e_3387, e⟩ := Option.bind_eq_some_iff.mp e
  refine Rn.call hT rfl rfl rfl (Nat.le_of_ble_eq_true rfl) (rcv_v gX2_isFixed (by omega) e_3388) (rX2_isFixed (by omega) e_3387 ?_)
  show Rn d _ _ 88 [some (.ref q0), some (.ref q1), some (.int x2), none, some (.int x4), some (.int x5), some (.int x6)] [.int v_3389, .int s0] h Q
  by_cases c_3390 : v_3389 = 0
  · rw [if_pos c_3390] at e
    refine Rn.bt hT rfl rfl rfl (decide_eq_true c_3390) ?_
    exact Rn.weak (ll_s (ll_s (ll_s (ll_n (ll_s (ll_s (ll_s ll_e))))))) (rX9_marksOf_b95 hd hb hk hq e)
  · rw [if_neg c_3390] at e
    refine Rn.bf hT rfl rfl rfl (decide_eq_false c_3390) ?_
    refine Rn.n hT 2 (pc' := 96) (L' := [some (.ref q0), some (.ref q1), some (.int x2), none, some (.int x4), some (.int x5), some (.int x6)]) (st' := [.int (1 : Int32), .int s0]) rfl ?_
    exact Rn.weak (ll_s (ll_s (ll_s (ll_n (ll_s (ll_s (ll_s ll_e))))))) (rX9_marksOf_b96 hd hb hk hq e)
def fX9_marksOf_b69 (N : Nat) (h : iv_H) (q0 : Nat) (q1 : Nat) (x2 : Int32) (x3 : Int32) (x4 : Int32) (x5 : Int32) (s0 : Int32) (kb : iv_H → Int32 → Int32 → Option (Int32 × iv_H)) (kx : iv_H → Int32 → Option (Int32 × iv_H)) : Option (Int32 × iv_H) := (if x5 = 0 then (if s0 = 0 then (fX9_marksOf_b95 N h q0 q1 x2 x4 x5 s0 x3 kb kx) else (fX9_marksOf_b82 N h q0 q1 x2 x4 x5 s0 x3 kb kx)) else (fX9_marksOf_b82 N h q0 q1 x2 x4 x5 s0 x3 kb kx))
set_option maxRecDepth 10000 in
set_option maxHeartbeats 4000000 in
theorem rX9_marksOf_b69 {d N : Nat} (hd : 5 ≤ d) {h : iv_H} {q0 : Nat} {q1 : Nat} {x2 : Int32} {x3 : Int32} {x4 : Int32} {x5 : Int32} {s0 : Int32} {kb : iv_H → Int32 → Int32 → Option (Int32 × iv_H)} {kx : iv_H → Int32 → Option (Int32 × iv_H)} {r : Int32 × iv_H} {Q : Option Value → iv_H → Prop} (hb : ∀ (h : iv_H) (w3 : Int32) (w4 : Int32), kb h w3 w4 = some r → Rn d 121 (some .int) 5 [some (.ref q0), some (.ref q1), some (.int x2), some (.int w3), some (.int w4), none, none] [] h Q) (hk : ∀ (h : iv_H) (w3 : Int32), kx h w3 = some r → Rn d 121 (some .int) 148 [some (.ref q0), some (.ref q1), some (.int x2), some (.int w3), none, none, none] [] h Q) (hq : Q (some (.int r.1)) r.2) (e : fX9_marksOf_b69 N h q0 q1 x2 x3 x4 x5 s0 kb kx = some r) : Rn d 121 (some .int) 69 [some (.ref q0), some (.ref q1), some (.int x2), some (.int x3), some (.int x4), some (.int x5), none] [.int s0] h Q := by
  have hT := hX9_marksOf
  unfold fX9_marksOf_b69 at e
  refine Rn.n hT 3 (pc' := 74) (L' := [some (.ref q0), some (.ref q1), some (.int x2), some (.int x3), some (.int x4), some (.int x5), some (.int s0)]) (st' := [.int x5, .int x3]) rfl ?_
  by_cases c_3385 : x5 = 0
  · rw [if_pos c_3385] at e
    refine Rn.bf hT rfl rfl rfl (decide_eq_false (fun z => z c_3385)) ?_
    refine Rn.n hT 1 (pc' := 79) (L' := [some (.ref q0), some (.ref q1), some (.int x2), some (.int x3), some (.int x4), some (.int x5), some (.int s0)]) (st' := [.int s0, .int x3]) rfl ?_
    by_cases c_3386 : s0 = 0
    · rw [if_pos c_3386] at e
      refine Rn.bt hT rfl rfl rfl (decide_eq_true c_3386) ?_
      exact Rn.weak (ll_s (ll_s (ll_s (ll_n (ll_s (ll_s (ll_s ll_e))))))) (rX9_marksOf_b95 hd hb hk hq e)
    · rw [if_neg c_3386] at e
      refine Rn.bf hT rfl rfl rfl (decide_eq_false c_3386) ?_
      exact Rn.weak (ll_s (ll_s (ll_s (ll_n (ll_s (ll_s (ll_s ll_e))))))) (rX9_marksOf_b82 hd hb hk hq e)
  · rw [if_neg c_3385] at e
    refine Rn.bt hT rfl rfl rfl (decide_eq_true c_3385) ?_
    exact Rn.weak (ll_s (ll_s (ll_s (ll_n (ll_s (ll_s (ll_s ll_e))))))) (rX9_marksOf_b82 hd hb hk hq e)
def fX9_marksOf_b42 (N : Nat) (h : iv_H) (q0 : Nat) (q1 : Nat) (x2 : Int32) (x3 : Int32) (x4 : Int32) (s0 : Int32) (kb : iv_H → Int32 → Int32 → Option (Int32 × iv_H)) (kx : iv_H → Int32 → Option (Int32 × iv_H)) : Option (Int32 × iv_H) := ((cko h q1 2).bind fun _ => (fX2_draftTurn N h q1 x2 x4).bind fun v_3377 => ((gR h 2 9 q1).bind fun v_3378 => ((gR h 1 6 v_3378).bind fun v_3380 => ((aI h v_3380 x4).bind fun v_3382 => (if v_3377 = v_3382 then (fX9_marksOf_b69 N h q0 q1 x2 x3 x4 s0 (0 : Int32) kb kx) else (fX9_marksOf_b69 N h q0 q1 x2 x3 x4 s0 (1 : Int32) kb kx))))))
set_option maxRecDepth 10000 in
set_option maxHeartbeats 4000000 in
theorem rX9_marksOf_b42 {d N : Nat} (hd : 5 ≤ d) {h : iv_H} {q0 : Nat} {q1 : Nat} {x2 : Int32} {x3 : Int32} {x4 : Int32} {s0 : Int32} {kb : iv_H → Int32 → Int32 → Option (Int32 × iv_H)} {kx : iv_H → Int32 → Option (Int32 × iv_H)} {r : Int32 × iv_H} {Q : Option Value → iv_H → Prop} (hb : ∀ (h : iv_H) (w3 : Int32) (w4 : Int32), kb h w3 w4 = some r → Rn d 121 (some .int) 5 [some (.ref q0), some (.ref q1), some (.int x2), some (.int w3), some (.int w4), none, none] [] h Q) (hk : ∀ (h : iv_H) (w3 : Int32), kx h w3 = some r → Rn d 121 (some .int) 148 [some (.ref q0), some (.ref q1), some (.int x2), some (.int w3), none, none, none] [] h Q) (hq : Q (some (.int r.1)) r.2) (e : fX9_marksOf_b42 N h q0 q1 x2 x3 x4 s0 kb kx = some r) : Rn d 121 (some .int) 42 [some (.ref q0), some (.ref q1), some (.int x2), some (.int x3), some (.int x4), none, none] [.int s0] h Q := by
  have hT := hX9_marksOf
  unfold fX9_marksOf_b42 at e
  refine Rn.n hT 4 (pc' := 48) (L' := [some (.ref q0), some (.ref q1), some (.int x2), some (.int x3), some (.int x4), some (.int s0), none]) (st' := [.int x4, .int x2, .ref q1]) rfl ?_
  obtain ⟨_, e_3376, e⟩ := Option.bind_eq_some_iff.mp e
  obtain ⟨v_3377, e_3375, e⟩ := Option.bind_eq_some_iff.mp e
  refine Rn.call hT rfl rfl rfl (Nat.le_of_ble_eq_true rfl) (rcv_v gX2_draftTurn (by omega) e_3376) (rX2_draftTurn (by omega) e_3375 ?_)
  show Rn d _ _ 51 [some (.ref q0), some (.ref q1), some (.int x2), some (.int x3), some (.int x4), some (.int s0), none] [.int v_3377] h Q
  refine Rn.n hT 1 (pc' := 52) (L' := [some (.ref q0), some (.ref q1), some (.int x2), some (.int x3), some (.int x4), some (.int s0), none]) (st' := [.ref q1, .int v_3377]) rfl ?_
  obtain ⟨v_3378, e_3379, e⟩ := Option.bind_eq_some_iff.mp e
  refine Rn.hp hT rfl rfl (gR_hp e_3379) ?_
  obtain ⟨v_3380, e_3381, e⟩ := Option.bind_eq_some_iff.mp e
  refine Rn.hp hT rfl rfl (gR_hp e_3381) ?_
  refine Rn.n hT 1 (pc' := 60) (L' := [some (.ref q0), some (.ref q1), some (.int x2), some (.int x3), some (.int x4), some (.int s0), none]) (st' := [.int x4, .ref v_3380, .int v_3377]) rfl ?_
  obtain ⟨v_3382, e_3383, e⟩ := Option.bind_eq_some_iff.mp e
  refine Rn.hp hT rfl rfl (aI_hp e_3383) ?_
  by_cases c_3384 : v_3377 = v_3382
  · rw [if_pos c_3384] at e
    refine Rn.bt hT rfl rfl rfl (decide_eq_true c_3384) ?_
    refine Rn.n hT 1 (pc' := 69) (L' := [some (.ref q0), some (.ref q1), some (.int x2), some (.int x3), some (.int x4), some (.int s0), none]) (st' := [.int (0 : Int32)]) rfl ?_
    exact Rn.weak (ll_s (ll_s (ll_s (ll_s (ll_s (ll_s (ll_n ll_e))))))) (rX9_marksOf_b69 hd hb hk hq e)
  · rw [if_neg c_3384] at e
    refine Rn.bf hT rfl rfl rfl (decide_eq_false c_3384) ?_
    refine Rn.n hT 2 (pc' := 69) (L' := [some (.ref q0), some (.ref q1), some (.int x2), some (.int x3), some (.int x4), some (.int s0), none]) (st' := [.int (1 : Int32)]) rfl ?_
    exact Rn.weak (ll_s (ll_s (ll_s (ll_s (ll_s (ll_s (ll_n ll_e))))))) (rX9_marksOf_b69 hd hb hk hq e)
def fX9_marksOf_l5 (N : Nat) (q0 : Nat) (q1 : Nat) (x2 : Int32) (kx : iv_H → Int32 → Option (Int32 × iv_H)) : Nat → iv_H → Int32 → Int32 → Option (Int32 × iv_H)
  | 0, _, _, _ => none
  | n + 1, h, x3, x4 => ((gR h 2 9 q1).bind fun v_3360 => ((gI h 1 2 v_3360).bind fun v_3362 => (if v_3362 ≤ x4 then (kx h x3) else ((cko h q1 2).bind fun _ => (fX2_draftCell N h q1 x2 x4).bind fun v_3367 => ((gR h 2 9 q1).bind fun v_3368 => ((gR h 1 5 v_3368).bind fun v_3370 => ((aI h v_3370 x4).bind fun v_3372 => (if v_3367 = v_3372 then (fX9_marksOf_b42 N h q0 q1 x2 x3 x4 (0 : Int32) (fX9_marksOf_l5 N q0 q1 x2 kx n) kx) else (fX9_marksOf_b42 N h q0 q1 x2 x3 x4 (1 : Int32) (fX9_marksOf_l5 N q0 q1 x2 kx n) kx)))))))))
set_option maxRecDepth 10000 in
set_option maxHeartbeats 4000000 in
theorem rX9_marksOf_l5 {d N : Nat} (hd : 5 ≤ d) {q0 : Nat} {q1 : Nat} {x2 : Int32} {kx : iv_H → Int32 → Option (Int32 × iv_H)} {r : Int32 × iv_H} {Q : Option Value → iv_H → Prop} (hk : ∀ (h : iv_H) (x3 : Int32), kx h x3 = some r → Rn d 121 (some .int) 148 [some (.ref q0), some (.ref q1), some (.int x2), some (.int x3), none, none, none] [] h Q) (hq : Q (some (.int r.1)) r.2) : ∀ (n : Nat) (h : iv_H) (x3 : Int32) (x4 : Int32), fX9_marksOf_l5 N q0 q1 x2 kx n h x3 x4 = some r → Rn d 121 (some .int) 5 [some (.ref q0), some (.ref q1), some (.int x2), some (.int x3), some (.int x4), none, none] [] h Q := by
  have hT := hX9_marksOf
  intro n
  induction n with
  | zero =>
    intro h x3 x4 e
    rw [fX9_marksOf_l5] at e
    cases e
  | succ n ih =>
    intro h x3 x4 e
    rw [fX9_marksOf_l5] at e
    refine Rn.n hT 2 (pc' := 8) (L' := [some (.ref q0), some (.ref q1), some (.int x2), some (.int x3), some (.int x4), none, none]) (st' := [.ref q1, .int x4]) rfl ?_
    obtain ⟨v_3360, e_3361, e⟩ := Option.bind_eq_some_iff.mp e
    refine Rn.hp hT rfl rfl (gR_hp e_3361) ?_
    obtain ⟨v_3362, e_3363, e⟩ := Option.bind_eq_some_iff.mp e
    refine Rn.hp hT rfl rfl (gI_hp e_3363) ?_
    by_cases c_3364 : v_3362 ≤ x4
    · rw [if_pos c_3364] at e
      refine Rn.bt hT rfl rfl rfl (decide_eq_true c_3364) ?_
      exact Rn.weak (ll_s (ll_s (ll_s (ll_s (ll_n (ll_n (ll_n ll_e))))))) (hk h x3 e)
    · rw [if_neg c_3364] at e
      refine Rn.bf hT rfl rfl rfl (decide_eq_false c_3364) ?_
      refine Rn.n hT 3 (pc' := 21) (L' := [some (.ref q0), some (.ref q1), some (.int x2), some (.int x3), some (.int x4), none, none]) (st' := [.int x4, .int x2, .ref q1]) rfl ?_
      obtain ⟨_, e_3366, e⟩ := Option.bind_eq_some_iff.mp e
      obtain ⟨v_3367, e_3365, e⟩ := Option.bind_eq_some_iff.mp e
      refine Rn.call hT rfl rfl rfl (Nat.le_of_ble_eq_true rfl) (rcv_v gX2_draftCell (by omega) e_3366) (rX2_draftCell (by omega) e_3365 ?_)
      show Rn d _ _ 24 [some (.ref q0), some (.ref q1), some (.int x2), some (.int x3), some (.int x4), none, none] [.int v_3367] h Q
      refine Rn.n hT 1 (pc' := 25) (L' := [some (.ref q0), some (.ref q1), some (.int x2), some (.int x3), some (.int x4), none, none]) (st' := [.ref q1, .int v_3367]) rfl ?_
      obtain ⟨v_3368, e_3369, e⟩ := Option.bind_eq_some_iff.mp e
      refine Rn.hp hT rfl rfl (gR_hp e_3369) ?_
      obtain ⟨v_3370, e_3371, e⟩ := Option.bind_eq_some_iff.mp e
      refine Rn.hp hT rfl rfl (gR_hp e_3371) ?_
      refine Rn.n hT 1 (pc' := 33) (L' := [some (.ref q0), some (.ref q1), some (.int x2), some (.int x3), some (.int x4), none, none]) (st' := [.int x4, .ref v_3370, .int v_3367]) rfl ?_
      obtain ⟨v_3372, e_3373, e⟩ := Option.bind_eq_some_iff.mp e
      refine Rn.hp hT rfl rfl (aI_hp e_3373) ?_
      by_cases c_3374 : v_3367 = v_3372
      · rw [if_pos c_3374] at e
        refine Rn.bt hT rfl rfl rfl (decide_eq_true c_3374) ?_
        refine Rn.n hT 1 (pc' := 42) (L' := [some (.ref q0), some (.ref q1), some (.int x2), some (.int x3), some (.int x4), none, none]) (st' := [.int (0 : Int32)]) rfl ?_
        exact Rn.weak (ll_s (ll_s (ll_s (ll_s (ll_s (ll_n (ll_n ll_e))))))) (rX9_marksOf_b42 hd ih hk hq e)
      · rw [if_neg c_3374] at e
        refine Rn.bf hT rfl rfl rfl (decide_eq_false c_3374) ?_
        refine Rn.n hT 2 (pc' := 42) (L' := [some (.ref q0), some (.ref q1), some (.int x2), some (.int x3), some (.int x4), none, none]) (st' := [.int (1 : Int32)]) rfl ?_
        exact Rn.weak (ll_s (ll_s (ll_s (ll_s (ll_s (ll_n (ll_n ll_e))))))) (rX9_marksOf_b42 hd ih hk hq e)
def fX9_marksOf_b182 (N : Nat) (h : iv_H) (x3 : Int32)  : Option (Int32 × iv_H) := (some (x3, h))
set_option maxRecDepth 10000 in
set_option maxHeartbeats 4000000 in
theorem rX9_marksOf_b182 {d N : Nat} (hd : 5 ≤ d) {h : iv_H} {x3 : Int32}  {r : Int32 × iv_H} {Q : Option Value → iv_H → Prop} (hq : Q (some (.int r.1)) r.2) (e : fX9_marksOf_b182 N h x3  = some r) : Rn d 121 (some .int) 182 [none, none, none, some (.int x3), none, none, none] [] h Q := by
  have hT := hX9_marksOf
  unfold fX9_marksOf_b182 at e
  refine Rn.n hT 1 (pc' := 183) (L' := [none, none, none, some (.int x3), none, none, none]) (st' := [.int x3]) rfl ?_
  obtain rfl := Option.some.inj e
  exact Rn.ret hT rfl rfl rfl hq
def fX9_marksOf (N : Nat) (h : iv_H) (q0 : Nat) (q1 : Nat) (x2 : Int32) : Option (Int32 × iv_H) := (fX9_marksOf_l5 N q0 q1 x2 (fun (h_3343 : iv_H) (z_3344 : Int32) => ((gI h_3343 2 1 q1).bind fun v_3345 => (if (v_3345 &&& (2 : Int32)) = 0 then ((gR h_3343 2 9 q1).bind fun v_3348 => ((cko h_3343 v_3348 1).bind fun _ => (fX1_emptyCells N h_3343 v_3348).bind fun v_3352 => (if v_3352 = (1 : Int32) then ((cko h_3343 q0 9).bind fun _ => (fX9_isOdd N h_3343 q0 q1 x2).bind fun p_3359 => (fun (v_3356 : Int32) (h_3357 : iv_H) => (if v_3356 = 0 then (fX9_marksOf_b182 N h_3357 z_3344) else (fX9_marksOf_b182 N h_3357 (z_3344 ||| (8 : Int32))))) p_3359.1 p_3359.2) else (fX9_marksOf_b182 N h_3343 z_3344)))) else (fX9_marksOf_b182 N h_3343 z_3344)))) N h (0 : Int32) (0 : Int32))
set_option maxRecDepth 10000 in
set_option maxHeartbeats 4000000 in
theorem rX9_marksOf {d N : Nat} (hd : 6 ≤ d) {h : iv_H} {q0 : Nat} {q1 : Nat} {x2 : Int32} {r : Int32 × iv_H} {Q : Option Value → iv_H → Prop} (e : fX9_marksOf N h q0 q1 x2 = some r) (hq : Q (some (.int r.1)) r.2) : Cl d 121 [.ref q0, .ref q1, .int x2] h Q := by
  obtain ⟨d, rfl⟩ : ∃ k, d = k + 1 := ⟨d - 1, by omega⟩
  have hd : 5 ≤ d := by omega
  have hT := hX9_marksOf
  unfold fX9_marksOf at e
  refine Cl.into (by decide) gX9_marksOf rfl ?_
  show Rn d 121 (some .int) 0 [some (.ref q0), some (.ref q1), some (.int x2), none, none, none, none] [] h Q
  refine Rn.n hT 4 (pc' := 5) (L' := [some (.ref q0), some (.ref q1), some (.int x2), some (.int (0 : Int32)), some (.int (0 : Int32)), none, none]) (st' := []) rfl ?_
  refine Rn.weak (ll_s (ll_s (ll_s (ll_s (ll_s (ll_n (ll_n ll_e))))))) (rX9_marksOf_l5 hd (fun h_3343 z_3344 e => ?_) hq N h (0 : Int32) (0 : Int32) e)
  try dsimp only at e
  refine Rn.n hT 1 (pc' := 149) (L' := [some (.ref q0), some (.ref q1), some (.int x2), some (.int z_3344), none, none, none]) (st' := [.ref q1]) rfl ?_
  obtain ⟨v_3345, e_3346, e⟩ := Option.bind_eq_some_iff.mp e
  refine Rn.hp hT rfl rfl (gI_hp e_3346) ?_
  refine Rn.n hT 2 (pc' := 154) (L' := [some (.ref q0), some (.ref q1), some (.int x2), some (.int z_3344), none, none, none]) (st' := [.int (v_3345 &&& (2 : Int32))]) rfl ?_
  by_cases c_3347 : (v_3345 &&& (2 : Int32)) = 0
  · rw [if_pos c_3347] at e
    refine Rn.bf hT rfl rfl rfl (decide_eq_false (fun z => z c_3347)) ?_
    refine Rn.n hT 1 (pc' := 158) (L' := [some (.ref q0), some (.ref q1), some (.int x2), some (.int z_3344), none, none, none]) (st' := [.ref q1]) rfl ?_
    obtain ⟨v_3348, e_3349, e⟩ := Option.bind_eq_some_iff.mp e
    refine Rn.hp hT rfl rfl (gR_hp e_3349) ?_
    obtain ⟨_, e_3351, e⟩ := Option.bind_eq_some_iff.mp e
    obtain ⟨v_3352, e_3350, e⟩ := Option.bind_eq_some_iff.mp e
    refine Rn.call hT rfl rfl rfl (Nat.le_of_ble_eq_true rfl) (rcv_v gX1_emptyCells (by omega) e_3351) (rX1_emptyCells (by omega) e_3350 ?_)
    show Rn d _ _ 164 [some (.ref q0), some (.ref q1), some (.int x2), some (.int z_3344), none, none, none] [.int v_3352] h_3343 Q
    refine Rn.n hT 1 (pc' := 165) (L' := [some (.ref q0), some (.ref q1), some (.int x2), some (.int z_3344), none, none, none]) (st' := [.int (1 : Int32), .int v_3352]) rfl ?_
    by_cases c_3353 : v_3352 = (1 : Int32)
    · rw [if_pos c_3353] at e
      refine Rn.bf hT rfl rfl rfl (decide_eq_false (fun z => z c_3353)) ?_
      refine Rn.n hT 3 (pc' := 171) (L' := [some (.ref q0), some (.ref q1), some (.int x2), some (.int z_3344), none, none, none]) (st' := [.int x2, .ref q1, .ref q0]) rfl ?_
      obtain ⟨_, e_3355, e⟩ := Option.bind_eq_some_iff.mp e
      obtain ⟨⟨v_3356, h_3357⟩, e_3354, e⟩ := Option.bind_eq_some_iff.mp e
      try dsimp only at e
      try dsimp only at e
      refine Rn.call hT rfl rfl rfl (Nat.le_of_ble_eq_true rfl) (rcv_v gX9_isOdd (by omega) e_3355) (rX9_isOdd (by omega) e_3354 ?_)
      show Rn d _ _ 174 [some (.ref q0), some (.ref q1), some (.int x2), some (.int z_3344), none, none, none] [.int v_3356] h_3357 Q
      by_cases c_3358 : v_3356 = 0
      · rw [if_pos c_3358] at e
        refine Rn.bt hT rfl rfl rfl (decide_eq_true c_3358) ?_
        exact Rn.weak (ll_n (ll_n (ll_n (ll_s (ll_n (ll_n (ll_n ll_e))))))) (rX9_marksOf_b182 hd hq e)
      · rw [if_neg c_3358] at e
        refine Rn.bf hT rfl rfl rfl (decide_eq_false c_3358) ?_
        refine Rn.n hT 4 (pc' := 182) (L' := [some (.ref q0), some (.ref q1), some (.int x2), some (.int (z_3344 ||| (8 : Int32))), none, none, none]) (st' := []) rfl ?_
        exact Rn.weak (ll_n (ll_n (ll_n (ll_s (ll_n (ll_n (ll_n ll_e))))))) (rX9_marksOf_b182 hd hq e)
    · rw [if_neg c_3353] at e
      refine Rn.bt hT rfl rfl rfl (decide_eq_true c_3353) ?_
      exact Rn.weak (ll_n (ll_n (ll_n (ll_s (ll_n (ll_n (ll_n ll_e))))))) (rX9_marksOf_b182 hd hq e)
  · rw [if_neg c_3347] at e
    refine Rn.bt hT rfl rfl rfl (decide_eq_true c_3347) ?_
    exact Rn.weak (ll_n (ll_n (ll_n (ll_s (ll_n (ll_n (ll_n ll_e))))))) (rX9_marksOf_b182 hd hq e)
set_option maxRecDepth 10000 in
theorem hX10_init : iv_Tb 124 tX10_init := iv_tb_of (m := mX10_init) rfl
set_option maxRecDepth 10000 in
theorem gX10_init : PG.2 124 = some mX10_init := iv_pi_of (t := tX10_init) rfl (by decide)
def fX10_init (N : Nat) (h : iv_H) (q0 : Nat) : Option (iv_H) := ((nO h 1).bind fun p_3403 => (fun (v_3402 : Nat) (h_3400 : iv_H) => ((fX1_init N h_3400 v_3402).bind fun h_3406 => ((pV h_3406 10 0 q0 (.ref v_3402)).bind fun h_3407 => ((nO h_3407 3).bind fun p_3412 => (fun (v_3411 : Nat) (h_3409 : iv_H) => ((fX3_init N h_3409 v_3411).bind fun h_3415 => ((pV h_3415 10 1 q0 (.ref v_3411)).bind fun h_3416 => ((pV h_3416 10 2 q0 (.int (0 : Int32))).bind fun h_3418 => ((nM h_3418 (3 : Int32) (126 : Int32)).bind fun p_3423 => (fun (v_3422 : Nat) (h_3420 : iv_H) => ((pV h_3420 10 3 q0 (.ref v_3422)).bind fun h_3424 => ((nA h_3424 0 (3 : Int32)).bind fun p_3429 => (fun (v_3428 : Nat) (h_3426 : iv_H) => ((pV h_3426 10 4 q0 (.ref v_3428)).bind fun h_3430 => ((nA h_3430 0 (3 : Int32)).bind fun p_3435 => (fun (v_3434 : Nat) (h_3432 : iv_H) => ((pV h_3432 10 5 q0 (.ref v_3434)).bind fun h_3436 => ((nA h_3436 0 (4 : Int32)).bind fun p_3441 => (fun (v_3440 : Nat) (h_3438 : iv_H) => ((pV h_3438 10 6 q0 (.ref v_3440)).bind fun h_3442 => ((pV h_3442 10 7 q0 (.int (-1 : Int32))).bind fun h_3444 => ((pV h_3444 10 8 q0 (.int (-1 : Int32))).bind fun h_3446 => ((pV h_3446 10 9 q0 (.int (0 : Int32))).bind fun h_3448 => ((pV h_3448 10 10 q0 (.int (0 : Int32))).bind fun h_3450 => ((pV h_3450 10 11 q0 (.int (0 : Int32))).bind fun h_3452 => some h_3452))))))) p_3441.1 p_3441.2))) p_3435.1 p_3435.2))) p_3429.1 p_3429.2))) p_3423.1 p_3423.2))))) p_3412.1 p_3412.2)))) p_3403.1 p_3403.2)
set_option maxRecDepth 10000 in
set_option maxHeartbeats 4000000 in
theorem rX10_init {d N : Nat} (hd : 3 ≤ d) {h : iv_H} {q0 : Nat} {r : iv_H} {Q : Option Value → iv_H → Prop} (e : fX10_init N h q0 = some r) (hq : Q none r) : Cl d 124 [.ref q0] h Q := by
  obtain ⟨d, rfl⟩ : ∃ k, d = k + 1 := ⟨d - 1, by omega⟩
  have hd : 2 ≤ d := by omega
  have hT := hX10_init
  unfold fX10_init at e
  refine Cl.into (by decide) gX10_init rfl ?_
  show Rn d 124 none 0 [some (.ref q0)] [] h Q
  refine Rn.n hT 1 (pc' := 1) (L' := [some (.ref q0)]) (st' := [.ref q0]) rfl ?_
  refine Rn.hp hT rfl rfl (st' := []) (h1 := h) rfl ?_
  refine Rn.n hT 1 (pc' := 5) (L' := [some (.ref q0)]) (st' := [.ref q0]) rfl ?_
  obtain ⟨⟨v_3402, h_3400⟩, e_3401, e⟩ := Option.bind_eq_some_iff.mp e
  try dsimp only at e
  refine Rn.hp hT rfl rfl (nO_hp e_3401) ?_
  refine Rn.n hT 1 (pc' := 9) (L' := [some (.ref q0)]) (st' := [.ref v_3402, .ref v_3402, .ref q0]) rfl ?_
  obtain ⟨h_3406, e_3404, e⟩ := Option.bind_eq_some_iff.mp e
  refine Rn.call hT rfl rfl rfl (Nat.le_of_ble_eq_true rfl) rfl (rX1_init (by omega) e_3404 ?_)
  show Rn d _ _ 12 [some (.ref q0)] [.ref v_3402, .ref q0] h_3406 Q
  obtain ⟨h_3407, e_3408, e⟩ := Option.bind_eq_some_iff.mp e
  refine Rn.hp hT rfl rfl (pV_hp rfl e_3408) ?_
  refine Rn.n hT 1 (pc' := 16) (L' := [some (.ref q0)]) (st' := [.ref q0]) rfl ?_
  obtain ⟨⟨v_3411, h_3409⟩, e_3410, e⟩ := Option.bind_eq_some_iff.mp e
  try dsimp only at e
  refine Rn.hp hT rfl rfl (nO_hp e_3410) ?_
  refine Rn.n hT 1 (pc' := 20) (L' := [some (.ref q0)]) (st' := [.ref v_3411, .ref v_3411, .ref q0]) rfl ?_
  obtain ⟨h_3415, e_3413, e⟩ := Option.bind_eq_some_iff.mp e
  refine Rn.call hT rfl rfl rfl (Nat.le_of_ble_eq_true rfl) rfl (rX3_init (by omega) e_3413 ?_)
  show Rn d _ _ 23 [some (.ref q0)] [.ref v_3411, .ref q0] h_3415 Q
  obtain ⟨h_3416, e_3417, e⟩ := Option.bind_eq_some_iff.mp e
  refine Rn.hp hT rfl rfl (pV_hp rfl e_3417) ?_
  refine Rn.n hT 2 (pc' := 28) (L' := [some (.ref q0)]) (st' := [.int (0 : Int32), .ref q0]) rfl ?_
  obtain ⟨h_3418, e_3419, e⟩ := Option.bind_eq_some_iff.mp e
  refine Rn.hp hT rfl rfl (pV_hp rfl e_3419) ?_
  refine Rn.n hT 3 (pc' := 35) (L' := [some (.ref q0)]) (st' := [.int (126 : Int32), .int (3 : Int32), .ref q0]) rfl ?_
  obtain ⟨⟨v_3422, h_3420⟩, e_3421, e⟩ := Option.bind_eq_some_iff.mp e
  try dsimp only at e
  refine Rn.hp hT rfl rfl (nM_hp e_3421) ?_
  obtain ⟨h_3424, e_3425, e⟩ := Option.bind_eq_some_iff.mp e
  refine Rn.hp hT rfl rfl (pV_hp rfl e_3425) ?_
  refine Rn.n hT 2 (pc' := 44) (L' := [some (.ref q0)]) (st' := [.int (3 : Int32), .ref q0]) rfl ?_
  obtain ⟨⟨v_3428, h_3426⟩, e_3427, e⟩ := Option.bind_eq_some_iff.mp e
  try dsimp only at e
  refine Rn.hp hT rfl rfl (nA_hp rfl e_3427) ?_
  obtain ⟨h_3430, e_3431, e⟩ := Option.bind_eq_some_iff.mp e
  refine Rn.hp hT rfl rfl (pV_hp rfl e_3431) ?_
  refine Rn.n hT 2 (pc' := 51) (L' := [some (.ref q0)]) (st' := [.int (3 : Int32), .ref q0]) rfl ?_
  obtain ⟨⟨v_3434, h_3432⟩, e_3433, e⟩ := Option.bind_eq_some_iff.mp e
  try dsimp only at e
  refine Rn.hp hT rfl rfl (nA_hp rfl e_3433) ?_
  obtain ⟨h_3436, e_3437, e⟩ := Option.bind_eq_some_iff.mp e
  refine Rn.hp hT rfl rfl (pV_hp rfl e_3437) ?_
  refine Rn.n hT 2 (pc' := 58) (L' := [some (.ref q0)]) (st' := [.int (4 : Int32), .ref q0]) rfl ?_
  obtain ⟨⟨v_3440, h_3438⟩, e_3439, e⟩ := Option.bind_eq_some_iff.mp e
  try dsimp only at e
  refine Rn.hp hT rfl rfl (nA_hp rfl e_3439) ?_
  obtain ⟨h_3442, e_3443, e⟩ := Option.bind_eq_some_iff.mp e
  refine Rn.hp hT rfl rfl (pV_hp rfl e_3443) ?_
  refine Rn.n hT 2 (pc' := 65) (L' := [some (.ref q0)]) (st' := [.int (-1 : Int32), .ref q0]) rfl ?_
  obtain ⟨h_3444, e_3445, e⟩ := Option.bind_eq_some_iff.mp e
  refine Rn.hp hT rfl rfl (pV_hp rfl e_3445) ?_
  refine Rn.n hT 2 (pc' := 70) (L' := [some (.ref q0)]) (st' := [.int (-1 : Int32), .ref q0]) rfl ?_
  obtain ⟨h_3446, e_3447, e⟩ := Option.bind_eq_some_iff.mp e
  refine Rn.hp hT rfl rfl (pV_hp rfl e_3447) ?_
  refine Rn.n hT 2 (pc' := 75) (L' := [some (.ref q0)]) (st' := [.int (0 : Int32), .ref q0]) rfl ?_
  obtain ⟨h_3448, e_3449, e⟩ := Option.bind_eq_some_iff.mp e
  refine Rn.hp hT rfl rfl (pV_hp rfl e_3449) ?_
  refine Rn.n hT 2 (pc' := 80) (L' := [some (.ref q0)]) (st' := [.int (0 : Int32), .ref q0]) rfl ?_
  obtain ⟨h_3450, e_3451, e⟩ := Option.bind_eq_some_iff.mp e
  refine Rn.hp hT rfl rfl (pV_hp rfl e_3451) ?_
  refine Rn.n hT 2 (pc' := 85) (L' := [some (.ref q0)]) (st' := [.int (0 : Int32), .ref q0]) rfl ?_
  obtain ⟨h_3452, e_3453, e⟩ := Option.bind_eq_some_iff.mp e
  refine Rn.hp hT rfl rfl (pV_hp rfl e_3453) ?_
  obtain rfl := Option.some.inj e
  exact Rn.ret hT rfl rfl rfl hq
set_option maxRecDepth 10000 in
theorem hX10_begin : iv_Tb 125 tX10_begin := iv_tb_of (m := mX10_begin) rfl
set_option maxRecDepth 10000 in
theorem gX10_begin : PG.2 125 = some mX10_begin := iv_pi_of (t := tX10_begin) rfl (by decide)
def fX10_begin (N : Nat) (h : iv_H) (q0 : Nat) (q1 : Nat) (o2 : Option Nat) : Option (iv_H) := ((gR h 10 0 q0).bind fun v_3454 => ((gR h 2 9 q1).bind fun v_3456 => ((cko h v_3454 1).bind fun _ => (fX1_copyFrom N h v_3454 v_3456).bind fun h_3461 => ((gR h_3461 10 1 q0).bind fun v_3462 => ((gR h_3461 10 0 q0).bind fun v_3464 => ((cko h_3461 v_3462 3).bind fun _ => (fX3_open N h_3461 v_3462 q1 v_3464 o2).bind fun h_3469 => ((pV h_3469 10 2 q0 (.int (0 : Int32))).bind fun h_3470 => some h_3470)))))))
set_option maxRecDepth 10000 in
set_option maxHeartbeats 4000000 in
theorem rX10_begin {d N : Nat} (hd : 5 ≤ d) {h : iv_H} {q0 : Nat} {q1 : Nat} {o2 : Option Nat} {r : iv_H} {Q : Option Value → iv_H → Prop} (e : fX10_begin N h q0 q1 o2 = some r) (hq : Q none r) : Cl d 125 [.ref q0, .ref q1, iv_rf o2] h Q := by
  obtain ⟨d, rfl⟩ : ∃ k, d = k + 1 := ⟨d - 1, by omega⟩
  have hd : 4 ≤ d := by omega
  have hT := hX10_begin
  unfold fX10_begin at e
  have he : iv_ent 3 [.ref q0, .ref q1, iv_rf o2] = [some (.ref q0), some (.ref q1), some (iv_rf o2)] := by cases o2 <;> rfl
  refine Cl.into (by decide) gX10_begin (by rw [he]; rfl) ?_
  rw [he]
  refine Rn.n hT 1 (pc' := 1) (L' := [some (.ref q0), some (.ref q1), some (iv_rf o2)]) (st' := [.ref q0]) rfl ?_
  obtain ⟨v_3454, e_3455, e⟩ := Option.bind_eq_some_iff.mp e
  refine Rn.hp hT rfl rfl (gR_hp e_3455) ?_
  refine Rn.n hT 1 (pc' := 5) (L' := [some (.ref q0), some (.ref q1), some (iv_rf o2)]) (st' := [.ref q1, .ref v_3454]) rfl ?_
  obtain ⟨v_3456, e_3457, e⟩ := Option.bind_eq_some_iff.mp e
  refine Rn.hp hT rfl rfl (gR_hp e_3457) ?_
  obtain ⟨_, e_3459, e⟩ := Option.bind_eq_some_iff.mp e
  obtain ⟨h_3461, e_3458, e⟩ := Option.bind_eq_some_iff.mp e
  refine Rn.call hT rfl rfl rfl (Nat.le_of_ble_eq_true rfl) (rcv_v gX1_copyFrom (by omega) e_3459) (rX1_copyFrom (by omega) e_3458 ?_)
  show Rn d _ _ 11 [some (.ref q0), some (.ref q1), some (iv_rf o2)] [] h_3461 Q
  refine Rn.n hT 1 (pc' := 12) (L' := [some (.ref q0), some (.ref q1), some (iv_rf o2)]) (st' := [.ref q0]) rfl ?_
  obtain ⟨v_3462, e_3463, e⟩ := Option.bind_eq_some_iff.mp e
  refine Rn.hp hT rfl rfl (gR_hp e_3463) ?_
  refine Rn.n hT 2 (pc' := 17) (L' := [some (.ref q0), some (.ref q1), some (iv_rf o2)]) (st' := [.ref q0, .ref q1, .ref v_3462]) rfl ?_
  obtain ⟨v_3464, e_3465, e⟩ := Option.bind_eq_some_iff.mp e
  refine Rn.hp hT rfl rfl (gR_hp e_3465) ?_
  refine Rn.lo hT rfl rfl (L' := [some (.ref q0), some (.ref q1), some (iv_rf o2)]) (st' := [iv_rf o2, .ref v_3464, .ref q1, .ref v_3462]) (ldN (o := o2) rfl) ?_
  obtain ⟨_, e_3467, e⟩ := Option.bind_eq_some_iff.mp e
  obtain ⟨h_3469, e_3466, e⟩ := Option.bind_eq_some_iff.mp e
  refine Rn.call hT rfl rfl rfl (Nat.le_of_ble_eq_true rfl) (rcv_v gX3_open (by omega) e_3467) (rX3_open (by omega) e_3466 ?_)
  show Rn d _ _ 24 [some (.ref q0), some (.ref q1), some (iv_rf o2)] [] h_3469 Q
  refine Rn.n hT 2 (pc' := 26) (L' := [some (.ref q0), some (.ref q1), some (iv_rf o2)]) (st' := [.int (0 : Int32), .ref q0]) rfl ?_
  obtain ⟨h_3470, e_3471, e⟩ := Option.bind_eq_some_iff.mp e
  refine Rn.hp hT rfl rfl (pV_hp rfl e_3471) ?_
  obtain rfl := Option.some.inj e
  exact Rn.ret hT rfl rfl rfl hq
set_option maxRecDepth 10000 in
theorem hX10_liveOne : iv_Tb 126 tX10_liveOne := iv_tb_of (m := mX10_liveOne) rfl
set_option maxRecDepth 10000 in
theorem gX10_liveOne : PG.2 126 = some mX10_liveOne := iv_pi_of (t := tX10_liveOne) rfl (by decide)
def fX10_liveOne_b39 (N : Nat) (h : iv_H) (q0 : Nat)  : Option (iv_H) := ((gR h 10 1 q0).bind fun v_3496 => ((gI h 3 4 v_3496).bind fun v_3498 => ((pV h 3 4 v_3496 (.int (v_3498 + (1 : Int32)))).bind fun h_3500 => some h_3500)))
set_option maxRecDepth 10000 in
set_option maxHeartbeats 4000000 in
theorem rX10_liveOne_b39 {d N : Nat} (hd : 4 ≤ d) {h : iv_H} {q0 : Nat}  {r : iv_H} {Q : Option Value → iv_H → Prop} (hq : Q none r) (e : fX10_liveOne_b39 N h q0  = some r) : Rn d 126 none 39 [some (.ref q0), none] [] h Q := by
  have hT := hX10_liveOne
  unfold fX10_liveOne_b39 at e
  refine Rn.n hT 1 (pc' := 40) (L' := [some (.ref q0), none]) (st' := [.ref q0]) rfl ?_
  obtain ⟨v_3496, e_3497, e⟩ := Option.bind_eq_some_iff.mp e
  refine Rn.hp hT rfl rfl (gR_hp e_3497) ?_
  refine Rn.n hT 1 (pc' := 44) (L' := [some (.ref q0), none]) (st' := [.ref v_3496, .ref v_3496]) rfl ?_
  obtain ⟨v_3498, e_3499, e⟩ := Option.bind_eq_some_iff.mp e
  refine Rn.hp hT rfl rfl (gI_hp e_3499) ?_
  refine Rn.n hT 2 (pc' := 49) (L' := [some (.ref q0), none]) (st' := [.int (v_3498 + (1 : Int32)), .ref v_3496]) rfl ?_
  obtain ⟨h_3500, e_3501, e⟩ := Option.bind_eq_some_iff.mp e
  refine Rn.hp hT rfl rfl (pV_hp rfl e_3501) ?_
  obtain rfl := Option.some.inj e
  exact Rn.ret hT rfl rfl rfl hq
def fX10_liveOne (N : Nat) (h : iv_H) (q0 : Nat) (x1 : Int32) : Option (iv_H) := ((gR h 10 1 q0).bind fun v_3472 => ((cko h v_3472 3).bind fun _ => (fX3_broken N h v_3472 x1).bind fun p_3495 => (fun (v_3476 : Int32) (h_3477 : iv_H) => (if v_3476 = 0 then ((gR h_3477 10 0 q0).bind fun v_3483 => ((cko h_3477 v_3483 1).bind fun _ => (fX1_go N h_3477 v_3483 x1).bind fun h_3488 => ((gR h_3488 10 1 q0).bind fun v_3489 => ((cko h_3488 v_3489 3).bind fun _ => (fX3_look N h_3488 v_3489).bind fun h_3494 => (fX10_liveOne_b39 N h_3494 q0))))) else ((gI h_3477 10 2 q0).bind fun v_3479 => ((pV h_3477 10 2 q0 (.int (v_3479 + (1 : Int32)))).bind fun h_3481 => (fX10_liveOne_b39 N h_3481 q0))))) p_3495.1 p_3495.2))
set_option maxRecDepth 10000 in
set_option maxHeartbeats 4000000 in
theorem rX10_liveOne {d N : Nat} (hd : 5 ≤ d) {h : iv_H} {q0 : Nat} {x1 : Int32} {r : iv_H} {Q : Option Value → iv_H → Prop} (e : fX10_liveOne N h q0 x1 = some r) (hq : Q none r) : Cl d 126 [.ref q0, .int x1] h Q := by
  obtain ⟨d, rfl⟩ : ∃ k, d = k + 1 := ⟨d - 1, by omega⟩
  have hd : 4 ≤ d := by omega
  have hT := hX10_liveOne
  unfold fX10_liveOne at e
  refine Cl.into (by decide) gX10_liveOne rfl ?_
  show Rn d 126 none 0 [some (.ref q0), some (.int x1)] [] h Q
  refine Rn.n hT 1 (pc' := 1) (L' := [some (.ref q0), some (.int x1)]) (st' := [.ref q0]) rfl ?_
  obtain ⟨v_3472, e_3473, e⟩ := Option.bind_eq_some_iff.mp e
  refine Rn.hp hT rfl rfl (gR_hp e_3473) ?_
  refine Rn.n hT 1 (pc' := 5) (L' := [some (.ref q0), some (.int x1)]) (st' := [.int x1, .ref v_3472]) rfl ?_
  obtain ⟨_, e_3475, e⟩ := Option.bind_eq_some_iff.mp e
  obtain ⟨⟨v_3476, h_3477⟩, e_3474, e⟩ := Option.bind_eq_some_iff.mp e
  try dsimp only at e
  try dsimp only at e
  refine Rn.call hT rfl rfl rfl (Nat.le_of_ble_eq_true rfl) (rcv_v gX3_broken (by omega) e_3475) (rX3_broken (by omega) e_3474 ?_)
  show Rn d _ _ 8 [some (.ref q0), some (.int x1)] [.int v_3476] h_3477 Q
  by_cases c_3478 : v_3476 = 0
  · rw [if_pos c_3478] at e
    refine Rn.bf hT rfl rfl rfl (decide_eq_false (fun z => z c_3478)) ?_
    refine Rn.n hT 1 (pc' := 12) (L' := [some (.ref q0), some (.int x1)]) (st' := [.ref q0]) rfl ?_
    obtain ⟨v_3483, e_3484, e⟩ := Option.bind_eq_some_iff.mp e
    refine Rn.hp hT rfl rfl (gR_hp e_3484) ?_
    refine Rn.n hT 1 (pc' := 16) (L' := [some (.ref q0), some (.int x1)]) (st' := [.int x1, .ref v_3483]) rfl ?_
    obtain ⟨_, e_3486, e⟩ := Option.bind_eq_some_iff.mp e
    obtain ⟨h_3488, e_3485, e⟩ := Option.bind_eq_some_iff.mp e
    refine Rn.call hT rfl rfl rfl (Nat.le_of_ble_eq_true rfl) (rcv_v gX1_go (by omega) e_3486) (rX1_go (by omega) e_3485 ?_)
    show Rn d _ _ 19 [some (.ref q0), some (.int x1)] [] h_3488 Q
    refine Rn.n hT 1 (pc' := 20) (L' := [some (.ref q0), some (.int x1)]) (st' := [.ref q0]) rfl ?_
    obtain ⟨v_3489, e_3490, e⟩ := Option.bind_eq_some_iff.mp e
    refine Rn.hp hT rfl rfl (gR_hp e_3490) ?_
    obtain ⟨_, e_3492, e⟩ := Option.bind_eq_some_iff.mp e
    obtain ⟨h_3494, e_3491, e⟩ := Option.bind_eq_some_iff.mp e
    refine Rn.call hT rfl rfl rfl (Nat.le_of_ble_eq_true rfl) (rcv_v gX3_look (by omega) e_3492) (rX3_look (by omega) e_3491 ?_)
    show Rn d _ _ 26 [some (.ref q0), some (.int x1)] [] h_3494 Q
    refine Rn.n hT 1 (pc' := 39) (L' := [some (.ref q0), some (.int x1)]) (st' := []) rfl ?_
    exact Rn.weak (ll_s (ll_n ll_e)) (rX10_liveOne_b39 hd hq e)
  · rw [if_neg c_3478] at e
    refine Rn.bt hT rfl rfl rfl (decide_eq_true c_3478) ?_
    refine Rn.n hT 2 (pc' := 31) (L' := [some (.ref q0), some (.int x1)]) (st' := [.ref q0, .ref q0]) rfl ?_
    obtain ⟨v_3479, e_3480, e⟩ := Option.bind_eq_some_iff.mp e
    refine Rn.hp hT rfl rfl (gI_hp e_3480) ?_
    refine Rn.n hT 2 (pc' := 36) (L' := [some (.ref q0), some (.int x1)]) (st' := [.int (v_3479 + (1 : Int32)), .ref q0]) rfl ?_
    obtain ⟨h_3481, e_3482, e⟩ := Option.bind_eq_some_iff.mp e
    refine Rn.hp hT rfl rfl (pV_hp rfl e_3482) ?_
    exact Rn.weak (ll_s (ll_n ll_e)) (rX10_liveOne_b39 hd hq e)
set_option maxRecDepth 10000 in
theorem hX10_liveTo : iv_Tb 127 tX10_liveTo := iv_tb_of (m := mX10_liveTo) rfl
set_option maxRecDepth 10000 in
theorem gX10_liveTo : PG.2 127 = some mX10_liveTo := iv_pi_of (t := tX10_liveTo) rfl (by decide)
def fX10_liveTo_l9 (N : Nat) (q0 : Nat) (q1 : Nat) (x3 : Int32) (kx : iv_H → Option (iv_H)) : Nat → iv_H → Int32 → Option (iv_H)
  | 0, _, _ => none
  | n + 1, h, x4 => (if x3 ≤ x4 then (kx h) else ((gR h 2 16 q1).bind fun v_3508 => ((gI h 7 1 v_3508).bind fun v_3510 => (if v_3510 ≤ x4 then (kx h) else ((gR h 2 16 q1).bind fun v_3513 => ((gR h 7 0 v_3513).bind fun v_3515 => ((aJ h v_3515 x4).bind fun v_3517 => ((cko h q0 10).bind fun _ => (fX10_liveOne N h q0 ((v_3517).toInt32)).bind fun h_3522 => (fX10_liveTo_l9 N q0 q1 x3 kx n h_3522 (x4 + (1 : Int32)))))))))))
set_option maxRecDepth 10000 in
set_option maxHeartbeats 4000000 in
theorem rX10_liveTo_l9 {d N : Nat} (hd : 5 ≤ d) {q0 : Nat} {q1 : Nat} {x3 : Int32} {kx : iv_H → Option (iv_H)} {r : iv_H} {Q : Option Value → iv_H → Prop} (hk : ∀ (h : iv_H), kx h = some r → Rn d 127 none 48 [none, none, none, none, none] [] h Q) (hq : Q none r) : ∀ (n : Nat) (h : iv_H) (x4 : Int32), fX10_liveTo_l9 N q0 q1 x3 kx n h x4 = some r → Rn d 127 none 9 [some (.ref q0), some (.ref q1), none, some (.int x3), some (.int x4)] [] h Q := by
  have hT := hX10_liveTo
  intro n
  induction n with
  | zero =>
    intro h x4 e
    rw [fX10_liveTo_l9] at e
    cases e
  | succ n ih =>
    intro h x4 e
    rw [fX10_liveTo_l9] at e
    refine Rn.n hT 2 (pc' := 12) (L' := [some (.ref q0), some (.ref q1), none, some (.int x3), some (.int x4)]) (st' := [.int x3, .int x4]) rfl ?_
    by_cases c_3507 : x3 ≤ x4
    · rw [if_pos c_3507] at e
      refine Rn.bt hT rfl rfl rfl (decide_eq_true c_3507) ?_
      exact Rn.weak (ll_n (ll_n (ll_n (ll_n (ll_n ll_e))))) (hk h e)
    · rw [if_neg c_3507] at e
      refine Rn.bf hT rfl rfl rfl (decide_eq_false c_3507) ?_
      refine Rn.n hT 2 (pc' := 18) (L' := [some (.ref q0), some (.ref q1), none, some (.int x3), some (.int x4)]) (st' := [.ref q1, .int x4]) rfl ?_
      obtain ⟨v_3508, e_3509, e⟩ := Option.bind_eq_some_iff.mp e
      refine Rn.hp hT rfl rfl (gR_hp e_3509) ?_
      obtain ⟨v_3510, e_3511, e⟩ := Option.bind_eq_some_iff.mp e
      refine Rn.hp hT rfl rfl (gI_hp e_3511) ?_
      by_cases c_3512 : v_3510 ≤ x4
      · rw [if_pos c_3512] at e
        refine Rn.bt hT rfl rfl rfl (decide_eq_true c_3512) ?_
        exact Rn.weak (ll_n (ll_n (ll_n (ll_n (ll_n ll_e))))) (hk h e)
      · rw [if_neg c_3512] at e
        refine Rn.bf hT rfl rfl rfl (decide_eq_false c_3512) ?_
        refine Rn.n hT 2 (pc' := 29) (L' := [some (.ref q0), some (.ref q1), none, some (.int x3), some (.int x4)]) (st' := [.ref q1, .ref q0]) rfl ?_
        obtain ⟨v_3513, e_3514, e⟩ := Option.bind_eq_some_iff.mp e
        refine Rn.hp hT rfl rfl (gR_hp e_3514) ?_
        obtain ⟨v_3515, e_3516, e⟩ := Option.bind_eq_some_iff.mp e
        refine Rn.hp hT rfl rfl (gR_hp e_3516) ?_
        refine Rn.n hT 1 (pc' := 37) (L' := [some (.ref q0), some (.ref q1), none, some (.int x3), some (.int x4)]) (st' := [.int x4, .ref v_3515, .ref q0]) rfl ?_
        obtain ⟨v_3517, e_3518, e⟩ := Option.bind_eq_some_iff.mp e
        refine Rn.hp hT rfl rfl (aJ_hp e_3518) ?_
        refine Rn.n hT 1 (pc' := 39) (L' := [some (.ref q0), some (.ref q1), none, some (.int x3), some (.int x4)]) (st' := [.int ((v_3517).toInt32), .ref q0]) rfl ?_
        obtain ⟨_, e_3520, e⟩ := Option.bind_eq_some_iff.mp e
        obtain ⟨h_3522, e_3519, e⟩ := Option.bind_eq_some_iff.mp e
        refine Rn.call hT rfl rfl rfl (Nat.le_of_ble_eq_true rfl) (rcv_v gX10_liveOne (by omega) e_3520) (rX10_liveOne (by omega) e_3519 ?_)
        show Rn d _ _ 42 [some (.ref q0), some (.ref q1), none, some (.int x3), some (.int x4)] [] h_3522 Q
        refine Rn.n hT 2 (pc' := 9) (L' := [some (.ref q0), some (.ref q1), none, some (.int x3), some (.int (x4 + (1 : Int32)))]) (st' := []) rfl ?_
        exact Rn.weak (ll_s (ll_s (ll_n (ll_s (ll_s ll_e))))) (ih h_3522 (x4 + (1 : Int32)) e)
def fX10_liveTo_b48 (N : Nat) (h : iv_H)   : Option (iv_H) := some h
set_option maxRecDepth 10000 in
set_option maxHeartbeats 4000000 in
theorem rX10_liveTo_b48 {d N : Nat} (hd : 5 ≤ d) {h : iv_H}   {r : iv_H} {Q : Option Value → iv_H → Prop} (hq : Q none r) (e : fX10_liveTo_b48 N h   = some r) : Rn d 127 none 48 [none, none, none, none, none] [] h Q := by
  have hT := hX10_liveTo
  unfold fX10_liveTo_b48 at e
  obtain rfl := Option.some.inj e
  exact Rn.ret hT rfl rfl rfl hq
def fX10_liveTo (N : Nat) (h : iv_H) (q0 : Nat) (q1 : Nat) (o2 : Option Nat) (x3 : Int32) : Option (iv_H) := ((cko h q0 10).bind fun _ => (fX10_begin N h q0 q1 o2).bind fun h_3505 => (fX10_liveTo_l9 N q0 q1 x3 (fun (h_3506 : iv_H) => (fX10_liveTo_b48 N h_3506)) N h_3505 (0 : Int32)))
set_option maxRecDepth 10000 in
set_option maxHeartbeats 4000000 in
theorem rX10_liveTo {d N : Nat} (hd : 6 ≤ d) {h : iv_H} {q0 : Nat} {q1 : Nat} {o2 : Option Nat} {x3 : Int32} {r : iv_H} {Q : Option Value → iv_H → Prop} (e : fX10_liveTo N h q0 q1 o2 x3 = some r) (hq : Q none r) : Cl d 127 [.ref q0, .ref q1, iv_rf o2, .int x3] h Q := by
  obtain ⟨d, rfl⟩ : ∃ k, d = k + 1 := ⟨d - 1, by omega⟩
  have hd : 5 ≤ d := by omega
  have hT := hX10_liveTo
  unfold fX10_liveTo at e
  have he : iv_ent 5 [.ref q0, .ref q1, iv_rf o2, .int x3] = [some (.ref q0), some (.ref q1), some (iv_rf o2), some (.int x3), none] := by cases o2 <;> rfl
  refine Cl.into (by decide) gX10_liveTo (by rw [he]; rfl) ?_
  rw [he]
  refine Rn.n hT 2 (pc' := 2) (L' := [some (.ref q0), some (.ref q1), some (iv_rf o2), some (.int x3), none]) (st' := [.ref q1, .ref q0]) rfl ?_
  refine Rn.lo hT rfl rfl (L' := [some (.ref q0), some (.ref q1), some (iv_rf o2), some (.int x3), none]) (st' := [iv_rf o2, .ref q1, .ref q0]) (ldN (o := o2) rfl) ?_
  obtain ⟨_, e_3503, e⟩ := Option.bind_eq_some_iff.mp e
  obtain ⟨h_3505, e_3502, e⟩ := Option.bind_eq_some_iff.mp e
  refine Rn.call hT rfl rfl rfl (Nat.le_of_ble_eq_true rfl) (rcv_v gX10_begin (by omega) e_3503) (rX10_begin (by omega) e_3502 ?_)
  show Rn d _ _ 6 [some (.ref q0), some (.ref q1), some (iv_rf o2), some (.int x3), none] [] h_3505 Q
  refine Rn.n hT 2 (pc' := 9) (L' := [some (.ref q0), some (.ref q1), some (iv_rf o2), some (.int x3), some (.int (0 : Int32))]) (st' := []) rfl ?_
  refine Rn.weak (ll_s (ll_s (ll_n (ll_s (ll_s ll_e))))) (rX10_liveTo_l9 hd (fun h_3506 e => ?_) hq N h_3505 (0 : Int32) e)
  try dsimp only at e
  exact Rn.weak (ll_n (ll_n (ll_n (ll_n (ll_n ll_e))))) (rX10_liveTo_b48 hd hq e)
