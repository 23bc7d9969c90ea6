set_option maxRecDepth 10000 in
theorem hX1_border : iv_Tb 29 tX1_border := iv_tb_of (m := mX1_border) rfl
set_option maxRecDepth 10000 in
theorem gX1_border : PG.2 29 = some mX1_border := iv_pi_of (t := tX1_border) rfl (by decide)
def fX1_border_b83 (N : Nat) (h : iv_H) (q0 : Nat) (x1 : Int32) (x2 : Int32) (x3 : Int32) (x4 : Int32) (x5 : Int32) (s0 : Int32) : Option (Int32) := (some s0)
set_option maxRecDepth 10000 in
set_option maxHeartbeats 4000000 in
theorem rX1_border_b83 {d N : Nat} (hd : 0 ≤ d) {h : iv_H} {q0 : Nat} {x1 : Int32} {x2 : Int32} {x3 : Int32} {x4 : Int32} {x5 : Int32} {s0 : Int32} {r : Int32} {Q : Option Value → iv_H → Prop} (hq : Q (some (.int r)) h) (e : fX1_border_b83 N h q0 x1 x2 x3 x4 x5 s0 = some r) : Rn d 29 (some .int) 83 [some (.ref q0), some (.int x1), some (.int x2), some (.int x3), some (.int x4), some (.int x5)] [.int s0] h Q := by
  have hT := hX1_border
  unfold fX1_border_b83 at e
  obtain rfl := Option.some.inj e
  exact Rn.ret hT rfl rfl rfl hq
def fX1_border_b78 (N : Nat) (h : iv_H) (q0 : Nat) (x1 : Int32) (x2 : Int32) (x3 : Int32) (x4 : Int32) (x5 : Int32)  : Option (Int32) := (fX1_border_b83 N h q0 x1 x2 x3 x4 x5 (1 : Int32))
set_option maxRecDepth 10000 in
set_option maxHeartbeats 4000000 in
theorem rX1_border_b78 {d N : Nat} (hd : 0 ≤ d) {h : iv_H} {q0 : Nat} {x1 : Int32} {x2 : Int32} {x3 : Int32} {x4 : Int32} {x5 : Int32}  {r : Int32} {Q : Option Value → iv_H → Prop} (hq : Q (some (.int r)) h) (e : fX1_border_b78 N h q0 x1 x2 x3 x4 x5  = some r) : Rn d 29 (some .int) 78 [some (.ref q0), some (.int x1), some (.int x2), some (.int x3), some (.int x4), some (.int x5)] [] h Q := by
  have hT := hX1_border
  unfold fX1_border_b78 at e
  refine Rn.n hT 2 (pc' := 83) (L' := [some (.ref q0), some (.int x1), some (.int x2), some (.int x3), some (.int x4), some (.int x5)]) (st' := [.int (1 : Int32)]) rfl ?_
  exact Rn.weak (ll_s (ll_s (ll_s (ll_s (ll_s (ll_s ll_e)))))) (rX1_border_b83 hd hq e)
def fX1_border_b67 (N : Nat) (h : iv_H) (q0 : Nat) (x1 : Int32) (x2 : Int32) (x3 : Int32) (x4 : Int32) (x5 : Int32)  : Option (Int32) := (if x3 = (1 : Int32) then (fX1_border_b78 N h q0 x1 x2 x3 x4 x5) else (if x5 = (1 : Int32) then (fX1_border_b78 N h q0 x1 x2 x3 x4 x5) else (fX1_border_b83 N h q0 x1 x2 x3 x4 x5 (0 : Int32))))
set_option maxRecDepth 10000 in
set_option maxHeartbeats 4000000 in
theorem rX1_border_b67 {d N : Nat} (hd : 0 ≤ d) {h : iv_H} {q0 : Nat} {x1 : Int32} {x2 : Int32} {x3 : Int32} {x4 : Int32} {x5 : Int32}  {r : Int32} {Q : Option Value → iv_H → Prop} (hq : Q (some (.int r)) h) (e : fX1_border_b67 N h q0 x1 x2 x3 x4 x5  = some r) : Rn d 29 (some .int) 67 [some (.ref q0), some (.int x1), some (.int x2), some (.int x3), some (.int x4), some (.int x5)] [] h Q := by
  have hT := hX1_border
  unfold fX1_border_b67 at e
  refine Rn.n hT 2 (pc' := 69) (L' := [some (.ref q0), some (.int x1), some (.int x2), some (.int x3), some (.int x4), some (.int x5)]) (st' := [.int (1 : Int32), .int x3]) rfl ?_
  by_cases c_17 : x3 = (1 : Int32)
  · rw [if_pos c_17] at e
    refine Rn.bt hT rfl rfl rfl (decide_eq_true c_17) ?_
    exact Rn.weak (ll_s (ll_s (ll_s (ll_s (ll_s (ll_s ll_e)))))) (rX1_border_b78 hd hq e)
  · rw [if_neg c_17] at e
    refine Rn.bf hT rfl rfl rfl (decide_eq_false c_17) ?_
    refine Rn.n hT 2 (pc' := 75) (L' := [some (.ref q0), some (.int x1), some (.int x2), some (.int x3), some (.int x4), some (.int x5)]) (st' := [.int (1 : Int32), .int x5]) rfl ?_
    by_cases c_18 : x5 = (1 : Int32)
    · rw [if_pos c_18] at e
      refine Rn.bf hT rfl rfl rfl (decide_eq_false (fun z => z c_18)) ?_
      exact Rn.weak (ll_s (ll_s (ll_s (ll_s (ll_s (ll_s ll_e)))))) (rX1_border_b78 hd hq e)
    · rw [if_neg c_18] at e
      refine Rn.bt hT rfl rfl rfl (decide_eq_true c_18) ?_
      refine Rn.n hT 1 (pc' := 83) (L' := [some (.ref q0), some (.int x1), some (.int x2), some (.int x3), some (.int x4), some (.int x5)]) (st' := [.int (0 : Int32)]) rfl ?_
      exact Rn.weak (ll_s (ll_s (ll_s (ll_s (ll_s (ll_s ll_e)))))) (rX1_border_b83 hd hq e)
def fX1_border_b46 (N : Nat) (h : iv_H) (q0 : Nat) (x1 : Int32) (x2 : Int32) (x3 : Int32) (x4 : Int32) (s0 : Int32) : Option (Int32) := (if x3 = s0 then (some (0 : Int32)) else (if x3 = (3 : Int32) then (fX1_border_b67 N h q0 x1 x2 x3 x4 s0) else (if s0 = (3 : Int32) then (fX1_border_b67 N h q0 x1 x2 x3 x4 s0) else (some (1 : Int32)))))
set_option maxRecDepth 10000 in
set_option maxHeartbeats 4000000 in
theorem rX1_border_b46 {d N : Nat} (hd : 0 ≤ d) {h : iv_H} {q0 : Nat} {x1 : Int32} {x2 : Int32} {x3 : Int32} {x4 : Int32} {s0 : Int32} {r : Int32} {Q : Option Value → iv_H → Prop} (hq : Q (some (.int r)) h) (e : fX1_border_b46 N h q0 x1 x2 x3 x4 s0 = some r) : Rn d 29 (some .int) 46 [some (.ref q0), some (.int x1), some (.int x2), some (.int x3), some (.int x4), none] [.int s0] h Q := by
  have hT := hX1_border
  unfold fX1_border_b46 at e
  refine Rn.n hT 3 (pc' := 51) (L' := [some (.ref q0), some (.int x1), some (.int x2), some (.int x3), some (.int x4), some (.int s0)]) (st' := [.int s0, .int x3]) rfl ?_
  by_cases c_14 : x3 = s0
  · rw [if_pos c_14] at e
    refine Rn.bf hT rfl rfl rfl (decide_eq_false (fun z => z c_14)) ?_
    refine Rn.n hT 1 (pc' := 55) (L' := [some (.ref q0), some (.int x1), some (.int x2), some (.int x3), some (.int x4), some (.int s0)]) (st' := [.int (0 : Int32)]) rfl ?_
    obtain rfl := Option.some.inj e
    exact Rn.ret hT rfl rfl rfl hq
  · rw [if_neg c_14] at e
    refine Rn.bt hT rfl rfl rfl (decide_eq_true c_14) ?_
    refine Rn.n hT 2 (pc' := 58) (L' := [some (.ref q0), some (.int x1), some (.int x2), some (.int x3), some (.int x4), some (.int s0)]) (st' := [.int (3 : Int32), .int x3]) rfl ?_
    by_cases c_15 : x3 = (3 : Int32)
    · rw [if_pos c_15] at e
      refine Rn.bt hT rfl rfl rfl (decide_eq_true c_15) ?_
      exact Rn.weak (ll_s (ll_s (ll_s (ll_s (ll_s (ll_s ll_e)))))) (rX1_border_b67 hd hq e)
    · rw [if_neg c_15] at e
      refine Rn.bf hT rfl rfl rfl (decide_eq_false c_15) ?_
      refine Rn.n hT 2 (pc' := 64) (L' := [some (.ref q0), some (.int x1), some (.int x2), some (.int x3), some (.int x4), some (.int s0)]) (st' := [.int (3 : Int32), .int s0]) rfl ?_
      by_cases c_16 : s0 = (3 : Int32)
      · rw [if_pos c_16] at e
        refine Rn.bf hT rfl rfl rfl (decide_eq_false (fun z => z c_16)) ?_
        exact Rn.weak (ll_s (ll_s (ll_s (ll_s (ll_s (ll_s ll_e)))))) (rX1_border_b67 hd hq e)
      · rw [if_neg c_16] at e
        refine Rn.bt hT rfl rfl rfl (decide_eq_true c_16) ?_
        refine Rn.n hT 1 (pc' := 85) (L' := [some (.ref q0), some (.int x1), some (.int x2), some (.int x3), some (.int x4), some (.int s0)]) (st' := [.int (1 : Int32)]) rfl ?_
        obtain rfl := Option.some.inj e
        exact Rn.ret hT rfl rfl rfl hq
def fX1_border (N : Nat) (h : iv_H) (q0 : Nat) (x1 : Int32) (x2 : Int32) : Option (Int32) := ((gR h 1 9 q0).bind fun v_1 => ((aI h v_1 (((4 : Int32) * x1) + x2)).bind fun v_3 => ((gR h 1 10 q0).bind fun v_5 => ((aI h v_5 (((4 : Int32) * x1) + x2)).bind fun v_7 => (if v_7 = (-1 : Int32) then (fX1_border_b46 N h q0 x1 x2 v_3 v_7 (3 : Int32)) else ((gR h 1 9 q0).bind fun v_10 => ((aI h v_10 (((4 : Int32) * v_7) + (x2 ^^^ (2 : Int32)))).bind fun v_12 => (fX1_border_b46 N h q0 x1 x2 v_3 v_7 v_12))))))))
set_option maxRecDepth 10000 in
set_option maxHeartbeats 4000000 in
theorem rX1_border {d N : Nat} (hd : 1 ≤ d) {h : iv_H} {q0 : Nat} {x1 : Int32} {x2 : Int32} {r : Int32} {Q : Option Value → iv_H → Prop} (e : fX1_border N h q0 x1 x2 = some r) (hq : Q (some (.int r)) h) : Cl d 29 [.ref q0, .int x1, .int x2] h Q := by
  obtain ⟨d, rfl⟩ : ∃ k, d = k + 1 := ⟨d - 1, by omega⟩
  have hd : 0 ≤ d := by omega
  have hT := hX1_border
  unfold fX1_border at e
  refine Cl.into (by decide) gX1_border rfl ?_
  show Rn d 29 (some .int) 0 [some (.ref q0), some (.int x1), some (.int x2), none, none, none] [] h Q
  refine Rn.n hT 1 (pc' := 1) (L' := [some (.ref q0), some (.int x1), some (.int x2), none, none, none]) (st' := [.ref q0]) rfl ?_
  obtain ⟨v_1, e_2, e⟩ := Option.bind_eq_some_iff.mp e
  refine Rn.hp hT rfl rfl (gR_hp e_2) ?_
  refine Rn.n hT 5 (pc' := 9) (L' := [some (.ref q0), some (.int x1), some (.int x2), none, none, none]) (st' := [.int (((4 : Int32) * x1) + x2), .ref v_1]) rfl ?_
  obtain ⟨v_3, e_4, e⟩ := Option.bind_eq_some_iff.mp e
  refine Rn.hp hT rfl rfl (aI_hp e_4) ?_
  refine Rn.n hT 2 (pc' := 12) (L' := [some (.ref q0), some (.int x1), some (.int x2), some (.int v_3), none, none]) (st' := [.ref q0]) rfl ?_
  obtain ⟨v_5, e_6, e⟩ := Option.bind_eq_some_iff.mp e
  refine Rn.hp hT rfl rfl (gR_hp e_6) ?_
  refine Rn.n hT 5 (pc' := 20) (L' := [some (.ref q0), some (.int x1), some (.int x2), some (.int v_3), none, none]) (st' := [.int (((4 : Int32) * x1) + x2), .ref v_5]) rfl ?_
  obtain ⟨v_7, e_8, e⟩ := Option.bind_eq_some_iff.mp e
  refine Rn.hp hT rfl rfl (aI_hp e_8) ?_
  refine Rn.n hT 3 (pc' := 26) (L' := [some (.ref q0), some (.int x1), some (.int x2), some (.int v_3), some (.int v_7), none]) (st' := [.int (-1 : Int32), .int v_7]) rfl ?_
  by_cases c_9 : v_7 = (-1 : Int32)
  · rw [if_pos c_9] at e
    refine Rn.bf hT rfl rfl rfl (decide_eq_false (fun z => z c_9)) ?_
    refine Rn.n hT 2 (pc' := 46) (L' := [some (.ref q0), some (.int x1), some (.int x2), some (.int v_3), some (.int v_7), none]) (st' := [.int (3 : Int32)]) rfl ?_
    exact Rn.weak (ll_s (ll_s (ll_s (ll_s (ll_s (ll_n ll_e)))))) (rX1_border_b46 hd hq e)
  · rw [if_neg c_9] at e
    refine Rn.bt hT rfl rfl rfl (decide_eq_true c_9) ?_
    refine Rn.n hT 1 (pc' := 34) (L' := [some (.ref q0), some (.int x1), some (.int x2), some (.int v_3), some (.int v_7), none]) (st' := [.ref q0]) rfl ?_
    obtain ⟨v_10, e_11, e⟩ := Option.bind_eq_some_iff.mp e
    refine Rn.hp hT rfl rfl (gR_hp e_11) ?_
    refine Rn.n hT 7 (pc' := 45) (L' := [some (.ref q0), some (.int x1), some (.int x2), some (.int v_3), some (.int v_7), none]) (st' := [.int (((4 : Int32) * v_7) + (x2 ^^^ (2 : Int32))), .ref v_10]) rfl ?_
    obtain ⟨v_12, e_13, e⟩ := Option.bind_eq_some_iff.mp e
    refine Rn.hp hT rfl rfl (aI_hp e_13) ?_
    exact Rn.weak (ll_s (ll_s (ll_s (ll_s (ll_s (ll_n ll_e)))))) (rX1_border_b46 hd hq e)
set_option maxRecDepth 10000 in
theorem hX1_mismatches : iv_Tb 30 tX1_mismatches := iv_tb_of (m := mX1_mismatches) rfl
set_option maxRecDepth 10000 in
theorem gX1_mismatches : PG.2 30 = some mX1_mismatches := iv_pi_of (t := tX1_mismatches) rfl (by decide)
def fX1_mismatches_b81 (N : Nat) (h : iv_H) (q0 : Nat) (x1 : Int32) (x2 : Int32) (x3 : Int32) (x4 : Int32) (s0 : Int32) (s1 : Int32) (kb : Int32 → Int32 → Option (Int32)) (kx : Int32 → Int32 → Option (Int32)) : Option (Int32) := (kb (s1 + s0) (x3 + (1 : Int32)))
set_option maxRecDepth 10000 in
set_option maxHeartbeats 4000000 in
theorem rX1_mismatches_b81 {d N : Nat} (hd : 1 ≤ d) {h : iv_H} {q0 : Nat} {x1 : Int32} {x2 : Int32} {x3 : Int32} {x4 : Int32} {s0 : Int32} {s1 : Int32} {kb : Int32 → Int32 → Option (Int32)} {kx : Int32 → Int32 → Option (Int32)} {r : Int32} {Q : Option Value → iv_H → Prop} (hb : ∀ (w1 : Int32) (w3 : Int32), kb w1 w3 = some r → Rn d 30 (some .int) 14 [some (.ref q0), some (.int w1), some (.int x2), some (.int w3), none] [] h Q) (hk : ∀ (w1 : Int32) (w3 : Int32), kx w1 w3 = some r → Rn d 30 (some .int) 89 [some (.ref q0), some (.int w1), some (.int x2), some (.int w3), none] [] h Q) (hq : Q (some (.int r)) h) (e : fX1_mismatches_b81 N h q0 x1 x2 x3 x4 s0 s1 kb kx = some r) : Rn d 30 (some .int) 81 [some (.ref q0), some (.int x1), some (.int x2), some (.int x3), some (.int x4)] [.int s0, .int s1] h Q := by
  have hT := hX1_mismatches
  unfold fX1_mismatches_b81 at e
  refine Rn.n hT 4 (pc' := 14) (L' := [some (.ref q0), some (.int (s1 + s0)), some (.int x2), some (.int (x3 + (1 : Int32))), some (.int x4)]) (st' := []) rfl ?_
  exact Rn.weak (ll_s (ll_s (ll_s (ll_s (ll_n ll_e))))) (hb (s1 + s0) (x3 + (1 : Int32)) e)
def fX1_mismatches_b63 (N : Nat) (h : iv_H) (q0 : Nat) (x1 : Int32) (x2 : Int32) (x3 : Int32) (x4 : Int32) (s0 : Int32) (s1 : Int32) (kb : Int32 → Int32 → Option (Int32)) (kx : Int32 → Int32 → Option (Int32)) : Option (Int32) := (if x3 = 0 then ((cko h q0 1).bind fun _ => (fX1_border N h q0 x4 (3 : Int32)).bind fun v_42 => (fX1_mismatches_b81 N h q0 (s1 + s0) x2 x3 x4 v_42 (s1 + s0) kb kx)) else (fX1_mismatches_b81 N h q0 (s1 + s0) x2 x3 x4 (0 : Int32) (s1 + s0) kb kx))
set_option maxRecDepth 10000 in
set_option maxHeartbeats 4000000 in
theorem rX1_mismatches_b63 {d N : Nat} (hd : 1 ≤ d) {h : iv_H} {q0 : Nat} {x1 : Int32} {x2 : Int32} {x3 : Int32} {x4 : Int32} {s0 : Int32} {s1 : Int32} {kb : Int32 → Int32 → Option (Int32)} {kx : Int32 → Int32 → Option (Int32)} {r : Int32} {Q : Option Value → iv_H → Prop} (hb : ∀ (w1 : Int32) (w3 : Int32), kb w1 w3 = some r → Rn d 30 (some .int) 14 [some (.ref q0), some (.int w1), some (.int x2), some (.int w3), none] [] h Q) (hk : ∀ (w1 : Int32) (w3 : Int32), kx w1 w3 = some r → Rn d 30 (some .int) 89 [some (.ref q0), some (.int w1), some (.int x2), some (.int w3), none] [] h Q) (hq : Q (some (.int r)) h) (e : fX1_mismatches_b63 N h q0 x1 x2 x3 x4 s0 s1 kb kx = some r) : Rn d 30 (some .int) 63 [some (.ref q0), some (.int x1), some (.int x2), some (.int x3), some (.int x4)] [.int s0, .int s1] h Q := by
  have hT := hX1_mismatches
  unfold fX1_mismatches_b63 at e
  refine Rn.n hT 4 (pc' := 67) (L' := [some (.ref q0), some (.int (s1 + s0)), some (.int x2), some (.int x3), some (.int x4)]) (st' := [.int x3, .int (s1 + s0)]) rfl ?_
  by_cases c_39 : x3 = 0
  · rw [if_pos c_39] at e
    refine Rn.bf hT rfl rfl rfl (decide_eq_false (fun z => z c_39)) ?_
    refine Rn.n hT 3 (pc' := 74) (L' := [some (.ref q0), some (.int (s1 + s0)), some (.int x2), some (.int x3), some (.int x4)]) (st' := [.int (3 : Int32), .int x4, .ref q0, .int (s1 + s0)]) rfl ?_
    obtain ⟨_, e_41, e⟩ := Option.bind_eq_some_iff.mp e
    obtain ⟨v_42, e_40, e⟩ := Option.bind_eq_some_iff.mp e
    refine Rn.call hT rfl rfl rfl (Nat.le_of_ble_eq_true rfl) (rcv_v gX1_border (by omega) e_41) (rX1_border (by omega) e_40 ?_)
    show Rn d _ _ 77 [some (.ref q0), some (.int (s1 + s0)), some (.int x2), some (.int x3), some (.int x4)] [.int v_42, .int (s1 + s0)] h Q
    refine Rn.n hT 1 (pc' := 81) (L' := [some (.ref q0), some (.int (s1 + s0)), some (.int x2), some (.int x3), some (.int x4)]) (st' := [.int v_42, .int (s1 + s0)]) rfl ?_
    exact Rn.weak (ll_s (ll_s (ll_s (ll_s (ll_s ll_e))))) (rX1_mismatches_b81 hd hb hk hq e)
  · rw [if_neg c_39] at e
    refine Rn.bt hT rfl rfl rfl (decide_eq_true c_39) ?_
    refine Rn.n hT 1 (pc' := 81) (L' := [some (.ref q0), some (.int (s1 + s0)), some (.int x2), some (.int x3), some (.int x4)]) (st' := [.int (0 : Int32), .int (s1 + s0)]) rfl ?_
    exact Rn.weak (ll_s (ll_s (ll_s (ll_s (ll_s ll_e))))) (rX1_mismatches_b81 hd hb hk hq e)
def fX1_mismatches_l14 (N : Nat) (h : iv_H) (q0 : Nat) (x2 : Int32) (kx : Int32 → Int32 → Option (Int32)) : Nat → Int32 → Int32 → Option (Int32)
  | 0, _, _ => none
  | n + 1, x1, x3 => ((gI h 1 0 q0).bind fun v_26 => (if v_26 ≤ x3 then (kx x1 x3) else ((cko h q0 1).bind fun _ => (fX1_border N h q0 (((4 : Int32) * x2) + x3) (1 : Int32)).bind fun v_31 => ((cko h q0 1).bind fun _ => (fX1_border N h q0 (((4 : Int32) * x2) + x3) (2 : Int32)).bind fun v_34 => (if x2 = 0 then ((cko h q0 1).bind fun _ => (fX1_border N h q0 (((4 : Int32) * x2) + x3) (0 : Int32)).bind fun v_38 => (fX1_mismatches_b63 N h q0 (x1 + (v_31 + v_34)) x2 x3 (((4 : Int32) * x2) + x3) v_38 (x1 + (v_31 + v_34)) (fX1_mismatches_l14 N h q0 x2 kx n) kx)) else (fX1_mismatches_b63 N h q0 (x1 + (v_31 + v_34)) x2 x3 (((4 : Int32) * x2) + x3) (0 : Int32) (x1 + (v_31 + v_34)) (fX1_mismatches_l14 N h q0 x2 kx n) kx))))))
set_option maxRecDepth 10000 in
set_option maxHeartbeats 4000000 in
theorem rX1_mismatches_l14 {d N : Nat} (hd : 1 ≤ d) {h : iv_H} {q0 : Nat} {x2 : Int32} {kx : Int32 → Int32 → Option (Int32)} {r : Int32} {Q : Option Value → iv_H → Prop} (hk : ∀ (x1 : Int32) (x3 : Int32), kx x1 x3 = some r → Rn d 30 (some .int) 89 [some (.ref q0), some (.int x1), some (.int x2), some (.int x3), none] [] h Q) (hq : Q (some (.int r)) h) : ∀ (n : Nat) (x1 : Int32) (x3 : Int32), fX1_mismatches_l14 N h q0 x2 kx n x1 x3 = some r → Rn d 30 (some .int) 14 [some (.ref q0), some (.int x1), some (.int x2), some (.int x3), none] [] h Q := by
  have hT := hX1_mismatches
  intro n
  induction n with
  | zero =>
    intro x1 x3 e
    rw [fX1_mismatches_l14] at e
    cases e
  | succ n ih =>
    intro x1 x3 e
    rw [fX1_mismatches_l14] at e
    refine Rn.n hT 2 (pc' := 16) (L' := [some (.ref q0), some (.int x1), some (.int x2), some (.int x3), none]) (st' := [.ref q0, .int x3]) rfl ?_
    obtain ⟨v_26, e_27, e⟩ := Option.bind_eq_some_iff.mp e
    refine Rn.hp hT rfl rfl (gI_hp e_27) ?_
    by_cases c_28 : v_26 ≤ x3
    · rw [if_pos c_28] at e
      refine Rn.bt hT rfl rfl rfl (decide_eq_true c_28) ?_
      exact Rn.weak (ll_s (ll_s (ll_s (ll_s (ll_n ll_e))))) (hk x1 x3 e)
    · rw [if_neg c_28] at e
      refine Rn.bf hT rfl rfl rfl (decide_eq_false c_28) ?_
      refine Rn.n hT 10 (pc' := 34) (L' := [some (.ref q0), some (.int x1), some (.int x2), some (.int x3), some (.int (((4 : Int32) * x2) + x3))]) (st' := [.int (1 : Int32), .int (((4 : Int32) * x2) + x3), .ref q0, .int x1]) rfl ?_
      obtain ⟨_, e_30, e⟩ := Option.bind_eq_some_iff.mp e
      obtain ⟨v_31, e_29, e⟩ := Option.bind_eq_some_iff.mp e
      refine Rn.call hT rfl rfl rfl (Nat.le_of_ble_eq_true rfl) (rcv_v gX1_border (by omega) e_30) (rX1_border (by omega) e_29 ?_)
      show Rn d _ _ 37 [some (.ref q0), some (.int x1), some (.int x2), some (.int x3), some (.int (((4 : Int32) * x2) + x3))] [.int v_31, .int x1] h Q
      refine Rn.n hT 3 (pc' := 41) (L' := [some (.ref q0), some (.int x1), some (.int x2), some (.int x3), some (.int (((4 : Int32) * x2) + x3))]) (st' := [.int (2 : Int32), .int (((4 : Int32) * x2) + x3), .ref q0, .int v_31, .int x1]) rfl ?_
      obtain ⟨_, e_33, e⟩ := Option.bind_eq_some_iff.mp e
      obtain ⟨v_34, e_32, e⟩ := Option.bind_eq_some_iff.mp e
      refine Rn.call hT rfl rfl rfl (Nat.le_of_ble_eq_true rfl) (rcv_v gX1_border (by omega) e_33) (rX1_border (by omega) e_32 ?_)
      show Rn d _ _ 44 [some (.ref q0), some (.int x1), some (.int x2), some (.int x3), some (.int (((4 : Int32) * x2) + x3))] [.int v_34, .int v_31, .int x1] h Q
      refine Rn.n hT 5 (pc' := 49) (L' := [some (.ref q0), some (.int (x1 + (v_31 + v_34))), some (.int x2), some (.int x3), some (.int (((4 : Int32) * x2) + x3))]) (st' := [.int x2, .int (x1 + (v_31 + v_34))]) rfl ?_
      by_cases c_35 : x2 = 0
      · rw [if_pos c_35] at e
        refine Rn.bf hT rfl rfl rfl (decide_eq_false (fun z => z c_35)) ?_
        refine Rn.n hT 3 (pc' := 56) (L' := [some (.ref q0), some (.int (x1 + (v_31 + v_34))), some (.int x2), some (.int x3), some (.int (((4 : Int32) * x2) + x3))]) (st' := [.int (0 : Int32), .int (((4 : Int32) * x2) + x3), .ref q0, .int (x1 + (v_31 + v_34))]) rfl ?_
        obtain ⟨_, e_37, e⟩ := Option.bind_eq_some_iff.mp e
        obtain ⟨v_38, e_36, e⟩ := Option.bind_eq_some_iff.mp e
        refine Rn.call hT rfl rfl rfl (Nat.le_of_ble_eq_true rfl) (rcv_v gX1_border (by omega) e_37) (rX1_border (by omega) e_36 ?_)
        show Rn d _ _ 59 [some (.ref q0), some (.int (x1 + (v_31 + v_34))), some (.int x2), some (.int x3), some (.int (((4 : Int32) * x2) + x3))] [.int v_38, .int (x1 + (v_31 + v_34))] h Q
        refine Rn.n hT 1 (pc' := 63) (L' := [some (.ref q0), some (.int (x1 + (v_31 + v_34))), some (.int x2), some (.int x3), some (.int (((4 : Int32) * x2) + x3))]) (st' := [.int v_38, .int (x1 + (v_31 + v_34))]) rfl ?_
        exact Rn.weak (ll_s (ll_s (ll_s (ll_s (ll_s ll_e))))) (rX1_mismatches_b63 hd ih hk hq e)
      · rw [if_neg c_35] at e
        refine Rn.bt hT rfl rfl rfl (decide_eq_true c_35) ?_
        refine Rn.n hT 1 (pc' := 63) (L' := [some (.ref q0), some (.int (x1 + (v_31 + v_34))), some (.int x2), some (.int x3), some (.int (((4 : Int32) * x2) + x3))]) (st' := [.int (0 : Int32), .int (x1 + (v_31 + v_34))]) rfl ?_
        exact Rn.weak (ll_s (ll_s (ll_s (ll_s (ll_s ll_e))))) (rX1_mismatches_b63 hd ih hk hq e)
def fX1_mismatches_l4 (N : Nat) (h : iv_H) (q0 : Nat) (kx : Int32 → Int32 → Option (Int32)) : Nat → Int32 → Int32 → Option (Int32)
  | 0, _, _ => none
  | n + 1, x1, x2 => ((gI h 1 1 q0).bind fun v_21 => (if v_21 ≤ x2 then (kx x1 x2) else (fX1_mismatches_l14 N h q0 x2 (fun (z_24 : Int32) (z_25 : Int32) => (fX1_mismatches_l4 N h q0 kx n z_24 (x2 + (1 : Int32)))) N x1 (0 : Int32))))
set_option maxRecDepth 10000 in
set_option maxHeartbeats 4000000 in
theorem rX1_mismatches_l4 {d N : Nat} (hd : 1 ≤ d) {h : iv_H} {q0 : Nat} {kx : Int32 → Int32 → Option (Int32)} {r : Int32} {Q : Option Value → iv_H → Prop} (hk : ∀ (x1 : Int32) (x2 : Int32), kx x1 x2 = some r → Rn d 30 (some .int) 95 [some (.ref q0), some (.int x1), some (.int x2), none, none] [] h Q) (hq : Q (some (.int r)) h) : ∀ (n : Nat) (x1 : Int32) (x2 : Int32), fX1_mismatches_l4 N h q0 kx n x1 x2 = some r → Rn d 30 (some .int) 4 [some (.ref q0), some (.int x1), some (.int x2), none, none] [] h Q := by
  have hT := hX1_mismatches
  intro n
  induction n with
  | zero =>
    intro x1 x2 e
    rw [fX1_mismatches_l4] at e
    cases e
  | succ n ih =>
    intro x1 x2 e
    rw [fX1_mismatches_l4] at e
    refine Rn.n hT 2 (pc' := 6) (L' := [some (.ref q0), some (.int x1), some (.int x2), none, none]) (st' := [.ref q0, .int x2]) rfl ?_
    obtain ⟨v_21, e_22, e⟩ := Option.bind_eq_some_iff.mp e
    refine Rn.hp hT rfl rfl (gI_hp e_22) ?_
    by_cases c_23 : v_21 ≤ x2
    · rw [if_pos c_23] at e
      refine Rn.bt hT rfl rfl rfl (decide_eq_true c_23) ?_
      exact Rn.weak (ll_s (ll_s (ll_s (ll_n (ll_n ll_e))))) (hk x1 x2 e)
    · rw [if_neg c_23] at e
      refine Rn.bf hT rfl rfl rfl (decide_eq_false c_23) ?_
      refine Rn.n hT 2 (pc' := 14) (L' := [some (.ref q0), some (.int x1), some (.int x2), some (.int (0 : Int32)), none]) (st' := []) rfl ?_
      refine Rn.weak (ll_s (ll_s (ll_s (ll_s (ll_n ll_e))))) (rX1_mismatches_l14 hd (fun z_24 z_25 e => ?_) hq N x1 (0 : Int32) e)
      try beta_reduce at e
      refine Rn.n hT 2 (pc' := 4) (L' := [some (.ref q0), some (.int z_24), some (.int (x2 + (1 : Int32))), some (.int z_25), none]) (st' := []) rfl ?_
      exact Rn.weak (ll_s (ll_s (ll_s (ll_n (ll_n ll_e))))) (ih z_24 (x2 + (1 : Int32)) e)
def fX1_mismatches (N : Nat) (h : iv_H) (q0 : Nat) : Option (Int32) := (fX1_mismatches_l4 N h q0 (fun (z_19 : Int32) (z_20 : Int32) => (some z_19)) N (0 : Int32) (0 : Int32))
set_option maxRecDepth 10000 in
set_option maxHeartbeats 4000000 in
theorem rX1_mismatches {d N : Nat} (hd : 2 ≤ d) {h : iv_H} {q0 : Nat} {r : Int32} {Q : Option Value → iv_H → Prop} (e : fX1_mismatches N h q0 = some r) (hq : Q (some (.int r)) h) : Cl d 30 [.ref q0] h Q := by
  obtain ⟨d, rfl⟩ : ∃ k, d = k + 1 := ⟨d - 1, by omega⟩
  have hd : 1 ≤ d := by omega
  have hT := hX1_mismatches
  unfold fX1_mismatches at e
  refine Cl.into (by decide) gX1_mismatches rfl ?_
  show Rn d 30 (some .int) 0 [some (.ref q0), none, none, none, none] [] h Q
  refine Rn.n hT 4 (pc' := 4) (L' := [some (.ref q0), some (.int (0 : Int32)), some (.int (0 : Int32)), none, none]) (st' := []) rfl ?_
  refine Rn.weak (ll_s (ll_s (ll_s (ll_n (ll_n ll_e))))) (rX1_mismatches_l4 hd (fun z_19 z_20 e => ?_) hq N (0 : Int32) (0 : Int32) e)
  try beta_reduce at e
  refine Rn.n hT 1 (pc' := 96) (L' := [some (.ref q0), some (.int z_19), some (.int z_20), none, none]) (st' := [.int z_19]) rfl ?_
  obtain rfl := Option.some.inj e
  exact Rn.ret hT rfl rfl rfl hq
