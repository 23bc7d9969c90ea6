-- MIRRORS, 10 (written by wip/whole/mir.py)
set_option maxRecDepth 10000 in
theorem hX12_choice : iv_Tb 272 tX12_choice := iv_tb_of (m := mX12_choice) rfl
set_option maxRecDepth 10000 in
theorem gX12_choice : PG.2 272 = some mX12_choice := iv_pi_of (t := tX12_choice) rfl (by decide)
def fX12_choice_b23 (N : Nat) (h : iv_H)   : Option (Int32 × iv_H) := (some ((-1 : Int32), h))
set_option maxRecDepth 10000 in
set_option maxHeartbeats 4000000 in
theorem rX12_choice_b23 {d N : Nat} (hd : 9 ≤ d) {h : iv_H}   {r : Int32 × iv_H} {Q : Option Value → iv_H → Prop} (hq : Q (some (.int r.1)) r.2) (e : fX12_choice_b23 N h   = some r) : Rn d 272 (some .int) 23 [none, none, none, none] [] h Q := by
  have hT := hX12_choice
  unfold fX12_choice_b23 at e
  refine Rn.n hT 1 (pc' := 24) (L' := [none, none, none, none]) (st' := [.int (-1 : Int32)]) rfl ?_
  obtain rfl := Option.some.inj e
  exact Rn.ret hT rfl rfl rfl hq
def fX12_choice_b55 (N : Nat) (h : iv_H)  (s0 : Int32) : Option (Int32 × iv_H) := (some (s0, h))
set_option maxRecDepth 10000 in
set_option maxHeartbeats 4000000 in
theorem rX12_choice_b55 {d N : Nat} (hd : 9 ≤ d) {h : iv_H}  {s0 : Int32} {r : Int32 × iv_H} {Q : Option Value → iv_H → Prop} (hq : Q (some (.int r.1)) r.2) (e : fX12_choice_b55 N h  s0 = some r) : Rn d 272 (some .int) 55 [none, none, none, none] [.int s0] h Q := by
  have hT := hX12_choice
  unfold fX12_choice_b55 at e
  obtain rfl := Option.some.inj e
  exact Rn.ret hT rfl rfl rfl hq
def fX12_choice (N : Nat) (h : iv_H) (q0 : Nat) (x1 : Int32) (x2 : Int32) : Option (Int32 × iv_H) := ((cko h q0 12).bind fun _ => (fX12_isPalace N h q0).bind fun v_7802 => (if v_7802 = 0 then (fX12_choice_b23 N h) else (if x1 < 0 then (fX12_choice_b23 N h) else ((fX12_in N h ((x2).toInt64) (0 : Int64) (3 : Int64)).bind fun v_7806 => (if v_7806 = 0 then (fX12_choice_b23 N h) else ((cko h q0 12).bind fun _ => (fX12_codeAt N h q0 x1).bind fun p_7818 => (fun (v_7810 : Int32) (h_7811 : iv_H) => (if v_7810 = (-1 : Int32) then (some ((-1 : Int32), h_7811)) else (if x2 = (3 : Int32) then ((gI h_7811 12 48 q0).bind fun v_7816 => (fX12_choice_b55 N h_7811 v_7816)) else ((fX12_part N h_7811 v_7810 x2).bind fun v_7815 => (fX12_choice_b55 N h_7811 v_7815))))) p_7818.1 p_7818.2))))))
set_option maxRecDepth 10000 in
set_option maxHeartbeats 4000000 in
theorem rX12_choice {d N : Nat} (hd : 10 ≤ d) {h : iv_H} {q0 : Nat} {x1 : Int32} {x2 : Int32} {r : Int32 × iv_H} {Q : Option Value → iv_H → Prop} (e : fX12_choice N h q0 x1 x2 = some r) (hq : Q (some (.int r.1)) r.2) : Cl d 272 [.ref q0, .int x1, .int x2] h Q := by
  obtain ⟨d, rfl⟩ : ∃ k, d = k + 1 := ⟨d - 1, by omega⟩
  have hd : 9 ≤ d := by omega
  have hT := hX12_choice
  unfold fX12_choice at e
  refine Cl.into (by decide) gX12_choice rfl ?_
  show Rn d 272 (some .int) 0 [some (.ref q0), some (.int x1), some (.int x2), none] [] h Q
  refine Rn.n hT 1 (pc' := 1) (L' := [some (.ref q0), some (.int x1), some (.int x2), none]) (st' := [.ref q0]) rfl ?_
  obtain ⟨_, e_7801, e⟩ := Option.bind_eq_some_iff.mp e
  obtain ⟨v_7802, e_7800, e⟩ := Option.bind_eq_some_iff.mp e
  refine Rn.call hT rfl rfl rfl (Nat.le_of_ble_eq_true rfl) (rcv_v gX12_isPalace (by omega) e_7801) (rX12_isPalace (by omega) e_7800 ?_)
  show Rn d _ _ 4 [some (.ref q0), some (.int x1), some (.int x2), none] [.int v_7802] h Q
  by_cases c_7803 : v_7802 = 0
  · rw [if_pos c_7803] at e
    refine Rn.bt hT rfl rfl rfl (decide_eq_true c_7803) ?_
    exact Rn.weak (ll_n (ll_n (ll_n (ll_n ll_e)))) (rX12_choice_b23 hd hq e)
  · rw [if_neg c_7803] at e
    refine Rn.bf hT rfl rfl rfl (decide_eq_false c_7803) ?_
    refine Rn.n hT 1 (pc' := 8) (L' := [some (.ref q0), some (.int x1), some (.int x2), none]) (st' := [.int x1]) rfl ?_
    by_cases c_7804 : x1 < 0
    · rw [if_pos c_7804] at e
      refine Rn.bt hT rfl rfl rfl (decide_eq_true c_7804) ?_
      exact Rn.weak (ll_n (ll_n (ll_n (ll_n ll_e)))) (rX12_choice_b23 hd hq e)
    · rw [if_neg c_7804] at e
      refine Rn.bf hT rfl rfl rfl (decide_eq_false c_7804) ?_
      refine Rn.n hT 4 (pc' := 17) (L' := [some (.ref q0), some (.int x1), some (.int x2), none]) (st' := [.long (3 : Int64), .long (0 : Int64), .long ((x2).toInt64)]) rfl ?_
      obtain ⟨v_7806, e_7805, e⟩ := Option.bind_eq_some_iff.mp e
      refine Rn.call hT rfl rfl rfl (Nat.le_of_ble_eq_true rfl) rfl (rX12_in (by omega) e_7805 ?_)
      show Rn d _ _ 20 [some (.ref q0), some (.int x1), some (.int x2), none] [.int v_7806] h Q
      by_cases c_7807 : v_7806 = 0
      · rw [if_pos c_7807] at e
        refine Rn.bf hT rfl rfl rfl (decide_eq_false (fun z => z c_7807)) ?_
        exact Rn.weak (ll_n (ll_n (ll_n (ll_n ll_e)))) (rX12_choice_b23 hd hq e)
      · rw [if_neg c_7807] at e
        refine Rn.bt hT rfl rfl rfl (decide_eq_true c_7807) ?_
        refine Rn.n hT 2 (pc' := 27) (L' := [some (.ref q0), some (.int x1), some (.int x2), none]) (st' := [.int x1, .ref q0]) rfl ?_
        obtain ⟨_, e_7809, e⟩ := Option.bind_eq_some_iff.mp e
        obtain ⟨⟨v_7810, h_7811⟩, e_7808, e⟩ := Option.bind_eq_some_iff.mp e
        try dsimp only at e
        try dsimp only at e
        refine Rn.call hT rfl rfl rfl (Nat.le_of_ble_eq_true rfl) (rcv_v gX12_codeAt (by omega) e_7809) (rX12_codeAt (by omega) e_7808 ?_)
        show Rn d _ _ 30 [some (.ref q0), some (.int x1), some (.int x2), none] [.int v_7810] h_7811 Q
        refine Rn.n hT 3 (pc' := 33) (L' := [some (.ref q0), some (.int x1), some (.int x2), some (.int v_7810)]) (st' := [.int (-1 : Int32), .int v_7810]) rfl ?_
        by_cases c_7812 : v_7810 = (-1 : Int32)
        · rw [if_pos c_7812] at e
          refine Rn.bf hT rfl rfl rfl (decide_eq_false (fun z => z c_7812)) ?_
          refine Rn.n hT 1 (pc' := 37) (L' := [some (.ref q0), some (.int x1), some (.int x2), some (.int v_7810)]) (st' := [.int (-1 : Int32)]) rfl ?_
          obtain rfl := Option.some.inj e
          exact Rn.ret hT rfl rfl rfl hq
        · rw [if_neg c_7812] at e
          refine Rn.bt hT rfl rfl rfl (decide_eq_true c_7812) ?_
          refine Rn.n hT 2 (pc' := 40) (L' := [some (.ref q0), some (.int x1), some (.int x2), some (.int v_7810)]) (st' := [.int (3 : Int32), .int x2]) rfl ?_
          by_cases c_7813 : x2 = (3 : Int32)
          · rw [if_pos c_7813] at e
            refine Rn.bf hT rfl rfl rfl (decide_eq_false (fun z => z c_7813)) ?_
            refine Rn.n hT 1 (pc' := 44) (L' := [some (.ref q0), some (.int x1), some (.int x2), some (.int v_7810)]) (st' := [.ref q0]) rfl ?_
            obtain ⟨v_7816, e_7817, e⟩ := Option.bind_eq_some_iff.mp e
            refine Rn.hp hT rfl rfl (gI_hp e_7817) ?_
            refine Rn.n hT 1 (pc' := 55) (L' := [some (.ref q0), some (.int x1), some (.int x2), some (.int v_7810)]) (st' := [.int v_7816]) rfl ?_
            exact Rn.weak (ll_n (ll_n (ll_n (ll_n ll_e)))) (rX12_choice_b55 hd hq e)
          · rw [if_neg c_7813] at e
            refine Rn.bt hT rfl rfl rfl (decide_eq_true c_7813) ?_
            refine Rn.n hT 2 (pc' := 52) (L' := [some (.ref q0), some (.int x1), some (.int x2), some (.int v_7810)]) (st' := [.int x2, .int v_7810]) rfl ?_
            obtain ⟨v_7815, e_7814, e⟩ := Option.bind_eq_some_iff.mp e
            refine Rn.call hT rfl rfl rfl (Nat.le_of_ble_eq_true rfl) rfl (rX12_part (by omega) e_7814 ?_)
            show Rn d _ _ 55 [some (.ref q0), some (.int x1), some (.int x2), some (.int v_7810)] [.int v_7815] h_7811 Q
            exact Rn.weak (ll_n (ll_n (ll_n (ll_n ll_e)))) (rX12_choice_b55 hd hq e)
set_option maxRecDepth 10000 in
theorem hX12_brick : iv_Tb 273 tX12_brick := iv_tb_of (m := mX12_brick) rfl
set_option maxRecDepth 10000 in
theorem gX12_brick : PG.2 273 = some mX12_brick := iv_pi_of (t := tX12_brick) rfl (by decide)
def fX12_brick_b42 (N : Nat) (h : iv_H)   : Option (Int32 × iv_H) := (some ((-2 : Int32), h))
set_option maxRecDepth 10000 in
set_option maxHeartbeats 4000000 in
theorem rX12_brick_b42 {d N : Nat} (hd : 2 ≤ d) {h : iv_H}   {r : Int32 × iv_H} {Q : Option Value → iv_H → Prop} (hq : Q (some (.int r.1)) r.2) (e : fX12_brick_b42 N h   = some r) : Rn d 273 (some .int) 42 [none, none, none, none, none] [] h Q := by
  have hT := hX12_brick
  unfold fX12_brick_b42 at e
  refine Rn.n hT 1 (pc' := 44) (L' := [none, none, none, none, none]) (st' := [.int (-2 : Int32)]) rfl ?_
  obtain rfl := Option.some.inj e
  exact Rn.ret hT rfl rfl rfl hq
def fX12_brick (N : Nat) (h : iv_H) (q0 : Nat) (x1 : Int32) (x2 : Int32) (x3 : Int32) : Option (Int32 × iv_H) := ((cko h q0 12).bind fun _ => (fX12_isRoom N h q0 x1).bind fun v_7821 => (if v_7821 = 0 then (fX12_brick_b42 N h) else ((fX12_in N h ((x2).toInt64) (0 : Int64) (3 : Int64)).bind fun v_7824 => (if v_7824 = 0 then (fX12_brick_b42 N h) else ((fX12_in N h ((x3).toInt64) (0 : Int64) (6 : Int64)).bind fun v_7827 => (if v_7827 = 0 then (fX12_brick_b42 N h) else ((cko h q0 12).bind fun _ => (fX12_sideOf N h q0 x1 x2).bind fun v_7831 => (if v_7831 = x3 then (fX12_brick_b42 N h) else ((cko h q0 12).bind fun _ => (fX12_sideOf N h q0 x1 x2).bind fun v_7835 => ((gR h 12 2 q0).bind fun v_7836 => ((cko h q0 12).bind fun _ => (fX12_spotOf N h q0 x1 x2).bind fun v_7840 => ((wI h v_7836 v_7840 x3).bind fun h_7841 => ((gR h_7841 12 1 q0).bind fun v_7843 => ((wI h_7841 v_7843 (7 : Int32) (0 : Int32)).bind fun h_7845 => (some (v_7835, h_7845))))))))))))))))
set_option maxRecDepth 10000 in
set_option maxHeartbeats 4000000 in
theorem rX12_brick {d N : Nat} (hd : 3 ≤ d) {h : iv_H} {q0 : Nat} {x1 : Int32} {x2 : Int32} {x3 : Int32} {r : Int32 × iv_H} {Q : Option Value → iv_H → Prop} (e : fX12_brick N h q0 x1 x2 x3 = some r) (hq : Q (some (.int r.1)) r.2) : Cl d 273 [.ref q0, .int x1, .int x2, .int x3] h Q := by
  obtain ⟨d, rfl⟩ : ∃ k, d = k + 1 := ⟨d - 1, by omega⟩
  have hd : 2 ≤ d := by omega
  have hT := hX12_brick
  unfold fX12_brick at e
  refine Cl.into (by decide) gX12_brick rfl ?_
  show Rn d 273 (some .int) 0 [some (.ref q0), some (.int x1), some (.int x2), some (.int x3), none] [] h Q
  refine Rn.n hT 2 (pc' := 2) (L' := [some (.ref q0), some (.int x1), some (.int x2), some (.int x3), none]) (st' := [.int x1, .ref q0]) rfl ?_
  obtain ⟨_, e_7820, e⟩ := Option.bind_eq_some_iff.mp e
  obtain ⟨v_7821, e_7819, e⟩ := Option.bind_eq_some_iff.mp e
  refine Rn.call hT rfl rfl rfl (Nat.le_of_ble_eq_true rfl) (rcv_v gX12_isRoom (by omega) e_7820) (rX12_isRoom (by omega) e_7819 ?_)
  show Rn d _ _ 5 [some (.ref q0), some (.int x1), some (.int x2), some (.int x3), none] [.int v_7821] h Q
  by_cases c_7822 : v_7821 = 0
  · rw [if_pos c_7822] at e
    refine Rn.bt hT rfl rfl rfl (decide_eq_true c_7822) ?_
    exact Rn.weak (ll_n (ll_n (ll_n (ll_n (ll_n ll_e))))) (rX12_brick_b42 hd hq e)
  · rw [if_neg c_7822] at e
    refine Rn.bf hT rfl rfl rfl (decide_eq_false c_7822) ?_
    refine Rn.n hT 4 (pc' := 14) (L' := [some (.ref q0), some (.int x1), some (.int x2), some (.int x3), none]) (st' := [.long (3 : Int64), .long (0 : Int64), .long ((x2).toInt64)]) rfl ?_
    obtain ⟨v_7824, e_7823, e⟩ := Option.bind_eq_some_iff.mp e
    refine Rn.call hT rfl rfl rfl (Nat.le_of_ble_eq_true rfl) rfl (rX12_in (by omega) e_7823 ?_)
    show Rn d _ _ 17 [some (.ref q0), some (.int x1), some (.int x2), some (.int x3), none] [.int v_7824] h Q
    by_cases c_7825 : v_7824 = 0
    · rw [if_pos c_7825] at e
      refine Rn.bt hT rfl rfl rfl (decide_eq_true c_7825) ?_
      exact Rn.weak (ll_n (ll_n (ll_n (ll_n (ll_n ll_e))))) (rX12_brick_b42 hd hq e)
    · rw [if_neg c_7825] at e
      refine Rn.bf hT rfl rfl rfl (decide_eq_false c_7825) ?_
      refine Rn.n hT 4 (pc' := 26) (L' := [some (.ref q0), some (.int x1), some (.int x2), some (.int x3), none]) (st' := [.long (6 : Int64), .long (0 : Int64), .long ((x3).toInt64)]) rfl ?_
      obtain ⟨v_7827, e_7826, e⟩ := Option.bind_eq_some_iff.mp e
      refine Rn.call hT rfl rfl rfl (Nat.le_of_ble_eq_true rfl) rfl (rX12_in (by omega) e_7826 ?_)
      show Rn d _ _ 29 [some (.ref q0), some (.int x1), some (.int x2), some (.int x3), none] [.int v_7827] h Q
      by_cases c_7828 : v_7827 = 0
      · rw [if_pos c_7828] at e
        refine Rn.bt hT rfl rfl rfl (decide_eq_true c_7828) ?_
        exact Rn.weak (ll_n (ll_n (ll_n (ll_n (ll_n ll_e))))) (rX12_brick_b42 hd hq e)
      · rw [if_neg c_7828] at e
        refine Rn.bf hT rfl rfl rfl (decide_eq_false c_7828) ?_
        refine Rn.n hT 3 (pc' := 35) (L' := [some (.ref q0), some (.int x1), some (.int x2), some (.int x3), none]) (st' := [.int x2, .int x1, .ref q0]) rfl ?_
        obtain ⟨_, e_7830, e⟩ := Option.bind_eq_some_iff.mp e
        obtain ⟨v_7831, e_7829, e⟩ := Option.bind_eq_some_iff.mp e
        refine Rn.call hT rfl rfl rfl (Nat.le_of_ble_eq_true rfl) (rcv_v gX12_sideOf (by omega) e_7830) (rX12_sideOf (by omega) e_7829 ?_)
        show Rn d _ _ 38 [some (.ref q0), some (.int x1), some (.int x2), some (.int x3), none] [.int v_7831] h Q
        refine Rn.n hT 1 (pc' := 39) (L' := [some (.ref q0), some (.int x1), some (.int x2), some (.int x3), none]) (st' := [.int x3, .int v_7831]) rfl ?_
        by_cases c_7832 : v_7831 = x3
        · rw [if_pos c_7832] at e
          refine Rn.bf hT rfl rfl rfl (decide_eq_false (fun z => z c_7832)) ?_
          exact Rn.weak (ll_n (ll_n (ll_n (ll_n (ll_n ll_e))))) (rX12_brick_b42 hd hq e)
        · rw [if_neg c_7832] at e
          refine Rn.bt hT rfl rfl rfl (decide_eq_true c_7832) ?_
          refine Rn.n hT 3 (pc' := 48) (L' := [some (.ref q0), some (.int x1), some (.int x2), some (.int x3), none]) (st' := [.int x2, .int x1, .ref q0]) rfl ?_
          obtain ⟨_, e_7834, e⟩ := Option.bind_eq_some_iff.mp e
          obtain ⟨v_7835, e_7833, e⟩ := Option.bind_eq_some_iff.mp e
          refine Rn.call hT rfl rfl rfl (Nat.le_of_ble_eq_true rfl) (rcv_v gX12_sideOf (by omega) e_7834) (rX12_sideOf (by omega) e_7833 ?_)
          show Rn d _ _ 51 [some (.ref q0), some (.int x1), some (.int x2), some (.int x3), none] [.int v_7835] h Q
          refine Rn.n hT 2 (pc' := 54) (L' := [some (.ref q0), some (.int x1), some (.int x2), some (.int x3), some (.int v_7835)]) (st' := [.ref q0]) rfl ?_
          obtain ⟨v_7836, e_7837, e⟩ := Option.bind_eq_some_iff.mp e
          refine Rn.hp hT rfl rfl (gR_hp e_7837) ?_
          refine Rn.n hT 3 (pc' := 60) (L' := [some (.ref q0), some (.int x1), some (.int x2), some (.int x3), some (.int v_7835)]) (st' := [.int x2, .int x1, .ref q0, .ref v_7836]) rfl ?_
          obtain ⟨_, e_7839, e⟩ := Option.bind_eq_some_iff.mp e
          obtain ⟨v_7840, e_7838, e⟩ := Option.bind_eq_some_iff.mp e
          refine Rn.call hT rfl rfl rfl (Nat.le_of_ble_eq_true rfl) (rcv_v gX12_spotOf (by omega) e_7839) (rX12_spotOf (by omega) e_7838 ?_)
          show Rn d _ _ 63 [some (.ref q0), some (.int x1), some (.int x2), some (.int x3), some (.int v_7835)] [.int v_7840, .ref v_7836] h Q
          refine Rn.n hT 1 (pc' := 64) (L' := [some (.ref q0), some (.int x1), some (.int x2), some (.int x3), some (.int v_7835)]) (st' := [.int x3, .int v_7840, .ref v_7836]) rfl ?_
          obtain ⟨h_7841, e_7842, e⟩ := Option.bind_eq_some_iff.mp e
          refine Rn.hp hT rfl rfl (wI_hp e_7842) ?_
          refine Rn.n hT 1 (pc' := 66) (L' := [some (.ref q0), some (.int x1), some (.int x2), some (.int x3), some (.int v_7835)]) (st' := [.ref q0]) rfl ?_
          obtain ⟨v_7843, e_7844, e⟩ := Option.bind_eq_some_iff.mp e
          refine Rn.hp hT rfl rfl (gR_hp e_7844) ?_
          refine Rn.n hT 2 (pc' := 72) (L' := [some (.ref q0), some (.int x1), some (.int x2), some (.int x3), some (.int v_7835)]) (st' := [.int (0 : Int32), .int (7 : Int32), .ref v_7843]) rfl ?_
          obtain ⟨h_7845, e_7846, e⟩ := Option.bind_eq_some_iff.mp e
          refine Rn.hp hT rfl rfl (wI_hp e_7846) ?_
          refine Rn.n hT 1 (pc' := 75) (L' := [some (.ref q0), some (.int x1), some (.int x2), some (.int x3), some (.int v_7835)]) (st' := [.int v_7835]) rfl ?_
          obtain rfl := Option.some.inj e
          exact Rn.ret hT rfl rfl rfl hq
set_option maxRecDepth 10000 in
theorem hX12_lay : iv_Tb 274 tX12_lay := iv_tb_of (m := mX12_lay) rfl
set_option maxRecDepth 10000 in
theorem gX12_lay : PG.2 274 = some mX12_lay := iv_pi_of (t := tX12_lay) rfl (by decide)
def fX12_lay_b44 (N : Nat) (h : iv_H)   : Option (Int32 × iv_H) := (some ((-2 : Int32), h))
set_option maxRecDepth 10000 in
set_option maxHeartbeats 4000000 in
theorem rX12_lay_b44 {d N : Nat} (hd : 2 ≤ d) {h : iv_H}   {r : Int32 × iv_H} {Q : Option Value → iv_H → Prop} (hq : Q (some (.int r.1)) r.2) (e : fX12_lay_b44 N h   = some r) : Rn d 274 (some .int) 44 [none, none, none, none] [] h Q := by
  have hT := hX12_lay
  unfold fX12_lay_b44 at e
  refine Rn.n hT 1 (pc' := 46) (L' := [none, none, none, none]) (st' := [.int (-2 : Int32)]) rfl ?_
  obtain rfl := Option.some.inj e
  exact Rn.ret hT rfl rfl rfl hq
def fX12_lay_b32 (N : Nat) (h : iv_H) (q0 : Nat) (x1 : Int32) (x2 : Int32)  : Option (Int32 × iv_H) := ((gR h 12 6 q0).bind fun v_7859 => ((aI h v_7859 (x1 - (1 : Int32))).bind fun v_7861 => (if v_7861 = x2 then (fX12_lay_b44 N h) else ((gR h 12 6 q0).bind fun v_7864 => ((aI h v_7864 (x1 - (1 : Int32))).bind fun v_7866 => ((gR h 12 6 q0).bind fun v_7868 => ((wI h v_7868 (x1 - (1 : Int32)) x2).bind fun h_7870 => ((gR h_7870 12 1 q0).bind fun v_7872 => ((wI h_7870 v_7872 (7 : Int32) (0 : Int32)).bind fun h_7874 => (some (v_7866, h_7874)))))))))))
set_option maxRecDepth 10000 in
set_option maxHeartbeats 4000000 in
theorem rX12_lay_b32 {d N : Nat} (hd : 2 ≤ d) {h : iv_H} {q0 : Nat} {x1 : Int32} {x2 : Int32}  {r : Int32 × iv_H} {Q : Option Value → iv_H → Prop} (hq : Q (some (.int r.1)) r.2) (e : fX12_lay_b32 N h q0 x1 x2  = some r) : Rn d 274 (some .int) 32 [some (.ref q0), some (.int x1), some (.int x2), none] [] h Q := by
  have hT := hX12_lay
  unfold fX12_lay_b32 at e
  refine Rn.n hT 1 (pc' := 33) (L' := [some (.ref q0), some (.int x1), some (.int x2), none]) (st' := [.ref q0]) rfl ?_
  obtain ⟨v_7859, e_7860, e⟩ := Option.bind_eq_some_iff.mp e
  refine Rn.hp hT rfl rfl (gR_hp e_7860) ?_
  refine Rn.n hT 3 (pc' := 39) (L' := [some (.ref q0), some (.int x1), some (.int x2), none]) (st' := [.int (x1 - (1 : Int32)), .ref v_7859]) rfl ?_
  obtain ⟨v_7861, e_7862, e⟩ := Option.bind_eq_some_iff.mp e
  refine Rn.hp hT rfl rfl (aI_hp e_7862) ?_
  refine Rn.n hT 1 (pc' := 41) (L' := [some (.ref q0), some (.int x1), some (.int x2), none]) (st' := [.int x2, .int v_7861]) rfl ?_
  by_cases c_7863 : v_7861 = x2
  · rw [if_pos c_7863] at e
    refine Rn.bf hT rfl rfl rfl (decide_eq_false (fun z => z c_7863)) ?_
    exact Rn.weak (ll_n (ll_n (ll_n (ll_n ll_e)))) (rX12_lay_b44 hd hq e)
  · rw [if_neg c_7863] at e
    refine Rn.bt hT rfl rfl rfl (decide_eq_true c_7863) ?_
    refine Rn.n hT 1 (pc' := 48) (L' := [some (.ref q0), some (.int x1), some (.int x2), none]) (st' := [.ref q0]) rfl ?_
    obtain ⟨v_7864, e_7865, e⟩ := Option.bind_eq_some_iff.mp e
    refine Rn.hp hT rfl rfl (gR_hp e_7865) ?_
    refine Rn.n hT 3 (pc' := 54) (L' := [some (.ref q0), some (.int x1), some (.int x2), none]) (st' := [.int (x1 - (1 : Int32)), .ref v_7864]) rfl ?_
    obtain ⟨v_7866, e_7867, e⟩ := Option.bind_eq_some_iff.mp e
    refine Rn.hp hT rfl rfl (aI_hp e_7867) ?_
    refine Rn.n hT 2 (pc' := 57) (L' := [some (.ref q0), some (.int x1), some (.int x2), some (.int v_7866)]) (st' := [.ref q0]) rfl ?_
    obtain ⟨v_7868, e_7869, e⟩ := Option.bind_eq_some_iff.mp e
    refine Rn.hp hT rfl rfl (gR_hp e_7869) ?_
    refine Rn.n hT 4 (pc' := 64) (L' := [some (.ref q0), some (.int x1), some (.int x2), some (.int v_7866)]) (st' := [.int x2, .int (x1 - (1 : Int32)), .ref v_7868]) rfl ?_
    obtain ⟨h_7870, e_7871, e⟩ := Option.bind_eq_some_iff.mp e
    refine Rn.hp hT rfl rfl (wI_hp e_7871) ?_
    refine Rn.n hT 1 (pc' := 66) (L' := [some (.ref q0), some (.int x1), some (.int x2), some (.int v_7866)]) (st' := [.ref q0]) rfl ?_
    obtain ⟨v_7872, e_7873, e⟩ := Option.bind_eq_some_iff.mp e
    refine Rn.hp hT rfl rfl (gR_hp e_7873) ?_
    refine Rn.n hT 2 (pc' := 72) (L' := [some (.ref q0), some (.int x1), some (.int x2), some (.int v_7866)]) (st' := [.int (0 : Int32), .int (7 : Int32), .ref v_7872]) rfl ?_
    obtain ⟨h_7874, e_7875, e⟩ := Option.bind_eq_some_iff.mp e
    refine Rn.hp hT rfl rfl (wI_hp e_7875) ?_
    refine Rn.n hT 1 (pc' := 74) (L' := [some (.ref q0), some (.int x1), some (.int x2), some (.int v_7866)]) (st' := [.int v_7866]) rfl ?_
    obtain rfl := Option.some.inj e
    exact Rn.ret hT rfl rfl rfl hq
def fX12_lay (N : Nat) (h : iv_H) (q0 : Nat) (x1 : Int32) (x2 : Int32) : Option (Int32 × iv_H) := ((cko h q0 12).bind fun _ => (fX12_isPalace N h q0).bind fun v_7849 => (if v_7849 = 0 then (fX12_lay_b44 N h) else ((fX12_in N h ((x1).toInt64) (1 : Int64) (4 : Int64)).bind fun v_7852 => (if v_7852 = 0 then (fX12_lay_b44 N h) else (if x2 = (-1 : Int32) then (fX12_lay_b32 N h q0 x1 x2) else ((cko h q0 12).bind fun _ => (fX12_isRoom N h q0 x2).bind fun v_7857 => (if v_7857 = 0 then (fX12_lay_b44 N h) else (fX12_lay_b32 N h q0 x1 x2))))))))
set_option maxRecDepth 10000 in
set_option maxHeartbeats 4000000 in
theorem rX12_lay {d N : Nat} (hd : 3 ≤ d) {h : iv_H} {q0 : Nat} {x1 : Int32} {x2 : Int32} {r : Int32 × iv_H} {Q : Option Value → iv_H → Prop} (e : fX12_lay N h q0 x1 x2 = some r) (hq : Q (some (.int r.1)) r.2) : Cl d 274 [.ref q0, .int x1, .int x2] h Q := by
  obtain ⟨d, rfl⟩ : ∃ k, d = k + 1 := ⟨d - 1, by omega⟩
  have hd : 2 ≤ d := by omega
  have hT := hX12_lay
  unfold fX12_lay at e
  refine Cl.into (by decide) gX12_lay rfl ?_
  show Rn d 274 (some .int) 0 [some (.ref q0), some (.int x1), some (.int x2), none] [] h Q
  refine Rn.n hT 1 (pc' := 1) (L' := [some (.ref q0), some (.int x1), some (.int x2), none]) (st' := [.ref q0]) rfl ?_
  obtain ⟨_, e_7848, e⟩ := Option.bind_eq_some_iff.mp e
  obtain ⟨v_7849, e_7847, e⟩ := Option.bind_eq_some_iff.mp e
  refine Rn.call hT rfl rfl rfl (Nat.le_of_ble_eq_true rfl) (rcv_v gX12_isPalace (by omega) e_7848) (rX12_isPalace (by omega) e_7847 ?_)
  show Rn d _ _ 4 [some (.ref q0), some (.int x1), some (.int x2), none] [.int v_7849] h Q
  by_cases c_7850 : v_7849 = 0
  · rw [if_pos c_7850] at e
    refine Rn.bt hT rfl rfl rfl (decide_eq_true c_7850) ?_
    exact Rn.weak (ll_n (ll_n (ll_n (ll_n ll_e)))) (rX12_lay_b44 hd hq e)
  · rw [if_neg c_7850] at e
    refine Rn.bf hT rfl rfl rfl (decide_eq_false c_7850) ?_
    refine Rn.n hT 4 (pc' := 13) (L' := [some (.ref q0), some (.int x1), some (.int x2), none]) (st' := [.long (4 : Int64), .long (1 : Int64), .long ((x1).toInt64)]) rfl ?_
    obtain ⟨v_7852, e_7851, e⟩ := Option.bind_eq_some_iff.mp e
    refine Rn.call hT rfl rfl rfl (Nat.le_of_ble_eq_true rfl) rfl (rX12_in (by omega) e_7851 ?_)
    show Rn d _ _ 16 [some (.ref q0), some (.int x1), some (.int x2), none] [.int v_7852] h Q
    by_cases c_7853 : v_7852 = 0
    · rw [if_pos c_7853] at e
      refine Rn.bt hT rfl rfl rfl (decide_eq_true c_7853) ?_
      exact Rn.weak (ll_n (ll_n (ll_n (ll_n ll_e)))) (rX12_lay_b44 hd hq e)
    · rw [if_neg c_7853] at e
      refine Rn.bf hT rfl rfl rfl (decide_eq_false c_7853) ?_
      refine Rn.n hT 2 (pc' := 21) (L' := [some (.ref q0), some (.int x1), some (.int x2), none]) (st' := [.int (-1 : Int32), .int x2]) rfl ?_
      by_cases c_7854 : x2 = (-1 : Int32)
      · rw [if_pos c_7854] at e
        refine Rn.bt hT rfl rfl rfl (decide_eq_true c_7854) ?_
        exact Rn.weak (ll_s (ll_s (ll_s (ll_n ll_e)))) (rX12_lay_b32 hd hq e)
      · rw [if_neg c_7854] at e
        refine Rn.bf hT rfl rfl rfl (decide_eq_false c_7854) ?_
        refine Rn.n hT 2 (pc' := 26) (L' := [some (.ref q0), some (.int x1), some (.int x2), none]) (st' := [.int x2, .ref q0]) rfl ?_
        obtain ⟨_, e_7856, e⟩ := Option.bind_eq_some_iff.mp e
        obtain ⟨v_7857, e_7855, e⟩ := Option.bind_eq_some_iff.mp e
        refine Rn.call hT rfl rfl rfl (Nat.le_of_ble_eq_true rfl) (rcv_v gX12_isRoom (by omega) e_7856) (rX12_isRoom (by omega) e_7855 ?_)
        show Rn d _ _ 29 [some (.ref q0), some (.int x1), some (.int x2), none] [.int v_7857] h Q
        by_cases c_7858 : v_7857 = 0
        · rw [if_pos c_7858] at e
          refine Rn.bt hT rfl rfl rfl (decide_eq_true c_7858) ?_
          exact Rn.weak (ll_n (ll_n (ll_n (ll_n ll_e)))) (rX12_lay_b44 hd hq e)
        · rw [if_neg c_7858] at e
          refine Rn.bf hT rfl rfl rfl (decide_eq_false c_7858) ?_
          exact Rn.weak (ll_s (ll_s (ll_s (ll_n ll_e)))) (rX12_lay_b32 hd hq e)
set_option maxRecDepth 10000 in
theorem hX12_bed : iv_Tb 275 tX12_bed := iv_tb_of (m := mX12_bed) rfl
set_option maxRecDepth 10000 in
theorem gX12_bed : PG.2 275 = some mX12_bed := iv_pi_of (t := tX12_bed) rfl (by decide)
def fX12_bed_b26 (N : Nat) (h : iv_H)   : Option (Int32 × iv_H) := (some ((-2 : Int32), h))
set_option maxRecDepth 10000 in
set_option maxHeartbeats 4000000 in
theorem rX12_bed_b26 {d N : Nat} (hd : 2 ≤ d) {h : iv_H}   {r : Int32 × iv_H} {Q : Option Value → iv_H → Prop} (hq : Q (some (.int r.1)) r.2) (e : fX12_bed_b26 N h   = some r) : Rn d 275 (some .int) 26 [none, none, none, none] [] h Q := by
  have hT := hX12_bed
  unfold fX12_bed_b26 at e
  refine Rn.n hT 1 (pc' := 28) (L' := [none, none, none, none]) (st' := [.int (-2 : Int32)]) rfl ?_
  obtain rfl := Option.some.inj e
  exact Rn.ret hT rfl rfl rfl hq
def fX12_bed (N : Nat) (h : iv_H) (q0 : Nat) (x1 : Int32) (x2 : Int32) : Option (Int32 × iv_H) := ((cko h q0 12).bind fun _ => (fX12_isPerson N h q0 x1).bind fun v_7878 => (if v_7878 = 0 then (fX12_bed_b26 N h) else ((cko h q0 12).bind fun _ => (fX12_isRoom N h q0 x2).bind fun v_7882 => (if v_7882 = 0 then (fX12_bed_b26 N h) else ((gR h 12 7 q0).bind fun v_7884 => ((aI h v_7884 x1).bind fun v_7886 => (if v_7886 = x2 then (fX12_bed_b26 N h) else ((gR h 12 7 q0).bind fun v_7889 => ((aI h v_7889 x1).bind fun v_7891 => ((gR h 12 7 q0).bind fun v_7893 => ((wI h v_7893 x1 x2).bind fun h_7895 => ((gR h_7895 12 1 q0).bind fun v_7897 => ((wI h_7895 v_7897 (7 : Int32) (0 : Int32)).bind fun h_7899 => (some (v_7891, h_7899)))))))))))))))
set_option maxRecDepth 10000 in
set_option maxHeartbeats 4000000 in
theorem rX12_bed {d N : Nat} (hd : 3 ≤ d) {h : iv_H} {q0 : Nat} {x1 : Int32} {x2 : Int32} {r : Int32 × iv_H} {Q : Option Value → iv_H → Prop} (e : fX12_bed N h q0 x1 x2 = some r) (hq : Q (some (.int r.1)) r.2) : Cl d 275 [.ref q0, .int x1, .int x2] h Q := by
  obtain ⟨d, rfl⟩ : ∃ k, d = k + 1 := ⟨d - 1, by omega⟩
  have hd : 2 ≤ d := by omega
  have hT := hX12_bed
  unfold fX12_bed at e
  refine Cl.into (by decide) gX12_bed rfl ?_
  show Rn d 275 (some .int) 0 [some (.ref q0), some (.int x1), some (.int x2), none] [] h Q
  refine Rn.n hT 2 (pc' := 2) (L' := [some (.ref q0), some (.int x1), some (.int x2), none]) (st' := [.int x1, .ref q0]) rfl ?_
  obtain ⟨_, e_7877, e⟩ := Option.bind_eq_some_iff.mp e
  obtain ⟨v_7878, e_7876, e⟩ := Option.bind_eq_some_iff.mp e
  refine Rn.call hT rfl rfl rfl (Nat.le_of_ble_eq_true rfl) (rcv_v gX12_isPerson (by omega) e_7877) (rX12_isPerson (by omega) e_7876 ?_)
  show Rn d _ _ 5 [some (.ref q0), some (.int x1), some (.int x2), none] [.int v_7878] h Q
  by_cases c_7879 : v_7878 = 0
  · rw [if_pos c_7879] at e
    refine Rn.bt hT rfl rfl rfl (decide_eq_true c_7879) ?_
    exact Rn.weak (ll_n (ll_n (ll_n (ll_n ll_e)))) (rX12_bed_b26 hd hq e)
  · rw [if_neg c_7879] at e
    refine Rn.bf hT rfl rfl rfl (decide_eq_false c_7879) ?_
    refine Rn.n hT 2 (pc' := 10) (L' := [some (.ref q0), some (.int x1), some (.int x2), none]) (st' := [.int x2, .ref q0]) rfl ?_
    obtain ⟨_, e_7881, e⟩ := Option.bind_eq_some_iff.mp e
    obtain ⟨v_7882, e_7880, e⟩ := Option.bind_eq_some_iff.mp e
    refine Rn.call hT rfl rfl rfl (Nat.le_of_ble_eq_true rfl) (rcv_v gX12_isRoom (by omega) e_7881) (rX12_isRoom (by omega) e_7880 ?_)
    show Rn d _ _ 13 [some (.ref q0), some (.int x1), some (.int x2), none] [.int v_7882] h Q
    by_cases c_7883 : v_7882 = 0
    · rw [if_pos c_7883] at e
      refine Rn.bt hT rfl rfl rfl (decide_eq_true c_7883) ?_
      exact Rn.weak (ll_n (ll_n (ll_n (ll_n ll_e)))) (rX12_bed_b26 hd hq e)
    · rw [if_neg c_7883] at e
      refine Rn.bf hT rfl rfl rfl (decide_eq_false c_7883) ?_
      refine Rn.n hT 1 (pc' := 17) (L' := [some (.ref q0), some (.int x1), some (.int x2), none]) (st' := [.ref q0]) rfl ?_
      obtain ⟨v_7884, e_7885, e⟩ := Option.bind_eq_some_iff.mp e
      refine Rn.hp hT rfl rfl (gR_hp e_7885) ?_
      refine Rn.n hT 1 (pc' := 21) (L' := [some (.ref q0), some (.int x1), some (.int x2), none]) (st' := [.int x1, .ref v_7884]) rfl ?_
      obtain ⟨v_7886, e_7887, e⟩ := Option.bind_eq_some_iff.mp e
      refine Rn.hp hT rfl rfl (aI_hp e_7887) ?_
      refine Rn.n hT 1 (pc' := 23) (L' := [some (.ref q0), some (.int x1), some (.int x2), none]) (st' := [.int x2, .int v_7886]) rfl ?_
      by_cases c_7888 : v_7886 = x2
      · rw [if_pos c_7888] at e
        refine Rn.bf hT rfl rfl rfl (decide_eq_false (fun z => z c_7888)) ?_
        exact Rn.weak (ll_n (ll_n (ll_n (ll_n ll_e)))) (rX12_bed_b26 hd hq e)
      · rw [if_neg c_7888] at e
        refine Rn.bt hT rfl rfl rfl (decide_eq_true c_7888) ?_
        refine Rn.n hT 1 (pc' := 30) (L' := [some (.ref q0), some (.int x1), some (.int x2), none]) (st' := [.ref q0]) rfl ?_
        obtain ⟨v_7889, e_7890, e⟩ := Option.bind_eq_some_iff.mp e
        refine Rn.hp hT rfl rfl (gR_hp e_7890) ?_
        refine Rn.n hT 1 (pc' := 34) (L' := [some (.ref q0), some (.int x1), some (.int x2), none]) (st' := [.int x1, .ref v_7889]) rfl ?_
        obtain ⟨v_7891, e_7892, e⟩ := Option.bind_eq_some_iff.mp e
        refine Rn.hp hT rfl rfl (aI_hp e_7892) ?_
        refine Rn.n hT 2 (pc' := 37) (L' := [some (.ref q0), some (.int x1), some (.int x2), some (.int v_7891)]) (st' := [.ref q0]) rfl ?_
        obtain ⟨v_7893, e_7894, e⟩ := Option.bind_eq_some_iff.mp e
        refine Rn.hp hT rfl rfl (gR_hp e_7894) ?_
        refine Rn.n hT 2 (pc' := 42) (L' := [some (.ref q0), some (.int x1), some (.int x2), some (.int v_7891)]) (st' := [.int x2, .int x1, .ref v_7893]) rfl ?_
        obtain ⟨h_7895, e_7896, e⟩ := Option.bind_eq_some_iff.mp e
        refine Rn.hp hT rfl rfl (wI_hp e_7896) ?_
        refine Rn.n hT 1 (pc' := 44) (L' := [some (.ref q0), some (.int x1), some (.int x2), some (.int v_7891)]) (st' := [.ref q0]) rfl ?_
        obtain ⟨v_7897, e_7898, e⟩ := Option.bind_eq_some_iff.mp e
        refine Rn.hp hT rfl rfl (gR_hp e_7898) ?_
        refine Rn.n hT 2 (pc' := 50) (L' := [some (.ref q0), some (.int x1), some (.int x2), some (.int v_7891)]) (st' := [.int (0 : Int32), .int (7 : Int32), .ref v_7897]) rfl ?_
        obtain ⟨h_7899, e_7900, e⟩ := Option.bind_eq_some_iff.mp e
        refine Rn.hp hT rfl rfl (wI_hp e_7900) ?_
        refine Rn.n hT 1 (pc' := 52) (L' := [some (.ref q0), some (.int x1), some (.int x2), some (.int v_7891)]) (st' := [.int v_7891]) rfl ?_
        obtain rfl := Option.some.inj e
        exact Rn.ret hT rfl rfl rfl hq
set_option maxRecDepth 10000 in
theorem hX12_fix : iv_Tb 276 tX12_fix := iv_tb_of (m := mX12_fix) rfl
set_option maxRecDepth 10000 in
theorem gX12_fix : PG.2 276 = some mX12_fix := iv_pi_of (t := tX12_fix) rfl (by decide)
def fX12_fix_b59 (N : Nat) (h : iv_H) (x3 : Int32)  : Option (Int32 × iv_H) := (if x3 = 0 ∨ x3 = 1 then some (x3, h) else none)
set_option maxRecDepth 10000 in
set_option maxHeartbeats 4000000 in
theorem rX12_fix_b59 {d N : Nat} (hd : 2 ≤ d) {h : iv_H} {x3 : Int32}  {r : Int32 × iv_H} {Q : Option Value → iv_H → Prop} (hq : Q (some (.int r.1)) r.2) (e : fX12_fix_b59 N h x3  = some r) : Rn d 276 (some .boolean) 59 [none, none, none, some (.int x3)] [] h Q := by
  have hT := hX12_fix
  unfold fX12_fix_b59 at e
  refine Rn.n hT 1 (pc' := 60) (L' := [none, none, none, some (.int x3)]) (st' := [.int x3]) rfl ?_
  by_cases c_7921 : x3 = 0 ∨ x3 = 1
  · rw [if_pos c_7921] at e
    obtain rfl := Option.some.inj e
    exact Rn.ret hT rfl rfl (if_pos c_7921) hq
  · rw [if_neg c_7921] at e
    cases e
def fX12_fix_b50 (N : Nat) (h : iv_H) (q0 : Nat) (x3 : Int32) (s0 : Int32) (s1 : Int32) (sq2 : Nat) : Option (Int32 × iv_H) := ((wI h sq2 s1 s0).bind fun h_7915 => ((gR h_7915 12 1 q0).bind fun v_7917 => ((wI h_7915 v_7917 (7 : Int32) (0 : Int32)).bind fun h_7919 => (fX12_fix_b59 N h_7919 x3))))
set_option maxRecDepth 10000 in
set_option maxHeartbeats 4000000 in
theorem rX12_fix_b50 {d N : Nat} (hd : 2 ≤ d) {h : iv_H} {q0 : Nat} {x3 : Int32} {s0 : Int32} {s1 : Int32} {sq2 : Nat} {r : Int32 × iv_H} {Q : Option Value → iv_H → Prop} (hq : Q (some (.int r.1)) r.2) (e : fX12_fix_b50 N h q0 x3 s0 s1 sq2 = some r) : Rn d 276 (some .boolean) 50 [some (.ref q0), none, none, some (.int x3)] [.int s0, .int s1, .ref sq2] h Q := by
  have hT := hX12_fix
  unfold fX12_fix_b50 at e
  obtain ⟨h_7915, e_7916, e⟩ := Option.bind_eq_some_iff.mp e
  refine Rn.hp hT rfl rfl (wI_hp e_7916) ?_
  refine Rn.n hT 1 (pc' := 52) (L' := [some (.ref q0), none, none, some (.int x3)]) (st' := [.ref q0]) rfl ?_
  obtain ⟨v_7917, e_7918, e⟩ := Option.bind_eq_some_iff.mp e
  refine Rn.hp hT rfl rfl (gR_hp e_7918) ?_
  refine Rn.n hT 2 (pc' := 58) (L' := [some (.ref q0), none, none, some (.int x3)]) (st' := [.int (0 : Int32), .int (7 : Int32), .ref v_7917]) rfl ?_
  obtain ⟨h_7919, e_7920, e⟩ := Option.bind_eq_some_iff.mp e
  refine Rn.hp hT rfl rfl (wI_hp e_7920) ?_
  exact Rn.weak (ll_n (ll_n (ll_n (ll_s ll_e)))) (rX12_fix_b59 hd hq e)
def fX12_fix_b31 (N : Nat) (h : iv_H) (q0 : Nat) (x1 : Int32) (x2 : Int32) (s0 : Int32) : Option (Int32 × iv_H) := (if s0 = 0 then (fX12_fix_b59 N h s0) else ((gR h 12 5 q0).bind fun v_7912 => (if x2 = 0 then (fX12_fix_b50 N h q0 s0 (0 : Int32) x1 v_7912) else (fX12_fix_b50 N h q0 s0 (1 : Int32) x1 v_7912))))
set_option maxRecDepth 10000 in
set_option maxHeartbeats 4000000 in
theorem rX12_fix_b31 {d N : Nat} (hd : 2 ≤ d) {h : iv_H} {q0 : Nat} {x1 : Int32} {x2 : Int32} {s0 : Int32} {r : Int32 × iv_H} {Q : Option Value → iv_H → Prop} (hq : Q (some (.int r.1)) r.2) (e : fX12_fix_b31 N h q0 x1 x2 s0 = some r) : Rn d 276 (some .boolean) 31 [some (.ref q0), some (.int x1), some (.int x2), none] [.int s0] h Q := by
  have hT := hX12_fix
  unfold fX12_fix_b31 at e
  refine Rn.n hT 2 (pc' := 33) (L' := [some (.ref q0), some (.int x1), some (.int x2), some (.int s0)]) (st' := [.int s0]) rfl ?_
  by_cases c_7911 : s0 = 0
  · rw [if_pos c_7911] at e
    refine Rn.bt hT rfl rfl rfl (decide_eq_true c_7911) ?_
    exact Rn.weak (ll_n (ll_n (ll_n (ll_s ll_e)))) (rX12_fix_b59 hd hq e)
  · rw [if_neg c_7911] at e
    refine Rn.bf hT rfl rfl rfl (decide_eq_false c_7911) ?_
    refine Rn.n hT 1 (pc' := 37) (L' := [some (.ref q0), some (.int x1), some (.int x2), some (.int s0)]) (st' := [.ref q0]) rfl ?_
    obtain ⟨v_7912, e_7913, e⟩ := Option.bind_eq_some_iff.mp e
    refine Rn.hp hT rfl rfl (gR_hp e_7913) ?_
    refine Rn.n hT 2 (pc' := 42) (L' := [some (.ref q0), some (.int x1), some (.int x2), some (.int s0)]) (st' := [.int x2, .int x1, .ref v_7912]) rfl ?_
    by_cases c_7914 : x2 = 0
    · rw [if_pos c_7914] at e
      refine Rn.bt hT rfl rfl rfl (decide_eq_true c_7914) ?_
      refine Rn.n hT 1 (pc' := 50) (L' := [some (.ref q0), some (.int x1), some (.int x2), some (.int s0)]) (st' := [.int (0 : Int32), .int x1, .ref v_7912]) rfl ?_
      exact Rn.weak (ll_s (ll_n (ll_n (ll_s ll_e)))) (rX12_fix_b50 hd hq e)
    · rw [if_neg c_7914] at e
      refine Rn.bf hT rfl rfl rfl (decide_eq_false c_7914) ?_
      refine Rn.n hT 2 (pc' := 50) (L' := [some (.ref q0), some (.int x1), some (.int x2), some (.int s0)]) (st' := [.int (1 : Int32), .int x1, .ref v_7912]) rfl ?_
      exact Rn.weak (ll_s (ll_n (ll_n (ll_s ll_e)))) (rX12_fix_b50 hd hq e)
def fX12_fix_b30 (N : Nat) (h : iv_H) (q0 : Nat) (x1 : Int32) (x2 : Int32)  : Option (Int32 × iv_H) := (fX12_fix_b31 N h q0 x1 x2 (0 : Int32))
set_option maxRecDepth 10000 in
set_option maxHeartbeats 4000000 in
theorem rX12_fix_b30 {d N : Nat} (hd : 2 ≤ d) {h : iv_H} {q0 : Nat} {x1 : Int32} {x2 : Int32}  {r : Int32 × iv_H} {Q : Option Value → iv_H → Prop} (hq : Q (some (.int r.1)) r.2) (e : fX12_fix_b30 N h q0 x1 x2  = some r) : Rn d 276 (some .boolean) 30 [some (.ref q0), some (.int x1), some (.int x2), none] [] h Q := by
  have hT := hX12_fix
  unfold fX12_fix_b30 at e
  refine Rn.n hT 1 (pc' := 31) (L' := [some (.ref q0), some (.int x1), some (.int x2), none]) (st' := [.int (0 : Int32)]) rfl ?_
  exact Rn.weak (ll_s (ll_s (ll_s (ll_n ll_e)))) (rX12_fix_b31 hd hq e)
def fX12_fix_b23 (N : Nat) (h : iv_H) (q0 : Nat) (x1 : Int32) (x2 : Int32) (s0 : Int32) (s1 : Int32) : Option (Int32 × iv_H) := (if s1 = s0 then (fX12_fix_b31 N h q0 x1 x2 (1 : Int32)) else (fX12_fix_b30 N h q0 x1 x2))
set_option maxRecDepth 10000 in
set_option maxHeartbeats 4000000 in
theorem rX12_fix_b23 {d N : Nat} (hd : 2 ≤ d) {h : iv_H} {q0 : Nat} {x1 : Int32} {x2 : Int32} {s0 : Int32} {s1 : Int32} {r : Int32 × iv_H} {Q : Option Value → iv_H → Prop} (hq : Q (some (.int r.1)) r.2) (e : fX12_fix_b23 N h q0 x1 x2 s0 s1 = some r) : Rn d 276 (some .boolean) 23 [some (.ref q0), some (.int x1), some (.int x2), none] [.int s0, .int s1] h Q := by
  have hT := hX12_fix
  unfold fX12_fix_b23 at e
  by_cases c_7910 : s1 = s0
  · rw [if_pos c_7910] at e
    refine Rn.bf hT rfl rfl rfl (decide_eq_false (fun z => z c_7910)) ?_
    refine Rn.n hT 2 (pc' := 31) (L' := [some (.ref q0), some (.int x1), some (.int x2), none]) (st' := [.int (1 : Int32)]) rfl ?_
    exact Rn.weak (ll_s (ll_s (ll_s (ll_n ll_e)))) (rX12_fix_b31 hd hq e)
  · rw [if_neg c_7910] at e
    refine Rn.bt hT rfl rfl rfl (decide_eq_true c_7910) ?_
    exact Rn.weak (ll_s (ll_s (ll_s (ll_n ll_e)))) (rX12_fix_b30 hd hq e)
def fX12_fix (N : Nat) (h : iv_H) (q0 : Nat) (x1 : Int32) (x2 : Int32) : Option (Int32 × iv_H) := ((cko h q0 12).bind fun _ => (fX12_isRoom N h q0 x1).bind fun v_7903 => (if v_7903 = 0 then (fX12_fix_b30 N h q0 x1 x2) else ((gR h 12 5 q0).bind fun v_7905 => ((aI h v_7905 x1).bind fun v_7907 => (if x2 = 0 then (fX12_fix_b23 N h q0 x1 x2 (1 : Int32) v_7907) else (fX12_fix_b23 N h q0 x1 x2 (0 : Int32) v_7907))))))
set_option maxRecDepth 10000 in
set_option maxHeartbeats 4000000 in
theorem rX12_fix {d N : Nat} (hd : 3 ≤ d) {h : iv_H} {q0 : Nat} {x1 : Int32} {x2 : Int32} {r : Int32 × iv_H} {Q : Option Value → iv_H → Prop} (e : fX12_fix N h q0 x1 x2 = some r) (hq : Q (some (.int r.1)) r.2) : Cl d 276 [.ref q0, .int x1, .int x2] h Q := by
  obtain ⟨d, rfl⟩ : ∃ k, d = k + 1 := ⟨d - 1, by omega⟩
  have hd : 2 ≤ d := by omega
  have hT := hX12_fix
  unfold fX12_fix at e
  refine Cl.into (by decide) gX12_fix rfl ?_
  show Rn d 276 (some .boolean) 0 [some (.ref q0), some (.int x1), some (.int x2), none] [] h Q
  refine Rn.n hT 2 (pc' := 2) (L' := [some (.ref q0), some (.int x1), some (.int x2), none]) (st' := [.int x1, .ref q0]) rfl ?_
  obtain ⟨_, e_7902, e⟩ := Option.bind_eq_some_iff.mp e
  obtain ⟨v_7903, e_7901, e⟩ := Option.bind_eq_some_iff.mp e
  refine Rn.call hT rfl rfl rfl (Nat.le_of_ble_eq_true rfl) (rcv_v gX12_isRoom (by omega) e_7902) (rX12_isRoom (by omega) e_7901 ?_)
  show Rn d _ _ 5 [some (.ref q0), some (.int x1), some (.int x2), none] [.int v_7903] h Q
  by_cases c_7904 : v_7903 = 0
  · rw [if_pos c_7904] at e
    refine Rn.bt hT rfl rfl rfl (decide_eq_true c_7904) ?_
    exact Rn.weak (ll_s (ll_s (ll_s (ll_n ll_e)))) (rX12_fix_b30 hd hq e)
  · rw [if_neg c_7904] at e
    refine Rn.bf hT rfl rfl rfl (decide_eq_false c_7904) ?_
    refine Rn.n hT 1 (pc' := 9) (L' := [some (.ref q0), some (.int x1), some (.int x2), none]) (st' := [.ref q0]) rfl ?_
    obtain ⟨v_7905, e_7906, e⟩ := Option.bind_eq_some_iff.mp e
    refine Rn.hp hT rfl rfl (gR_hp e_7906) ?_
    refine Rn.n hT 1 (pc' := 13) (L' := [some (.ref q0), some (.int x1), some (.int x2), none]) (st' := [.int x1, .ref v_7905]) rfl ?_
    obtain ⟨v_7907, e_7908, e⟩ := Option.bind_eq_some_iff.mp e
    refine Rn.hp hT rfl rfl (aI_hp e_7908) ?_
    refine Rn.n hT 1 (pc' := 15) (L' := [some (.ref q0), some (.int x1), some (.int x2), none]) (st' := [.int x2, .int v_7907]) rfl ?_
    by_cases c_7909 : x2 = 0
    · rw [if_pos c_7909] at e
      refine Rn.bt hT rfl rfl rfl (decide_eq_true c_7909) ?_
      refine Rn.n hT 1 (pc' := 23) (L' := [some (.ref q0), some (.int x1), some (.int x2), none]) (st' := [.int (1 : Int32), .int v_7907]) rfl ?_
      exact Rn.weak (ll_s (ll_s (ll_s (ll_n ll_e)))) (rX12_fix_b23 hd hq e)
    · rw [if_neg c_7909] at e
      refine Rn.bf hT rfl rfl rfl (decide_eq_false c_7909) ?_
      refine Rn.n hT 2 (pc' := 23) (L' := [some (.ref q0), some (.int x1), some (.int x2), none]) (st' := [.int (0 : Int32), .int v_7907]) rfl ?_
      exact Rn.weak (ll_s (ll_s (ll_s (ll_n ll_e)))) (rX12_fix_b23 hd hq e)
set_option maxRecDepth 10000 in
theorem hX12_fillsFloor : iv_Tb 277 tX12_fillsFloor := iv_tb_of (m := mX12_fillsFloor) rfl
set_option maxRecDepth 10000 in
theorem gX12_fillsFloor : PG.2 277 = some mX12_fillsFloor := iv_pi_of (t := tX12_fillsFloor) rfl (by decide)
def fX12_fillsFloor_l2 (N : Nat) (q0 : Nat) (q1 : Nat) (x2 : Int32) (kx : iv_H → Option (iv_H)) : Nat → iv_H → Int32 → Option (iv_H)
  | 0, _, _ => none
  | n + 1, h, x3 => (if (12 : Int32) ≤ x3 then (kx h) else ((gR h 12 3 q0).bind fun v_7924 => ((aI h v_7924 x3).bind fun v_7926 => ((wI h q1 (x2 + ((2 : Int32) * x3)) v_7926).bind fun h_7928 => ((gR h_7928 12 4 q0).bind fun v_7930 => ((aI h_7928 v_7930 x3).bind fun v_7932 => ((wI h_7928 q1 ((x2 + ((2 : Int32) * x3)) + (1 : Int32)) v_7932).bind fun h_7934 => (fX12_fillsFloor_l2 N q0 q1 x2 kx n h_7934 (x3 + (1 : Int32))))))))))
set_option maxRecDepth 10000 in
set_option maxHeartbeats 4000000 in
theorem rX12_fillsFloor_l2 {d N : Nat} (hd : 0 ≤ d) {q0 : Nat} {q1 : Nat} {x2 : Int32} {kx : iv_H → Option (iv_H)} {r : iv_H} {Q : Option Value → iv_H → Prop} (hk : ∀ (h : iv_H), kx h = some r → Rn d 277 none 42 [none, none, none, none] [] h Q) (hq : Q none r) : ∀ (n : Nat) (h : iv_H) (x3 : Int32), fX12_fillsFloor_l2 N q0 q1 x2 kx n h x3 = some r → Rn d 277 none 2 [some (.ref q0), some (.ref q1), some (.int x2), some (.int x3)] [] h Q := by
  have hT := hX12_fillsFloor
  intro n
  induction n with
  | zero =>
    intro h x3 e
    rw [fX12_fillsFloor_l2] at e
    cases e
  | succ n ih =>
    intro h x3 e
    rw [fX12_fillsFloor_l2] at e
    refine Rn.n hT 2 (pc' := 5) (L' := [some (.ref q0), some (.ref q1), some (.int x2), some (.int x3)]) (st' := [.int (12 : Int32), .int x3]) rfl ?_
    by_cases c_7923 : (12 : Int32) ≤ x3
    · rw [if_pos c_7923] at e
      refine Rn.bt hT rfl rfl rfl (decide_eq_true c_7923) ?_
      exact Rn.weak (ll_n (ll_n (ll_n (ll_n ll_e)))) (hk h e)
    · rw [if_neg c_7923] at e
      refine Rn.bf hT rfl rfl rfl (decide_eq_false c_7923) ?_
      refine Rn.n hT 7 (pc' := 15) (L' := [some (.ref q0), some (.ref q1), some (.int x2), some (.int x3)]) (st' := [.ref q0, .int (x2 + ((2 : Int32) * x3)), .ref q1]) rfl ?_
      obtain ⟨v_7924, e_7925, e⟩ := Option.bind_eq_some_iff.mp e
      refine Rn.hp hT rfl rfl (gR_hp e_7925) ?_
      refine Rn.n hT 1 (pc' := 19) (L' := [some (.ref q0), some (.ref q1), some (.int x2), some (.int x3)]) (st' := [.int x3, .ref v_7924, .int (x2 + ((2 : Int32) * x3)), .ref q1]) rfl ?_
      obtain ⟨v_7926, e_7927, e⟩ := Option.bind_eq_some_iff.mp e
      refine Rn.hp hT rfl rfl (aI_hp e_7927) ?_
      obtain ⟨h_7928, e_7929, e⟩ := Option.bind_eq_some_iff.mp e
      refine Rn.hp hT rfl rfl (wI_hp e_7929) ?_
      refine Rn.n hT 9 (pc' := 30) (L' := [some (.ref q0), some (.ref q1), some (.int x2), some (.int x3)]) (st' := [.ref q0, .int ((x2 + ((2 : Int32) * x3)) + (1 : Int32)), .ref q1]) rfl ?_
      obtain ⟨v_7930, e_7931, e⟩ := Option.bind_eq_some_iff.mp e
      refine Rn.hp hT rfl rfl (gR_hp e_7931) ?_
      refine Rn.n hT 1 (pc' := 34) (L' := [some (.ref q0), some (.ref q1), some (.int x2), some (.int x3)]) (st' := [.int x3, .ref v_7930, .int ((x2 + ((2 : Int32) * x3)) + (1 : Int32)), .ref q1]) rfl ?_
      obtain ⟨v_7932, e_7933, e⟩ := Option.bind_eq_some_iff.mp e
      refine Rn.hp hT rfl rfl (aI_hp e_7933) ?_
      obtain ⟨h_7934, e_7935, e⟩ := Option.bind_eq_some_iff.mp e
      refine Rn.hp hT rfl rfl (wI_hp e_7935) ?_
      refine Rn.n hT 2 (pc' := 2) (L' := [some (.ref q0), some (.ref q1), some (.int x2), some (.int (x3 + (1 : Int32)))]) (st' := []) rfl ?_
      exact Rn.weak (ll_s (ll_s (ll_s (ll_s ll_e)))) (ih h_7934 (x3 + (1 : Int32)) e)
def fX12_fillsFloor (N : Nat) (h : iv_H) (q0 : Nat) (q1 : Nat) (x2 : Int32) : Option (iv_H) := (fX12_fillsFloor_l2 N q0 q1 x2 (fun (h_7922 : iv_H) => some h_7922) N h (0 : Int32))
set_option maxRecDepth 10000 in
set_option maxHeartbeats 4000000 in
theorem rX12_fillsFloor {d N : Nat} (hd : 1 ≤ d) {h : iv_H} {q0 : Nat} {q1 : Nat} {x2 : Int32} {r : iv_H} {Q : Option Value → iv_H → Prop} (e : fX12_fillsFloor N h q0 q1 x2 = some r) (hq : Q none r) : Cl d 277 [.ref q0, .ref q1, .int x2] h Q := by
  obtain ⟨d, rfl⟩ : ∃ k, d = k + 1 := ⟨d - 1, by omega⟩
  have hd : 0 ≤ d := by omega
  have hT := hX12_fillsFloor
  unfold fX12_fillsFloor at e
  refine Cl.into (by decide) gX12_fillsFloor rfl ?_
  show Rn d 277 none 0 [some (.ref q0), some (.ref q1), some (.int x2), none] [] h Q
  refine Rn.n hT 2 (pc' := 2) (L' := [some (.ref q0), some (.ref q1), some (.int x2), some (.int (0 : Int32))]) (st' := []) rfl ?_
  refine Rn.weak (ll_s (ll_s (ll_s (ll_s ll_e)))) (rX12_fillsFloor_l2 hd (fun h_7922 e => ?_) hq N h (0 : Int32) e)
  try dsimp only at e
  obtain rfl := Option.some.inj e
  exact Rn.ret hT rfl rfl rfl hq
set_option maxRecDepth 10000 in
theorem hX12_laysFloor : iv_Tb 278 tX12_laysFloor := iv_tb_of (m := mX12_laysFloor) rfl
set_option maxRecDepth 10000 in
theorem gX12_laysFloor : PG.2 278 = some mX12_laysFloor := iv_pi_of (t := tX12_laysFloor) rfl (by decide)
def fX12_laysFloor_l2 (N : Nat) (q0 : Nat) (q1 : Nat) (x2 : Int32) (kx : iv_H → Option (iv_H)) : Nat → iv_H → Int32 → Option (iv_H)
  | 0, _, _ => none
  | n + 1, h, x3 => (if (16 : Int32) ≤ x3 then (kx h) else ((gR h 12 8 q0).bind fun v_7939 => ((wI h v_7939 x3 (-1 : Int32)).bind fun h_7941 => (fX12_laysFloor_l2 N q0 q1 x2 kx n h_7941 (x3 + (1 : Int32))))))
set_option maxRecDepth 10000 in
set_option maxHeartbeats 4000000 in
theorem rX12_laysFloor_l2 {d N : Nat} (hd : 0 ≤ d) {q0 : Nat} {q1 : Nat} {x2 : Int32} {kx : iv_H → Option (iv_H)} {r : iv_H} {Q : Option Value → iv_H → Prop} (hk : ∀ (h : iv_H), kx h = some r → Rn d 278 none 21 [some (.ref q0), some (.ref q1), some (.int x2), none] [] h Q) (hq : Q none r) : ∀ (n : Nat) (h : iv_H) (x3 : Int32), fX12_laysFloor_l2 N q0 q1 x2 kx n h x3 = some r → Rn d 278 none 2 [some (.ref q0), some (.ref q1), some (.int x2), some (.int x3)] [] h Q := by
  have hT := hX12_laysFloor
  intro n
  induction n with
  | zero =>
    intro h x3 e
    rw [fX12_laysFloor_l2] at e
    cases e
  | succ n ih =>
    intro h x3 e
    rw [fX12_laysFloor_l2] at e
    refine Rn.n hT 2 (pc' := 5) (L' := [some (.ref q0), some (.ref q1), some (.int x2), some (.int x3)]) (st' := [.int (16 : Int32), .int x3]) rfl ?_
    by_cases c_7938 : (16 : Int32) ≤ x3
    · rw [if_pos c_7938] at e
      refine Rn.bt hT rfl rfl rfl (decide_eq_true c_7938) ?_
      exact Rn.weak (ll_s (ll_s (ll_s (ll_n ll_e)))) (hk h e)
    · rw [if_neg c_7938] at e
      refine Rn.bf hT rfl rfl rfl (decide_eq_false c_7938) ?_
      refine Rn.n hT 1 (pc' := 9) (L' := [some (.ref q0), some (.ref q1), some (.int x2), some (.int x3)]) (st' := [.ref q0]) rfl ?_
      obtain ⟨v_7939, e_7940, e⟩ := Option.bind_eq_some_iff.mp e
      refine Rn.hp hT rfl rfl (gR_hp e_7940) ?_
      refine Rn.n hT 2 (pc' := 14) (L' := [some (.ref q0), some (.ref q1), some (.int x2), some (.int x3)]) (st' := [.int (-1 : Int32), .int x3, .ref v_7939]) rfl ?_
      obtain ⟨h_7941, e_7942, e⟩ := Option.bind_eq_some_iff.mp e
      refine Rn.hp hT rfl rfl (wI_hp e_7942) ?_
      refine Rn.n hT 2 (pc' := 2) (L' := [some (.ref q0), some (.ref q1), some (.int x2), some (.int (x3 + (1 : Int32)))]) (st' := []) rfl ?_
      exact Rn.weak (ll_s (ll_s (ll_s (ll_s ll_e)))) (ih h_7941 (x3 + (1 : Int32)) e)
def fX12_laysFloor_l23 (N : Nat) (q0 : Nat) (q1 : Nat) (x2 : Int32) (kx : iv_H → Option (iv_H)) : Nat → iv_H → Int32 → Option (iv_H)
  | 0, _, _ => none
  | n + 1, h, x3 => ((gR h 12 1 q0).bind fun v_7943 => ((aI h v_7943 (2 : Int32)).bind fun v_7945 => (if v_7945 ≤ x3 then (kx h) else ((gR h 12 3 q0).bind fun v_7948 => ((aI h q1 (x2 + ((2 : Int32) * x3))).bind fun v_7950 => ((wI h v_7948 x3 v_7950).bind fun h_7952 => ((gR h_7952 12 4 q0).bind fun v_7954 => ((aI h_7952 q1 ((x2 + ((2 : Int32) * x3)) + (1 : Int32))).bind fun v_7956 => ((wI h_7952 v_7954 x3 v_7956).bind fun h_7958 => ((gR h_7958 12 8 q0).bind fun v_7960 => ((gR h_7958 12 3 q0).bind fun v_7962 => ((aI h_7958 v_7962 x3).bind fun v_7964 => ((wI h_7958 v_7960 v_7964 x3).bind fun h_7966 => (fX12_laysFloor_l23 N q0 q1 x2 kx n h_7966 (x3 + (1 : Int32))))))))))))))))
set_option maxRecDepth 10000 in
set_option maxHeartbeats 4000000 in
theorem rX12_laysFloor_l23 {d N : Nat} (hd : 0 ≤ d) {q0 : Nat} {q1 : Nat} {x2 : Int32} {kx : iv_H → Option (iv_H)} {r : iv_H} {Q : Option Value → iv_H → Prop} (hk : ∀ (h : iv_H), kx h = some r → Rn d 278 none 79 [none, none, none, none] [] h Q) (hq : Q none r) : ∀ (n : Nat) (h : iv_H) (x3 : Int32), fX12_laysFloor_l23 N q0 q1 x2 kx n h x3 = some r → Rn d 278 none 23 [some (.ref q0), some (.ref q1), some (.int x2), some (.int x3)] [] h Q := by
  have hT := hX12_laysFloor
  intro n
  induction n with
  | zero =>
    intro h x3 e
    rw [fX12_laysFloor_l23] at e
    cases e
  | succ n ih =>
    intro h x3 e
    rw [fX12_laysFloor_l23] at e
    refine Rn.n hT 2 (pc' := 25) (L' := [some (.ref q0), some (.ref q1), some (.int x2), some (.int x3)]) (st' := [.ref q0, .int x3]) rfl ?_
    obtain ⟨v_7943, e_7944, e⟩ := Option.bind_eq_some_iff.mp e
    refine Rn.hp hT rfl rfl (gR_hp e_7944) ?_
    refine Rn.n hT 1 (pc' := 29) (L' := [some (.ref q0), some (.ref q1), some (.int x2), some (.int x3)]) (st' := [.int (2 : Int32), .ref v_7943, .int x3]) rfl ?_
    obtain ⟨v_7945, e_7946, e⟩ := Option.bind_eq_some_iff.mp e
    refine Rn.hp hT rfl rfl (aI_hp e_7946) ?_
    by_cases c_7947 : v_7945 ≤ x3
    · rw [if_pos c_7947] at e
      refine Rn.bt hT rfl rfl rfl (decide_eq_true c_7947) ?_
      exact Rn.weak (ll_n (ll_n (ll_n (ll_n ll_e)))) (hk h e)
    · rw [if_neg c_7947] at e
      refine Rn.bf hT rfl rfl rfl (decide_eq_false c_7947) ?_
      refine Rn.n hT 1 (pc' := 34) (L' := [some (.ref q0), some (.ref q1), some (.int x2), some (.int x3)]) (st' := [.ref q0]) rfl ?_
      obtain ⟨v_7948, e_7949, e⟩ := Option.bind_eq_some_iff.mp e
      refine Rn.hp hT rfl rfl (gR_hp e_7949) ?_
      refine Rn.n hT 7 (pc' := 44) (L' := [some (.ref q0), some (.ref q1), some (.int x2), some (.int x3)]) (st' := [.int (x2 + ((2 : Int32) * x3)), .ref q1, .int x3, .ref v_7948]) rfl ?_
      obtain ⟨v_7950, e_7951, e⟩ := Option.bind_eq_some_iff.mp e
      refine Rn.hp hT rfl rfl (aI_hp e_7951) ?_
      obtain ⟨h_7952, e_7953, e⟩ := Option.bind_eq_some_iff.mp e
      refine Rn.hp hT rfl rfl (wI_hp e_7953) ?_
      refine Rn.n hT 1 (pc' := 47) (L' := [some (.ref q0), some (.ref q1), some (.int x2), some (.int x3)]) (st' := [.ref q0]) rfl ?_
      obtain ⟨v_7954, e_7955, e⟩ := Option.bind_eq_some_iff.mp e
      refine Rn.hp hT rfl rfl (gR_hp e_7955) ?_
      refine Rn.n hT 9 (pc' := 59) (L' := [some (.ref q0), some (.ref q1), some (.int x2), some (.int x3)]) (st' := [.int ((x2 + ((2 : Int32) * x3)) + (1 : Int32)), .ref q1, .int x3, .ref v_7954]) rfl ?_
      obtain ⟨v_7956, e_7957, e⟩ := Option.bind_eq_some_iff.mp e
      refine Rn.hp hT rfl rfl (aI_hp e_7957) ?_
      obtain ⟨h_7958, e_7959, e⟩ := Option.bind_eq_some_iff.mp e
      refine Rn.hp hT rfl rfl (wI_hp e_7959) ?_
      refine Rn.n hT 1 (pc' := 62) (L' := [some (.ref q0), some (.ref q1), some (.int x2), some (.int x3)]) (st' := [.ref q0]) rfl ?_
      obtain ⟨v_7960, e_7961, e⟩ := Option.bind_eq_some_iff.mp e
      refine Rn.hp hT rfl rfl (gR_hp e_7961) ?_
      refine Rn.n hT 1 (pc' := 66) (L' := [some (.ref q0), some (.ref q1), some (.int x2), some (.int x3)]) (st' := [.ref q0, .ref v_7960]) rfl ?_
      obtain ⟨v_7962, e_7963, e⟩ := Option.bind_eq_some_iff.mp e
      refine Rn.hp hT rfl rfl (gR_hp e_7963) ?_
      refine Rn.n hT 1 (pc' := 70) (L' := [some (.ref q0), some (.ref q1), some (.int x2), some (.int x3)]) (st' := [.int x3, .ref v_7962, .ref v_7960]) rfl ?_
      obtain ⟨v_7964, e_7965, e⟩ := Option.bind_eq_some_iff.mp e
      refine Rn.hp hT rfl rfl (aI_hp e_7965) ?_
      refine Rn.n hT 1 (pc' := 72) (L' := [some (.ref q0), some (.ref q1), some (.int x2), some (.int x3)]) (st' := [.int x3, .int v_7964, .ref v_7960]) rfl ?_
      obtain ⟨h_7966, e_7967, e⟩ := Option.bind_eq_some_iff.mp e
      refine Rn.hp hT rfl rfl (wI_hp e_7967) ?_
      refine Rn.n hT 2 (pc' := 23) (L' := [some (.ref q0), some (.ref q1), some (.int x2), some (.int (x3 + (1 : Int32)))]) (st' := []) rfl ?_
      exact Rn.weak (ll_s (ll_s (ll_s (ll_s ll_e)))) (ih h_7966 (x3 + (1 : Int32)) e)
def fX12_laysFloor (N : Nat) (h : iv_H) (q0 : Nat) (q1 : Nat) (x2 : Int32) : Option (iv_H) := (fX12_laysFloor_l2 N q0 q1 x2 (fun (h_7936 : iv_H) => (fX12_laysFloor_l23 N q0 q1 x2 (fun (h_7937 : iv_H) => some h_7937) N h_7936 (0 : Int32))) N h (0 : Int32))
set_option maxRecDepth 10000 in
set_option maxHeartbeats 4000000 in
theorem rX12_laysFloor {d N : Nat} (hd : 1 ≤ d) {h : iv_H} {q0 : Nat} {q1 : Nat} {x2 : Int32} {r : iv_H} {Q : Option Value → iv_H → Prop} (e : fX12_laysFloor N h q0 q1 x2 = some r) (hq : Q none r) : Cl d 278 [.ref q0, .ref q1, .int x2] h Q := by
  obtain ⟨d, rfl⟩ : ∃ k, d = k + 1 := ⟨d - 1, by omega⟩
  have hd : 0 ≤ d := by omega
  have hT := hX12_laysFloor
  unfold fX12_laysFloor at e
  refine Cl.into (by decide) gX12_laysFloor rfl ?_
  show Rn d 278 none 0 [some (.ref q0), some (.ref q1), some (.int x2), none] [] h Q
  refine Rn.n hT 2 (pc' := 2) (L' := [some (.ref q0), some (.ref q1), some (.int x2), some (.int (0 : Int32))]) (st' := []) rfl ?_
  refine Rn.weak (ll_s (ll_s (ll_s (ll_s ll_e)))) (rX12_laysFloor_l2 hd (fun h_7936 e => ?_) hq N h (0 : Int32) e)
  try dsimp only at e
  refine Rn.n hT 2 (pc' := 23) (L' := [some (.ref q0), some (.ref q1), some (.int x2), some (.int (0 : Int32))]) (st' := []) rfl ?_
  refine Rn.weak (ll_s (ll_s (ll_s (ll_s ll_e)))) (rX12_laysFloor_l23 hd (fun h_7937 e => ?_) hq N h_7936 (0 : Int32) e)
  try dsimp only at e
  obtain rfl := Option.some.inj e
  exact Rn.ret hT rfl rfl rfl hq
set_option maxRecDepth 10000 in
theorem hX12_keepsNight : iv_Tb 279 tX12_keepsNight := iv_tb_of (m := mX12_keepsNight) rfl
set_option maxRecDepth 10000 in
theorem gX12_keepsNight : PG.2 279 = some mX12_keepsNight := iv_pi_of (t := tX12_keepsNight) rfl (by decide)
def fX12_keepsNight_l15 (N : Nat) (q0 : Nat) (kx : iv_H → Option (iv_H)) : Nat → iv_H → Int32 → Option (iv_H)
  | 0, _, _ => none
  | n + 1, h, x1 => (if (480 : Int32) ≤ x1 then (kx h) else ((gR h 12 9 q0).bind fun v_7981 => ((gR h 12 9 q0).bind fun v_7983 => ((aI h v_7983 x1).bind fun v_7985 => ((wI h v_7981 (x1 - (24 : Int32)) v_7985).bind fun h_7987 => (fX12_keepsNight_l15 N q0 kx n h_7987 (x1 + (1 : Int32))))))))
set_option maxRecDepth 10000 in
set_option maxHeartbeats 4000000 in
theorem rX12_keepsNight_l15 {d N : Nat} (hd : 1 ≤ d) {q0 : Nat} {kx : iv_H → Option (iv_H)} {r : iv_H} {Q : Option Value → iv_H → Prop} (hk : ∀ (h : iv_H), kx h = some r → Rn d 279 none 43 [some (.ref q0), none] [] h Q) (hq : Q none r) : ∀ (n : Nat) (h : iv_H) (x1 : Int32), fX12_keepsNight_l15 N q0 kx n h x1 = some r → Rn d 279 none 15 [some (.ref q0), some (.int x1)] [] h Q := by
  have hT := hX12_keepsNight
  intro n
  induction n with
  | zero =>
    intro h x1 e
    rw [fX12_keepsNight_l15] at e
    cases e
  | succ n ih =>
    intro h x1 e
    rw [fX12_keepsNight_l15] at e
    refine Rn.n hT 2 (pc' := 19) (L' := [some (.ref q0), some (.int x1)]) (st' := [.int (480 : Int32), .int x1]) rfl ?_
    by_cases c_7980 : (480 : Int32) ≤ x1
    · rw [if_pos c_7980] at e
      refine Rn.bt hT rfl rfl rfl (decide_eq_true c_7980) ?_
      exact Rn.weak (ll_s (ll_n ll_e)) (hk h e)
    · rw [if_neg c_7980] at e
      refine Rn.bf hT rfl rfl rfl (decide_eq_false c_7980) ?_
      refine Rn.n hT 1 (pc' := 23) (L' := [some (.ref q0), some (.int x1)]) (st' := [.ref q0]) rfl ?_
      obtain ⟨v_7981, e_7982, e⟩ := Option.bind_eq_some_iff.mp e
      refine Rn.hp hT rfl rfl (gR_hp e_7982) ?_
      refine Rn.n hT 4 (pc' := 31) (L' := [some (.ref q0), some (.int x1)]) (st' := [.ref q0, .int (x1 - (24 : Int32)), .ref v_7981]) rfl ?_
      obtain ⟨v_7983, e_7984, e⟩ := Option.bind_eq_some_iff.mp e
      refine Rn.hp hT rfl rfl (gR_hp e_7984) ?_
      refine Rn.n hT 1 (pc' := 35) (L' := [some (.ref q0), some (.int x1)]) (st' := [.int x1, .ref v_7983, .int (x1 - (24 : Int32)), .ref v_7981]) rfl ?_
      obtain ⟨v_7985, e_7986, e⟩ := Option.bind_eq_some_iff.mp e
      refine Rn.hp hT rfl rfl (aI_hp e_7986) ?_
      obtain ⟨h_7987, e_7988, e⟩ := Option.bind_eq_some_iff.mp e
      refine Rn.hp hT rfl rfl (wI_hp e_7988) ?_
      refine Rn.n hT 2 (pc' := 15) (L' := [some (.ref q0), some (.int (x1 + (1 : Int32)))]) (st' := []) rfl ?_
      exact Rn.weak (ll_s (ll_s ll_e)) (ih h_7987 (x1 + (1 : Int32)) e)
def fX12_keepsNight_b54 (N : Nat) (h : iv_H) (q0 : Nat)  : Option (iv_H) := ((gR h 12 9 q0).bind fun v_7989 => ((gR h 12 1 q0).bind fun v_7991 => ((aI h v_7991 (7 : Int32)).bind fun v_7993 => ((cko h q0 12).bind fun _ => (fX12_fillsFloor N h q0 v_7989 ((24 : Int32) * v_7993)).bind fun h_7998 => ((gR h_7998 12 1 q0).bind fun v_7999 => ((aI h_7998 v_7999 (7 : Int32)).bind fun v_8001 => ((wI h_7998 v_7999 (7 : Int32) (v_8001 + (1 : Int32))).bind fun h_8003 => ((gR h_8003 12 1 q0).bind fun v_8005 => ((aI h_8003 v_8005 (6 : Int32)).bind fun v_8007 => ((wI h_8003 v_8005 (6 : Int32) (v_8007 + (1 : Int32))).bind fun h_8009 => some h_8009))))))))))
set_option maxRecDepth 10000 in
set_option maxHeartbeats 4000000 in
theorem rX12_keepsNight_b54 {d N : Nat} (hd : 1 ≤ d) {h : iv_H} {q0 : Nat}  {r : iv_H} {Q : Option Value → iv_H → Prop} (hq : Q none r) (e : fX12_keepsNight_b54 N h q0  = some r) : Rn d 279 none 54 [some (.ref q0), none] [] h Q := by
  have hT := hX12_keepsNight
  unfold fX12_keepsNight_b54 at e
  refine Rn.n hT 2 (pc' := 56) (L' := [some (.ref q0), none]) (st' := [.ref q0, .ref q0]) rfl ?_
  obtain ⟨v_7989, e_7990, e⟩ := Option.bind_eq_some_iff.mp e
  refine Rn.hp hT rfl rfl (gR_hp e_7990) ?_
  refine Rn.n hT 2 (pc' := 62) (L' := [some (.ref q0), none]) (st' := [.ref q0, .int (24 : Int32), .ref v_7989, .ref q0]) rfl ?_
  obtain ⟨v_7991, e_7992, e⟩ := Option.bind_eq_some_iff.mp e
  refine Rn.hp hT rfl rfl (gR_hp e_7992) ?_
  refine Rn.n hT 1 (pc' := 67) (L' := [some (.ref q0), none]) (st' := [.int (7 : Int32), .ref v_7991, .int (24 : Int32), .ref v_7989, .ref q0]) rfl ?_
  obtain ⟨v_7993, e_7994, e⟩ := Option.bind_eq_some_iff.mp e
  refine Rn.hp hT rfl rfl (aI_hp e_7994) ?_
  refine Rn.n hT 1 (pc' := 69) (L' := [some (.ref q0), none]) (st' := [.int ((24 : Int32) * v_7993), .ref v_7989, .ref q0]) rfl ?_
  obtain ⟨_, e_7996, e⟩ := Option.bind_eq_some_iff.mp e
  obtain ⟨h_7998, e_7995, e⟩ := Option.bind_eq_some_iff.mp e
  refine Rn.call hT rfl rfl rfl (Nat.le_of_ble_eq_true rfl) (rcv_v gX12_fillsFloor (by omega) e_7996) (rX12_fillsFloor (by omega) e_7995 ?_)
  show Rn d _ _ 72 [some (.ref q0), none] [] h_7998 Q
  refine Rn.n hT 1 (pc' := 73) (L' := [some (.ref q0), none]) (st' := [.ref q0]) rfl ?_
  obtain ⟨v_7999, e_8000, e⟩ := Option.bind_eq_some_iff.mp e
  refine Rn.hp hT rfl rfl (gR_hp e_8000) ?_
  refine Rn.n hT 2 (pc' := 79) (L' := [some (.ref q0), none]) (st' := [.int (7 : Int32), .ref v_7999, .int (7 : Int32), .ref v_7999]) rfl ?_
  obtain ⟨v_8001, e_8002, e⟩ := Option.bind_eq_some_iff.mp e
  refine Rn.hp hT rfl rfl (aI_hp e_8002) ?_
  refine Rn.n hT 2 (pc' := 82) (L' := [some (.ref q0), none]) (st' := [.int (v_8001 + (1 : Int32)), .int (7 : Int32), .ref v_7999]) rfl ?_
  obtain ⟨h_8003, e_8004, e⟩ := Option.bind_eq_some_iff.mp e
  refine Rn.hp hT rfl rfl (wI_hp e_8004) ?_
  refine Rn.n hT 1 (pc' := 84) (L' := [some (.ref q0), none]) (st' := [.ref q0]) rfl ?_
  obtain ⟨v_8005, e_8006, e⟩ := Option.bind_eq_some_iff.mp e
  refine Rn.hp hT rfl rfl (gR_hp e_8006) ?_
  refine Rn.n hT 2 (pc' := 90) (L' := [some (.ref q0), none]) (st' := [.int (6 : Int32), .ref v_8005, .int (6 : Int32), .ref v_8005]) rfl ?_
  obtain ⟨v_8007, e_8008, e⟩ := Option.bind_eq_some_iff.mp e
  refine Rn.hp hT rfl rfl (aI_hp e_8008) ?_
  refine Rn.n hT 2 (pc' := 93) (L' := [some (.ref q0), none]) (st' := [.int (v_8007 + (1 : Int32)), .int (6 : Int32), .ref v_8005]) rfl ?_
  obtain ⟨h_8009, e_8010, e⟩ := Option.bind_eq_some_iff.mp e
  refine Rn.hp hT rfl rfl (wI_hp e_8010) ?_
  obtain rfl := Option.some.inj e
  exact Rn.ret hT rfl rfl rfl hq
def fX12_keepsNight (N : Nat) (h : iv_H) (q0 : Nat) : Option (iv_H) := ((gR h 12 1 q0).bind fun v_7968 => ((aI h v_7968 (7 : Int32)).bind fun v_7970 => (if v_7970 = (20 : Int32) then (fX12_keepsNight_l15 N q0 (fun (h_7973 : iv_H) => ((gR h_7973 12 1 q0).bind fun v_7974 => ((aI h_7973 v_7974 (7 : Int32)).bind fun v_7976 => ((wI h_7973 v_7974 (7 : Int32) (v_7976 - (1 : Int32))).bind fun h_7978 => (fX12_keepsNight_b54 N h_7978 q0))))) N h (24 : Int32)) else (fX12_keepsNight_b54 N h q0))))
set_option maxRecDepth 10000 in
set_option maxHeartbeats 4000000 in
theorem rX12_keepsNight {d N : Nat} (hd : 2 ≤ d) {h : iv_H} {q0 : Nat} {r : iv_H} {Q : Option Value → iv_H → Prop} (e : fX12_keepsNight N h q0 = some r) (hq : Q none r) : Cl d 279 [.ref q0] h Q := by
  obtain ⟨d, rfl⟩ : ∃ k, d = k + 1 := ⟨d - 1, by omega⟩
  have hd : 1 ≤ d := by omega
  have hT := hX12_keepsNight
  unfold fX12_keepsNight at e
  refine Cl.into (by decide) gX12_keepsNight rfl ?_
  show Rn d 279 none 0 [some (.ref q0), none] [] h Q
  refine Rn.n hT 1 (pc' := 1) (L' := [some (.ref q0), none]) (st' := [.ref q0]) rfl ?_
  obtain ⟨v_7968, e_7969, e⟩ := Option.bind_eq_some_iff.mp e
  refine Rn.hp hT rfl rfl (gR_hp e_7969) ?_
  refine Rn.n hT 1 (pc' := 6) (L' := [some (.ref q0), none]) (st' := [.int (7 : Int32), .ref v_7968]) rfl ?_
  obtain ⟨v_7970, e_7971, e⟩ := Option.bind_eq_some_iff.mp e
  refine Rn.hp hT rfl rfl (aI_hp e_7971) ?_
  refine Rn.n hT 1 (pc' := 9) (L' := [some (.ref q0), none]) (st' := [.int (20 : Int32), .int v_7970]) rfl ?_
  by_cases c_7972 : v_7970 = (20 : Int32)
  · rw [if_pos c_7972] at e
    refine Rn.bf hT rfl rfl rfl (decide_eq_false (fun z => z c_7972)) ?_
    refine Rn.n hT 2 (pc' := 15) (L' := [some (.ref q0), some (.int (24 : Int32))]) (st' := []) rfl ?_
    refine Rn.weak (ll_s (ll_s ll_e)) (rX12_keepsNight_l15 hd (fun h_7973 e => ?_) hq N h (24 : Int32) e)
    try dsimp only at e
    refine Rn.n hT 1 (pc' := 44) (L' := [some (.ref q0), none]) (st' := [.ref q0]) rfl ?_
    obtain ⟨v_7974, e_7975, e⟩ := Option.bind_eq_some_iff.mp e
    refine Rn.hp hT rfl rfl (gR_hp e_7975) ?_
    refine Rn.n hT 2 (pc' := 50) (L' := [some (.ref q0), none]) (st' := [.int (7 : Int32), .ref v_7974, .int (7 : Int32), .ref v_7974]) rfl ?_
    obtain ⟨v_7976, e_7977, e⟩ := Option.bind_eq_some_iff.mp e
    refine Rn.hp hT rfl rfl (aI_hp e_7977) ?_
    refine Rn.n hT 2 (pc' := 53) (L' := [some (.ref q0), none]) (st' := [.int (v_7976 - (1 : Int32)), .int (7 : Int32), .ref v_7974]) rfl ?_
    obtain ⟨h_7978, e_7979, e⟩ := Option.bind_eq_some_iff.mp e
    refine Rn.hp hT rfl rfl (wI_hp e_7979) ?_
    exact Rn.weak (ll_s (ll_n ll_e)) (rX12_keepsNight_b54 hd hq e)
  · rw [if_neg c_7972] at e
    refine Rn.bt hT rfl rfl rfl (decide_eq_true c_7972) ?_
    exact Rn.weak (ll_s (ll_n ll_e)) (rX12_keepsNight_b54 hd hq e)
set_option maxRecDepth 10000 in
theorem hX12_isWalk : iv_Tb 280 tX12_isWalk := iv_tb_of (m := mX12_isWalk) rfl
set_option maxRecDepth 10000 in
theorem gX12_isWalk : PG.2 280 = some mX12_isWalk := iv_pi_of (t := tX12_isWalk) rfl (by decide)
def fX12_isWalk_b64 (N : Nat) (h : iv_H)  (s0 : Int32) : Option (Int32) := (if s0 = 0 ∨ s0 = 1 then some s0 else none)
set_option maxRecDepth 10000 in
set_option maxHeartbeats 4000000 in
theorem rX12_isWalk_b64 {d N : Nat} (hd : 2 ≤ d) {h : iv_H}  {s0 : Int32} {r : Int32} {Q : Option Value → iv_H → Prop} (hq : Q (some (.int r)) h) (e : fX12_isWalk_b64 N h  s0 = some r) : Rn d 280 (some .boolean) 64 [none, none, none, none] [.int s0] h Q := by
  have hT := hX12_isWalk
  unfold fX12_isWalk_b64 at e
  by_cases c_8027 : s0 = 0 ∨ s0 = 1
  · rw [if_pos c_8027] at e
    obtain rfl := Option.some.inj e
    exact Rn.ret hT rfl rfl (if_pos c_8027) hq
  · rw [if_neg c_8027] at e
    cases e
def fX12_isWalk_b63 (N : Nat) (h : iv_H)   : Option (Int32) := (fX12_isWalk_b64 N h (0 : Int32))
set_option maxRecDepth 10000 in
set_option maxHeartbeats 4000000 in
theorem rX12_isWalk_b63 {d N : Nat} (hd : 2 ≤ d) {h : iv_H}   {r : Int32} {Q : Option Value → iv_H → Prop} (hq : Q (some (.int r)) h) (e : fX12_isWalk_b63 N h   = some r) : Rn d 280 (some .boolean) 63 [none, none, none, none] [] h Q := by
  have hT := hX12_isWalk
  unfold fX12_isWalk_b63 at e
  refine Rn.n hT 1 (pc' := 64) (L' := [none, none, none, none]) (st' := [.int (0 : Int32)]) rfl ?_
  exact Rn.weak (ll_n (ll_n (ll_n (ll_n ll_e)))) (rX12_isWalk_b64 hd hq e)
def fX12_isWalk_b74 (N : Nat) (h : iv_H)  (s0 : Int32) : Option (Int32) := (if s0 = 0 ∨ s0 = 1 then some s0 else none)
set_option maxRecDepth 10000 in
set_option maxHeartbeats 4000000 in
theorem rX12_isWalk_b74 {d N : Nat} (hd : 2 ≤ d) {h : iv_H}  {s0 : Int32} {r : Int32} {Q : Option Value → iv_H → Prop} (hq : Q (some (.int r)) h) (e : fX12_isWalk_b74 N h  s0 = some r) : Rn d 280 (some .boolean) 74 [none, none, none, none] [.int s0] h Q := by
  have hT := hX12_isWalk
  unfold fX12_isWalk_b74 at e
  by_cases c_8028 : s0 = 0 ∨ s0 = 1
  · rw [if_pos c_8028] at e
    obtain rfl := Option.some.inj e
    exact Rn.ret hT rfl rfl (if_pos c_8028) hq
  · rw [if_neg c_8028] at e
    cases e
def fX12_isWalk (N : Nat) (h : iv_H) (q0 : Nat) (x1 : Int32) (x2 : Int32) (x3 : Int32) : Option (Int32) := ((cko h q0 12).bind fun _ => (fX12_isRoom N h q0 x2).bind fun v_8013 => (if v_8013 = 0 then (some (0 : Int32)) else (if x1 = (1 : Int32) then ((fX12_in N h ((x3).toInt64) (0 : Int64) (3 : Int64)).bind fun v_8017 => (if v_8017 = 0 ∨ v_8017 = 1 then some v_8017 else none)) else (if x1 = (2 : Int32) then ((cko h q0 12).bind fun _ => (fX12_isRoom N h q0 x3).bind fun v_8022 => (if v_8022 = 0 then (fX12_isWalk_b63 N h) else (if x3 = x2 then (fX12_isWalk_b63 N h) else (fX12_isWalk_b64 N h (1 : Int32))))) else (if x1 = (3 : Int32) then (if x3 = 0 then (fX12_isWalk_b74 N h (1 : Int32)) else (fX12_isWalk_b74 N h (0 : Int32))) else (some (0 : Int32)))))))
set_option maxRecDepth 10000 in
set_option maxHeartbeats 4000000 in
theorem rX12_isWalk {d N : Nat} (hd : 3 ≤ d) {h : iv_H} {q0 : Nat} {x1 : Int32} {x2 : Int32} {x3 : Int32} {r : Int32} {Q : Option Value → iv_H → Prop} (e : fX12_isWalk N h q0 x1 x2 x3 = some r) (hq : Q (some (.int r)) h) : Cl d 280 [.ref q0, .int x1, .int x2, .int x3] h Q := by
  obtain ⟨d, rfl⟩ : ∃ k, d = k + 1 := ⟨d - 1, by omega⟩
  have hd : 2 ≤ d := by omega
  have hT := hX12_isWalk
  unfold fX12_isWalk at e
  refine Cl.into (by decide) gX12_isWalk rfl ?_
  show Rn d 280 (some .boolean) 0 [some (.ref q0), some (.int x1), some (.int x2), some (.int x3)] [] h Q
  refine Rn.n hT 2 (pc' := 2) (L' := [some (.ref q0), some (.int x1), some (.int x2), some (.int x3)]) (st' := [.int x2, .ref q0]) rfl ?_
  obtain ⟨_, e_8012, e⟩ := Option.bind_eq_some_iff.mp e
  obtain ⟨v_8013, e_8011, e⟩ := Option.bind_eq_some_iff.mp e
  refine Rn.call hT rfl rfl rfl (Nat.le_of_ble_eq_true rfl) (rcv_v gX12_isRoom (by omega) e_8012) (rX12_isRoom (by omega) e_8011 ?_)
  show Rn d _ _ 5 [some (.ref q0), some (.int x1), some (.int x2), some (.int x3)] [.int v_8013] h Q
  by_cases c_8014 : v_8013 = 0
  · rw [if_pos c_8014] at e
    refine Rn.bf hT rfl rfl rfl (decide_eq_false (fun z => z c_8014)) ?_
    refine Rn.n hT 1 (pc' := 9) (L' := [some (.ref q0), some (.int x1), some (.int x2), some (.int x3)]) (st' := [.int (0 : Int32)]) rfl ?_
    obtain rfl := Option.some.inj e
    exact Rn.ret hT rfl rfl rfl hq
  · rw [if_neg c_8014] at e
    refine Rn.bt hT rfl rfl rfl (decide_eq_true c_8014) ?_
    refine Rn.n hT 1 (pc' := 11) (L' := [some (.ref q0), some (.int x1), some (.int x2), some (.int x3)]) (st' := [.int x1]) rfl ?_
    by_cases c_8015 : x1 = (1 : Int32)
    · rw [if_pos c_8015] at e
      refine Rn.sw2 hT rfl rfl rfl (if_pos c_8015) ?_
      refine Rn.n hT 4 (pc' := 42) (L' := [some (.ref q0), some (.int x1), some (.int x2), some (.int x3)]) (st' := [.long (3 : Int64), .long (0 : Int64), .long ((x3).toInt64)]) rfl ?_
      obtain ⟨v_8017, e_8016, e⟩ := Option.bind_eq_some_iff.mp e
      refine Rn.call hT rfl rfl rfl (Nat.le_of_ble_eq_true rfl) rfl (rX12_in (by omega) e_8016 ?_)
      show Rn d _ _ 45 [some (.ref q0), some (.int x1), some (.int x2), some (.int x3)] [.int v_8017] h Q
      by_cases c_8018 : v_8017 = 0 ∨ v_8017 = 1
      · rw [if_pos c_8018] at e
        obtain rfl := Option.some.inj e
        exact Rn.ret hT rfl rfl (if_pos c_8018) hq
      · rw [if_neg c_8018] at e
        cases e
    · rw [if_neg c_8015] at e
      by_cases c_8019 : x1 = (2 : Int32)
      · rw [if_pos c_8019] at e
        refine Rn.sw2 hT rfl rfl rfl ((if_neg c_8015).trans (if_pos c_8019)) ?_
        refine Rn.n hT 2 (pc' := 48) (L' := [some (.ref q0), some (.int x1), some (.int x2), some (.int x3)]) (st' := [.int x3, .ref q0]) rfl ?_
        obtain ⟨_, e_8021, e⟩ := Option.bind_eq_some_iff.mp e
        obtain ⟨v_8022, e_8020, e⟩ := Option.bind_eq_some_iff.mp e
        refine Rn.call hT rfl rfl rfl (Nat.le_of_ble_eq_true rfl) (rcv_v gX12_isRoom (by omega) e_8021) (rX12_isRoom (by omega) e_8020 ?_)
        show Rn d _ _ 51 [some (.ref q0), some (.int x1), some (.int x2), some (.int x3)] [.int v_8022] h Q
        by_cases c_8023 : v_8022 = 0
        · rw [if_pos c_8023] at e
          refine Rn.bt hT rfl rfl rfl (decide_eq_true c_8023) ?_
          exact Rn.weak (ll_n (ll_n (ll_n (ll_n ll_e)))) (rX12_isWalk_b63 hd hq e)
        · rw [if_neg c_8023] at e
          refine Rn.bf hT rfl rfl rfl (decide_eq_false c_8023) ?_
          refine Rn.n hT 2 (pc' := 56) (L' := [some (.ref q0), some (.int x1), some (.int x2), some (.int x3)]) (st' := [.int x2, .int x3]) rfl ?_
          by_cases c_8024 : x3 = x2
          · rw [if_pos c_8024] at e
            refine Rn.bt hT rfl rfl rfl (decide_eq_true c_8024) ?_
            exact Rn.weak (ll_n (ll_n (ll_n (ll_n ll_e)))) (rX12_isWalk_b63 hd hq e)
          · rw [if_neg c_8024] at e
            refine Rn.bf hT rfl rfl rfl (decide_eq_false c_8024) ?_
            refine Rn.n hT 2 (pc' := 64) (L' := [some (.ref q0), some (.int x1), some (.int x2), some (.int x3)]) (st' := [.int (1 : Int32)]) rfl ?_
            exact Rn.weak (ll_n (ll_n (ll_n (ll_n ll_e)))) (rX12_isWalk_b64 hd hq e)
      · rw [if_neg c_8019] at e
        by_cases c_8025 : x1 = (3 : Int32)
        · rw [if_pos c_8025] at e
          refine Rn.sw2 hT rfl rfl rfl ((if_neg c_8015).trans ((if_neg c_8019).trans (if_pos c_8025))) ?_
          refine Rn.n hT 1 (pc' := 66) (L' := [some (.ref q0), some (.int x1), some (.int x2), some (.int x3)]) (st' := [.int x3]) rfl ?_
          by_cases c_8026 : x3 = 0
          · rw [if_pos c_8026] at e
            refine Rn.bf hT rfl rfl rfl (decide_eq_false (fun z => z c_8026)) ?_
            refine Rn.n hT 2 (pc' := 74) (L' := [some (.ref q0), some (.int x1), some (.int x2), some (.int x3)]) (st' := [.int (1 : Int32)]) rfl ?_
            exact Rn.weak (ll_n (ll_n (ll_n (ll_n ll_e)))) (rX12_isWalk_b74 hd hq e)
          · rw [if_neg c_8026] at e
            refine Rn.bt hT rfl rfl rfl (decide_eq_true c_8026) ?_
            refine Rn.n hT 1 (pc' := 74) (L' := [some (.ref q0), some (.int x1), some (.int x2), some (.int x3)]) (st' := [.int (0 : Int32)]) rfl ?_
            exact Rn.weak (ll_n (ll_n (ll_n (ll_n ll_e)))) (rX12_isWalk_b74 hd hq e)
        · rw [if_neg c_8025] at e
          refine Rn.sw2 hT rfl rfl rfl ((if_neg c_8015).trans ((if_neg c_8019).trans ((if_neg c_8025).trans rfl))) ?_
          refine Rn.n hT 1 (pc' := 76) (L' := [some (.ref q0), some (.int x1), some (.int x2), some (.int x3)]) (st' := [.int (0 : Int32)]) rfl ?_
          obtain rfl := Option.some.inj e
          exact Rn.ret hT rfl rfl rfl hq
set_option maxRecDepth 10000 in
theorem hX12_least : iv_Tb 281 tX12_least := iv_tb_of (m := mX12_least) rfl
set_option maxRecDepth 10000 in
theorem gX12_least : PG.2 281 = some mX12_least := iv_pi_of (t := tX12_least) rfl (by decide)
def fX12_least_b15 (N : Nat) (h : iv_H)  (s0 : Int32) : Option (Int32) := (some s0)
set_option maxRecDepth 10000 in
set_option maxHeartbeats 4000000 in
theorem rX12_least_b15 {d N : Nat} (hd : 0 ≤ d) {h : iv_H}  {s0 : Int32} {r : Int32} {Q : Option Value → iv_H → Prop} (hq : Q (some (.int r)) h) (e : fX12_least_b15 N h  s0 = some r) : Rn d 281 (some .int) 15 [none, none, none] [.int s0] h Q := by
  have hT := hX12_least
  unfold fX12_least_b15 at e
  obtain rfl := Option.some.inj e
  exact Rn.ret hT rfl rfl rfl hq
def fX12_least_b14 (N : Nat) (h : iv_H) (x1 : Int32)  : Option (Int32) := (fX12_least_b15 N h x1)
set_option maxRecDepth 10000 in
set_option maxHeartbeats 4000000 in
theorem rX12_least_b14 {d N : Nat} (hd : 0 ≤ d) {h : iv_H} {x1 : Int32}  {r : Int32} {Q : Option Value → iv_H → Prop} (hq : Q (some (.int r)) h) (e : fX12_least_b14 N h x1  = some r) : Rn d 281 (some .int) 14 [none, some (.int x1), none] [] h Q := by
  have hT := hX12_least
  unfold fX12_least_b14 at e
  refine Rn.n hT 1 (pc' := 15) (L' := [none, some (.int x1), none]) (st' := [.int x1]) rfl ?_
  exact Rn.weak (ll_n (ll_n (ll_n ll_e))) (rX12_least_b15 hd hq e)
def fX12_least (N : Nat) (h : iv_H) (x0 : Int32) (x1 : Int32) (x2 : Int32) : Option (Int32) := (if x0 = (2 : Int32) then (if x1 ≤ x2 then (fX12_least_b14 N h x1) else (fX12_least_b15 N h x2)) else (fX12_least_b14 N h x1))
set_option maxRecDepth 10000 in
set_option maxHeartbeats 4000000 in
theorem rX12_least {d N : Nat} (hd : 1 ≤ d) {h : iv_H} {x0 : Int32} {x1 : Int32} {x2 : Int32} {r : Int32} {Q : Option Value → iv_H → Prop} (e : fX12_least N h x0 x1 x2 = some r) (hq : Q (some (.int r)) h) : Cl d 281 [.int x0, .int x1, .int x2] h Q := by
  obtain ⟨d, rfl⟩ : ∃ k, d = k + 1 := ⟨d - 1, by omega⟩
  have hd : 0 ≤ d := by omega
  have hT := hX12_least
  unfold fX12_least at e
  refine Cl.into (by decide) gX12_least rfl ?_
  show Rn d 281 (some .int) 0 [some (.int x0), some (.int x1), some (.int x2)] [] h Q
  refine Rn.n hT 2 (pc' := 2) (L' := [some (.int x0), some (.int x1), some (.int x2)]) (st' := [.int (2 : Int32), .int x0]) rfl ?_
  by_cases c_8029 : x0 = (2 : Int32)
  · rw [if_pos c_8029] at e
    refine Rn.bf hT rfl rfl rfl (decide_eq_false (fun z => z c_8029)) ?_
    refine Rn.n hT 2 (pc' := 7) (L' := [some (.int x0), some (.int x1), some (.int x2)]) (st' := [.int x1, .int x2]) rfl ?_
    by_cases c_8030 : x1 ≤ x2
    · rw [if_pos c_8030] at e
      refine Rn.bt hT rfl rfl rfl (decide_eq_true c_8030) ?_
      exact Rn.weak (ll_n (ll_s (ll_n ll_e))) (rX12_least_b14 hd hq e)
    · rw [if_neg c_8030] at e
      refine Rn.bf hT rfl rfl rfl (decide_eq_false c_8030) ?_
      refine Rn.n hT 2 (pc' := 15) (L' := [some (.int x0), some (.int x1), some (.int x2)]) (st' := [.int x2]) rfl ?_
      exact Rn.weak (ll_n (ll_n (ll_n ll_e))) (rX12_least_b15 hd hq e)
  · rw [if_neg c_8029] at e
    refine Rn.bt hT rfl rfl rfl (decide_eq_true c_8029) ?_
    exact Rn.weak (ll_n (ll_s (ll_n ll_e))) (rX12_least_b14 hd hq e)
set_option maxRecDepth 10000 in
theorem hX12_greatest : iv_Tb 282 tX12_greatest := iv_tb_of (m := mX12_greatest) rfl
set_option maxRecDepth 10000 in
theorem gX12_greatest : PG.2 282 = some mX12_greatest := iv_pi_of (t := tX12_greatest) rfl (by decide)
def fX12_greatest_b15 (N : Nat) (h : iv_H)  (s0 : Int32) : Option (Int32) := (some s0)
set_option maxRecDepth 10000 in
set_option maxHeartbeats 4000000 in
theorem rX12_greatest_b15 {d N : Nat} (hd : 0 ≤ d) {h : iv_H}  {s0 : Int32} {r : Int32} {Q : Option Value → iv_H → Prop} (hq : Q (some (.int r)) h) (e : fX12_greatest_b15 N h  s0 = some r) : Rn d 282 (some .int) 15 [none, none, none] [.int s0] h Q := by
  have hT := hX12_greatest
  unfold fX12_greatest_b15 at e
  obtain rfl := Option.some.inj e
  exact Rn.ret hT rfl rfl rfl hq
def fX12_greatest_b14 (N : Nat) (h : iv_H) (x2 : Int32)  : Option (Int32) := (fX12_greatest_b15 N h x2)
set_option maxRecDepth 10000 in
set_option maxHeartbeats 4000000 in
theorem rX12_greatest_b14 {d N : Nat} (hd : 0 ≤ d) {h : iv_H} {x2 : Int32}  {r : Int32} {Q : Option Value → iv_H → Prop} (hq : Q (some (.int r)) h) (e : fX12_greatest_b14 N h x2  = some r) : Rn d 282 (some .int) 14 [none, none, some (.int x2)] [] h Q := by
  have hT := hX12_greatest
  unfold fX12_greatest_b14 at e
  refine Rn.n hT 1 (pc' := 15) (L' := [none, none, some (.int x2)]) (st' := [.int x2]) rfl ?_
  exact Rn.weak (ll_n (ll_n (ll_n ll_e))) (rX12_greatest_b15 hd hq e)
def fX12_greatest (N : Nat) (h : iv_H) (x0 : Int32) (x1 : Int32) (x2 : Int32) : Option (Int32) := (if x0 = (2 : Int32) then (if x1 ≤ x2 then (fX12_greatest_b14 N h x2) else (fX12_greatest_b15 N h x1)) else (fX12_greatest_b14 N h x2))
set_option maxRecDepth 10000 in
set_option maxHeartbeats 4000000 in
theorem rX12_greatest {d N : Nat} (hd : 1 ≤ d) {h : iv_H} {x0 : Int32} {x1 : Int32} {x2 : Int32} {r : Int32} {Q : Option Value → iv_H → Prop} (e : fX12_greatest N h x0 x1 x2 = some r) (hq : Q (some (.int r)) h) : Cl d 282 [.int x0, .int x1, .int x2] h Q := by
  obtain ⟨d, rfl⟩ : ∃ k, d = k + 1 := ⟨d - 1, by omega⟩
  have hd : 0 ≤ d := by omega
  have hT := hX12_greatest
  unfold fX12_greatest at e
  refine Cl.into (by decide) gX12_greatest rfl ?_
  show Rn d 282 (some .int) 0 [some (.int x0), some (.int x1), some (.int x2)] [] h Q
  refine Rn.n hT 2 (pc' := 2) (L' := [some (.int x0), some (.int x1), some (.int x2)]) (st' := [.int (2 : Int32), .int x0]) rfl ?_
  by_cases c_8031 : x0 = (2 : Int32)
  · rw [if_pos c_8031] at e
    refine Rn.bf hT rfl rfl rfl (decide_eq_false (fun z => z c_8031)) ?_
    refine Rn.n hT 2 (pc' := 7) (L' := [some (.int x0), some (.int x1), some (.int x2)]) (st' := [.int x1, .int x2]) rfl ?_
    by_cases c_8032 : x1 ≤ x2
    · rw [if_pos c_8032] at e
      refine Rn.bt hT rfl rfl rfl (decide_eq_true c_8032) ?_
      exact Rn.weak (ll_n (ll_n (ll_s ll_e))) (rX12_greatest_b14 hd hq e)
    · rw [if_neg c_8032] at e
      refine Rn.bf hT rfl rfl rfl (decide_eq_false c_8032) ?_
      refine Rn.n hT 2 (pc' := 15) (L' := [some (.int x0), some (.int x1), some (.int x2)]) (st' := [.int x1]) rfl ?_
      exact Rn.weak (ll_n (ll_n (ll_n ll_e))) (rX12_greatest_b15 hd hq e)
  · rw [if_neg c_8031] at e
    refine Rn.bt hT rfl rfl rfl (decide_eq_true c_8031) ?_
    exact Rn.weak (ll_n (ll_n (ll_s ll_e))) (rX12_greatest_b14 hd hq e)
set_option maxRecDepth 10000 in
theorem hX12_walk : iv_Tb 283 tX12_walk := iv_tb_of (m := mX12_walk) rfl
set_option maxRecDepth 10000 in
theorem gX12_walk : PG.2 283 = some mX12_walk := iv_pi_of (t := tX12_walk) rfl (by decide)
def fX12_walk (N : Nat) (h : iv_H) (q0 : Nat) (x1 : Int32) (x2 : Int32) (x3 : Int32) : Option (Int32 × iv_H) := ((cko h q0 12).bind fun _ => (fX12_isWalk N h q0 x1 x2 x3).bind fun v_8035 => (if v_8035 = 0 then (some ((-1 : Int32), h)) else ((fX12_least N h x1 x2 x3).bind fun v_8038 => ((fX12_greatest N h x1 x2 x3).bind fun v_8040 => ((cko h q0 12).bind fun _ => (fX12_lawOf N h q0 x1 v_8038 v_8040).bind fun p_8058 => (fun (v_8043 : Int32) (h_8044 : iv_H) => (if v_8043 ≤ 0 then ((cko h_8044 q0 12).bind fun _ => (fX12_keepsNight N h_8044 q0).bind fun h_8049 => ((cko h_8049 q0 12).bind fun _ => (fX12_walks N h_8049 q0 x1 v_8038 v_8040).bind fun h_8053 => ((gR h_8053 12 1 q0).bind fun v_8054 => ((aI h_8053 v_8054 (6 : Int32)).bind fun v_8056 => (some (v_8056, h_8053)))))) else (some (((-2 : Int32) - v_8043), h_8044)))) p_8058.1 p_8058.2)))))
set_option maxRecDepth 10000 in
set_option maxHeartbeats 4000000 in
theorem rX12_walk {d N : Nat} (hd : 8 ≤ d) {h : iv_H} {q0 : Nat} {x1 : Int32} {x2 : Int32} {x3 : Int32} {r : Int32 × iv_H} {Q : Option Value → iv_H → Prop} (e : fX12_walk N h q0 x1 x2 x3 = some r) (hq : Q (some (.int r.1)) r.2) : Cl d 283 [.ref q0, .int x1, .int x2, .int x3] h Q := by
  obtain ⟨d, rfl⟩ : ∃ k, d = k + 1 := ⟨d - 1, by omega⟩
  have hd : 7 ≤ d := by omega
  have hT := hX12_walk
  unfold fX12_walk at e
  refine Cl.into (by decide) gX12_walk rfl ?_
  show Rn d 283 (some .int) 0 [some (.ref q0), some (.int x1), some (.int x2), some (.int x3), none, none, none] [] h Q
  refine Rn.n hT 4 (pc' := 4) (L' := [some (.ref q0), some (.int x1), some (.int x2), some (.int x3), none, none, none]) (st' := [.int x3, .int x2, .int x1, .ref q0]) rfl ?_
  obtain ⟨_, e_8034, e⟩ := Option.bind_eq_some_iff.mp e
  obtain ⟨v_8035, e_8033, e⟩ := Option.bind_eq_some_iff.mp e
  refine Rn.call hT rfl rfl rfl (Nat.le_of_ble_eq_true rfl) (rcv_v gX12_isWalk (by omega) e_8034) (rX12_isWalk (by omega) e_8033 ?_)
  show Rn d _ _ 7 [some (.ref q0), some (.int x1), some (.int x2), some (.int x3), none, none, none] [.int v_8035] h Q
  by_cases c_8036 : v_8035 = 0
  · rw [if_pos c_8036] at e
    refine Rn.bf hT rfl rfl rfl (decide_eq_false (fun z => z c_8036)) ?_
    refine Rn.n hT 1 (pc' := 11) (L' := [some (.ref q0), some (.int x1), some (.int x2), some (.int x3), none, none, none]) (st' := [.int (-1 : Int32)]) rfl ?_
    obtain rfl := Option.some.inj e
    exact Rn.ret hT rfl rfl rfl hq
  · rw [if_neg c_8036] at e
    refine Rn.bt hT rfl rfl rfl (decide_eq_true c_8036) ?_
    refine Rn.n hT 3 (pc' := 15) (L' := [some (.ref q0), some (.int x1), some (.int x2), some (.int x3), none, none, none]) (st' := [.int x3, .int x2, .int x1]) rfl ?_
    obtain ⟨v_8038, e_8037, e⟩ := Option.bind_eq_some_iff.mp e
    refine Rn.call hT rfl rfl rfl (Nat.le_of_ble_eq_true rfl) rfl (rX12_least (by omega) e_8037 ?_)
    show Rn d _ _ 18 [some (.ref q0), some (.int x1), some (.int x2), some (.int x3), none, none, none] [.int v_8038] h Q
    refine Rn.n hT 4 (pc' := 23) (L' := [some (.ref q0), some (.int x1), some (.int x2), some (.int x3), some (.int v_8038), none, none]) (st' := [.int x3, .int x2, .int x1]) rfl ?_
    obtain ⟨v_8040, e_8039, e⟩ := Option.bind_eq_some_iff.mp e
    refine Rn.call hT rfl rfl rfl (Nat.le_of_ble_eq_true rfl) rfl (rX12_greatest (by omega) e_8039 ?_)
    show Rn d _ _ 26 [some (.ref q0), some (.int x1), some (.int x2), some (.int x3), some (.int v_8038), none, none] [.int v_8040] h Q
    refine Rn.n hT 5 (pc' := 34) (L' := [some (.ref q0), some (.int x1), some (.int x2), some (.int x3), some (.int v_8038), some (.int v_8040), none]) (st' := [.int v_8040, .int v_8038, .int x1, .ref q0]) rfl ?_
    obtain ⟨_, e_8042, e⟩ := Option.bind_eq_some_iff.mp e
    obtain ⟨⟨v_8043, h_8044⟩, e_8041, e⟩ := Option.bind_eq_some_iff.mp e
    try dsimp only at e
    try dsimp only at e
    refine Rn.call hT rfl rfl rfl (Nat.le_of_ble_eq_true rfl) (rcv_v gX12_lawOf (by omega) e_8042) (rX12_lawOf (by omega) e_8041 ?_)
    show Rn d _ _ 37 [some (.ref q0), some (.int x1), some (.int x2), some (.int x3), some (.int v_8038), some (.int v_8040), none] [.int v_8043] h_8044 Q
    refine Rn.n hT 2 (pc' := 41) (L' := [some (.ref q0), some (.int x1), some (.int x2), some (.int x3), some (.int v_8038), some (.int v_8040), some (.int v_8043)]) (st' := [.int v_8043]) rfl ?_
    by_cases c_8045 : v_8043 ≤ 0
    · rw [if_pos c_8045] at e
      refine Rn.bt hT rfl rfl rfl (decide_eq_true c_8045) ?_
      refine Rn.n hT 1 (pc' := 51) (L' := [some (.ref q0), some (.int x1), some (.int x2), some (.int x3), some (.int v_8038), some (.int v_8040), some (.int v_8043)]) (st' := [.ref q0]) rfl ?_
      obtain ⟨_, e_8047, e⟩ := Option.bind_eq_some_iff.mp e
      obtain ⟨h_8049, e_8046, e⟩ := Option.bind_eq_some_iff.mp e
      refine Rn.call hT rfl rfl rfl (Nat.le_of_ble_eq_true rfl) (rcv_v gX12_keepsNight (by omega) e_8047) (rX12_keepsNight (by omega) e_8046 ?_)
      show Rn d _ _ 54 [some (.ref q0), some (.int x1), some (.int x2), some (.int x3), some (.int v_8038), some (.int v_8040), some (.int v_8043)] [] h_8049 Q
      refine Rn.n hT 4 (pc' := 60) (L' := [some (.ref q0), some (.int x1), some (.int x2), some (.int x3), some (.int v_8038), some (.int v_8040), some (.int v_8043)]) (st' := [.int v_8040, .int v_8038, .int x1, .ref q0]) rfl ?_
      obtain ⟨_, e_8051, e⟩ := Option.bind_eq_some_iff.mp e
      obtain ⟨h_8053, e_8050, e⟩ := Option.bind_eq_some_iff.mp e
      refine Rn.call hT rfl rfl rfl (Nat.le_of_ble_eq_true rfl) (rcv_v gX12_walks (by omega) e_8051) (rX12_walks (by omega) e_8050 ?_)
      show Rn d _ _ 63 [some (.ref q0), some (.int x1), some (.int x2), some (.int x3), some (.int v_8038), some (.int v_8040), some (.int v_8043)] [] h_8053 Q
      refine Rn.n hT 1 (pc' := 64) (L' := [some (.ref q0), some (.int x1), some (.int x2), some (.int x3), some (.int v_8038), some (.int v_8040), some (.int v_8043)]) (st' := [.ref q0]) rfl ?_
      obtain ⟨v_8054, e_8055, e⟩ := Option.bind_eq_some_iff.mp e
      refine Rn.hp hT rfl rfl (gR_hp e_8055) ?_
      refine Rn.n hT 1 (pc' := 69) (L' := [some (.ref q0), some (.int x1), some (.int x2), some (.int x3), some (.int v_8038), some (.int v_8040), some (.int v_8043)]) (st' := [.int (6 : Int32), .ref v_8054]) rfl ?_
      obtain ⟨v_8056, e_8057, e⟩ := Option.bind_eq_some_iff.mp e
      refine Rn.hp hT rfl rfl (aI_hp e_8057) ?_
      obtain rfl := Option.some.inj e
      exact Rn.ret hT rfl rfl rfl hq
    · rw [if_neg c_8045] at e
      refine Rn.bf hT rfl rfl rfl (decide_eq_false c_8045) ?_
      refine Rn.n hT 3 (pc' := 49) (L' := [some (.ref q0), some (.int x1), some (.int x2), some (.int x3), some (.int v_8038), some (.int v_8040), some (.int v_8043)]) (st' := [.int ((-2 : Int32) - v_8043)]) rfl ?_
      obtain rfl := Option.some.inj e
      exact Rn.ret hT rfl rfl rfl hq
set_option maxRecDepth 10000 in
theorem hX12_rest : iv_Tb 284 tX12_rest := iv_tb_of (m := mX12_rest) rfl
set_option maxRecDepth 10000 in
theorem gX12_rest : PG.2 284 = some mX12_rest := iv_pi_of (t := tX12_rest) rfl (by decide)
def fX12_rest (N : Nat) (h : iv_H) (q0 : Nat) : Option (Int32 × iv_H) := ((cko h q0 12).bind fun _ => (fX12_isPalace N h q0).bind fun v_8061 => (if v_8061 = 0 then (some ((-1 : Int32), h)) else ((cko h q0 12).bind fun _ => (fX12_keepsNight N h q0).bind fun h_8066 => ((gR h_8066 12 1 q0).bind fun v_8067 => ((aI h_8066 v_8067 (6 : Int32)).bind fun v_8069 => (some (v_8069, h_8066)))))))
set_option maxRecDepth 10000 in
set_option maxHeartbeats 4000000 in
theorem rX12_rest {d N : Nat} (hd : 3 ≤ d) {h : iv_H} {q0 : Nat} {r : Int32 × iv_H} {Q : Option Value → iv_H → Prop} (e : fX12_rest N h q0 = some r) (hq : Q (some (.int r.1)) r.2) : Cl d 284 [.ref q0] h Q := by
  obtain ⟨d, rfl⟩ : ∃ k, d = k + 1 := ⟨d - 1, by omega⟩
  have hd : 2 ≤ d := by omega
  have hT := hX12_rest
  unfold fX12_rest at e
  refine Cl.into (by decide) gX12_rest rfl ?_
  show Rn d 284 (some .int) 0 [some (.ref q0)] [] h Q
  refine Rn.n hT 1 (pc' := 1) (L' := [some (.ref q0)]) (st' := [.ref q0]) rfl ?_
  obtain ⟨_, e_8060, e⟩ := Option.bind_eq_some_iff.mp e
  obtain ⟨v_8061, e_8059, e⟩ := Option.bind_eq_some_iff.mp e
  refine Rn.call hT rfl rfl rfl (Nat.le_of_ble_eq_true rfl) (rcv_v gX12_isPalace (by omega) e_8060) (rX12_isPalace (by omega) e_8059 ?_)
  show Rn d _ _ 4 [some (.ref q0)] [.int v_8061] h Q
  by_cases c_8062 : v_8061 = 0
  · rw [if_pos c_8062] at e
    refine Rn.bf hT rfl rfl rfl (decide_eq_false (fun z => z c_8062)) ?_
    refine Rn.n hT 1 (pc' := 8) (L' := [some (.ref q0)]) (st' := [.int (-1 : Int32)]) rfl ?_
    obtain rfl := Option.some.inj e
    exact Rn.ret hT rfl rfl rfl hq
  · rw [if_neg c_8062] at e
    refine Rn.bt hT rfl rfl rfl (decide_eq_true c_8062) ?_
    refine Rn.n hT 1 (pc' := 10) (L' := [some (.ref q0)]) (st' := [.ref q0]) rfl ?_
    obtain ⟨_, e_8064, e⟩ := Option.bind_eq_some_iff.mp e
    obtain ⟨h_8066, e_8063, e⟩ := Option.bind_eq_some_iff.mp e
    refine Rn.call hT rfl rfl rfl (Nat.le_of_ble_eq_true rfl) (rcv_v gX12_keepsNight (by omega) e_8064) (rX12_keepsNight (by omega) e_8063 ?_)
    show Rn d _ _ 13 [some (.ref q0)] [] h_8066 Q
    refine Rn.n hT 1 (pc' := 14) (L' := [some (.ref q0)]) (st' := [.ref q0]) rfl ?_
    obtain ⟨v_8067, e_8068, e⟩ := Option.bind_eq_some_iff.mp e
    refine Rn.hp hT rfl rfl (gR_hp e_8068) ?_
    refine Rn.n hT 1 (pc' := 19) (L' := [some (.ref q0)]) (st' := [.int (6 : Int32), .ref v_8067]) rfl ?_
    obtain ⟨v_8069, e_8070, e⟩ := Option.bind_eq_some_iff.mp e
    refine Rn.hp hT rfl rfl (aI_hp e_8070) ?_
    obtain rfl := Option.some.inj e
    exact Rn.ret hT rfl rfl rfl hq
set_option maxRecDepth 10000 in
theorem hX12_undo : iv_Tb 285 tX12_undo := iv_tb_of (m := mX12_undo) rfl
set_option maxRecDepth 10000 in
theorem gX12_undo : PG.2 285 = some mX12_undo := iv_pi_of (t := tX12_undo) rfl (by decide)
def fX12_undo (N : Nat) (h : iv_H) (q0 : Nat) : Option (Int32 × iv_H) := ((gR h 12 1 q0).bind fun v_8071 => ((aI h v_8071 (7 : Int32)).bind fun v_8073 => (if v_8073 = 0 then (some ((-2 : Int32), h)) else ((gR h 12 1 q0).bind fun v_8076 => ((aI h v_8076 (7 : Int32)).bind fun v_8078 => ((wI h v_8076 (7 : Int32) (v_8078 - (1 : Int32))).bind fun h_8080 => ((gR h_8080 12 1 q0).bind fun v_8082 => ((aI h_8080 v_8082 (6 : Int32)).bind fun v_8084 => ((wI h_8080 v_8082 (6 : Int32) (v_8084 - (1 : Int32))).bind fun h_8086 => ((gR h_8086 12 9 q0).bind fun v_8088 => ((gR h_8086 12 1 q0).bind fun v_8090 => ((aI h_8086 v_8090 (7 : Int32)).bind fun v_8092 => ((cko h_8086 q0 12).bind fun _ => (fX12_laysFloor N h_8086 q0 v_8088 ((24 : Int32) * v_8092)).bind fun h_8097 => ((gR h_8097 12 1 q0).bind fun v_8098 => ((aI h_8097 v_8098 (7 : Int32)).bind fun v_8100 => (some (v_8100, h_8097)))))))))))))))))
set_option maxRecDepth 10000 in
set_option maxHeartbeats 4000000 in
theorem rX12_undo {d N : Nat} (hd : 2 ≤ d) {h : iv_H} {q0 : Nat} {r : Int32 × iv_H} {Q : Option Value → iv_H → Prop} (e : fX12_undo N h q0 = some r) (hq : Q (some (.int r.1)) r.2) : Cl d 285 [.ref q0] h Q := by
  obtain ⟨d, rfl⟩ : ∃ k, d = k + 1 := ⟨d - 1, by omega⟩
  have hd : 1 ≤ d := by omega
  have hT := hX12_undo
  unfold fX12_undo at e
  refine Cl.into (by decide) gX12_undo rfl ?_
  show Rn d 285 (some .int) 0 [some (.ref q0)] [] h Q
  refine Rn.n hT 1 (pc' := 1) (L' := [some (.ref q0)]) (st' := [.ref q0]) rfl ?_
  obtain ⟨v_8071, e_8072, e⟩ := Option.bind_eq_some_iff.mp e
  refine Rn.hp hT rfl rfl (gR_hp e_8072) ?_
  refine Rn.n hT 1 (pc' := 6) (L' := [some (.ref q0)]) (st' := [.int (7 : Int32), .ref v_8071]) rfl ?_
  obtain ⟨v_8073, e_8074, e⟩ := Option.bind_eq_some_iff.mp e
  refine Rn.hp hT rfl rfl (aI_hp e_8074) ?_
  by_cases c_8075 : v_8073 = 0
  · rw [if_pos c_8075] at e
    refine Rn.bf hT rfl rfl rfl (decide_eq_false (fun z => z c_8075)) ?_
    refine Rn.n hT 1 (pc' := 12) (L' := [some (.ref q0)]) (st' := [.int (-2 : Int32)]) rfl ?_
    obtain rfl := Option.some.inj e
    exact Rn.ret hT rfl rfl rfl hq
  · rw [if_neg c_8075] at e
    refine Rn.bt hT rfl rfl rfl (decide_eq_true c_8075) ?_
    refine Rn.n hT 1 (pc' := 14) (L' := [some (.ref q0)]) (st' := [.ref q0]) rfl ?_
    obtain ⟨v_8076, e_8077, e⟩ := Option.bind_eq_some_iff.mp e
    refine Rn.hp hT rfl rfl (gR_hp e_8077) ?_
    refine Rn.n hT 2 (pc' := 20) (L' := [some (.ref q0)]) (st' := [.int (7 : Int32), .ref v_8076, .int (7 : Int32), .ref v_8076]) rfl ?_
    obtain ⟨v_8078, e_8079, e⟩ := Option.bind_eq_some_iff.mp e
    refine Rn.hp hT rfl rfl (aI_hp e_8079) ?_
    refine Rn.n hT 2 (pc' := 23) (L' := [some (.ref q0)]) (st' := [.int (v_8078 - (1 : Int32)), .int (7 : Int32), .ref v_8076]) rfl ?_
    obtain ⟨h_8080, e_8081, e⟩ := Option.bind_eq_some_iff.mp e
    refine Rn.hp hT rfl rfl (wI_hp e_8081) ?_
    refine Rn.n hT 1 (pc' := 25) (L' := [some (.ref q0)]) (st' := [.ref q0]) rfl ?_
    obtain ⟨v_8082, e_8083, e⟩ := Option.bind_eq_some_iff.mp e
    refine Rn.hp hT rfl rfl (gR_hp e_8083) ?_
    refine Rn.n hT 2 (pc' := 31) (L' := [some (.ref q0)]) (st' := [.int (6 : Int32), .ref v_8082, .int (6 : Int32), .ref v_8082]) rfl ?_
    obtain ⟨v_8084, e_8085, e⟩ := Option.bind_eq_some_iff.mp e
    refine Rn.hp hT rfl rfl (aI_hp e_8085) ?_
    refine Rn.n hT 2 (pc' := 34) (L' := [some (.ref q0)]) (st' := [.int (v_8084 - (1 : Int32)), .int (6 : Int32), .ref v_8082]) rfl ?_
    obtain ⟨h_8086, e_8087, e⟩ := Option.bind_eq_some_iff.mp e
    refine Rn.hp hT rfl rfl (wI_hp e_8087) ?_
    refine Rn.n hT 2 (pc' := 37) (L' := [some (.ref q0)]) (st' := [.ref q0, .ref q0]) rfl ?_
    obtain ⟨v_8088, e_8089, e⟩ := Option.bind_eq_some_iff.mp e
    refine Rn.hp hT rfl rfl (gR_hp e_8089) ?_
    refine Rn.n hT 2 (pc' := 43) (L' := [some (.ref q0)]) (st' := [.ref q0, .int (24 : Int32), .ref v_8088, .ref q0]) rfl ?_
    obtain ⟨v_8090, e_8091, e⟩ := Option.bind_eq_some_iff.mp e
    refine Rn.hp hT rfl rfl (gR_hp e_8091) ?_
    refine Rn.n hT 1 (pc' := 48) (L' := [some (.ref q0)]) (st' := [.int (7 : Int32), .ref v_8090, .int (24 : Int32), .ref v_8088, .ref q0]) rfl ?_
    obtain ⟨v_8092, e_8093, e⟩ := Option.bind_eq_some_iff.mp e
    refine Rn.hp hT rfl rfl (aI_hp e_8093) ?_
    refine Rn.n hT 1 (pc' := 50) (L' := [some (.ref q0)]) (st' := [.int ((24 : Int32) * v_8092), .ref v_8088, .ref q0]) rfl ?_
    obtain ⟨_, e_8095, e⟩ := Option.bind_eq_some_iff.mp e
    obtain ⟨h_8097, e_8094, e⟩ := Option.bind_eq_some_iff.mp e
    refine Rn.call hT rfl rfl rfl (Nat.le_of_ble_eq_true rfl) (rcv_v gX12_laysFloor (by omega) e_8095) (rX12_laysFloor (by omega) e_8094 ?_)
    show Rn d _ _ 53 [some (.ref q0)] [] h_8097 Q
    refine Rn.n hT 1 (pc' := 54) (L' := [some (.ref q0)]) (st' := [.ref q0]) rfl ?_
    obtain ⟨v_8098, e_8099, e⟩ := Option.bind_eq_some_iff.mp e
    refine Rn.hp hT rfl rfl (gR_hp e_8099) ?_
    refine Rn.n hT 1 (pc' := 59) (L' := [some (.ref q0)]) (st' := [.int (7 : Int32), .ref v_8098]) rfl ?_
    obtain ⟨v_8100, e_8101, e⟩ := Option.bind_eq_some_iff.mp e
    refine Rn.hp hT rfl rfl (aI_hp e_8101) ?_
    obtain rfl := Option.some.inj e
    exact Rn.ret hT rfl rfl rfl hq
set_option maxRecDepth 10000 in
theorem hX12_isDraft : iv_Tb 286 tX12_isDraft := iv_tb_of (m := mX12_isDraft) rfl
set_option maxRecDepth 10000 in
theorem gX12_isDraft : PG.2 286 = some mX12_isDraft := iv_pi_of (t := tX12_isDraft) rfl (by decide)
def fX12_isDraft_b32 (N : Nat) (h : iv_H)  (s0 : Int32) : Option (Int32) := (if s0 = 0 ∨ s0 = 1 then some s0 else none)
set_option maxRecDepth 10000 in
set_option maxHeartbeats 4000000 in
theorem rX12_isDraft_b32 {d N : Nat} (hd : 1 ≤ d) {h : iv_H}  {s0 : Int32} {r : Int32} {Q : Option Value → iv_H → Prop} (hq : Q (some (.int r)) h) (e : fX12_isDraft_b32 N h  s0 = some r) : Rn d 286 (some .boolean) 32 [none, none] [.int s0] h Q := by
  have hT := hX12_isDraft
  unfold fX12_isDraft_b32 at e
  by_cases c_8110 : s0 = 0 ∨ s0 = 1
  · rw [if_pos c_8110] at e
    obtain rfl := Option.some.inj e
    exact Rn.ret hT rfl rfl (if_pos c_8110) hq
  · rw [if_neg c_8110] at e
    cases e
def fX12_isDraft_b31 (N : Nat) (h : iv_H)   : Option (Int32) := (fX12_isDraft_b32 N h (0 : Int32))
set_option maxRecDepth 10000 in
set_option maxHeartbeats 4000000 in
theorem rX12_isDraft_b31 {d N : Nat} (hd : 1 ≤ d) {h : iv_H}   {r : Int32} {Q : Option Value → iv_H → Prop} (hq : Q (some (.int r)) h) (e : fX12_isDraft_b31 N h   = some r) : Rn d 286 (some .boolean) 31 [none, none] [] h Q := by
  have hT := hX12_isDraft
  unfold fX12_isDraft_b31 at e
  refine Rn.n hT 1 (pc' := 32) (L' := [none, none]) (st' := [.int (0 : Int32)]) rfl ?_
  exact Rn.weak (ll_n (ll_n ll_e)) (rX12_isDraft_b32 hd hq e)
def fX12_isDraft (N : Nat) (h : iv_H) (q0 : Nat) (x1 : Int32) : Option (Int32) := ((fX12_in N h ((x1).toInt64) (0 : Int64) (3 : Int64)).bind fun v_8103 => (if v_8103 = 0 then (fX12_isDraft_b31 N h) else ((gR h 12 1 q0).bind fun v_8105 => ((aI h v_8105 (11 : Int32)).bind fun v_8107 => (if ((v_8107 >>> (x1 &&& 31)) &&& (1 : Int32)) = (1 : Int32) then (fX12_isDraft_b32 N h (1 : Int32)) else (fX12_isDraft_b31 N h))))))
set_option maxRecDepth 10000 in
set_option maxHeartbeats 4000000 in
theorem rX12_isDraft {d N : Nat} (hd : 2 ≤ d) {h : iv_H} {q0 : Nat} {x1 : Int32} {r : Int32} {Q : Option Value → iv_H → Prop} (e : fX12_isDraft N h q0 x1 = some r) (hq : Q (some (.int r)) h) : Cl d 286 [.ref q0, .int x1] h Q := by
  obtain ⟨d, rfl⟩ : ∃ k, d = k + 1 := ⟨d - 1, by omega⟩
  have hd : 1 ≤ d := by omega
  have hT := hX12_isDraft
  unfold fX12_isDraft at e
  refine Cl.into (by decide) gX12_isDraft rfl ?_
  show Rn d 286 (some .boolean) 0 [some (.ref q0), some (.int x1)] [] h Q
  refine Rn.n hT 4 (pc' := 6) (L' := [some (.ref q0), some (.int x1)]) (st' := [.long (3 : Int64), .long (0 : Int64), .long ((x1).toInt64)]) rfl ?_
  obtain ⟨v_8103, e_8102, e⟩ := Option.bind_eq_some_iff.mp e
  refine Rn.call hT rfl rfl rfl (Nat.le_of_ble_eq_true rfl) rfl (rX12_in (by omega) e_8102 ?_)
  show Rn d _ _ 9 [some (.ref q0), some (.int x1)] [.int v_8103] h Q
  by_cases c_8104 : v_8103 = 0
  · rw [if_pos c_8104] at e
    refine Rn.bt hT rfl rfl rfl (decide_eq_true c_8104) ?_
    exact Rn.weak (ll_n (ll_n ll_e)) (rX12_isDraft_b31 hd hq e)
  · rw [if_neg c_8104] at e
    refine Rn.bf hT rfl rfl rfl (decide_eq_false c_8104) ?_
    refine Rn.n hT 1 (pc' := 13) (L' := [some (.ref q0), some (.int x1)]) (st' := [.ref q0]) rfl ?_
    obtain ⟨v_8105, e_8106, e⟩ := Option.bind_eq_some_iff.mp e
    refine Rn.hp hT rfl rfl (gR_hp e_8106) ?_
    refine Rn.n hT 1 (pc' := 18) (L' := [some (.ref q0), some (.int x1)]) (st' := [.int (11 : Int32), .ref v_8105]) rfl ?_
    obtain ⟨v_8107, e_8108, e⟩ := Option.bind_eq_some_iff.mp e
    refine Rn.hp hT rfl rfl (aI_hp e_8108) ?_
    refine Rn.n hT 5 (pc' := 24) (L' := [some (.ref q0), some (.int x1)]) (st' := [.int (1 : Int32), .int ((v_8107 >>> (x1 &&& 31)) &&& (1 : Int32))]) rfl ?_
    by_cases c_8109 : ((v_8107 >>> (x1 &&& 31)) &&& (1 : Int32)) = (1 : Int32)
    · rw [if_pos c_8109] at e
      refine Rn.bf hT rfl rfl rfl (decide_eq_false (fun z => z c_8109)) ?_
      refine Rn.n hT 2 (pc' := 32) (L' := [some (.ref q0), some (.int x1)]) (st' := [.int (1 : Int32)]) rfl ?_
      exact Rn.weak (ll_n (ll_n ll_e)) (rX12_isDraft_b32 hd hq e)
    · rw [if_neg c_8109] at e
      refine Rn.bt hT rfl rfl rfl (decide_eq_true c_8109) ?_
      exact Rn.weak (ll_n (ll_n ll_e)) (rX12_isDraft_b31 hd hq e)
set_option maxRecDepth 10000 in
theorem hX12_draft : iv_Tb 287 tX12_draft := iv_tb_of (m := mX12_draft) rfl
set_option maxRecDepth 10000 in
theorem gX12_draft : PG.2 287 = some mX12_draft := iv_pi_of (t := tX12_draft) rfl (by decide)
def fX12_draft_b19 (N : Nat) (h : iv_H)   : Option (Int32 × iv_H) := (some ((-1 : Int32), h))
set_option maxRecDepth 10000 in
set_option maxHeartbeats 4000000 in
theorem rX12_draft_b19 {d N : Nat} (hd : 6 ≤ d) {h : iv_H}   {r : Int32 × iv_H} {Q : Option Value → iv_H → Prop} (hq : Q (some (.int r.1)) r.2) (e : fX12_draft_b19 N h   = some r) : Rn d 287 (some .int) 19 [none, none] [] h Q := by
  have hT := hX12_draft
  unfold fX12_draft_b19 at e
  refine Rn.n hT 1 (pc' := 20) (L' := [none, none]) (st' := [.int (-1 : Int32)]) rfl ?_
  obtain rfl := Option.some.inj e
  exact Rn.ret hT rfl rfl rfl hq
def fX12_draft (N : Nat) (h : iv_H) (q0 : Nat) (x1 : Int32) : Option (Int32 × iv_H) := ((cko h q0 12).bind fun _ => (fX12_isPalace N h q0).bind fun v_8113 => (if v_8113 = 0 then (fX12_draft_b19 N h) else ((fX12_in N h ((x1).toInt64) (0 : Int64) (3 : Int64)).bind fun v_8116 => (if v_8116 = 0 then (fX12_draft_b19 N h) else ((gR h 12 10 q0).bind fun v_8118 => ((cko h q0 12).bind fun _ => (fX12_fillsFloor N h q0 v_8118 ((24 : Int32) * x1)).bind fun h_8123 => ((gR h_8123 12 1 q0).bind fun v_8124 => ((aI h_8123 v_8124 (11 : Int32)).bind fun v_8126 => ((wI h_8123 v_8124 (11 : Int32) (v_8126 ||| ((1 : Int32) <<< (x1 &&& 31)))).bind fun h_8128 => ((cko h_8128 q0 12).bind fun _ => (fX12_mismatches N h_8128 q0).bind fun p_8134 => (fun (v_8132 : Int32) (h_8133 : iv_H) => (some (v_8132, h_8133))) p_8134.1 p_8134.2))))))))))
set_option maxRecDepth 10000 in
set_option maxHeartbeats 4000000 in
theorem rX12_draft {d N : Nat} (hd : 7 ≤ d) {h : iv_H} {q0 : Nat} {x1 : Int32} {r : Int32 × iv_H} {Q : Option Value → iv_H → Prop} (e : fX12_draft N h q0 x1 = some r) (hq : Q (some (.int r.1)) r.2) : Cl d 287 [.ref q0, .int x1] h Q := by
  obtain ⟨d, rfl⟩ : ∃ k, d = k + 1 := ⟨d - 1, by omega⟩
  have hd : 6 ≤ d := by omega
  have hT := hX12_draft
  unfold fX12_draft at e
  refine Cl.into (by decide) gX12_draft rfl ?_
  show Rn d 287 (some .int) 0 [some (.ref q0), some (.int x1)] [] h Q
  refine Rn.n hT 1 (pc' := 1) (L' := [some (.ref q0), some (.int x1)]) (st' := [.ref q0]) rfl ?_
  obtain ⟨_, e_8112, e⟩ := Option.bind_eq_some_iff.mp e
  obtain ⟨v_8113, e_8111, e⟩ := Option.bind_eq_some_iff.mp e
  refine Rn.call hT rfl rfl rfl (Nat.le_of_ble_eq_true rfl) (rcv_v gX12_isPalace (by omega) e_8112) (rX12_isPalace (by omega) e_8111 ?_)
  show Rn d _ _ 4 [some (.ref q0), some (.int x1)] [.int v_8113] h Q
  by_cases c_8114 : v_8113 = 0
  · rw [if_pos c_8114] at e
    refine Rn.bt hT rfl rfl rfl (decide_eq_true c_8114) ?_
    exact Rn.weak (ll_n (ll_n ll_e)) (rX12_draft_b19 hd hq e)
  · rw [if_neg c_8114] at e
    refine Rn.bf hT rfl rfl rfl (decide_eq_false c_8114) ?_
    refine Rn.n hT 4 (pc' := 13) (L' := [some (.ref q0), some (.int x1)]) (st' := [.long (3 : Int64), .long (0 : Int64), .long ((x1).toInt64)]) rfl ?_
    obtain ⟨v_8116, e_8115, e⟩ := Option.bind_eq_some_iff.mp e
    refine Rn.call hT rfl rfl rfl (Nat.le_of_ble_eq_true rfl) rfl (rX12_in (by omega) e_8115 ?_)
    show Rn d _ _ 16 [some (.ref q0), some (.int x1)] [.int v_8116] h Q
    by_cases c_8117 : v_8116 = 0
    · rw [if_pos c_8117] at e
      refine Rn.bf hT rfl rfl rfl (decide_eq_false (fun z => z c_8117)) ?_
      exact Rn.weak (ll_n (ll_n ll_e)) (rX12_draft_b19 hd hq e)
    · rw [if_neg c_8117] at e
      refine Rn.bt hT rfl rfl rfl (decide_eq_true c_8117) ?_
      refine Rn.n hT 2 (pc' := 23) (L' := [some (.ref q0), some (.int x1)]) (st' := [.ref q0, .ref q0]) rfl ?_
      obtain ⟨v_8118, e_8119, e⟩ := Option.bind_eq_some_iff.mp e
      refine Rn.hp hT rfl rfl (gR_hp e_8119) ?_
      refine Rn.n hT 3 (pc' := 30) (L' := [some (.ref q0), some (.int x1)]) (st' := [.int ((24 : Int32) * x1), .ref v_8118, .ref q0]) rfl ?_
      obtain ⟨_, e_8121, e⟩ := Option.bind_eq_some_iff.mp e
      obtain ⟨h_8123, e_8120, e⟩ := Option.bind_eq_some_iff.mp e
      refine Rn.call hT rfl rfl rfl (Nat.le_of_ble_eq_true rfl) (rcv_v gX12_fillsFloor (by omega) e_8121) (rX12_fillsFloor (by omega) e_8120 ?_)
      show Rn d _ _ 33 [some (.ref q0), some (.int x1)] [] h_8123 Q
      refine Rn.n hT 1 (pc' := 34) (L' := [some (.ref q0), some (.int x1)]) (st' := [.ref q0]) rfl ?_
      obtain ⟨v_8124, e_8125, e⟩ := Option.bind_eq_some_iff.mp e
      refine Rn.hp hT rfl rfl (gR_hp e_8125) ?_
      refine Rn.n hT 2 (pc' := 40) (L' := [some (.ref q0), some (.int x1)]) (st' := [.int (11 : Int32), .ref v_8124, .int (11 : Int32), .ref v_8124]) rfl ?_
      obtain ⟨v_8126, e_8127, e⟩ := Option.bind_eq_some_iff.mp e
      refine Rn.hp hT rfl rfl (aI_hp e_8127) ?_
      refine Rn.n hT 4 (pc' := 45) (L' := [some (.ref q0), some (.int x1)]) (st' := [.int (v_8126 ||| ((1 : Int32) <<< (x1 &&& 31))), .int (11 : Int32), .ref v_8124]) rfl ?_
      obtain ⟨h_8128, e_8129, e⟩ := Option.bind_eq_some_iff.mp e
      refine Rn.hp hT rfl rfl (wI_hp e_8129) ?_
      refine Rn.n hT 1 (pc' := 47) (L' := [some (.ref q0), some (.int x1)]) (st' := [.ref q0]) rfl ?_
      obtain ⟨_, e_8131, e⟩ := Option.bind_eq_some_iff.mp e
      obtain ⟨⟨v_8132, h_8133⟩, e_8130, e⟩ := Option.bind_eq_some_iff.mp e
      try dsimp only at e
      try dsimp only at e
      refine Rn.call hT rfl rfl rfl (Nat.le_of_ble_eq_true rfl) (rcv_v gX12_mismatches (by omega) e_8131) (rX12_mismatches (by omega) e_8130 ?_)
      show Rn d _ _ 50 [some (.ref q0), some (.int x1)] [.int v_8132] h_8133 Q
      obtain rfl := Option.some.inj e
      exact Rn.ret hT rfl rfl rfl hq
set_option maxRecDepth 10000 in
theorem hX12_drafted : iv_Tb 288 tX12_drafted := iv_tb_of (m := mX12_drafted) rfl
set_option maxRecDepth 10000 in
theorem gX12_drafted : PG.2 288 = some mX12_drafted := iv_pi_of (t := tX12_drafted) rfl (by decide)
def fX12_drafted_b45 (N : Nat) (h : iv_H)  (s0 : Int32) : Option (Int32) := (some s0)
set_option maxRecDepth 10000 in
set_option maxHeartbeats 4000000 in
theorem rX12_drafted_b45 {d N : Nat} (hd : 2 ≤ d) {h : iv_H}  {s0 : Int32} {r : Int32} {Q : Option Value → iv_H → Prop} (hq : Q (some (.int r)) h) (e : fX12_drafted_b45 N h  s0 = some r) : Rn d 288 (some .int) 45 [none, none, none, none] [.int s0] h Q := by
  have hT := hX12_drafted
  unfold fX12_drafted_b45 at e
  obtain rfl := Option.some.inj e
  exact Rn.ret hT rfl rfl rfl hq
def fX12_drafted_b44 (N : Nat) (h : iv_H)   : Option (Int32) := (fX12_drafted_b45 N h (-1 : Int32))
set_option maxRecDepth 10000 in
set_option maxHeartbeats 4000000 in
theorem rX12_drafted_b44 {d N : Nat} (hd : 2 ≤ d) {h : iv_H}   {r : Int32} {Q : Option Value → iv_H → Prop} (hq : Q (some (.int r)) h) (e : fX12_drafted_b44 N h   = some r) : Rn d 288 (some .int) 44 [none, none, none, none] [] h Q := by
  have hT := hX12_drafted
  unfold fX12_drafted_b44 at e
  refine Rn.n hT 1 (pc' := 45) (L' := [none, none, none, none]) (st' := [.int (-1 : Int32)]) rfl ?_
  exact Rn.weak (ll_n (ll_n (ll_n (ll_n ll_e)))) (rX12_drafted_b45 hd hq e)
def fX12_drafted (N : Nat) (h : iv_H) (q0 : Nat) (x1 : Int32) (x2 : Int32) (x3 : Int32) : Option (Int32) := ((cko h q0 12).bind fun _ => (fX12_isDraft N h q0 x1).bind fun v_8137 => (if v_8137 = 0 then (fX12_drafted_b44 N h) else ((cko h q0 12).bind fun _ => (fX12_isRoom N h q0 x2).bind fun v_8141 => (if v_8141 = 0 then (fX12_drafted_b44 N h) else ((fX12_in N h ((x3).toInt64) (0 : Int64) (1 : Int64)).bind fun v_8144 => (if v_8144 = 0 then (fX12_drafted_b44 N h) else ((gR h 12 10 q0).bind fun v_8146 => ((aI h v_8146 ((((24 : Int32) * x1) + ((2 : Int32) * x2)) + x3)).bind fun v_8148 => (fX12_drafted_b45 N h v_8148)))))))))
set_option maxRecDepth 10000 in
set_option maxHeartbeats 4000000 in
theorem rX12_drafted {d N : Nat} (hd : 3 ≤ d) {h : iv_H} {q0 : Nat} {x1 : Int32} {x2 : Int32} {x3 : Int32} {r : Int32} {Q : Option Value → iv_H → Prop} (e : fX12_drafted N h q0 x1 x2 x3 = some r) (hq : Q (some (.int r)) h) : Cl d 288 [.ref q0, .int x1, .int x2, .int x3] h Q := by
  obtain ⟨d, rfl⟩ : ∃ k, d = k + 1 := ⟨d - 1, by omega⟩
  have hd : 2 ≤ d := by omega
  have hT := hX12_drafted
  unfold fX12_drafted at e
  refine Cl.into (by decide) gX12_drafted rfl ?_
  show Rn d 288 (some .int) 0 [some (.ref q0), some (.int x1), some (.int x2), some (.int x3)] [] h Q
  refine Rn.n hT 2 (pc' := 2) (L' := [some (.ref q0), some (.int x1), some (.int x2), some (.int x3)]) (st' := [.int x1, .ref q0]) rfl ?_
  obtain ⟨_, e_8136, e⟩ := Option.bind_eq_some_iff.mp e
  obtain ⟨v_8137, e_8135, e⟩ := Option.bind_eq_some_iff.mp e
  refine Rn.call hT rfl rfl rfl (Nat.le_of_ble_eq_true rfl) (rcv_v gX12_isDraft (by omega) e_8136) (rX12_isDraft (by omega) e_8135 ?_)
  show Rn d _ _ 5 [some (.ref q0), some (.int x1), some (.int x2), some (.int x3)] [.int v_8137] h Q
  by_cases c_8138 : v_8137 = 0
  · rw [if_pos c_8138] at e
    refine Rn.bt hT rfl rfl rfl (decide_eq_true c_8138) ?_
    exact Rn.weak (ll_n (ll_n (ll_n (ll_n ll_e)))) (rX12_drafted_b44 hd hq e)
  · rw [if_neg c_8138] at e
    refine Rn.bf hT rfl rfl rfl (decide_eq_false c_8138) ?_
    refine Rn.n hT 2 (pc' := 10) (L' := [some (.ref q0), some (.int x1), some (.int x2), some (.int x3)]) (st' := [.int x2, .ref q0]) rfl ?_
    obtain ⟨_, e_8140, e⟩ := Option.bind_eq_some_iff.mp e
    obtain ⟨v_8141, e_8139, e⟩ := Option.bind_eq_some_iff.mp e
    refine Rn.call hT rfl rfl rfl (Nat.le_of_ble_eq_true rfl) (rcv_v gX12_isRoom (by omega) e_8140) (rX12_isRoom (by omega) e_8139 ?_)
    show Rn d _ _ 13 [some (.ref q0), some (.int x1), some (.int x2), some (.int x3)] [.int v_8141] h Q
    by_cases c_8142 : v_8141 = 0
    · rw [if_pos c_8142] at e
      refine Rn.bt hT rfl rfl rfl (decide_eq_true c_8142) ?_
      exact Rn.weak (ll_n (ll_n (ll_n (ll_n ll_e)))) (rX12_drafted_b44 hd hq e)
    · rw [if_neg c_8142] at e
      refine Rn.bf hT rfl rfl rfl (decide_eq_false c_8142) ?_
      refine Rn.n hT 4 (pc' := 20) (L' := [some (.ref q0), some (.int x1), some (.int x2), some (.int x3)]) (st' := [.long (1 : Int64), .long (0 : Int64), .long ((x3).toInt64)]) rfl ?_
      obtain ⟨v_8144, e_8143, e⟩ := Option.bind_eq_some_iff.mp e
      refine Rn.call hT rfl rfl rfl (Nat.le_of_ble_eq_true rfl) rfl (rX12_in (by omega) e_8143 ?_)
      show Rn d _ _ 23 [some (.ref q0), some (.int x1), some (.int x2), some (.int x3)] [.int v_8144] h Q
      by_cases c_8145 : v_8144 = 0
      · rw [if_pos c_8145] at e
        refine Rn.bt hT rfl rfl rfl (decide_eq_true c_8145) ?_
        exact Rn.weak (ll_n (ll_n (ll_n (ll_n ll_e)))) (rX12_drafted_b44 hd hq e)
      · rw [if_neg c_8145] at e
        refine Rn.bf hT rfl rfl rfl (decide_eq_false c_8145) ?_
        refine Rn.n hT 1 (pc' := 27) (L' := [some (.ref q0), some (.int x1), some (.int x2), some (.int x3)]) (st' := [.ref q0]) rfl ?_
        obtain ⟨v_8146, e_8147, e⟩ := Option.bind_eq_some_iff.mp e
        refine Rn.hp hT rfl rfl (gR_hp e_8147) ?_
        refine Rn.n hT 9 (pc' := 40) (L' := [some (.ref q0), some (.int x1), some (.int x2), some (.int x3)]) (st' := [.int ((((24 : Int32) * x1) + ((2 : Int32) * x2)) + x3), .ref v_8146]) rfl ?_
        obtain ⟨v_8148, e_8149, e⟩ := Option.bind_eq_some_iff.mp e
        refine Rn.hp hT rfl rfl (aI_hp e_8149) ?_
        refine Rn.n hT 1 (pc' := 45) (L' := [some (.ref q0), some (.int x1), some (.int x2), some (.int x3)]) (st' := [.int v_8148]) rfl ?_
        exact Rn.weak (ll_n (ll_n (ll_n (ll_n ll_e)))) (rX12_drafted_b45 hd hq e)
set_option maxRecDepth 10000 in
theorem hX12_isEmptyInDraft : iv_Tb 289 tX12_isEmptyInDraft := iv_tb_of (m := mX12_isEmptyInDraft) rfl
set_option maxRecDepth 10000 in
theorem gX12_isEmptyInDraft : PG.2 289 = some mX12_isEmptyInDraft := iv_pi_of (t := tX12_isEmptyInDraft) rfl (by decide)
def fX12_isEmptyInDraft_b49 (N : Nat) (h : iv_H) (q0 : Nat) (x1 : Int32) (x2 : Int32) (x4 : Int32) (s0 : Int32) (kb : Int32 → Int32 → Option (Int32)) (kx : Int32 → Option (Int32)) : Option (Int32) := (kb s0 (x4 + (1 : Int32)))
set_option maxRecDepth 10000 in
set_option maxHeartbeats 4000000 in
theorem rX12_isEmptyInDraft_b49 {d N : Nat} (hd : 0 ≤ d) {h : iv_H} {q0 : Nat} {x1 : Int32} {x2 : Int32} {x4 : Int32} {s0 : Int32} {kb : Int32 → Int32 → Option (Int32)} {kx : Int32 → Option (Int32)} {r : Int32} {Q : Option Value → iv_H → Prop} (hb : ∀ (w3 : Int32) (w4 : Int32), kb w3 w4 = some r → Rn d 289 (some .boolean) 14 [some (.ref q0), some (.int x1), some (.int x2), some (.int w3), some (.int w4)] [] h Q) (hk : ∀ (w3 : Int32), kx w3 = some r → Rn d 289 (some .boolean) 56 [none, none, none, some (.int w3), none] [] h Q) (hq : Q (some (.int r)) h) (e : fX12_isEmptyInDraft_b49 N h q0 x1 x2 x4 s0 kb kx = some r) : Rn d 289 (some .boolean) 49 [some (.ref q0), some (.int x1), some (.int x2), none, some (.int x4)] [.int s0] h Q := by
  have hT := hX12_isEmptyInDraft
  unfold fX12_isEmptyInDraft_b49 at e
  refine Rn.n hT 3 (pc' := 14) (L' := [some (.ref q0), some (.int x1), some (.int x2), some (.int s0), some (.int (x4 + (1 : Int32)))]) (st' := []) rfl ?_
  exact Rn.weak (ll_s (ll_s (ll_s (ll_s (ll_s ll_e))))) (hb s0 (x4 + (1 : Int32)) e)
def fX12_isEmptyInDraft_b48 (N : Nat) (h : iv_H) (q0 : Nat) (x1 : Int32) (x2 : Int32) (x4 : Int32)  (kb : Int32 → Int32 → Option (Int32)) (kx : Int32 → Option (Int32)) : Option (Int32) := (fX12_isEmptyInDraft_b49 N h q0 x1 x2 x4 (0 : Int32) kb kx)
set_option maxRecDepth 10000 in
set_option maxHeartbeats 4000000 in
theorem rX12_isEmptyInDraft_b48 {d N : Nat} (hd : 0 ≤ d) {h : iv_H} {q0 : Nat} {x1 : Int32} {x2 : Int32} {x4 : Int32}  {kb : Int32 → Int32 → Option (Int32)} {kx : Int32 → Option (Int32)} {r : Int32} {Q : Option Value → iv_H → Prop} (hb : ∀ (w3 : Int32) (w4 : Int32), kb w3 w4 = some r → Rn d 289 (some .boolean) 14 [some (.ref q0), some (.int x1), some (.int x2), some (.int w3), some (.int w4)] [] h Q) (hk : ∀ (w3 : Int32), kx w3 = some r → Rn d 289 (some .boolean) 56 [none, none, none, some (.int w3), none] [] h Q) (hq : Q (some (.int r)) h) (e : fX12_isEmptyInDraft_b48 N h q0 x1 x2 x4  kb kx = some r) : Rn d 289 (some .boolean) 48 [some (.ref q0), some (.int x1), some (.int x2), none, some (.int x4)] [] h Q := by
  have hT := hX12_isEmptyInDraft
  unfold fX12_isEmptyInDraft_b48 at e
  refine Rn.n hT 1 (pc' := 49) (L' := [some (.ref q0), some (.int x1), some (.int x2), none, some (.int x4)]) (st' := [.int (0 : Int32)]) rfl ?_
  exact Rn.weak (ll_s (ll_s (ll_s (ll_n (ll_s ll_e))))) (rX12_isEmptyInDraft_b49 hd hb hk hq e)
def fX12_isEmptyInDraft_l14 (N : Nat) (h : iv_H) (q0 : Nat) (x1 : Int32) (x2 : Int32) (kx : Int32 → Option (Int32)) : Nat → Int32 → Int32 → Option (Int32)
  | 0, _, _ => none
  | n + 1, x3, x4 => ((gR h 12 1 q0).bind fun v_8153 => ((aI h v_8153 (2 : Int32)).bind fun v_8155 => (if v_8155 ≤ x4 then (kx x3) else (if x3 = 0 then (fX12_isEmptyInDraft_b48 N h q0 x1 x2 x4 (fX12_isEmptyInDraft_l14 N h q0 x1 x2 kx n) kx) else ((gR h 12 10 q0).bind fun v_8159 => ((aI h v_8159 (x1 + ((2 : Int32) * x4))).bind fun v_8161 => (if v_8161 = x2 then (fX12_isEmptyInDraft_b48 N h q0 x1 x2 x4 (fX12_isEmptyInDraft_l14 N h q0 x1 x2 kx n) kx) else (fX12_isEmptyInDraft_b49 N h q0 x1 x2 x4 (1 : Int32) (fX12_isEmptyInDraft_l14 N h q0 x1 x2 kx n) kx))))))))
set_option maxRecDepth 10000 in
set_option maxHeartbeats 4000000 in
theorem rX12_isEmptyInDraft_l14 {d N : Nat} (hd : 0 ≤ d) {h : iv_H} {q0 : Nat} {x1 : Int32} {x2 : Int32} {kx : Int32 → Option (Int32)} {r : Int32} {Q : Option Value → iv_H → Prop} (hk : ∀ (x3 : Int32), kx x3 = some r → Rn d 289 (some .boolean) 56 [none, none, none, some (.int x3), none] [] h Q) (hq : Q (some (.int r)) h) : ∀ (n : Nat) (x3 : Int32) (x4 : Int32), fX12_isEmptyInDraft_l14 N h q0 x1 x2 kx n x3 x4 = some r → Rn d 289 (some .boolean) 14 [some (.ref q0), some (.int x1), some (.int x2), some (.int x3), some (.int x4)] [] h Q := by
  have hT := hX12_isEmptyInDraft
  intro n
  induction n with
  | zero =>
    intro x3 x4 e
    rw [fX12_isEmptyInDraft_l14] at e
    cases e
  | succ n ih =>
    intro x3 x4 e
    rw [fX12_isEmptyInDraft_l14] at e
    refine Rn.n hT 2 (pc' := 17) (L' := [some (.ref q0), some (.int x1), some (.int x2), some (.int x3), some (.int x4)]) (st' := [.ref q0, .int x4]) rfl ?_
    obtain ⟨v_8153, e_8154, e⟩ := Option.bind_eq_some_iff.mp e
    refine Rn.hp hT rfl rfl (gR_hp e_8154) ?_
    refine Rn.n hT 1 (pc' := 21) (L' := [some (.ref q0), some (.int x1), some (.int x2), some (.int x3), some (.int x4)]) (st' := [.int (2 : Int32), .ref v_8153, .int x4]) rfl ?_
    obtain ⟨v_8155, e_8156, e⟩ := Option.bind_eq_some_iff.mp e
    refine Rn.hp hT rfl rfl (aI_hp e_8156) ?_
    by_cases c_8157 : v_8155 ≤ x4
    · rw [if_pos c_8157] at e
      refine Rn.bt hT rfl rfl rfl (decide_eq_true c_8157) ?_
      exact Rn.weak (ll_n (ll_n (ll_n (ll_s (ll_n ll_e))))) (hk x3 e)
    · rw [if_neg c_8157] at e
      refine Rn.bf hT rfl rfl rfl (decide_eq_false c_8157) ?_
      refine Rn.n hT 1 (pc' := 26) (L' := [some (.ref q0), some (.int x1), some (.int x2), some (.int x3), some (.int x4)]) (st' := [.int x3]) rfl ?_
      by_cases c_8158 : x3 = 0
      · rw [if_pos c_8158] at e
        refine Rn.bt hT rfl rfl rfl (decide_eq_true c_8158) ?_
        exact Rn.weak (ll_s (ll_s (ll_s (ll_n (ll_s ll_e))))) (rX12_isEmptyInDraft_b48 hd ih hk hq e)
      · rw [if_neg c_8158] at e
        refine Rn.bf hT rfl rfl rfl (decide_eq_false c_8158) ?_
        refine Rn.n hT 1 (pc' := 30) (L' := [some (.ref q0), some (.int x1), some (.int x2), some (.int x3), some (.int x4)]) (st' := [.ref q0]) rfl ?_
        obtain ⟨v_8159, e_8160, e⟩ := Option.bind_eq_some_iff.mp e
        refine Rn.hp hT rfl rfl (gR_hp e_8160) ?_
        refine Rn.n hT 5 (pc' := 39) (L' := [some (.ref q0), some (.int x1), some (.int x2), some (.int x3), some (.int x4)]) (st' := [.int (x1 + ((2 : Int32) * x4)), .ref v_8159]) rfl ?_
        obtain ⟨v_8161, e_8162, e⟩ := Option.bind_eq_some_iff.mp e
        refine Rn.hp hT rfl rfl (aI_hp e_8162) ?_
        refine Rn.n hT 1 (pc' := 41) (L' := [some (.ref q0), some (.int x1), some (.int x2), some (.int x3), some (.int x4)]) (st' := [.int x2, .int v_8161]) rfl ?_
        by_cases c_8163 : v_8161 = x2
        · rw [if_pos c_8163] at e
          refine Rn.bt hT rfl rfl rfl (decide_eq_true c_8163) ?_
          exact Rn.weak (ll_s (ll_s (ll_s (ll_n (ll_s ll_e))))) (rX12_isEmptyInDraft_b48 hd ih hk hq e)
        · rw [if_neg c_8163] at e
          refine Rn.bf hT rfl rfl rfl (decide_eq_false c_8163) ?_
          refine Rn.n hT 2 (pc' := 49) (L' := [some (.ref q0), some (.int x1), some (.int x2), some (.int x3), some (.int x4)]) (st' := [.int (1 : Int32)]) rfl ?_
          exact Rn.weak (ll_s (ll_s (ll_s (ll_n (ll_s ll_e))))) (rX12_isEmptyInDraft_b49 hd ih hk hq e)
def fX12_isEmptyInDraft_b10 (N : Nat) (h : iv_H) (q0 : Nat) (x1 : Int32) (x2 : Int32) (s0 : Int32) : Option (Int32) := (fX12_isEmptyInDraft_l14 N h q0 x1 x2 (fun (z_8151 : Int32) => (if z_8151 = 0 ∨ z_8151 = 1 then some z_8151 else none)) N s0 (0 : Int32))
set_option maxRecDepth 10000 in
set_option maxHeartbeats 4000000 in
theorem rX12_isEmptyInDraft_b10 {d N : Nat} (hd : 0 ≤ d) {h : iv_H} {q0 : Nat} {x1 : Int32} {x2 : Int32} {s0 : Int32} {r : Int32} {Q : Option Value → iv_H → Prop} (hq : Q (some (.int r)) h) (e : fX12_isEmptyInDraft_b10 N h q0 x1 x2 s0 = some r) : Rn d 289 (some .boolean) 10 [some (.ref q0), some (.int x1), some (.int x2), none, none] [.int s0] h Q := by
  have hT := hX12_isEmptyInDraft
  unfold fX12_isEmptyInDraft_b10 at e
  refine Rn.n hT 3 (pc' := 14) (L' := [some (.ref q0), some (.int x1), some (.int x2), some (.int s0), some (.int (0 : Int32))]) (st' := []) rfl ?_
  refine Rn.weak (ll_s (ll_s (ll_s (ll_s (ll_s ll_e))))) (rX12_isEmptyInDraft_l14 hd (fun z_8151 e => ?_) hq N s0 (0 : Int32) e)
  try dsimp only at e
  refine Rn.n hT 1 (pc' := 57) (L' := [none, none, none, some (.int z_8151), none]) (st' := [.int z_8151]) rfl ?_
  by_cases c_8152 : z_8151 = 0 ∨ z_8151 = 1
  · rw [if_pos c_8152] at e
    obtain rfl := Option.some.inj e
    exact Rn.ret hT rfl rfl (if_pos c_8152) hq
  · rw [if_neg c_8152] at e
    cases e
def fX12_isEmptyInDraft (N : Nat) (h : iv_H) (q0 : Nat) (x1 : Int32) (x2 : Int32) : Option (Int32) := (if x2 = (-1 : Int32) then (fX12_isEmptyInDraft_b10 N h q0 x1 x2 (0 : Int32)) else (fX12_isEmptyInDraft_b10 N h q0 x1 x2 (1 : Int32)))
set_option maxRecDepth 10000 in
set_option maxHeartbeats 4000000 in
theorem rX12_isEmptyInDraft {d N : Nat} (hd : 1 ≤ d) {h : iv_H} {q0 : Nat} {x1 : Int32} {x2 : Int32} {r : Int32} {Q : Option Value → iv_H → Prop} (e : fX12_isEmptyInDraft N h q0 x1 x2 = some r) (hq : Q (some (.int r)) h) : Cl d 289 [.ref q0, .int x1, .int x2] h Q := by
  obtain ⟨d, rfl⟩ : ∃ k, d = k + 1 := ⟨d - 1, by omega⟩
  have hd : 0 ≤ d := by omega
  have hT := hX12_isEmptyInDraft
  unfold fX12_isEmptyInDraft at e
  refine Cl.into (by decide) gX12_isEmptyInDraft rfl ?_
  show Rn d 289 (some .boolean) 0 [some (.ref q0), some (.int x1), some (.int x2), none, none] [] h Q
  refine Rn.n hT 2 (pc' := 2) (L' := [some (.ref q0), some (.int x1), some (.int x2), none, none]) (st' := [.int (-1 : Int32), .int x2]) rfl ?_
  by_cases c_8150 : x2 = (-1 : Int32)
  · rw [if_pos c_8150] at e
    refine Rn.bt hT rfl rfl rfl (decide_eq_true c_8150) ?_
    refine Rn.n hT 1 (pc' := 10) (L' := [some (.ref q0), some (.int x1), some (.int x2), none, none]) (st' := [.int (0 : Int32)]) rfl ?_
    exact Rn.weak (ll_s (ll_s (ll_s (ll_n (ll_n ll_e))))) (rX12_isEmptyInDraft_b10 hd hq e)
  · rw [if_neg c_8150] at e
    refine Rn.bf hT rfl rfl rfl (decide_eq_false c_8150) ?_
    refine Rn.n hT 2 (pc' := 10) (L' := [some (.ref q0), some (.int x1), some (.int x2), none, none]) (st' := [.int (1 : Int32)]) rfl ?_
    exact Rn.weak (ll_s (ll_s (ll_s (ll_n (ll_n ll_e))))) (rX12_isEmptyInDraft_b10 hd hq e)
set_option maxRecDepth 10000 in
theorem hX12_redraw : iv_Tb 290 tX12_redraw := iv_tb_of (m := mX12_redraw) rfl
set_option maxRecDepth 10000 in
theorem gX12_redraw : PG.2 290 = some mX12_redraw := iv_pi_of (t := tX12_redraw) rfl (by decide)
def fX12_redraw_b19 (N : Nat) (h : iv_H)   : Option (Int32 × iv_H) := (some ((0 : Int32), h))
set_option maxRecDepth 10000 in
set_option maxHeartbeats 4000000 in
theorem rX12_redraw_b19 {d N : Nat} (hd : 3 ≤ d) {h : iv_H}   {r : Int32 × iv_H} {Q : Option Value → iv_H → Prop} (hq : Q (some (.int r.1)) r.2) (e : fX12_redraw_b19 N h   = some r) : Rn d 290 (some .boolean) 19 [none, none, none, none, none, none, none, none, none] [] h Q := by
  have hT := hX12_redraw
  unfold fX12_redraw_b19 at e
  refine Rn.n hT 1 (pc' := 20) (L' := [none, none, none, none, none, none, none, none, none]) (st' := [.int (0 : Int32)]) rfl ?_
  obtain rfl := Option.some.inj e
  exact Rn.ret hT rfl rfl rfl hq
def fX12_redraw_b88 (N : Nat) (h : iv_H) (x8 : Int32) (s0 : Int32) (s1 : Int32) (sq2 : Nat) : Option (Int32 × iv_H) := ((wI h sq2 s1 s0).bind fun h_8215 => (if x8 = 0 ∨ x8 = 1 then some (x8, h_8215) else none))
set_option maxRecDepth 10000 in
set_option maxHeartbeats 4000000 in
theorem rX12_redraw_b88 {d N : Nat} (hd : 3 ≤ d) {h : iv_H} {x8 : Int32} {s0 : Int32} {s1 : Int32} {sq2 : Nat} {r : Int32 × iv_H} {Q : Option Value → iv_H → Prop} (hq : Q (some (.int r.1)) r.2) (e : fX12_redraw_b88 N h x8 s0 s1 sq2 = some r) : Rn d 290 (some .boolean) 88 [none, none, none, none, none, none, none, none, some (.int x8)] [.int s0, .int s1, .ref sq2] h Q := by
  have hT := hX12_redraw
  unfold fX12_redraw_b88 at e
  obtain ⟨h_8215, e_8216, e⟩ := Option.bind_eq_some_iff.mp e
  refine Rn.hp hT rfl rfl (wI_hp e_8216) ?_
  refine Rn.n hT 1 (pc' := 91) (L' := [none, none, none, none, none, none, none, none, some (.int x8)]) (st' := [.int x8]) rfl ?_
  by_cases c_8217 : x8 = 0 ∨ x8 = 1
  · rw [if_pos c_8217] at e
    obtain rfl := Option.some.inj e
    exact Rn.ret hT rfl rfl (if_pos c_8217) hq
  · rw [if_neg c_8217] at e
    cases e
def fX12_redraw_b164 (N : Nat) (h : iv_H)   : Option (Int32 × iv_H) := (some ((1 : Int32), h))
set_option maxRecDepth 10000 in
set_option maxHeartbeats 4000000 in
theorem rX12_redraw_b164 {d N : Nat} (hd : 3 ≤ d) {h : iv_H}   {r : Int32 × iv_H} {Q : Option Value → iv_H → Prop} (hq : Q (some (.int r.1)) r.2) (e : fX12_redraw_b164 N h   = some r) : Rn d 290 (some .boolean) 164 [none, none, none, none, none, none, none, none, none] [] h Q := by
  have hT := hX12_redraw
  unfold fX12_redraw_b164 at e
  refine Rn.n hT 1 (pc' := 165) (L' := [none, none, none, none, none, none, none, none, none]) (st' := [.int (1 : Int32)]) rfl ?_
  obtain rfl := Option.some.inj e
  exact Rn.ret hT rfl rfl rfl hq
def fX12_redraw (N : Nat) (h : iv_H) (q0 : Nat) (x1 : Int32) (x2 : Int32) (x3 : Int32) (x4 : Int32) : Option (Int32 × iv_H) := ((cko h q0 12).bind fun _ => (fX12_isDraft N h q0 x1).bind fun v_8166 => (if v_8166 = 0 then (fX12_redraw_b19 N h) else ((cko h q0 12).bind fun _ => (fX12_isWalk N h q0 x2 x3 x4).bind fun v_8170 => (if v_8170 = 0 then (fX12_redraw_b19 N h) else (if x2 = (1 : Int32) then ((gR h 12 10 q0).bind fun v_8198 => ((aI h v_8198 (((24 : Int32) * x1) + ((2 : Int32) * x3))).bind fun v_8200 => ((cko h q0 12).bind fun _ => (fX12_by N h q0 v_8200 x4).bind fun v_8204 => ((cko h q0 12).bind fun _ => (fX12_isEmptyInDraft N h q0 ((24 : Int32) * x1) v_8204).bind fun v_8207 => ((gR h 12 10 q0).bind fun v_8208 => (if v_8207 = 0 then ((gR h 12 10 q0).bind fun v_8211 => ((aI h v_8211 (((24 : Int32) * x1) + ((2 : Int32) * x3))).bind fun v_8213 => (fX12_redraw_b88 N h v_8207 v_8213 (((24 : Int32) * x1) + ((2 : Int32) * x3)) v_8208))) else (fX12_redraw_b88 N h v_8207 v_8204 (((24 : Int32) * x1) + ((2 : Int32) * x3)) v_8208))))))) else (if x2 = (2 : Int32) then ((gR h 12 10 q0).bind fun v_8182 => ((aI h v_8182 (((24 : Int32) * x1) + ((2 : Int32) * x3))).bind fun v_8184 => ((gR h 12 10 q0).bind fun v_8186 => ((gR h 12 10 q0).bind fun v_8188 => ((aI h v_8188 (((24 : Int32) * x1) + ((2 : Int32) * x4))).bind fun v_8190 => ((wI h v_8186 (((24 : Int32) * x1) + ((2 : Int32) * x3)) v_8190).bind fun h_8192 => ((gR h_8192 12 10 q0).bind fun v_8194 => ((wI h_8192 v_8194 (((24 : Int32) * x1) + ((2 : Int32) * x4)) v_8184).bind fun h_8196 => (fX12_redraw_b164 N h_8196))))))))) else ((gR h 12 10 q0).bind fun v_8174 => ((gR h 12 10 q0).bind fun v_8176 => ((aI h v_8176 ((((24 : Int32) * x1) + ((2 : Int32) * x3)) + (1 : Int32))).bind fun v_8178 => ((wI h v_8174 ((((24 : Int32) * x1) + ((2 : Int32) * x3)) + (1 : Int32)) ((v_8178 + (1 : Int32)) &&& (3 : Int32))).bind fun h_8180 => (fX12_redraw_b164 N h_8180)))))))))))
set_option maxRecDepth 10000 in
set_option maxHeartbeats 4000000 in
theorem rX12_redraw {d N : Nat} (hd : 4 ≤ d) {h : iv_H} {q0 : Nat} {x1 : Int32} {x2 : Int32} {x3 : Int32} {x4 : Int32} {r : Int32 × iv_H} {Q : Option Value → iv_H → Prop} (e : fX12_redraw N h q0 x1 x2 x3 x4 = some r) (hq : Q (some (.int r.1)) r.2) : Cl d 290 [.ref q0, .int x1, .int x2, .int x3, .int x4] h Q := by
  obtain ⟨d, rfl⟩ : ∃ k, d = k + 1 := ⟨d - 1, by omega⟩
  have hd : 3 ≤ d := by omega
  have hT := hX12_redraw
  unfold fX12_redraw at e
  refine Cl.into (by decide) gX12_redraw rfl ?_
  show Rn d 290 (some .boolean) 0 [some (.ref q0), some (.int x1), some (.int x2), some (.int x3), some (.int x4), none, none, none, none] [] h Q
  refine Rn.n hT 2 (pc' := 2) (L' := [some (.ref q0), some (.int x1), some (.int x2), some (.int x3), some (.int x4), none, none, none, none]) (st' := [.int x1, .ref q0]) rfl ?_
  obtain ⟨_, e_8165, e⟩ := Option.bind_eq_some_iff.mp e
  obtain ⟨v_8166, e_8164, e⟩ := Option.bind_eq_some_iff.mp e
  refine Rn.call hT rfl rfl rfl (Nat.le_of_ble_eq_true rfl) (rcv_v gX12_isDraft (by omega) e_8165) (rX12_isDraft (by omega) e_8164 ?_)
  show Rn d _ _ 5 [some (.ref q0), some (.int x1), some (.int x2), some (.int x3), some (.int x4), none, none, none, none] [.int v_8166] h Q
  by_cases c_8167 : v_8166 = 0
  · rw [if_pos c_8167] at e
    refine Rn.bt hT rfl rfl rfl (decide_eq_true c_8167) ?_
    exact Rn.weak (ll_n (ll_n (ll_n (ll_n (ll_n (ll_n (ll_n (ll_n (ll_n ll_e))))))))) (rX12_redraw_b19 hd hq e)
  · rw [if_neg c_8167] at e
    refine Rn.bf hT rfl rfl rfl (decide_eq_false c_8167) ?_
    refine Rn.n hT 4 (pc' := 13) (L' := [some (.ref q0), some (.int x1), some (.int x2), some (.int x3), some (.int x4), none, none, none, none]) (st' := [.int x4, .int x3, .int x2, .ref q0]) rfl ?_
    obtain ⟨_, e_8169, e⟩ := Option.bind_eq_some_iff.mp e
    obtain ⟨v_8170, e_8168, e⟩ := Option.bind_eq_some_iff.mp e
    refine Rn.call hT rfl rfl rfl (Nat.le_of_ble_eq_true rfl) (rcv_v gX12_isWalk (by omega) e_8169) (rX12_isWalk (by omega) e_8168 ?_)
    show Rn d _ _ 16 [some (.ref q0), some (.int x1), some (.int x2), some (.int x3), some (.int x4), none, none, none, none] [.int v_8170] h Q
    by_cases c_8171 : v_8170 = 0
    · rw [if_pos c_8171] at e
      refine Rn.bf hT rfl rfl rfl (decide_eq_false (fun z => z c_8171)) ?_
      exact Rn.weak (ll_n (ll_n (ll_n (ll_n (ll_n (ll_n (ll_n (ll_n (ll_n ll_e))))))))) (rX12_redraw_b19 hd hq e)
    · rw [if_neg c_8171] at e
      refine Rn.bt hT rfl rfl rfl (decide_eq_true c_8171) ?_
      refine Rn.n hT 12 (pc' := 37) (L' := [some (.ref q0), some (.int x1), some (.int x2), some (.int x3), some (.int x4), some (.int ((24 : Int32) * x1)), some (.int (((24 : Int32) * x1) + ((2 : Int32) * x3))), none, none]) (st' := [.int (1 : Int32), .int x2]) rfl ?_
      by_cases c_8172 : x2 = (1 : Int32)
      · rw [if_pos c_8172] at e
        refine Rn.bf hT rfl rfl rfl (decide_eq_false (fun z => z c_8172)) ?_
        refine Rn.n hT 2 (pc' := 42) (L' := [some (.ref q0), some (.int x1), some (.int x2), some (.int x3), some (.int x4), some (.int ((24 : Int32) * x1)), some (.int (((24 : Int32) * x1) + ((2 : Int32) * x3))), none, none]) (st' := [.ref q0, .ref q0]) rfl ?_
        obtain ⟨v_8198, e_8199, e⟩ := Option.bind_eq_some_iff.mp e
        refine Rn.hp hT rfl rfl (gR_hp e_8199) ?_
        refine Rn.n hT 1 (pc' := 47) (L' := [some (.ref q0), some (.int x1), some (.int x2), some (.int x3), some (.int x4), some (.int ((24 : Int32) * x1)), some (.int (((24 : Int32) * x1) + ((2 : Int32) * x3))), none, none]) (st' := [.int (((24 : Int32) * x1) + ((2 : Int32) * x3)), .ref v_8198, .ref q0]) rfl ?_
        obtain ⟨v_8200, e_8201, e⟩ := Option.bind_eq_some_iff.mp e
        refine Rn.hp hT rfl rfl (aI_hp e_8201) ?_
        refine Rn.n hT 1 (pc' := 50) (L' := [some (.ref q0), some (.int x1), some (.int x2), some (.int x3), some (.int x4), some (.int ((24 : Int32) * x1)), some (.int (((24 : Int32) * x1) + ((2 : Int32) * x3))), none, none]) (st' := [.int x4, .int v_8200, .ref q0]) rfl ?_
        obtain ⟨_, e_8203, e⟩ := Option.bind_eq_some_iff.mp e
        obtain ⟨v_8204, e_8202, e⟩ := Option.bind_eq_some_iff.mp e
        refine Rn.call hT rfl rfl rfl (Nat.le_of_ble_eq_true rfl) (rcv_v gX12_by (by omega) e_8203) (rX12_by (by omega) e_8202 ?_)
        show Rn d _ _ 53 [some (.ref q0), some (.int x1), some (.int x2), some (.int x3), some (.int x4), some (.int ((24 : Int32) * x1)), some (.int (((24 : Int32) * x1) + ((2 : Int32) * x3))), none, none] [.int v_8204] h Q
        refine Rn.n hT 4 (pc' := 60) (L' := [some (.ref q0), some (.int x1), some (.int x2), some (.int x3), some (.int x4), some (.int ((24 : Int32) * x1)), some (.int (((24 : Int32) * x1) + ((2 : Int32) * x3))), some (.int v_8204), none]) (st' := [.int v_8204, .int ((24 : Int32) * x1), .ref q0]) rfl ?_
        obtain ⟨_, e_8206, e⟩ := Option.bind_eq_some_iff.mp e
        obtain ⟨v_8207, e_8205, e⟩ := Option.bind_eq_some_iff.mp e
        refine Rn.call hT rfl rfl rfl (Nat.le_of_ble_eq_true rfl) (rcv_v gX12_isEmptyInDraft (by omega) e_8206) (rX12_isEmptyInDraft (by omega) e_8205 ?_)
        show Rn d _ _ 63 [some (.ref q0), some (.int x1), some (.int x2), some (.int x3), some (.int x4), some (.int ((24 : Int32) * x1)), some (.int (((24 : Int32) * x1) + ((2 : Int32) * x3))), some (.int v_8204), none] [.int v_8207] h Q
        refine Rn.n hT 2 (pc' := 66) (L' := [some (.ref q0), some (.int x1), some (.int x2), some (.int x3), some (.int x4), some (.int ((24 : Int32) * x1)), some (.int (((24 : Int32) * x1) + ((2 : Int32) * x3))), some (.int v_8204), some (.int v_8207)]) (st' := [.ref q0]) rfl ?_
        obtain ⟨v_8208, e_8209, e⟩ := Option.bind_eq_some_iff.mp e
        refine Rn.hp hT rfl rfl (gR_hp e_8209) ?_
        refine Rn.n hT 2 (pc' := 73) (L' := [some (.ref q0), some (.int x1), some (.int x2), some (.int x3), some (.int x4), some (.int ((24 : Int32) * x1)), some (.int (((24 : Int32) * x1) + ((2 : Int32) * x3))), some (.int v_8204), some (.int v_8207)]) (st' := [.int v_8207, .int (((24 : Int32) * x1) + ((2 : Int32) * x3)), .ref v_8208]) rfl ?_
        by_cases c_8210 : v_8207 = 0
        · rw [if_pos c_8210] at e
          refine Rn.bt hT rfl rfl rfl (decide_eq_true c_8210) ?_
          refine Rn.n hT 1 (pc' := 82) (L' := [some (.ref q0), some (.int x1), some (.int x2), some (.int x3), some (.int x4), some (.int ((24 : Int32) * x1)), some (.int (((24 : Int32) * x1) + ((2 : Int32) * x3))), some (.int v_8204), some (.int v_8207)]) (st' := [.ref q0, .int (((24 : Int32) * x1) + ((2 : Int32) * x3)), .ref v_8208]) rfl ?_
          obtain ⟨v_8211, e_8212, e⟩ := Option.bind_eq_some_iff.mp e
          refine Rn.hp hT rfl rfl (gR_hp e_8212) ?_
          refine Rn.n hT 1 (pc' := 87) (L' := [some (.ref q0), some (.int x1), some (.int x2), some (.int x3), some (.int x4), some (.int ((24 : Int32) * x1)), some (.int (((24 : Int32) * x1) + ((2 : Int32) * x3))), some (.int v_8204), some (.int v_8207)]) (st' := [.int (((24 : Int32) * x1) + ((2 : Int32) * x3)), .ref v_8211, .int (((24 : Int32) * x1) + ((2 : Int32) * x3)), .ref v_8208]) rfl ?_
          obtain ⟨v_8213, e_8214, e⟩ := Option.bind_eq_some_iff.mp e
          refine Rn.hp hT rfl rfl (aI_hp e_8214) ?_
          exact Rn.weak (ll_n (ll_n (ll_n (ll_n (ll_n (ll_n (ll_n (ll_n (ll_s ll_e))))))))) (rX12_redraw_b88 hd hq e)
        · rw [if_neg c_8210] at e
          refine Rn.bf hT rfl rfl rfl (decide_eq_false c_8210) ?_
          refine Rn.n hT 2 (pc' := 88) (L' := [some (.ref q0), some (.int x1), some (.int x2), some (.int x3), some (.int x4), some (.int ((24 : Int32) * x1)), some (.int (((24 : Int32) * x1) + ((2 : Int32) * x3))), some (.int v_8204), some (.int v_8207)]) (st' := [.int v_8204, .int (((24 : Int32) * x1) + ((2 : Int32) * x3)), .ref v_8208]) rfl ?_
          exact Rn.weak (ll_n (ll_n (ll_n (ll_n (ll_n (ll_n (ll_n (ll_n (ll_s ll_e))))))))) (rX12_redraw_b88 hd hq e)
      · rw [if_neg c_8172] at e
        refine Rn.bt hT rfl rfl rfl (decide_eq_true c_8172) ?_
        refine Rn.n hT 2 (pc' := 94) (L' := [some (.ref q0), some (.int x1), some (.int x2), some (.int x3), some (.int x4), some (.int ((24 : Int32) * x1)), some (.int (((24 : Int32) * x1) + ((2 : Int32) * x3))), none, none]) (st' := [.int (2 : Int32), .int x2]) rfl ?_
        by_cases c_8173 : x2 = (2 : Int32)
        · rw [if_pos c_8173] at e
          refine Rn.bf hT rfl rfl rfl (decide_eq_false (fun z => z c_8173)) ?_
          refine Rn.n hT 1 (pc' := 98) (L' := [some (.ref q0), some (.int x1), some (.int x2), some (.int x3), some (.int x4), some (.int ((24 : Int32) * x1)), some (.int (((24 : Int32) * x1) + ((2 : Int32) * x3))), none, none]) (st' := [.ref q0]) rfl ?_
          obtain ⟨v_8182, e_8183, e⟩ := Option.bind_eq_some_iff.mp e
          refine Rn.hp hT rfl rfl (gR_hp e_8183) ?_
          refine Rn.n hT 1 (pc' := 103) (L' := [some (.ref q0), some (.int x1), some (.int x2), some (.int x3), some (.int x4), some (.int ((24 : Int32) * x1)), some (.int (((24 : Int32) * x1) + ((2 : Int32) * x3))), none, none]) (st' := [.int (((24 : Int32) * x1) + ((2 : Int32) * x3)), .ref v_8182]) rfl ?_
          obtain ⟨v_8184, e_8185, e⟩ := Option.bind_eq_some_iff.mp e
          refine Rn.hp hT rfl rfl (aI_hp e_8185) ?_
          refine Rn.n hT 2 (pc' := 107) (L' := [some (.ref q0), some (.int x1), some (.int x2), some (.int x3), some (.int x4), some (.int ((24 : Int32) * x1)), some (.int (((24 : Int32) * x1) + ((2 : Int32) * x3))), some (.int v_8184), none]) (st' := [.ref q0]) rfl ?_
          obtain ⟨v_8186, e_8187, e⟩ := Option.bind_eq_some_iff.mp e
          refine Rn.hp hT rfl rfl (gR_hp e_8187) ?_
          refine Rn.n hT 2 (pc' := 113) (L' := [some (.ref q0), some (.int x1), some (.int x2), some (.int x3), some (.int x4), some (.int ((24 : Int32) * x1)), some (.int (((24 : Int32) * x1) + ((2 : Int32) * x3))), some (.int v_8184), none]) (st' := [.ref q0, .int (((24 : Int32) * x1) + ((2 : Int32) * x3)), .ref v_8186]) rfl ?_
          obtain ⟨v_8188, e_8189, e⟩ := Option.bind_eq_some_iff.mp e
          refine Rn.hp hT rfl rfl (gR_hp e_8189) ?_
          refine Rn.n hT 5 (pc' := 123) (L' := [some (.ref q0), some (.int x1), some (.int x2), some (.int x3), some (.int x4), some (.int ((24 : Int32) * x1)), some (.int (((24 : Int32) * x1) + ((2 : Int32) * x3))), some (.int v_8184), none]) (st' := [.int (((24 : Int32) * x1) + ((2 : Int32) * x4)), .ref v_8188, .int (((24 : Int32) * x1) + ((2 : Int32) * x3)), .ref v_8186]) rfl ?_
          obtain ⟨v_8190, e_8191, e⟩ := Option.bind_eq_some_iff.mp e
          refine Rn.hp hT rfl rfl (aI_hp e_8191) ?_
          obtain ⟨h_8192, e_8193, e⟩ := Option.bind_eq_some_iff.mp e
          refine Rn.hp hT rfl rfl (wI_hp e_8193) ?_
          refine Rn.n hT 1 (pc' := 126) (L' := [some (.ref q0), some (.int x1), some (.int x2), some (.int x3), some (.int x4), some (.int ((24 : Int32) * x1)), some (.int (((24 : Int32) * x1) + ((2 : Int32) * x3))), some (.int v_8184), none]) (st' := [.ref q0]) rfl ?_
          obtain ⟨v_8194, e_8195, e⟩ := Option.bind_eq_some_iff.mp e
          refine Rn.hp hT rfl rfl (gR_hp e_8195) ?_
          refine Rn.n hT 6 (pc' := 138) (L' := [some (.ref q0), some (.int x1), some (.int x2), some (.int x3), some (.int x4), some (.int ((24 : Int32) * x1)), some (.int (((24 : Int32) * x1) + ((2 : Int32) * x3))), some (.int v_8184), none]) (st' := [.int v_8184, .int (((24 : Int32) * x1) + ((2 : Int32) * x4)), .ref v_8194]) rfl ?_
          obtain ⟨h_8196, e_8197, e⟩ := Option.bind_eq_some_iff.mp e
          refine Rn.hp hT rfl rfl (wI_hp e_8197) ?_
          refine Rn.n hT 1 (pc' := 164) (L' := [some (.ref q0), some (.int x1), some (.int x2), some (.int x3), some (.int x4), some (.int ((24 : Int32) * x1)), some (.int (((24 : Int32) * x1) + ((2 : Int32) * x3))), some (.int v_8184), none]) (st' := []) rfl ?_
          exact Rn.weak (ll_n (ll_n (ll_n (ll_n (ll_n (ll_n (ll_n (ll_n (ll_n ll_e))))))))) (rX12_redraw_b164 hd hq e)
        · rw [if_neg c_8173] at e
          refine Rn.bt hT rfl rfl rfl (decide_eq_true c_8173) ?_
          refine Rn.n hT 1 (pc' := 143) (L' := [some (.ref q0), some (.int x1), some (.int x2), some (.int x3), some (.int x4), some (.int ((24 : Int32) * x1)), some (.int (((24 : Int32) * x1) + ((2 : Int32) * x3))), none, none]) (st' := [.ref q0]) rfl ?_
          obtain ⟨v_8174, e_8175, e⟩ := Option.bind_eq_some_iff.mp e
          refine Rn.hp hT rfl rfl (gR_hp e_8175) ?_
          refine Rn.n hT 4 (pc' := 151) (L' := [some (.ref q0), some (.int x1), some (.int x2), some (.int x3), some (.int x4), some (.int ((24 : Int32) * x1)), some (.int (((24 : Int32) * x1) + ((2 : Int32) * x3))), none, none]) (st' := [.ref q0, .int ((((24 : Int32) * x1) + ((2 : Int32) * x3)) + (1 : Int32)), .ref v_8174]) rfl ?_
          obtain ⟨v_8176, e_8177, e⟩ := Option.bind_eq_some_iff.mp e
          refine Rn.hp hT rfl rfl (gR_hp e_8177) ?_
          refine Rn.n hT 3 (pc' := 158) (L' := [some (.ref q0), some (.int x1), some (.int x2), some (.int x3), some (.int x4), some (.int ((24 : Int32) * x1)), some (.int (((24 : Int32) * x1) + ((2 : Int32) * x3))), none, none]) (st' := [.int ((((24 : Int32) * x1) + ((2 : Int32) * x3)) + (1 : Int32)), .ref v_8176, .int ((((24 : Int32) * x1) + ((2 : Int32) * x3)) + (1 : Int32)), .ref v_8174]) rfl ?_
          obtain ⟨v_8178, e_8179, e⟩ := Option.bind_eq_some_iff.mp e
          refine Rn.hp hT rfl rfl (aI_hp e_8179) ?_
          refine Rn.n hT 4 (pc' := 163) (L' := [some (.ref q0), some (.int x1), some (.int x2), some (.int x3), some (.int x4), some (.int ((24 : Int32) * x1)), some (.int (((24 : Int32) * x1) + ((2 : Int32) * x3))), none, none]) (st' := [.int ((v_8178 + (1 : Int32)) &&& (3 : Int32)), .int ((((24 : Int32) * x1) + ((2 : Int32) * x3)) + (1 : Int32)), .ref v_8174]) rfl ?_
          obtain ⟨h_8180, e_8181, e⟩ := Option.bind_eq_some_iff.mp e
          refine Rn.hp hT rfl rfl (wI_hp e_8181) ?_
          exact Rn.weak (ll_n (ll_n (ll_n (ll_n (ll_n (ll_n (ll_n (ll_n (ll_n ll_e))))))))) (rX12_redraw_b164 hd hq e)
set_option maxRecDepth 10000 in
theorem hX12_whereNow : iv_Tb 291 tX12_whereNow := iv_tb_of (m := mX12_whereNow) rfl
set_option maxRecDepth 10000 in
theorem gX12_whereNow : PG.2 291 = some mX12_whereNow := iv_pi_of (t := tX12_whereNow) rfl (by decide)
def fX12_whereNow_l4 (N : Nat) (h : iv_H) (q0 : Nat) (kx : Int64 → Option (Int64)) : Nat → Int64 → Int32 → Option (Int64)
  | 0, _, _ => none
  | n + 1, y1, x3 => ((gR h 12 1 q0).bind fun v_8219 => ((aI h v_8219 (2 : Int32)).bind fun v_8221 => (if v_8221 ≤ x3 then (kx y1) else ((gR h 12 3 q0).bind fun v_8224 => ((aI h v_8224 x3).bind fun v_8226 => (fX12_whereNow_l4 N h q0 kx n ((y1 * (16 : Int64)) + (v_8226).toInt64) (x3 + (1 : Int32))))))))
set_option maxRecDepth 10000 in
set_option maxHeartbeats 4000000 in
theorem rX12_whereNow_l4 {d N : Nat} (hd : 0 ≤ d) {h : iv_H} {q0 : Nat} {kx : Int64 → Option (Int64)} {r : Int64} {Q : Option Value → iv_H → Prop} (hk : ∀ (y1 : Int64), kx y1 = some r → Rn d 291 (some .long) 34 [none, some (.long y1), none, none] [] h Q) (hq : Q (some (.long r)) h) : ∀ (n : Nat) (y1 : Int64) (x3 : Int32), fX12_whereNow_l4 N h q0 kx n y1 x3 = some r → Rn d 291 (some .long) 4 [some (.ref q0), some (.long y1), none, some (.int x3)] [] h Q := by
  have hT := hX12_whereNow
  intro n
  induction n with
  | zero =>
    intro y1 x3 e
    rw [fX12_whereNow_l4] at e
    cases e
  | succ n ih =>
    intro y1 x3 e
    rw [fX12_whereNow_l4] at e
    refine Rn.n hT 2 (pc' := 6) (L' := [some (.ref q0), some (.long y1), none, some (.int x3)]) (st' := [.ref q0, .int x3]) rfl ?_
    obtain ⟨v_8219, e_8220, e⟩ := Option.bind_eq_some_iff.mp e
    refine Rn.hp hT rfl rfl (gR_hp e_8220) ?_
    refine Rn.n hT 1 (pc' := 10) (L' := [some (.ref q0), some (.long y1), none, some (.int x3)]) (st' := [.int (2 : Int32), .ref v_8219, .int x3]) rfl ?_
    obtain ⟨v_8221, e_8222, e⟩ := Option.bind_eq_some_iff.mp e
    refine Rn.hp hT rfl rfl (aI_hp e_8222) ?_
    by_cases c_8223 : v_8221 ≤ x3
    · rw [if_pos c_8223] at e
      refine Rn.bt hT rfl rfl rfl (decide_eq_true c_8223) ?_
      exact Rn.weak (ll_n (ll_s (ll_n (ll_n ll_e)))) (hk y1 e)
    · rw [if_neg c_8223] at e
      refine Rn.bf hT rfl rfl rfl (decide_eq_false c_8223) ?_
      refine Rn.n hT 4 (pc' := 20) (L' := [some (.ref q0), some (.long y1), none, some (.int x3)]) (st' := [.ref q0, .long (y1 * (16 : Int64))]) rfl ?_
      obtain ⟨v_8224, e_8225, e⟩ := Option.bind_eq_some_iff.mp e
      refine Rn.hp hT rfl rfl (gR_hp e_8225) ?_
      refine Rn.n hT 1 (pc' := 24) (L' := [some (.ref q0), some (.long y1), none, some (.int x3)]) (st' := [.int x3, .ref v_8224, .long (y1 * (16 : Int64))]) rfl ?_
      obtain ⟨v_8226, e_8227, e⟩ := Option.bind_eq_some_iff.mp e
      refine Rn.hp hT rfl rfl (aI_hp e_8227) ?_
      refine Rn.n hT 5 (pc' := 4) (L' := [some (.ref q0), some (.long ((y1 * (16 : Int64)) + (v_8226).toInt64)), none, some (.int (x3 + (1 : Int32)))]) (st' := []) rfl ?_
      exact Rn.weak (ll_s (ll_s (ll_n (ll_s ll_e)))) (ih ((y1 * (16 : Int64)) + (v_8226).toInt64) (x3 + (1 : Int32)) e)
def fX12_whereNow (N : Nat) (h : iv_H) (q0 : Nat) : Option (Int64) := (fX12_whereNow_l4 N h q0 (fun (z_8218 : Int64) => (some z_8218)) N (0 : Int64) (0 : Int32))
set_option maxRecDepth 10000 in
set_option maxHeartbeats 4000000 in
theorem rX12_whereNow {d N : Nat} (hd : 1 ≤ d) {h : iv_H} {q0 : Nat} {r : Int64} {Q : Option Value → iv_H → Prop} (e : fX12_whereNow N h q0 = some r) (hq : Q (some (.long r)) h) : Cl d 291 [.ref q0] h Q := by
  obtain ⟨d, rfl⟩ : ∃ k, d = k + 1 := ⟨d - 1, by omega⟩
  have hd : 0 ≤ d := by omega
  have hT := hX12_whereNow
  unfold fX12_whereNow at e
  refine Cl.into (by decide) gX12_whereNow rfl ?_
  show Rn d 291 (some .long) 0 [some (.ref q0), none, none, none] [] h Q
  refine Rn.n hT 4 (pc' := 4) (L' := [some (.ref q0), some (.long (0 : Int64)), none, some (.int (0 : Int32))]) (st' := []) rfl ?_
  refine Rn.weak (ll_s (ll_s (ll_n (ll_s ll_e)))) (rX12_whereNow_l4 hd (fun z_8218 e => ?_) hq N (0 : Int64) (0 : Int32) e)
  try dsimp only at e
  refine Rn.n hT 1 (pc' := 35) (L' := [none, some (.long z_8218), none, none]) (st' := [.long z_8218]) rfl ?_
  obtain rfl := Option.some.inj e
  exact Rn.ret hT rfl rfl rfl hq
set_option maxRecDepth 10000 in
theorem hX12_howNow : iv_Tb 292 tX12_howNow := iv_tb_of (m := mX12_howNow) rfl
set_option maxRecDepth 10000 in
theorem gX12_howNow : PG.2 292 = some mX12_howNow := iv_pi_of (t := tX12_howNow) rfl (by decide)
def fX12_howNow_l4 (N : Nat) (h : iv_H) (q0 : Nat) (kx : Int32 → Option (Int32)) : Nat → Int32 → Int32 → Option (Int32)
  | 0, _, _ => none
  | n + 1, x1, x2 => ((gR h 12 1 q0).bind fun v_8229 => ((aI h v_8229 (2 : Int32)).bind fun v_8231 => (if v_8231 ≤ x2 then (kx x1) else ((gR h 12 4 q0).bind fun v_8234 => ((aI h v_8234 x2).bind fun v_8236 => (fX12_howNow_l4 N h q0 kx n (((4 : Int32) * x1) + v_8236) (x2 + (1 : Int32))))))))
set_option maxRecDepth 10000 in
set_option maxHeartbeats 4000000 in
theorem rX12_howNow_l4 {d N : Nat} (hd : 0 ≤ d) {h : iv_H} {q0 : Nat} {kx : Int32 → Option (Int32)} {r : Int32} {Q : Option Value → iv_H → Prop} (hk : ∀ (x1 : Int32), kx x1 = some r → Rn d 292 (some .int) 31 [none, some (.int x1), none] [] h Q) (hq : Q (some (.int r)) h) : ∀ (n : Nat) (x1 : Int32) (x2 : Int32), fX12_howNow_l4 N h q0 kx n x1 x2 = some r → Rn d 292 (some .int) 4 [some (.ref q0), some (.int x1), some (.int x2)] [] h Q := by
  have hT := hX12_howNow
  intro n
  induction n with
  | zero =>
    intro x1 x2 e
    rw [fX12_howNow_l4] at e
    cases e
  | succ n ih =>
    intro x1 x2 e
    rw [fX12_howNow_l4] at e
    refine Rn.n hT 2 (pc' := 6) (L' := [some (.ref q0), some (.int x1), some (.int x2)]) (st' := [.ref q0, .int x2]) rfl ?_
    obtain ⟨v_8229, e_8230, e⟩ := Option.bind_eq_some_iff.mp e
    refine Rn.hp hT rfl rfl (gR_hp e_8230) ?_
    refine Rn.n hT 1 (pc' := 10) (L' := [some (.ref q0), some (.int x1), some (.int x2)]) (st' := [.int (2 : Int32), .ref v_8229, .int x2]) rfl ?_
    obtain ⟨v_8231, e_8232, e⟩ := Option.bind_eq_some_iff.mp e
    refine Rn.hp hT rfl rfl (aI_hp e_8232) ?_
    by_cases c_8233 : v_8231 ≤ x2
    · rw [if_pos c_8233] at e
      refine Rn.bt hT rfl rfl rfl (decide_eq_true c_8233) ?_
      exact Rn.weak (ll_n (ll_s (ll_n ll_e))) (hk x1 e)
    · rw [if_neg c_8233] at e
      refine Rn.bf hT rfl rfl rfl (decide_eq_false c_8233) ?_
      refine Rn.n hT 4 (pc' := 18) (L' := [some (.ref q0), some (.int x1), some (.int x2)]) (st' := [.ref q0, .int ((4 : Int32) * x1)]) rfl ?_
      obtain ⟨v_8234, e_8235, e⟩ := Option.bind_eq_some_iff.mp e
      refine Rn.hp hT rfl rfl (gR_hp e_8235) ?_
      refine Rn.n hT 1 (pc' := 22) (L' := [some (.ref q0), some (.int x1), some (.int x2)]) (st' := [.int x2, .ref v_8234, .int ((4 : Int32) * x1)]) rfl ?_
      obtain ⟨v_8236, e_8237, e⟩ := Option.bind_eq_some_iff.mp e
      refine Rn.hp hT rfl rfl (aI_hp e_8237) ?_
      refine Rn.n hT 4 (pc' := 4) (L' := [some (.ref q0), some (.int (((4 : Int32) * x1) + v_8236)), some (.int (x2 + (1 : Int32)))]) (st' := []) rfl ?_
      exact Rn.weak (ll_s (ll_s (ll_s ll_e))) (ih (((4 : Int32) * x1) + v_8236) (x2 + (1 : Int32)) e)
def fX12_howNow (N : Nat) (h : iv_H) (q0 : Nat) : Option (Int32) := (fX12_howNow_l4 N h q0 (fun (z_8228 : Int32) => (some z_8228)) N (0 : Int32) (0 : Int32))
set_option maxRecDepth 10000 in
set_option maxHeartbeats 4000000 in
theorem rX12_howNow {d N : Nat} (hd : 1 ≤ d) {h : iv_H} {q0 : Nat} {r : Int32} {Q : Option Value → iv_H → Prop} (e : fX12_howNow N h q0 = some r) (hq : Q (some (.int r)) h) : Cl d 292 [.ref q0] h Q := by
  obtain ⟨d, rfl⟩ : ∃ k, d = k + 1 := ⟨d - 1, by omega⟩
  have hd : 0 ≤ d := by omega
  have hT := hX12_howNow
  unfold fX12_howNow at e
  refine Cl.into (by decide) gX12_howNow rfl ?_
  show Rn d 292 (some .int) 0 [some (.ref q0), none, none] [] h Q
  refine Rn.n hT 4 (pc' := 4) (L' := [some (.ref q0), some (.int (0 : Int32)), some (.int (0 : Int32))]) (st' := []) rfl ?_
  refine Rn.weak (ll_s (ll_s (ll_s ll_e))) (rX12_howNow_l4 hd (fun z_8228 e => ?_) hq N (0 : Int32) (0 : Int32) e)
  try dsimp only at e
  refine Rn.n hT 1 (pc' := 32) (L' := [none, some (.int z_8228), none]) (st' := [.int z_8228]) rfl ?_
  obtain rfl := Option.some.inj e
  exact Rn.ret hT rfl rfl rfl hq
set_option maxRecDepth 10000 in
theorem hX12_laysSituation : iv_Tb 293 tX12_laysSituation := iv_tb_of (m := mX12_laysSituation) rfl
set_option maxRecDepth 10000 in
theorem gX12_laysSituation : PG.2 293 = some mX12_laysSituation := iv_pi_of (t := tX12_laysSituation) rfl (by decide)
def fX12_laysSituation_l18 (N : Nat) (q0 : Nat) (y2 : Int64) (x4 : Int32) (kx : iv_H → Option (iv_H)) : Nat → iv_H → Int32 → Option (iv_H)
  | 0, _, _ => none
  | n + 1, h, x5 => (if (16 : Int32) ≤ x5 then (kx h) else ((gR h 12 8 q0).bind fun v_8253 => ((wI h v_8253 x5 (-1 : Int32)).bind fun h_8255 => (fX12_laysSituation_l18 N q0 y2 x4 kx n h_8255 (x5 + (1 : Int32))))))
set_option maxRecDepth 10000 in
set_option maxHeartbeats 4000000 in
theorem rX12_laysSituation_l18 {d N : Nat} (hd : 0 ≤ d) {q0 : Nat} {y2 : Int64} {x4 : Int32} {kx : iv_H → Option (iv_H)} {r : iv_H} {Q : Option Value → iv_H → Prop} (hk : ∀ (h : iv_H), kx h = some r → Rn d 293 none 39 [some (.ref q0), none, some (.long y2), none, some (.int x4), none] [] h Q) (hq : Q none r) : ∀ (n : Nat) (h : iv_H) (x5 : Int32), fX12_laysSituation_l18 N q0 y2 x4 kx n h x5 = some r → Rn d 293 none 18 [some (.ref q0), none, some (.long y2), none, some (.int x4), some (.int x5)] [] h Q := by
  have hT := hX12_laysSituation
  intro n
  induction n with
  | zero =>
    intro h x5 e
    rw [fX12_laysSituation_l18] at e
    cases e
  | succ n ih =>
    intro h x5 e
    rw [fX12_laysSituation_l18] at e
    refine Rn.n hT 2 (pc' := 22) (L' := [some (.ref q0), none, some (.long y2), none, some (.int x4), some (.int x5)]) (st' := [.int (16 : Int32), .int x5]) rfl ?_
    by_cases c_8252 : (16 : Int32) ≤ x5
    · rw [if_pos c_8252] at e
      refine Rn.bt hT rfl rfl rfl (decide_eq_true c_8252) ?_
      exact Rn.weak (ll_s (ll_n (ll_s (ll_n (ll_s (ll_n ll_e)))))) (hk h e)
    · rw [if_neg c_8252] at e
      refine Rn.bf hT rfl rfl rfl (decide_eq_false c_8252) ?_
      refine Rn.n hT 1 (pc' := 26) (L' := [some (.ref q0), none, some (.long y2), none, some (.int x4), some (.int x5)]) (st' := [.ref q0]) rfl ?_
      obtain ⟨v_8253, e_8254, e⟩ := Option.bind_eq_some_iff.mp e
      refine Rn.hp hT rfl rfl (gR_hp e_8254) ?_
      refine Rn.n hT 2 (pc' := 32) (L' := [some (.ref q0), none, some (.long y2), none, some (.int x4), some (.int x5)]) (st' := [.int (-1 : Int32), .int x5, .ref v_8253]) rfl ?_
      obtain ⟨h_8255, e_8256, e⟩ := Option.bind_eq_some_iff.mp e
      refine Rn.hp hT rfl rfl (wI_hp e_8256) ?_
      refine Rn.n hT 2 (pc' := 18) (L' := [some (.ref q0), none, some (.long y2), none, some (.int x4), some (.int (x5 + (1 : Int32)))]) (st' := []) rfl ?_
      exact Rn.weak (ll_s (ll_n (ll_s (ll_n (ll_s (ll_s ll_e)))))) (ih h_8255 (x5 + (1 : Int32)) e)
def fX12_laysSituation_l49 (N : Nat) (q0 : Nat) (kx : iv_H → Option (iv_H)) : Nat → iv_H → Int64 → Int32 → Int32 → Option (iv_H)
  | 0, _, _, _, _ => none
  | n + 1, h, y2, x4, x5 => (if x5 < 0 then (kx h) else ((gR h 12 3 q0).bind fun v_8258 => ((wI h v_8258 x5 (((y2 - y2 / (16 : Int64) * (16 : Int64))).toInt32)).bind fun h_8260 => ((gR h_8260 12 4 q0).bind fun v_8262 => ((wI h_8260 v_8262 x5 (x4 - x4 / (4 : Int32) * (4 : Int32))).bind fun h_8264 => ((gR h_8264 12 8 q0).bind fun v_8266 => ((gR h_8264 12 3 q0).bind fun v_8268 => ((aI h_8264 v_8268 x5).bind fun v_8270 => ((wI h_8264 v_8266 v_8270 x5).bind fun h_8272 => (fX12_laysSituation_l49 N q0 kx n h_8272 (y2 / (16 : Int64)) (x4 / (4 : Int32)) (x5 + (-1 : Int32))))))))))))
set_option maxRecDepth 10000 in
set_option maxHeartbeats 4000000 in
theorem rX12_laysSituation_l49 {d N : Nat} (hd : 0 ≤ d) {q0 : Nat} {kx : iv_H → Option (iv_H)} {r : iv_H} {Q : Option Value → iv_H → Prop} (hk : ∀ (h : iv_H), kx h = some r → Rn d 293 none 110 [none, none, none, none, none, none] [] h Q) (hq : Q none r) : ∀ (n : Nat) (h : iv_H) (y2 : Int64) (x4 : Int32) (x5 : Int32), fX12_laysSituation_l49 N q0 kx n h y2 x4 x5 = some r → Rn d 293 none 49 [some (.ref q0), none, some (.long y2), none, some (.int x4), some (.int x5)] [] h Q := by
  have hT := hX12_laysSituation
  intro n
  induction n with
  | zero =>
    intro h y2 x4 x5 e
    rw [fX12_laysSituation_l49] at e
    cases e
  | succ n ih =>
    intro h y2 x4 x5 e
    rw [fX12_laysSituation_l49] at e
    refine Rn.n hT 1 (pc' := 51) (L' := [some (.ref q0), none, some (.long y2), none, some (.int x4), some (.int x5)]) (st' := [.int x5]) rfl ?_
    by_cases c_8257 : x5 < 0
    · rw [if_pos c_8257] at e
      refine Rn.bt hT rfl rfl rfl (decide_eq_true c_8257) ?_
      exact Rn.weak (ll_n (ll_n (ll_n (ll_n (ll_n (ll_n ll_e)))))) (hk h e)
    · rw [if_neg c_8257] at e
      refine Rn.bf hT rfl rfl rfl (decide_eq_false c_8257) ?_
      refine Rn.n hT 1 (pc' := 55) (L' := [some (.ref q0), none, some (.long y2), none, some (.int x4), some (.int x5)]) (st' := [.ref q0]) rfl ?_
      obtain ⟨v_8258, e_8259, e⟩ := Option.bind_eq_some_iff.mp e
      refine Rn.hp hT rfl rfl (gR_hp e_8259) ?_
      refine Rn.n hT 5 (pc' := 66) (L' := [some (.ref q0), none, some (.long y2), none, some (.int x4), some (.int x5)]) (st' := [.int (((y2 - y2 / (16 : Int64) * (16 : Int64))).toInt32), .int x5, .ref v_8258]) rfl ?_
      obtain ⟨h_8260, e_8261, e⟩ := Option.bind_eq_some_iff.mp e
      refine Rn.hp hT rfl rfl (wI_hp e_8261) ?_
      refine Rn.n hT 1 (pc' := 68) (L' := [some (.ref q0), none, some (.long y2), none, some (.int x4), some (.int x5)]) (st' := [.ref q0]) rfl ?_
      obtain ⟨v_8262, e_8263, e⟩ := Option.bind_eq_some_iff.mp e
      refine Rn.hp hT rfl rfl (gR_hp e_8263) ?_
      refine Rn.n hT 4 (pc' := 77) (L' := [some (.ref q0), none, some (.long y2), none, some (.int x4), some (.int x5)]) (st' := [.int (x4 - x4 / (4 : Int32) * (4 : Int32)), .int x5, .ref v_8262]) rfl ?_
      obtain ⟨h_8264, e_8265, e⟩ := Option.bind_eq_some_iff.mp e
      refine Rn.hp hT rfl rfl (wI_hp e_8265) ?_
      refine Rn.n hT 1 (pc' := 79) (L' := [some (.ref q0), none, some (.long y2), none, some (.int x4), some (.int x5)]) (st' := [.ref q0]) rfl ?_
      obtain ⟨v_8266, e_8267, e⟩ := Option.bind_eq_some_iff.mp e
      refine Rn.hp hT rfl rfl (gR_hp e_8267) ?_
      refine Rn.n hT 1 (pc' := 83) (L' := [some (.ref q0), none, some (.long y2), none, some (.int x4), some (.int x5)]) (st' := [.ref q0, .ref v_8266]) rfl ?_
      obtain ⟨v_8268, e_8269, e⟩ := Option.bind_eq_some_iff.mp e
      refine Rn.hp hT rfl rfl (gR_hp e_8269) ?_
      refine Rn.n hT 1 (pc' := 88) (L' := [some (.ref q0), none, some (.long y2), none, some (.int x4), some (.int x5)]) (st' := [.int x5, .ref v_8268, .ref v_8266]) rfl ?_
      obtain ⟨v_8270, e_8271, e⟩ := Option.bind_eq_some_iff.mp e
      refine Rn.hp hT rfl rfl (aI_hp e_8271) ?_
      refine Rn.n hT 1 (pc' := 91) (L' := [some (.ref q0), none, some (.long y2), none, some (.int x4), some (.int x5)]) (st' := [.int x5, .int v_8270, .ref v_8266]) rfl ?_
      obtain ⟨h_8272, e_8273, e⟩ := Option.bind_eq_some_iff.mp e
      refine Rn.hp hT rfl rfl (wI_hp e_8273) ?_
      refine Rn.n hT 10 (pc' := 49) (L' := [some (.ref q0), none, some (.long (y2 / (16 : Int64))), none, some (.int (x4 / (4 : Int32))), some (.int (x5 + (-1 : Int32)))]) (st' := []) rfl ?_
      exact Rn.weak (ll_s (ll_n (ll_s (ll_n (ll_s (ll_s ll_e)))))) (ih h_8272 (y2 / (16 : Int64)) (x4 / (4 : Int32)) (x5 + (-1 : Int32)) e)
def fX12_laysSituation (N : Nat) (h : iv_H) (q0 : Nat) (x1 : Int32) : Option (iv_H) := ((gR h 12 49 q0).bind fun v_8238 => ((aJ h v_8238 x1).bind fun v_8240 => ((gR h 12 50 q0).bind fun v_8242 => ((aI h v_8242 x1).bind fun v_8244 => (fX12_laysSituation_l18 N q0 v_8240 v_8244 (fun (h_8246 : iv_H) => ((gR h_8246 12 1 q0).bind fun v_8247 => ((aI h_8246 v_8247 (2 : Int32)).bind fun v_8249 => (fX12_laysSituation_l49 N q0 (fun (h_8251 : iv_H) => some h_8251) N h_8246 v_8240 v_8244 (v_8249 - (1 : Int32)))))) N h (0 : Int32))))))
set_option maxRecDepth 10000 in
set_option maxHeartbeats 4000000 in
theorem rX12_laysSituation {d N : Nat} (hd : 1 ≤ d) {h : iv_H} {q0 : Nat} {x1 : Int32} {r : iv_H} {Q : Option Value → iv_H → Prop} (e : fX12_laysSituation N h q0 x1 = some r) (hq : Q none r) : Cl d 293 [.ref q0, .int x1] h Q := by
  obtain ⟨d, rfl⟩ : ∃ k, d = k + 1 := ⟨d - 1, by omega⟩
  have hd : 0 ≤ d := by omega
  have hT := hX12_laysSituation
  unfold fX12_laysSituation at e
  refine Cl.into (by decide) gX12_laysSituation rfl ?_
  show Rn d 293 none 0 [some (.ref q0), some (.int x1), none, none, none, none] [] h Q
  refine Rn.n hT 1 (pc' := 1) (L' := [some (.ref q0), some (.int x1), none, none, none, none]) (st' := [.ref q0]) rfl ?_
  obtain ⟨v_8238, e_8239, e⟩ := Option.bind_eq_some_iff.mp e
  refine Rn.hp hT rfl rfl (gR_hp e_8239) ?_
  refine Rn.n hT 1 (pc' := 5) (L' := [some (.ref q0), some (.int x1), none, none, none, none]) (st' := [.int x1, .ref v_8238]) rfl ?_
  obtain ⟨v_8240, e_8241, e⟩ := Option.bind_eq_some_iff.mp e
  refine Rn.hp hT rfl rfl (aJ_hp e_8241) ?_
  refine Rn.n hT 2 (pc' := 8) (L' := [some (.ref q0), some (.int x1), some (.long v_8240), none, none, none]) (st' := [.ref q0]) rfl ?_
  obtain ⟨v_8242, e_8243, e⟩ := Option.bind_eq_some_iff.mp e
  refine Rn.hp hT rfl rfl (gR_hp e_8243) ?_
  refine Rn.n hT 1 (pc' := 12) (L' := [some (.ref q0), some (.int x1), some (.long v_8240), none, none, none]) (st' := [.int x1, .ref v_8242]) rfl ?_
  obtain ⟨v_8244, e_8245, e⟩ := Option.bind_eq_some_iff.mp e
  refine Rn.hp hT rfl rfl (aI_hp e_8245) ?_
  refine Rn.n hT 3 (pc' := 18) (L' := [some (.ref q0), some (.int x1), some (.long v_8240), none, some (.int v_8244), some (.int (0 : Int32))]) (st' := []) rfl ?_
  refine Rn.weak (ll_s (ll_n (ll_s (ll_n (ll_s (ll_s ll_e)))))) (rX12_laysSituation_l18 hd (fun h_8246 e => ?_) hq N h (0 : Int32) e)
  try dsimp only at e
  refine Rn.n hT 1 (pc' := 40) (L' := [some (.ref q0), none, some (.long v_8240), none, some (.int v_8244), none]) (st' := [.ref q0]) rfl ?_
  obtain ⟨v_8247, e_8248, e⟩ := Option.bind_eq_some_iff.mp e
  refine Rn.hp hT rfl rfl (gR_hp e_8248) ?_
  refine Rn.n hT 1 (pc' := 44) (L' := [some (.ref q0), none, some (.long v_8240), none, some (.int v_8244), none]) (st' := [.int (2 : Int32), .ref v_8247]) rfl ?_
  obtain ⟨v_8249, e_8250, e⟩ := Option.bind_eq_some_iff.mp e
  refine Rn.hp hT rfl rfl (aI_hp e_8250) ?_
  refine Rn.n hT 3 (pc' := 49) (L' := [some (.ref q0), none, some (.long v_8240), none, some (.int v_8244), some (.int (v_8249 - (1 : Int32)))]) (st' := []) rfl ?_
  refine Rn.weak (ll_s (ll_n (ll_s (ll_n (ll_s (ll_s ll_e)))))) (rX12_laysSituation_l49 hd (fun h_8251 e => ?_) hq N h_8246 v_8240 v_8244 (v_8249 - (1 : Int32)) e)
  try dsimp only at e
  obtain rfl := Option.some.inj e
  exact Rn.ret hT rfl rfl rfl hq
set_option maxRecDepth 10000 in
theorem hX12_placeOf : iv_Tb 294 tX12_placeOf := iv_tb_of (m := mX12_placeOf) rfl
set_option maxRecDepth 10000 in
theorem gX12_placeOf : PG.2 294 = some mX12_placeOf := iv_pi_of (t := tX12_placeOf) rfl (by decide)
def fX12_placeOf_b65 (N : Nat) (h : iv_H) (q0 : Nat) (y1 : Int64) (x3 : Int32) (x4 : Int32)  (kb : Int32 → Option (Int32)) (kx : Int32 → Option (Int32)) : Option (Int32) := (kb ((x4 + (1 : Int32)) - (x4 + (1 : Int32)) / (4096 : Int32) * (4096 : Int32)))
set_option maxRecDepth 10000 in
set_option maxHeartbeats 4000000 in
theorem rX12_placeOf_b65 {d N : Nat} (hd : 0 ≤ d) {h : iv_H} {q0 : Nat} {y1 : Int64} {x3 : Int32} {x4 : Int32}  {kb : Int32 → Option (Int32)} {kx : Int32 → Option (Int32)} {r : Int32} {Q : Option Value → iv_H → Prop} (hb : ∀ (w4 : Int32), kb w4 = some r → Rn d 294 (some .int) 18 [some (.ref q0), some (.long y1), none, some (.int x3), some (.int w4)] [] h Q) (hk : ∀ (w4 : Int32), kx w4 = some r → Rn d 294 (some .int) 78 [none, none, none, none, some (.int w4)] [] h Q) (hq : Q (some (.int r)) h) (e : fX12_placeOf_b65 N h q0 y1 x3 x4  kb kx = some r) : Rn d 294 (some .int) 65 [some (.ref q0), some (.long y1), none, some (.int x3), some (.int x4)] [] h Q := by
  have hT := hX12_placeOf
  unfold fX12_placeOf_b65 at e
  refine Rn.n hT 7 (pc' := 18) (L' := [some (.ref q0), some (.long y1), none, some (.int x3), some (.int ((x4 + (1 : Int32)) - (x4 + (1 : Int32)) / (4096 : Int32) * (4096 : Int32)))]) (st' := []) rfl ?_
  exact Rn.weak (ll_s (ll_s (ll_n (ll_s (ll_s ll_e))))) (hb ((x4 + (1 : Int32)) - (x4 + (1 : Int32)) / (4096 : Int32) * (4096 : Int32)) e)
def fX12_placeOf_l18 (N : Nat) (h : iv_H) (q0 : Nat) (y1 : Int64) (x3 : Int32) (kx : Int32 → Option (Int32)) : Nat → Int32 → Option (Int32)
  | 0, _ => none
  | n + 1, x4 => ((gR h 12 54 q0).bind fun v_8275 => ((aI h v_8275 x4).bind fun v_8277 => ((gI h 12 56 q0).bind fun v_8279 => (if v_8277 = v_8279 then ((gR h 12 49 q0).bind fun v_8282 => ((gR h 12 53 q0).bind fun v_8284 => ((aI h v_8284 x4).bind fun v_8286 => ((aJ h v_8282 v_8286).bind fun v_8288 => (if (lg_cmp v_8288 y1) = 0 then ((gR h 12 50 q0).bind fun v_8291 => ((gR h 12 53 q0).bind fun v_8293 => ((aI h v_8293 x4).bind fun v_8295 => ((aI h v_8291 v_8295).bind fun v_8297 => (if v_8297 = x3 then (kx x4) else (fX12_placeOf_b65 N h q0 y1 x3 x4 (fX12_placeOf_l18 N h q0 y1 x3 kx n) kx)))))) else (fX12_placeOf_b65 N h q0 y1 x3 x4 (fX12_placeOf_l18 N h q0 y1 x3 kx n) kx)))))) else (kx x4)))))
set_option maxRecDepth 10000 in
set_option maxHeartbeats 4000000 in
theorem rX12_placeOf_l18 {d N : Nat} (hd : 0 ≤ d) {h : iv_H} {q0 : Nat} {y1 : Int64} {x3 : Int32} {kx : Int32 → Option (Int32)} {r : Int32} {Q : Option Value → iv_H → Prop} (hk : ∀ (x4 : Int32), kx x4 = some r → Rn d 294 (some .int) 78 [none, none, none, none, some (.int x4)] [] h Q) (hq : Q (some (.int r)) h) : ∀ (n : Nat) (x4 : Int32), fX12_placeOf_l18 N h q0 y1 x3 kx n x4 = some r → Rn d 294 (some .int) 18 [some (.ref q0), some (.long y1), none, some (.int x3), some (.int x4)] [] h Q := by
  have hT := hX12_placeOf
  intro n
  induction n with
  | zero =>
    intro x4 e
    rw [fX12_placeOf_l18] at e
    cases e
  | succ n ih =>
    intro x4 e
    rw [fX12_placeOf_l18] at e
    refine Rn.n hT 1 (pc' := 19) (L' := [some (.ref q0), some (.long y1), none, some (.int x3), some (.int x4)]) (st' := [.ref q0]) rfl ?_
    obtain ⟨v_8275, e_8276, e⟩ := Option.bind_eq_some_iff.mp e
    refine Rn.hp hT rfl rfl (gR_hp e_8276) ?_
    refine Rn.n hT 1 (pc' := 24) (L' := [some (.ref q0), some (.long y1), none, some (.int x3), some (.int x4)]) (st' := [.int x4, .ref v_8275]) rfl ?_
    obtain ⟨v_8277, e_8278, e⟩ := Option.bind_eq_some_iff.mp e
    refine Rn.hp hT rfl rfl (aI_hp e_8278) ?_
    refine Rn.n hT 1 (pc' := 26) (L' := [some (.ref q0), some (.long y1), none, some (.int x3), some (.int x4)]) (st' := [.ref q0, .int v_8277]) rfl ?_
    obtain ⟨v_8279, e_8280, e⟩ := Option.bind_eq_some_iff.mp e
    refine Rn.hp hT rfl rfl (gI_hp e_8280) ?_
    by_cases c_8281 : v_8277 = v_8279
    · rw [if_pos c_8281] at e
      refine Rn.bf hT rfl rfl rfl (decide_eq_false (fun z => z c_8281)) ?_
      refine Rn.n hT 1 (pc' := 33) (L' := [some (.ref q0), some (.long y1), none, some (.int x3), some (.int x4)]) (st' := [.ref q0]) rfl ?_
      obtain ⟨v_8282, e_8283, e⟩ := Option.bind_eq_some_iff.mp e
      refine Rn.hp hT rfl rfl (gR_hp e_8283) ?_
      refine Rn.n hT 1 (pc' := 37) (L' := [some (.ref q0), some (.long y1), none, some (.int x3), some (.int x4)]) (st' := [.ref q0, .ref v_8282]) rfl ?_
      obtain ⟨v_8284, e_8285, e⟩ := Option.bind_eq_some_iff.mp e
      refine Rn.hp hT rfl rfl (gR_hp e_8285) ?_
      refine Rn.n hT 1 (pc' := 42) (L' := [some (.ref q0), some (.long y1), none, some (.int x3), some (.int x4)]) (st' := [.int x4, .ref v_8284, .ref v_8282]) rfl ?_
      obtain ⟨v_8286, e_8287, e⟩ := Option.bind_eq_some_iff.mp e
      refine Rn.hp hT rfl rfl (aI_hp e_8287) ?_
      obtain ⟨v_8288, e_8289, e⟩ := Option.bind_eq_some_iff.mp e
      refine Rn.hp hT rfl rfl (aJ_hp e_8289) ?_
      refine Rn.n hT 2 (pc' := 46) (L' := [some (.ref q0), some (.long y1), none, some (.int x3), some (.int x4)]) (st' := [.int (lg_cmp v_8288 y1)]) rfl ?_
      by_cases c_8290 : (lg_cmp v_8288 y1) = 0
      · rw [if_pos c_8290] at e
        refine Rn.bf hT rfl rfl rfl (decide_eq_false (fun z => z c_8290)) ?_
        refine Rn.n hT 1 (pc' := 50) (L' := [some (.ref q0), some (.long y1), none, some (.int x3), some (.int x4)]) (st' := [.ref q0]) rfl ?_
        obtain ⟨v_8291, e_8292, e⟩ := Option.bind_eq_some_iff.mp e
        refine Rn.hp hT rfl rfl (gR_hp e_8292) ?_
        refine Rn.n hT 1 (pc' := 54) (L' := [some (.ref q0), some (.long y1), none, some (.int x3), some (.int x4)]) (st' := [.ref q0, .ref v_8291]) rfl ?_
        obtain ⟨v_8293, e_8294, e⟩ := Option.bind_eq_some_iff.mp e
        refine Rn.hp hT rfl rfl (gR_hp e_8294) ?_
        refine Rn.n hT 1 (pc' := 59) (L' := [some (.ref q0), some (.long y1), none, some (.int x3), some (.int x4)]) (st' := [.int x4, .ref v_8293, .ref v_8291]) rfl ?_
        obtain ⟨v_8295, e_8296, e⟩ := Option.bind_eq_some_iff.mp e
        refine Rn.hp hT rfl rfl (aI_hp e_8296) ?_
        obtain ⟨v_8297, e_8298, e⟩ := Option.bind_eq_some_iff.mp e
        refine Rn.hp hT rfl rfl (aI_hp e_8298) ?_
        refine Rn.n hT 1 (pc' := 62) (L' := [some (.ref q0), some (.long y1), none, some (.int x3), some (.int x4)]) (st' := [.int x3, .int v_8297]) rfl ?_
        by_cases c_8299 : v_8297 = x3
        · rw [if_pos c_8299] at e
          refine Rn.bt hT rfl rfl rfl (decide_eq_true c_8299) ?_
          exact Rn.weak (ll_n (ll_n (ll_n (ll_n (ll_s ll_e))))) (hk x4 e)
        · rw [if_neg c_8299] at e
          refine Rn.bf hT rfl rfl rfl (decide_eq_false c_8299) ?_
          exact Rn.weak (ll_s (ll_s (ll_n (ll_s (ll_s ll_e))))) (rX12_placeOf_b65 hd ih hk hq e)
      · rw [if_neg c_8290] at e
        refine Rn.bt hT rfl rfl rfl (decide_eq_true c_8290) ?_
        exact Rn.weak (ll_s (ll_s (ll_n (ll_s (ll_s ll_e))))) (rX12_placeOf_b65 hd ih hk hq e)
    · rw [if_neg c_8281] at e
      refine Rn.bt hT rfl rfl rfl (decide_eq_true c_8281) ?_
      exact Rn.weak (ll_n (ll_n (ll_n (ll_n (ll_s ll_e))))) (hk x4 e)
def fX12_placeOf_b78 (N : Nat) (h : iv_H) (x4 : Int32)  : Option (Int32) := (some x4)
set_option maxRecDepth 10000 in
set_option maxHeartbeats 4000000 in
theorem rX12_placeOf_b78 {d N : Nat} (hd : 0 ≤ d) {h : iv_H} {x4 : Int32}  {r : Int32} {Q : Option Value → iv_H → Prop} (hq : Q (some (.int r)) h) (e : fX12_placeOf_b78 N h x4  = some r) : Rn d 294 (some .int) 78 [none, none, none, none, some (.int x4)] [] h Q := by
  have hT := hX12_placeOf
  unfold fX12_placeOf_b78 at e
  refine Rn.n hT 1 (pc' := 80) (L' := [none, none, none, none, some (.int x4)]) (st' := [.int x4]) rfl ?_
  obtain rfl := Option.some.inj e
  exact Rn.ret hT rfl rfl rfl hq
def fX12_placeOf (N : Nat) (h : iv_H) (q0 : Nat) (y1 : Int64) (x3 : Int32) : Option (Int32) := (fX12_placeOf_l18 N h q0 y1 x3 (fun (z_8274 : Int32) => (fX12_placeOf_b78 N h z_8274)) N ((((((((y1 * (31 : Int64)) + (x3).toInt64) * (-7046029254386353131 : Int64))).toUInt64 >>> (((52 : Int32)).toInt64.toUInt64 &&& Int64.toUInt64 63)).toInt64)).toInt32))
set_option maxRecDepth 10000 in
set_option maxHeartbeats 4000000 in
theorem rX12_placeOf {d N : Nat} (hd : 1 ≤ d) {h : iv_H} {q0 : Nat} {y1 : Int64} {x3 : Int32} {r : Int32} {Q : Option Value → iv_H → Prop} (e : fX12_placeOf N h q0 y1 x3 = some r) (hq : Q (some (.int r)) h) : Cl d 294 [.ref q0, .long y1, .int x3] h Q := by
  obtain ⟨d, rfl⟩ : ∃ k, d = k + 1 := ⟨d - 1, by omega⟩
  have hd : 0 ≤ d := by omega
  have hT := hX12_placeOf
  unfold fX12_placeOf at e
  refine Cl.into (by decide) gX12_placeOf rfl ?_
  show Rn d 294 (some .int) 0 [some (.ref q0), some (.long y1), none, some (.int x3), none] [] h Q
  refine Rn.n hT 12 (pc' := 18) (L' := [some (.ref q0), some (.long y1), none, some (.int x3), some (.int ((((((((y1 * (31 : Int64)) + (x3).toInt64) * (-7046029254386353131 : Int64))).toUInt64 >>> (((52 : Int32)).toInt64.toUInt64 &&& Int64.toUInt64 63)).toInt64)).toInt32))]) (st' := []) rfl ?_
  refine Rn.weak (ll_s (ll_s (ll_n (ll_s (ll_s ll_e))))) (rX12_placeOf_l18 hd (fun z_8274 e => ?_) hq N ((((((((y1 * (31 : Int64)) + (x3).toInt64) * (-7046029254386353131 : Int64))).toUInt64 >>> (((52 : Int32)).toInt64.toUInt64 &&& Int64.toUInt64 63)).toInt64)).toInt32) e)
  try dsimp only at e
  exact Rn.weak (ll_n (ll_n (ll_n (ll_n (ll_s ll_e))))) (rX12_placeOf_b78 hd hq e)
set_option maxRecDepth 10000 in
theorem hX12_isAsDrafted : iv_Tb 295 tX12_isAsDrafted := iv_tb_of (m := mX12_isAsDrafted) rfl
set_option maxRecDepth 10000 in
theorem gX12_isAsDrafted : PG.2 295 = some mX12_isAsDrafted := iv_pi_of (t := tX12_isAsDrafted) rfl (by decide)
def fX12_isAsDrafted_b69 (N : Nat) (h : iv_H) (q0 : Nat) (x1 : Int32) (x3 : Int32) (s0 : Int32) (kb : Int32 → Int32 → Option (Int32)) (kx : Int32 → Option (Int32)) : Option (Int32) := (kb s0 (x3 + (1 : Int32)))
set_option maxRecDepth 10000 in
set_option maxHeartbeats 4000000 in
theorem rX12_isAsDrafted_b69 {d N : Nat} (hd : 0 ≤ d) {h : iv_H} {q0 : Nat} {x1 : Int32} {x3 : Int32} {s0 : Int32} {kb : Int32 → Int32 → Option (Int32)} {kx : Int32 → Option (Int32)} {r : Int32} {Q : Option Value → iv_H → Prop} (hb : ∀ (w2 : Int32) (w3 : Int32), kb w2 w3 = some r → Rn d 295 (some .boolean) 4 [some (.ref q0), some (.int x1), some (.int w2), some (.int w3)] [] h Q) (hk : ∀ (w2 : Int32), kx w2 = some r → Rn d 295 (some .boolean) 76 [none, none, some (.int w2), none] [] h Q) (hq : Q (some (.int r)) h) (e : fX12_isAsDrafted_b69 N h q0 x1 x3 s0 kb kx = some r) : Rn d 295 (some .boolean) 69 [some (.ref q0), some (.int x1), none, some (.int x3)] [.int s0] h Q := by
  have hT := hX12_isAsDrafted
  unfold fX12_isAsDrafted_b69 at e
  refine Rn.n hT 3 (pc' := 4) (L' := [some (.ref q0), some (.int x1), some (.int s0), some (.int (x3 + (1 : Int32)))]) (st' := []) rfl ?_
  exact Rn.weak (ll_s (ll_s (ll_s (ll_s ll_e)))) (hb s0 (x3 + (1 : Int32)) e)
def fX12_isAsDrafted_b68 (N : Nat) (h : iv_H) (q0 : Nat) (x1 : Int32) (x3 : Int32)  (kb : Int32 → Int32 → Option (Int32)) (kx : Int32 → Option (Int32)) : Option (Int32) := (fX12_isAsDrafted_b69 N h q0 x1 x3 (0 : Int32) kb kx)
set_option maxRecDepth 10000 in
set_option maxHeartbeats 4000000 in
theorem rX12_isAsDrafted_b68 {d N : Nat} (hd : 0 ≤ d) {h : iv_H} {q0 : Nat} {x1 : Int32} {x3 : Int32}  {kb : Int32 → Int32 → Option (Int32)} {kx : Int32 → Option (Int32)} {r : Int32} {Q : Option Value → iv_H → Prop} (hb : ∀ (w2 : Int32) (w3 : Int32), kb w2 w3 = some r → Rn d 295 (some .boolean) 4 [some (.ref q0), some (.int x1), some (.int w2), some (.int w3)] [] h Q) (hk : ∀ (w2 : Int32), kx w2 = some r → Rn d 295 (some .boolean) 76 [none, none, some (.int w2), none] [] h Q) (hq : Q (some (.int r)) h) (e : fX12_isAsDrafted_b68 N h q0 x1 x3  kb kx = some r) : Rn d 295 (some .boolean) 68 [some (.ref q0), some (.int x1), none, some (.int x3)] [] h Q := by
  have hT := hX12_isAsDrafted
  unfold fX12_isAsDrafted_b68 at e
  refine Rn.n hT 1 (pc' := 69) (L' := [some (.ref q0), some (.int x1), none, some (.int x3)]) (st' := [.int (0 : Int32)]) rfl ?_
  exact Rn.weak (ll_s (ll_s (ll_n (ll_s ll_e)))) (rX12_isAsDrafted_b69 hd hb hk hq e)
def fX12_isAsDrafted_l4 (N : Nat) (h : iv_H) (q0 : Nat) (x1 : Int32) (kx : Int32 → Option (Int32)) : Nat → Int32 → Int32 → Option (Int32)
  | 0, _, _ => none
  | n + 1, x2, x3 => ((gR h 12 1 q0).bind fun v_8301 => ((aI h v_8301 (2 : Int32)).bind fun v_8303 => (if v_8303 ≤ x3 then (kx x2) else (if x2 = 0 then (kx x2) else ((gR h 12 3 q0).bind fun v_8307 => ((aI h v_8307 x3).bind fun v_8309 => ((gR h 12 10 q0).bind fun v_8311 => ((aI h v_8311 (((24 : Int32) * x1) + ((2 : Int32) * x3))).bind fun v_8313 => (if v_8309 = v_8313 then ((gR h 12 4 q0).bind fun v_8316 => ((aI h v_8316 x3).bind fun v_8318 => ((gR h 12 10 q0).bind fun v_8320 => ((aI h v_8320 ((((24 : Int32) * x1) + ((2 : Int32) * x3)) + (1 : Int32))).bind fun v_8322 => (if v_8318 = v_8322 then (fX12_isAsDrafted_b69 N h q0 x1 x3 (1 : Int32) (fX12_isAsDrafted_l4 N h q0 x1 kx n) kx) else (fX12_isAsDrafted_b68 N h q0 x1 x3 (fX12_isAsDrafted_l4 N h q0 x1 kx n) kx)))))) else (fX12_isAsDrafted_b68 N h q0 x1 x3 (fX12_isAsDrafted_l4 N h q0 x1 kx n) kx))))))))))
set_option maxRecDepth 10000 in
set_option maxHeartbeats 4000000 in
theorem rX12_isAsDrafted_l4 {d N : Nat} (hd : 0 ≤ d) {h : iv_H} {q0 : Nat} {x1 : Int32} {kx : Int32 → Option (Int32)} {r : Int32} {Q : Option Value → iv_H → Prop} (hk : ∀ (x2 : Int32), kx x2 = some r → Rn d 295 (some .boolean) 76 [none, none, some (.int x2), none] [] h Q) (hq : Q (some (.int r)) h) : ∀ (n : Nat) (x2 : Int32) (x3 : Int32), fX12_isAsDrafted_l4 N h q0 x1 kx n x2 x3 = some r → Rn d 295 (some .boolean) 4 [some (.ref q0), some (.int x1), some (.int x2), some (.int x3)] [] h Q := by
  have hT := hX12_isAsDrafted
  intro n
  induction n with
  | zero =>
    intro x2 x3 e
    rw [fX12_isAsDrafted_l4] at e
    cases e
  | succ n ih =>
    intro x2 x3 e
    rw [fX12_isAsDrafted_l4] at e
    refine Rn.n hT 2 (pc' := 6) (L' := [some (.ref q0), some (.int x1), some (.int x2), some (.int x3)]) (st' := [.ref q0, .int x3]) rfl ?_
    obtain ⟨v_8301, e_8302, e⟩ := Option.bind_eq_some_iff.mp e
    refine Rn.hp hT rfl rfl (gR_hp e_8302) ?_
    refine Rn.n hT 1 (pc' := 10) (L' := [some (.ref q0), some (.int x1), some (.int x2), some (.int x3)]) (st' := [.int (2 : Int32), .ref v_8301, .int x3]) rfl ?_
    obtain ⟨v_8303, e_8304, e⟩ := Option.bind_eq_some_iff.mp e
    refine Rn.hp hT rfl rfl (aI_hp e_8304) ?_
    by_cases c_8305 : v_8303 ≤ x3
    · rw [if_pos c_8305] at e
      refine Rn.bt hT rfl rfl rfl (decide_eq_true c_8305) ?_
      exact Rn.weak (ll_n (ll_n (ll_s (ll_n ll_e)))) (hk x2 e)
    · rw [if_neg c_8305] at e
      refine Rn.bf hT rfl rfl rfl (decide_eq_false c_8305) ?_
      refine Rn.n hT 1 (pc' := 15) (L' := [some (.ref q0), some (.int x1), some (.int x2), some (.int x3)]) (st' := [.int x2]) rfl ?_
      by_cases c_8306 : x2 = 0
      · rw [if_pos c_8306] at e
        refine Rn.bt hT rfl rfl rfl (decide_eq_true c_8306) ?_
        exact Rn.weak (ll_n (ll_n (ll_s (ll_n ll_e)))) (hk x2 e)
      · rw [if_neg c_8306] at e
        refine Rn.bf hT rfl rfl rfl (decide_eq_false c_8306) ?_
        refine Rn.n hT 1 (pc' := 19) (L' := [some (.ref q0), some (.int x1), some (.int x2), some (.int x3)]) (st' := [.ref q0]) rfl ?_
        obtain ⟨v_8307, e_8308, e⟩ := Option.bind_eq_some_iff.mp e
        refine Rn.hp hT rfl rfl (gR_hp e_8308) ?_
        refine Rn.n hT 1 (pc' := 23) (L' := [some (.ref q0), some (.int x1), some (.int x2), some (.int x3)]) (st' := [.int x3, .ref v_8307]) rfl ?_
        obtain ⟨v_8309, e_8310, e⟩ := Option.bind_eq_some_iff.mp e
        refine Rn.hp hT rfl rfl (aI_hp e_8310) ?_
        refine Rn.n hT 1 (pc' := 25) (L' := [some (.ref q0), some (.int x1), some (.int x2), some (.int x3)]) (st' := [.ref q0, .int v_8309]) rfl ?_
        obtain ⟨v_8311, e_8312, e⟩ := Option.bind_eq_some_iff.mp e
        refine Rn.hp hT rfl rfl (gR_hp e_8312) ?_
        refine Rn.n hT 7 (pc' := 36) (L' := [some (.ref q0), some (.int x1), some (.int x2), some (.int x3)]) (st' := [.int (((24 : Int32) * x1) + ((2 : Int32) * x3)), .ref v_8311, .int v_8309]) rfl ?_
        obtain ⟨v_8313, e_8314, e⟩ := Option.bind_eq_some_iff.mp e
        refine Rn.hp hT rfl rfl (aI_hp e_8314) ?_
        by_cases c_8315 : v_8309 = v_8313
        · rw [if_pos c_8315] at e
          refine Rn.bf hT rfl rfl rfl (decide_eq_false (fun z => z c_8315)) ?_
          refine Rn.n hT 1 (pc' := 41) (L' := [some (.ref q0), some (.int x1), some (.int x2), some (.int x3)]) (st' := [.ref q0]) rfl ?_
          obtain ⟨v_8316, e_8317, e⟩ := Option.bind_eq_some_iff.mp e
          refine Rn.hp hT rfl rfl (gR_hp e_8317) ?_
          refine Rn.n hT 1 (pc' := 45) (L' := [some (.ref q0), some (.int x1), some (.int x2), some (.int x3)]) (st' := [.int x3, .ref v_8316]) rfl ?_
          obtain ⟨v_8318, e_8319, e⟩ := Option.bind_eq_some_iff.mp e
          refine Rn.hp hT rfl rfl (aI_hp e_8319) ?_
          refine Rn.n hT 1 (pc' := 47) (L' := [some (.ref q0), some (.int x1), some (.int x2), some (.int x3)]) (st' := [.ref q0, .int v_8318]) rfl ?_
          obtain ⟨v_8320, e_8321, e⟩ := Option.bind_eq_some_iff.mp e
          refine Rn.hp hT rfl rfl (gR_hp e_8321) ?_
          refine Rn.n hT 9 (pc' := 60) (L' := [some (.ref q0), some (.int x1), some (.int x2), some (.int x3)]) (st' := [.int ((((24 : Int32) * x1) + ((2 : Int32) * x3)) + (1 : Int32)), .ref v_8320, .int v_8318]) rfl ?_
          obtain ⟨v_8322, e_8323, e⟩ := Option.bind_eq_some_iff.mp e
          refine Rn.hp hT rfl rfl (aI_hp e_8323) ?_
          by_cases c_8324 : v_8318 = v_8322
          · rw [if_pos c_8324] at e
            refine Rn.bf hT rfl rfl rfl (decide_eq_false (fun z => z c_8324)) ?_
            refine Rn.n hT 2 (pc' := 69) (L' := [some (.ref q0), some (.int x1), some (.int x2), some (.int x3)]) (st' := [.int (1 : Int32)]) rfl ?_
            exact Rn.weak (ll_s (ll_s (ll_n (ll_s ll_e)))) (rX12_isAsDrafted_b69 hd ih hk hq e)
          · rw [if_neg c_8324] at e
            refine Rn.bt hT rfl rfl rfl (decide_eq_true c_8324) ?_
            exact Rn.weak (ll_s (ll_s (ll_n (ll_s ll_e)))) (rX12_isAsDrafted_b68 hd ih hk hq e)
        · rw [if_neg c_8315] at e
          refine Rn.bt hT rfl rfl rfl (decide_eq_true c_8315) ?_
          exact Rn.weak (ll_s (ll_s (ll_n (ll_s ll_e)))) (rX12_isAsDrafted_b68 hd ih hk hq e)
def fX12_isAsDrafted_b76 (N : Nat) (h : iv_H) (x2 : Int32)  : Option (Int32) := (if x2 = 0 ∨ x2 = 1 then some x2 else none)
set_option maxRecDepth 10000 in
set_option maxHeartbeats 4000000 in
theorem rX12_isAsDrafted_b76 {d N : Nat} (hd : 0 ≤ d) {h : iv_H} {x2 : Int32}  {r : Int32} {Q : Option Value → iv_H → Prop} (hq : Q (some (.int r)) h) (e : fX12_isAsDrafted_b76 N h x2  = some r) : Rn d 295 (some .boolean) 76 [none, none, some (.int x2), none] [] h Q := by
  have hT := hX12_isAsDrafted
  unfold fX12_isAsDrafted_b76 at e
  refine Rn.n hT 1 (pc' := 77) (L' := [none, none, some (.int x2), none]) (st' := [.int x2]) rfl ?_
  by_cases c_8325 : x2 = 0 ∨ x2 = 1
  · rw [if_pos c_8325] at e
    obtain rfl := Option.some.inj e
    exact Rn.ret hT rfl rfl (if_pos c_8325) hq
  · rw [if_neg c_8325] at e
    cases e
def fX12_isAsDrafted (N : Nat) (h : iv_H) (q0 : Nat) (x1 : Int32) : Option (Int32) := (fX12_isAsDrafted_l4 N h q0 x1 (fun (z_8300 : Int32) => (fX12_isAsDrafted_b76 N h z_8300)) N (1 : Int32) (0 : Int32))
set_option maxRecDepth 10000 in
set_option maxHeartbeats 4000000 in
theorem rX12_isAsDrafted {d N : Nat} (hd : 1 ≤ d) {h : iv_H} {q0 : Nat} {x1 : Int32} {r : Int32} {Q : Option Value → iv_H → Prop} (e : fX12_isAsDrafted N h q0 x1 = some r) (hq : Q (some (.int r)) h) : Cl d 295 [.ref q0, .int x1] h Q := by
  obtain ⟨d, rfl⟩ : ∃ k, d = k + 1 := ⟨d - 1, by omega⟩
  have hd : 0 ≤ d := by omega
  have hT := hX12_isAsDrafted
  unfold fX12_isAsDrafted at e
  refine Cl.into (by decide) gX12_isAsDrafted rfl ?_
  show Rn d 295 (some .boolean) 0 [some (.ref q0), some (.int x1), none, none] [] h Q
  refine Rn.n hT 4 (pc' := 4) (L' := [some (.ref q0), some (.int x1), some (.int (1 : Int32)), some (.int (0 : Int32))]) (st' := []) rfl ?_
  refine Rn.weak (ll_s (ll_s (ll_s (ll_s ll_e)))) (rX12_isAsDrafted_l4 hd (fun z_8300 e => ?_) hq N (1 : Int32) (0 : Int32) e)
  try dsimp only at e
  exact Rn.weak (ll_n (ll_n (ll_s (ll_n ll_e)))) (rX12_isAsDrafted_b76 hd hq e)
set_option maxRecDepth 10000 in
theorem hX12_comes : iv_Tb 296 tX12_comes := iv_tb_of (m := mX12_comes) rfl
set_option maxRecDepth 10000 in
theorem gX12_comes : PG.2 296 = some mX12_comes := iv_pi_of (t := tX12_comes) rfl (by decide)
def fX12_comes_b143 (N : Nat) (h : iv_H) (q0 : Nat) (s0 : Int32) (sq1 : Nat) : Option (Int32 × iv_H) := ((pV h 12 58 sq1 (.int s0)).bind fun h_8390 => ((gI h_8390 12 57 q0).bind fun v_8392 => ((pV h_8390 12 57 q0 (.int (v_8392 + (1 : Int32)))).bind fun h_8394 => (some ((0 : Int32), h_8394)))))
set_option maxRecDepth 10000 in
set_option maxHeartbeats 4000000 in
theorem rX12_comes_b143 {d N : Nat} (hd : 1 ≤ d) {h : iv_H} {q0 : Nat} {s0 : Int32} {sq1 : Nat} {r : Int32 × iv_H} {Q : Option Value → iv_H → Prop} (hq : Q (some (.int r.1)) r.2) (e : fX12_comes_b143 N h q0 s0 sq1 = some r) : Rn d 296 (some .boolean) 143 [some (.ref q0), none, none, none, none, none, none, none, none] [.int s0, .ref sq1] h Q := by
  have hT := hX12_comes
  unfold fX12_comes_b143 at e
  obtain ⟨h_8390, e_8391, e⟩ := Option.bind_eq_some_iff.mp e
  refine Rn.hp hT rfl rfl (pV_hp rfl e_8391) ?_
  refine Rn.n hT 2 (pc' := 148) (L' := [some (.ref q0), none, none, none, none, none, none, none, none]) (st' := [.ref q0, .ref q0]) rfl ?_
  obtain ⟨v_8392, e_8393, e⟩ := Option.bind_eq_some_iff.mp e
  refine Rn.hp hT rfl rfl (gI_hp e_8393) ?_
  refine Rn.n hT 2 (pc' := 153) (L' := [some (.ref q0), none, none, none, none, none, none, none, none]) (st' := [.int (v_8392 + (1 : Int32)), .ref q0]) rfl ?_
  obtain ⟨h_8394, e_8395, e⟩ := Option.bind_eq_some_iff.mp e
  refine Rn.hp hT rfl rfl (pV_hp rfl e_8395) ?_
  refine Rn.n hT 1 (pc' := 157) (L' := [some (.ref q0), none, none, none, none, none, none, none, none]) (st' := [.int (0 : Int32)]) rfl ?_
  obtain rfl := Option.some.inj e
  exact Rn.ret hT rfl rfl rfl hq
def fX12_comes_b62 (N : Nat) (h : iv_H) (q0 : Nat) (x1 : Int32) (x2 : Int32) (y4 : Int64) (x6 : Int32) (x7 : Int32) (x8 : Int32)  : Option (Int32 × iv_H) := ((gR h 12 54 q0).bind fun v_8349 => ((gI h 12 56 q0).bind fun v_8351 => ((wI h v_8349 x7 v_8351).bind fun h_8353 => ((gR h_8353 12 53 q0).bind fun v_8355 => ((gI h_8353 12 57 q0).bind fun v_8357 => ((wI h_8353 v_8355 x7 v_8357).bind fun h_8359 => ((gR h_8359 12 49 q0).bind fun v_8361 => ((gI h_8359 12 57 q0).bind fun v_8363 => ((wJ h_8359 v_8361 v_8363 y4).bind fun h_8365 => ((gR h_8365 12 50 q0).bind fun v_8367 => ((gI h_8365 12 57 q0).bind fun v_8369 => ((wI h_8365 v_8367 v_8369 x6).bind fun h_8371 => ((gR h_8371 12 51 q0).bind fun v_8373 => ((gI h_8371 12 57 q0).bind fun v_8375 => ((wI h_8371 v_8373 v_8375 x1).bind fun h_8377 => ((gR h_8377 12 52 q0).bind fun v_8379 => ((gI h_8377 12 57 q0).bind fun v_8381 => ((wI h_8377 v_8379 v_8381 x2).bind fun h_8383 => (if x8 = 0 then ((gI h_8383 12 58 q0).bind fun v_8386 => (fX12_comes_b143 N h_8383 q0 v_8386 q0)) else ((gI h_8383 12 57 q0).bind fun v_8388 => (fX12_comes_b143 N h_8383 q0 v_8388 q0)))))))))))))))))))))
set_option maxRecDepth 10000 in
set_option maxHeartbeats 4000000 in
theorem rX12_comes_b62 {d N : Nat} (hd : 1 ≤ d) {h : iv_H} {q0 : Nat} {x1 : Int32} {x2 : Int32} {y4 : Int64} {x6 : Int32} {x7 : Int32} {x8 : Int32}  {r : Int32 × iv_H} {Q : Option Value → iv_H → Prop} (hq : Q (some (.int r.1)) r.2) (e : fX12_comes_b62 N h q0 x1 x2 y4 x6 x7 x8  = some r) : Rn d 296 (some .boolean) 62 [some (.ref q0), some (.int x1), some (.int x2), none, some (.long y4), none, some (.int x6), some (.int x7), some (.int x8)] [] h Q := by
  have hT := hX12_comes
  unfold fX12_comes_b62 at e
  refine Rn.n hT 1 (pc' := 63) (L' := [some (.ref q0), some (.int x1), some (.int x2), none, some (.long y4), none, some (.int x6), some (.int x7), some (.int x8)]) (st' := [.ref q0]) rfl ?_
  obtain ⟨v_8349, e_8350, e⟩ := Option.bind_eq_some_iff.mp e
  refine Rn.hp hT rfl rfl (gR_hp e_8350) ?_
  refine Rn.n hT 2 (pc' := 69) (L' := [some (.ref q0), some (.int x1), some (.int x2), none, some (.long y4), none, some (.int x6), some (.int x7), some (.int x8)]) (st' := [.ref q0, .int x7, .ref v_8349]) rfl ?_
  obtain ⟨v_8351, e_8352, e⟩ := Option.bind_eq_some_iff.mp e
  refine Rn.hp hT rfl rfl (gI_hp e_8352) ?_
  obtain ⟨h_8353, e_8354, e⟩ := Option.bind_eq_some_iff.mp e
  refine Rn.hp hT rfl rfl (wI_hp e_8354) ?_
  refine Rn.n hT 1 (pc' := 74) (L' := [some (.ref q0), some (.int x1), some (.int x2), none, some (.long y4), none, some (.int x6), some (.int x7), some (.int x8)]) (st' := [.ref q0]) rfl ?_
  obtain ⟨v_8355, e_8356, e⟩ := Option.bind_eq_some_iff.mp e
  refine Rn.hp hT rfl rfl (gR_hp e_8356) ?_
  refine Rn.n hT 2 (pc' := 80) (L' := [some (.ref q0), some (.int x1), some (.int x2), none, some (.long y4), none, some (.int x6), some (.int x7), some (.int x8)]) (st' := [.ref q0, .int x7, .ref v_8355]) rfl ?_
  obtain ⟨v_8357, e_8358, e⟩ := Option.bind_eq_some_iff.mp e
  refine Rn.hp hT rfl rfl (gI_hp e_8358) ?_
  obtain ⟨h_8359, e_8360, e⟩ := Option.bind_eq_some_iff.mp e
  refine Rn.hp hT rfl rfl (wI_hp e_8360) ?_
  refine Rn.n hT 1 (pc' := 85) (L' := [some (.ref q0), some (.int x1), some (.int x2), none, some (.long y4), none, some (.int x6), some (.int x7), some (.int x8)]) (st' := [.ref q0]) rfl ?_
  obtain ⟨v_8361, e_8362, e⟩ := Option.bind_eq_some_iff.mp e
  refine Rn.hp hT rfl rfl (gR_hp e_8362) ?_
  refine Rn.n hT 1 (pc' := 89) (L' := [some (.ref q0), some (.int x1), some (.int x2), none, some (.long y4), none, some (.int x6), some (.int x7), some (.int x8)]) (st' := [.ref q0, .ref v_8361]) rfl ?_
  obtain ⟨v_8363, e_8364, e⟩ := Option.bind_eq_some_iff.mp e
  refine Rn.hp hT rfl rfl (gI_hp e_8364) ?_
  refine Rn.n hT 1 (pc' := 94) (L' := [some (.ref q0), some (.int x1), some (.int x2), none, some (.long y4), none, some (.int x6), some (.int x7), some (.int x8)]) (st' := [.long y4, .int v_8363, .ref v_8361]) rfl ?_
  obtain ⟨h_8365, e_8366, e⟩ := Option.bind_eq_some_iff.mp e
  refine Rn.hp hT rfl rfl (wJ_hp e_8366) ?_
  refine Rn.n hT 1 (pc' := 96) (L' := [some (.ref q0), some (.int x1), some (.int x2), none, some (.long y4), none, some (.int x6), some (.int x7), some (.int x8)]) (st' := [.ref q0]) rfl ?_
  obtain ⟨v_8367, e_8368, e⟩ := Option.bind_eq_some_iff.mp e
  refine Rn.hp hT rfl rfl (gR_hp e_8368) ?_
  refine Rn.n hT 1 (pc' := 100) (L' := [some (.ref q0), some (.int x1), some (.int x2), none, some (.long y4), none, some (.int x6), some (.int x7), some (.int x8)]) (st' := [.ref q0, .ref v_8367]) rfl ?_
  obtain ⟨v_8369, e_8370, e⟩ := Option.bind_eq_some_iff.mp e
  refine Rn.hp hT rfl rfl (gI_hp e_8370) ?_
  refine Rn.n hT 1 (pc' := 105) (L' := [some (.ref q0), some (.int x1), some (.int x2), none, some (.long y4), none, some (.int x6), some (.int x7), some (.int x8)]) (st' := [.int x6, .int v_8369, .ref v_8367]) rfl ?_
  obtain ⟨h_8371, e_8372, e⟩ := Option.bind_eq_some_iff.mp e
  refine Rn.hp hT rfl rfl (wI_hp e_8372) ?_
  refine Rn.n hT 1 (pc' := 107) (L' := [some (.ref q0), some (.int x1), some (.int x2), none, some (.long y4), none, some (.int x6), some (.int x7), some (.int x8)]) (st' := [.ref q0]) rfl ?_
  obtain ⟨v_8373, e_8374, e⟩ := Option.bind_eq_some_iff.mp e
  refine Rn.hp hT rfl rfl (gR_hp e_8374) ?_
  refine Rn.n hT 1 (pc' := 111) (L' := [some (.ref q0), some (.int x1), some (.int x2), none, some (.long y4), none, some (.int x6), some (.int x7), some (.int x8)]) (st' := [.ref q0, .ref v_8373]) rfl ?_
  obtain ⟨v_8375, e_8376, e⟩ := Option.bind_eq_some_iff.mp e
  refine Rn.hp hT rfl rfl (gI_hp e_8376) ?_
  refine Rn.n hT 1 (pc' := 115) (L' := [some (.ref q0), some (.int x1), some (.int x2), none, some (.long y4), none, some (.int x6), some (.int x7), some (.int x8)]) (st' := [.int x1, .int v_8375, .ref v_8373]) rfl ?_
  obtain ⟨h_8377, e_8378, e⟩ := Option.bind_eq_some_iff.mp e
  refine Rn.hp hT rfl rfl (wI_hp e_8378) ?_
  refine Rn.n hT 1 (pc' := 117) (L' := [some (.ref q0), some (.int x1), some (.int x2), none, some (.long y4), none, some (.int x6), some (.int x7), some (.int x8)]) (st' := [.ref q0]) rfl ?_
  obtain ⟨v_8379, e_8380, e⟩ := Option.bind_eq_some_iff.mp e
  refine Rn.hp hT rfl rfl (gR_hp e_8380) ?_
  refine Rn.n hT 1 (pc' := 121) (L' := [some (.ref q0), some (.int x1), some (.int x2), none, some (.long y4), none, some (.int x6), some (.int x7), some (.int x8)]) (st' := [.ref q0, .ref v_8379]) rfl ?_
  obtain ⟨v_8381, e_8382, e⟩ := Option.bind_eq_some_iff.mp e
  refine Rn.hp hT rfl rfl (gI_hp e_8382) ?_
  refine Rn.n hT 1 (pc' := 125) (L' := [some (.ref q0), some (.int x1), some (.int x2), none, some (.long y4), none, some (.int x6), some (.int x7), some (.int x8)]) (st' := [.int x2, .int v_8381, .ref v_8379]) rfl ?_
  obtain ⟨h_8383, e_8384, e⟩ := Option.bind_eq_some_iff.mp e
  refine Rn.hp hT rfl rfl (wI_hp e_8384) ?_
  refine Rn.n hT 2 (pc' := 129) (L' := [some (.ref q0), some (.int x1), some (.int x2), none, some (.long y4), none, some (.int x6), some (.int x7), some (.int x8)]) (st' := [.int x8, .ref q0]) rfl ?_
  by_cases c_8385 : x8 = 0
  · rw [if_pos c_8385] at e
    refine Rn.bt hT rfl rfl rfl (decide_eq_true c_8385) ?_
    refine Rn.n hT 1 (pc' := 140) (L' := [some (.ref q0), some (.int x1), some (.int x2), none, some (.long y4), none, some (.int x6), some (.int x7), some (.int x8)]) (st' := [.ref q0, .ref q0]) rfl ?_
    obtain ⟨v_8386, e_8387, e⟩ := Option.bind_eq_some_iff.mp e
    refine Rn.hp hT rfl rfl (gI_hp e_8387) ?_
    exact Rn.weak (ll_s (ll_n (ll_n (ll_n (ll_n (ll_n (ll_n (ll_n (ll_n ll_e))))))))) (rX12_comes_b143 hd hq e)
  · rw [if_neg c_8385] at e
    refine Rn.bf hT rfl rfl rfl (decide_eq_false c_8385) ?_
    refine Rn.n hT 1 (pc' := 133) (L' := [some (.ref q0), some (.int x1), some (.int x2), none, some (.long y4), none, some (.int x6), some (.int x7), some (.int x8)]) (st' := [.ref q0, .ref q0]) rfl ?_
    obtain ⟨v_8388, e_8389, e⟩ := Option.bind_eq_some_iff.mp e
    refine Rn.hp hT rfl rfl (gI_hp e_8389) ?_
    refine Rn.n hT 1 (pc' := 143) (L' := [some (.ref q0), some (.int x1), some (.int x2), none, some (.long y4), none, some (.int x6), some (.int x7), some (.int x8)]) (st' := [.int v_8388, .ref q0]) rfl ?_
    exact Rn.weak (ll_s (ll_n (ll_n (ll_n (ll_n (ll_n (ll_n (ll_n (ll_n ll_e))))))))) (rX12_comes_b143 hd hq e)
def fX12_comes (N : Nat) (h : iv_H) (q0 : Nat) (x1 : Int32) (x2 : Int32) (x3 : Int32) : Option (Int32 × iv_H) := ((cko h q0 12).bind fun _ => (fX12_whereNow N h q0).bind fun v_8328 => ((cko h q0 12).bind fun _ => (fX12_howNow N h q0).bind fun v_8331 => ((cko h q0 12).bind fun _ => (fX12_placeOf N h q0 v_8328 v_8331).bind fun v_8334 => ((gR h 12 54 q0).bind fun v_8335 => ((aI h v_8335 v_8334).bind fun v_8337 => ((gI h 12 56 q0).bind fun v_8339 => (if v_8337 = v_8339 then (some ((0 : Int32), h)) else ((cko h q0 12).bind fun _ => (fX12_isAsDrafted N h q0 x3).bind fun v_8344 => ((gI h 12 57 q0).bind fun v_8345 => (if v_8345 = (1500 : Int32) then (if v_8344 = 0 then (some ((1 : Int32), h)) else (fX12_comes_b62 N h q0 x1 x2 v_8328 v_8331 v_8334 v_8344)) else (fX12_comes_b62 N h q0 x1 x2 v_8328 v_8331 v_8334 v_8344)))))))))))
set_option maxRecDepth 10000 in
set_option maxHeartbeats 4000000 in
theorem rX12_comes {d N : Nat} (hd : 2 ≤ d) {h : iv_H} {q0 : Nat} {x1 : Int32} {x2 : Int32} {x3 : Int32} {r : Int32 × iv_H} {Q : Option Value → iv_H → Prop} (e : fX12_comes N h q0 x1 x2 x3 = some r) (hq : Q (some (.int r.1)) r.2) : Cl d 296 [.ref q0, .int x1, .int x2, .int x3] h Q := by
  obtain ⟨d, rfl⟩ : ∃ k, d = k + 1 := ⟨d - 1, by omega⟩
  have hd : 1 ≤ d := by omega
  have hT := hX12_comes
  unfold fX12_comes at e
  refine Cl.into (by decide) gX12_comes rfl ?_
  show Rn d 296 (some .boolean) 0 [some (.ref q0), some (.int x1), some (.int x2), some (.int x3), none, none, none, none, none] [] h Q
  refine Rn.n hT 1 (pc' := 1) (L' := [some (.ref q0), some (.int x1), some (.int x2), some (.int x3), none, none, none, none, none]) (st' := [.ref q0]) rfl ?_
  obtain ⟨_, e_8327, e⟩ := Option.bind_eq_some_iff.mp e
  obtain ⟨v_8328, e_8326, e⟩ := Option.bind_eq_some_iff.mp e
  refine Rn.call hT rfl rfl rfl (Nat.le_of_ble_eq_true rfl) (rcv_v gX12_whereNow (by omega) e_8327) (rX12_whereNow (by omega) e_8326 ?_)
  show Rn d _ _ 4 [some (.ref q0), some (.int x1), some (.int x2), some (.int x3), none, none, none, none, none] [.long v_8328] h Q
  refine Rn.n hT 2 (pc' := 7) (L' := [some (.ref q0), some (.int x1), some (.int x2), some (.int x3), some (.long v_8328), none, none, none, none]) (st' := [.ref q0]) rfl ?_
  obtain ⟨_, e_8330, e⟩ := Option.bind_eq_some_iff.mp e
  obtain ⟨v_8331, e_8329, e⟩ := Option.bind_eq_some_iff.mp e
  refine Rn.call hT rfl rfl rfl (Nat.le_of_ble_eq_true rfl) (rcv_v gX12_howNow (by omega) e_8330) (rX12_howNow (by omega) e_8329 ?_)
  show Rn d _ _ 10 [some (.ref q0), some (.int x1), some (.int x2), some (.int x3), some (.long v_8328), none, none, none, none] [.int v_8331] h Q
  refine Rn.n hT 4 (pc' := 17) (L' := [some (.ref q0), some (.int x1), some (.int x2), some (.int x3), some (.long v_8328), none, some (.int v_8331), none, none]) (st' := [.int v_8331, .long v_8328, .ref q0]) rfl ?_
  obtain ⟨_, e_8333, e⟩ := Option.bind_eq_some_iff.mp e
  obtain ⟨v_8334, e_8332, e⟩ := Option.bind_eq_some_iff.mp e
  refine Rn.call hT rfl rfl rfl (Nat.le_of_ble_eq_true rfl) (rcv_v gX12_placeOf (by omega) e_8333) (rX12_placeOf (by omega) e_8332 ?_)
  show Rn d _ _ 20 [some (.ref q0), some (.int x1), some (.int x2), some (.int x3), some (.long v_8328), none, some (.int v_8331), none, none] [.int v_8334] h Q
  refine Rn.n hT 2 (pc' := 23) (L' := [some (.ref q0), some (.int x1), some (.int x2), some (.int x3), some (.long v_8328), none, some (.int v_8331), some (.int v_8334), none]) (st' := [.ref q0]) rfl ?_
  obtain ⟨v_8335, e_8336, e⟩ := Option.bind_eq_some_iff.mp e
  refine Rn.hp hT rfl rfl (gR_hp e_8336) ?_
  refine Rn.n hT 1 (pc' := 28) (L' := [some (.ref q0), some (.int x1), some (.int x2), some (.int x3), some (.long v_8328), none, some (.int v_8331), some (.int v_8334), none]) (st' := [.int v_8334, .ref v_8335]) rfl ?_
  obtain ⟨v_8337, e_8338, e⟩ := Option.bind_eq_some_iff.mp e
  refine Rn.hp hT rfl rfl (aI_hp e_8338) ?_
  refine Rn.n hT 1 (pc' := 30) (L' := [some (.ref q0), some (.int x1), some (.int x2), some (.int x3), some (.long v_8328), none, some (.int v_8331), some (.int v_8334), none]) (st' := [.ref q0, .int v_8337]) rfl ?_
  obtain ⟨v_8339, e_8340, e⟩ := Option.bind_eq_some_iff.mp e
  refine Rn.hp hT rfl rfl (gI_hp e_8340) ?_
  by_cases c_8341 : v_8337 = v_8339
  · rw [if_pos c_8341] at e
    refine Rn.bf hT rfl rfl rfl (decide_eq_false (fun z => z c_8341)) ?_
    refine Rn.n hT 1 (pc' := 37) (L' := [some (.ref q0), some (.int x1), some (.int x2), some (.int x3), some (.long v_8328), none, some (.int v_8331), some (.int v_8334), none]) (st' := [.int (0 : Int32)]) rfl ?_
    obtain rfl := Option.some.inj e
    exact Rn.ret hT rfl rfl rfl hq
  · rw [if_neg c_8341] at e
    refine Rn.bt hT rfl rfl rfl (decide_eq_true c_8341) ?_
    refine Rn.n hT 2 (pc' := 40) (L' := [some (.ref q0), some (.int x1), some (.int x2), some (.int x3), some (.long v_8328), none, some (.int v_8331), some (.int v_8334), none]) (st' := [.int x3, .ref q0]) rfl ?_
    obtain ⟨_, e_8343, e⟩ := Option.bind_eq_some_iff.mp e
    obtain ⟨v_8344, e_8342, e⟩ := Option.bind_eq_some_iff.mp e
    refine Rn.call hT rfl rfl rfl (Nat.le_of_ble_eq_true rfl) (rcv_v gX12_isAsDrafted (by omega) e_8343) (rX12_isAsDrafted (by omega) e_8342 ?_)
    show Rn d _ _ 43 [some (.ref q0), some (.int x1), some (.int x2), some (.int x3), some (.long v_8328), none, some (.int v_8331), some (.int v_8334), none] [.int v_8344] h Q
    refine Rn.n hT 2 (pc' := 46) (L' := [some (.ref q0), some (.int x1), some (.int x2), some (.int x3), some (.long v_8328), none, some (.int v_8331), some (.int v_8334), some (.int v_8344)]) (st' := [.ref q0]) rfl ?_
    obtain ⟨v_8345, e_8346, e⟩ := Option.bind_eq_some_iff.mp e
    refine Rn.hp hT rfl rfl (gI_hp e_8346) ?_
    refine Rn.n hT 1 (pc' := 52) (L' := [some (.ref q0), some (.int x1), some (.int x2), some (.int x3), some (.long v_8328), none, some (.int v_8331), some (.int v_8334), some (.int v_8344)]) (st' := [.int (1500 : Int32), .int v_8345]) rfl ?_
    by_cases c_8347 : v_8345 = (1500 : Int32)
    · rw [if_pos c_8347] at e
      refine Rn.bf hT rfl rfl rfl (decide_eq_false (fun z => z c_8347)) ?_
      refine Rn.n hT 1 (pc' := 57) (L' := [some (.ref q0), some (.int x1), some (.int x2), some (.int x3), some (.long v_8328), none, some (.int v_8331), some (.int v_8334), some (.int v_8344)]) (st' := [.int v_8344]) rfl ?_
      by_cases c_8348 : v_8344 = 0
      · rw [if_pos c_8348] at e
        refine Rn.bf hT rfl rfl rfl (decide_eq_false (fun z => z c_8348)) ?_
        refine Rn.n hT 1 (pc' := 61) (L' := [some (.ref q0), some (.int x1), some (.int x2), some (.int x3), some (.long v_8328), none, some (.int v_8331), some (.int v_8334), some (.int v_8344)]) (st' := [.int (1 : Int32)]) rfl ?_
        obtain rfl := Option.some.inj e
        exact Rn.ret hT rfl rfl rfl hq
      · rw [if_neg c_8348] at e
        refine Rn.bt hT rfl rfl rfl (decide_eq_true c_8348) ?_
        exact Rn.weak (ll_s (ll_s (ll_s (ll_n (ll_s (ll_n (ll_s (ll_s (ll_s ll_e))))))))) (rX12_comes_b62 hd hq e)
    · rw [if_neg c_8347] at e
      refine Rn.bt hT rfl rfl rfl (decide_eq_true c_8347) ?_
      exact Rn.weak (ll_s (ll_s (ll_s (ll_n (ll_s (ll_n (ll_s (ll_s (ll_s ll_e))))))))) (rX12_comes_b62 hd hq e)
set_option maxRecDepth 10000 in
theorem hX12_finds : iv_Tb 297 tX12_finds := iv_tb_of (m := mX12_finds) rfl
set_option maxRecDepth 10000 in
theorem gX12_finds : PG.2 297 = some mX12_finds := iv_pi_of (t := tX12_finds) rfl (by decide)
def fX12_finds_b124 (N : Nat) (h : iv_H) (q0 : Nat) (x1 : Int32) (x2 : Int32) (x3 : Int32) (x4 : Int32)  (kb : iv_H → Int32 → Int32 → Option (Int32 × iv_H)) (kx : iv_H → Int32 → Option (Int32 × iv_H)) : Option (Int32 × iv_H) := (kb h x2 (x4 + (1 : Int32)))
set_option maxRecDepth 10000 in
set_option maxHeartbeats 4000000 in
theorem rX12_finds_b124 {d N : Nat} (hd : 8 ≤ d) {h : iv_H} {q0 : Nat} {x1 : Int32} {x2 : Int32} {x3 : Int32} {x4 : Int32}  {kb : iv_H → Int32 → Int32 → Option (Int32 × iv_H)} {kx : iv_H → Int32 → Option (Int32 × iv_H)} {r : Int32 × iv_H} {Q : Option Value → iv_H → Prop} (hb : ∀ (h : iv_H) (w2 : Int32) (w4 : Int32), kb h w2 w4 = some r → Rn d 297 (some .int) 74 [some (.ref q0), some (.int x1), some (.int w2), some (.int x3), some (.int w4)] [] h Q) (hk : ∀ (h : iv_H) (w2 : Int32), kx h w2 = some r → Rn d 297 (some .int) 130 [some (.ref q0), some (.int x1), some (.int w2), some (.int x3), none] [] h Q) (hq : Q (some (.int r.1)) r.2) (e : fX12_finds_b124 N h q0 x1 x2 x3 x4  kb kx = some r) : Rn d 297 (some .int) 124 [some (.ref q0), some (.int x1), some (.int x2), some (.int x3), some (.int x4)] [] h Q := by
  have hT := hX12_finds
  unfold fX12_finds_b124 at e
  refine Rn.n hT 2 (pc' := 74) (L' := [some (.ref q0), some (.int x1), some (.int x2), some (.int x3), some (.int (x4 + (1 : Int32)))]) (st' := []) rfl ?_
  exact Rn.weak (ll_s (ll_s (ll_s (ll_s (ll_s ll_e))))) (hb h x2 (x4 + (1 : Int32)) e)
def fX12_finds_l74 (N : Nat) (q0 : Nat) (x1 : Int32) (x3 : Int32) (kx : iv_H → Int32 → Option (Int32 × iv_H)) : Nat → iv_H → Int32 → Int32 → Option (Int32 × iv_H)
  | 0, _, _, _ => none
  | n + 1, h, x2, x4 => (if (204 : Int32) ≤ x4 then (kx h x2) else ((gI h 12 58 q0).bind fun v_8432 => (if v_8432 = (-1 : Int32) then (if x2 = 0 then ((cko h q0 12).bind fun _ => (fX12_mayBe N h q0 x4).bind fun p_8454 => (fun (v_8438 : Int32) (h_8439 : iv_H) => (if v_8438 = 0 then (fX12_finds_b124 N h_8439 q0 x1 x2 x3 x4 (fX12_finds_l74 N q0 x1 x3 kx n) kx) else ((cko h_8439 q0 12).bind fun _ => (fX12_does N h_8439 q0 x4).bind fun h_8444 => ((cko h_8444 q0 12).bind fun _ => (fX12_comes N h_8444 q0 x3 x4 x1).bind fun p_8453 => (fun (v_8447 : Int32) (h_8448 : iv_H) => ((cko h_8448 q0 12).bind fun _ => (fX12_doesBack N h_8448 q0 x4).bind fun h_8452 => (fX12_finds_b124 N h_8452 q0 x1 v_8447 x3 x4 (fX12_finds_l74 N q0 x1 x3 kx n) kx))) p_8453.1 p_8453.2)))) p_8454.1 p_8454.2) else (kx h x2)) else (kx h x2))))
set_option maxRecDepth 10000 in
set_option maxHeartbeats 4000000 in
theorem rX12_finds_l74 {d N : Nat} (hd : 8 ≤ d) {q0 : Nat} {x1 : Int32} {x3 : Int32} {kx : iv_H → Int32 → Option (Int32 × iv_H)} {r : Int32 × iv_H} {Q : Option Value → iv_H → Prop} (hk : ∀ (h : iv_H) (x2 : Int32), kx h x2 = some r → Rn d 297 (some .int) 130 [some (.ref q0), some (.int x1), some (.int x2), some (.int x3), none] [] h Q) (hq : Q (some (.int r.1)) r.2) : ∀ (n : Nat) (h : iv_H) (x2 : Int32) (x4 : Int32), fX12_finds_l74 N q0 x1 x3 kx n h x2 x4 = some r → Rn d 297 (some .int) 74 [some (.ref q0), some (.int x1), some (.int x2), some (.int x3), some (.int x4)] [] h Q := by
  have hT := hX12_finds
  intro n
  induction n with
  | zero =>
    intro h x2 x4 e
    rw [fX12_finds_l74] at e
    cases e
  | succ n ih =>
    intro h x2 x4 e
    rw [fX12_finds_l74] at e
    refine Rn.n hT 2 (pc' := 79) (L' := [some (.ref q0), some (.int x1), some (.int x2), some (.int x3), some (.int x4)]) (st' := [.int (204 : Int32), .int x4]) rfl ?_
    by_cases c_8431 : (204 : Int32) ≤ x4
    · rw [if_pos c_8431] at e
      refine Rn.bt hT rfl rfl rfl (decide_eq_true c_8431) ?_
      exact Rn.weak (ll_s (ll_s (ll_s (ll_s (ll_n ll_e))))) (hk h x2 e)
    · rw [if_neg c_8431] at e
      refine Rn.bf hT rfl rfl rfl (decide_eq_false c_8431) ?_
      refine Rn.n hT 1 (pc' := 83) (L' := [some (.ref q0), some (.int x1), some (.int x2), some (.int x3), some (.int x4)]) (st' := [.ref q0]) rfl ?_
      obtain ⟨v_8432, e_8433, e⟩ := Option.bind_eq_some_iff.mp e
      refine Rn.hp hT rfl rfl (gI_hp e_8433) ?_
      refine Rn.n hT 1 (pc' := 87) (L' := [some (.ref q0), some (.int x1), some (.int x2), some (.int x3), some (.int x4)]) (st' := [.int (-1 : Int32), .int v_8432]) rfl ?_
      by_cases c_8434 : v_8432 = (-1 : Int32)
      · rw [if_pos c_8434] at e
        refine Rn.bf hT rfl rfl rfl (decide_eq_false (fun z => z c_8434)) ?_
        refine Rn.n hT 1 (pc' := 91) (L' := [some (.ref q0), some (.int x1), some (.int x2), some (.int x3), some (.int x4)]) (st' := [.int x2]) rfl ?_
        by_cases c_8435 : x2 = 0
        · rw [if_pos c_8435] at e
          refine Rn.bf hT rfl rfl rfl (decide_eq_false (fun z => z c_8435)) ?_
          refine Rn.n hT 2 (pc' := 97) (L' := [some (.ref q0), some (.int x1), some (.int x2), some (.int x3), some (.int x4)]) (st' := [.int x4, .ref q0]) rfl ?_
          obtain ⟨_, e_8437, e⟩ := Option.bind_eq_some_iff.mp e
          obtain ⟨⟨v_8438, h_8439⟩, e_8436, e⟩ := Option.bind_eq_some_iff.mp e
          try dsimp only at e
          try dsimp only at e
          refine Rn.call hT rfl rfl rfl (Nat.le_of_ble_eq_true rfl) (rcv_v gX12_mayBe (by omega) e_8437) (rX12_mayBe (by omega) e_8436 ?_)
          show Rn d _ _ 100 [some (.ref q0), some (.int x1), some (.int x2), some (.int x3), some (.int x4)] [.int v_8438] h_8439 Q
          by_cases c_8440 : v_8438 = 0
          · rw [if_pos c_8440] at e
            refine Rn.bt hT rfl rfl rfl (decide_eq_true c_8440) ?_
            exact Rn.weak (ll_s (ll_s (ll_s (ll_s (ll_s ll_e))))) (rX12_finds_b124 hd ih hk hq e)
          · rw [if_neg c_8440] at e
            refine Rn.bf hT rfl rfl rfl (decide_eq_false c_8440) ?_
            refine Rn.n hT 2 (pc' := 106) (L' := [some (.ref q0), some (.int x1), some (.int x2), some (.int x3), some (.int x4)]) (st' := [.int x4, .ref q0]) rfl ?_
            obtain ⟨_, e_8442, e⟩ := Option.bind_eq_some_iff.mp e
            obtain ⟨h_8444, e_8441, e⟩ := Option.bind_eq_some_iff.mp e
            refine Rn.call hT rfl rfl rfl (Nat.le_of_ble_eq_true rfl) (rcv_v gX12_does (by omega) e_8442) (rX12_does (by omega) e_8441 ?_)
            show Rn d _ _ 109 [some (.ref q0), some (.int x1), some (.int x2), some (.int x3), some (.int x4)] [] h_8444 Q
            refine Rn.n hT 4 (pc' := 114) (L' := [some (.ref q0), some (.int x1), some (.int x2), some (.int x3), some (.int x4)]) (st' := [.int x1, .int x4, .int x3, .ref q0]) rfl ?_
            obtain ⟨_, e_8446, e⟩ := Option.bind_eq_some_iff.mp e
            obtain ⟨⟨v_8447, h_8448⟩, e_8445, e⟩ := Option.bind_eq_some_iff.mp e
            try dsimp only at e
            try dsimp only at e
            refine Rn.call hT rfl rfl rfl (Nat.le_of_ble_eq_true rfl) (rcv_v gX12_comes (by omega) e_8446) (rX12_comes (by omega) e_8445 ?_)
            show Rn d _ _ 117 [some (.ref q0), some (.int x1), some (.int x2), some (.int x3), some (.int x4)] [.int v_8447] h_8448 Q
            refine Rn.n hT 3 (pc' := 121) (L' := [some (.ref q0), some (.int x1), some (.int v_8447), some (.int x3), some (.int x4)]) (st' := [.int x4, .ref q0]) rfl ?_
            obtain ⟨_, e_8450, e⟩ := Option.bind_eq_some_iff.mp e
            obtain ⟨h_8452, e_8449, e⟩ := Option.bind_eq_some_iff.mp e
            refine Rn.call hT rfl rfl rfl (Nat.le_of_ble_eq_true rfl) (rcv_v gX12_doesBack (by omega) e_8450) (rX12_doesBack (by omega) e_8449 ?_)
            show Rn d _ _ 124 [some (.ref q0), some (.int x1), some (.int v_8447), some (.int x3), some (.int x4)] [] h_8452 Q
            exact Rn.weak (ll_s (ll_s (ll_s (ll_s (ll_s ll_e))))) (rX12_finds_b124 hd ih hk hq e)
        · rw [if_neg c_8435] at e
          refine Rn.bt hT rfl rfl rfl (decide_eq_true c_8435) ?_
          exact Rn.weak (ll_s (ll_s (ll_s (ll_s (ll_n ll_e))))) (hk h x2 e)
      · rw [if_neg c_8434] at e
        refine Rn.bt hT rfl rfl rfl (decide_eq_true c_8434) ?_
        exact Rn.weak (ll_s (ll_s (ll_s (ll_s (ll_n ll_e))))) (hk h x2 e)
def fX12_finds_b130 (N : Nat) (h : iv_H) (q0 : Nat) (x1 : Int32) (x2 : Int32) (x3 : Int32)  (kb : iv_H → Int32 → Int32 → Option (Int32 × iv_H)) (kx : iv_H → Int32 → Option (Int32 × iv_H)) : Option (Int32 × iv_H) := (kb h x2 (x3 + (1 : Int32)))
set_option maxRecDepth 10000 in
set_option maxHeartbeats 4000000 in
theorem rX12_finds_b130 {d N : Nat} (hd : 8 ≤ d) {h : iv_H} {q0 : Nat} {x1 : Int32} {x2 : Int32} {x3 : Int32}  {kb : iv_H → Int32 → Int32 → Option (Int32 × iv_H)} {kx : iv_H → Int32 → Option (Int32 × iv_H)} {r : Int32 × iv_H} {Q : Option Value → iv_H → Prop} (hb : ∀ (h : iv_H) (w2 : Int32) (w3 : Int32), kb h w2 w3 = some r → Rn d 297 (some .int) 39 [some (.ref q0), some (.int x1), some (.int w2), some (.int w3), none] [] h Q) (hk : ∀ (h : iv_H) (w2 : Int32), kx h w2 = some r → Rn d 297 (some .int) 136 [some (.ref q0), none, some (.int w2), none, none] [] h Q) (hq : Q (some (.int r.1)) r.2) (e : fX12_finds_b130 N h q0 x1 x2 x3  kb kx = some r) : Rn d 297 (some .int) 130 [some (.ref q0), some (.int x1), some (.int x2), some (.int x3), none] [] h Q := by
  have hT := hX12_finds
  unfold fX12_finds_b130 at e
  refine Rn.n hT 2 (pc' := 39) (L' := [some (.ref q0), some (.int x1), some (.int x2), some (.int (x3 + (1 : Int32))), none]) (st' := []) rfl ?_
  exact Rn.weak (ll_s (ll_s (ll_s (ll_s (ll_n ll_e))))) (hb h x2 (x3 + (1 : Int32)) e)
def fX12_finds_l39 (N : Nat) (q0 : Nat) (x1 : Int32) (kx : iv_H → Int32 → Option (Int32 × iv_H)) : Nat → iv_H → Int32 → Int32 → Option (Int32 × iv_H)
  | 0, _, _, _ => none
  | n + 1, h, x2, x3 => ((gI h 12 57 q0).bind fun v_8417 => (if v_8417 ≤ x3 then (kx h x2) else (if (1500 : Int32) ≤ x3 then (kx h x2) else ((gI h 12 58 q0).bind fun v_8421 => (if v_8421 = (-1 : Int32) then (if x2 = 0 then ((cko h q0 12).bind fun _ => (fX12_laysSituation N h q0 x3).bind fun h_8428 => (fX12_finds_l74 N q0 x1 x3 (fun (h_8429 : iv_H) (z_8430 : Int32) => (fX12_finds_b130 N h_8429 q0 x1 z_8430 x3 (fX12_finds_l39 N q0 x1 kx n) kx)) N h_8428 x2 (0 : Int32))) else (kx h x2)) else (kx h x2))))))
set_option maxRecDepth 10000 in
set_option maxHeartbeats 4000000 in
theorem rX12_finds_l39 {d N : Nat} (hd : 8 ≤ d) {q0 : Nat} {x1 : Int32} {kx : iv_H → Int32 → Option (Int32 × iv_H)} {r : Int32 × iv_H} {Q : Option Value → iv_H → Prop} (hk : ∀ (h : iv_H) (x2 : Int32), kx h x2 = some r → Rn d 297 (some .int) 136 [some (.ref q0), none, some (.int x2), none, none] [] h Q) (hq : Q (some (.int r.1)) r.2) : ∀ (n : Nat) (h : iv_H) (x2 : Int32) (x3 : Int32), fX12_finds_l39 N q0 x1 kx n h x2 x3 = some r → Rn d 297 (some .int) 39 [some (.ref q0), some (.int x1), some (.int x2), some (.int x3), none] [] h Q := by
  have hT := hX12_finds
  intro n
  induction n with
  | zero =>
    intro h x2 x3 e
    rw [fX12_finds_l39] at e
    cases e
  | succ n ih =>
    intro h x2 x3 e
    rw [fX12_finds_l39] at e
    refine Rn.n hT 2 (pc' := 41) (L' := [some (.ref q0), some (.int x1), some (.int x2), some (.int x3), none]) (st' := [.ref q0, .int x3]) rfl ?_
    obtain ⟨v_8417, e_8418, e⟩ := Option.bind_eq_some_iff.mp e
    refine Rn.hp hT rfl rfl (gI_hp e_8418) ?_
    by_cases c_8419 : v_8417 ≤ x3
    · rw [if_pos c_8419] at e
      refine Rn.bt hT rfl rfl rfl (decide_eq_true c_8419) ?_
      exact Rn.weak (ll_s (ll_n (ll_s (ll_n (ll_n ll_e))))) (hk h x2 e)
    · rw [if_neg c_8419] at e
      refine Rn.bf hT rfl rfl rfl (decide_eq_false c_8419) ?_
      refine Rn.n hT 2 (pc' := 51) (L' := [some (.ref q0), some (.int x1), some (.int x2), some (.int x3), none]) (st' := [.int (1500 : Int32), .int x3]) rfl ?_
      by_cases c_8420 : (1500 : Int32) ≤ x3
      · rw [if_pos c_8420] at e
        refine Rn.bt hT rfl rfl rfl (decide_eq_true c_8420) ?_
        exact Rn.weak (ll_s (ll_n (ll_s (ll_n (ll_n ll_e))))) (hk h x2 e)
      · rw [if_neg c_8420] at e
        refine Rn.bf hT rfl rfl rfl (decide_eq_false c_8420) ?_
        refine Rn.n hT 1 (pc' := 55) (L' := [some (.ref q0), some (.int x1), some (.int x2), some (.int x3), none]) (st' := [.ref q0]) rfl ?_
        obtain ⟨v_8421, e_8422, e⟩ := Option.bind_eq_some_iff.mp e
        refine Rn.hp hT rfl rfl (gI_hp e_8422) ?_
        refine Rn.n hT 1 (pc' := 59) (L' := [some (.ref q0), some (.int x1), some (.int x2), some (.int x3), none]) (st' := [.int (-1 : Int32), .int v_8421]) rfl ?_
        by_cases c_8423 : v_8421 = (-1 : Int32)
        · rw [if_pos c_8423] at e
          refine Rn.bf hT rfl rfl rfl (decide_eq_false (fun z => z c_8423)) ?_
          refine Rn.n hT 1 (pc' := 63) (L' := [some (.ref q0), some (.int x1), some (.int x2), some (.int x3), none]) (st' := [.int x2]) rfl ?_
          by_cases c_8424 : x2 = 0
          · rw [if_pos c_8424] at e
            refine Rn.bf hT rfl rfl rfl (decide_eq_false (fun z => z c_8424)) ?_
            refine Rn.n hT 2 (pc' := 68) (L' := [some (.ref q0), some (.int x1), some (.int x2), some (.int x3), none]) (st' := [.int x3, .ref q0]) rfl ?_
            obtain ⟨_, e_8426, e⟩ := Option.bind_eq_some_iff.mp e
            obtain ⟨h_8428, e_8425, e⟩ := Option.bind_eq_some_iff.mp e
            refine Rn.call hT rfl rfl rfl (Nat.le_of_ble_eq_true rfl) (rcv_v gX12_laysSituation (by omega) e_8426) (rX12_laysSituation (by omega) e_8425 ?_)
            show Rn d _ _ 71 [some (.ref q0), some (.int x1), some (.int x2), some (.int x3), none] [] h_8428 Q
            refine Rn.n hT 2 (pc' := 74) (L' := [some (.ref q0), some (.int x1), some (.int x2), some (.int x3), some (.int (0 : Int32))]) (st' := []) rfl ?_
            refine Rn.weak (ll_s (ll_s (ll_s (ll_s (ll_s ll_e))))) (rX12_finds_l74 hd (fun h_8429 z_8430 e => ?_) hq N h_8428 x2 (0 : Int32) e)
            try dsimp only at e
            exact Rn.weak (ll_s (ll_s (ll_s (ll_s (ll_n ll_e))))) (rX12_finds_b130 hd ih hk hq e)
          · rw [if_neg c_8424] at e
            refine Rn.bt hT rfl rfl rfl (decide_eq_true c_8424) ?_
            exact Rn.weak (ll_s (ll_n (ll_s (ll_n (ll_n ll_e))))) (hk h x2 e)
        · rw [if_neg c_8423] at e
          refine Rn.bt hT rfl rfl rfl (decide_eq_true c_8423) ?_
          exact Rn.weak (ll_s (ll_n (ll_s (ll_n (ll_n ll_e))))) (hk h x2 e)
def fX12_finds_b164 (N : Nat) (h : iv_H)  (s0 : Int32) : Option (Int32 × iv_H) := (some (s0, h))
set_option maxRecDepth 10000 in
set_option maxHeartbeats 4000000 in
theorem rX12_finds_b164 {d N : Nat} (hd : 8 ≤ d) {h : iv_H}  {s0 : Int32} {r : Int32 × iv_H} {Q : Option Value → iv_H → Prop} (hq : Q (some (.int r.1)) r.2) (e : fX12_finds_b164 N h  s0 = some r) : Rn d 297 (some .int) 164 [none, none, none, none, none] [.int s0] h Q := by
  have hT := hX12_finds
  unfold fX12_finds_b164 at e
  obtain rfl := Option.some.inj e
  exact Rn.ret hT rfl rfl rfl hq
def fX12_finds_l173 (N : Nat) (q0 : Nat) (kx : iv_H → Int32 → Option (Int32 × iv_H)) : Nat → iv_H → Int32 → Int32 → Option (Int32 × iv_H)
  | 0, _, _, _ => none
  | n + 1, h, x3, x4 => ((gR h 12 51 q0).bind fun v_8469 => ((aI h v_8469 x4).bind fun v_8471 => (if v_8471 = (-1 : Int32) then (kx h x3) else ((gR h 12 51 q0).bind fun v_8474 => ((aI h v_8474 x4).bind fun v_8476 => (fX12_finds_l173 N q0 kx n h (x3 + (1 : Int32)) v_8476))))))
set_option maxRecDepth 10000 in
set_option maxHeartbeats 4000000 in
theorem rX12_finds_l173 {d N : Nat} (hd : 8 ≤ d) {q0 : Nat} {kx : iv_H → Int32 → Option (Int32 × iv_H)} {r : Int32 × iv_H} {Q : Option Value → iv_H → Prop} (hk : ∀ (h : iv_H) (x3 : Int32), kx h x3 = some r → Rn d 297 (some .int) 199 [none, none, none, some (.int x3), none] [] h Q) (hq : Q (some (.int r.1)) r.2) : ∀ (n : Nat) (h : iv_H) (x3 : Int32) (x4 : Int32), fX12_finds_l173 N q0 kx n h x3 x4 = some r → Rn d 297 (some .int) 173 [some (.ref q0), none, none, some (.int x3), some (.int x4)] [] h Q := by
  have hT := hX12_finds
  intro n
  induction n with
  | zero =>
    intro h x3 x4 e
    rw [fX12_finds_l173] at e
    cases e
  | succ n ih =>
    intro h x3 x4 e
    rw [fX12_finds_l173] at e
    refine Rn.n hT 1 (pc' := 174) (L' := [some (.ref q0), none, none, some (.int x3), some (.int x4)]) (st' := [.ref q0]) rfl ?_
    obtain ⟨v_8469, e_8470, e⟩ := Option.bind_eq_some_iff.mp e
    refine Rn.hp hT rfl rfl (gR_hp e_8470) ?_
    refine Rn.n hT 1 (pc' := 179) (L' := [some (.ref q0), none, none, some (.int x3), some (.int x4)]) (st' := [.int x4, .ref v_8469]) rfl ?_
    obtain ⟨v_8471, e_8472, e⟩ := Option.bind_eq_some_iff.mp e
    refine Rn.hp hT rfl rfl (aI_hp e_8472) ?_
    refine Rn.n hT 1 (pc' := 181) (L' := [some (.ref q0), none, none, some (.int x3), some (.int x4)]) (st' := [.int (-1 : Int32), .int v_8471]) rfl ?_
    by_cases c_8473 : v_8471 = (-1 : Int32)
    · rw [if_pos c_8473] at e
      refine Rn.bt hT rfl rfl rfl (decide_eq_true c_8473) ?_
      exact Rn.weak (ll_n (ll_n (ll_n (ll_s (ll_n ll_e))))) (hk h x3 e)
    · rw [if_neg c_8473] at e
      refine Rn.bf hT rfl rfl rfl (decide_eq_false c_8473) ?_
      refine Rn.n hT 2 (pc' := 188) (L' := [some (.ref q0), none, none, some (.int (x3 + (1 : Int32))), some (.int x4)]) (st' := [.ref q0]) rfl ?_
      obtain ⟨v_8474, e_8475, e⟩ := Option.bind_eq_some_iff.mp e
      refine Rn.hp hT rfl rfl (gR_hp e_8475) ?_
      refine Rn.n hT 1 (pc' := 193) (L' := [some (.ref q0), none, none, some (.int (x3 + (1 : Int32))), some (.int x4)]) (st' := [.int x4, .ref v_8474]) rfl ?_
      obtain ⟨v_8476, e_8477, e⟩ := Option.bind_eq_some_iff.mp e
      refine Rn.hp hT rfl rfl (aI_hp e_8477) ?_
      refine Rn.n hT 2 (pc' := 173) (L' := [some (.ref q0), none, none, some (.int (x3 + (1 : Int32))), some (.int v_8476)]) (st' := []) rfl ?_
      exact Rn.weak (ll_s (ll_n (ll_n (ll_s (ll_s ll_e))))) (ih h (x3 + (1 : Int32)) v_8476 e)
def fX12_finds_b136 (N : Nat) (h : iv_H) (q0 : Nat) (x2 : Int32)  : Option (Int32 × iv_H) := ((gR h 12 55 q0).bind fun v_8455 => ((cko h q0 12).bind fun _ => (fX12_laysFloor N h q0 v_8455 (0 : Int32)).bind fun h_8460 => ((gI h_8460 12 58 q0).bind fun v_8461 => (if v_8461 = (-1 : Int32) then (if x2 = 0 then (fX12_finds_b164 N h_8460 (-2 : Int32)) else (fX12_finds_b164 N h_8460 (-3 : Int32))) else ((gI h_8460 12 58 q0).bind fun v_8464 => (fX12_finds_l173 N q0 (fun (h_8466 : iv_H) (z_8467 : Int32) => (some (z_8467, h_8466))) N h_8460 (0 : Int32) v_8464))))))
set_option maxRecDepth 10000 in
set_option maxHeartbeats 4000000 in
theorem rX12_finds_b136 {d N : Nat} (hd : 8 ≤ d) {h : iv_H} {q0 : Nat} {x2 : Int32}  {r : Int32 × iv_H} {Q : Option Value → iv_H → Prop} (hq : Q (some (.int r.1)) r.2) (e : fX12_finds_b136 N h q0 x2  = some r) : Rn d 297 (some .int) 136 [some (.ref q0), none, some (.int x2), none, none] [] h Q := by
  have hT := hX12_finds
  unfold fX12_finds_b136 at e
  refine Rn.n hT 2 (pc' := 138) (L' := [some (.ref q0), none, some (.int x2), none, none]) (st' := [.ref q0, .ref q0]) rfl ?_
  obtain ⟨v_8455, e_8456, e⟩ := Option.bind_eq_some_iff.mp e
  refine Rn.hp hT rfl rfl (gR_hp e_8456) ?_
  refine Rn.n hT 1 (pc' := 142) (L' := [some (.ref q0), none, some (.int x2), none, none]) (st' := [.int (0 : Int32), .ref v_8455, .ref q0]) rfl ?_
  obtain ⟨_, e_8458, e⟩ := Option.bind_eq_some_iff.mp e
  obtain ⟨h_8460, e_8457, e⟩ := Option.bind_eq_some_iff.mp e
  refine Rn.call hT rfl rfl rfl (Nat.le_of_ble_eq_true rfl) (rcv_v gX12_laysFloor (by omega) e_8458) (rX12_laysFloor (by omega) e_8457 ?_)
  show Rn d _ _ 145 [some (.ref q0), none, some (.int x2), none, none] [] h_8460 Q
  refine Rn.n hT 1 (pc' := 146) (L' := [some (.ref q0), none, some (.int x2), none, none]) (st' := [.ref q0]) rfl ?_
  obtain ⟨v_8461, e_8462, e⟩ := Option.bind_eq_some_iff.mp e
  refine Rn.hp hT rfl rfl (gI_hp e_8462) ?_
  refine Rn.n hT 1 (pc' := 150) (L' := [some (.ref q0), none, some (.int x2), none, none]) (st' := [.int (-1 : Int32), .int v_8461]) rfl ?_
  by_cases c_8463 : v_8461 = (-1 : Int32)
  · rw [if_pos c_8463] at e
    refine Rn.bf hT rfl rfl rfl (decide_eq_false (fun z => z c_8463)) ?_
    refine Rn.n hT 1 (pc' := 154) (L' := [some (.ref q0), none, some (.int x2), none, none]) (st' := [.int x2]) rfl ?_
    by_cases c_8468 : x2 = 0
    · rw [if_pos c_8468] at e
      refine Rn.bt hT rfl rfl rfl (decide_eq_true c_8468) ?_
      refine Rn.n hT 1 (pc' := 164) (L' := [some (.ref q0), none, some (.int x2), none, none]) (st' := [.int (-2 : Int32)]) rfl ?_
      exact Rn.weak (ll_n (ll_n (ll_n (ll_n (ll_n ll_e))))) (rX12_finds_b164 hd hq e)
    · rw [if_neg c_8468] at e
      refine Rn.bf hT rfl rfl rfl (decide_eq_false c_8468) ?_
      refine Rn.n hT 2 (pc' := 164) (L' := [some (.ref q0), none, some (.int x2), none, none]) (st' := [.int (-3 : Int32)]) rfl ?_
      exact Rn.weak (ll_n (ll_n (ll_n (ll_n (ll_n ll_e))))) (rX12_finds_b164 hd hq e)
  · rw [if_neg c_8463] at e
    refine Rn.bt hT rfl rfl rfl (decide_eq_true c_8463) ?_
    refine Rn.n hT 3 (pc' := 168) (L' := [some (.ref q0), none, some (.int x2), some (.int (0 : Int32)), none]) (st' := [.ref q0]) rfl ?_
    obtain ⟨v_8464, e_8465, e⟩ := Option.bind_eq_some_iff.mp e
    refine Rn.hp hT rfl rfl (gI_hp e_8465) ?_
    refine Rn.n hT 1 (pc' := 173) (L' := [some (.ref q0), none, some (.int x2), some (.int (0 : Int32)), some (.int v_8464)]) (st' := []) rfl ?_
    refine Rn.weak (ll_s (ll_n (ll_n (ll_s (ll_s ll_e))))) (rX12_finds_l173 hd (fun h_8466 z_8467 e => ?_) hq N h_8460 (0 : Int32) v_8464 e)
    try dsimp only at e
    refine Rn.n hT 1 (pc' := 200) (L' := [none, none, none, some (.int z_8467), none]) (st' := [.int z_8467]) rfl ?_
    obtain rfl := Option.some.inj e
    exact Rn.ret hT rfl rfl rfl hq
def fX12_finds (N : Nat) (h : iv_H) (q0 : Nat) (x1 : Int32) : Option (Int32 × iv_H) := ((gR h 12 55 q0).bind fun v_8396 => ((cko h q0 12).bind fun _ => (fX12_fillsFloor N h q0 v_8396 (0 : Int32)).bind fun h_8401 => ((gI h_8401 12 56 q0).bind fun v_8402 => ((pV h_8401 12 56 q0 (.int (v_8402 + (1 : Int32)))).bind fun h_8404 => ((pV h_8404 12 57 q0 (.int (0 : Int32))).bind fun h_8406 => ((pV h_8406 12 58 q0 (.int (-1 : Int32))).bind fun h_8408 => ((cko h_8408 q0 12).bind fun _ => (fX12_comes N h_8408 q0 (-1 : Int32) (-1 : Int32) x1).bind fun p_8416 => (fun (v_8412 : Int32) (h_8413 : iv_H) => (fX12_finds_l39 N q0 x1 (fun (h_8414 : iv_H) (z_8415 : Int32) => (fX12_finds_b136 N h_8414 q0 z_8415)) N h_8413 v_8412 (0 : Int32))) p_8416.1 p_8416.2)))))))
set_option maxRecDepth 10000 in
set_option maxHeartbeats 4000000 in
theorem rX12_finds {d N : Nat} (hd : 9 ≤ d) {h : iv_H} {q0 : Nat} {x1 : Int32} {r : Int32 × iv_H} {Q : Option Value → iv_H → Prop} (e : fX12_finds N h q0 x1 = some r) (hq : Q (some (.int r.1)) r.2) : Cl d 297 [.ref q0, .int x1] h Q := by
  obtain ⟨d, rfl⟩ : ∃ k, d = k + 1 := ⟨d - 1, by omega⟩
  have hd : 8 ≤ d := by omega
  have hT := hX12_finds
  unfold fX12_finds at e
  refine Cl.into (by decide) gX12_finds rfl ?_
  show Rn d 297 (some .int) 0 [some (.ref q0), some (.int x1), none, none, none] [] h Q
  refine Rn.n hT 2 (pc' := 2) (L' := [some (.ref q0), some (.int x1), none, none, none]) (st' := [.ref q0, .ref q0]) rfl ?_
  obtain ⟨v_8396, e_8397, e⟩ := Option.bind_eq_some_iff.mp e
  refine Rn.hp hT rfl rfl (gR_hp e_8397) ?_
  refine Rn.n hT 1 (pc' := 6) (L' := [some (.ref q0), some (.int x1), none, none, none]) (st' := [.int (0 : Int32), .ref v_8396, .ref q0]) rfl ?_
  obtain ⟨_, e_8399, e⟩ := Option.bind_eq_some_iff.mp e
  obtain ⟨h_8401, e_8398, e⟩ := Option.bind_eq_some_iff.mp e
  refine Rn.call hT rfl rfl rfl (Nat.le_of_ble_eq_true rfl) (rcv_v gX12_fillsFloor (by omega) e_8399) (rX12_fillsFloor (by omega) e_8398 ?_)
  show Rn d _ _ 9 [some (.ref q0), some (.int x1), none, none, none] [] h_8401 Q
  refine Rn.n hT 2 (pc' := 11) (L' := [some (.ref q0), some (.int x1), none, none, none]) (st' := [.ref q0, .ref q0]) rfl ?_
  obtain ⟨v_8402, e_8403, e⟩ := Option.bind_eq_some_iff.mp e
  refine Rn.hp hT rfl rfl (gI_hp e_8403) ?_
  refine Rn.n hT 2 (pc' := 16) (L' := [some (.ref q0), some (.int x1), none, none, none]) (st' := [.int (v_8402 + (1 : Int32)), .ref q0]) rfl ?_
  obtain ⟨h_8404, e_8405, e⟩ := Option.bind_eq_some_iff.mp e
  refine Rn.hp hT rfl rfl (pV_hp rfl e_8405) ?_
  refine Rn.n hT 2 (pc' := 21) (L' := [some (.ref q0), some (.int x1), none, none, none]) (st' := [.int (0 : Int32), .ref q0]) rfl ?_
  obtain ⟨h_8406, e_8407, e⟩ := Option.bind_eq_some_iff.mp e
  refine Rn.hp hT rfl rfl (pV_hp rfl e_8407) ?_
  refine Rn.n hT 2 (pc' := 26) (L' := [some (.ref q0), some (.int x1), none, none, none]) (st' := [.int (-1 : Int32), .ref q0]) rfl ?_
  obtain ⟨h_8408, e_8409, e⟩ := Option.bind_eq_some_iff.mp e
  refine Rn.hp hT rfl rfl (pV_hp rfl e_8409) ?_
  refine Rn.n hT 4 (pc' := 33) (L' := [some (.ref q0), some (.int x1), none, none, none]) (st' := [.int x1, .int (-1 : Int32), .int (-1 : Int32), .ref q0]) rfl ?_
  obtain ⟨_, e_8411, e⟩ := Option.bind_eq_some_iff.mp e
  obtain ⟨⟨v_8412, h_8413⟩, e_8410, e⟩ := Option.bind_eq_some_iff.mp e
  try dsimp only at e
  try dsimp only at e
  refine Rn.call hT rfl rfl rfl (Nat.le_of_ble_eq_true rfl) (rcv_v gX12_comes (by omega) e_8411) (rX12_comes (by omega) e_8410 ?_)
  show Rn d _ _ 36 [some (.ref q0), some (.int x1), none, none, none] [.int v_8412] h_8413 Q
  refine Rn.n hT 3 (pc' := 39) (L' := [some (.ref q0), some (.int x1), some (.int v_8412), some (.int (0 : Int32)), none]) (st' := []) rfl ?_
  refine Rn.weak (ll_s (ll_s (ll_s (ll_s (ll_n ll_e))))) (rX12_finds_l39 hd (fun h_8414 z_8415 e => ?_) hq N h_8413 v_8412 (0 : Int32) e)
  try dsimp only at e
  exact Rn.weak (ll_s (ll_n (ll_s (ll_n (ll_n ll_e))))) (rX12_finds_b136 hd hq e)
