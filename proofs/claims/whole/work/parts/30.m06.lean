-- MIRRORS, 6 (written by wip/whole/mir.py)
set_option maxRecDepth 10000 in
theorem hX11_undo : iv_Tb 156 tX11_undo := iv_tb_of (m := mX11_undo) rfl
set_option maxRecDepth 10000 in
theorem gX11_undo : PG.2 156 = some mX11_undo := iv_pi_of (t := tX11_undo) rfl (by decide)
def fX11_undo (N : Nat) (h : iv_H) (q0 : Nat) : Option (Int32 × iv_H) := ((gR h 11 4 q0).bind fun v_4457 => ((gR h 2 12 v_4457).bind fun v_4459 => ((gI h 7 1 v_4459).bind fun v_4461 => (if v_4461 = 0 then (some ((-2 : Int32), h)) else ((gR h 11 4 q0).bind fun v_4464 => ((cko h v_4464 2).bind fun _ => (fX2_takeNightBack N h v_4464).bind fun h_4469 => ((gI h_4469 11 15 q0).bind fun v_4470 => ((pV h_4469 11 15 q0 (.int (v_4470 + (1 : Int32)))).bind fun h_4472 => ((gR h_4472 11 4 q0).bind fun v_4474 => ((gR h_4472 2 12 v_4474).bind fun v_4476 => ((gI h_4472 7 1 v_4476).bind fun v_4478 => (some (v_4478, h_4472)))))))))))))
set_option maxRecDepth 10000 in
set_option maxHeartbeats 4000000 in
theorem rX11_undo {d N : Nat} (hd : 5 ≤ d) {h : iv_H} {q0 : Nat} {r : Int32 × iv_H} {Q : Option Value → iv_H → Prop} (e : fX11_undo N h q0 = some r) (hq : Q (some (.int r.1)) r.2) : Cl d 156 [.ref q0] h Q := by
  obtain ⟨d, rfl⟩ : ∃ k, d = k + 1 := ⟨d - 1, by omega⟩
  have hd : 4 ≤ d := by omega
  have hT := hX11_undo
  unfold fX11_undo at e
  refine Cl.into (by decide) gX11_undo rfl ?_
  show Rn d 156 (some .int) 0 [some (.ref q0)] [] h Q
  refine Rn.n hT 1 (pc' := 1) (L' := [some (.ref q0)]) (st' := [.ref q0]) rfl ?_
  obtain ⟨v_4457, e_4458, e⟩ := Option.bind_eq_some_iff.mp e
  refine Rn.hp hT rfl rfl (gR_hp e_4458) ?_
  obtain ⟨v_4459, e_4460, e⟩ := Option.bind_eq_some_iff.mp e
  refine Rn.hp hT rfl rfl (gR_hp e_4460) ?_
  obtain ⟨v_4461, e_4462, e⟩ := Option.bind_eq_some_iff.mp e
  refine Rn.hp hT rfl rfl (gI_hp e_4462) ?_
  by_cases c_4463 : v_4461 = 0
  · rw [if_pos c_4463] at e
    refine Rn.bf hT rfl rfl rfl (decide_eq_false (fun z => z c_4463)) ?_
    refine Rn.n hT 1 (pc' := 15) (L' := [some (.ref q0)]) (st' := [.int (-2 : Int32)]) rfl ?_
    obtain rfl := Option.some.inj e
    exact Rn.ret hT rfl rfl rfl hq
  · rw [if_neg c_4463] at e
    refine Rn.bt hT rfl rfl rfl (decide_eq_true c_4463) ?_
    refine Rn.n hT 1 (pc' := 17) (L' := [some (.ref q0)]) (st' := [.ref q0]) rfl ?_
    obtain ⟨v_4464, e_4465, e⟩ := Option.bind_eq_some_iff.mp e
    refine Rn.hp hT rfl rfl (gR_hp e_4465) ?_
    obtain ⟨_, e_4467, e⟩ := Option.bind_eq_some_iff.mp e
    obtain ⟨h_4469, e_4466, e⟩ := Option.bind_eq_some_iff.mp e
    refine Rn.call hT rfl rfl rfl (Nat.le_of_ble_eq_true rfl) (rcv_v gX2_takeNightBack (by omega) e_4467) (rX2_takeNightBack (by omega) e_4466 ?_)
    show Rn d _ _ 23 [some (.ref q0)] [] h_4469 Q
    refine Rn.n hT 2 (pc' := 25) (L' := [some (.ref q0)]) (st' := [.ref q0, .ref q0]) rfl ?_
    obtain ⟨v_4470, e_4471, e⟩ := Option.bind_eq_some_iff.mp e
    refine Rn.hp hT rfl rfl (gI_hp e_4471) ?_
    refine Rn.n hT 2 (pc' := 30) (L' := [some (.ref q0)]) (st' := [.int (v_4470 + (1 : Int32)), .ref q0]) rfl ?_
    obtain ⟨h_4472, e_4473, e⟩ := Option.bind_eq_some_iff.mp e
    refine Rn.hp hT rfl rfl (pV_hp rfl e_4473) ?_
    refine Rn.n hT 1 (pc' := 34) (L' := [some (.ref q0)]) (st' := [.ref q0]) rfl ?_
    obtain ⟨v_4474, e_4475, e⟩ := Option.bind_eq_some_iff.mp e
    refine Rn.hp hT rfl rfl (gR_hp e_4475) ?_
    obtain ⟨v_4476, e_4477, e⟩ := Option.bind_eq_some_iff.mp e
    refine Rn.hp hT rfl rfl (gR_hp e_4477) ?_
    obtain ⟨v_4478, e_4479, e⟩ := Option.bind_eq_some_iff.mp e
    refine Rn.hp hT rfl rfl (gI_hp e_4479) ?_
    obtain rfl := Option.some.inj e
    exact Rn.ret hT rfl rfl rfl hq
set_option maxRecDepth 10000 in
theorem hX11_listWalks : iv_Tb 158 tX11_listWalks := iv_tb_of (m := mX11_listWalks) rfl
set_option maxRecDepth 10000 in
theorem gX11_listWalks : PG.2 158 = some mX11_listWalks := iv_pi_of (t := tX11_listWalks) rfl (by decide)
def fX11_listWalks (N : Nat) (h : iv_H) (q0 : Nat) : Option (Int32 × iv_H) := ((gR h 11 9 q0).bind fun v_4480 => ((gR h 11 4 q0).bind fun v_4482 => ((gR h 11 4 q0).bind fun v_4484 => ((gR h 2 9 v_4484).bind fun v_4486 => ((cko h q0 11).bind fun _ => (fX11_ruleInForce N h q0).bind fun v_4490 => ((cko h v_4480 3).bind fun _ => (fX3_open N h v_4480 v_4482 v_4486 v_4490).bind fun h_4494 => ((gR h_4494 11 9 q0).bind fun v_4495 => ((gR h_4494 11 14 q0).bind fun v_4497 => ((cko h_4494 v_4495 3).bind fun _ => (fX3_list N h_4494 v_4495 v_4497).bind fun p_4503 => (fun (v_4501 : Int32) (h_4502 : iv_H) => (some (v_4501, h_4502))) p_4503.1 p_4503.2)))))))))
set_option maxRecDepth 10000 in
set_option maxHeartbeats 4000000 in
theorem rX11_listWalks {d N : Nat} (hd : 6 ≤ d) {h : iv_H} {q0 : Nat} {r : Int32 × iv_H} {Q : Option Value → iv_H → Prop} (e : fX11_listWalks N h q0 = some r) (hq : Q (some (.int r.1)) r.2) : Cl d 158 [.ref q0] h Q := by
  obtain ⟨d, rfl⟩ : ∃ k, d = k + 1 := ⟨d - 1, by omega⟩
  have hd : 5 ≤ d := by omega
  have hT := hX11_listWalks
  unfold fX11_listWalks at e
  refine Cl.into (by decide) gX11_listWalks rfl ?_
  show Rn d 158 (some .int) 0 [some (.ref q0)] [] h Q
  refine Rn.n hT 1 (pc' := 1) (L' := [some (.ref q0)]) (st' := [.ref q0]) rfl ?_
  obtain ⟨v_4480, e_4481, e⟩ := Option.bind_eq_some_iff.mp e
  refine Rn.hp hT rfl rfl (gR_hp e_4481) ?_
  refine Rn.n hT 1 (pc' := 5) (L' := [some (.ref q0)]) (st' := [.ref q0, .ref v_4480]) rfl ?_
  obtain ⟨v_4482, e_4483, e⟩ := Option.bind_eq_some_iff.mp e
  refine Rn.hp hT rfl rfl (gR_hp e_4483) ?_
  refine Rn.n hT 1 (pc' := 9) (L' := [some (.ref q0)]) (st' := [.ref q0, .ref v_4482, .ref v_4480]) rfl ?_
  obtain ⟨v_4484, e_4485, e⟩ := Option.bind_eq_some_iff.mp e
  refine Rn.hp hT rfl rfl (gR_hp e_4485) ?_
  obtain ⟨v_4486, e_4487, e⟩ := Option.bind_eq_some_iff.mp e
  refine Rn.hp hT rfl rfl (gR_hp e_4487) ?_
  refine Rn.n hT 1 (pc' := 16) (L' := [some (.ref q0)]) (st' := [.ref q0, .ref v_4486, .ref v_4482, .ref v_4480]) rfl ?_
  obtain ⟨_, e_4489, e⟩ := Option.bind_eq_some_iff.mp e
  obtain ⟨v_4490, e_4488, e⟩ := Option.bind_eq_some_iff.mp e
  refine Rn.call hT rfl rfl rfl (Nat.le_of_ble_eq_true rfl) (rcv_v gX11_ruleInForce (by omega) e_4489) (rX11_ruleInForce (by omega) e_4488 ?_)
  show Rn d _ _ 19 [some (.ref q0)] [iv_rf v_4490, .ref v_4486, .ref v_4482, .ref v_4480] h Q
  obtain ⟨_, e_4492, e⟩ := Option.bind_eq_some_iff.mp e
  obtain ⟨h_4494, e_4491, e⟩ := Option.bind_eq_some_iff.mp e
  refine Rn.call hT rfl rfl rfl (Nat.le_of_ble_eq_true rfl) (rcv_v gX3_open (by omega) e_4492) (rX3_open (by omega) e_4491 ?_)
  show Rn d _ _ 22 [some (.ref q0)] [] h_4494 Q
  refine Rn.n hT 1 (pc' := 23) (L' := [some (.ref q0)]) (st' := [.ref q0]) rfl ?_
  obtain ⟨v_4495, e_4496, e⟩ := Option.bind_eq_some_iff.mp e
  refine Rn.hp hT rfl rfl (gR_hp e_4496) ?_
  refine Rn.n hT 1 (pc' := 27) (L' := [some (.ref q0)]) (st' := [.ref q0, .ref v_4495]) rfl ?_
  obtain ⟨v_4497, e_4498, e⟩ := Option.bind_eq_some_iff.mp e
  refine Rn.hp hT rfl rfl (gR_hp e_4498) ?_
  obtain ⟨_, e_4500, e⟩ := Option.bind_eq_some_iff.mp e
  obtain ⟨⟨v_4501, h_4502⟩, e_4499, e⟩ := Option.bind_eq_some_iff.mp e
  try dsimp only at e
  try dsimp only at e
  refine Rn.call hT rfl rfl rfl (Nat.le_of_ble_eq_true rfl) (rcv_v gX3_list (by omega) e_4500) (rX3_list (by omega) e_4499 ?_)
  show Rn d _ _ 33 [some (.ref q0)] [.int v_4501] h_4502 Q
  obtain rfl := Option.some.inj e
  exact Rn.ret hT rfl rfl rfl hq
set_option maxRecDepth 10000 in
theorem hX11_can : iv_Tb 157 tX11_can := iv_tb_of (m := mX11_can) rfl
set_option maxRecDepth 10000 in
theorem gX11_can : PG.2 157 = some mX11_can := iv_pi_of (t := tX11_can) rfl (by decide)
def fX11_can_b18 (N : Nat) (h : iv_H)  (s0 : Int32) : Option (Int32 × iv_H) := (some (s0, h))
set_option maxRecDepth 10000 in
set_option maxHeartbeats 4000000 in
theorem rX11_can_b18 {d N : Nat} (hd : 6 ≤ d) {h : iv_H}  {s0 : Int32} {r : Int32 × iv_H} {Q : Option Value → iv_H → Prop} (hq : Q (some (.int r.1)) r.2) (e : fX11_can_b18 N h  s0 = some r) : Rn d 157 (some .int) 18 [none] [.int s0] h Q := by
  have hT := hX11_can
  unfold fX11_can_b18 at e
  obtain rfl := Option.some.inj e
  exact Rn.ret hT rfl rfl rfl hq
def fX11_can (N : Nat) (h : iv_H) (q0 : Nat) : Option (Int32 × iv_H) := ((gR h 11 4 q0).bind fun v_4504 => ((gI h 2 0 v_4504).bind fun v_4506 => (if v_4506 = 0 then (fX11_can_b18 N h (-1 : Int32)) else ((cko h q0 11).bind fun _ => (fX11_listWalks N h q0).bind fun p_4513 => (fun (v_4511 : Int32) (h_4512 : iv_H) => (fX11_can_b18 N h_4512 v_4511)) p_4513.1 p_4513.2))))
set_option maxRecDepth 10000 in
set_option maxHeartbeats 4000000 in
theorem rX11_can {d N : Nat} (hd : 7 ≤ d) {h : iv_H} {q0 : Nat} {r : Int32 × iv_H} {Q : Option Value → iv_H → Prop} (e : fX11_can N h q0 = some r) (hq : Q (some (.int r.1)) r.2) : Cl d 157 [.ref q0] h Q := by
  obtain ⟨d, rfl⟩ : ∃ k, d = k + 1 := ⟨d - 1, by omega⟩
  have hd : 6 ≤ d := by omega
  have hT := hX11_can
  unfold fX11_can at e
  refine Cl.into (by decide) gX11_can rfl ?_
  show Rn d 157 (some .int) 0 [some (.ref q0)] [] h Q
  refine Rn.n hT 1 (pc' := 1) (L' := [some (.ref q0)]) (st' := [.ref q0]) rfl ?_
  obtain ⟨v_4504, e_4505, e⟩ := Option.bind_eq_some_iff.mp e
  refine Rn.hp hT rfl rfl (gR_hp e_4505) ?_
  obtain ⟨v_4506, e_4507, e⟩ := Option.bind_eq_some_iff.mp e
  refine Rn.hp hT rfl rfl (gI_hp e_4507) ?_
  by_cases c_4508 : v_4506 = 0
  · rw [if_pos c_4508] at e
    refine Rn.bt hT rfl rfl rfl (decide_eq_true c_4508) ?_
    refine Rn.n hT 1 (pc' := 18) (L' := [some (.ref q0)]) (st' := [.int (-1 : Int32)]) rfl ?_
    exact Rn.weak (ll_n ll_e) (rX11_can_b18 hd hq e)
  · rw [if_neg c_4508] at e
    refine Rn.bf hT rfl rfl rfl (decide_eq_false c_4508) ?_
    refine Rn.n hT 1 (pc' := 11) (L' := [some (.ref q0)]) (st' := [.ref q0]) rfl ?_
    obtain ⟨_, e_4510, e⟩ := Option.bind_eq_some_iff.mp e
    obtain ⟨⟨v_4511, h_4512⟩, e_4509, e⟩ := Option.bind_eq_some_iff.mp e
    try dsimp only at e
    try dsimp only at e
    refine Rn.call hT rfl rfl rfl (Nat.le_of_ble_eq_true rfl) (rcv_v gX11_listWalks (by omega) e_4510) (rX11_listWalks (by omega) e_4509 ?_)
    show Rn d _ _ 14 [some (.ref q0)] [.int v_4511] h_4512 Q
    refine Rn.n hT 1 (pc' := 18) (L' := [some (.ref q0)]) (st' := [.int v_4511]) rfl ?_
    exact Rn.weak (ll_n ll_e) (rX11_can_b18 hd hq e)
set_option maxRecDepth 10000 in
theorem hX11_partOf : iv_Tb 160 tX11_partOf := iv_tb_of (m := mX11_partOf) rfl
set_option maxRecDepth 10000 in
theorem gX11_partOf : PG.2 160 = some mX11_partOf := iv_pi_of (t := tX11_partOf) rfl (by decide)
def fX11_partOf_b27 (N : Nat) (h : iv_H)  (s0 : Int32) : Option (Int32) := (some s0)
set_option maxRecDepth 10000 in
set_option maxHeartbeats 4000000 in
theorem rX11_partOf_b27 {d N : Nat} (hd : 0 ≤ d) {h : iv_H}  {s0 : Int32} {r : Int32} {Q : Option Value → iv_H → Prop} (hq : Q (some (.int r)) h) (e : fX11_partOf_b27 N h  s0 = some r) : Rn d 160 (some .int) 27 [none, none] [.int s0] h Q := by
  have hT := hX11_partOf
  unfold fX11_partOf_b27 at e
  obtain rfl := Option.some.inj e
  exact Rn.ret hT rfl rfl rfl hq
def fX11_partOf (N : Nat) (h : iv_H) (x0 : Int32) (x1 : Int32) : Option (Int32) := (if x1 = 0 then (some (x0 >>> ((8 : Int32) &&& 31))) else (if x1 = (1 : Int32) then (fX11_partOf_b27 N h ((x0 >>> ((4 : Int32) &&& 31)) &&& (15 : Int32))) else (fX11_partOf_b27 N h (x0 &&& (15 : Int32)))))
set_option maxRecDepth 10000 in
set_option maxHeartbeats 4000000 in
theorem rX11_partOf {d N : Nat} (hd : 1 ≤ d) {h : iv_H} {x0 : Int32} {x1 : Int32} {r : Int32} {Q : Option Value → iv_H → Prop} (e : fX11_partOf N h x0 x1 = some r) (hq : Q (some (.int r)) h) : Cl d 160 [.int x0, .int x1] h Q := by
  obtain ⟨d, rfl⟩ : ∃ k, d = k + 1 := ⟨d - 1, by omega⟩
  have hd : 0 ≤ d := by omega
  have hT := hX11_partOf
  unfold fX11_partOf at e
  refine Cl.into (by decide) gX11_partOf rfl ?_
  show Rn d 160 (some .int) 0 [some (.int x0), some (.int x1)] [] h Q
  refine Rn.n hT 1 (pc' := 1) (L' := [some (.int x0), some (.int x1)]) (st' := [.int x1]) rfl ?_
  by_cases c_4514 : x1 = 0
  · rw [if_pos c_4514] at e
    refine Rn.bf hT rfl rfl rfl (decide_eq_false (fun z => z c_4514)) ?_
    refine Rn.n hT 3 (pc' := 8) (L' := [some (.int x0), some (.int x1)]) (st' := [.int (x0 >>> ((8 : Int32) &&& 31))]) rfl ?_
    obtain rfl := Option.some.inj e
    exact Rn.ret hT rfl rfl rfl hq
  · rw [if_neg c_4514] at e
    refine Rn.bt hT rfl rfl rfl (decide_eq_true c_4514) ?_
    refine Rn.n hT 2 (pc' := 11) (L' := [some (.int x0), some (.int x1)]) (st' := [.int (1 : Int32), .int x1]) rfl ?_
    by_cases c_4515 : x1 = (1 : Int32)
    · rw [if_pos c_4515] at e
      refine Rn.bf hT rfl rfl rfl (decide_eq_false (fun z => z c_4515)) ?_
      refine Rn.n hT 6 (pc' := 27) (L' := [some (.int x0), some (.int x1)]) (st' := [.int ((x0 >>> ((4 : Int32) &&& 31)) &&& (15 : Int32))]) rfl ?_
      exact Rn.weak (ll_n (ll_n ll_e)) (rX11_partOf_b27 hd hq e)
    · rw [if_neg c_4515] at e
      refine Rn.bt hT rfl rfl rfl (decide_eq_true c_4515) ?_
      refine Rn.n hT 3 (pc' := 27) (L' := [some (.int x0), some (.int x1)]) (st' := [.int (x0 &&& (15 : Int32))]) rfl ?_
      exact Rn.weak (ll_n (ll_n ll_e)) (rX11_partOf_b27 hd hq e)
set_option maxRecDepth 10000 in
theorem hX11_choice : iv_Tb 159 tX11_choice := iv_tb_of (m := mX11_choice) rfl
set_option maxRecDepth 10000 in
theorem gX11_choice : PG.2 159 = some mX11_choice := iv_pi_of (t := tX11_choice) rfl (by decide)
def fX11_choice_b31 (N : Nat) (h : iv_H)   : Option (Int32 × iv_H) := (some ((-1 : Int32), h))
set_option maxRecDepth 10000 in
set_option maxHeartbeats 4000000 in
theorem rX11_choice_b31 {d N : Nat} (hd : 6 ≤ d) {h : iv_H}   {r : Int32 × iv_H} {Q : Option Value → iv_H → Prop} (hq : Q (some (.int r.1)) r.2) (e : fX11_choice_b31 N h   = some r) : Rn d 159 (some .int) 31 [none, none, none] [] h Q := by
  have hT := hX11_choice
  unfold fX11_choice_b31 at e
  refine Rn.n hT 1 (pc' := 32) (L' := [none, none, none]) (st' := [.int (-1 : Int32)]) rfl ?_
  obtain rfl := Option.some.inj e
  exact Rn.ret hT rfl rfl rfl hq
def fX11_choice (N : Nat) (h : iv_H) (q0 : Nat) (x1 : Int32) (x2 : Int32) : Option (Int32 × iv_H) := ((gR h 11 4 q0).bind fun v_4516 => ((gI h 2 0 v_4516).bind fun v_4518 => (if v_4518 = 0 then (fX11_choice_b31 N h) else (if x1 < 0 then (fX11_choice_b31 N h) else (if x2 < 0 then (fX11_choice_b31 N h) else (if (3 : Int32) < x2 then (fX11_choice_b31 N h) else ((cko h q0 11).bind fun _ => (fX11_listWalks N h q0).bind fun p_4556 => (fun (v_4526 : Int32) (h_4527 : iv_H) => (if x1 < v_4526 then (if (3 : Int32) ≤ x2 then ((gR h_4527 11 4 q0).bind fun v_4530 => ((gR h_4527 2 9 v_4530).bind fun v_4532 => ((cko h_4527 v_4532 1).bind fun _ => (fX1_mismatches N h_4527 v_4532).bind fun v_4536 => ((gR h_4527 11 4 q0).bind fun v_4537 => ((gR h_4527 2 9 v_4537).bind fun v_4539 => ((gR h_4527 11 14 q0).bind fun v_4541 => ((aI h_4527 v_4541 x1).bind fun v_4543 => ((cko h_4527 v_4539 1).bind fun _ => (fX1_gain N h_4527 v_4539 v_4543).bind fun p_4549 => (fun (v_4547 : Int32) (h_4548 : iv_H) => (some ((v_4536 + v_4547), h_4548))) p_4549.1 p_4549.2)))))))) else ((gR h_4527 11 14 q0).bind fun v_4550 => ((aI h_4527 v_4550 x1).bind fun v_4552 => ((fX11_partOf N h_4527 v_4552 x2).bind fun v_4555 => (some (v_4555, h_4527)))))) else (fX11_choice_b31 N h_4527))) p_4556.1 p_4556.2)))))))
set_option maxRecDepth 10000 in
set_option maxHeartbeats 4000000 in
theorem rX11_choice {d N : Nat} (hd : 7 ≤ d) {h : iv_H} {q0 : Nat} {x1 : Int32} {x2 : Int32} {r : Int32 × iv_H} {Q : Option Value → iv_H → Prop} (e : fX11_choice N h q0 x1 x2 = some r) (hq : Q (some (.int r.1)) r.2) : Cl d 159 [.ref q0, .int x1, .int x2] h Q := by
  obtain ⟨d, rfl⟩ : ∃ k, d = k + 1 := ⟨d - 1, by omega⟩
  have hd : 6 ≤ d := by omega
  have hT := hX11_choice
  unfold fX11_choice at e
  refine Cl.into (by decide) gX11_choice rfl ?_
  show Rn d 159 (some .int) 0 [some (.ref q0), some (.int x1), some (.int x2)] [] h Q
  refine Rn.n hT 1 (pc' := 1) (L' := [some (.ref q0), some (.int x1), some (.int x2)]) (st' := [.ref q0]) rfl ?_
  obtain ⟨v_4516, e_4517, e⟩ := Option.bind_eq_some_iff.mp e
  refine Rn.hp hT rfl rfl (gR_hp e_4517) ?_
  obtain ⟨v_4518, e_4519, e⟩ := Option.bind_eq_some_iff.mp e
  refine Rn.hp hT rfl rfl (gI_hp e_4519) ?_
  by_cases c_4520 : v_4518 = 0
  · rw [if_pos c_4520] at e
    refine Rn.bt hT rfl rfl rfl (decide_eq_true c_4520) ?_
    exact Rn.weak (ll_n (ll_n (ll_n ll_e))) (rX11_choice_b31 hd hq e)
  · rw [if_neg c_4520] at e
    refine Rn.bf hT rfl rfl rfl (decide_eq_false c_4520) ?_
    refine Rn.n hT 1 (pc' := 11) (L' := [some (.ref q0), some (.int x1), some (.int x2)]) (st' := [.int x1]) rfl ?_
    by_cases c_4521 : x1 < 0
    · rw [if_pos c_4521] at e
      refine Rn.bt hT rfl rfl rfl (decide_eq_true c_4521) ?_
      exact Rn.weak (ll_n (ll_n (ll_n ll_e))) (rX11_choice_b31 hd hq e)
    · rw [if_neg c_4521] at e
      refine Rn.bf hT rfl rfl rfl (decide_eq_false c_4521) ?_
      refine Rn.n hT 1 (pc' := 15) (L' := [some (.ref q0), some (.int x1), some (.int x2)]) (st' := [.int x2]) rfl ?_
      by_cases c_4522 : x2 < 0
      · rw [if_pos c_4522] at e
        refine Rn.bt hT rfl rfl rfl (decide_eq_true c_4522) ?_
        exact Rn.weak (ll_n (ll_n (ll_n ll_e))) (rX11_choice_b31 hd hq e)
      · rw [if_neg c_4522] at e
        refine Rn.bf hT rfl rfl rfl (decide_eq_false c_4522) ?_
        refine Rn.n hT 2 (pc' := 20) (L' := [some (.ref q0), some (.int x1), some (.int x2)]) (st' := [.int (3 : Int32), .int x2]) rfl ?_
        by_cases c_4523 : (3 : Int32) < x2
        · rw [if_pos c_4523] at e
          refine Rn.bt hT rfl rfl rfl (decide_eq_true c_4523) ?_
          exact Rn.weak (ll_n (ll_n (ll_n ll_e))) (rX11_choice_b31 hd hq e)
        · rw [if_neg c_4523] at e
          refine Rn.bf hT rfl rfl rfl (decide_eq_false c_4523) ?_
          refine Rn.n hT 2 (pc' := 25) (L' := [some (.ref q0), some (.int x1), some (.int x2)]) (st' := [.ref q0, .int x1]) rfl ?_
          obtain ⟨_, e_4525, e⟩ := Option.bind_eq_some_iff.mp e
          obtain ⟨⟨v_4526, h_4527⟩, e_4524, e⟩ := Option.bind_eq_some_iff.mp e
          try dsimp only at e
          try dsimp only at e
          refine Rn.call hT rfl rfl rfl (Nat.le_of_ble_eq_true rfl) (rcv_v gX11_listWalks (by omega) e_4525) (rX11_listWalks (by omega) e_4524 ?_)
          show Rn d _ _ 28 [some (.ref q0), some (.int x1), some (.int x2)] [.int v_4526, .int x1] h_4527 Q
          by_cases c_4528 : x1 < v_4526
          · rw [if_pos c_4528] at e
            refine Rn.bt hT rfl rfl rfl (decide_eq_true c_4528) ?_
            refine Rn.n hT 2 (pc' := 35) (L' := [some (.ref q0), some (.int x1), some (.int x2)]) (st' := [.int (3 : Int32), .int x2]) rfl ?_
            by_cases c_4529 : (3 : Int32) ≤ x2
            · rw [if_pos c_4529] at e
              refine Rn.bt hT rfl rfl rfl (decide_eq_true c_4529) ?_
              refine Rn.n hT 1 (pc' := 50) (L' := [some (.ref q0), some (.int x1), some (.int x2)]) (st' := [.ref q0]) rfl ?_
              obtain ⟨v_4530, e_4531, e⟩ := Option.bind_eq_some_iff.mp e
              refine Rn.hp hT rfl rfl (gR_hp e_4531) ?_
              obtain ⟨v_4532, e_4533, e⟩ := Option.bind_eq_some_iff.mp e
              refine Rn.hp hT rfl rfl (gR_hp e_4533) ?_
              obtain ⟨_, e_4535, e⟩ := Option.bind_eq_some_iff.mp e
              obtain ⟨v_4536, e_4534, e⟩ := Option.bind_eq_some_iff.mp e
              refine Rn.call hT rfl rfl rfl (Nat.le_of_ble_eq_true rfl) (rcv_v gX1_mismatches (by omega) e_4535) (rX1_mismatches (by omega) e_4534 ?_)
              show Rn d _ _ 59 [some (.ref q0), some (.int x1), some (.int x2)] [.int v_4536] h_4527 Q
              refine Rn.n hT 1 (pc' := 60) (L' := [some (.ref q0), some (.int x1), some (.int x2)]) (st' := [.ref q0, .int v_4536]) rfl ?_
              obtain ⟨v_4537, e_4538, e⟩ := Option.bind_eq_some_iff.mp e
              refine Rn.hp hT rfl rfl (gR_hp e_4538) ?_
              obtain ⟨v_4539, e_4540, e⟩ := Option.bind_eq_some_iff.mp e
              refine Rn.hp hT rfl rfl (gR_hp e_4540) ?_
              refine Rn.n hT 1 (pc' := 67) (L' := [some (.ref q0), some (.int x1), some (.int x2)]) (st' := [.ref q0, .ref v_4539, .int v_4536]) rfl ?_
              obtain ⟨v_4541, e_4542, e⟩ := Option.bind_eq_some_iff.mp e
              refine Rn.hp hT rfl rfl (gR_hp e_4542) ?_
              refine Rn.n hT 1 (pc' := 71) (L' := [some (.ref q0), some (.int x1), some (.int x2)]) (st' := [.int x1, .ref v_4541, .ref v_4539, .int v_4536]) rfl ?_
              obtain ⟨v_4543, e_4544, e⟩ := Option.bind_eq_some_iff.mp e
              refine Rn.hp hT rfl rfl (aI_hp e_4544) ?_
              obtain ⟨_, e_4546, e⟩ := Option.bind_eq_some_iff.mp e
              obtain ⟨⟨v_4547, h_4548⟩, e_4545, e⟩ := Option.bind_eq_some_iff.mp e
              try dsimp only at e
              try dsimp only at e
              refine Rn.call hT rfl rfl rfl (Nat.le_of_ble_eq_true rfl) (rcv_v gX1_gain (by omega) e_4546) (rX1_gain (by omega) e_4545 ?_)
              show Rn d _ _ 75 [some (.ref q0), some (.int x1), some (.int x2)] [.int v_4547, .int v_4536] h_4548 Q
              refine Rn.n hT 1 (pc' := 76) (L' := [some (.ref q0), some (.int x1), some (.int x2)]) (st' := [.int (v_4536 + v_4547)]) rfl ?_
              obtain rfl := Option.some.inj e
              exact Rn.ret hT rfl rfl rfl hq
            · rw [if_neg c_4529] at e
              refine Rn.bf hT rfl rfl rfl (decide_eq_false c_4529) ?_
              refine Rn.n hT 1 (pc' := 39) (L' := [some (.ref q0), some (.int x1), some (.int x2)]) (st' := [.ref q0]) rfl ?_
              obtain ⟨v_4550, e_4551, e⟩ := Option.bind_eq_some_iff.mp e
              refine Rn.hp hT rfl rfl (gR_hp e_4551) ?_
              refine Rn.n hT 1 (pc' := 43) (L' := [some (.ref q0), some (.int x1), some (.int x2)]) (st' := [.int x1, .ref v_4550]) rfl ?_
              obtain ⟨v_4552, e_4553, e⟩ := Option.bind_eq_some_iff.mp e
              refine Rn.hp hT rfl rfl (aI_hp e_4553) ?_
              refine Rn.n hT 1 (pc' := 45) (L' := [some (.ref q0), some (.int x1), some (.int x2)]) (st' := [.int x2, .int v_4552]) rfl ?_
              obtain ⟨v_4555, e_4554, e⟩ := Option.bind_eq_some_iff.mp e
              refine Rn.call hT rfl rfl rfl (Nat.le_of_ble_eq_true rfl) rfl (rX11_partOf (by omega) e_4554 ?_)
              show Rn d _ _ 48 [some (.ref q0), some (.int x1), some (.int x2)] [.int v_4555] h_4527 Q
              obtain rfl := Option.some.inj e
              exact Rn.ret hT rfl rfl rfl hq
          · rw [if_neg c_4528] at e
            refine Rn.bf hT rfl rfl rfl (decide_eq_false c_4528) ?_
            exact Rn.weak (ll_n (ll_n (ll_n ll_e))) (rX11_choice_b31 hd hq e)
set_option maxRecDepth 10000 in
theorem hX11_draft : iv_Tb 161 tX11_draft := iv_tb_of (m := mX11_draft) rfl
set_option maxRecDepth 10000 in
theorem gX11_draft : PG.2 161 = some mX11_draft := iv_pi_of (t := tX11_draft) rfl (by decide)
def fX11_draft_b19 (N : Nat) (h : iv_H)   : Option (Int32 × iv_H) := (some ((-1 : Int32), h))
set_option maxRecDepth 10000 in
set_option maxHeartbeats 4000000 in
theorem rX11_draft_b19 {d N : Nat} (hd : 2 ≤ d) {h : iv_H}   {r : Int32 × iv_H} {Q : Option Value → iv_H → Prop} (hq : Q (some (.int r.1)) r.2) (e : fX11_draft_b19 N h   = some r) : Rn d 161 (some .int) 19 [none, none] [] h Q := by
  have hT := hX11_draft
  unfold fX11_draft_b19 at e
  refine Rn.n hT 1 (pc' := 20) (L' := [none, none]) (st' := [.int (-1 : Int32)]) rfl ?_
  obtain rfl := Option.some.inj e
  exact Rn.ret hT rfl rfl rfl hq
def fX11_draft (N : Nat) (h : iv_H) (q0 : Nat) (x1 : Int32) : Option (Int32 × iv_H) := ((gR h 11 4 q0).bind fun v_4557 => ((gI h 2 0 v_4557).bind fun v_4559 => (if v_4559 = 0 then (fX11_draft_b19 N h) else (if x1 < 0 then (fX11_draft_b19 N h) else (if x1 < (4 : Int32) then ((gR h 11 4 q0).bind fun v_4564 => ((gR h 11 4 q0).bind fun v_4566 => ((gR h 2 9 v_4566).bind fun v_4568 => ((cko h v_4564 2).bind fun _ => (fX2_keepDraft N h v_4564 x1 v_4568).bind fun h_4573 => ((gI h_4573 11 15 q0).bind fun v_4574 => ((pV h_4573 11 15 q0 (.int (v_4574 + (1 : Int32)))).bind fun h_4576 => ((gR h_4576 11 4 q0).bind fun v_4578 => ((gR h_4576 2 9 v_4578).bind fun v_4580 => ((cko h_4576 v_4580 1).bind fun _ => (fX1_mismatches N h_4576 v_4580).bind fun v_4584 => (some (v_4584, h_4576))))))))))) else (fX11_draft_b19 N h))))))
set_option maxRecDepth 10000 in
set_option maxHeartbeats 4000000 in
theorem rX11_draft {d N : Nat} (hd : 3 ≤ d) {h : iv_H} {q0 : Nat} {x1 : Int32} {r : Int32 × iv_H} {Q : Option Value → iv_H → Prop} (e : fX11_draft N h q0 x1 = some r) (hq : Q (some (.int r.1)) r.2) : Cl d 161 [.ref q0, .int x1] h Q := by
  obtain ⟨d, rfl⟩ : ∃ k, d = k + 1 := ⟨d - 1, by omega⟩
  have hd : 2 ≤ d := by omega
  have hT := hX11_draft
  unfold fX11_draft at e
  refine Cl.into (by decide) gX11_draft rfl ?_
  show Rn d 161 (some .int) 0 [some (.ref q0), some (.int x1)] [] h Q
  refine Rn.n hT 1 (pc' := 1) (L' := [some (.ref q0), some (.int x1)]) (st' := [.ref q0]) rfl ?_
  obtain ⟨v_4557, e_4558, e⟩ := Option.bind_eq_some_iff.mp e
  refine Rn.hp hT rfl rfl (gR_hp e_4558) ?_
  obtain ⟨v_4559, e_4560, e⟩ := Option.bind_eq_some_iff.mp e
  refine Rn.hp hT rfl rfl (gI_hp e_4560) ?_
  by_cases c_4561 : v_4559 = 0
  · rw [if_pos c_4561] at e
    refine Rn.bt hT rfl rfl rfl (decide_eq_true c_4561) ?_
    exact Rn.weak (ll_n (ll_n ll_e)) (rX11_draft_b19 hd hq e)
  · rw [if_neg c_4561] at e
    refine Rn.bf hT rfl rfl rfl (decide_eq_false c_4561) ?_
    refine Rn.n hT 1 (pc' := 11) (L' := [some (.ref q0), some (.int x1)]) (st' := [.int x1]) rfl ?_
    by_cases c_4562 : x1 < 0
    · rw [if_pos c_4562] at e
      refine Rn.bt hT rfl rfl rfl (decide_eq_true c_4562) ?_
      exact Rn.weak (ll_n (ll_n ll_e)) (rX11_draft_b19 hd hq e)
    · rw [if_neg c_4562] at e
      refine Rn.bf hT rfl rfl rfl (decide_eq_false c_4562) ?_
      refine Rn.n hT 2 (pc' := 16) (L' := [some (.ref q0), some (.int x1)]) (st' := [.int (4 : Int32), .int x1]) rfl ?_
      by_cases c_4563 : x1 < (4 : Int32)
      · rw [if_pos c_4563] at e
        refine Rn.bt hT rfl rfl rfl (decide_eq_true c_4563) ?_
        refine Rn.n hT 1 (pc' := 22) (L' := [some (.ref q0), some (.int x1)]) (st' := [.ref q0]) rfl ?_
        obtain ⟨v_4564, e_4565, e⟩ := Option.bind_eq_some_iff.mp e
        refine Rn.hp hT rfl rfl (gR_hp e_4565) ?_
        refine Rn.n hT 2 (pc' := 27) (L' := [some (.ref q0), some (.int x1)]) (st' := [.ref q0, .int x1, .ref v_4564]) rfl ?_
        obtain ⟨v_4566, e_4567, e⟩ := Option.bind_eq_some_iff.mp e
        refine Rn.hp hT rfl rfl (gR_hp e_4567) ?_
        obtain ⟨v_4568, e_4569, e⟩ := Option.bind_eq_some_iff.mp e
        refine Rn.hp hT rfl rfl (gR_hp e_4569) ?_
        obtain ⟨_, e_4571, e⟩ := Option.bind_eq_some_iff.mp e
        obtain ⟨h_4573, e_4570, e⟩ := Option.bind_eq_some_iff.mp e
        refine Rn.call hT rfl rfl rfl (Nat.le_of_ble_eq_true rfl) (rcv_v gX2_keepDraft (by omega) e_4571) (rX2_keepDraft (by omega) e_4570 ?_)
        show Rn d _ _ 36 [some (.ref q0), some (.int x1)] [] h_4573 Q
        refine Rn.n hT 2 (pc' := 38) (L' := [some (.ref q0), some (.int x1)]) (st' := [.ref q0, .ref q0]) rfl ?_
        obtain ⟨v_4574, e_4575, e⟩ := Option.bind_eq_some_iff.mp e
        refine Rn.hp hT rfl rfl (gI_hp e_4575) ?_
        refine Rn.n hT 2 (pc' := 43) (L' := [some (.ref q0), some (.int x1)]) (st' := [.int (v_4574 + (1 : Int32)), .ref q0]) rfl ?_
        obtain ⟨h_4576, e_4577, e⟩ := Option.bind_eq_some_iff.mp e
        refine Rn.hp hT rfl rfl (pV_hp rfl e_4577) ?_
        refine Rn.n hT 1 (pc' := 47) (L' := [some (.ref q0), some (.int x1)]) (st' := [.ref q0]) rfl ?_
        obtain ⟨v_4578, e_4579, e⟩ := Option.bind_eq_some_iff.mp e
        refine Rn.hp hT rfl rfl (gR_hp e_4579) ?_
        obtain ⟨v_4580, e_4581, e⟩ := Option.bind_eq_some_iff.mp e
        refine Rn.hp hT rfl rfl (gR_hp e_4581) ?_
        obtain ⟨_, e_4583, e⟩ := Option.bind_eq_some_iff.mp e
        obtain ⟨v_4584, e_4582, e⟩ := Option.bind_eq_some_iff.mp e
        refine Rn.call hT rfl rfl rfl (Nat.le_of_ble_eq_true rfl) (rcv_v gX1_mismatches (by omega) e_4583) (rX1_mismatches (by omega) e_4582 ?_)
        show Rn d _ _ 56 [some (.ref q0), some (.int x1)] [.int v_4584] h_4576 Q
        obtain rfl := Option.some.inj e
        exact Rn.ret hT rfl rfl rfl hq
      · rw [if_neg c_4563] at e
        refine Rn.bf hT rfl rfl rfl (decide_eq_false c_4563) ?_
        exact Rn.weak (ll_n (ll_n ll_e)) (rX11_draft_b19 hd hq e)
set_option maxRecDepth 10000 in
theorem hX11_redraw : iv_Tb 162 tX11_redraw := iv_tb_of (m := mX11_redraw) rfl
set_option maxRecDepth 10000 in
theorem gX11_redraw : PG.2 162 = some mX11_redraw := iv_pi_of (t := tX11_redraw) rfl (by decide)
def fX11_redraw_b47 (N : Nat) (h : iv_H)   : Option (Int32 × iv_H) := (some ((0 : Int32), h))
set_option maxRecDepth 10000 in
set_option maxHeartbeats 4000000 in
theorem rX11_redraw_b47 {d N : Nat} (hd : 5 ≤ d) {h : iv_H}   {r : Int32 × iv_H} {Q : Option Value → iv_H → Prop} (hq : Q (some (.int r.1)) r.2) (e : fX11_redraw_b47 N h   = some r) : Rn d 162 (some .boolean) 47 [none, none, none, none, none, none] [] h Q := by
  have hT := hX11_redraw
  unfold fX11_redraw_b47 at e
  refine Rn.n hT 1 (pc' := 48) (L' := [none, none, none, none, none, none]) (st' := [.int (0 : Int32)]) rfl ?_
  obtain rfl := Option.some.inj e
  exact Rn.ret hT rfl rfl rfl hq
def fX11_redraw (N : Nat) (h : iv_H) (q0 : Nat) (x1 : Int32) (x2 : Int32) (x3 : Int32) (x4 : Int32) : Option (Int32 × iv_H) := ((gR h 11 4 q0).bind fun v_4585 => ((cko h v_4585 2).bind fun _ => (fX2_walkOf N h v_4585 x2 x3 x4).bind fun v_4589 => ((gR h 11 4 q0).bind fun v_4590 => ((cko h v_4590 2).bind fun _ => (fX2_hasDraft N h v_4590 x1).bind fun v_4594 => (if v_4594 = 0 then (fX11_redraw_b47 N h) else (if v_4589 = (-1 : Int32) then (fX11_redraw_b47 N h) else ((gR h 11 11 q0).bind fun v_4597 => ((gR h 11 4 q0).bind fun v_4599 => ((cko h v_4597 10).bind fun _ => (fX10_redraws N h v_4597 v_4599 x1 v_4589).bind fun p_4620 => (fun (v_4603 : Int32) (h_4604 : iv_H) => (if v_4603 = 0 then (fX11_redraw_b47 N h_4604) else ((gR h_4604 11 4 q0).bind fun v_4606 => ((gR h_4604 11 11 q0).bind fun v_4608 => ((gR h_4604 10 0 v_4608).bind fun v_4610 => ((cko h_4604 v_4606 2).bind fun _ => (fX2_keepDraft N h_4604 v_4606 x1 v_4610).bind fun h_4615 => ((gI h_4615 11 15 q0).bind fun v_4616 => ((pV h_4615 11 15 q0 (.int (v_4616 + (1 : Int32)))).bind fun h_4618 => (some ((1 : Int32), h_4618)))))))))) p_4620.1 p_4620.2)))))))))
set_option maxRecDepth 10000 in
set_option maxHeartbeats 4000000 in
theorem rX11_redraw {d N : Nat} (hd : 6 ≤ d) {h : iv_H} {q0 : Nat} {x1 : Int32} {x2 : Int32} {x3 : Int32} {x4 : Int32} {r : Int32 × iv_H} {Q : Option Value → iv_H → Prop} (e : fX11_redraw N h q0 x1 x2 x3 x4 = some r) (hq : Q (some (.int r.1)) r.2) : Cl d 162 [.ref q0, .int x1, .int x2, .int x3, .int x4] h Q := by
  obtain ⟨d, rfl⟩ : ∃ k, d = k + 1 := ⟨d - 1, by omega⟩
  have hd : 5 ≤ d := by omega
  have hT := hX11_redraw
  unfold fX11_redraw at e
  refine Cl.into (by decide) gX11_redraw rfl ?_
  show Rn d 162 (some .boolean) 0 [some (.ref q0), some (.int x1), some (.int x2), some (.int x3), some (.int x4), none] [] h Q
  refine Rn.n hT 1 (pc' := 1) (L' := [some (.ref q0), some (.int x1), some (.int x2), some (.int x3), some (.int x4), none]) (st' := [.ref q0]) rfl ?_
  obtain ⟨v_4585, e_4586, e⟩ := Option.bind_eq_some_iff.mp e
  refine Rn.hp hT rfl rfl (gR_hp e_4586) ?_
  refine Rn.n hT 3 (pc' := 8) (L' := [some (.ref q0), some (.int x1), some (.int x2), some (.int x3), some (.int x4), none]) (st' := [.int x4, .int x3, .int x2, .ref v_4585]) rfl ?_
  obtain ⟨_, e_4588, e⟩ := Option.bind_eq_some_iff.mp e
  obtain ⟨v_4589, e_4587, e⟩ := Option.bind_eq_some_iff.mp e
  refine Rn.call hT rfl rfl rfl (Nat.le_of_ble_eq_true rfl) (rcv_v gX2_walkOf (by omega) e_4588) (rX2_walkOf (by omega) e_4587 ?_)
  show Rn d _ _ 11 [some (.ref q0), some (.int x1), some (.int x2), some (.int x3), some (.int x4), none] [.int v_4589] h Q
  refine Rn.n hT 2 (pc' := 14) (L' := [some (.ref q0), some (.int x1), some (.int x2), some (.int x3), some (.int x4), some (.int v_4589)]) (st' := [.ref q0]) rfl ?_
  obtain ⟨v_4590, e_4591, e⟩ := Option.bind_eq_some_iff.mp e
  refine Rn.hp hT rfl rfl (gR_hp e_4591) ?_
  refine Rn.n hT 1 (pc' := 18) (L' := [some (.ref q0), some (.int x1), some (.int x2), some (.int x3), some (.int x4), some (.int v_4589)]) (st' := [.int x1, .ref v_4590]) rfl ?_
  obtain ⟨_, e_4593, e⟩ := Option.bind_eq_some_iff.mp e
  obtain ⟨v_4594, e_4592, e⟩ := Option.bind_eq_some_iff.mp e
  refine Rn.call hT rfl rfl rfl (Nat.le_of_ble_eq_true rfl) (rcv_v gX2_hasDraft (by omega) e_4593) (rX2_hasDraft (by omega) e_4592 ?_)
  show Rn d _ _ 21 [some (.ref q0), some (.int x1), some (.int x2), some (.int x3), some (.int x4), some (.int v_4589)] [.int v_4594] h Q
  by_cases c_4595 : v_4594 = 0
  · rw [if_pos c_4595] at e
    refine Rn.bt hT rfl rfl rfl (decide_eq_true c_4595) ?_
    exact Rn.weak (ll_n (ll_n (ll_n (ll_n (ll_n (ll_n ll_e)))))) (rX11_redraw_b47 hd hq e)
  · rw [if_neg c_4595] at e
    refine Rn.bf hT rfl rfl rfl (decide_eq_false c_4595) ?_
    refine Rn.n hT 2 (pc' := 27) (L' := [some (.ref q0), some (.int x1), some (.int x2), some (.int x3), some (.int x4), some (.int v_4589)]) (st' := [.int (-1 : Int32), .int v_4589]) rfl ?_
    by_cases c_4596 : v_4589 = (-1 : Int32)
    · rw [if_pos c_4596] at e
      refine Rn.bt hT rfl rfl rfl (decide_eq_true c_4596) ?_
      exact Rn.weak (ll_n (ll_n (ll_n (ll_n (ll_n (ll_n ll_e)))))) (rX11_redraw_b47 hd hq e)
    · rw [if_neg c_4596] at e
      refine Rn.bf hT rfl rfl rfl (decide_eq_false c_4596) ?_
      refine Rn.n hT 1 (pc' := 31) (L' := [some (.ref q0), some (.int x1), some (.int x2), some (.int x3), some (.int x4), some (.int v_4589)]) (st' := [.ref q0]) rfl ?_
      obtain ⟨v_4597, e_4598, e⟩ := Option.bind_eq_some_iff.mp e
      refine Rn.hp hT rfl rfl (gR_hp e_4598) ?_
      refine Rn.n hT 1 (pc' := 35) (L' := [some (.ref q0), some (.int x1), some (.int x2), some (.int x3), some (.int x4), some (.int v_4589)]) (st' := [.ref q0, .ref v_4597]) rfl ?_
      obtain ⟨v_4599, e_4600, e⟩ := Option.bind_eq_some_iff.mp e
      refine Rn.hp hT rfl rfl (gR_hp e_4600) ?_
      refine Rn.n hT 2 (pc' := 41) (L' := [some (.ref q0), some (.int x1), some (.int x2), some (.int x3), some (.int x4), some (.int v_4589)]) (st' := [.int v_4589, .int x1, .ref v_4599, .ref v_4597]) rfl ?_
      obtain ⟨_, e_4602, e⟩ := Option.bind_eq_some_iff.mp e
      obtain ⟨⟨v_4603, h_4604⟩, e_4601, e⟩ := Option.bind_eq_some_iff.mp e
      try dsimp only at e
      try dsimp only at e
      refine Rn.call hT rfl rfl rfl (Nat.le_of_ble_eq_true rfl) (rcv_v gX10_redraws (by omega) e_4602) (rX10_redraws (by omega) e_4601 ?_)
      show Rn d _ _ 44 [some (.ref q0), some (.int x1), some (.int x2), some (.int x3), some (.int x4), some (.int v_4589)] [.int v_4603] h_4604 Q
      by_cases c_4605 : v_4603 = 0
      · rw [if_pos c_4605] at e
        refine Rn.bf hT rfl rfl rfl (decide_eq_false (fun z => z c_4605)) ?_
        exact Rn.weak (ll_n (ll_n (ll_n (ll_n (ll_n (ll_n ll_e)))))) (rX11_redraw_b47 hd hq e)
      · rw [if_neg c_4605] at e
        refine Rn.bt hT rfl rfl rfl (decide_eq_true c_4605) ?_
        refine Rn.n hT 1 (pc' := 50) (L' := [some (.ref q0), some (.int x1), some (.int x2), some (.int x3), some (.int x4), some (.int v_4589)]) (st' := [.ref q0]) rfl ?_
        obtain ⟨v_4606, e_4607, e⟩ := Option.bind_eq_some_iff.mp e
        refine Rn.hp hT rfl rfl (gR_hp e_4607) ?_
        refine Rn.n hT 2 (pc' := 55) (L' := [some (.ref q0), some (.int x1), some (.int x2), some (.int x3), some (.int x4), some (.int v_4589)]) (st' := [.ref q0, .int x1, .ref v_4606]) rfl ?_
        obtain ⟨v_4608, e_4609, e⟩ := Option.bind_eq_some_iff.mp e
        refine Rn.hp hT rfl rfl (gR_hp e_4609) ?_
        obtain ⟨v_4610, e_4611, e⟩ := Option.bind_eq_some_iff.mp e
        refine Rn.hp hT rfl rfl (gR_hp e_4611) ?_
        obtain ⟨_, e_4613, e⟩ := Option.bind_eq_some_iff.mp e
        obtain ⟨h_4615, e_4612, e⟩ := Option.bind_eq_some_iff.mp e
        refine Rn.call hT rfl rfl rfl (Nat.le_of_ble_eq_true rfl) (rcv_v gX2_keepDraft (by omega) e_4613) (rX2_keepDraft (by omega) e_4612 ?_)
        show Rn d _ _ 64 [some (.ref q0), some (.int x1), some (.int x2), some (.int x3), some (.int x4), some (.int v_4589)] [] h_4615 Q
        refine Rn.n hT 2 (pc' := 66) (L' := [some (.ref q0), some (.int x1), some (.int x2), some (.int x3), some (.int x4), some (.int v_4589)]) (st' := [.ref q0, .ref q0]) rfl ?_
        obtain ⟨v_4616, e_4617, e⟩ := Option.bind_eq_some_iff.mp e
        refine Rn.hp hT rfl rfl (gI_hp e_4617) ?_
        refine Rn.n hT 2 (pc' := 71) (L' := [some (.ref q0), some (.int x1), some (.int x2), some (.int x3), some (.int x4), some (.int v_4589)]) (st' := [.int (v_4616 + (1 : Int32)), .ref q0]) rfl ?_
        obtain ⟨h_4618, e_4619, e⟩ := Option.bind_eq_some_iff.mp e
        refine Rn.hp hT rfl rfl (pV_hp rfl e_4619) ?_
        refine Rn.n hT 1 (pc' := 75) (L' := [some (.ref q0), some (.int x1), some (.int x2), some (.int x3), some (.int x4), some (.int v_4589)]) (st' := [.int (1 : Int32)]) rfl ?_
        obtain rfl := Option.some.inj e
        exact Rn.ret hT rfl rfl rfl hq
set_option maxRecDepth 10000 in
theorem hX11_drafted : iv_Tb 163 tX11_drafted := iv_tb_of (m := mX11_drafted) rfl
set_option maxRecDepth 10000 in
theorem gX11_drafted : PG.2 163 = some mX11_drafted := iv_pi_of (t := tX11_drafted) rfl (by decide)
def fX11_drafted_b31 (N : Nat) (h : iv_H)   : Option (Int32) := (some (-1 : Int32))
set_option maxRecDepth 10000 in
set_option maxHeartbeats 4000000 in
theorem rX11_drafted_b31 {d N : Nat} (hd : 1 ≤ d) {h : iv_H}   {r : Int32} {Q : Option Value → iv_H → Prop} (hq : Q (some (.int r)) h) (e : fX11_drafted_b31 N h   = some r) : Rn d 163 (some .int) 31 [none, none, none, none] [] h Q := by
  have hT := hX11_drafted
  unfold fX11_drafted_b31 at e
  refine Rn.n hT 1 (pc' := 32) (L' := [none, none, none, none]) (st' := [.int (-1 : Int32)]) rfl ?_
  obtain rfl := Option.some.inj e
  exact Rn.ret hT rfl rfl rfl hq
def fX11_drafted_b58 (N : Nat) (h : iv_H)  (s0 : Int32) : Option (Int32) := (some s0)
set_option maxRecDepth 10000 in
set_option maxHeartbeats 4000000 in
theorem rX11_drafted_b58 {d N : Nat} (hd : 1 ≤ d) {h : iv_H}  {s0 : Int32} {r : Int32} {Q : Option Value → iv_H → Prop} (hq : Q (some (.int r)) h) (e : fX11_drafted_b58 N h  s0 = some r) : Rn d 163 (some .int) 58 [none, none, none, none] [.int s0] h Q := by
  have hT := hX11_drafted
  unfold fX11_drafted_b58 at e
  obtain rfl := Option.some.inj e
  exact Rn.ret hT rfl rfl rfl hq
def fX11_drafted (N : Nat) (h : iv_H) (q0 : Nat) (x1 : Int32) (x2 : Int32) (x3 : Int32) : Option (Int32) := ((gR h 11 4 q0).bind fun v_4621 => ((cko h v_4621 2).bind fun _ => (fX2_hasDraft N h v_4621 x1).bind fun v_4625 => (if v_4625 = 0 then (fX11_drafted_b31 N h) else ((gR h 11 4 q0).bind fun v_4627 => ((cko h v_4627 2).bind fun _ => (fX2_isRoom N h v_4627 x2).bind fun v_4631 => (if v_4631 = 0 then (fX11_drafted_b31 N h) else (if x3 < 0 then (fX11_drafted_b31 N h) else (if x3 ≤ (1 : Int32) then (if x3 = 0 then ((gR h 11 4 q0).bind fun v_4641 => ((cko h v_4641 2).bind fun _ => (fX2_draftCell N h v_4641 x1 x2).bind fun v_4645 => (fX11_drafted_b58 N h v_4645))) else ((gR h 11 4 q0).bind fun v_4636 => ((cko h v_4636 2).bind fun _ => (fX2_draftTurn N h v_4636 x1 x2).bind fun v_4640 => (fX11_drafted_b58 N h v_4640)))) else (fX11_drafted_b31 N h)))))))))
set_option maxRecDepth 10000 in
set_option maxHeartbeats 4000000 in
theorem rX11_drafted {d N : Nat} (hd : 2 ≤ d) {h : iv_H} {q0 : Nat} {x1 : Int32} {x2 : Int32} {x3 : Int32} {r : Int32} {Q : Option Value → iv_H → Prop} (e : fX11_drafted N h q0 x1 x2 x3 = some r) (hq : Q (some (.int r)) h) : Cl d 163 [.ref q0, .int x1, .int x2, .int x3] h Q := by
  obtain ⟨d, rfl⟩ : ∃ k, d = k + 1 := ⟨d - 1, by omega⟩
  have hd : 1 ≤ d := by omega
  have hT := hX11_drafted
  unfold fX11_drafted at e
  refine Cl.into (by decide) gX11_drafted rfl ?_
  show Rn d 163 (some .int) 0 [some (.ref q0), some (.int x1), some (.int x2), some (.int x3)] [] h Q
  refine Rn.n hT 1 (pc' := 1) (L' := [some (.ref q0), some (.int x1), some (.int x2), some (.int x3)]) (st' := [.ref q0]) rfl ?_
  obtain ⟨v_4621, e_4622, e⟩ := Option.bind_eq_some_iff.mp e
  refine Rn.hp hT rfl rfl (gR_hp e_4622) ?_
  refine Rn.n hT 1 (pc' := 5) (L' := [some (.ref q0), some (.int x1), some (.int x2), some (.int x3)]) (st' := [.int x1, .ref v_4621]) rfl ?_
  obtain ⟨_, e_4624, e⟩ := Option.bind_eq_some_iff.mp e
  obtain ⟨v_4625, e_4623, e⟩ := Option.bind_eq_some_iff.mp e
  refine Rn.call hT rfl rfl rfl (Nat.le_of_ble_eq_true rfl) (rcv_v gX2_hasDraft (by omega) e_4624) (rX2_hasDraft (by omega) e_4623 ?_)
  show Rn d _ _ 8 [some (.ref q0), some (.int x1), some (.int x2), some (.int x3)] [.int v_4625] h Q
  by_cases c_4626 : v_4625 = 0
  · rw [if_pos c_4626] at e
    refine Rn.bt hT rfl rfl rfl (decide_eq_true c_4626) ?_
    exact Rn.weak (ll_n (ll_n (ll_n (ll_n ll_e)))) (rX11_drafted_b31 hd hq e)
  · rw [if_neg c_4626] at e
    refine Rn.bf hT rfl rfl rfl (decide_eq_false c_4626) ?_
    refine Rn.n hT 1 (pc' := 12) (L' := [some (.ref q0), some (.int x1), some (.int x2), some (.int x3)]) (st' := [.ref q0]) rfl ?_
    obtain ⟨v_4627, e_4628, e⟩ := Option.bind_eq_some_iff.mp e
    refine Rn.hp hT rfl rfl (gR_hp e_4628) ?_
    refine Rn.n hT 1 (pc' := 16) (L' := [some (.ref q0), some (.int x1), some (.int x2), some (.int x3)]) (st' := [.int x2, .ref v_4627]) rfl ?_
    obtain ⟨_, e_4630, e⟩ := Option.bind_eq_some_iff.mp e
    obtain ⟨v_4631, e_4629, e⟩ := Option.bind_eq_some_iff.mp e
    refine Rn.call hT rfl rfl rfl (Nat.le_of_ble_eq_true rfl) (rcv_v gX2_isRoom (by omega) e_4630) (rX2_isRoom (by omega) e_4629 ?_)
    show Rn d _ _ 19 [some (.ref q0), some (.int x1), some (.int x2), some (.int x3)] [.int v_4631] h Q
    by_cases c_4632 : v_4631 = 0
    · rw [if_pos c_4632] at e
      refine Rn.bt hT rfl rfl rfl (decide_eq_true c_4632) ?_
      exact Rn.weak (ll_n (ll_n (ll_n (ll_n ll_e)))) (rX11_drafted_b31 hd hq e)
    · rw [if_neg c_4632] at e
      refine Rn.bf hT rfl rfl rfl (decide_eq_false c_4632) ?_
      refine Rn.n hT 1 (pc' := 23) (L' := [some (.ref q0), some (.int x1), some (.int x2), some (.int x3)]) (st' := [.int x3]) rfl ?_
      by_cases c_4633 : x3 < 0
      · rw [if_pos c_4633] at e
        refine Rn.bt hT rfl rfl rfl (decide_eq_true c_4633) ?_
        exact Rn.weak (ll_n (ll_n (ll_n (ll_n ll_e)))) (rX11_drafted_b31 hd hq e)
      · rw [if_neg c_4633] at e
        refine Rn.bf hT rfl rfl rfl (decide_eq_false c_4633) ?_
        refine Rn.n hT 2 (pc' := 28) (L' := [some (.ref q0), some (.int x1), some (.int x2), some (.int x3)]) (st' := [.int (1 : Int32), .int x3]) rfl ?_
        by_cases c_4634 : x3 ≤ (1 : Int32)
        · rw [if_pos c_4634] at e
          refine Rn.bt hT rfl rfl rfl (decide_eq_true c_4634) ?_
          refine Rn.n hT 1 (pc' := 34) (L' := [some (.ref q0), some (.int x1), some (.int x2), some (.int x3)]) (st' := [.int x3]) rfl ?_
          by_cases c_4635 : x3 = 0
          · rw [if_pos c_4635] at e
            refine Rn.bf hT rfl rfl rfl (decide_eq_false (fun z => z c_4635)) ?_
            refine Rn.n hT 1 (pc' := 38) (L' := [some (.ref q0), some (.int x1), some (.int x2), some (.int x3)]) (st' := [.ref q0]) rfl ?_
            obtain ⟨v_4641, e_4642, e⟩ := Option.bind_eq_some_iff.mp e
            refine Rn.hp hT rfl rfl (gR_hp e_4642) ?_
            refine Rn.n hT 2 (pc' := 43) (L' := [some (.ref q0), some (.int x1), some (.int x2), some (.int x3)]) (st' := [.int x2, .int x1, .ref v_4641]) rfl ?_
            obtain ⟨_, e_4644, e⟩ := Option.bind_eq_some_iff.mp e
            obtain ⟨v_4645, e_4643, e⟩ := Option.bind_eq_some_iff.mp e
            refine Rn.call hT rfl rfl rfl (Nat.le_of_ble_eq_true rfl) (rcv_v gX2_draftCell (by omega) e_4644) (rX2_draftCell (by omega) e_4643 ?_)
            show Rn d _ _ 46 [some (.ref q0), some (.int x1), some (.int x2), some (.int x3)] [.int v_4645] h Q
            refine Rn.n hT 1 (pc' := 58) (L' := [some (.ref q0), some (.int x1), some (.int x2), some (.int x3)]) (st' := [.int v_4645]) rfl ?_
            exact Rn.weak (ll_n (ll_n (ll_n (ll_n ll_e)))) (rX11_drafted_b58 hd hq e)
          · rw [if_neg c_4635] at e
            refine Rn.bt hT rfl rfl rfl (decide_eq_true c_4635) ?_
            refine Rn.n hT 1 (pc' := 50) (L' := [some (.ref q0), some (.int x1), some (.int x2), some (.int x3)]) (st' := [.ref q0]) rfl ?_
            obtain ⟨v_4636, e_4637, e⟩ := Option.bind_eq_some_iff.mp e
            refine Rn.hp hT rfl rfl (gR_hp e_4637) ?_
            refine Rn.n hT 2 (pc' := 55) (L' := [some (.ref q0), some (.int x1), some (.int x2), some (.int x3)]) (st' := [.int x2, .int x1, .ref v_4636]) rfl ?_
            obtain ⟨_, e_4639, e⟩ := Option.bind_eq_some_iff.mp e
            obtain ⟨v_4640, e_4638, e⟩ := Option.bind_eq_some_iff.mp e
            refine Rn.call hT rfl rfl rfl (Nat.le_of_ble_eq_true rfl) (rcv_v gX2_draftTurn (by omega) e_4639) (rX2_draftTurn (by omega) e_4638 ?_)
            show Rn d _ _ 58 [some (.ref q0), some (.int x1), some (.int x2), some (.int x3)] [.int v_4640] h Q
            exact Rn.weak (ll_n (ll_n (ll_n (ll_n ll_e)))) (rX11_drafted_b58 hd hq e)
        · rw [if_neg c_4634] at e
          refine Rn.bf hT rfl rfl rfl (decide_eq_false c_4634) ?_
          exact Rn.weak (ll_n (ll_n (ll_n (ll_n ll_e)))) (rX11_drafted_b31 hd hq e)
set_option maxRecDepth 10000 in
theorem hX11_nights : iv_Tb 164 tX11_nights := iv_tb_of (m := mX11_nights) rfl
set_option maxRecDepth 10000 in
theorem gX11_nights : PG.2 164 = some mX11_nights := iv_pi_of (t := tX11_nights) rfl (by decide)
def fX11_nights (N : Nat) (h : iv_H) (q0 : Nat) (x1 : Int32) : Option (Int32 × iv_H) := ((gR h 11 4 q0).bind fun v_4646 => ((cko h v_4646 2).bind fun _ => (fX2_hasDraft N h v_4646 x1).bind fun v_4650 => (if v_4650 = 0 then (some ((-1 : Int32), h)) else ((gR h 11 10 q0).bind fun v_4652 => ((gR h 11 4 q0).bind fun v_4654 => ((cko h q0 11).bind fun _ => (fX11_ruleInForce N h q0).bind fun v_4658 => ((gI h 11 15 q0).bind fun v_4659 => ((cko h v_4652 9).bind fun _ => (fX9_ask N h v_4652 v_4654 v_4658 x1 v_4659).bind fun h_4664 => ((gR h_4664 11 10 q0).bind fun v_4665 => ((gI h_4664 9 11 v_4665).bind fun v_4667 => (some (v_4667, h_4664))))))))))))
set_option maxRecDepth 10000 in
set_option maxHeartbeats 4000000 in
theorem rX11_nights {d N : Nat} (hd : 8 ≤ d) {h : iv_H} {q0 : Nat} {x1 : Int32} {r : Int32 × iv_H} {Q : Option Value → iv_H → Prop} (e : fX11_nights N h q0 x1 = some r) (hq : Q (some (.int r.1)) r.2) : Cl d 164 [.ref q0, .int x1] h Q := by
  obtain ⟨d, rfl⟩ : ∃ k, d = k + 1 := ⟨d - 1, by omega⟩
  have hd : 7 ≤ d := by omega
  have hT := hX11_nights
  unfold fX11_nights at e
  refine Cl.into (by decide) gX11_nights rfl ?_
  show Rn d 164 (some .int) 0 [some (.ref q0), some (.int x1)] [] h Q
  refine Rn.n hT 1 (pc' := 1) (L' := [some (.ref q0), some (.int x1)]) (st' := [.ref q0]) rfl ?_
  obtain ⟨v_4646, e_4647, e⟩ := Option.bind_eq_some_iff.mp e
  refine Rn.hp hT rfl rfl (gR_hp e_4647) ?_
  refine Rn.n hT 1 (pc' := 5) (L' := [some (.ref q0), some (.int x1)]) (st' := [.int x1, .ref v_4646]) rfl ?_
  obtain ⟨_, e_4649, e⟩ := Option.bind_eq_some_iff.mp e
  obtain ⟨v_4650, e_4648, e⟩ := Option.bind_eq_some_iff.mp e
  refine Rn.call hT rfl rfl rfl (Nat.le_of_ble_eq_true rfl) (rcv_v gX2_hasDraft (by omega) e_4649) (rX2_hasDraft (by omega) e_4648 ?_)
  show Rn d _ _ 8 [some (.ref q0), some (.int x1)] [.int v_4650] h Q
  by_cases c_4651 : v_4650 = 0
  · rw [if_pos c_4651] at e
    refine Rn.bf hT rfl rfl rfl (decide_eq_false (fun z => z c_4651)) ?_
    refine Rn.n hT 1 (pc' := 12) (L' := [some (.ref q0), some (.int x1)]) (st' := [.int (-1 : Int32)]) rfl ?_
    obtain rfl := Option.some.inj e
    exact Rn.ret hT rfl rfl rfl hq
  · rw [if_neg c_4651] at e
    refine Rn.bt hT rfl rfl rfl (decide_eq_true c_4651) ?_
    refine Rn.n hT 1 (pc' := 14) (L' := [some (.ref q0), some (.int x1)]) (st' := [.ref q0]) rfl ?_
    obtain ⟨v_4652, e_4653, e⟩ := Option.bind_eq_some_iff.mp e
    refine Rn.hp hT rfl rfl (gR_hp e_4653) ?_
    refine Rn.n hT 1 (pc' := 18) (L' := [some (.ref q0), some (.int x1)]) (st' := [.ref q0, .ref v_4652]) rfl ?_
    obtain ⟨v_4654, e_4655, e⟩ := Option.bind_eq_some_iff.mp e
    refine Rn.hp hT rfl rfl (gR_hp e_4655) ?_
    refine Rn.n hT 1 (pc' := 22) (L' := [some (.ref q0), some (.int x1)]) (st' := [.ref q0, .ref v_4654, .ref v_4652]) rfl ?_
    obtain ⟨_, e_4657, e⟩ := Option.bind_eq_some_iff.mp e
    obtain ⟨v_4658, e_4656, e⟩ := Option.bind_eq_some_iff.mp e
    refine Rn.call hT rfl rfl rfl (Nat.le_of_ble_eq_true rfl) (rcv_v gX11_ruleInForce (by omega) e_4657) (rX11_ruleInForce (by omega) e_4656 ?_)
    show Rn d _ _ 25 [some (.ref q0), some (.int x1)] [iv_rf v_4658, .ref v_4654, .ref v_4652] h Q
    refine Rn.n hT 2 (pc' := 27) (L' := [some (.ref q0), some (.int x1)]) (st' := [.ref q0, .int x1, iv_rf v_4658, .ref v_4654, .ref v_4652]) rfl ?_
    obtain ⟨v_4659, e_4660, e⟩ := Option.bind_eq_some_iff.mp e
    refine Rn.hp hT rfl rfl (gI_hp e_4660) ?_
    obtain ⟨_, e_4662, e⟩ := Option.bind_eq_some_iff.mp e
    obtain ⟨h_4664, e_4661, e⟩ := Option.bind_eq_some_iff.mp e
    refine Rn.call hT rfl rfl rfl (Nat.le_of_ble_eq_true rfl) (rcv_v gX9_ask (by omega) e_4662) (rX9_ask (by omega) e_4661 ?_)
    show Rn d _ _ 33 [some (.ref q0), some (.int x1)] [] h_4664 Q
    refine Rn.n hT 1 (pc' := 34) (L' := [some (.ref q0), some (.int x1)]) (st' := [.ref q0]) rfl ?_
    obtain ⟨v_4665, e_4666, e⟩ := Option.bind_eq_some_iff.mp e
    refine Rn.hp hT rfl rfl (gR_hp e_4666) ?_
    obtain ⟨v_4667, e_4668, e⟩ := Option.bind_eq_some_iff.mp e
    refine Rn.hp hT rfl rfl (gI_hp e_4668) ?_
    obtain rfl := Option.some.inj e
    exact Rn.ret hT rfl rfl rfl hq
set_option maxRecDepth 10000 in
theorem hX11_row : iv_Tb 165 tX11_row := iv_tb_of (m := mX11_row) rfl
set_option maxRecDepth 10000 in
theorem gX11_row : PG.2 165 = some mX11_row := iv_pi_of (t := tX11_row) rfl (by decide)
def fX11_row_b24 (N : Nat) (h : iv_H)   : Option (Int32 × iv_H) := (some ((-1 : Int32), h))
set_option maxRecDepth 10000 in
set_option maxHeartbeats 4000000 in
theorem rX11_row_b24 {d N : Nat} (hd : 7 ≤ d) {h : iv_H}   {r : Int32 × iv_H} {Q : Option Value → iv_H → Prop} (hq : Q (some (.int r.1)) r.2) (e : fX11_row_b24 N h   = some r) : Rn d 165 (some .int) 24 [none, none, none, none] [] h Q := by
  have hT := hX11_row
  unfold fX11_row_b24 at e
  refine Rn.n hT 1 (pc' := 25) (L' := [none, none, none, none]) (st' := [.int (-1 : Int32)]) rfl ?_
  obtain rfl := Option.some.inj e
  exact Rn.ret hT rfl rfl rfl hq
def fX11_row_b105 (N : Nat) (h : iv_H)  (s0 : Int32) : Option (Int32 × iv_H) := (some (s0, h))
set_option maxRecDepth 10000 in
set_option maxHeartbeats 4000000 in
theorem rX11_row_b105 {d N : Nat} (hd : 7 ≤ d) {h : iv_H}  {s0 : Int32} {r : Int32 × iv_H} {Q : Option Value → iv_H → Prop} (hq : Q (some (.int r.1)) r.2) (e : fX11_row_b105 N h  s0 = some r) : Rn d 165 (some .int) 105 [none, none, none, none] [.int s0] h Q := by
  have hT := hX11_row
  unfold fX11_row_b105 at e
  obtain rfl := Option.some.inj e
  exact Rn.ret hT rfl rfl rfl hq
def fX11_row_b103 (N : Nat) (h : iv_H)   : Option (Int32 × iv_H) := (fX11_row_b105 N h (-2 : Int32))
set_option maxRecDepth 10000 in
set_option maxHeartbeats 4000000 in
theorem rX11_row_b103 {d N : Nat} (hd : 7 ≤ d) {h : iv_H}   {r : Int32 × iv_H} {Q : Option Value → iv_H → Prop} (hq : Q (some (.int r.1)) r.2) (e : fX11_row_b103 N h   = some r) : Rn d 165 (some .int) 103 [none, none, none, none] [] h Q := by
  have hT := hX11_row
  unfold fX11_row_b103 at e
  refine Rn.n hT 1 (pc' := 105) (L' := [none, none, none, none]) (st' := [.int (-2 : Int32)]) rfl ?_
  exact Rn.weak (ll_n (ll_n (ll_n (ll_n ll_e)))) (rX11_row_b105 hd hq e)
def fX11_row (N : Nat) (h : iv_H) (q0 : Nat) (x1 : Int32) (x2 : Int32) (x3 : Int32) : Option (Int32 × iv_H) := ((gR h 11 4 q0).bind fun v_4669 => ((cko h v_4669 2).bind fun _ => (fX2_hasDraft N h v_4669 x1).bind fun v_4673 => (if v_4673 = 0 then (fX11_row_b24 N h) else (if x2 < 0 then (fX11_row_b24 N h) else (if x3 < 0 then (fX11_row_b24 N h) else (if x3 ≤ (2 : Int32) then ((gR h 11 10 q0).bind fun v_4678 => ((gR h 11 4 q0).bind fun v_4680 => ((cko h q0 11).bind fun _ => (fX11_ruleInForce N h q0).bind fun v_4684 => ((gI h 11 15 q0).bind fun v_4685 => ((cko h v_4678 9).bind fun _ => (fX9_ask N h v_4678 v_4680 v_4684 x1 v_4685).bind fun h_4690 => ((gR h_4690 11 10 q0).bind fun v_4691 => ((gI h_4690 9 11 v_4691).bind fun v_4693 => (if 0 ≤ v_4693 then ((gR h_4690 11 10 q0).bind fun v_4696 => ((gI h_4690 9 11 v_4696).bind fun v_4698 => (if v_4698 ≤ x2 then (fX11_row_b103 N h_4690) else ((gR h_4690 11 10 q0).bind fun v_4701 => ((gR h_4690 9 12 v_4701).bind fun v_4703 => ((aL h_4690 v_4703).bind fun v_4705 => (if v_4705 ≤ x2 then (fX11_row_b103 N h_4690) else ((gR h_4690 11 10 q0).bind fun v_4708 => ((gR h_4690 9 12 v_4708).bind fun v_4710 => ((aI h_4690 v_4710 x2).bind fun v_4712 => ((fX11_partOf N h_4690 v_4712 x3).bind fun v_4715 => (fX11_row_b105 N h_4690 v_4715)))))))))))) else ((gR h_4690 11 10 q0).bind fun v_4716 => ((gI h_4690 9 11 v_4716).bind fun v_4718 => (some (v_4718, h_4690)))))))))))) else (fX11_row_b24 N h)))))))
set_option maxRecDepth 10000 in
set_option maxHeartbeats 4000000 in
theorem rX11_row {d N : Nat} (hd : 8 ≤ d) {h : iv_H} {q0 : Nat} {x1 : Int32} {x2 : Int32} {x3 : Int32} {r : Int32 × iv_H} {Q : Option Value → iv_H → Prop} (e : fX11_row N h q0 x1 x2 x3 = some r) (hq : Q (some (.int r.1)) r.2) : Cl d 165 [.ref q0, .int x1, .int x2, .int x3] h Q := by
  obtain ⟨d, rfl⟩ : ∃ k, d = k + 1 := ⟨d - 1, by omega⟩
  have hd : 7 ≤ d := by omega
  have hT := hX11_row
  unfold fX11_row at e
  refine Cl.into (by decide) gX11_row rfl ?_
  show Rn d 165 (some .int) 0 [some (.ref q0), some (.int x1), some (.int x2), some (.int x3)] [] h Q
  refine Rn.n hT 1 (pc' := 1) (L' := [some (.ref q0), some (.int x1), some (.int x2), some (.int x3)]) (st' := [.ref q0]) rfl ?_
  obtain ⟨v_4669, e_4670, e⟩ := Option.bind_eq_some_iff.mp e
  refine Rn.hp hT rfl rfl (gR_hp e_4670) ?_
  refine Rn.n hT 1 (pc' := 5) (L' := [some (.ref q0), some (.int x1), some (.int x2), some (.int x3)]) (st' := [.int x1, .ref v_4669]) rfl ?_
  obtain ⟨_, e_4672, e⟩ := Option.bind_eq_some_iff.mp e
  obtain ⟨v_4673, e_4671, e⟩ := Option.bind_eq_some_iff.mp e
  refine Rn.call hT rfl rfl rfl (Nat.le_of_ble_eq_true rfl) (rcv_v gX2_hasDraft (by omega) e_4672) (rX2_hasDraft (by omega) e_4671 ?_)
  show Rn d _ _ 8 [some (.ref q0), some (.int x1), some (.int x2), some (.int x3)] [.int v_4673] h Q
  by_cases c_4674 : v_4673 = 0
  · rw [if_pos c_4674] at e
    refine Rn.bt hT rfl rfl rfl (decide_eq_true c_4674) ?_
    exact Rn.weak (ll_n (ll_n (ll_n (ll_n ll_e)))) (rX11_row_b24 hd hq e)
  · rw [if_neg c_4674] at e
    refine Rn.bf hT rfl rfl rfl (decide_eq_false c_4674) ?_
    refine Rn.n hT 1 (pc' := 12) (L' := [some (.ref q0), some (.int x1), some (.int x2), some (.int x3)]) (st' := [.int x2]) rfl ?_
    by_cases c_4675 : x2 < 0
    · rw [if_pos c_4675] at e
      refine Rn.bt hT rfl rfl rfl (decide_eq_true c_4675) ?_
      exact Rn.weak (ll_n (ll_n (ll_n (ll_n ll_e)))) (rX11_row_b24 hd hq e)
    · rw [if_neg c_4675] at e
      refine Rn.bf hT rfl rfl rfl (decide_eq_false c_4675) ?_
      refine Rn.n hT 1 (pc' := 16) (L' := [some (.ref q0), some (.int x1), some (.int x2), some (.int x3)]) (st' := [.int x3]) rfl ?_
      by_cases c_4676 : x3 < 0
      · rw [if_pos c_4676] at e
        refine Rn.bt hT rfl rfl rfl (decide_eq_true c_4676) ?_
        exact Rn.weak (ll_n (ll_n (ll_n (ll_n ll_e)))) (rX11_row_b24 hd hq e)
      · rw [if_neg c_4676] at e
        refine Rn.bf hT rfl rfl rfl (decide_eq_false c_4676) ?_
        refine Rn.n hT 2 (pc' := 21) (L' := [some (.ref q0), some (.int x1), some (.int x2), some (.int x3)]) (st' := [.int (2 : Int32), .int x3]) rfl ?_
        by_cases c_4677 : x3 ≤ (2 : Int32)
        · rw [if_pos c_4677] at e
          refine Rn.bt hT rfl rfl rfl (decide_eq_true c_4677) ?_
          refine Rn.n hT 1 (pc' := 27) (L' := [some (.ref q0), some (.int x1), some (.int x2), some (.int x3)]) (st' := [.ref q0]) rfl ?_
          obtain ⟨v_4678, e_4679, e⟩ := Option.bind_eq_some_iff.mp e
          refine Rn.hp hT rfl rfl (gR_hp e_4679) ?_
          refine Rn.n hT 1 (pc' := 31) (L' := [some (.ref q0), some (.int x1), some (.int x2), some (.int x3)]) (st' := [.ref q0, .ref v_4678]) rfl ?_
          obtain ⟨v_4680, e_4681, e⟩ := Option.bind_eq_some_iff.mp e
          refine Rn.hp hT rfl rfl (gR_hp e_4681) ?_
          refine Rn.n hT 1 (pc' := 35) (L' := [some (.ref q0), some (.int x1), some (.int x2), some (.int x3)]) (st' := [.ref q0, .ref v_4680, .ref v_4678]) rfl ?_
          obtain ⟨_, e_4683, e⟩ := Option.bind_eq_some_iff.mp e
          obtain ⟨v_4684, e_4682, e⟩ := Option.bind_eq_some_iff.mp e
          refine Rn.call hT rfl rfl rfl (Nat.le_of_ble_eq_true rfl) (rcv_v gX11_ruleInForce (by omega) e_4683) (rX11_ruleInForce (by omega) e_4682 ?_)
          show Rn d _ _ 38 [some (.ref q0), some (.int x1), some (.int x2), some (.int x3)] [iv_rf v_4684, .ref v_4680, .ref v_4678] h Q
          refine Rn.n hT 2 (pc' := 40) (L' := [some (.ref q0), some (.int x1), some (.int x2), some (.int x3)]) (st' := [.ref q0, .int x1, iv_rf v_4684, .ref v_4680, .ref v_4678]) rfl ?_
          obtain ⟨v_4685, e_4686, e⟩ := Option.bind_eq_some_iff.mp e
          refine Rn.hp hT rfl rfl (gI_hp e_4686) ?_
          obtain ⟨_, e_4688, e⟩ := Option.bind_eq_some_iff.mp e
          obtain ⟨h_4690, e_4687, e⟩ := Option.bind_eq_some_iff.mp e
          refine Rn.call hT rfl rfl rfl (Nat.le_of_ble_eq_true rfl) (rcv_v gX9_ask (by omega) e_4688) (rX9_ask (by omega) e_4687 ?_)
          show Rn d _ _ 46 [some (.ref q0), some (.int x1), some (.int x2), some (.int x3)] [] h_4690 Q
          refine Rn.n hT 1 (pc' := 47) (L' := [some (.ref q0), some (.int x1), some (.int x2), some (.int x3)]) (st' := [.ref q0]) rfl ?_
          obtain ⟨v_4691, e_4692, e⟩ := Option.bind_eq_some_iff.mp e
          refine Rn.hp hT rfl rfl (gR_hp e_4692) ?_
          obtain ⟨v_4693, e_4694, e⟩ := Option.bind_eq_some_iff.mp e
          refine Rn.hp hT rfl rfl (gI_hp e_4694) ?_
          by_cases c_4695 : 0 ≤ v_4693
          · rw [if_pos c_4695] at e
            refine Rn.bt hT rfl rfl rfl (decide_eq_true c_4695) ?_
            refine Rn.n hT 2 (pc' := 66) (L' := [some (.ref q0), some (.int x1), some (.int x2), some (.int x3)]) (st' := [.ref q0, .int x2]) rfl ?_
            obtain ⟨v_4696, e_4697, e⟩ := Option.bind_eq_some_iff.mp e
            refine Rn.hp hT rfl rfl (gR_hp e_4697) ?_
            obtain ⟨v_4698, e_4699, e⟩ := Option.bind_eq_some_iff.mp e
            refine Rn.hp hT rfl rfl (gI_hp e_4699) ?_
            by_cases c_4700 : v_4698 ≤ x2
            · rw [if_pos c_4700] at e
              refine Rn.bt hT rfl rfl rfl (decide_eq_true c_4700) ?_
              exact Rn.weak (ll_n (ll_n (ll_n (ll_n ll_e)))) (rX11_row_b103 hd hq e)
            · rw [if_neg c_4700] at e
              refine Rn.bf hT rfl rfl rfl (decide_eq_false c_4700) ?_
              refine Rn.n hT 2 (pc' := 77) (L' := [some (.ref q0), some (.int x1), some (.int x2), some (.int x3)]) (st' := [.ref q0, .int x2]) rfl ?_
              obtain ⟨v_4701, e_4702, e⟩ := Option.bind_eq_some_iff.mp e
              refine Rn.hp hT rfl rfl (gR_hp e_4702) ?_
              obtain ⟨v_4703, e_4704, e⟩ := Option.bind_eq_some_iff.mp e
              refine Rn.hp hT rfl rfl (gR_hp e_4704) ?_
              obtain ⟨v_4705, e_4706, e⟩ := Option.bind_eq_some_iff.mp e
              refine Rn.hp hT rfl rfl (aL_hp e_4706) ?_
              by_cases c_4707 : v_4705 ≤ x2
              · rw [if_pos c_4707] at e
                refine Rn.bt hT rfl rfl rfl (decide_eq_true c_4707) ?_
                exact Rn.weak (ll_n (ll_n (ll_n (ll_n ll_e)))) (rX11_row_b103 hd hq e)
              · rw [if_neg c_4707] at e
                refine Rn.bf hT rfl rfl rfl (decide_eq_false c_4707) ?_
                refine Rn.n hT 1 (pc' := 88) (L' := [some (.ref q0), some (.int x1), some (.int x2), some (.int x3)]) (st' := [.ref q0]) rfl ?_
                obtain ⟨v_4708, e_4709, e⟩ := Option.bind_eq_some_iff.mp e
                refine Rn.hp hT rfl rfl (gR_hp e_4709) ?_
                obtain ⟨v_4710, e_4711, e⟩ := Option.bind_eq_some_iff.mp e
                refine Rn.hp hT rfl rfl (gR_hp e_4711) ?_
                refine Rn.n hT 1 (pc' := 95) (L' := [some (.ref q0), some (.int x1), some (.int x2), some (.int x3)]) (st' := [.int x2, .ref v_4710]) rfl ?_
                obtain ⟨v_4712, e_4713, e⟩ := Option.bind_eq_some_iff.mp e
                refine Rn.hp hT rfl rfl (aI_hp e_4713) ?_
                refine Rn.n hT 1 (pc' := 97) (L' := [some (.ref q0), some (.int x1), some (.int x2), some (.int x3)]) (st' := [.int x3, .int v_4712]) rfl ?_
                obtain ⟨v_4715, e_4714, e⟩ := Option.bind_eq_some_iff.mp e
                refine Rn.call hT rfl rfl rfl (Nat.le_of_ble_eq_true rfl) rfl (rX11_partOf (by omega) e_4714 ?_)
                show Rn d _ _ 100 [some (.ref q0), some (.int x1), some (.int x2), some (.int x3)] [.int v_4715] h_4690 Q
                refine Rn.n hT 1 (pc' := 105) (L' := [some (.ref q0), some (.int x1), some (.int x2), some (.int x3)]) (st' := [.int v_4715]) rfl ?_
                exact Rn.weak (ll_n (ll_n (ll_n (ll_n ll_e)))) (rX11_row_b105 hd hq e)
          · rw [if_neg c_4695] at e
            refine Rn.bf hT rfl rfl rfl (decide_eq_false c_4695) ?_
            refine Rn.n hT 1 (pc' := 57) (L' := [some (.ref q0), some (.int x1), some (.int x2), some (.int x3)]) (st' := [.ref q0]) rfl ?_
            obtain ⟨v_4716, e_4717, e⟩ := Option.bind_eq_some_iff.mp e
            refine Rn.hp hT rfl rfl (gR_hp e_4717) ?_
            obtain ⟨v_4718, e_4719, e⟩ := Option.bind_eq_some_iff.mp e
            refine Rn.hp hT rfl rfl (gI_hp e_4719) ?_
            obtain rfl := Option.some.inj e
            exact Rn.ret hT rfl rfl rfl hq
        · rw [if_neg c_4677] at e
          refine Rn.bf hT rfl rfl rfl (decide_eq_false c_4677) ?_
          exact Rn.weak (ll_n (ll_n (ll_n (ll_n ll_e)))) (rX11_row_b24 hd hq e)
set_option maxRecDepth 10000 in
theorem hX11_marks : iv_Tb 166 tX11_marks := iv_tb_of (m := mX11_marks) rfl
set_option maxRecDepth 10000 in
theorem gX11_marks : PG.2 166 = some mX11_marks := iv_pi_of (t := tX11_marks) rfl (by decide)
def fX11_marks_b27 (N : Nat) (h : iv_H)  (s0 : Int32) : Option (Int32 × iv_H) := (some (s0, h))
set_option maxRecDepth 10000 in
set_option maxHeartbeats 4000000 in
theorem rX11_marks_b27 {d N : Nat} (hd : 6 ≤ d) {h : iv_H}  {s0 : Int32} {r : Int32 × iv_H} {Q : Option Value → iv_H → Prop} (hq : Q (some (.int r.1)) r.2) (e : fX11_marks_b27 N h  s0 = some r) : Rn d 166 (some .int) 27 [none, none] [.int s0] h Q := by
  have hT := hX11_marks
  unfold fX11_marks_b27 at e
  obtain rfl := Option.some.inj e
  exact Rn.ret hT rfl rfl rfl hq
def fX11_marks (N : Nat) (h : iv_H) (q0 : Nat) (x1 : Int32) : Option (Int32 × iv_H) := ((gR h 11 4 q0).bind fun v_4720 => ((cko h v_4720 2).bind fun _ => (fX2_hasDraft N h v_4720 x1).bind fun v_4724 => (if v_4724 = 0 then (fX11_marks_b27 N h (-1 : Int32)) else ((gR h 11 10 q0).bind fun v_4726 => ((gR h 11 4 q0).bind fun v_4728 => ((cko h v_4726 9).bind fun _ => (fX9_marksOf N h v_4726 v_4728 x1).bind fun p_4734 => (fun (v_4732 : Int32) (h_4733 : iv_H) => (fX11_marks_b27 N h_4733 v_4732)) p_4734.1 p_4734.2))))))
set_option maxRecDepth 10000 in
set_option maxHeartbeats 4000000 in
theorem rX11_marks {d N : Nat} (hd : 7 ≤ d) {h : iv_H} {q0 : Nat} {x1 : Int32} {r : Int32 × iv_H} {Q : Option Value → iv_H → Prop} (e : fX11_marks N h q0 x1 = some r) (hq : Q (some (.int r.1)) r.2) : Cl d 166 [.ref q0, .int x1] h Q := by
  obtain ⟨d, rfl⟩ : ∃ k, d = k + 1 := ⟨d - 1, by omega⟩
  have hd : 6 ≤ d := by omega
  have hT := hX11_marks
  unfold fX11_marks at e
  refine Cl.into (by decide) gX11_marks rfl ?_
  show Rn d 166 (some .int) 0 [some (.ref q0), some (.int x1)] [] h Q
  refine Rn.n hT 1 (pc' := 1) (L' := [some (.ref q0), some (.int x1)]) (st' := [.ref q0]) rfl ?_
  obtain ⟨v_4720, e_4721, e⟩ := Option.bind_eq_some_iff.mp e
  refine Rn.hp hT rfl rfl (gR_hp e_4721) ?_
  refine Rn.n hT 1 (pc' := 5) (L' := [some (.ref q0), some (.int x1)]) (st' := [.int x1, .ref v_4720]) rfl ?_
  obtain ⟨_, e_4723, e⟩ := Option.bind_eq_some_iff.mp e
  obtain ⟨v_4724, e_4722, e⟩ := Option.bind_eq_some_iff.mp e
  refine Rn.call hT rfl rfl rfl (Nat.le_of_ble_eq_true rfl) (rcv_v gX2_hasDraft (by omega) e_4723) (rX2_hasDraft (by omega) e_4722 ?_)
  show Rn d _ _ 8 [some (.ref q0), some (.int x1)] [.int v_4724] h Q
  by_cases c_4725 : v_4724 = 0
  · rw [if_pos c_4725] at e
    refine Rn.bt hT rfl rfl rfl (decide_eq_true c_4725) ?_
    refine Rn.n hT 1 (pc' := 27) (L' := [some (.ref q0), some (.int x1)]) (st' := [.int (-1 : Int32)]) rfl ?_
    exact Rn.weak (ll_n (ll_n ll_e)) (rX11_marks_b27 hd hq e)
  · rw [if_neg c_4725] at e
    refine Rn.bf hT rfl rfl rfl (decide_eq_false c_4725) ?_
    refine Rn.n hT 1 (pc' := 12) (L' := [some (.ref q0), some (.int x1)]) (st' := [.ref q0]) rfl ?_
    obtain ⟨v_4726, e_4727, e⟩ := Option.bind_eq_some_iff.mp e
    refine Rn.hp hT rfl rfl (gR_hp e_4727) ?_
    refine Rn.n hT 1 (pc' := 16) (L' := [some (.ref q0), some (.int x1)]) (st' := [.ref q0, .ref v_4726]) rfl ?_
    obtain ⟨v_4728, e_4729, e⟩ := Option.bind_eq_some_iff.mp e
    refine Rn.hp hT rfl rfl (gR_hp e_4729) ?_
    refine Rn.n hT 1 (pc' := 20) (L' := [some (.ref q0), some (.int x1)]) (st' := [.int x1, .ref v_4728, .ref v_4726]) rfl ?_
    obtain ⟨_, e_4731, e⟩ := Option.bind_eq_some_iff.mp e
    obtain ⟨⟨v_4732, h_4733⟩, e_4730, e⟩ := Option.bind_eq_some_iff.mp e
    try dsimp only at e
    try dsimp only at e
    refine Rn.call hT rfl rfl rfl (Nat.le_of_ble_eq_true rfl) (rcv_v gX9_marksOf (by omega) e_4731) (rX9_marksOf (by omega) e_4730 ?_)
    show Rn d _ _ 23 [some (.ref q0), some (.int x1)] [.int v_4732] h_4733 Q
    refine Rn.n hT 1 (pc' := 27) (L' := [some (.ref q0), some (.int x1)]) (st' := [.int v_4732]) rfl ?_
    exact Rn.weak (ll_n (ll_n ll_e)) (rX11_marks_b27 hd hq e)
set_option maxRecDepth 10000 in
theorem hX11_floors : iv_Tb 167 tX11_floors := iv_tb_of (m := mX11_floors) rfl
set_option maxRecDepth 10000 in
theorem gX11_floors : PG.2 167 = some mX11_floors := iv_pi_of (t := tX11_floors) rfl (by decide)
def fX11_floors_b25 (N : Nat) (h : iv_H)  (s0 : Int32) : Option (Int32 × iv_H) := (some (s0, h))
set_option maxRecDepth 10000 in
set_option maxHeartbeats 4000000 in
theorem rX11_floors_b25 {d N : Nat} (hd : 44 ≤ d) {h : iv_H}  {s0 : Int32} {r : Int32 × iv_H} {Q : Option Value → iv_H → Prop} (hq : Q (some (.int r.1)) r.2) (e : fX11_floors_b25 N h  s0 = some r) : Rn d 167 (some .int) 25 [none] [.int s0] h Q := by
  have hT := hX11_floors
  unfold fX11_floors_b25 at e
  obtain rfl := Option.some.inj e
  exact Rn.ret hT rfl rfl rfl hq
def fX11_floors (N : Nat) (h : iv_H) (q0 : Nat) : Option (Int32 × iv_H) := ((gR h 11 4 q0).bind fun v_4735 => ((gI h 2 0 v_4735).bind fun v_4737 => (if v_4737 = 0 then (fX11_floors_b25 N h (-1 : Int32)) else ((gR h 11 13 q0).bind fun v_4740 => ((gR h 11 4 q0).bind fun v_4742 => ((cko h v_4740 4).bind fun _ => (fX4_layRooms N h v_4740 v_4742).bind fun p_4748 => (fun (v_4746 : Int32) (h_4747 : iv_H) => (fX11_floors_b25 N h_4747 v_4746)) p_4748.1 p_4748.2))))))
set_option maxRecDepth 10000 in
set_option maxHeartbeats 4000000 in
theorem rX11_floors {d N : Nat} (hd : 45 ≤ d) {h : iv_H} {q0 : Nat} {r : Int32 × iv_H} {Q : Option Value → iv_H → Prop} (e : fX11_floors N h q0 = some r) (hq : Q (some (.int r.1)) r.2) : Cl d 167 [.ref q0] h Q := by
  obtain ⟨d, rfl⟩ : ∃ k, d = k + 1 := ⟨d - 1, by omega⟩
  have hd : 44 ≤ d := by omega
  have hT := hX11_floors
  unfold fX11_floors at e
  refine Cl.into (by decide) gX11_floors rfl ?_
  show Rn d 167 (some .int) 0 [some (.ref q0)] [] h Q
  refine Rn.n hT 1 (pc' := 1) (L' := [some (.ref q0)]) (st' := [.ref q0]) rfl ?_
  obtain ⟨v_4735, e_4736, e⟩ := Option.bind_eq_some_iff.mp e
  refine Rn.hp hT rfl rfl (gR_hp e_4736) ?_
  obtain ⟨v_4737, e_4738, e⟩ := Option.bind_eq_some_iff.mp e
  refine Rn.hp hT rfl rfl (gI_hp e_4738) ?_
  by_cases c_4739 : v_4737 = 0
  · rw [if_pos c_4739] at e
    refine Rn.bt hT rfl rfl rfl (decide_eq_true c_4739) ?_
    refine Rn.n hT 1 (pc' := 25) (L' := [some (.ref q0)]) (st' := [.int (-1 : Int32)]) rfl ?_
    exact Rn.weak (ll_n ll_e) (rX11_floors_b25 hd hq e)
  · rw [if_neg c_4739] at e
    refine Rn.bf hT rfl rfl rfl (decide_eq_false c_4739) ?_
    refine Rn.n hT 1 (pc' := 11) (L' := [some (.ref q0)]) (st' := [.ref q0]) rfl ?_
    obtain ⟨v_4740, e_4741, e⟩ := Option.bind_eq_some_iff.mp e
    refine Rn.hp hT rfl rfl (gR_hp e_4741) ?_
    refine Rn.n hT 1 (pc' := 15) (L' := [some (.ref q0)]) (st' := [.ref q0, .ref v_4740]) rfl ?_
    obtain ⟨v_4742, e_4743, e⟩ := Option.bind_eq_some_iff.mp e
    refine Rn.hp hT rfl rfl (gR_hp e_4743) ?_
    obtain ⟨_, e_4745, e⟩ := Option.bind_eq_some_iff.mp e
    obtain ⟨⟨v_4746, h_4747⟩, e_4744, e⟩ := Option.bind_eq_some_iff.mp e
    try dsimp only at e
    try dsimp only at e
    refine Rn.call hT rfl rfl rfl (Nat.le_of_ble_eq_true rfl) (rcv_v gX4_layRooms (by omega) e_4745) (rX4_layRooms (by omega) e_4744 ?_)
    show Rn d _ _ 21 [some (.ref q0)] [.int v_4746] h_4747 Q
    refine Rn.n hT 1 (pc' := 25) (L' := [some (.ref q0)]) (st' := [.int v_4746]) rfl ?_
    exact Rn.weak (ll_n ll_e) (rX11_floors_b25 hd hq e)
set_option maxRecDepth 10000 in
theorem hX11_steps : iv_Tb 168 tX11_steps := iv_tb_of (m := mX11_steps) rfl
set_option maxRecDepth 10000 in
theorem gX11_steps : PG.2 168 = some mX11_steps := iv_pi_of (t := tX11_steps) rfl (by decide)
def fX11_steps_b22 (N : Nat) (h : iv_H)   : Option (Int32 × iv_H) := (some ((-1 : Int32), h))
set_option maxRecDepth 10000 in
set_option maxHeartbeats 4000000 in
theorem rX11_steps_b22 {d N : Nat} (hd : 3 ≤ d) {h : iv_H}   {r : Int32 × iv_H} {Q : Option Value → iv_H → Prop} (hq : Q (some (.int r.1)) r.2) (e : fX11_steps_b22 N h   = some r) : Rn d 168 (some .int) 22 [none, none, none] [] h Q := by
  have hT := hX11_steps
  unfold fX11_steps_b22 at e
  refine Rn.n hT 1 (pc' := 23) (L' := [none, none, none]) (st' := [.int (-1 : Int32)]) rfl ?_
  obtain rfl := Option.some.inj e
  exact Rn.ret hT rfl rfl rfl hq
def fX11_steps (N : Nat) (h : iv_H) (q0 : Nat) (x1 : Int32) (x2 : Int32) : Option (Int32 × iv_H) := ((gR h 11 4 q0).bind fun v_4749 => ((cko h v_4749 2).bind fun _ => (fX2_isRoom N h v_4749 x1).bind fun v_4753 => (if v_4753 = 0 then (fX11_steps_b22 N h) else ((gR h 11 4 q0).bind fun v_4755 => ((cko h v_4755 2).bind fun _ => (fX2_isRoom N h v_4755 x2).bind fun v_4759 => (if v_4759 = 0 then (fX11_steps_b22 N h) else ((gR h 11 12 q0).bind fun v_4761 => ((gR h 11 4 q0).bind fun v_4763 => ((cko h v_4761 0).bind fun _ => (fX0_spread N h v_4761 v_4763 x1).bind fun h_4768 => ((gR h_4768 11 12 q0).bind fun v_4769 => ((cko h_4768 v_4769 0).bind fun _ => (fX0_fewest N h_4768 v_4769 x2).bind fun v_4773 => (some (v_4773, h_4768)))))))))))))
set_option maxRecDepth 10000 in
set_option maxHeartbeats 4000000 in
theorem rX11_steps {d N : Nat} (hd : 4 ≤ d) {h : iv_H} {q0 : Nat} {x1 : Int32} {x2 : Int32} {r : Int32 × iv_H} {Q : Option Value → iv_H → Prop} (e : fX11_steps N h q0 x1 x2 = some r) (hq : Q (some (.int r.1)) r.2) : Cl d 168 [.ref q0, .int x1, .int x2] h Q := by
  obtain ⟨d, rfl⟩ : ∃ k, d = k + 1 := ⟨d - 1, by omega⟩
  have hd : 3 ≤ d := by omega
  have hT := hX11_steps
  unfold fX11_steps at e
  refine Cl.into (by decide) gX11_steps rfl ?_
  show Rn d 168 (some .int) 0 [some (.ref q0), some (.int x1), some (.int x2)] [] h Q
  refine Rn.n hT 1 (pc' := 1) (L' := [some (.ref q0), some (.int x1), some (.int x2)]) (st' := [.ref q0]) rfl ?_
  obtain ⟨v_4749, e_4750, e⟩ := Option.bind_eq_some_iff.mp e
  refine Rn.hp hT rfl rfl (gR_hp e_4750) ?_
  refine Rn.n hT 1 (pc' := 5) (L' := [some (.ref q0), some (.int x1), some (.int x2)]) (st' := [.int x1, .ref v_4749]) rfl ?_
  obtain ⟨_, e_4752, e⟩ := Option.bind_eq_some_iff.mp e
  obtain ⟨v_4753, e_4751, e⟩ := Option.bind_eq_some_iff.mp e
  refine Rn.call hT rfl rfl rfl (Nat.le_of_ble_eq_true rfl) (rcv_v gX2_isRoom (by omega) e_4752) (rX2_isRoom (by omega) e_4751 ?_)
  show Rn d _ _ 8 [some (.ref q0), some (.int x1), some (.int x2)] [.int v_4753] h Q
  by_cases c_4754 : v_4753 = 0
  · rw [if_pos c_4754] at e
    refine Rn.bt hT rfl rfl rfl (decide_eq_true c_4754) ?_
    exact Rn.weak (ll_n (ll_n (ll_n ll_e))) (rX11_steps_b22 hd hq e)
  · rw [if_neg c_4754] at e
    refine Rn.bf hT rfl rfl rfl (decide_eq_false c_4754) ?_
    refine Rn.n hT 1 (pc' := 12) (L' := [some (.ref q0), some (.int x1), some (.int x2)]) (st' := [.ref q0]) rfl ?_
    obtain ⟨v_4755, e_4756, e⟩ := Option.bind_eq_some_iff.mp e
    refine Rn.hp hT rfl rfl (gR_hp e_4756) ?_
    refine Rn.n hT 1 (pc' := 16) (L' := [some (.ref q0), some (.int x1), some (.int x2)]) (st' := [.int x2, .ref v_4755]) rfl ?_
    obtain ⟨_, e_4758, e⟩ := Option.bind_eq_some_iff.mp e
    obtain ⟨v_4759, e_4757, e⟩ := Option.bind_eq_some_iff.mp e
    refine Rn.call hT rfl rfl rfl (Nat.le_of_ble_eq_true rfl) (rcv_v gX2_isRoom (by omega) e_4758) (rX2_isRoom (by omega) e_4757 ?_)
    show Rn d _ _ 19 [some (.ref q0), some (.int x1), some (.int x2)] [.int v_4759] h Q
    by_cases c_4760 : v_4759 = 0
    · rw [if_pos c_4760] at e
      refine Rn.bf hT rfl rfl rfl (decide_eq_false (fun z => z c_4760)) ?_
      exact Rn.weak (ll_n (ll_n (ll_n ll_e))) (rX11_steps_b22 hd hq e)
    · rw [if_neg c_4760] at e
      refine Rn.bt hT rfl rfl rfl (decide_eq_true c_4760) ?_
      refine Rn.n hT 1 (pc' := 25) (L' := [some (.ref q0), some (.int x1), some (.int x2)]) (st' := [.ref q0]) rfl ?_
      obtain ⟨v_4761, e_4762, e⟩ := Option.bind_eq_some_iff.mp e
      refine Rn.hp hT rfl rfl (gR_hp e_4762) ?_
      refine Rn.n hT 1 (pc' := 29) (L' := [some (.ref q0), some (.int x1), some (.int x2)]) (st' := [.ref q0, .ref v_4761]) rfl ?_
      obtain ⟨v_4763, e_4764, e⟩ := Option.bind_eq_some_iff.mp e
      refine Rn.hp hT rfl rfl (gR_hp e_4764) ?_
      refine Rn.n hT 1 (pc' := 33) (L' := [some (.ref q0), some (.int x1), some (.int x2)]) (st' := [.int x1, .ref v_4763, .ref v_4761]) rfl ?_
      obtain ⟨_, e_4766, e⟩ := Option.bind_eq_some_iff.mp e
      obtain ⟨h_4768, e_4765, e⟩ := Option.bind_eq_some_iff.mp e
      refine Rn.call hT rfl rfl rfl (Nat.le_of_ble_eq_true rfl) (rcv_v gX0_spread (by omega) e_4766) (rX0_spread (by omega) e_4765 ?_)
      show Rn d _ _ 36 [some (.ref q0), some (.int x1), some (.int x2)] [] h_4768 Q
      refine Rn.n hT 1 (pc' := 37) (L' := [some (.ref q0), some (.int x1), some (.int x2)]) (st' := [.ref q0]) rfl ?_
      obtain ⟨v_4769, e_4770, e⟩ := Option.bind_eq_some_iff.mp e
      refine Rn.hp hT rfl rfl (gR_hp e_4770) ?_
      refine Rn.n hT 1 (pc' := 41) (L' := [some (.ref q0), some (.int x1), some (.int x2)]) (st' := [.int x2, .ref v_4769]) rfl ?_
      obtain ⟨_, e_4772, e⟩ := Option.bind_eq_some_iff.mp e
      obtain ⟨v_4773, e_4771, e⟩ := Option.bind_eq_some_iff.mp e
      refine Rn.call hT rfl rfl rfl (Nat.le_of_ble_eq_true rfl) (rcv_v gX0_fewest (by omega) e_4772) (rX0_fewest (by omega) e_4771 ?_)
      show Rn d _ _ 44 [some (.ref q0), some (.int x1), some (.int x2)] [.int v_4773] h_4768 Q
      obtain rfl := Option.some.inj e
      exact Rn.ret hT rfl rfl rfl hq
set_option maxRecDepth 10000 in
theorem hX11_reach : iv_Tb 169 tX11_reach := iv_tb_of (m := mX11_reach) rfl
set_option maxRecDepth 10000 in
theorem gX11_reach : PG.2 169 = some mX11_reach := iv_pi_of (t := tX11_reach) rfl (by decide)
def fX11_reach_b20 (N : Nat) (h : iv_H)   : Option (Int32 × iv_H) := (some ((-1 : Int32), h))
set_option maxRecDepth 10000 in
set_option maxHeartbeats 4000000 in
theorem rX11_reach_b20 {d N : Nat} (hd : 3 ≤ d) {h : iv_H}   {r : Int32 × iv_H} {Q : Option Value → iv_H → Prop} (hq : Q (some (.int r.1)) r.2) (e : fX11_reach_b20 N h   = some r) : Rn d 169 (some .int) 20 [none, none, none] [] h Q := by
  have hT := hX11_reach
  unfold fX11_reach_b20 at e
  refine Rn.n hT 1 (pc' := 21) (L' := [none, none, none]) (st' := [.int (-1 : Int32)]) rfl ?_
  obtain rfl := Option.some.inj e
  exact Rn.ret hT rfl rfl rfl hq
def fX11_reach_b55 (N : Nat) (h : iv_H)  (s0 : Int32) : Option (Int32 × iv_H) := (some (s0, h))
set_option maxRecDepth 10000 in
set_option maxHeartbeats 4000000 in
theorem rX11_reach_b55 {d N : Nat} (hd : 3 ≤ d) {h : iv_H}  {s0 : Int32} {r : Int32 × iv_H} {Q : Option Value → iv_H → Prop} (hq : Q (some (.int r.1)) r.2) (e : fX11_reach_b55 N h  s0 = some r) : Rn d 169 (some .int) 55 [none, none, none] [.int s0] h Q := by
  have hT := hX11_reach
  unfold fX11_reach_b55 at e
  obtain rfl := Option.some.inj e
  exact Rn.ret hT rfl rfl rfl hq
def fX11_reach (N : Nat) (h : iv_H) (q0 : Nat) (x1 : Int32) (x2 : Int32) : Option (Int32 × iv_H) := ((gR h 11 4 q0).bind fun v_4774 => ((cko h v_4774 2).bind fun _ => (fX2_isRoom N h v_4774 x1).bind fun v_4778 => (if v_4778 = 0 then (fX11_reach_b20 N h) else (if x2 < 0 then (fX11_reach_b20 N h) else (if x2 ≤ (1 : Int32) then ((gR h 11 12 q0).bind fun v_4782 => ((gR h 11 4 q0).bind fun v_4784 => ((cko h v_4782 0).bind fun _ => (fX0_spread N h v_4782 v_4784 x1).bind fun h_4789 => (if x2 = 0 then ((gR h_4789 11 12 q0).bind fun v_4796 => ((cko h_4789 v_4796 0).bind fun _ => (fX0_reachedRooms N h_4789 v_4796).bind fun v_4800 => (fX11_reach_b55 N h_4789 v_4800))) else ((gR h_4789 11 12 q0).bind fun v_4791 => ((cko h_4789 v_4791 0).bind fun _ => (fX0_reachedKeys N h_4789 v_4791).bind fun v_4795 => (fX11_reach_b55 N h_4789 v_4795))))))) else (fX11_reach_b20 N h))))))
set_option maxRecDepth 10000 in
set_option maxHeartbeats 4000000 in
theorem rX11_reach {d N : Nat} (hd : 4 ≤ d) {h : iv_H} {q0 : Nat} {x1 : Int32} {x2 : Int32} {r : Int32 × iv_H} {Q : Option Value → iv_H → Prop} (e : fX11_reach N h q0 x1 x2 = some r) (hq : Q (some (.int r.1)) r.2) : Cl d 169 [.ref q0, .int x1, .int x2] h Q := by
  obtain ⟨d, rfl⟩ : ∃ k, d = k + 1 := ⟨d - 1, by omega⟩
  have hd : 3 ≤ d := by omega
  have hT := hX11_reach
  unfold fX11_reach at e
  refine Cl.into (by decide) gX11_reach rfl ?_
  show Rn d 169 (some .int) 0 [some (.ref q0), some (.int x1), some (.int x2)] [] h Q
  refine Rn.n hT 1 (pc' := 1) (L' := [some (.ref q0), some (.int x1), some (.int x2)]) (st' := [.ref q0]) rfl ?_
  obtain ⟨v_4774, e_4775, e⟩ := Option.bind_eq_some_iff.mp e
  refine Rn.hp hT rfl rfl (gR_hp e_4775) ?_
  refine Rn.n hT 1 (pc' := 5) (L' := [some (.ref q0), some (.int x1), some (.int x2)]) (st' := [.int x1, .ref v_4774]) rfl ?_
  obtain ⟨_, e_4777, e⟩ := Option.bind_eq_some_iff.mp e
  obtain ⟨v_4778, e_4776, e⟩ := Option.bind_eq_some_iff.mp e
  refine Rn.call hT rfl rfl rfl (Nat.le_of_ble_eq_true rfl) (rcv_v gX2_isRoom (by omega) e_4777) (rX2_isRoom (by omega) e_4776 ?_)
  show Rn d _ _ 8 [some (.ref q0), some (.int x1), some (.int x2)] [.int v_4778] h Q
  by_cases c_4779 : v_4778 = 0
  · rw [if_pos c_4779] at e
    refine Rn.bt hT rfl rfl rfl (decide_eq_true c_4779) ?_
    exact Rn.weak (ll_n (ll_n (ll_n ll_e))) (rX11_reach_b20 hd hq e)
  · rw [if_neg c_4779] at e
    refine Rn.bf hT rfl rfl rfl (decide_eq_false c_4779) ?_
    refine Rn.n hT 1 (pc' := 12) (L' := [some (.ref q0), some (.int x1), some (.int x2)]) (st' := [.int x2]) rfl ?_
    by_cases c_4780 : x2 < 0
    · rw [if_pos c_4780] at e
      refine Rn.bt hT rfl rfl rfl (decide_eq_true c_4780) ?_
      exact Rn.weak (ll_n (ll_n (ll_n ll_e))) (rX11_reach_b20 hd hq e)
    · rw [if_neg c_4780] at e
      refine Rn.bf hT rfl rfl rfl (decide_eq_false c_4780) ?_
      refine Rn.n hT 2 (pc' := 17) (L' := [some (.ref q0), some (.int x1), some (.int x2)]) (st' := [.int (1 : Int32), .int x2]) rfl ?_
      by_cases c_4781 : x2 ≤ (1 : Int32)
      · rw [if_pos c_4781] at e
        refine Rn.bt hT rfl rfl rfl (decide_eq_true c_4781) ?_
        refine Rn.n hT 1 (pc' := 23) (L' := [some (.ref q0), some (.int x1), some (.int x2)]) (st' := [.ref q0]) rfl ?_
        obtain ⟨v_4782, e_4783, e⟩ := Option.bind_eq_some_iff.mp e
        refine Rn.hp hT rfl rfl (gR_hp e_4783) ?_
        refine Rn.n hT 1 (pc' := 27) (L' := [some (.ref q0), some (.int x1), some (.int x2)]) (st' := [.ref q0, .ref v_4782]) rfl ?_
        obtain ⟨v_4784, e_4785, e⟩ := Option.bind_eq_some_iff.mp e
        refine Rn.hp hT rfl rfl (gR_hp e_4785) ?_
        refine Rn.n hT 1 (pc' := 31) (L' := [some (.ref q0), some (.int x1), some (.int x2)]) (st' := [.int x1, .ref v_4784, .ref v_4782]) rfl ?_
        obtain ⟨_, e_4787, e⟩ := Option.bind_eq_some_iff.mp e
        obtain ⟨h_4789, e_4786, e⟩ := Option.bind_eq_some_iff.mp e
        refine Rn.call hT rfl rfl rfl (Nat.le_of_ble_eq_true rfl) (rcv_v gX0_spread (by omega) e_4787) (rX0_spread (by omega) e_4786 ?_)
        show Rn d _ _ 34 [some (.ref q0), some (.int x1), some (.int x2)] [] h_4789 Q
        refine Rn.n hT 1 (pc' := 35) (L' := [some (.ref q0), some (.int x1), some (.int x2)]) (st' := [.int x2]) rfl ?_
        by_cases c_4790 : x2 = 0
        · rw [if_pos c_4790] at e
          refine Rn.bf hT rfl rfl rfl (decide_eq_false (fun z => z c_4790)) ?_
          refine Rn.n hT 1 (pc' := 39) (L' := [some (.ref q0), some (.int x1), some (.int x2)]) (st' := [.ref q0]) rfl ?_
          obtain ⟨v_4796, e_4797, e⟩ := Option.bind_eq_some_iff.mp e
          refine Rn.hp hT rfl rfl (gR_hp e_4797) ?_
          obtain ⟨_, e_4799, e⟩ := Option.bind_eq_some_iff.mp e
          obtain ⟨v_4800, e_4798, e⟩ := Option.bind_eq_some_iff.mp e
          refine Rn.call hT rfl rfl rfl (Nat.le_of_ble_eq_true rfl) (rcv_v gX0_reachedRooms (by omega) e_4799) (rX0_reachedRooms (by omega) e_4798 ?_)
          show Rn d _ _ 45 [some (.ref q0), some (.int x1), some (.int x2)] [.int v_4800] h_4789 Q
          refine Rn.n hT 1 (pc' := 55) (L' := [some (.ref q0), some (.int x1), some (.int x2)]) (st' := [.int v_4800]) rfl ?_
          exact Rn.weak (ll_n (ll_n (ll_n ll_e))) (rX11_reach_b55 hd hq e)
        · rw [if_neg c_4790] at e
          refine Rn.bt hT rfl rfl rfl (decide_eq_true c_4790) ?_
          refine Rn.n hT 1 (pc' := 49) (L' := [some (.ref q0), some (.int x1), some (.int x2)]) (st' := [.ref q0]) rfl ?_
          obtain ⟨v_4791, e_4792, e⟩ := Option.bind_eq_some_iff.mp e
          refine Rn.hp hT rfl rfl (gR_hp e_4792) ?_
          obtain ⟨_, e_4794, e⟩ := Option.bind_eq_some_iff.mp e
          obtain ⟨v_4795, e_4793, e⟩ := Option.bind_eq_some_iff.mp e
          refine Rn.call hT rfl rfl rfl (Nat.le_of_ble_eq_true rfl) (rcv_v gX0_reachedKeys (by omega) e_4794) (rX0_reachedKeys (by omega) e_4793 ?_)
          show Rn d _ _ 55 [some (.ref q0), some (.int x1), some (.int x2)] [.int v_4795] h_4789 Q
          exact Rn.weak (ll_n (ll_n (ll_n ll_e))) (rX11_reach_b55 hd hq e)
      · rw [if_neg c_4781] at e
        refine Rn.bf hT rfl rfl rfl (decide_eq_false c_4781) ?_
        exact Rn.weak (ll_n (ll_n (ll_n ll_e))) (rX11_reach_b20 hd hq e)
set_option maxRecDepth 10000 in
theorem hX11_gossip : iv_Tb 170 tX11_gossip := iv_tb_of (m := mX11_gossip) rfl
set_option maxRecDepth 10000 in
theorem gX11_gossip : PG.2 170 = some mX11_gossip := iv_pi_of (t := tX11_gossip) rfl (by decide)
def fX11_gossip_b21 (N : Nat) (h : iv_H)   : Option (Int32) := (some (-1 : Int32))
set_option maxRecDepth 10000 in
set_option maxHeartbeats 4000000 in
theorem rX11_gossip_b21 {d N : Nat} (hd : 4 ≤ d) {h : iv_H}   {r : Int32} {Q : Option Value → iv_H → Prop} (hq : Q (some (.int r)) h) (e : fX11_gossip_b21 N h   = some r) : Rn d 170 (some .int) 21 [none, none, none] [] h Q := by
  have hT := hX11_gossip
  unfold fX11_gossip_b21 at e
  refine Rn.n hT 1 (pc' := 22) (L' := [none, none, none]) (st' := [.int (-1 : Int32)]) rfl ?_
  obtain rfl := Option.some.inj e
  exact Rn.ret hT rfl rfl rfl hq
def fX11_gossip (N : Nat) (h : iv_H) (q0 : Nat) (x1 : Int32) (x2 : Int32) : Option (Int32) := ((gR h 11 4 q0).bind fun v_4801 => ((cko h v_4801 2).bind fun _ => (fX2_isRoom N h v_4801 x1).bind fun v_4805 => (if v_4805 = 0 then (fX11_gossip_b21 N h) else (if x2 < 0 then (fX11_gossip_b21 N h) else (if x2 ≤ (16 : Int32) then ((gR h 11 12 q0).bind fun v_4809 => ((gR h 11 4 q0).bind fun v_4811 => ((cko h v_4809 0).bind fun _ => (fX0_hearing N h v_4809 v_4811 x1 x2).bind fun v_4815 => ((fJ6_bitCount_0f7a4 N h v_4815).bind fun v_4817 => (some v_4817))))) else (fX11_gossip_b21 N h))))))
set_option maxRecDepth 10000 in
set_option maxHeartbeats 4000000 in
theorem rX11_gossip {d N : Nat} (hd : 5 ≤ d) {h : iv_H} {q0 : Nat} {x1 : Int32} {x2 : Int32} {r : Int32} {Q : Option Value → iv_H → Prop} (e : fX11_gossip N h q0 x1 x2 = some r) (hq : Q (some (.int r)) h) : Cl d 170 [.ref q0, .int x1, .int x2] h Q := by
  obtain ⟨d, rfl⟩ : ∃ k, d = k + 1 := ⟨d - 1, by omega⟩
  have hd : 4 ≤ d := by omega
  have hT := hX11_gossip
  unfold fX11_gossip at e
  refine Cl.into (by decide) gX11_gossip rfl ?_
  show Rn d 170 (some .int) 0 [some (.ref q0), some (.int x1), some (.int x2)] [] h Q
  refine Rn.n hT 1 (pc' := 1) (L' := [some (.ref q0), some (.int x1), some (.int x2)]) (st' := [.ref q0]) rfl ?_
  obtain ⟨v_4801, e_4802, e⟩ := Option.bind_eq_some_iff.mp e
  refine Rn.hp hT rfl rfl (gR_hp e_4802) ?_
  refine Rn.n hT 1 (pc' := 5) (L' := [some (.ref q0), some (.int x1), some (.int x2)]) (st' := [.int x1, .ref v_4801]) rfl ?_
  obtain ⟨_, e_4804, e⟩ := Option.bind_eq_some_iff.mp e
  obtain ⟨v_4805, e_4803, e⟩ := Option.bind_eq_some_iff.mp e
  refine Rn.call hT rfl rfl rfl (Nat.le_of_ble_eq_true rfl) (rcv_v gX2_isRoom (by omega) e_4804) (rX2_isRoom (by omega) e_4803 ?_)
  show Rn d _ _ 8 [some (.ref q0), some (.int x1), some (.int x2)] [.int v_4805] h Q
  by_cases c_4806 : v_4805 = 0
  · rw [if_pos c_4806] at e
    refine Rn.bt hT rfl rfl rfl (decide_eq_true c_4806) ?_
    exact Rn.weak (ll_n (ll_n (ll_n ll_e))) (rX11_gossip_b21 hd hq e)
  · rw [if_neg c_4806] at e
    refine Rn.bf hT rfl rfl rfl (decide_eq_false c_4806) ?_
    refine Rn.n hT 1 (pc' := 12) (L' := [some (.ref q0), some (.int x1), some (.int x2)]) (st' := [.int x2]) rfl ?_
    by_cases c_4807 : x2 < 0
    · rw [if_pos c_4807] at e
      refine Rn.bt hT rfl rfl rfl (decide_eq_true c_4807) ?_
      exact Rn.weak (ll_n (ll_n (ll_n ll_e))) (rX11_gossip_b21 hd hq e)
    · rw [if_neg c_4807] at e
      refine Rn.bf hT rfl rfl rfl (decide_eq_false c_4807) ?_
      refine Rn.n hT 2 (pc' := 18) (L' := [some (.ref q0), some (.int x1), some (.int x2)]) (st' := [.int (16 : Int32), .int x2]) rfl ?_
      by_cases c_4808 : x2 ≤ (16 : Int32)
      · rw [if_pos c_4808] at e
        refine Rn.bt hT rfl rfl rfl (decide_eq_true c_4808) ?_
        refine Rn.n hT 1 (pc' := 24) (L' := [some (.ref q0), some (.int x1), some (.int x2)]) (st' := [.ref q0]) rfl ?_
        obtain ⟨v_4809, e_4810, e⟩ := Option.bind_eq_some_iff.mp e
        refine Rn.hp hT rfl rfl (gR_hp e_4810) ?_
        refine Rn.n hT 1 (pc' := 28) (L' := [some (.ref q0), some (.int x1), some (.int x2)]) (st' := [.ref q0, .ref v_4809]) rfl ?_
        obtain ⟨v_4811, e_4812, e⟩ := Option.bind_eq_some_iff.mp e
        refine Rn.hp hT rfl rfl (gR_hp e_4812) ?_
        refine Rn.n hT 2 (pc' := 33) (L' := [some (.ref q0), some (.int x1), some (.int x2)]) (st' := [.int x2, .int x1, .ref v_4811, .ref v_4809]) rfl ?_
        obtain ⟨_, e_4814, e⟩ := Option.bind_eq_some_iff.mp e
        obtain ⟨v_4815, e_4813, e⟩ := Option.bind_eq_some_iff.mp e
        refine Rn.call hT rfl rfl rfl (Nat.le_of_ble_eq_true rfl) (rcv_v gX0_hearing (by omega) e_4814) (rX0_hearing (by omega) e_4813 ?_)
        show Rn d _ _ 36 [some (.ref q0), some (.int x1), some (.int x2)] [.int v_4815] h Q
        obtain ⟨v_4817, e_4816, e⟩ := Option.bind_eq_some_iff.mp e
        refine Rn.call hT rfl rfl rfl (Nat.le_of_ble_eq_true rfl) rfl (rJ6_bitCount_0f7a4 (by omega) e_4816 ?_)
        show Rn d _ _ 39 [some (.ref q0), some (.int x1), some (.int x2)] [.int v_4817] h Q
        obtain rfl := Option.some.inj e
        exact Rn.ret hT rfl rfl rfl hq
      · rw [if_neg c_4808] at e
        refine Rn.bf hT rfl rfl rfl (decide_eq_false c_4808) ?_
        exact Rn.weak (ll_n (ll_n (ll_n ll_e))) (rX11_gossip_b21 hd hq e)
set_option maxRecDepth 10000 in
theorem hX11_almanac : iv_Tb 171 tX11_almanac := iv_tb_of (m := mX11_almanac) rfl
set_option maxRecDepth 10000 in
theorem gX11_almanac : PG.2 171 = some mX11_almanac := iv_pi_of (t := tX11_almanac) rfl (by decide)
def fX11_almanac_b67 (N : Nat) (h : iv_H)  (s0 : Int32) : Option (Int32 × iv_H) := (some (s0, h))
set_option maxRecDepth 10000 in
set_option maxHeartbeats 4000000 in
theorem rX11_almanac_b67 {d N : Nat} (hd : 2 ≤ d) {h : iv_H}  {s0 : Int32} {r : Int32 × iv_H} {Q : Option Value → iv_H → Prop} (hq : Q (some (.int r.1)) r.2) (e : fX11_almanac_b67 N h  s0 = some r) : Rn d 171 (some .int) 67 [none, none, none, none, none] [.int s0] h Q := by
  have hT := hX11_almanac
  unfold fX11_almanac_b67 at e
  obtain rfl := Option.some.inj e
  exact Rn.ret hT rfl rfl rfl hq
def fX11_almanac_b65 (N : Nat) (h : iv_H)   : Option (Int32 × iv_H) := (fX11_almanac_b67 N h (-2 : Int32))
set_option maxRecDepth 10000 in
set_option maxHeartbeats 4000000 in
theorem rX11_almanac_b65 {d N : Nat} (hd : 2 ≤ d) {h : iv_H}   {r : Int32 × iv_H} {Q : Option Value → iv_H → Prop} (hq : Q (some (.int r.1)) r.2) (e : fX11_almanac_b65 N h   = some r) : Rn d 171 (some .int) 65 [none, none, none, none, none] [] h Q := by
  have hT := hX11_almanac
  unfold fX11_almanac_b65 at e
  refine Rn.n hT 1 (pc' := 67) (L' := [none, none, none, none, none]) (st' := [.int (-2 : Int32)]) rfl ?_
  exact Rn.weak (ll_n (ll_n (ll_n (ll_n (ll_n ll_e))))) (rX11_almanac_b67 hd hq e)
def fX11_almanac (N : Nat) (h : iv_H) (q0 : Nat) (x1 : Int32) (x2 : Int32) (x3 : Int32) : Option (Int32 × iv_H) := (if x1 = (-1 : Int32) then ((gR h 11 4 q0).bind fun v_4841 => ((gR h 2 16 v_4841).bind fun v_4843 => ((pV h 7 1 v_4843 (.int (0 : Int32))).bind fun h_4845 => (some ((0 : Int32), h_4845))))) else ((gR h 11 4 q0).bind fun v_4819 => ((cko h v_4819 2).bind fun _ => (fX2_walkOf N h v_4819 x1 x2 x3).bind fun v_4823 => (if v_4823 = (-1 : Int32) then (fX11_almanac_b65 N h) else ((gR h 11 4 q0).bind fun v_4825 => ((gR h 2 16 v_4825).bind fun v_4827 => ((cko h v_4827 7).bind fun _ => (fX7_add N h v_4827 ((v_4823).toInt64)).bind fun p_4840 => (fun (v_4831 : Int32) (h_4832 : iv_H) => (if v_4831 = 0 then (fX11_almanac_b65 N h_4832) else ((gR h_4832 11 4 q0).bind fun v_4834 => ((gR h_4832 2 16 v_4834).bind fun v_4836 => ((gI h_4832 7 1 v_4836).bind fun v_4838 => (fX11_almanac_b67 N h_4832 v_4838)))))) p_4840.1 p_4840.2)))))))
set_option maxRecDepth 10000 in
set_option maxHeartbeats 4000000 in
theorem rX11_almanac {d N : Nat} (hd : 3 ≤ d) {h : iv_H} {q0 : Nat} {x1 : Int32} {x2 : Int32} {x3 : Int32} {r : Int32 × iv_H} {Q : Option Value → iv_H → Prop} (e : fX11_almanac N h q0 x1 x2 x3 = some r) (hq : Q (some (.int r.1)) r.2) : Cl d 171 [.ref q0, .int x1, .int x2, .int x3] h Q := by
  obtain ⟨d, rfl⟩ : ∃ k, d = k + 1 := ⟨d - 1, by omega⟩
  have hd : 2 ≤ d := by omega
  have hT := hX11_almanac
  unfold fX11_almanac at e
  refine Cl.into (by decide) gX11_almanac rfl ?_
  show Rn d 171 (some .int) 0 [some (.ref q0), some (.int x1), some (.int x2), some (.int x3), none] [] h Q
  refine Rn.n hT 2 (pc' := 2) (L' := [some (.ref q0), some (.int x1), some (.int x2), some (.int x3), none]) (st' := [.int (-1 : Int32), .int x1]) rfl ?_
  by_cases c_4818 : x1 = (-1 : Int32)
  · rw [if_pos c_4818] at e
    refine Rn.bf hT rfl rfl rfl (decide_eq_false (fun z => z c_4818)) ?_
    refine Rn.n hT 1 (pc' := 6) (L' := [some (.ref q0), some (.int x1), some (.int x2), some (.int x3), none]) (st' := [.ref q0]) rfl ?_
    obtain ⟨v_4841, e_4842, e⟩ := Option.bind_eq_some_iff.mp e
    refine Rn.hp hT rfl rfl (gR_hp e_4842) ?_
    obtain ⟨v_4843, e_4844, e⟩ := Option.bind_eq_some_iff.mp e
    refine Rn.hp hT rfl rfl (gR_hp e_4844) ?_
    refine Rn.n hT 1 (pc' := 13) (L' := [some (.ref q0), some (.int x1), some (.int x2), some (.int x3), none]) (st' := [.int (0 : Int32), .ref v_4843]) rfl ?_
    obtain ⟨h_4845, e_4846, e⟩ := Option.bind_eq_some_iff.mp e
    refine Rn.hp hT rfl rfl (pV_hp rfl e_4846) ?_
    refine Rn.n hT 1 (pc' := 17) (L' := [some (.ref q0), some (.int x1), some (.int x2), some (.int x3), none]) (st' := [.int (0 : Int32)]) rfl ?_
    obtain rfl := Option.some.inj e
    exact Rn.ret hT rfl rfl rfl hq
  · rw [if_neg c_4818] at e
    refine Rn.bt hT rfl rfl rfl (decide_eq_true c_4818) ?_
    refine Rn.n hT 1 (pc' := 19) (L' := [some (.ref q0), some (.int x1), some (.int x2), some (.int x3), none]) (st' := [.ref q0]) rfl ?_
    obtain ⟨v_4819, e_4820, e⟩ := Option.bind_eq_some_iff.mp e
    refine Rn.hp hT rfl rfl (gR_hp e_4820) ?_
    refine Rn.n hT 3 (pc' := 25) (L' := [some (.ref q0), some (.int x1), some (.int x2), some (.int x3), none]) (st' := [.int x3, .int x2, .int x1, .ref v_4819]) rfl ?_
    obtain ⟨_, e_4822, e⟩ := Option.bind_eq_some_iff.mp e
    obtain ⟨v_4823, e_4821, e⟩ := Option.bind_eq_some_iff.mp e
    refine Rn.call hT rfl rfl rfl (Nat.le_of_ble_eq_true rfl) (rcv_v gX2_walkOf (by omega) e_4822) (rX2_walkOf (by omega) e_4821 ?_)
    show Rn d _ _ 28 [some (.ref q0), some (.int x1), some (.int x2), some (.int x3), none] [.int v_4823] h Q
    refine Rn.n hT 3 (pc' := 33) (L' := [some (.ref q0), some (.int x1), some (.int x2), some (.int x3), some (.int v_4823)]) (st' := [.int (-1 : Int32), .int v_4823]) rfl ?_
    by_cases c_4824 : v_4823 = (-1 : Int32)
    · rw [if_pos c_4824] at e
      refine Rn.bt hT rfl rfl rfl (decide_eq_true c_4824) ?_
      exact Rn.weak (ll_n (ll_n (ll_n (ll_n (ll_n ll_e))))) (rX11_almanac_b65 hd hq e)
    · rw [if_neg c_4824] at e
      refine Rn.bf hT rfl rfl rfl (decide_eq_false c_4824) ?_
      refine Rn.n hT 1 (pc' := 37) (L' := [some (.ref q0), some (.int x1), some (.int x2), some (.int x3), some (.int v_4823)]) (st' := [.ref q0]) rfl ?_
      obtain ⟨v_4825, e_4826, e⟩ := Option.bind_eq_some_iff.mp e
      refine Rn.hp hT rfl rfl (gR_hp e_4826) ?_
      obtain ⟨v_4827, e_4828, e⟩ := Option.bind_eq_some_iff.mp e
      refine Rn.hp hT rfl rfl (gR_hp e_4828) ?_
      refine Rn.n hT 2 (pc' := 46) (L' := [some (.ref q0), some (.int x1), some (.int x2), some (.int x3), some (.int v_4823)]) (st' := [.long ((v_4823).toInt64), .ref v_4827]) rfl ?_
      obtain ⟨_, e_4830, e⟩ := Option.bind_eq_some_iff.mp e
      obtain ⟨⟨v_4831, h_4832⟩, e_4829, e⟩ := Option.bind_eq_some_iff.mp e
      try dsimp only at e
      try dsimp only at e
      refine Rn.call hT rfl rfl rfl (Nat.le_of_ble_eq_true rfl) (rcv_v gX7_add (by omega) e_4830) (rX7_add (by omega) e_4829 ?_)
      show Rn d _ _ 49 [some (.ref q0), some (.int x1), some (.int x2), some (.int x3), some (.int v_4823)] [.int v_4831] h_4832 Q
      by_cases c_4833 : v_4831 = 0
      · rw [if_pos c_4833] at e
        refine Rn.bt hT rfl rfl rfl (decide_eq_true c_4833) ?_
        exact Rn.weak (ll_n (ll_n (ll_n (ll_n (ll_n ll_e))))) (rX11_almanac_b65 hd hq e)
      · rw [if_neg c_4833] at e
        refine Rn.bf hT rfl rfl rfl (decide_eq_false c_4833) ?_
        refine Rn.n hT 1 (pc' := 53) (L' := [some (.ref q0), some (.int x1), some (.int x2), some (.int x3), some (.int v_4823)]) (st' := [.ref q0]) rfl ?_
        obtain ⟨v_4834, e_4835, e⟩ := Option.bind_eq_some_iff.mp e
        refine Rn.hp hT rfl rfl (gR_hp e_4835) ?_
        obtain ⟨v_4836, e_4837, e⟩ := Option.bind_eq_some_iff.mp e
        refine Rn.hp hT rfl rfl (gR_hp e_4837) ?_
        obtain ⟨v_4838, e_4839, e⟩ := Option.bind_eq_some_iff.mp e
        refine Rn.hp hT rfl rfl (gI_hp e_4839) ?_
        refine Rn.n hT 1 (pc' := 67) (L' := [some (.ref q0), some (.int x1), some (.int x2), some (.int x3), some (.int v_4823)]) (st' := [.int v_4838]) rfl ?_
        exact Rn.weak (ll_n (ll_n (ll_n (ll_n (ll_n ll_e))))) (rX11_almanac_b67 hd hq e)
set_option maxRecDepth 10000 in
theorem hX11_would : iv_Tb 172 tX11_would := iv_tb_of (m := mX11_would) rfl
set_option maxRecDepth 10000 in
theorem gX11_would : PG.2 172 = some mX11_would := iv_pi_of (t := tX11_would) rfl (by decide)
def fX11_would_b38 (N : Nat) (h : iv_H)   : Option (Int32 × iv_H) := (some ((-1 : Int32), h))
set_option maxRecDepth 10000 in
set_option maxHeartbeats 4000000 in
theorem rX11_would_b38 {d N : Nat} (hd : 6 ≤ d) {h : iv_H}   {r : Int32 × iv_H} {Q : Option Value → iv_H → Prop} (hq : Q (some (.int r.1)) r.2) (e : fX11_would_b38 N h   = some r) : Rn d 172 (some .int) 38 [none, none, none, none] [] h Q := by
  have hT := hX11_would
  unfold fX11_would_b38 at e
  refine Rn.n hT 1 (pc' := 39) (L' := [none, none, none, none]) (st' := [.int (-1 : Int32)]) rfl ?_
  obtain rfl := Option.some.inj e
  exact Rn.ret hT rfl rfl rfl hq
def fX11_would_b100 (N : Nat) (h : iv_H)  (s0 : Int32) : Option (Int32 × iv_H) := (some (s0, h))
set_option maxRecDepth 10000 in
set_option maxHeartbeats 4000000 in
theorem rX11_would_b100 {d N : Nat} (hd : 6 ≤ d) {h : iv_H}  {s0 : Int32} {r : Int32 × iv_H} {Q : Option Value → iv_H → Prop} (hq : Q (some (.int r.1)) r.2) (e : fX11_would_b100 N h  s0 = some r) : Rn d 172 (some .int) 100 [none, none, none, none] [.int s0] h Q := by
  have hT := hX11_would
  unfold fX11_would_b100 at e
  obtain rfl := Option.some.inj e
  exact Rn.ret hT rfl rfl rfl hq
def fX11_would (N : Nat) (h : iv_H) (q0 : Nat) (x1 : Int32) (x2 : Int32) (x3 : Int32) : Option (Int32 × iv_H) := ((gR h 11 4 q0).bind fun v_4847 => ((cko h v_4847 2).bind fun _ => (fX2_isRoom N h v_4847 x1).bind fun v_4851 => (if v_4851 = 0 then (fX11_would_b38 N h) else (if x2 < 0 then (fX11_would_b38 N h) else ((gR h 11 4 q0).bind fun v_4854 => ((gR h 2 16 v_4854).bind fun v_4856 => ((gI h 7 1 v_4856).bind fun v_4858 => (if v_4858 < x2 then (fX11_would_b38 N h) else (if x3 < 0 then (fX11_would_b38 N h) else (if x3 ≤ (2 : Int32) then ((gR h 11 11 q0).bind fun v_4863 => ((gR h 11 4 q0).bind fun v_4865 => ((cko h q0 11).bind fun _ => (fX11_ruleInForce N h q0).bind fun v_4869 => ((cko h v_4863 10).bind fun _ => (fX10_liveTo N h v_4863 v_4865 v_4869 x2).bind fun h_4873 => (if x3 = (2 : Int32) then ((gR h_4873 11 11 q0).bind fun v_4892 => ((gI h_4873 10 2 v_4892).bind fun v_4894 => (some (v_4894, h_4873)))) else (if x3 = 0 then ((gR h_4873 11 11 q0).bind fun v_4884 => ((gR h_4873 10 0 v_4884).bind fun v_4886 => ((gR h_4873 1 5 v_4886).bind fun v_4888 => ((aI h_4873 v_4888 x1).bind fun v_4890 => (fX11_would_b100 N h_4873 v_4890))))) else ((gR h_4873 11 11 q0).bind fun v_4876 => ((gR h_4873 10 0 v_4876).bind fun v_4878 => ((gR h_4873 1 6 v_4878).bind fun v_4880 => ((aI h_4873 v_4880 x1).bind fun v_4882 => (fX11_would_b100 N h_4873 v_4882))))))))))) else (fX11_would_b38 N h)))))))))))
set_option maxRecDepth 10000 in
set_option maxHeartbeats 4000000 in
theorem rX11_would {d N : Nat} (hd : 7 ≤ d) {h : iv_H} {q0 : Nat} {x1 : Int32} {x2 : Int32} {x3 : Int32} {r : Int32 × iv_H} {Q : Option Value → iv_H → Prop} (e : fX11_would N h q0 x1 x2 x3 = some r) (hq : Q (some (.int r.1)) r.2) : Cl d 172 [.ref q0, .int x1, .int x2, .int x3] h Q := by
  obtain ⟨d, rfl⟩ : ∃ k, d = k + 1 := ⟨d - 1, by omega⟩
  have hd : 6 ≤ d := by omega
  have hT := hX11_would
  unfold fX11_would at e
  refine Cl.into (by decide) gX11_would rfl ?_
  show Rn d 172 (some .int) 0 [some (.ref q0), some (.int x1), some (.int x2), some (.int x3)] [] h Q
  refine Rn.n hT 1 (pc' := 1) (L' := [some (.ref q0), some (.int x1), some (.int x2), some (.int x3)]) (st' := [.ref q0]) rfl ?_
  obtain ⟨v_4847, e_4848, e⟩ := Option.bind_eq_some_iff.mp e
  refine Rn.hp hT rfl rfl (gR_hp e_4848) ?_
  refine Rn.n hT 1 (pc' := 5) (L' := [some (.ref q0), some (.int x1), some (.int x2), some (.int x3)]) (st' := [.int x1, .ref v_4847]) rfl ?_
  obtain ⟨_, e_4850, e⟩ := Option.bind_eq_some_iff.mp e
  obtain ⟨v_4851, e_4849, e⟩ := Option.bind_eq_some_iff.mp e
  refine Rn.call hT rfl rfl rfl (Nat.le_of_ble_eq_true rfl) (rcv_v gX2_isRoom (by omega) e_4850) (rX2_isRoom (by omega) e_4849 ?_)
  show Rn d _ _ 8 [some (.ref q0), some (.int x1), some (.int x2), some (.int x3)] [.int v_4851] h Q
  by_cases c_4852 : v_4851 = 0
  · rw [if_pos c_4852] at e
    refine Rn.bt hT rfl rfl rfl (decide_eq_true c_4852) ?_
    exact Rn.weak (ll_n (ll_n (ll_n (ll_n ll_e)))) (rX11_would_b38 hd hq e)
  · rw [if_neg c_4852] at e
    refine Rn.bf hT rfl rfl rfl (decide_eq_false c_4852) ?_
    refine Rn.n hT 1 (pc' := 12) (L' := [some (.ref q0), some (.int x1), some (.int x2), some (.int x3)]) (st' := [.int x2]) rfl ?_
    by_cases c_4853 : x2 < 0
    · rw [if_pos c_4853] at e
      refine Rn.bt hT rfl rfl rfl (decide_eq_true c_4853) ?_
      exact Rn.weak (ll_n (ll_n (ll_n (ll_n ll_e)))) (rX11_would_b38 hd hq e)
    · rw [if_neg c_4853] at e
      refine Rn.bf hT rfl rfl rfl (decide_eq_false c_4853) ?_
      refine Rn.n hT 2 (pc' := 17) (L' := [some (.ref q0), some (.int x1), some (.int x2), some (.int x3)]) (st' := [.ref q0, .int x2]) rfl ?_
      obtain ⟨v_4854, e_4855, e⟩ := Option.bind_eq_some_iff.mp e
      refine Rn.hp hT rfl rfl (gR_hp e_4855) ?_
      obtain ⟨v_4856, e_4857, e⟩ := Option.bind_eq_some_iff.mp e
      refine Rn.hp hT rfl rfl (gR_hp e_4857) ?_
      obtain ⟨v_4858, e_4859, e⟩ := Option.bind_eq_some_iff.mp e
      refine Rn.hp hT rfl rfl (gI_hp e_4859) ?_
      by_cases c_4860 : v_4858 < x2
      · rw [if_pos c_4860] at e
        refine Rn.bt hT rfl rfl rfl (decide_eq_true c_4860) ?_
        exact Rn.weak (ll_n (ll_n (ll_n (ll_n ll_e)))) (rX11_would_b38 hd hq e)
      · rw [if_neg c_4860] at e
        refine Rn.bf hT rfl rfl rfl (decide_eq_false c_4860) ?_
        refine Rn.n hT 1 (pc' := 30) (L' := [some (.ref q0), some (.int x1), some (.int x2), some (.int x3)]) (st' := [.int x3]) rfl ?_
        by_cases c_4861 : x3 < 0
        · rw [if_pos c_4861] at e
          refine Rn.bt hT rfl rfl rfl (decide_eq_true c_4861) ?_
          exact Rn.weak (ll_n (ll_n (ll_n (ll_n ll_e)))) (rX11_would_b38 hd hq e)
        · rw [if_neg c_4861] at e
          refine Rn.bf hT rfl rfl rfl (decide_eq_false c_4861) ?_
          refine Rn.n hT 2 (pc' := 35) (L' := [some (.ref q0), some (.int x1), some (.int x2), some (.int x3)]) (st' := [.int (2 : Int32), .int x3]) rfl ?_
          by_cases c_4862 : x3 ≤ (2 : Int32)
          · rw [if_pos c_4862] at e
            refine Rn.bt hT rfl rfl rfl (decide_eq_true c_4862) ?_
            refine Rn.n hT 1 (pc' := 41) (L' := [some (.ref q0), some (.int x1), some (.int x2), some (.int x3)]) (st' := [.ref q0]) rfl ?_
            obtain ⟨v_4863, e_4864, e⟩ := Option.bind_eq_some_iff.mp e
            refine Rn.hp hT rfl rfl (gR_hp e_4864) ?_
            refine Rn.n hT 1 (pc' := 45) (L' := [some (.ref q0), some (.int x1), some (.int x2), some (.int x3)]) (st' := [.ref q0, .ref v_4863]) rfl ?_
            obtain ⟨v_4865, e_4866, e⟩ := Option.bind_eq_some_iff.mp e
            refine Rn.hp hT rfl rfl (gR_hp e_4866) ?_
            refine Rn.n hT 1 (pc' := 49) (L' := [some (.ref q0), some (.int x1), some (.int x2), some (.int x3)]) (st' := [.ref q0, .ref v_4865, .ref v_4863]) rfl ?_
            obtain ⟨_, e_4868, e⟩ := Option.bind_eq_some_iff.mp e
            obtain ⟨v_4869, e_4867, e⟩ := Option.bind_eq_some_iff.mp e
            refine Rn.call hT rfl rfl rfl (Nat.le_of_ble_eq_true rfl) (rcv_v gX11_ruleInForce (by omega) e_4868) (rX11_ruleInForce (by omega) e_4867 ?_)
            show Rn d _ _ 52 [some (.ref q0), some (.int x1), some (.int x2), some (.int x3)] [iv_rf v_4869, .ref v_4865, .ref v_4863] h Q
            refine Rn.n hT 1 (pc' := 53) (L' := [some (.ref q0), some (.int x1), some (.int x2), some (.int x3)]) (st' := [.int x2, iv_rf v_4869, .ref v_4865, .ref v_4863]) rfl ?_
            obtain ⟨_, e_4871, e⟩ := Option.bind_eq_some_iff.mp e
            obtain ⟨h_4873, e_4870, e⟩ := Option.bind_eq_some_iff.mp e
            refine Rn.call hT rfl rfl rfl (Nat.le_of_ble_eq_true rfl) (rcv_v gX10_liveTo (by omega) e_4871) (rX10_liveTo (by omega) e_4870 ?_)
            show Rn d _ _ 56 [some (.ref q0), some (.int x1), some (.int x2), some (.int x3)] [] h_4873 Q
            refine Rn.n hT 2 (pc' := 58) (L' := [some (.ref q0), some (.int x1), some (.int x2), some (.int x3)]) (st' := [.int (2 : Int32), .int x3]) rfl ?_
            by_cases c_4874 : x3 = (2 : Int32)
            · rw [if_pos c_4874] at e
              refine Rn.bf hT rfl rfl rfl (decide_eq_false (fun z => z c_4874)) ?_
              refine Rn.n hT 1 (pc' := 62) (L' := [some (.ref q0), some (.int x1), some (.int x2), some (.int x3)]) (st' := [.ref q0]) rfl ?_
              obtain ⟨v_4892, e_4893, e⟩ := Option.bind_eq_some_iff.mp e
              refine Rn.hp hT rfl rfl (gR_hp e_4893) ?_
              obtain ⟨v_4894, e_4895, e⟩ := Option.bind_eq_some_iff.mp e
              refine Rn.hp hT rfl rfl (gI_hp e_4895) ?_
              obtain rfl := Option.some.inj e
              exact Rn.ret hT rfl rfl rfl hq
            · rw [if_neg c_4874] at e
              refine Rn.bt hT rfl rfl rfl (decide_eq_true c_4874) ?_
              refine Rn.n hT 1 (pc' := 70) (L' := [some (.ref q0), some (.int x1), some (.int x2), some (.int x3)]) (st' := [.int x3]) rfl ?_
              by_cases c_4875 : x3 = 0
              · rw [if_pos c_4875] at e
                refine Rn.bf hT rfl rfl rfl (decide_eq_false (fun z => z c_4875)) ?_
                refine Rn.n hT 1 (pc' := 74) (L' := [some (.ref q0), some (.int x1), some (.int x2), some (.int x3)]) (st' := [.ref q0]) rfl ?_
                obtain ⟨v_4884, e_4885, e⟩ := Option.bind_eq_some_iff.mp e
                refine Rn.hp hT rfl rfl (gR_hp e_4885) ?_
                obtain ⟨v_4886, e_4887, e⟩ := Option.bind_eq_some_iff.mp e
                refine Rn.hp hT rfl rfl (gR_hp e_4887) ?_
                obtain ⟨v_4888, e_4889, e⟩ := Option.bind_eq_some_iff.mp e
                refine Rn.hp hT rfl rfl (gR_hp e_4889) ?_
                refine Rn.n hT 1 (pc' := 84) (L' := [some (.ref q0), some (.int x1), some (.int x2), some (.int x3)]) (st' := [.int x1, .ref v_4888]) rfl ?_
                obtain ⟨v_4890, e_4891, e⟩ := Option.bind_eq_some_iff.mp e
                refine Rn.hp hT rfl rfl (aI_hp e_4891) ?_
                refine Rn.n hT 1 (pc' := 100) (L' := [some (.ref q0), some (.int x1), some (.int x2), some (.int x3)]) (st' := [.int v_4890]) rfl ?_
                exact Rn.weak (ll_n (ll_n (ll_n (ll_n ll_e)))) (rX11_would_b100 hd hq e)
              · rw [if_neg c_4875] at e
                refine Rn.bt hT rfl rfl rfl (decide_eq_true c_4875) ?_
                refine Rn.n hT 1 (pc' := 89) (L' := [some (.ref q0), some (.int x1), some (.int x2), some (.int x3)]) (st' := [.ref q0]) rfl ?_
                obtain ⟨v_4876, e_4877, e⟩ := Option.bind_eq_some_iff.mp e
                refine Rn.hp hT rfl rfl (gR_hp e_4877) ?_
                obtain ⟨v_4878, e_4879, e⟩ := Option.bind_eq_some_iff.mp e
                refine Rn.hp hT rfl rfl (gR_hp e_4879) ?_
                obtain ⟨v_4880, e_4881, e⟩ := Option.bind_eq_some_iff.mp e
                refine Rn.hp hT rfl rfl (gR_hp e_4881) ?_
                refine Rn.n hT 1 (pc' := 99) (L' := [some (.ref q0), some (.int x1), some (.int x2), some (.int x3)]) (st' := [.int x1, .ref v_4880]) rfl ?_
                obtain ⟨v_4882, e_4883, e⟩ := Option.bind_eq_some_iff.mp e
                refine Rn.hp hT rfl rfl (aI_hp e_4883) ?_
                exact Rn.weak (ll_n (ll_n (ll_n (ll_n ll_e)))) (rX11_would_b100 hd hq e)
          · rw [if_neg c_4862] at e
            refine Rn.bf hT rfl rfl rfl (decide_eq_false c_4862) ?_
            exact Rn.weak (ll_n (ll_n (ll_n (ll_n ll_e)))) (rX11_would_b38 hd hq e)
set_option maxRecDepth 10000 in
theorem hX11_follow : iv_Tb 173 tX11_follow := iv_tb_of (m := mX11_follow) rfl
set_option maxRecDepth 10000 in
theorem gX11_follow : PG.2 173 = some mX11_follow := iv_pi_of (t := tX11_follow) rfl (by decide)
def fX11_follow_b109 (N : Nat) (h : iv_H) (q0 : Nat) (x2 : Int32) (s0 : Int32) (s1 : Int32) (kb : iv_H → Int32 → Int32 → Option (Int32 × iv_H)) (kx : iv_H → Int32 → Option (Int32 × iv_H)) : Option (Int32 × iv_H) := (kb h (s1 + s0) (x2 + (1 : Int32)))
set_option maxRecDepth 10000 in
set_option maxHeartbeats 4000000 in
theorem rX11_follow_b109 {d N : Nat} (hd : 4 ≤ d) {h : iv_H} {q0 : Nat} {x2 : Int32} {s0 : Int32} {s1 : Int32} {kb : iv_H → Int32 → Int32 → Option (Int32 × iv_H)} {kx : iv_H → Int32 → Option (Int32 × iv_H)} {r : Int32 × iv_H} {Q : Option Value → iv_H → Prop} (hb : ∀ (h : iv_H) (w1 : Int32) (w2 : Int32), kb h w1 w2 = some r → Rn d 173 (some .int) 16 [some (.ref q0), some (.int w1), some (.int w2), none, none] [] h Q) (hk : ∀ (h : iv_H) (w1 : Int32), kx h w1 = some r → Rn d 173 (some .int) 117 [some (.ref q0), some (.int w1), none, none, none] [] h Q) (hq : Q (some (.int r.1)) r.2) (e : fX11_follow_b109 N h q0 x2 s0 s1 kb kx = some r) : Rn d 173 (some .int) 109 [some (.ref q0), none, some (.int x2), none, none] [.int s0, .int s1] h Q := by
  have hT := hX11_follow
  unfold fX11_follow_b109 at e
  refine Rn.n hT 4 (pc' := 16) (L' := [some (.ref q0), some (.int (s1 + s0)), some (.int (x2 + (1 : Int32))), none, none]) (st' := []) rfl ?_
  exact Rn.weak (ll_s (ll_s (ll_s (ll_n (ll_n ll_e))))) (hb h (s1 + s0) (x2 + (1 : Int32)) e)
def fX11_follow_b95 (N : Nat) (h : iv_H) (q0 : Nat) (x1 : Int32) (x2 : Int32) (x4 : Int32) (s0 : Int32) (sq1 : Nat) (kb : iv_H → Int32 → Int32 → Option (Int32 × iv_H)) (kx : iv_H → Int32 → Option (Int32 × iv_H)) : Option (Int32 × iv_H) := ((cko h sq1 11).bind fun _ => (fX11_nightComes N h sq1 s0).bind fun h_4951 => (if x4 = 0 then (fX11_follow_b109 N h_4951 q0 x2 (1 : Int32) x1 kb kx) else (fX11_follow_b109 N h_4951 q0 x2 (0 : Int32) x1 kb kx)))
set_option maxRecDepth 10000 in
set_option maxHeartbeats 4000000 in
theorem rX11_follow_b95 {d N : Nat} (hd : 4 ≤ d) {h : iv_H} {q0 : Nat} {x1 : Int32} {x2 : Int32} {x4 : Int32} {s0 : Int32} {sq1 : Nat} {kb : iv_H → Int32 → Int32 → Option (Int32 × iv_H)} {kx : iv_H → Int32 → Option (Int32 × iv_H)} {r : Int32 × iv_H} {Q : Option Value → iv_H → Prop} (hb : ∀ (h : iv_H) (w1 : Int32) (w2 : Int32), kb h w1 w2 = some r → Rn d 173 (some .int) 16 [some (.ref q0), some (.int w1), some (.int w2), none, none] [] h Q) (hk : ∀ (h : iv_H) (w1 : Int32), kx h w1 = some r → Rn d 173 (some .int) 117 [some (.ref q0), some (.int w1), none, none, none] [] h Q) (hq : Q (some (.int r.1)) r.2) (e : fX11_follow_b95 N h q0 x1 x2 x4 s0 sq1 kb kx = some r) : Rn d 173 (some .int) 95 [some (.ref q0), some (.int x1), some (.int x2), none, some (.int x4)] [.int s0, .ref sq1] h Q := by
  have hT := hX11_follow
  unfold fX11_follow_b95 at e
  obtain ⟨_, e_4949, e⟩ := Option.bind_eq_some_iff.mp e
  obtain ⟨h_4951, e_4948, e⟩ := Option.bind_eq_some_iff.mp e
  refine Rn.call hT rfl rfl rfl (Nat.le_of_ble_eq_true rfl) (rcv_v gX11_nightComes (by omega) e_4949) (rX11_nightComes (by omega) e_4948 ?_)
  show Rn d _ _ 98 [some (.ref q0), some (.int x1), some (.int x2), none, some (.int x4)] [] h_4951 Q
  refine Rn.n hT 2 (pc' := 101) (L' := [some (.ref q0), some (.int x1), some (.int x2), none, some (.int x4)]) (st' := [.int x4, .int x1]) rfl ?_
  by_cases c_4952 : x4 = 0
  · rw [if_pos c_4952] at e
    refine Rn.bt hT rfl rfl rfl (decide_eq_true c_4952) ?_
    refine Rn.n hT 1 (pc' := 109) (L' := [some (.ref q0), some (.int x1), some (.int x2), none, some (.int x4)]) (st' := [.int (1 : Int32), .int x1]) rfl ?_
    exact Rn.weak (ll_s (ll_n (ll_s (ll_n (ll_n ll_e))))) (rX11_follow_b109 hd hb hk hq e)
  · rw [if_neg c_4952] at e
    refine Rn.bf hT rfl rfl rfl (decide_eq_false c_4952) ?_
    refine Rn.n hT 2 (pc' := 109) (L' := [some (.ref q0), some (.int x1), some (.int x2), none, some (.int x4)]) (st' := [.int (0 : Int32), .int x1]) rfl ?_
    exact Rn.weak (ll_s (ll_n (ll_s (ll_n (ll_n ll_e))))) (rX11_follow_b109 hd hb hk hq e)
def fX11_follow_b82 (N : Nat) (h : iv_H) (q0 : Nat) (x1 : Int32) (x2 : Int32) (x3 : Int32) (s0 : Int32) (kb : iv_H → Int32 → Int32 → Option (Int32 × iv_H)) (kx : iv_H → Int32 → Option (Int32 × iv_H)) : Option (Int32 × iv_H) := (if s0 = 0 then (fX11_follow_b95 N h q0 x1 x2 s0 (-1 : Int32) q0 kb kx) else (fX11_follow_b95 N h q0 x1 x2 s0 x3 q0 kb kx))
set_option maxRecDepth 10000 in
set_option maxHeartbeats 4000000 in
theorem rX11_follow_b82 {d N : Nat} (hd : 4 ≤ d) {h : iv_H} {q0 : Nat} {x1 : Int32} {x2 : Int32} {x3 : Int32} {s0 : Int32} {kb : iv_H → Int32 → Int32 → Option (Int32 × iv_H)} {kx : iv_H → Int32 → Option (Int32 × iv_H)} {r : Int32 × iv_H} {Q : Option Value → iv_H → Prop} (hb : ∀ (h : iv_H) (w1 : Int32) (w2 : Int32), kb h w1 w2 = some r → Rn d 173 (some .int) 16 [some (.ref q0), some (.int w1), some (.int w2), none, none] [] h Q) (hk : ∀ (h : iv_H) (w1 : Int32), kx h w1 = some r → Rn d 173 (some .int) 117 [some (.ref q0), some (.int w1), none, none, none] [] h Q) (hq : Q (some (.int r.1)) r.2) (e : fX11_follow_b82 N h q0 x1 x2 x3 s0 kb kx = some r) : Rn d 173 (some .int) 82 [some (.ref q0), some (.int x1), some (.int x2), some (.int x3), none] [.int s0] h Q := by
  have hT := hX11_follow
  unfold fX11_follow_b82 at e
  refine Rn.n hT 3 (pc' := 87) (L' := [some (.ref q0), some (.int x1), some (.int x2), some (.int x3), some (.int s0)]) (st' := [.int s0, .ref q0]) rfl ?_
  by_cases c_4947 : s0 = 0
  · rw [if_pos c_4947] at e
    refine Rn.bt hT rfl rfl rfl (decide_eq_true c_4947) ?_
    refine Rn.n hT 1 (pc' := 95) (L' := [some (.ref q0), some (.int x1), some (.int x2), some (.int x3), some (.int s0)]) (st' := [.int (-1 : Int32), .ref q0]) rfl ?_
    exact Rn.weak (ll_s (ll_s (ll_s (ll_n (ll_s ll_e))))) (rX11_follow_b95 hd hb hk hq e)
  · rw [if_neg c_4947] at e
    refine Rn.bf hT rfl rfl rfl (decide_eq_false c_4947) ?_
    refine Rn.n hT 2 (pc' := 95) (L' := [some (.ref q0), some (.int x1), some (.int x2), some (.int x3), some (.int s0)]) (st' := [.int x3, .ref q0]) rfl ?_
    exact Rn.weak (ll_s (ll_s (ll_s (ll_n (ll_s ll_e))))) (rX11_follow_b95 hd hb hk hq e)
def fX11_follow_l16 (N : Nat) (q0 : Nat) (kx : iv_H → Int32 → Option (Int32 × iv_H)) : Nat → iv_H → Int32 → Int32 → Option (Int32 × iv_H)
  | 0, _, _, _ => none
  | n + 1, h, x1, x2 => ((gR h 11 4 q0).bind fun v_4909 => ((gR h 2 16 v_4909).bind fun v_4911 => ((gI h 7 1 v_4911).bind fun v_4913 => (if v_4913 ≤ x2 then (kx h x1) else ((gR h 11 4 q0).bind fun v_4916 => ((gR h 2 16 v_4916).bind fun v_4918 => ((gR h 7 0 v_4918).bind fun v_4920 => ((aJ h v_4920 x2).bind fun v_4922 => ((gR h 11 9 q0).bind fun v_4924 => ((gR h 11 4 q0).bind fun v_4926 => ((gR h 11 4 q0).bind fun v_4928 => ((gR h 2 9 v_4928).bind fun v_4930 => ((cko h q0 11).bind fun _ => (fX11_ruleInForce N h q0).bind fun v_4934 => ((cko h v_4924 3).bind fun _ => (fX3_open N h v_4924 v_4926 v_4930 v_4934).bind fun h_4938 => ((gR h_4938 11 9 q0).bind fun v_4939 => ((cko h_4938 v_4939 3).bind fun _ => (fX3_broken N h_4938 v_4939 ((v_4922).toInt32)).bind fun p_4946 => (fun (v_4943 : Int32) (h_4944 : iv_H) => (if v_4943 = 0 then (fX11_follow_b82 N h_4944 q0 x1 x2 ((v_4922).toInt32) (1 : Int32) (fX11_follow_l16 N q0 kx n) kx) else (fX11_follow_b82 N h_4944 q0 x1 x2 ((v_4922).toInt32) (0 : Int32) (fX11_follow_l16 N q0 kx n) kx))) p_4946.1 p_4946.2))))))))))))))))
set_option maxRecDepth 10000 in
set_option maxHeartbeats 4000000 in
theorem rX11_follow_l16 {d N : Nat} (hd : 4 ≤ d) {q0 : Nat} {kx : iv_H → Int32 → Option (Int32 × iv_H)} {r : Int32 × iv_H} {Q : Option Value → iv_H → Prop} (hk : ∀ (h : iv_H) (x1 : Int32), kx h x1 = some r → Rn d 173 (some .int) 117 [some (.ref q0), some (.int x1), none, none, none] [] h Q) (hq : Q (some (.int r.1)) r.2) : ∀ (n : Nat) (h : iv_H) (x1 : Int32) (x2 : Int32), fX11_follow_l16 N q0 kx n h x1 x2 = some r → Rn d 173 (some .int) 16 [some (.ref q0), some (.int x1), some (.int x2), none, none] [] h Q := by
  have hT := hX11_follow
  intro n
  induction n with
  | zero =>
    intro h x1 x2 e
    rw [fX11_follow_l16] at e
    cases e
  | succ n ih =>
    intro h x1 x2 e
    rw [fX11_follow_l16] at e
    refine Rn.n hT 2 (pc' := 18) (L' := [some (.ref q0), some (.int x1), some (.int x2), none, none]) (st' := [.ref q0, .int x2]) rfl ?_
    obtain ⟨v_4909, e_4910, e⟩ := Option.bind_eq_some_iff.mp e
    refine Rn.hp hT rfl rfl (gR_hp e_4910) ?_
    obtain ⟨v_4911, e_4912, e⟩ := Option.bind_eq_some_iff.mp e
    refine Rn.hp hT rfl rfl (gR_hp e_4912) ?_
    obtain ⟨v_4913, e_4914, e⟩ := Option.bind_eq_some_iff.mp e
    refine Rn.hp hT rfl rfl (gI_hp e_4914) ?_
    by_cases c_4915 : v_4913 ≤ x2
    · rw [if_pos c_4915] at e
      refine Rn.bt hT rfl rfl rfl (decide_eq_true c_4915) ?_
      exact Rn.weak (ll_s (ll_s (ll_n (ll_n (ll_n ll_e))))) (hk h x1 e)
    · rw [if_neg c_4915] at e
      refine Rn.bf hT rfl rfl rfl (decide_eq_false c_4915) ?_
      refine Rn.n hT 1 (pc' := 31) (L' := [some (.ref q0), some (.int x1), some (.int x2), none, none]) (st' := [.ref q0]) rfl ?_
      obtain ⟨v_4916, e_4917, e⟩ := Option.bind_eq_some_iff.mp e
      refine Rn.hp hT rfl rfl (gR_hp e_4917) ?_
      obtain ⟨v_4918, e_4919, e⟩ := Option.bind_eq_some_iff.mp e
      refine Rn.hp hT rfl rfl (gR_hp e_4919) ?_
      obtain ⟨v_4920, e_4921, e⟩ := Option.bind_eq_some_iff.mp e
      refine Rn.hp hT rfl rfl (gR_hp e_4921) ?_
      refine Rn.n hT 1 (pc' := 41) (L' := [some (.ref q0), some (.int x1), some (.int x2), none, none]) (st' := [.int x2, .ref v_4920]) rfl ?_
      obtain ⟨v_4922, e_4923, e⟩ := Option.bind_eq_some_iff.mp e
      refine Rn.hp hT rfl rfl (aJ_hp e_4923) ?_
      refine Rn.n hT 3 (pc' := 45) (L' := [some (.ref q0), some (.int x1), some (.int x2), some (.int ((v_4922).toInt32)), none]) (st' := [.ref q0]) rfl ?_
      obtain ⟨v_4924, e_4925, e⟩ := Option.bind_eq_some_iff.mp e
      refine Rn.hp hT rfl rfl (gR_hp e_4925) ?_
      refine Rn.n hT 1 (pc' := 49) (L' := [some (.ref q0), some (.int x1), some (.int x2), some (.int ((v_4922).toInt32)), none]) (st' := [.ref q0, .ref v_4924]) rfl ?_
      obtain ⟨v_4926, e_4927, e⟩ := Option.bind_eq_some_iff.mp e
      refine Rn.hp hT rfl rfl (gR_hp e_4927) ?_
      refine Rn.n hT 1 (pc' := 53) (L' := [some (.ref q0), some (.int x1), some (.int x2), some (.int ((v_4922).toInt32)), none]) (st' := [.ref q0, .ref v_4926, .ref v_4924]) rfl ?_
      obtain ⟨v_4928, e_4929, e⟩ := Option.bind_eq_some_iff.mp e
      refine Rn.hp hT rfl rfl (gR_hp e_4929) ?_
      obtain ⟨v_4930, e_4931, e⟩ := Option.bind_eq_some_iff.mp e
      refine Rn.hp hT rfl rfl (gR_hp e_4931) ?_
      refine Rn.n hT 1 (pc' := 60) (L' := [some (.ref q0), some (.int x1), some (.int x2), some (.int ((v_4922).toInt32)), none]) (st' := [.ref q0, .ref v_4930, .ref v_4926, .ref v_4924]) rfl ?_
      obtain ⟨_, e_4933, e⟩ := Option.bind_eq_some_iff.mp e
      obtain ⟨v_4934, e_4932, e⟩ := Option.bind_eq_some_iff.mp e
      refine Rn.call hT rfl rfl rfl (Nat.le_of_ble_eq_true rfl) (rcv_v gX11_ruleInForce (by omega) e_4933) (rX11_ruleInForce (by omega) e_4932 ?_)
      show Rn d _ _ 63 [some (.ref q0), some (.int x1), some (.int x2), some (.int ((v_4922).toInt32)), none] [iv_rf v_4934, .ref v_4930, .ref v_4926, .ref v_4924] h Q
      obtain ⟨_, e_4936, e⟩ := Option.bind_eq_some_iff.mp e
      obtain ⟨h_4938, e_4935, e⟩ := Option.bind_eq_some_iff.mp e
      refine Rn.call hT rfl rfl rfl (Nat.le_of_ble_eq_true rfl) (rcv_v gX3_open (by omega) e_4936) (rX3_open (by omega) e_4935 ?_)
      show Rn d _ _ 66 [some (.ref q0), some (.int x1), some (.int x2), some (.int ((v_4922).toInt32)), none] [] h_4938 Q
      refine Rn.n hT 1 (pc' := 67) (L' := [some (.ref q0), some (.int x1), some (.int x2), some (.int ((v_4922).toInt32)), none]) (st' := [.ref q0]) rfl ?_
      obtain ⟨v_4939, e_4940, e⟩ := Option.bind_eq_some_iff.mp e
      refine Rn.hp hT rfl rfl (gR_hp e_4940) ?_
      refine Rn.n hT 1 (pc' := 71) (L' := [some (.ref q0), some (.int x1), some (.int x2), some (.int ((v_4922).toInt32)), none]) (st' := [.int ((v_4922).toInt32), .ref v_4939]) rfl ?_
      obtain ⟨_, e_4942, e⟩ := Option.bind_eq_some_iff.mp e
      obtain ⟨⟨v_4943, h_4944⟩, e_4941, e⟩ := Option.bind_eq_some_iff.mp e
      try dsimp only at e
      try dsimp only at e
      refine Rn.call hT rfl rfl rfl (Nat.le_of_ble_eq_true rfl) (rcv_v gX3_broken (by omega) e_4942) (rX3_broken (by omega) e_4941 ?_)
      show Rn d _ _ 74 [some (.ref q0), some (.int x1), some (.int x2), some (.int ((v_4922).toInt32)), none] [.int v_4943] h_4944 Q
      by_cases c_4945 : v_4943 = 0
      · rw [if_pos c_4945] at e
        refine Rn.bf hT rfl rfl rfl (decide_eq_false (fun z => z c_4945)) ?_
        refine Rn.n hT 2 (pc' := 82) (L' := [some (.ref q0), some (.int x1), some (.int x2), some (.int ((v_4922).toInt32)), none]) (st' := [.int (1 : Int32)]) rfl ?_
        exact Rn.weak (ll_s (ll_s (ll_s (ll_s (ll_n ll_e))))) (rX11_follow_b82 hd ih hk hq e)
      · rw [if_neg c_4945] at e
        refine Rn.bt hT rfl rfl rfl (decide_eq_true c_4945) ?_
        refine Rn.n hT 1 (pc' := 82) (L' := [some (.ref q0), some (.int x1), some (.int x2), some (.int ((v_4922).toInt32)), none]) (st' := [.int (0 : Int32)]) rfl ?_
        exact Rn.weak (ll_s (ll_s (ll_s (ll_s (ll_n ll_e))))) (rX11_follow_b82 hd ih hk hq e)
def fX11_follow (N : Nat) (h : iv_H) (q0 : Nat) : Option (Int32 × iv_H) := ((gR h 11 4 q0).bind fun v_4896 => ((gI h 2 0 v_4896).bind fun v_4898 => (if v_4898 = 0 then (some ((-1 : Int32), h)) else (fX11_follow_l16 N q0 (fun (h_4901 : iv_H) (z_4902 : Int32) => ((gR h_4901 11 4 q0).bind fun v_4903 => ((gR h_4901 2 16 v_4903).bind fun v_4905 => ((pV h_4901 7 1 v_4905 (.int (0 : Int32))).bind fun h_4907 => (some (z_4902, h_4907)))))) N h (0 : Int32) (0 : Int32)))))
set_option maxRecDepth 10000 in
set_option maxHeartbeats 4000000 in
theorem rX11_follow {d N : Nat} (hd : 5 ≤ d) {h : iv_H} {q0 : Nat} {r : Int32 × iv_H} {Q : Option Value → iv_H → Prop} (e : fX11_follow N h q0 = some r) (hq : Q (some (.int r.1)) r.2) : Cl d 173 [.ref q0] h Q := by
  obtain ⟨d, rfl⟩ : ∃ k, d = k + 1 := ⟨d - 1, by omega⟩
  have hd : 4 ≤ d := by omega
  have hT := hX11_follow
  unfold fX11_follow at e
  refine Cl.into (by decide) gX11_follow rfl ?_
  show Rn d 173 (some .int) 0 [some (.ref q0), none, none, none, none] [] h Q
  refine Rn.n hT 1 (pc' := 1) (L' := [some (.ref q0), none, none, none, none]) (st' := [.ref q0]) rfl ?_
  obtain ⟨v_4896, e_4897, e⟩ := Option.bind_eq_some_iff.mp e
  refine Rn.hp hT rfl rfl (gR_hp e_4897) ?_
  obtain ⟨v_4898, e_4899, e⟩ := Option.bind_eq_some_iff.mp e
  refine Rn.hp hT rfl rfl (gI_hp e_4899) ?_
  by_cases c_4900 : v_4898 = 0
  · rw [if_pos c_4900] at e
    refine Rn.bf hT rfl rfl rfl (decide_eq_false (fun z => z c_4900)) ?_
    refine Rn.n hT 1 (pc' := 11) (L' := [some (.ref q0), none, none, none, none]) (st' := [.int (-1 : Int32)]) rfl ?_
    obtain rfl := Option.some.inj e
    exact Rn.ret hT rfl rfl rfl hq
  · rw [if_neg c_4900] at e
    refine Rn.bt hT rfl rfl rfl (decide_eq_true c_4900) ?_
    refine Rn.n hT 4 (pc' := 16) (L' := [some (.ref q0), some (.int (0 : Int32)), some (.int (0 : Int32)), none, none]) (st' := []) rfl ?_
    refine Rn.weak (ll_s (ll_s (ll_s (ll_n (ll_n ll_e))))) (rX11_follow_l16 hd (fun h_4901 z_4902 e => ?_) hq N h (0 : Int32) (0 : Int32) e)
    try dsimp only at e
    refine Rn.n hT 1 (pc' := 118) (L' := [some (.ref q0), some (.int z_4902), none, none, none]) (st' := [.ref q0]) rfl ?_
    obtain ⟨v_4903, e_4904, e⟩ := Option.bind_eq_some_iff.mp e
    refine Rn.hp hT rfl rfl (gR_hp e_4904) ?_
    obtain ⟨v_4905, e_4906, e⟩ := Option.bind_eq_some_iff.mp e
    refine Rn.hp hT rfl rfl (gR_hp e_4906) ?_
    refine Rn.n hT 1 (pc' := 125) (L' := [some (.ref q0), some (.int z_4902), none, none, none]) (st' := [.int (0 : Int32), .ref v_4905]) rfl ?_
    obtain ⟨h_4907, e_4908, e⟩ := Option.bind_eq_some_iff.mp e
    refine Rn.hp hT rfl rfl (pV_hp rfl e_4908) ?_
    refine Rn.n hT 1 (pc' := 129) (L' := [some (.ref q0), some (.int z_4902), none, none, none]) (st' := [.int z_4902]) rfl ?_
    obtain rfl := Option.some.inj e
    exact Rn.ret hT rfl rfl rfl hq
set_option maxRecDepth 10000 in
theorem hX11_wish : iv_Tb 174 tX11_wish := iv_tb_of (m := mX11_wish) rfl
set_option maxRecDepth 10000 in
theorem gX11_wish : PG.2 174 = some mX11_wish := iv_pi_of (t := tX11_wish) rfl (by decide)
def fX11_wish_b60 (N : Nat) (h : iv_H)   : Option (Int32 × iv_H) := (some ((-2 : Int32), h))
set_option maxRecDepth 10000 in
set_option maxHeartbeats 4000000 in
theorem rX11_wish_b60 {d N : Nat} (hd : 1 ≤ d) {h : iv_H}   {r : Int32 × iv_H} {Q : Option Value → iv_H → Prop} (hq : Q (some (.int r.1)) r.2) (e : fX11_wish_b60 N h   = some r) : Rn d 174 (some .int) 60 [none, none, none, none, none, none] [] h Q := by
  have hT := hX11_wish
  unfold fX11_wish_b60 at e
  refine Rn.n hT 1 (pc' := 62) (L' := [none, none, none, none, none, none]) (st' := [.int (-2 : Int32)]) rfl ?_
  obtain rfl := Option.some.inj e
  exact Rn.ret hT rfl rfl rfl hq
def fX11_wish_b103 (N : Nat) (h : iv_H)  (s0 : Int32) : Option (Int32 × iv_H) := (some (s0, h))
set_option maxRecDepth 10000 in
set_option maxHeartbeats 4000000 in
theorem rX11_wish_b103 {d N : Nat} (hd : 1 ≤ d) {h : iv_H}  {s0 : Int32} {r : Int32 × iv_H} {Q : Option Value → iv_H → Prop} (hq : Q (some (.int r.1)) r.2) (e : fX11_wish_b103 N h  s0 = some r) : Rn d 174 (some .int) 103 [none, none, none, none, none, none] [.int s0] h Q := by
  have hT := hX11_wish
  unfold fX11_wish_b103 at e
  obtain rfl := Option.some.inj e
  exact Rn.ret hT rfl rfl rfl hq
def fX11_wish (N : Nat) (h : iv_H) (q0 : Nat) (x1 : Int32) (x2 : Int32) (x3 : Int32) (x4 : Int32) : Option (Int32 × iv_H) := (if x1 = (-1 : Int32) then ((gR h 11 4 q0).bind fun v_4986 => ((gR h 2 17 v_4986).bind fun v_4988 => ((pV h 7 1 v_4988 (.int (0 : Int32))).bind fun h_4990 => (some ((0 : Int32), h_4990))))) else ((gR h 11 4 q0).bind fun v_4954 => ((gR h 2 9 v_4954).bind fun v_4956 => ((cko h v_4956 1).bind fun _ => (fX1_cellAt N h v_4956 x3 x4).bind fun v_4960 => ((gR h 11 4 q0).bind fun v_4961 => ((cko h v_4961 2).bind fun _ => (fX2_isPerson N h v_4961 x1).bind fun v_4965 => (if v_4965 = 0 then (fX11_wish_b60 N h) else (if x2 < 0 then (fX11_wish_b60 N h) else (if (10 : Int32) < x2 then (fX11_wish_b60 N h) else (if v_4960 = (-1 : Int32) then (fX11_wish_b60 N h) else ((gR h 11 4 q0).bind fun v_4970 => ((gR h 2 17 v_4970).bind fun v_4972 => ((cko h v_4972 7).bind fun _ => (fX7_add N h v_4972 (((((x1 <<< ((8 : Int32) &&& 31)) ||| (x2 <<< ((4 : Int32) &&& 31))) ||| v_4960)).toInt64)).bind fun p_4985 => (fun (v_4976 : Int32) (h_4977 : iv_H) => (if v_4976 = 0 then (fX11_wish_b103 N h_4977 (-2 : Int32)) else ((gR h_4977 11 4 q0).bind fun v_4979 => ((gR h_4977 2 17 v_4979).bind fun v_4981 => ((gI h_4977 7 1 v_4981).bind fun v_4983 => (fX11_wish_b103 N h_4977 v_4983)))))) p_4985.1 p_4985.2)))))))))))))
set_option maxRecDepth 10000 in
set_option maxHeartbeats 4000000 in
theorem rX11_wish {d N : Nat} (hd : 2 ≤ d) {h : iv_H} {q0 : Nat} {x1 : Int32} {x2 : Int32} {x3 : Int32} {x4 : Int32} {r : Int32 × iv_H} {Q : Option Value → iv_H → Prop} (e : fX11_wish N h q0 x1 x2 x3 x4 = some r) (hq : Q (some (.int r.1)) r.2) : Cl d 174 [.ref q0, .int x1, .int x2, .int x3, .int x4] h Q := by
  obtain ⟨d, rfl⟩ : ∃ k, d = k + 1 := ⟨d - 1, by omega⟩
  have hd : 1 ≤ d := by omega
  have hT := hX11_wish
  unfold fX11_wish at e
  refine Cl.into (by decide) gX11_wish rfl ?_
  show Rn d 174 (some .int) 0 [some (.ref q0), some (.int x1), some (.int x2), some (.int x3), some (.int x4), none] [] h Q
  refine Rn.n hT 2 (pc' := 2) (L' := [some (.ref q0), some (.int x1), some (.int x2), some (.int x3), some (.int x4), none]) (st' := [.int (-1 : Int32), .int x1]) rfl ?_
  by_cases c_4953 : x1 = (-1 : Int32)
  · rw [if_pos c_4953] at e
    refine Rn.bf hT rfl rfl rfl (decide_eq_false (fun z => z c_4953)) ?_
    refine Rn.n hT 1 (pc' := 6) (L' := [some (.ref q0), some (.int x1), some (.int x2), some (.int x3), some (.int x4), none]) (st' := [.ref q0]) rfl ?_
    obtain ⟨v_4986, e_4987, e⟩ := Option.bind_eq_some_iff.mp e
    refine Rn.hp hT rfl rfl (gR_hp e_4987) ?_
    obtain ⟨v_4988, e_4989, e⟩ := Option.bind_eq_some_iff.mp e
    refine Rn.hp hT rfl rfl (gR_hp e_4989) ?_
    refine Rn.n hT 1 (pc' := 13) (L' := [some (.ref q0), some (.int x1), some (.int x2), some (.int x3), some (.int x4), none]) (st' := [.int (0 : Int32), .ref v_4988]) rfl ?_
    obtain ⟨h_4990, e_4991, e⟩ := Option.bind_eq_some_iff.mp e
    refine Rn.hp hT rfl rfl (pV_hp rfl e_4991) ?_
    refine Rn.n hT 1 (pc' := 17) (L' := [some (.ref q0), some (.int x1), some (.int x2), some (.int x3), some (.int x4), none]) (st' := [.int (0 : Int32)]) rfl ?_
    obtain rfl := Option.some.inj e
    exact Rn.ret hT rfl rfl rfl hq
  · rw [if_neg c_4953] at e
    refine Rn.bt hT rfl rfl rfl (decide_eq_true c_4953) ?_
    refine Rn.n hT 1 (pc' := 19) (L' := [some (.ref q0), some (.int x1), some (.int x2), some (.int x3), some (.int x4), none]) (st' := [.ref q0]) rfl ?_
    obtain ⟨v_4954, e_4955, e⟩ := Option.bind_eq_some_iff.mp e
    refine Rn.hp hT rfl rfl (gR_hp e_4955) ?_
    obtain ⟨v_4956, e_4957, e⟩ := Option.bind_eq_some_iff.mp e
    refine Rn.hp hT rfl rfl (gR_hp e_4957) ?_
    refine Rn.n hT 2 (pc' := 28) (L' := [some (.ref q0), some (.int x1), some (.int x2), some (.int x3), some (.int x4), none]) (st' := [.int x4, .int x3, .ref v_4956]) rfl ?_
    obtain ⟨_, e_4959, e⟩ := Option.bind_eq_some_iff.mp e
    obtain ⟨v_4960, e_4958, e⟩ := Option.bind_eq_some_iff.mp e
    refine Rn.call hT rfl rfl rfl (Nat.le_of_ble_eq_true rfl) (rcv_v gX1_cellAt (by omega) e_4959) (rX1_cellAt (by omega) e_4958 ?_)
    show Rn d _ _ 31 [some (.ref q0), some (.int x1), some (.int x2), some (.int x3), some (.int x4), none] [.int v_4960] h Q
    refine Rn.n hT 2 (pc' := 34) (L' := [some (.ref q0), some (.int x1), some (.int x2), some (.int x3), some (.int x4), some (.int v_4960)]) (st' := [.ref q0]) rfl ?_
    obtain ⟨v_4961, e_4962, e⟩ := Option.bind_eq_some_iff.mp e
    refine Rn.hp hT rfl rfl (gR_hp e_4962) ?_
    refine Rn.n hT 1 (pc' := 38) (L' := [some (.ref q0), some (.int x1), some (.int x2), some (.int x3), some (.int x4), some (.int v_4960)]) (st' := [.int x1, .ref v_4961]) rfl ?_
    obtain ⟨_, e_4964, e⟩ := Option.bind_eq_some_iff.mp e
    obtain ⟨v_4965, e_4963, e⟩ := Option.bind_eq_some_iff.mp e
    refine Rn.call hT rfl rfl rfl (Nat.le_of_ble_eq_true rfl) (rcv_v gX2_isPerson (by omega) e_4964) (rX2_isPerson (by omega) e_4963 ?_)
    show Rn d _ _ 41 [some (.ref q0), some (.int x1), some (.int x2), some (.int x3), some (.int x4), some (.int v_4960)] [.int v_4965] h Q
    by_cases c_4966 : v_4965 = 0
    · rw [if_pos c_4966] at e
      refine Rn.bt hT rfl rfl rfl (decide_eq_true c_4966) ?_
      exact Rn.weak (ll_n (ll_n (ll_n (ll_n (ll_n (ll_n ll_e)))))) (rX11_wish_b60 hd hq e)
    · rw [if_neg c_4966] at e
      refine Rn.bf hT rfl rfl rfl (decide_eq_false c_4966) ?_
      refine Rn.n hT 1 (pc' := 45) (L' := [some (.ref q0), some (.int x1), some (.int x2), some (.int x3), some (.int x4), some (.int v_4960)]) (st' := [.int x2]) rfl ?_
      by_cases c_4967 : x2 < 0
      · rw [if_pos c_4967] at e
        refine Rn.bt hT rfl rfl rfl (decide_eq_true c_4967) ?_
        exact Rn.weak (ll_n (ll_n (ll_n (ll_n (ll_n (ll_n ll_e)))))) (rX11_wish_b60 hd hq e)
      · rw [if_neg c_4967] at e
        refine Rn.bf hT rfl rfl rfl (decide_eq_false c_4967) ?_
        refine Rn.n hT 2 (pc' := 51) (L' := [some (.ref q0), some (.int x1), some (.int x2), some (.int x3), some (.int x4), some (.int v_4960)]) (st' := [.int (10 : Int32), .int x2]) rfl ?_
        by_cases c_4968 : (10 : Int32) < x2
        · rw [if_pos c_4968] at e
          refine Rn.bt hT rfl rfl rfl (decide_eq_true c_4968) ?_
          exact Rn.weak (ll_n (ll_n (ll_n (ll_n (ll_n (ll_n ll_e)))))) (rX11_wish_b60 hd hq e)
        · rw [if_neg c_4968] at e
          refine Rn.bf hT rfl rfl rfl (decide_eq_false c_4968) ?_
          refine Rn.n hT 2 (pc' := 57) (L' := [some (.ref q0), some (.int x1), some (.int x2), some (.int x3), some (.int x4), some (.int v_4960)]) (st' := [.int (-1 : Int32), .int v_4960]) rfl ?_
          by_cases c_4969 : v_4960 = (-1 : Int32)
          · rw [if_pos c_4969] at e
            refine Rn.bf hT rfl rfl rfl (decide_eq_false (fun z => z c_4969)) ?_
            exact Rn.weak (ll_n (ll_n (ll_n (ll_n (ll_n (ll_n ll_e)))))) (rX11_wish_b60 hd hq e)
          · rw [if_neg c_4969] at e
            refine Rn.bt hT rfl rfl rfl (decide_eq_true c_4969) ?_
            refine Rn.n hT 1 (pc' := 64) (L' := [some (.ref q0), some (.int x1), some (.int x2), some (.int x3), some (.int x4), some (.int v_4960)]) (st' := [.ref q0]) rfl ?_
            obtain ⟨v_4970, e_4971, e⟩ := Option.bind_eq_some_iff.mp e
            refine Rn.hp hT rfl rfl (gR_hp e_4971) ?_
            obtain ⟨v_4972, e_4973, e⟩ := Option.bind_eq_some_iff.mp e
            refine Rn.hp hT rfl rfl (gR_hp e_4973) ?_
            refine Rn.n hT 10 (pc' := 82) (L' := [some (.ref q0), some (.int x1), some (.int x2), some (.int x3), some (.int x4), some (.int v_4960)]) (st' := [.long (((((x1 <<< ((8 : Int32) &&& 31)) ||| (x2 <<< ((4 : Int32) &&& 31))) ||| v_4960)).toInt64), .ref v_4972]) rfl ?_
            obtain ⟨_, e_4975, e⟩ := Option.bind_eq_some_iff.mp e
            obtain ⟨⟨v_4976, h_4977⟩, e_4974, e⟩ := Option.bind_eq_some_iff.mp e
            try dsimp only at e
            try dsimp only at e
            refine Rn.call hT rfl rfl rfl (Nat.le_of_ble_eq_true rfl) (rcv_v gX7_add (by omega) e_4975) (rX7_add (by omega) e_4974 ?_)
            show Rn d _ _ 85 [some (.ref q0), some (.int x1), some (.int x2), some (.int x3), some (.int x4), some (.int v_4960)] [.int v_4976] h_4977 Q
            by_cases c_4978 : v_4976 = 0
            · rw [if_pos c_4978] at e
              refine Rn.bt hT rfl rfl rfl (decide_eq_true c_4978) ?_
              refine Rn.n hT 1 (pc' := 103) (L' := [some (.ref q0), some (.int x1), some (.int x2), some (.int x3), some (.int x4), some (.int v_4960)]) (st' := [.int (-2 : Int32)]) rfl ?_
              exact Rn.weak (ll_n (ll_n (ll_n (ll_n (ll_n (ll_n ll_e)))))) (rX11_wish_b103 hd hq e)
            · rw [if_neg c_4978] at e
              refine Rn.bf hT rfl rfl rfl (decide_eq_false c_4978) ?_
              refine Rn.n hT 1 (pc' := 89) (L' := [some (.ref q0), some (.int x1), some (.int x2), some (.int x3), some (.int x4), some (.int v_4960)]) (st' := [.ref q0]) rfl ?_
              obtain ⟨v_4979, e_4980, e⟩ := Option.bind_eq_some_iff.mp e
              refine Rn.hp hT rfl rfl (gR_hp e_4980) ?_
              obtain ⟨v_4981, e_4982, e⟩ := Option.bind_eq_some_iff.mp e
              refine Rn.hp hT rfl rfl (gR_hp e_4982) ?_
              obtain ⟨v_4983, e_4984, e⟩ := Option.bind_eq_some_iff.mp e
              refine Rn.hp hT rfl rfl (gI_hp e_4984) ?_
              refine Rn.n hT 1 (pc' := 103) (L' := [some (.ref q0), some (.int x1), some (.int x2), some (.int x3), some (.int x4), some (.int v_4960)]) (st' := [.int v_4983]) rfl ?_
              exact Rn.weak (ll_n (ll_n (ll_n (ll_n (ll_n (ll_n ll_e)))))) (rX11_wish_b103 hd hq e)
set_option maxRecDepth 10000 in
theorem hX11_beds : iv_Tb 175 tX11_beds := iv_tb_of (m := mX11_beds) rfl
set_option maxRecDepth 10000 in
theorem gX11_beds : PG.2 175 = some mX11_beds := iv_pi_of (t := tX11_beds) rfl (by decide)
def fX11_beds_b20 (N : Nat) (h : iv_H)   : Option (Int32 × iv_H) := (some ((-1 : Int32), h))
set_option maxRecDepth 10000 in
set_option maxHeartbeats 4000000 in
theorem rX11_beds_b20 {d N : Nat} (hd : 6 ≤ d) {h : iv_H}   {r : Int32 × iv_H} {Q : Option Value → iv_H → Prop} (hq : Q (some (.int r.1)) r.2) (e : fX11_beds_b20 N h   = some r) : Rn d 175 (some .int) 20 [none, none] [] h Q := by
  have hT := hX11_beds
  unfold fX11_beds_b20 at e
  refine Rn.n hT 1 (pc' := 21) (L' := [none, none]) (st' := [.int (-1 : Int32)]) rfl ?_
  obtain rfl := Option.some.inj e
  exact Rn.ret hT rfl rfl rfl hq
def fX11_beds_b92 (N : Nat) (h : iv_H)  (s0 : Int32) : Option (Int32 × iv_H) := (some (s0, h))
set_option maxRecDepth 10000 in
set_option maxHeartbeats 4000000 in
theorem rX11_beds_b92 {d N : Nat} (hd : 6 ≤ d) {h : iv_H}  {s0 : Int32} {r : Int32 × iv_H} {Q : Option Value → iv_H → Prop} (hq : Q (some (.int r.1)) r.2) (e : fX11_beds_b92 N h  s0 = some r) : Rn d 175 (some .int) 92 [none, none] [.int s0] h Q := by
  have hT := hX11_beds
  unfold fX11_beds_b92 at e
  obtain rfl := Option.some.inj e
  exact Rn.ret hT rfl rfl rfl hq
def fX11_beds (N : Nat) (h : iv_H) (q0 : Nat) (x1 : Int32) : Option (Int32 × iv_H) := ((gR h 11 4 q0).bind fun v_4992 => ((gI h 2 0 v_4992).bind fun v_4994 => (if v_4994 = 0 then (fX11_beds_b20 N h) else (if x1 < 0 then (fX11_beds_b20 N h) else (if x1 ≤ (6 : Int32) then ((gR h 11 11 q0).bind fun v_4999 => ((gR h 11 4 q0).bind fun v_5001 => ((cko h q0 11).bind fun _ => (fX11_ruleInForce N h q0).bind fun v_5005 => ((gR h 11 13 q0).bind fun v_5006 => ((gR h 4 4 v_5006).bind fun v_5008 => ((cko h v_4999 10).bind fun _ => (fX10_roomsWished N h v_4999 v_5001 v_5005 v_5008).bind fun h_5013 => (if x1 = 0 then ((gR h_5013 11 13 q0).bind fun v_5030 => ((gR h_5013 11 4 q0).bind fun v_5032 => ((cko h_5013 v_5030 4).bind fun _ => (fX4_layPeople N h_5013 v_5030 v_5032).bind fun p_5038 => (fun (v_5036 : Int32) (h_5037 : iv_H) => (some (v_5036, h_5037))) p_5038.1 p_5038.2))) else ((gR h_5013 11 4 q0).bind fun v_5015 => ((cko h_5013 v_5015 2).bind fun _ => (fX2_isPerson N h_5013 v_5015 (x1 - (1 : Int32))).bind fun v_5019 => (if v_5019 = 0 then (fX11_beds_b92 N h_5013 (-2 : Int32)) else ((gR h_5013 11 13 q0).bind fun v_5021 => ((gR h_5013 11 4 q0).bind fun v_5023 => ((cko h_5013 v_5021 4).bind fun _ => (fX4_firstBed N h_5013 v_5021 v_5023 (x1 - (1 : Int32))).bind fun p_5029 => (fun (v_5027 : Int32) (h_5028 : iv_H) => (fX11_beds_b92 N h_5028 v_5027)) p_5029.1 p_5029.2))))))))))))) else (fX11_beds_b20 N h))))))
set_option maxRecDepth 10000 in
set_option maxHeartbeats 4000000 in
theorem rX11_beds {d N : Nat} (hd : 7 ≤ d) {h : iv_H} {q0 : Nat} {x1 : Int32} {r : Int32 × iv_H} {Q : Option Value → iv_H → Prop} (e : fX11_beds N h q0 x1 = some r) (hq : Q (some (.int r.1)) r.2) : Cl d 175 [.ref q0, .int x1] h Q := by
  obtain ⟨d, rfl⟩ : ∃ k, d = k + 1 := ⟨d - 1, by omega⟩
  have hd : 6 ≤ d := by omega
  have hT := hX11_beds
  unfold fX11_beds at e
  refine Cl.into (by decide) gX11_beds rfl ?_
  show Rn d 175 (some .int) 0 [some (.ref q0), some (.int x1)] [] h Q
  refine Rn.n hT 1 (pc' := 1) (L' := [some (.ref q0), some (.int x1)]) (st' := [.ref q0]) rfl ?_
  obtain ⟨v_4992, e_4993, e⟩ := Option.bind_eq_some_iff.mp e
  refine Rn.hp hT rfl rfl (gR_hp e_4993) ?_
  obtain ⟨v_4994, e_4995, e⟩ := Option.bind_eq_some_iff.mp e
  refine Rn.hp hT rfl rfl (gI_hp e_4995) ?_
  by_cases c_4996 : v_4994 = 0
  · rw [if_pos c_4996] at e
    refine Rn.bt hT rfl rfl rfl (decide_eq_true c_4996) ?_
    exact Rn.weak (ll_n (ll_n ll_e)) (rX11_beds_b20 hd hq e)
  · rw [if_neg c_4996] at e
    refine Rn.bf hT rfl rfl rfl (decide_eq_false c_4996) ?_
    refine Rn.n hT 1 (pc' := 11) (L' := [some (.ref q0), some (.int x1)]) (st' := [.int x1]) rfl ?_
    by_cases c_4997 : x1 < 0
    · rw [if_pos c_4997] at e
      refine Rn.bt hT rfl rfl rfl (decide_eq_true c_4997) ?_
      exact Rn.weak (ll_n (ll_n ll_e)) (rX11_beds_b20 hd hq e)
    · rw [if_neg c_4997] at e
      refine Rn.bf hT rfl rfl rfl (decide_eq_false c_4997) ?_
      refine Rn.n hT 2 (pc' := 17) (L' := [some (.ref q0), some (.int x1)]) (st' := [.int (6 : Int32), .int x1]) rfl ?_
      by_cases c_4998 : x1 ≤ (6 : Int32)
      · rw [if_pos c_4998] at e
        refine Rn.bt hT rfl rfl rfl (decide_eq_true c_4998) ?_
        refine Rn.n hT 1 (pc' := 23) (L' := [some (.ref q0), some (.int x1)]) (st' := [.ref q0]) rfl ?_
        obtain ⟨v_4999, e_5000, e⟩ := Option.bind_eq_some_iff.mp e
        refine Rn.hp hT rfl rfl (gR_hp e_5000) ?_
        refine Rn.n hT 1 (pc' := 27) (L' := [some (.ref q0), some (.int x1)]) (st' := [.ref q0, .ref v_4999]) rfl ?_
        obtain ⟨v_5001, e_5002, e⟩ := Option.bind_eq_some_iff.mp e
        refine Rn.hp hT rfl rfl (gR_hp e_5002) ?_
        refine Rn.n hT 1 (pc' := 31) (L' := [some (.ref q0), some (.int x1)]) (st' := [.ref q0, .ref v_5001, .ref v_4999]) rfl ?_
        obtain ⟨_, e_5004, e⟩ := Option.bind_eq_some_iff.mp e
        obtain ⟨v_5005, e_5003, e⟩ := Option.bind_eq_some_iff.mp e
        refine Rn.call hT rfl rfl rfl (Nat.le_of_ble_eq_true rfl) (rcv_v gX11_ruleInForce (by omega) e_5004) (rX11_ruleInForce (by omega) e_5003 ?_)
        show Rn d _ _ 34 [some (.ref q0), some (.int x1)] [iv_rf v_5005, .ref v_5001, .ref v_4999] h Q
        refine Rn.n hT 1 (pc' := 35) (L' := [some (.ref q0), some (.int x1)]) (st' := [.ref q0, iv_rf v_5005, .ref v_5001, .ref v_4999]) rfl ?_
        obtain ⟨v_5006, e_5007, e⟩ := Option.bind_eq_some_iff.mp e
        refine Rn.hp hT rfl rfl (gR_hp e_5007) ?_
        obtain ⟨v_5008, e_5009, e⟩ := Option.bind_eq_some_iff.mp e
        refine Rn.hp hT rfl rfl (gR_hp e_5009) ?_
        obtain ⟨_, e_5011, e⟩ := Option.bind_eq_some_iff.mp e
        obtain ⟨h_5013, e_5010, e⟩ := Option.bind_eq_some_iff.mp e
        refine Rn.call hT rfl rfl rfl (Nat.le_of_ble_eq_true rfl) (rcv_v gX10_roomsWished (by omega) e_5011) (rX10_roomsWished (by omega) e_5010 ?_)
        show Rn d _ _ 44 [some (.ref q0), some (.int x1)] [] h_5013 Q
        refine Rn.n hT 1 (pc' := 45) (L' := [some (.ref q0), some (.int x1)]) (st' := [.int x1]) rfl ?_
        by_cases c_5014 : x1 = 0
        · rw [if_pos c_5014] at e
          refine Rn.bf hT rfl rfl rfl (decide_eq_false (fun z => z c_5014)) ?_
          refine Rn.n hT 1 (pc' := 49) (L' := [some (.ref q0), some (.int x1)]) (st' := [.ref q0]) rfl ?_
          obtain ⟨v_5030, e_5031, e⟩ := Option.bind_eq_some_iff.mp e
          refine Rn.hp hT rfl rfl (gR_hp e_5031) ?_
          refine Rn.n hT 1 (pc' := 53) (L' := [some (.ref q0), some (.int x1)]) (st' := [.ref q0, .ref v_5030]) rfl ?_
          obtain ⟨v_5032, e_5033, e⟩ := Option.bind_eq_some_iff.mp e
          refine Rn.hp hT rfl rfl (gR_hp e_5033) ?_
          obtain ⟨_, e_5035, e⟩ := Option.bind_eq_some_iff.mp e
          obtain ⟨⟨v_5036, h_5037⟩, e_5034, e⟩ := Option.bind_eq_some_iff.mp e
          try dsimp only at e
          try dsimp only at e
          refine Rn.call hT rfl rfl rfl (Nat.le_of_ble_eq_true rfl) (rcv_v gX4_layPeople (by omega) e_5035) (rX4_layPeople (by omega) e_5034 ?_)
          show Rn d _ _ 59 [some (.ref q0), some (.int x1)] [.int v_5036] h_5037 Q
          obtain rfl := Option.some.inj e
          exact Rn.ret hT rfl rfl rfl hq
        · rw [if_neg c_5014] at e
          refine Rn.bt hT rfl rfl rfl (decide_eq_true c_5014) ?_
          refine Rn.n hT 1 (pc' := 61) (L' := [some (.ref q0), some (.int x1)]) (st' := [.ref q0]) rfl ?_
          obtain ⟨v_5015, e_5016, e⟩ := Option.bind_eq_some_iff.mp e
          refine Rn.hp hT rfl rfl (gR_hp e_5016) ?_
          refine Rn.n hT 3 (pc' := 67) (L' := [some (.ref q0), some (.int x1)]) (st' := [.int (x1 - (1 : Int32)), .ref v_5015]) rfl ?_
          obtain ⟨_, e_5018, e⟩ := Option.bind_eq_some_iff.mp e
          obtain ⟨v_5019, e_5017, e⟩ := Option.bind_eq_some_iff.mp e
          refine Rn.call hT rfl rfl rfl (Nat.le_of_ble_eq_true rfl) (rcv_v gX2_isPerson (by omega) e_5018) (rX2_isPerson (by omega) e_5017 ?_)
          show Rn d _ _ 70 [some (.ref q0), some (.int x1)] [.int v_5019] h_5013 Q
          by_cases c_5020 : v_5019 = 0
          · rw [if_pos c_5020] at e
            refine Rn.bt hT rfl rfl rfl (decide_eq_true c_5020) ?_
            refine Rn.n hT 1 (pc' := 92) (L' := [some (.ref q0), some (.int x1)]) (st' := [.int (-2 : Int32)]) rfl ?_
            exact Rn.weak (ll_n (ll_n ll_e)) (rX11_beds_b92 hd hq e)
          · rw [if_neg c_5020] at e
            refine Rn.bf hT rfl rfl rfl (decide_eq_false c_5020) ?_
            refine Rn.n hT 1 (pc' := 74) (L' := [some (.ref q0), some (.int x1)]) (st' := [.ref q0]) rfl ?_
            obtain ⟨v_5021, e_5022, e⟩ := Option.bind_eq_some_iff.mp e
            refine Rn.hp hT rfl rfl (gR_hp e_5022) ?_
            refine Rn.n hT 1 (pc' := 78) (L' := [some (.ref q0), some (.int x1)]) (st' := [.ref q0, .ref v_5021]) rfl ?_
            obtain ⟨v_5023, e_5024, e⟩ := Option.bind_eq_some_iff.mp e
            refine Rn.hp hT rfl rfl (gR_hp e_5024) ?_
            refine Rn.n hT 3 (pc' := 84) (L' := [some (.ref q0), some (.int x1)]) (st' := [.int (x1 - (1 : Int32)), .ref v_5023, .ref v_5021]) rfl ?_
            obtain ⟨_, e_5026, e⟩ := Option.bind_eq_some_iff.mp e
            obtain ⟨⟨v_5027, h_5028⟩, e_5025, e⟩ := Option.bind_eq_some_iff.mp e
            try dsimp only at e
            try dsimp only at e
            refine Rn.call hT rfl rfl rfl (Nat.le_of_ble_eq_true rfl) (rcv_v gX4_firstBed (by omega) e_5026) (rX4_firstBed (by omega) e_5025 ?_)
            show Rn d _ _ 87 [some (.ref q0), some (.int x1)] [.int v_5027] h_5028 Q
            refine Rn.n hT 1 (pc' := 92) (L' := [some (.ref q0), some (.int x1)]) (st' := [.int v_5027]) rfl ?_
            exact Rn.weak (ll_n (ll_n ll_e)) (rX11_beds_b92 hd hq e)
      · rw [if_neg c_4998] at e
        refine Rn.bf hT rfl rfl rfl (decide_eq_false c_4998) ?_
        exact Rn.weak (ll_n (ll_n ll_e)) (rX11_beds_b20 hd hq e)
set_option maxRecDepth 10000 in
theorem hX11_almost : iv_Tb 176 tX11_almost := iv_tb_of (m := mX11_almost) rfl
set_option maxRecDepth 10000 in
theorem gX11_almost : PG.2 176 = some mX11_almost := iv_pi_of (t := tX11_almost) rfl (by decide)
def fX11_almost_b22 (N : Nat) (h : iv_H)   : Option (Int32 × iv_H) := (some ((-1 : Int32), h))
set_option maxRecDepth 10000 in
set_option maxHeartbeats 4000000 in
theorem rX11_almost_b22 {d N : Nat} (hd : 6 ≤ d) {h : iv_H}   {r : Int32 × iv_H} {Q : Option Value → iv_H → Prop} (hq : Q (some (.int r.1)) r.2) (e : fX11_almost_b22 N h   = some r) : Rn d 176 (some .int) 22 [none, none, none] [] h Q := by
  have hT := hX11_almost
  unfold fX11_almost_b22 at e
  refine Rn.n hT 1 (pc' := 23) (L' := [none, none, none]) (st' := [.int (-1 : Int32)]) rfl ?_
  obtain rfl := Option.some.inj e
  exact Rn.ret hT rfl rfl rfl hq
def fX11_almost (N : Nat) (h : iv_H) (q0 : Nat) (x1 : Int32) (x2 : Int32) : Option (Int32 × iv_H) := ((gR h 11 4 q0).bind fun v_5039 => ((cko h v_5039 2).bind fun _ => (fX2_isPerson N h v_5039 x1).bind fun v_5043 => (if v_5043 = 0 then (fX11_almost_b22 N h) else ((gR h 11 4 q0).bind fun v_5045 => ((cko h v_5045 2).bind fun _ => (fX2_isRoom N h v_5045 x2).bind fun v_5049 => (if v_5049 = 0 then (fX11_almost_b22 N h) else ((gR h 11 11 q0).bind fun v_5051 => ((gR h 11 4 q0).bind fun v_5053 => ((cko h q0 11).bind fun _ => (fX11_ruleInForce N h q0).bind fun v_5057 => ((gR h 11 13 q0).bind fun v_5058 => ((gR h 4 4 v_5058).bind fun v_5060 => ((cko h v_5051 10).bind fun _ => (fX10_roomsWished N h v_5051 v_5053 v_5057 v_5060).bind fun h_5065 => ((gR h_5065 11 13 q0).bind fun v_5066 => ((gR h_5065 4 4 v_5066).bind fun v_5068 => ((aI h_5065 v_5068 x1).bind fun v_5070 => ((wI h_5065 v_5068 x1 (v_5070 &&& ((1 : Int32) <<< (x2 &&& 31)))).bind fun h_5072 => ((gR h_5072 11 13 q0).bind fun v_5074 => ((gR h_5072 11 4 q0).bind fun v_5076 => ((cko h_5072 v_5074 4).bind fun _ => (fX4_layPeople N h_5072 v_5074 v_5076).bind fun p_5082 => (fun (v_5080 : Int32) (h_5081 : iv_H) => (some (v_5080, h_5081))) p_5082.1 p_5082.2)))))))))))))))))))
set_option maxRecDepth 10000 in
set_option maxHeartbeats 4000000 in
theorem rX11_almost {d N : Nat} (hd : 7 ≤ d) {h : iv_H} {q0 : Nat} {x1 : Int32} {x2 : Int32} {r : Int32 × iv_H} {Q : Option Value → iv_H → Prop} (e : fX11_almost N h q0 x1 x2 = some r) (hq : Q (some (.int r.1)) r.2) : Cl d 176 [.ref q0, .int x1, .int x2] h Q := by
  obtain ⟨d, rfl⟩ : ∃ k, d = k + 1 := ⟨d - 1, by omega⟩
  have hd : 6 ≤ d := by omega
  have hT := hX11_almost
  unfold fX11_almost at e
  refine Cl.into (by decide) gX11_almost rfl ?_
  show Rn d 176 (some .int) 0 [some (.ref q0), some (.int x1), some (.int x2)] [] h Q
  refine Rn.n hT 1 (pc' := 1) (L' := [some (.ref q0), some (.int x1), some (.int x2)]) (st' := [.ref q0]) rfl ?_
  obtain ⟨v_5039, e_5040, e⟩ := Option.bind_eq_some_iff.mp e
  refine Rn.hp hT rfl rfl (gR_hp e_5040) ?_
  refine Rn.n hT 1 (pc' := 5) (L' := [some (.ref q0), some (.int x1), some (.int x2)]) (st' := [.int x1, .ref v_5039]) rfl ?_
  obtain ⟨_, e_5042, e⟩ := Option.bind_eq_some_iff.mp e
  obtain ⟨v_5043, e_5041, e⟩ := Option.bind_eq_some_iff.mp e
  refine Rn.call hT rfl rfl rfl (Nat.le_of_ble_eq_true rfl) (rcv_v gX2_isPerson (by omega) e_5042) (rX2_isPerson (by omega) e_5041 ?_)
  show Rn d _ _ 8 [some (.ref q0), some (.int x1), some (.int x2)] [.int v_5043] h Q
  by_cases c_5044 : v_5043 = 0
  · rw [if_pos c_5044] at e
    refine Rn.bt hT rfl rfl rfl (decide_eq_true c_5044) ?_
    exact Rn.weak (ll_n (ll_n (ll_n ll_e))) (rX11_almost_b22 hd hq e)
  · rw [if_neg c_5044] at e
    refine Rn.bf hT rfl rfl rfl (decide_eq_false c_5044) ?_
    refine Rn.n hT 1 (pc' := 12) (L' := [some (.ref q0), some (.int x1), some (.int x2)]) (st' := [.ref q0]) rfl ?_
    obtain ⟨v_5045, e_5046, e⟩ := Option.bind_eq_some_iff.mp e
    refine Rn.hp hT rfl rfl (gR_hp e_5046) ?_
    refine Rn.n hT 1 (pc' := 16) (L' := [some (.ref q0), some (.int x1), some (.int x2)]) (st' := [.int x2, .ref v_5045]) rfl ?_
    obtain ⟨_, e_5048, e⟩ := Option.bind_eq_some_iff.mp e
    obtain ⟨v_5049, e_5047, e⟩ := Option.bind_eq_some_iff.mp e
    refine Rn.call hT rfl rfl rfl (Nat.le_of_ble_eq_true rfl) (rcv_v gX2_isRoom (by omega) e_5048) (rX2_isRoom (by omega) e_5047 ?_)
    show Rn d _ _ 19 [some (.ref q0), some (.int x1), some (.int x2)] [.int v_5049] h Q
    by_cases c_5050 : v_5049 = 0
    · rw [if_pos c_5050] at e
      refine Rn.bf hT rfl rfl rfl (decide_eq_false (fun z => z c_5050)) ?_
      exact Rn.weak (ll_n (ll_n (ll_n ll_e))) (rX11_almost_b22 hd hq e)
    · rw [if_neg c_5050] at e
      refine Rn.bt hT rfl rfl rfl (decide_eq_true c_5050) ?_
      refine Rn.n hT 1 (pc' := 25) (L' := [some (.ref q0), some (.int x1), some (.int x2)]) (st' := [.ref q0]) rfl ?_
      obtain ⟨v_5051, e_5052, e⟩ := Option.bind_eq_some_iff.mp e
      refine Rn.hp hT rfl rfl (gR_hp e_5052) ?_
      refine Rn.n hT 1 (pc' := 29) (L' := [some (.ref q0), some (.int x1), some (.int x2)]) (st' := [.ref q0, .ref v_5051]) rfl ?_
      obtain ⟨v_5053, e_5054, e⟩ := Option.bind_eq_some_iff.mp e
      refine Rn.hp hT rfl rfl (gR_hp e_5054) ?_
      refine Rn.n hT 1 (pc' := 33) (L' := [some (.ref q0), some (.int x1), some (.int x2)]) (st' := [.ref q0, .ref v_5053, .ref v_5051]) rfl ?_
      obtain ⟨_, e_5056, e⟩ := Option.bind_eq_some_iff.mp e
      obtain ⟨v_5057, e_5055, e⟩ := Option.bind_eq_some_iff.mp e
      refine Rn.call hT rfl rfl rfl (Nat.le_of_ble_eq_true rfl) (rcv_v gX11_ruleInForce (by omega) e_5056) (rX11_ruleInForce (by omega) e_5055 ?_)
      show Rn d _ _ 36 [some (.ref q0), some (.int x1), some (.int x2)] [iv_rf v_5057, .ref v_5053, .ref v_5051] h Q
      refine Rn.n hT 1 (pc' := 37) (L' := [some (.ref q0), some (.int x1), some (.int x2)]) (st' := [.ref q0, iv_rf v_5057, .ref v_5053, .ref v_5051]) rfl ?_
      obtain ⟨v_5058, e_5059, e⟩ := Option.bind_eq_some_iff.mp e
      refine Rn.hp hT rfl rfl (gR_hp e_5059) ?_
      obtain ⟨v_5060, e_5061, e⟩ := Option.bind_eq_some_iff.mp e
      refine Rn.hp hT rfl rfl (gR_hp e_5061) ?_
      obtain ⟨_, e_5063, e⟩ := Option.bind_eq_some_iff.mp e
      obtain ⟨h_5065, e_5062, e⟩ := Option.bind_eq_some_iff.mp e
      refine Rn.call hT rfl rfl rfl (Nat.le_of_ble_eq_true rfl) (rcv_v gX10_roomsWished (by omega) e_5063) (rX10_roomsWished (by omega) e_5062 ?_)
      show Rn d _ _ 46 [some (.ref q0), some (.int x1), some (.int x2)] [] h_5065 Q
      refine Rn.n hT 1 (pc' := 47) (L' := [some (.ref q0), some (.int x1), some (.int x2)]) (st' := [.ref q0]) rfl ?_
      obtain ⟨v_5066, e_5067, e⟩ := Option.bind_eq_some_iff.mp e
      refine Rn.hp hT rfl rfl (gR_hp e_5067) ?_
      obtain ⟨v_5068, e_5069, e⟩ := Option.bind_eq_some_iff.mp e
      refine Rn.hp hT rfl rfl (gR_hp e_5069) ?_
      refine Rn.n hT 2 (pc' := 55) (L' := [some (.ref q0), some (.int x1), some (.int x2)]) (st' := [.int x1, .ref v_5068, .int x1, .ref v_5068]) rfl ?_
      obtain ⟨v_5070, e_5071, e⟩ := Option.bind_eq_some_iff.mp e
      refine Rn.hp hT rfl rfl (aI_hp e_5071) ?_
      refine Rn.n hT 4 (pc' := 60) (L' := [some (.ref q0), some (.int x1), some (.int x2)]) (st' := [.int (v_5070 &&& ((1 : Int32) <<< (x2 &&& 31))), .int x1, .ref v_5068]) rfl ?_
      obtain ⟨h_5072, e_5073, e⟩ := Option.bind_eq_some_iff.mp e
      refine Rn.hp hT rfl rfl (wI_hp e_5073) ?_
      refine Rn.n hT 1 (pc' := 62) (L' := [some (.ref q0), some (.int x1), some (.int x2)]) (st' := [.ref q0]) rfl ?_
      obtain ⟨v_5074, e_5075, e⟩ := Option.bind_eq_some_iff.mp e
      refine Rn.hp hT rfl rfl (gR_hp e_5075) ?_
      refine Rn.n hT 1 (pc' := 66) (L' := [some (.ref q0), some (.int x1), some (.int x2)]) (st' := [.ref q0, .ref v_5074]) rfl ?_
      obtain ⟨v_5076, e_5077, e⟩ := Option.bind_eq_some_iff.mp e
      refine Rn.hp hT rfl rfl (gR_hp e_5077) ?_
      obtain ⟨_, e_5079, e⟩ := Option.bind_eq_some_iff.mp e
      obtain ⟨⟨v_5080, h_5081⟩, e_5078, e⟩ := Option.bind_eq_some_iff.mp e
      try dsimp only at e
      try dsimp only at e
      refine Rn.call hT rfl rfl rfl (Nat.le_of_ble_eq_true rfl) (rcv_v gX4_layPeople (by omega) e_5079) (rX4_layPeople (by omega) e_5078 ?_)
      show Rn d _ _ 72 [some (.ref q0), some (.int x1), some (.int x2)] [.int v_5080] h_5081 Q
      obtain rfl := Option.some.inj e
      exact Rn.ret hT rfl rfl rfl hq
set_option maxRecDepth 10000 in
theorem hX11_guards : iv_Tb 177 tX11_guards := iv_tb_of (m := mX11_guards) rfl
set_option maxRecDepth 10000 in
theorem gX11_guards : PG.2 177 = some mX11_guards := iv_pi_of (t := tX11_guards) rfl (by decide)
def fX11_guards_b19 (N : Nat) (h : iv_H)   : Option (Int32 × iv_H) := (some ((-1 : Int32), h))
set_option maxRecDepth 10000 in
set_option maxHeartbeats 4000000 in
theorem rX11_guards_b19 {d N : Nat} (hd : 4 ≤ d) {h : iv_H}   {r : Int32 × iv_H} {Q : Option Value → iv_H → Prop} (hq : Q (some (.int r.1)) r.2) (e : fX11_guards_b19 N h   = some r) : Rn d 177 (some .int) 19 [none, none, none] [] h Q := by
  have hT := hX11_guards
  unfold fX11_guards_b19 at e
  refine Rn.n hT 1 (pc' := 20) (L' := [none, none, none]) (st' := [.int (-1 : Int32)]) rfl ?_
  obtain rfl := Option.some.inj e
  exact Rn.ret hT rfl rfl rfl hq
def fX11_guards_b48 (N : Nat) (h : iv_H)  (s0 : Int32) : Option (Int32 × iv_H) := (some (s0, h))
set_option maxRecDepth 10000 in
set_option maxHeartbeats 4000000 in
theorem rX11_guards_b48 {d N : Nat} (hd : 4 ≤ d) {h : iv_H}  {s0 : Int32} {r : Int32 × iv_H} {Q : Option Value → iv_H → Prop} (hq : Q (some (.int r.1)) r.2) (e : fX11_guards_b48 N h  s0 = some r) : Rn d 177 (some .int) 48 [none, none, none] [.int s0] h Q := by
  have hT := hX11_guards
  unfold fX11_guards_b48 at e
  obtain rfl := Option.some.inj e
  exact Rn.ret hT rfl rfl rfl hq
def fX11_guards (N : Nat) (h : iv_H) (q0 : Nat) (x1 : Int32) : Option (Int32 × iv_H) := ((gR h 11 4 q0).bind fun v_5083 => ((gI h 2 0 v_5083).bind fun v_5085 => (if v_5085 = 0 then (fX11_guards_b19 N h) else (if x1 < 0 then (fX11_guards_b19 N h) else (if x1 ≤ (1 : Int32) then ((gR h 11 12 q0).bind fun v_5090 => ((gR h 11 4 q0).bind fun v_5092 => ((gR h 2 9 v_5092).bind fun v_5094 => ((cko h v_5090 0).bind fun _ => (fX0_guarding N h v_5090 v_5094).bind fun p_5103 => (fun (v_5098 : Int32) (h_5099 : iv_H) => (if x1 = 0 then ((fJ6_bitCount_0f7a4 N h_5099 v_5098).bind fun v_5102 => (fX11_guards_b48 N h_5099 v_5102)) else (fX11_guards_b48 N h_5099 v_5098))) p_5103.1 p_5103.2)))) else (fX11_guards_b19 N h))))))
set_option maxRecDepth 10000 in
set_option maxHeartbeats 4000000 in
theorem rX11_guards {d N : Nat} (hd : 5 ≤ d) {h : iv_H} {q0 : Nat} {x1 : Int32} {r : Int32 × iv_H} {Q : Option Value → iv_H → Prop} (e : fX11_guards N h q0 x1 = some r) (hq : Q (some (.int r.1)) r.2) : Cl d 177 [.ref q0, .int x1] h Q := by
  obtain ⟨d, rfl⟩ : ∃ k, d = k + 1 := ⟨d - 1, by omega⟩
  have hd : 4 ≤ d := by omega
  have hT := hX11_guards
  unfold fX11_guards at e
  refine Cl.into (by decide) gX11_guards rfl ?_
  show Rn d 177 (some .int) 0 [some (.ref q0), some (.int x1), none] [] h Q
  refine Rn.n hT 1 (pc' := 1) (L' := [some (.ref q0), some (.int x1), none]) (st' := [.ref q0]) rfl ?_
  obtain ⟨v_5083, e_5084, e⟩ := Option.bind_eq_some_iff.mp e
  refine Rn.hp hT rfl rfl (gR_hp e_5084) ?_
  obtain ⟨v_5085, e_5086, e⟩ := Option.bind_eq_some_iff.mp e
  refine Rn.hp hT rfl rfl (gI_hp e_5086) ?_
  by_cases c_5087 : v_5085 = 0
  · rw [if_pos c_5087] at e
    refine Rn.bt hT rfl rfl rfl (decide_eq_true c_5087) ?_
    exact Rn.weak (ll_n (ll_n (ll_n ll_e))) (rX11_guards_b19 hd hq e)
  · rw [if_neg c_5087] at e
    refine Rn.bf hT rfl rfl rfl (decide_eq_false c_5087) ?_
    refine Rn.n hT 1 (pc' := 11) (L' := [some (.ref q0), some (.int x1), none]) (st' := [.int x1]) rfl ?_
    by_cases c_5088 : x1 < 0
    · rw [if_pos c_5088] at e
      refine Rn.bt hT rfl rfl rfl (decide_eq_true c_5088) ?_
      exact Rn.weak (ll_n (ll_n (ll_n ll_e))) (rX11_guards_b19 hd hq e)
    · rw [if_neg c_5088] at e
      refine Rn.bf hT rfl rfl rfl (decide_eq_false c_5088) ?_
      refine Rn.n hT 2 (pc' := 16) (L' := [some (.ref q0), some (.int x1), none]) (st' := [.int (1 : Int32), .int x1]) rfl ?_
      by_cases c_5089 : x1 ≤ (1 : Int32)
      · rw [if_pos c_5089] at e
        refine Rn.bt hT rfl rfl rfl (decide_eq_true c_5089) ?_
        refine Rn.n hT 1 (pc' := 22) (L' := [some (.ref q0), some (.int x1), none]) (st' := [.ref q0]) rfl ?_
        obtain ⟨v_5090, e_5091, e⟩ := Option.bind_eq_some_iff.mp e
        refine Rn.hp hT rfl rfl (gR_hp e_5091) ?_
        refine Rn.n hT 1 (pc' := 26) (L' := [some (.ref q0), some (.int x1), none]) (st' := [.ref q0, .ref v_5090]) rfl ?_
        obtain ⟨v_5092, e_5093, e⟩ := Option.bind_eq_some_iff.mp e
        refine Rn.hp hT rfl rfl (gR_hp e_5093) ?_
        obtain ⟨v_5094, e_5095, e⟩ := Option.bind_eq_some_iff.mp e
        refine Rn.hp hT rfl rfl (gR_hp e_5095) ?_
        obtain ⟨_, e_5097, e⟩ := Option.bind_eq_some_iff.mp e
        obtain ⟨⟨v_5098, h_5099⟩, e_5096, e⟩ := Option.bind_eq_some_iff.mp e
        try dsimp only at e
        try dsimp only at e
        refine Rn.call hT rfl rfl rfl (Nat.le_of_ble_eq_true rfl) (rcv_v gX0_guarding (by omega) e_5097) (rX0_guarding (by omega) e_5096 ?_)
        show Rn d _ _ 35 [some (.ref q0), some (.int x1), none] [.int v_5098] h_5099 Q
        refine Rn.n hT 2 (pc' := 37) (L' := [some (.ref q0), some (.int x1), some (.int v_5098)]) (st' := [.int x1]) rfl ?_
        by_cases c_5100 : x1 = 0
        · rw [if_pos c_5100] at e
          refine Rn.bf hT rfl rfl rfl (decide_eq_false (fun z => z c_5100)) ?_
          refine Rn.n hT 1 (pc' := 41) (L' := [some (.ref q0), some (.int x1), some (.int v_5098)]) (st' := [.int v_5098]) rfl ?_
          obtain ⟨v_5102, e_5101, e⟩ := Option.bind_eq_some_iff.mp e
          refine Rn.call hT rfl rfl rfl (Nat.le_of_ble_eq_true rfl) rfl (rJ6_bitCount_0f7a4 (by omega) e_5101 ?_)
          show Rn d _ _ 44 [some (.ref q0), some (.int x1), some (.int v_5098)] [.int v_5102] h_5099 Q
          refine Rn.n hT 1 (pc' := 48) (L' := [some (.ref q0), some (.int x1), some (.int v_5098)]) (st' := [.int v_5102]) rfl ?_
          exact Rn.weak (ll_n (ll_n (ll_n ll_e))) (rX11_guards_b48 hd hq e)
        · rw [if_neg c_5100] at e
          refine Rn.bt hT rfl rfl rfl (decide_eq_true c_5100) ?_
          refine Rn.n hT 1 (pc' := 48) (L' := [some (.ref q0), some (.int x1), some (.int v_5098)]) (st' := [.int v_5098]) rfl ?_
          exact Rn.weak (ll_n (ll_n (ll_n ll_e))) (rX11_guards_b48 hd hq e)
      · rw [if_neg c_5089] at e
        refine Rn.bf hT rfl rfl rfl (decide_eq_false c_5089) ?_
        exact Rn.weak (ll_n (ll_n (ll_n ll_e))) (rX11_guards_b19 hd hq e)
set_option maxRecDepth 10000 in
theorem hX11_drift : iv_Tb 178 tX11_drift := iv_tb_of (m := mX11_drift) rfl
set_option maxRecDepth 10000 in
theorem gX11_drift : PG.2 178 = some mX11_drift := iv_pi_of (t := tX11_drift) rfl (by decide)
def fX11_drift_b19 (N : Nat) (h : iv_H)   : Option (Int32) := (some (-1 : Int32))
set_option maxRecDepth 10000 in
set_option maxHeartbeats 4000000 in
theorem rX11_drift_b19 {d N : Nat} (hd : 2 ≤ d) {h : iv_H}   {r : Int32} {Q : Option Value → iv_H → Prop} (hq : Q (some (.int r)) h) (e : fX11_drift_b19 N h   = some r) : Rn d 178 (some .int) 19 [none, none, none] [] h Q := by
  have hT := hX11_drift
  unfold fX11_drift_b19 at e
  refine Rn.n hT 1 (pc' := 20) (L' := [none, none, none]) (st' := [.int (-1 : Int32)]) rfl ?_
  obtain rfl := Option.some.inj e
  exact Rn.ret hT rfl rfl rfl hq
def fX11_drift_b75 (N : Nat) (h : iv_H)  (s0 : Int32) : Option (Int32) := (some s0)
set_option maxRecDepth 10000 in
set_option maxHeartbeats 4000000 in
theorem rX11_drift_b75 {d N : Nat} (hd : 2 ≤ d) {h : iv_H}  {s0 : Int32} {r : Int32} {Q : Option Value → iv_H → Prop} (hq : Q (some (.int r)) h) (e : fX11_drift_b75 N h  s0 = some r) : Rn d 178 (some .int) 75 [none, none, none] [.int s0] h Q := by
  have hT := hX11_drift
  unfold fX11_drift_b75 at e
  obtain rfl := Option.some.inj e
  exact Rn.ret hT rfl rfl rfl hq
def fX11_drift (N : Nat) (h : iv_H) (q0 : Nat) (x1 : Int32) : Option (Int32) := ((gR h 11 4 q0).bind fun v_5104 => ((gI h 2 0 v_5104).bind fun v_5106 => (if v_5106 = 0 then (fX11_drift_b19 N h) else (if x1 < 0 then (fX11_drift_b19 N h) else (if x1 ≤ (2 : Int32) then (if x1 = 0 then ((gR h 11 4 q0).bind fun v_5128 => ((gR h 2 9 v_5128).bind fun v_5130 => ((cko h v_5130 1).bind fun _ => (fX1_lockedDrift N h v_5130).bind fun v_5134 => (some v_5134)))) else ((gR h 11 4 q0).bind fun v_5112 => ((gR h 2 9 v_5112).bind fun v_5114 => ((cko h v_5114 1).bind fun _ => (fX1_mostDoors N h v_5114).bind fun v_5118 => (if v_5118 = (-1 : Int32) then (some (-2 : Int32)) else (if x1 = (1 : Int32) then (fX11_drift_b75 N h v_5118) else ((gR h 11 4 q0).bind fun v_5121 => ((gR h 2 9 v_5121).bind fun v_5123 => ((cko h v_5123 1).bind fun _ => (fX1_doorsThatMeet N h v_5123 v_5118).bind fun v_5127 => (fX11_drift_b75 N h v_5127)))))))))) else (fX11_drift_b19 N h))))))
set_option maxRecDepth 10000 in
set_option maxHeartbeats 4000000 in
theorem rX11_drift {d N : Nat} (hd : 3 ≤ d) {h : iv_H} {q0 : Nat} {x1 : Int32} {r : Int32} {Q : Option Value → iv_H → Prop} (e : fX11_drift N h q0 x1 = some r) (hq : Q (some (.int r)) h) : Cl d 178 [.ref q0, .int x1] h Q := by
  obtain ⟨d, rfl⟩ : ∃ k, d = k + 1 := ⟨d - 1, by omega⟩
  have hd : 2 ≤ d := by omega
  have hT := hX11_drift
  unfold fX11_drift at e
  refine Cl.into (by decide) gX11_drift rfl ?_
  show Rn d 178 (some .int) 0 [some (.ref q0), some (.int x1), none] [] h Q
  refine Rn.n hT 1 (pc' := 1) (L' := [some (.ref q0), some (.int x1), none]) (st' := [.ref q0]) rfl ?_
  obtain ⟨v_5104, e_5105, e⟩ := Option.bind_eq_some_iff.mp e
  refine Rn.hp hT rfl rfl (gR_hp e_5105) ?_
  obtain ⟨v_5106, e_5107, e⟩ := Option.bind_eq_some_iff.mp e
  refine Rn.hp hT rfl rfl (gI_hp e_5107) ?_
  by_cases c_5108 : v_5106 = 0
  · rw [if_pos c_5108] at e
    refine Rn.bt hT rfl rfl rfl (decide_eq_true c_5108) ?_
    exact Rn.weak (ll_n (ll_n (ll_n ll_e))) (rX11_drift_b19 hd hq e)
  · rw [if_neg c_5108] at e
    refine Rn.bf hT rfl rfl rfl (decide_eq_false c_5108) ?_
    refine Rn.n hT 1 (pc' := 11) (L' := [some (.ref q0), some (.int x1), none]) (st' := [.int x1]) rfl ?_
    by_cases c_5109 : x1 < 0
    · rw [if_pos c_5109] at e
      refine Rn.bt hT rfl rfl rfl (decide_eq_true c_5109) ?_
      exact Rn.weak (ll_n (ll_n (ll_n ll_e))) (rX11_drift_b19 hd hq e)
    · rw [if_neg c_5109] at e
      refine Rn.bf hT rfl rfl rfl (decide_eq_false c_5109) ?_
      refine Rn.n hT 2 (pc' := 16) (L' := [some (.ref q0), some (.int x1), none]) (st' := [.int (2 : Int32), .int x1]) rfl ?_
      by_cases c_5110 : x1 ≤ (2 : Int32)
      · rw [if_pos c_5110] at e
        refine Rn.bt hT rfl rfl rfl (decide_eq_true c_5110) ?_
        refine Rn.n hT 1 (pc' := 22) (L' := [some (.ref q0), some (.int x1), none]) (st' := [.int x1]) rfl ?_
        by_cases c_5111 : x1 = 0
        · rw [if_pos c_5111] at e
          refine Rn.bf hT rfl rfl rfl (decide_eq_false (fun z => z c_5111)) ?_
          refine Rn.n hT 1 (pc' := 26) (L' := [some (.ref q0), some (.int x1), none]) (st' := [.ref q0]) rfl ?_
          obtain ⟨v_5128, e_5129, e⟩ := Option.bind_eq_some_iff.mp e
          refine Rn.hp hT rfl rfl (gR_hp e_5129) ?_
          obtain ⟨v_5130, e_5131, e⟩ := Option.bind_eq_some_iff.mp e
          refine Rn.hp hT rfl rfl (gR_hp e_5131) ?_
          obtain ⟨_, e_5133, e⟩ := Option.bind_eq_some_iff.mp e
          obtain ⟨v_5134, e_5132, e⟩ := Option.bind_eq_some_iff.mp e
          refine Rn.call hT rfl rfl rfl (Nat.le_of_ble_eq_true rfl) (rcv_v gX1_lockedDrift (by omega) e_5133) (rX1_lockedDrift (by omega) e_5132 ?_)
          show Rn d _ _ 35 [some (.ref q0), some (.int x1), none] [.int v_5134] h Q
          obtain rfl := Option.some.inj e
          exact Rn.ret hT rfl rfl rfl hq
        · rw [if_neg c_5111] at e
          refine Rn.bt hT rfl rfl rfl (decide_eq_true c_5111) ?_
          refine Rn.n hT 1 (pc' := 37) (L' := [some (.ref q0), some (.int x1), none]) (st' := [.ref q0]) rfl ?_
          obtain ⟨v_5112, e_5113, e⟩ := Option.bind_eq_some_iff.mp e
          refine Rn.hp hT rfl rfl (gR_hp e_5113) ?_
          obtain ⟨v_5114, e_5115, e⟩ := Option.bind_eq_some_iff.mp e
          refine Rn.hp hT rfl rfl (gR_hp e_5115) ?_
          obtain ⟨_, e_5117, e⟩ := Option.bind_eq_some_iff.mp e
          obtain ⟨v_5118, e_5116, e⟩ := Option.bind_eq_some_iff.mp e
          refine Rn.call hT rfl rfl rfl (Nat.le_of_ble_eq_true rfl) (rcv_v gX1_mostDoors (by omega) e_5117) (rX1_mostDoors (by omega) e_5116 ?_)
          show Rn d _ _ 46 [some (.ref q0), some (.int x1), none] [.int v_5118] h Q
          refine Rn.n hT 3 (pc' := 49) (L' := [some (.ref q0), some (.int x1), some (.int v_5118)]) (st' := [.int (-1 : Int32), .int v_5118]) rfl ?_
          by_cases c_5119 : v_5118 = (-1 : Int32)
          · rw [if_pos c_5119] at e
            refine Rn.bf hT rfl rfl rfl (decide_eq_false (fun z => z c_5119)) ?_
            refine Rn.n hT 1 (pc' := 54) (L' := [some (.ref q0), some (.int x1), some (.int v_5118)]) (st' := [.int (-2 : Int32)]) rfl ?_
            obtain rfl := Option.some.inj e
            exact Rn.ret hT rfl rfl rfl hq
          · rw [if_neg c_5119] at e
            refine Rn.bt hT rfl rfl rfl (decide_eq_true c_5119) ?_
            refine Rn.n hT 2 (pc' := 57) (L' := [some (.ref q0), some (.int x1), some (.int v_5118)]) (st' := [.int (1 : Int32), .int x1]) rfl ?_
            by_cases c_5120 : x1 = (1 : Int32)
            · rw [if_pos c_5120] at e
              refine Rn.bf hT rfl rfl rfl (decide_eq_false (fun z => z c_5120)) ?_
              refine Rn.n hT 2 (pc' := 75) (L' := [some (.ref q0), some (.int x1), some (.int v_5118)]) (st' := [.int v_5118]) rfl ?_
              exact Rn.weak (ll_n (ll_n (ll_n ll_e))) (rX11_drift_b75 hd hq e)
            · rw [if_neg c_5120] at e
              refine Rn.bt hT rfl rfl rfl (decide_eq_true c_5120) ?_
              refine Rn.n hT 1 (pc' := 65) (L' := [some (.ref q0), some (.int x1), some (.int v_5118)]) (st' := [.ref q0]) rfl ?_
              obtain ⟨v_5121, e_5122, e⟩ := Option.bind_eq_some_iff.mp e
              refine Rn.hp hT rfl rfl (gR_hp e_5122) ?_
              obtain ⟨v_5123, e_5124, e⟩ := Option.bind_eq_some_iff.mp e
              refine Rn.hp hT rfl rfl (gR_hp e_5124) ?_
              refine Rn.n hT 1 (pc' := 72) (L' := [some (.ref q0), some (.int x1), some (.int v_5118)]) (st' := [.int v_5118, .ref v_5123]) rfl ?_
              obtain ⟨_, e_5126, e⟩ := Option.bind_eq_some_iff.mp e
              obtain ⟨v_5127, e_5125, e⟩ := Option.bind_eq_some_iff.mp e
              refine Rn.call hT rfl rfl rfl (Nat.le_of_ble_eq_true rfl) (rcv_v gX1_doorsThatMeet (by omega) e_5126) (rX1_doorsThatMeet (by omega) e_5125 ?_)
              show Rn d _ _ 75 [some (.ref q0), some (.int x1), some (.int v_5118)] [.int v_5127] h Q
              exact Rn.weak (ll_n (ll_n (ll_n ll_e))) (rX11_drift_b75 hd hq e)
      · rw [if_neg c_5110] at e
        refine Rn.bf hT rfl rfl rfl (decide_eq_false c_5110) ?_
        exact Rn.weak (ll_n (ll_n (ll_n ll_e))) (rX11_drift_b19 hd hq e)
set_option maxRecDepth 10000 in
theorem hX11_woke : iv_Tb 179 tX11_woke := iv_tb_of (m := mX11_woke) rfl
set_option maxRecDepth 10000 in
theorem gX11_woke : PG.2 179 = some mX11_woke := iv_pi_of (t := tX11_woke) rfl (by decide)
def fX11_woke_b79 (N : Nat) (h : iv_H)   : Option (Int32 × iv_H) := (some ((-2 : Int32), h))
set_option maxRecDepth 10000 in
set_option maxHeartbeats 4000000 in
theorem rX11_woke_b79 {d N : Nat} (hd : 1 ≤ d) {h : iv_H}   {r : Int32 × iv_H} {Q : Option Value → iv_H → Prop} (hq : Q (some (.int r.1)) r.2) (e : fX11_woke_b79 N h   = some r) : Rn d 179 (some .int) 79 [none, none, none, none, none] [] h Q := by
  have hT := hX11_woke
  unfold fX11_woke_b79 at e
  refine Rn.n hT 1 (pc' := 81) (L' := [none, none, none, none, none]) (st' := [.int (-2 : Int32)]) rfl ?_
  obtain rfl := Option.some.inj e
  exact Rn.ret hT rfl rfl rfl hq
def fX11_woke (N : Nat) (h : iv_H) (q0 : Nat) (x1 : Int32) (x2 : Int32) (x3 : Int32) : Option (Int32 × iv_H) := (if x1 = (-1 : Int32) then ((gR h 11 4 q0).bind fun v_5170 => ((gR h 2 18 v_5170).bind fun v_5172 => ((pV h 7 1 v_5172 (.int (0 : Int32))).bind fun h_5174 => ((gI h_5174 11 15 q0).bind fun v_5176 => ((pV h_5174 11 15 q0 (.int (v_5176 + (1 : Int32)))).bind fun h_5178 => (some ((0 : Int32), h_5178))))))) else ((gR h 11 4 q0).bind fun v_5136 => ((gR h 2 9 v_5136).bind fun v_5138 => ((cko h v_5138 1).bind fun _ => (fX1_cellAt N h v_5138 x2 x3).bind fun v_5142 => ((gR h 11 4 q0).bind fun v_5143 => ((cko h v_5143 2).bind fun _ => (fX2_isRoom N h v_5143 x1).bind fun v_5147 => (if v_5147 = 0 then (fX11_woke_b79 N h) else (if v_5142 = (-1 : Int32) then (fX11_woke_b79 N h) else ((gR h 11 4 q0).bind fun v_5150 => ((gR h 2 18 v_5150).bind fun v_5152 => ((cko h v_5152 7).bind fun _ => (fX7_add N h v_5152 ((((x1 <<< ((4 : Int32) &&& 31)) ||| v_5142)).toInt64)).bind fun p_5169 => (fun (v_5156 : Int32) (h_5157 : iv_H) => (if v_5156 = 0 then (fX11_woke_b79 N h_5157) else ((gI h_5157 11 15 q0).bind fun v_5159 => ((pV h_5157 11 15 q0 (.int (v_5159 + (1 : Int32)))).bind fun h_5161 => ((gR h_5161 11 4 q0).bind fun v_5163 => ((gR h_5161 2 18 v_5163).bind fun v_5165 => ((gI h_5161 7 1 v_5165).bind fun v_5167 => (some (v_5167, h_5161))))))))) p_5169.1 p_5169.2)))))))))))
set_option maxRecDepth 10000 in
set_option maxHeartbeats 4000000 in
theorem rX11_woke {d N : Nat} (hd : 2 ≤ d) {h : iv_H} {q0 : Nat} {x1 : Int32} {x2 : Int32} {x3 : Int32} {r : Int32 × iv_H} {Q : Option Value → iv_H → Prop} (e : fX11_woke N h q0 x1 x2 x3 = some r) (hq : Q (some (.int r.1)) r.2) : Cl d 179 [.ref q0, .int x1, .int x2, .int x3] h Q := by
  obtain ⟨d, rfl⟩ : ∃ k, d = k + 1 := ⟨d - 1, by omega⟩
  have hd : 1 ≤ d := by omega
  have hT := hX11_woke
  unfold fX11_woke at e
  refine Cl.into (by decide) gX11_woke rfl ?_
  show Rn d 179 (some .int) 0 [some (.ref q0), some (.int x1), some (.int x2), some (.int x3), none] [] h Q
  refine Rn.n hT 2 (pc' := 2) (L' := [some (.ref q0), some (.int x1), some (.int x2), some (.int x3), none]) (st' := [.int (-1 : Int32), .int x1]) rfl ?_
  by_cases c_5135 : x1 = (-1 : Int32)
  · rw [if_pos c_5135] at e
    refine Rn.bf hT rfl rfl rfl (decide_eq_false (fun z => z c_5135)) ?_
    refine Rn.n hT 1 (pc' := 6) (L' := [some (.ref q0), some (.int x1), some (.int x2), some (.int x3), none]) (st' := [.ref q0]) rfl ?_
    obtain ⟨v_5170, e_5171, e⟩ := Option.bind_eq_some_iff.mp e
    refine Rn.hp hT rfl rfl (gR_hp e_5171) ?_
    obtain ⟨v_5172, e_5173, e⟩ := Option.bind_eq_some_iff.mp e
    refine Rn.hp hT rfl rfl (gR_hp e_5173) ?_
    refine Rn.n hT 1 (pc' := 13) (L' := [some (.ref q0), some (.int x1), some (.int x2), some (.int x3), none]) (st' := [.int (0 : Int32), .ref v_5172]) rfl ?_
    obtain ⟨h_5174, e_5175, e⟩ := Option.bind_eq_some_iff.mp e
    refine Rn.hp hT rfl rfl (pV_hp rfl e_5175) ?_
    refine Rn.n hT 2 (pc' := 18) (L' := [some (.ref q0), some (.int x1), some (.int x2), some (.int x3), none]) (st' := [.ref q0, .ref q0]) rfl ?_
    obtain ⟨v_5176, e_5177, e⟩ := Option.bind_eq_some_iff.mp e
    refine Rn.hp hT rfl rfl (gI_hp e_5177) ?_
    refine Rn.n hT 2 (pc' := 23) (L' := [some (.ref q0), some (.int x1), some (.int x2), some (.int x3), none]) (st' := [.int (v_5176 + (1 : Int32)), .ref q0]) rfl ?_
    obtain ⟨h_5178, e_5179, e⟩ := Option.bind_eq_some_iff.mp e
    refine Rn.hp hT rfl rfl (pV_hp rfl e_5179) ?_
    refine Rn.n hT 1 (pc' := 27) (L' := [some (.ref q0), some (.int x1), some (.int x2), some (.int x3), none]) (st' := [.int (0 : Int32)]) rfl ?_
    obtain rfl := Option.some.inj e
    exact Rn.ret hT rfl rfl rfl hq
  · rw [if_neg c_5135] at e
    refine Rn.bt hT rfl rfl rfl (decide_eq_true c_5135) ?_
    refine Rn.n hT 1 (pc' := 29) (L' := [some (.ref q0), some (.int x1), some (.int x2), some (.int x3), none]) (st' := [.ref q0]) rfl ?_
    obtain ⟨v_5136, e_5137, e⟩ := Option.bind_eq_some_iff.mp e
    refine Rn.hp hT rfl rfl (gR_hp e_5137) ?_
    obtain ⟨v_5138, e_5139, e⟩ := Option.bind_eq_some_iff.mp e
    refine Rn.hp hT rfl rfl (gR_hp e_5139) ?_
    refine Rn.n hT 2 (pc' := 37) (L' := [some (.ref q0), some (.int x1), some (.int x2), some (.int x3), none]) (st' := [.int x3, .int x2, .ref v_5138]) rfl ?_
    obtain ⟨_, e_5141, e⟩ := Option.bind_eq_some_iff.mp e
    obtain ⟨v_5142, e_5140, e⟩ := Option.bind_eq_some_iff.mp e
    refine Rn.call hT rfl rfl rfl (Nat.le_of_ble_eq_true rfl) (rcv_v gX1_cellAt (by omega) e_5141) (rX1_cellAt (by omega) e_5140 ?_)
    show Rn d _ _ 40 [some (.ref q0), some (.int x1), some (.int x2), some (.int x3), none] [.int v_5142] h Q
    refine Rn.n hT 2 (pc' := 43) (L' := [some (.ref q0), some (.int x1), some (.int x2), some (.int x3), some (.int v_5142)]) (st' := [.ref q0]) rfl ?_
    obtain ⟨v_5143, e_5144, e⟩ := Option.bind_eq_some_iff.mp e
    refine Rn.hp hT rfl rfl (gR_hp e_5144) ?_
    refine Rn.n hT 1 (pc' := 47) (L' := [some (.ref q0), some (.int x1), some (.int x2), some (.int x3), some (.int v_5142)]) (st' := [.int x1, .ref v_5143]) rfl ?_
    obtain ⟨_, e_5146, e⟩ := Option.bind_eq_some_iff.mp e
    obtain ⟨v_5147, e_5145, e⟩ := Option.bind_eq_some_iff.mp e
    refine Rn.call hT rfl rfl rfl (Nat.le_of_ble_eq_true rfl) (rcv_v gX2_isRoom (by omega) e_5146) (rX2_isRoom (by omega) e_5145 ?_)
    show Rn d _ _ 50 [some (.ref q0), some (.int x1), some (.int x2), some (.int x3), some (.int v_5142)] [.int v_5147] h Q
    by_cases c_5148 : v_5147 = 0
    · rw [if_pos c_5148] at e
      refine Rn.bt hT rfl rfl rfl (decide_eq_true c_5148) ?_
      exact Rn.weak (ll_n (ll_n (ll_n (ll_n (ll_n ll_e))))) (rX11_woke_b79 hd hq e)
    · rw [if_neg c_5148] at e
      refine Rn.bf hT rfl rfl rfl (decide_eq_false c_5148) ?_
      refine Rn.n hT 2 (pc' := 56) (L' := [some (.ref q0), some (.int x1), some (.int x2), some (.int x3), some (.int v_5142)]) (st' := [.int (-1 : Int32), .int v_5142]) rfl ?_
      by_cases c_5149 : v_5142 = (-1 : Int32)
      · rw [if_pos c_5149] at e
        refine Rn.bt hT rfl rfl rfl (decide_eq_true c_5149) ?_
        exact Rn.weak (ll_n (ll_n (ll_n (ll_n (ll_n ll_e))))) (rX11_woke_b79 hd hq e)
      · rw [if_neg c_5149] at e
        refine Rn.bf hT rfl rfl rfl (decide_eq_false c_5149) ?_
        refine Rn.n hT 1 (pc' := 60) (L' := [some (.ref q0), some (.int x1), some (.int x2), some (.int x3), some (.int v_5142)]) (st' := [.ref q0]) rfl ?_
        obtain ⟨v_5150, e_5151, e⟩ := Option.bind_eq_some_iff.mp e
        refine Rn.hp hT rfl rfl (gR_hp e_5151) ?_
        obtain ⟨v_5152, e_5153, e⟩ := Option.bind_eq_some_iff.mp e
        refine Rn.hp hT rfl rfl (gR_hp e_5153) ?_
        refine Rn.n hT 6 (pc' := 73) (L' := [some (.ref q0), some (.int x1), some (.int x2), some (.int x3), some (.int v_5142)]) (st' := [.long ((((x1 <<< ((4 : Int32) &&& 31)) ||| v_5142)).toInt64), .ref v_5152]) rfl ?_
        obtain ⟨_, e_5155, e⟩ := Option.bind_eq_some_iff.mp e
        obtain ⟨⟨v_5156, h_5157⟩, e_5154, e⟩ := Option.bind_eq_some_iff.mp e
        try dsimp only at e
        try dsimp only at e
        refine Rn.call hT rfl rfl rfl (Nat.le_of_ble_eq_true rfl) (rcv_v gX7_add (by omega) e_5155) (rX7_add (by omega) e_5154 ?_)
        show Rn d _ _ 76 [some (.ref q0), some (.int x1), some (.int x2), some (.int x3), some (.int v_5142)] [.int v_5156] h_5157 Q
        by_cases c_5158 : v_5156 = 0
        · rw [if_pos c_5158] at e
          refine Rn.bf hT rfl rfl rfl (decide_eq_false (fun z => z c_5158)) ?_
          exact Rn.weak (ll_n (ll_n (ll_n (ll_n (ll_n ll_e))))) (rX11_woke_b79 hd hq e)
        · rw [if_neg c_5158] at e
          refine Rn.bt hT rfl rfl rfl (decide_eq_true c_5158) ?_
          refine Rn.n hT 2 (pc' := 84) (L' := [some (.ref q0), some (.int x1), some (.int x2), some (.int x3), some (.int v_5142)]) (st' := [.ref q0, .ref q0]) rfl ?_
          obtain ⟨v_5159, e_5160, e⟩ := Option.bind_eq_some_iff.mp e
          refine Rn.hp hT rfl rfl (gI_hp e_5160) ?_
          refine Rn.n hT 2 (pc' := 89) (L' := [some (.ref q0), some (.int x1), some (.int x2), some (.int x3), some (.int v_5142)]) (st' := [.int (v_5159 + (1 : Int32)), .ref q0]) rfl ?_
          obtain ⟨h_5161, e_5162, e⟩ := Option.bind_eq_some_iff.mp e
          refine Rn.hp hT rfl rfl (pV_hp rfl e_5162) ?_
          refine Rn.n hT 1 (pc' := 93) (L' := [some (.ref q0), some (.int x1), some (.int x2), some (.int x3), some (.int v_5142)]) (st' := [.ref q0]) rfl ?_
          obtain ⟨v_5163, e_5164, e⟩ := Option.bind_eq_some_iff.mp e
          refine Rn.hp hT rfl rfl (gR_hp e_5164) ?_
          obtain ⟨v_5165, e_5166, e⟩ := Option.bind_eq_some_iff.mp e
          refine Rn.hp hT rfl rfl (gR_hp e_5166) ?_
          obtain ⟨v_5167, e_5168, e⟩ := Option.bind_eq_some_iff.mp e
          refine Rn.hp hT rfl rfl (gI_hp e_5168) ?_
          obtain rfl := Option.some.inj e
          exact Rn.ret hT rfl rfl rfl hq
set_option maxRecDepth 10000 in
theorem hX11_how : iv_Tb 180 tX11_how := iv_tb_of (m := mX11_how) rfl
set_option maxRecDepth 10000 in
theorem gX11_how : PG.2 180 = some mX11_how := iv_pi_of (t := tX11_how) rfl (by decide)
def fX11_how_b29 (N : Nat) (h : iv_H)   : Option (Int32 × iv_H) := (some ((-1 : Int32), h))
set_option maxRecDepth 10000 in
set_option maxHeartbeats 4000000 in
theorem rX11_how_b29 {d N : Nat} (hd : 13 ≤ d) {h : iv_H}   {r : Int32 × iv_H} {Q : Option Value → iv_H → Prop} (hq : Q (some (.int r.1)) r.2) (e : fX11_how_b29 N h   = some r) : Rn d 180 (some .int) 29 [none, none, none, none] [] h Q := by
  have hT := hX11_how
  unfold fX11_how_b29 at e
  refine Rn.n hT 1 (pc' := 30) (L' := [none, none, none, none]) (st' := [.int (-1 : Int32)]) rfl ?_
  obtain rfl := Option.some.inj e
  exact Rn.ret hT rfl rfl rfl hq
def fX11_how_b103 (N : Nat) (h : iv_H)  (s0 : Int32) : Option (Int32 × iv_H) := (some (s0, h))
set_option maxRecDepth 10000 in
set_option maxHeartbeats 4000000 in
theorem rX11_how_b103 {d N : Nat} (hd : 13 ≤ d) {h : iv_H}  {s0 : Int32} {r : Int32 × iv_H} {Q : Option Value → iv_H → Prop} (hq : Q (some (.int r.1)) r.2) (e : fX11_how_b103 N h  s0 = some r) : Rn d 180 (some .int) 103 [none, none, none, none] [.int s0] h Q := by
  have hT := hX11_how
  unfold fX11_how_b103 at e
  obtain rfl := Option.some.inj e
  exact Rn.ret hT rfl rfl rfl hq
def fX11_how_b101 (N : Nat) (h : iv_H)   : Option (Int32 × iv_H) := (fX11_how_b103 N h (-2 : Int32))
set_option maxRecDepth 10000 in
set_option maxHeartbeats 4000000 in
theorem rX11_how_b101 {d N : Nat} (hd : 13 ≤ d) {h : iv_H}   {r : Int32 × iv_H} {Q : Option Value → iv_H → Prop} (hq : Q (some (.int r.1)) r.2) (e : fX11_how_b101 N h   = some r) : Rn d 180 (some .int) 101 [none, none, none, none] [] h Q := by
  have hT := hX11_how
  unfold fX11_how_b101 at e
  refine Rn.n hT 1 (pc' := 103) (L' := [none, none, none, none]) (st' := [.int (-2 : Int32)]) rfl ?_
  exact Rn.weak (ll_n (ll_n (ll_n (ll_n ll_e)))) (rX11_how_b103 hd hq e)
def fX11_how (N : Nat) (h : iv_H) (q0 : Nat) (x1 : Int32) (x2 : Int32) : Option (Int32 × iv_H) := ((gR h 11 4 q0).bind fun v_5180 => ((gI h 2 0 v_5180).bind fun v_5182 => (if v_5182 = 0 then (fX11_how_b29 N h) else (if x1 < 0 then (fX11_how_b29 N h) else (if (3 : Int32) < x1 then (fX11_how_b29 N h) else (if x2 < 0 then (fX11_how_b29 N h) else (if x2 ≤ (6 : Int32) then ((gR h 11 11 q0).bind fun v_5189 => ((gR h 11 4 q0).bind fun v_5191 => ((cko h q0 11).bind fun _ => (fX11_ruleInForce N h q0).bind fun v_5195 => ((gI h 11 15 q0).bind fun v_5196 => ((cko h v_5189 10).bind fun _ => (fX10_askRows N h v_5189 v_5191 v_5195 x1 v_5196).bind fun h_5201 => (if (3 : Int32) < x2 then ((gR h_5201 11 11 q0).bind fun v_5203 => ((gR h_5201 10 6 v_5203).bind fun v_5205 => ((aI h_5201 v_5205 (0 : Int32)).bind fun v_5207 => (if v_5207 ≤ 0 then (fX11_how_b101 N h_5201) else (if x1 ≤ ((x2 - (3 : Int32)) - (1 : Int32)) then (fX11_how_b101 N h_5201) else ((gR h_5201 11 11 q0).bind fun v_5211 => ((gR h_5201 10 5 v_5211).bind fun v_5213 => ((aI h_5201 v_5213 ((x2 - (3 : Int32)) - (1 : Int32))).bind fun v_5215 => (fX11_how_b103 N h_5201 v_5215))))))))) else ((gR h_5201 11 11 q0).bind fun v_5217 => ((gR h_5201 10 6 v_5217).bind fun v_5219 => ((aI h_5201 v_5219 x2).bind fun v_5221 => (some (v_5221, h_5201))))))))))) else (fX11_how_b29 N h))))))))
set_option maxRecDepth 10000 in
set_option maxHeartbeats 4000000 in
theorem rX11_how {d N : Nat} (hd : 14 ≤ d) {h : iv_H} {q0 : Nat} {x1 : Int32} {x2 : Int32} {r : Int32 × iv_H} {Q : Option Value → iv_H → Prop} (e : fX11_how N h q0 x1 x2 = some r) (hq : Q (some (.int r.1)) r.2) : Cl d 180 [.ref q0, .int x1, .int x2] h Q := by
  obtain ⟨d, rfl⟩ : ∃ k, d = k + 1 := ⟨d - 1, by omega⟩
  have hd : 13 ≤ d := by omega
  have hT := hX11_how
  unfold fX11_how at e
  refine Cl.into (by decide) gX11_how rfl ?_
  show Rn d 180 (some .int) 0 [some (.ref q0), some (.int x1), some (.int x2), none] [] h Q
  refine Rn.n hT 1 (pc' := 1) (L' := [some (.ref q0), some (.int x1), some (.int x2), none]) (st' := [.ref q0]) rfl ?_
  obtain ⟨v_5180, e_5181, e⟩ := Option.bind_eq_some_iff.mp e
  refine Rn.hp hT rfl rfl (gR_hp e_5181) ?_
  obtain ⟨v_5182, e_5183, e⟩ := Option.bind_eq_some_iff.mp e
  refine Rn.hp hT rfl rfl (gI_hp e_5183) ?_
  by_cases c_5184 : v_5182 = 0
  · rw [if_pos c_5184] at e
    refine Rn.bt hT rfl rfl rfl (decide_eq_true c_5184) ?_
    exact Rn.weak (ll_n (ll_n (ll_n (ll_n ll_e)))) (rX11_how_b29 hd hq e)
  · rw [if_neg c_5184] at e
    refine Rn.bf hT rfl rfl rfl (decide_eq_false c_5184) ?_
    refine Rn.n hT 1 (pc' := 11) (L' := [some (.ref q0), some (.int x1), some (.int x2), none]) (st' := [.int x1]) rfl ?_
    by_cases c_5185 : x1 < 0
    · rw [if_pos c_5185] at e
      refine Rn.bt hT rfl rfl rfl (decide_eq_true c_5185) ?_
      exact Rn.weak (ll_n (ll_n (ll_n (ll_n ll_e)))) (rX11_how_b29 hd hq e)
    · rw [if_neg c_5185] at e
      refine Rn.bf hT rfl rfl rfl (decide_eq_false c_5185) ?_
      refine Rn.n hT 2 (pc' := 16) (L' := [some (.ref q0), some (.int x1), some (.int x2), none]) (st' := [.int (3 : Int32), .int x1]) rfl ?_
      by_cases c_5186 : (3 : Int32) < x1
      · rw [if_pos c_5186] at e
        refine Rn.bt hT rfl rfl rfl (decide_eq_true c_5186) ?_
        exact Rn.weak (ll_n (ll_n (ll_n (ll_n ll_e)))) (rX11_how_b29 hd hq e)
      · rw [if_neg c_5186] at e
        refine Rn.bf hT rfl rfl rfl (decide_eq_false c_5186) ?_
        refine Rn.n hT 1 (pc' := 20) (L' := [some (.ref q0), some (.int x1), some (.int x2), none]) (st' := [.int x2]) rfl ?_
        by_cases c_5187 : x2 < 0
        · rw [if_pos c_5187] at e
          refine Rn.bt hT rfl rfl rfl (decide_eq_true c_5187) ?_
          exact Rn.weak (ll_n (ll_n (ll_n (ll_n ll_e)))) (rX11_how_b29 hd hq e)
        · rw [if_neg c_5187] at e
          refine Rn.bf hT rfl rfl rfl (decide_eq_false c_5187) ?_
          refine Rn.n hT 2 (pc' := 26) (L' := [some (.ref q0), some (.int x1), some (.int x2), none]) (st' := [.int (6 : Int32), .int x2]) rfl ?_
          by_cases c_5188 : x2 ≤ (6 : Int32)
          · rw [if_pos c_5188] at e
            refine Rn.bt hT rfl rfl rfl (decide_eq_true c_5188) ?_
            refine Rn.n hT 1 (pc' := 32) (L' := [some (.ref q0), some (.int x1), some (.int x2), none]) (st' := [.ref q0]) rfl ?_
            obtain ⟨v_5189, e_5190, e⟩ := Option.bind_eq_some_iff.mp e
            refine Rn.hp hT rfl rfl (gR_hp e_5190) ?_
            refine Rn.n hT 1 (pc' := 36) (L' := [some (.ref q0), some (.int x1), some (.int x2), none]) (st' := [.ref q0, .ref v_5189]) rfl ?_
            obtain ⟨v_5191, e_5192, e⟩ := Option.bind_eq_some_iff.mp e
            refine Rn.hp hT rfl rfl (gR_hp e_5192) ?_
            refine Rn.n hT 1 (pc' := 40) (L' := [some (.ref q0), some (.int x1), some (.int x2), none]) (st' := [.ref q0, .ref v_5191, .ref v_5189]) rfl ?_
            obtain ⟨_, e_5194, e⟩ := Option.bind_eq_some_iff.mp e
            obtain ⟨v_5195, e_5193, e⟩ := Option.bind_eq_some_iff.mp e
            refine Rn.call hT rfl rfl rfl (Nat.le_of_ble_eq_true rfl) (rcv_v gX11_ruleInForce (by omega) e_5194) (rX11_ruleInForce (by omega) e_5193 ?_)
            show Rn d _ _ 43 [some (.ref q0), some (.int x1), some (.int x2), none] [iv_rf v_5195, .ref v_5191, .ref v_5189] h Q
            refine Rn.n hT 2 (pc' := 45) (L' := [some (.ref q0), some (.int x1), some (.int x2), none]) (st' := [.ref q0, .int x1, iv_rf v_5195, .ref v_5191, .ref v_5189]) rfl ?_
            obtain ⟨v_5196, e_5197, e⟩ := Option.bind_eq_some_iff.mp e
            refine Rn.hp hT rfl rfl (gI_hp e_5197) ?_
            obtain ⟨_, e_5199, e⟩ := Option.bind_eq_some_iff.mp e
            obtain ⟨h_5201, e_5198, e⟩ := Option.bind_eq_some_iff.mp e
            refine Rn.call hT rfl rfl rfl (Nat.le_of_ble_eq_true rfl) (rcv_v gX10_askRows (by omega) e_5199) (rX10_askRows (by omega) e_5198 ?_)
            show Rn d _ _ 51 [some (.ref q0), some (.int x1), some (.int x2), none] [] h_5201 Q
            refine Rn.n hT 2 (pc' := 53) (L' := [some (.ref q0), some (.int x1), some (.int x2), none]) (st' := [.int (3 : Int32), .int x2]) rfl ?_
            by_cases c_5202 : (3 : Int32) < x2
            · rw [if_pos c_5202] at e
              refine Rn.bt hT rfl rfl rfl (decide_eq_true c_5202) ?_
              refine Rn.n hT 7 (pc' := 73) (L' := [some (.ref q0), some (.int x1), some (.int x2), some (.int ((x2 - (3 : Int32)) - (1 : Int32)))]) (st' := [.ref q0]) rfl ?_
              obtain ⟨v_5203, e_5204, e⟩ := Option.bind_eq_some_iff.mp e
              refine Rn.hp hT rfl rfl (gR_hp e_5204) ?_
              obtain ⟨v_5205, e_5206, e⟩ := Option.bind_eq_some_iff.mp e
              refine Rn.hp hT rfl rfl (gR_hp e_5206) ?_
              refine Rn.n hT 1 (pc' := 80) (L' := [some (.ref q0), some (.int x1), some (.int x2), some (.int ((x2 - (3 : Int32)) - (1 : Int32)))]) (st' := [.int (0 : Int32), .ref v_5205]) rfl ?_
              obtain ⟨v_5207, e_5208, e⟩ := Option.bind_eq_some_iff.mp e
              refine Rn.hp hT rfl rfl (aI_hp e_5208) ?_
              by_cases c_5209 : v_5207 ≤ 0
              · rw [if_pos c_5209] at e
                refine Rn.bt hT rfl rfl rfl (decide_eq_true c_5209) ?_
                exact Rn.weak (ll_n (ll_n (ll_n (ll_n ll_e)))) (rX11_how_b101 hd hq e)
              · rw [if_neg c_5209] at e
                refine Rn.bf hT rfl rfl rfl (decide_eq_false c_5209) ?_
                refine Rn.n hT 2 (pc' := 86) (L' := [some (.ref q0), some (.int x1), some (.int x2), some (.int ((x2 - (3 : Int32)) - (1 : Int32)))]) (st' := [.int x1, .int ((x2 - (3 : Int32)) - (1 : Int32))]) rfl ?_
                by_cases c_5210 : x1 ≤ ((x2 - (3 : Int32)) - (1 : Int32))
                · rw [if_pos c_5210] at e
                  refine Rn.bt hT rfl rfl rfl (decide_eq_true c_5210) ?_
                  exact Rn.weak (ll_n (ll_n (ll_n (ll_n ll_e)))) (rX11_how_b101 hd hq e)
                · rw [if_neg c_5210] at e
                  refine Rn.bf hT rfl rfl rfl (decide_eq_false c_5210) ?_
                  refine Rn.n hT 1 (pc' := 90) (L' := [some (.ref q0), some (.int x1), some (.int x2), some (.int ((x2 - (3 : Int32)) - (1 : Int32)))]) (st' := [.ref q0]) rfl ?_
                  obtain ⟨v_5211, e_5212, e⟩ := Option.bind_eq_some_iff.mp e
                  refine Rn.hp hT rfl rfl (gR_hp e_5212) ?_
                  obtain ⟨v_5213, e_5214, e⟩ := Option.bind_eq_some_iff.mp e
                  refine Rn.hp hT rfl rfl (gR_hp e_5214) ?_
                  refine Rn.n hT 1 (pc' := 97) (L' := [some (.ref q0), some (.int x1), some (.int x2), some (.int ((x2 - (3 : Int32)) - (1 : Int32)))]) (st' := [.int ((x2 - (3 : Int32)) - (1 : Int32)), .ref v_5213]) rfl ?_
                  obtain ⟨v_5215, e_5216, e⟩ := Option.bind_eq_some_iff.mp e
                  refine Rn.hp hT rfl rfl (aI_hp e_5216) ?_
                  refine Rn.n hT 1 (pc' := 103) (L' := [some (.ref q0), some (.int x1), some (.int x2), some (.int ((x2 - (3 : Int32)) - (1 : Int32)))]) (st' := [.int v_5215]) rfl ?_
                  exact Rn.weak (ll_n (ll_n (ll_n (ll_n ll_e)))) (rX11_how_b103 hd hq e)
            · rw [if_neg c_5202] at e
              refine Rn.bf hT rfl rfl rfl (decide_eq_false c_5202) ?_
              refine Rn.n hT 1 (pc' := 57) (L' := [some (.ref q0), some (.int x1), some (.int x2), none]) (st' := [.ref q0]) rfl ?_
              obtain ⟨v_5217, e_5218, e⟩ := Option.bind_eq_some_iff.mp e
              refine Rn.hp hT rfl rfl (gR_hp e_5218) ?_
              obtain ⟨v_5219, e_5220, e⟩ := Option.bind_eq_some_iff.mp e
              refine Rn.hp hT rfl rfl (gR_hp e_5220) ?_
              refine Rn.n hT 1 (pc' := 64) (L' := [some (.ref q0), some (.int x1), some (.int x2), none]) (st' := [.int x2, .ref v_5219]) rfl ?_
              obtain ⟨v_5221, e_5222, e⟩ := Option.bind_eq_some_iff.mp e
              refine Rn.hp hT rfl rfl (aI_hp e_5222) ?_
              obtain rfl := Option.some.inj e
              exact Rn.ret hT rfl rfl rfl hq
          · rw [if_neg c_5188] at e
            refine Rn.bf hT rfl rfl rfl (decide_eq_false c_5188) ?_
            exact Rn.weak (ll_n (ll_n (ll_n (ll_n ll_e)))) (rX11_how_b29 hd hq e)
set_option maxRecDepth 10000 in
theorem hX11_built : iv_Tb 181 tX11_built := iv_tb_of (m := mX11_built) rfl
set_option maxRecDepth 10000 in
theorem gX11_built : PG.2 181 = some mX11_built := iv_pi_of (t := tX11_built) rfl (by decide)
def fX11_built_b46 (N : Nat) (h : iv_H)   : Option (Int32) := (some (-1 : Int32))
set_option maxRecDepth 10000 in
set_option maxHeartbeats 4000000 in
theorem rX11_built_b46 {d N : Nat} (hd : 2 ≤ d) {h : iv_H}   {r : Int32} {Q : Option Value → iv_H → Prop} (hq : Q (some (.int r)) h) (e : fX11_built_b46 N h   = some r) : Rn d 181 (some .int) 46 [none, none, none, none, none] [] h Q := by
  have hT := hX11_built
  unfold fX11_built_b46 at e
  refine Rn.n hT 1 (pc' := 47) (L' := [none, none, none, none, none]) (st' := [.int (-1 : Int32)]) rfl ?_
  obtain rfl := Option.some.inj e
  exact Rn.ret hT rfl rfl rfl hq
def fX11_built (N : Nat) (h : iv_H) (q0 : Nat) (x1 : Int32) (x2 : Int32) (x3 : Int32) : Option (Int32) := ((gR h 11 4 q0).bind fun v_5223 => ((gR h 2 9 v_5223).bind fun v_5225 => ((cko h v_5225 1).bind fun _ => (fX1_cellAt N h v_5225 x1 x2).bind fun v_5229 => (if v_5229 = (-1 : Int32) then (fX11_built_b46 N h) else ((gR h 11 4 q0).bind fun v_5231 => ((gR h 2 9 v_5231).bind fun v_5233 => ((gR h 1 7 v_5233).bind fun v_5235 => ((aI h v_5235 v_5229).bind fun v_5237 => (if v_5237 = (-1 : Int32) then (if x3 < 0 then (fX11_built_b46 N h) else (if x3 ≤ (4 : Int32) then (if x3 = 0 then ((gR h 11 4 q0).bind fun v_5250 => ((gR h 2 9 v_5250).bind fun v_5252 => ((cko h v_5252 1).bind fun _ => (fX1_mismatches N h v_5252).bind fun v_5256 => ((gR h 11 4 q0).bind fun v_5257 => ((gR h 2 9 v_5257).bind fun v_5259 => ((cko h v_5259 1).bind fun _ => (fX1_doorsTowards N h v_5259 v_5229).bind fun v_5263 => (some (v_5256 - v_5263)))))))) else ((gR h 11 4 q0).bind fun v_5243 => ((gR h 2 9 v_5243).bind fun v_5245 => ((cko h v_5245 1).bind fun _ => (fX1_sideToBuild N h v_5245 v_5229 (x3 - (1 : Int32))).bind fun v_5249 => (some v_5249))))) else (fX11_built_b46 N h))) else (fX11_built_b46 N h))))))))))
set_option maxRecDepth 10000 in
set_option maxHeartbeats 4000000 in
theorem rX11_built {d N : Nat} (hd : 3 ≤ d) {h : iv_H} {q0 : Nat} {x1 : Int32} {x2 : Int32} {x3 : Int32} {r : Int32} {Q : Option Value → iv_H → Prop} (e : fX11_built N h q0 x1 x2 x3 = some r) (hq : Q (some (.int r)) h) : Cl d 181 [.ref q0, .int x1, .int x2, .int x3] h Q := by
  obtain ⟨d, rfl⟩ : ∃ k, d = k + 1 := ⟨d - 1, by omega⟩
  have hd : 2 ≤ d := by omega
  have hT := hX11_built
  unfold fX11_built at e
  refine Cl.into (by decide) gX11_built rfl ?_
  show Rn d 181 (some .int) 0 [some (.ref q0), some (.int x1), some (.int x2), some (.int x3), none] [] h Q
  refine Rn.n hT 1 (pc' := 1) (L' := [some (.ref q0), some (.int x1), some (.int x2), some (.int x3), none]) (st' := [.ref q0]) rfl ?_
  obtain ⟨v_5223, e_5224, e⟩ := Option.bind_eq_some_iff.mp e
  refine Rn.hp hT rfl rfl (gR_hp e_5224) ?_
  obtain ⟨v_5225, e_5226, e⟩ := Option.bind_eq_some_iff.mp e
  refine Rn.hp hT rfl rfl (gR_hp e_5226) ?_
  refine Rn.n hT 2 (pc' := 9) (L' := [some (.ref q0), some (.int x1), some (.int x2), some (.int x3), none]) (st' := [.int x2, .int x1, .ref v_5225]) rfl ?_
  obtain ⟨_, e_5228, e⟩ := Option.bind_eq_some_iff.mp e
  obtain ⟨v_5229, e_5227, e⟩ := Option.bind_eq_some_iff.mp e
  refine Rn.call hT rfl rfl rfl (Nat.le_of_ble_eq_true rfl) (rcv_v gX1_cellAt (by omega) e_5228) (rX1_cellAt (by omega) e_5227 ?_)
  show Rn d _ _ 12 [some (.ref q0), some (.int x1), some (.int x2), some (.int x3), none] [.int v_5229] h Q
  refine Rn.n hT 3 (pc' := 17) (L' := [some (.ref q0), some (.int x1), some (.int x2), some (.int x3), some (.int v_5229)]) (st' := [.int (-1 : Int32), .int v_5229]) rfl ?_
  by_cases c_5230 : v_5229 = (-1 : Int32)
  · rw [if_pos c_5230] at e
    refine Rn.bt hT rfl rfl rfl (decide_eq_true c_5230) ?_
    exact Rn.weak (ll_n (ll_n (ll_n (ll_n (ll_n ll_e))))) (rX11_built_b46 hd hq e)
  · rw [if_neg c_5230] at e
    refine Rn.bf hT rfl rfl rfl (decide_eq_false c_5230) ?_
    refine Rn.n hT 1 (pc' := 21) (L' := [some (.ref q0), some (.int x1), some (.int x2), some (.int x3), some (.int v_5229)]) (st' := [.ref q0]) rfl ?_
    obtain ⟨v_5231, e_5232, e⟩ := Option.bind_eq_some_iff.mp e
    refine Rn.hp hT rfl rfl (gR_hp e_5232) ?_
    obtain ⟨v_5233, e_5234, e⟩ := Option.bind_eq_some_iff.mp e
    refine Rn.hp hT rfl rfl (gR_hp e_5234) ?_
    obtain ⟨v_5235, e_5236, e⟩ := Option.bind_eq_some_iff.mp e
    refine Rn.hp hT rfl rfl (gR_hp e_5236) ?_
    refine Rn.n hT 1 (pc' := 32) (L' := [some (.ref q0), some (.int x1), some (.int x2), some (.int x3), some (.int v_5229)]) (st' := [.int v_5229, .ref v_5235]) rfl ?_
    obtain ⟨v_5237, e_5238, e⟩ := Option.bind_eq_some_iff.mp e
    refine Rn.hp hT rfl rfl (aI_hp e_5238) ?_
    refine Rn.n hT 1 (pc' := 34) (L' := [some (.ref q0), some (.int x1), some (.int x2), some (.int x3), some (.int v_5229)]) (st' := [.int (-1 : Int32), .int v_5237]) rfl ?_
    by_cases c_5239 : v_5237 = (-1 : Int32)
    · rw [if_pos c_5239] at e
      refine Rn.bf hT rfl rfl rfl (decide_eq_false (fun z => z c_5239)) ?_
      refine Rn.n hT 1 (pc' := 38) (L' := [some (.ref q0), some (.int x1), some (.int x2), some (.int x3), some (.int v_5229)]) (st' := [.int x3]) rfl ?_
      by_cases c_5240 : x3 < 0
      · rw [if_pos c_5240] at e
        refine Rn.bt hT rfl rfl rfl (decide_eq_true c_5240) ?_
        exact Rn.weak (ll_n (ll_n (ll_n (ll_n (ll_n ll_e))))) (rX11_built_b46 hd hq e)
      · rw [if_neg c_5240] at e
        refine Rn.bf hT rfl rfl rfl (decide_eq_false c_5240) ?_
        refine Rn.n hT 2 (pc' := 43) (L' := [some (.ref q0), some (.int x1), some (.int x2), some (.int x3), some (.int v_5229)]) (st' := [.int (4 : Int32), .int x3]) rfl ?_
        by_cases c_5241 : x3 ≤ (4 : Int32)
        · rw [if_pos c_5241] at e
          refine Rn.bt hT rfl rfl rfl (decide_eq_true c_5241) ?_
          refine Rn.n hT 1 (pc' := 49) (L' := [some (.ref q0), some (.int x1), some (.int x2), some (.int x3), some (.int v_5229)]) (st' := [.int x3]) rfl ?_
          by_cases c_5242 : x3 = 0
          · rw [if_pos c_5242] at e
            refine Rn.bf hT rfl rfl rfl (decide_eq_false (fun z => z c_5242)) ?_
            refine Rn.n hT 1 (pc' := 53) (L' := [some (.ref q0), some (.int x1), some (.int x2), some (.int x3), some (.int v_5229)]) (st' := [.ref q0]) rfl ?_
            obtain ⟨v_5250, e_5251, e⟩ := Option.bind_eq_some_iff.mp e
            refine Rn.hp hT rfl rfl (gR_hp e_5251) ?_
            obtain ⟨v_5252, e_5253, e⟩ := Option.bind_eq_some_iff.mp e
            refine Rn.hp hT rfl rfl (gR_hp e_5253) ?_
            obtain ⟨_, e_5255, e⟩ := Option.bind_eq_some_iff.mp e
            obtain ⟨v_5256, e_5254, e⟩ := Option.bind_eq_some_iff.mp e
            refine Rn.call hT rfl rfl rfl (Nat.le_of_ble_eq_true rfl) (rcv_v gX1_mismatches (by omega) e_5255) (rX1_mismatches (by omega) e_5254 ?_)
            show Rn d _ _ 62 [some (.ref q0), some (.int x1), some (.int x2), some (.int x3), some (.int v_5229)] [.int v_5256] h Q
            refine Rn.n hT 1 (pc' := 63) (L' := [some (.ref q0), some (.int x1), some (.int x2), some (.int x3), some (.int v_5229)]) (st' := [.ref q0, .int v_5256]) rfl ?_
            obtain ⟨v_5257, e_5258, e⟩ := Option.bind_eq_some_iff.mp e
            refine Rn.hp hT rfl rfl (gR_hp e_5258) ?_
            obtain ⟨v_5259, e_5260, e⟩ := Option.bind_eq_some_iff.mp e
            refine Rn.hp hT rfl rfl (gR_hp e_5260) ?_
            refine Rn.n hT 1 (pc' := 71) (L' := [some (.ref q0), some (.int x1), some (.int x2), some (.int x3), some (.int v_5229)]) (st' := [.int v_5229, .ref v_5259, .int v_5256]) rfl ?_
            obtain ⟨_, e_5262, e⟩ := Option.bind_eq_some_iff.mp e
            obtain ⟨v_5263, e_5261, e⟩ := Option.bind_eq_some_iff.mp e
            refine Rn.call hT rfl rfl rfl (Nat.le_of_ble_eq_true rfl) (rcv_v gX1_doorsTowards (by omega) e_5262) (rX1_doorsTowards (by omega) e_5261 ?_)
            show Rn d _ _ 74 [some (.ref q0), some (.int x1), some (.int x2), some (.int x3), some (.int v_5229)] [.int v_5263, .int v_5256] h Q
            refine Rn.n hT 1 (pc' := 75) (L' := [some (.ref q0), some (.int x1), some (.int x2), some (.int x3), some (.int v_5229)]) (st' := [.int (v_5256 - v_5263)]) rfl ?_
            obtain rfl := Option.some.inj e
            exact Rn.ret hT rfl rfl rfl hq
          · rw [if_neg c_5242] at e
            refine Rn.bt hT rfl rfl rfl (decide_eq_true c_5242) ?_
            refine Rn.n hT 1 (pc' := 77) (L' := [some (.ref q0), some (.int x1), some (.int x2), some (.int x3), some (.int v_5229)]) (st' := [.ref q0]) rfl ?_
            obtain ⟨v_5243, e_5244, e⟩ := Option.bind_eq_some_iff.mp e
            refine Rn.hp hT rfl rfl (gR_hp e_5244) ?_
            obtain ⟨v_5245, e_5246, e⟩ := Option.bind_eq_some_iff.mp e
            refine Rn.hp hT rfl rfl (gR_hp e_5246) ?_
            refine Rn.n hT 4 (pc' := 88) (L' := [some (.ref q0), some (.int x1), some (.int x2), some (.int x3), some (.int v_5229)]) (st' := [.int (x3 - (1 : Int32)), .int v_5229, .ref v_5245]) rfl ?_
            obtain ⟨_, e_5248, e⟩ := Option.bind_eq_some_iff.mp e
            obtain ⟨v_5249, e_5247, e⟩ := Option.bind_eq_some_iff.mp e
            refine Rn.call hT rfl rfl rfl (Nat.le_of_ble_eq_true rfl) (rcv_v gX1_sideToBuild (by omega) e_5248) (rX1_sideToBuild (by omega) e_5247 ?_)
            show Rn d _ _ 91 [some (.ref q0), some (.int x1), some (.int x2), some (.int x3), some (.int v_5229)] [.int v_5249] h Q
            obtain rfl := Option.some.inj e
            exact Rn.ret hT rfl rfl rfl hq
        · rw [if_neg c_5241] at e
          refine Rn.bf hT rfl rfl rfl (decide_eq_false c_5241) ?_
          exact Rn.weak (ll_n (ll_n (ll_n (ll_n (ll_n ll_e))))) (rX11_built_b46 hd hq e)
    · rw [if_neg c_5239] at e
      refine Rn.bt hT rfl rfl rfl (decide_eq_true c_5239) ?_
      exact Rn.weak (ll_n (ll_n (ll_n (ll_n (ll_n ll_e))))) (rX11_built_b46 hd hq e)
set_option maxRecDepth 10000 in
theorem hX11_best : iv_Tb 182 tX11_best := iv_tb_of (m := mX11_best) rfl
set_option maxRecDepth 10000 in
theorem gX11_best : PG.2 182 = some mX11_best := iv_pi_of (t := tX11_best) rfl (by decide)
def fX11_best_b68 (N : Nat) (h : iv_H) (q0 : Nat) (x1 : Int32) (x2 : Int32) (x3 : Int32)  (kb : Int32 → Int32 → Int32 → Option (Int32)) (kx : Int32 → Option (Int32)) : Option (Int32) := (kb x1 x2 (x3 + (1 : Int32)))
set_option maxRecDepth 10000 in
set_option maxHeartbeats 4000000 in
theorem rX11_best_b68 {d N : Nat} (hd : 2 ≤ d) {h : iv_H} {q0 : Nat} {x1 : Int32} {x2 : Int32} {x3 : Int32}  {kb : Int32 → Int32 → Int32 → Option (Int32)} {kx : Int32 → Option (Int32)} {r : Int32} {Q : Option Value → iv_H → Prop} (hb : ∀ (w1 : Int32) (w2 : Int32) (w3 : Int32), kb w1 w2 w3 = some r → Rn d 182 (some .int) 19 [some (.ref q0), some (.int w1), some (.int w2), some (.int w3)] [] h Q) (hk : ∀ (w1 : Int32), kx w1 = some r → Rn d 182 (some .int) 74 [none, some (.int w1), none, none] [] h Q) (hq : Q (some (.int r)) h) (e : fX11_best_b68 N h q0 x1 x2 x3  kb kx = some r) : Rn d 182 (some .int) 68 [some (.ref q0), some (.int x1), some (.int x2), some (.int x3)] [] h Q := by
  have hT := hX11_best
  unfold fX11_best_b68 at e
  refine Rn.n hT 2 (pc' := 19) (L' := [some (.ref q0), some (.int x1), some (.int x2), some (.int (x3 + (1 : Int32)))]) (st' := []) rfl ?_
  exact Rn.weak (ll_s (ll_s (ll_s (ll_s ll_e)))) (hb x1 x2 (x3 + (1 : Int32)) e)
def fX11_best_l19 (N : Nat) (h : iv_H) (q0 : Nat) (kx : Int32 → Option (Int32)) : Nat → Int32 → Int32 → Int32 → Option (Int32)
  | 0, _, _, _ => none
  | n + 1, x1, x2, x3 => (if (16 : Int32) ≤ x3 then (kx x1) else ((gR h 11 4 q0).bind fun v_5271 => ((gR h 2 9 v_5271).bind fun v_5273 => ((cko h v_5273 1).bind fun _ => (fX1_isEmptyCell N h v_5273 x3).bind fun v_5277 => (if v_5277 = 0 then (fX11_best_b68 N h q0 x1 x2 x3 (fX11_best_l19 N h q0 kx n) kx) else ((gR h 11 4 q0).bind fun v_5279 => ((gR h 2 9 v_5279).bind fun v_5281 => ((cko h v_5281 1).bind fun _ => (fX1_doorsTowards N h v_5281 x3).bind fun v_5285 => (if v_5285 ≤ x2 then (fX11_best_b68 N h q0 x1 x2 x3 (fX11_best_l19 N h q0 kx n) kx) else ((gR h 11 4 q0).bind fun v_5287 => ((gR h 2 9 v_5287).bind fun v_5289 => ((cko h v_5289 1).bind fun _ => (fX1_doorsTowards N h v_5289 x3).bind fun v_5293 => (fX11_best_b68 N h q0 x3 v_5293 x3 (fX11_best_l19 N h q0 kx n) kx)))))))))))))
set_option maxRecDepth 10000 in
set_option maxHeartbeats 4000000 in
theorem rX11_best_l19 {d N : Nat} (hd : 2 ≤ d) {h : iv_H} {q0 : Nat} {kx : Int32 → Option (Int32)} {r : Int32} {Q : Option Value → iv_H → Prop} (hk : ∀ (x1 : Int32), kx x1 = some r → Rn d 182 (some .int) 74 [none, some (.int x1), none, none] [] h Q) (hq : Q (some (.int r)) h) : ∀ (n : Nat) (x1 : Int32) (x2 : Int32) (x3 : Int32), fX11_best_l19 N h q0 kx n x1 x2 x3 = some r → Rn d 182 (some .int) 19 [some (.ref q0), some (.int x1), some (.int x2), some (.int x3)] [] h Q := by
  have hT := hX11_best
  intro n
  induction n with
  | zero =>
    intro x1 x2 x3 e
    rw [fX11_best_l19] at e
    cases e
  | succ n ih =>
    intro x1 x2 x3 e
    rw [fX11_best_l19] at e
    refine Rn.n hT 2 (pc' := 22) (L' := [some (.ref q0), some (.int x1), some (.int x2), some (.int x3)]) (st' := [.int (16 : Int32), .int x3]) rfl ?_
    by_cases c_5270 : (16 : Int32) ≤ x3
    · rw [if_pos c_5270] at e
      refine Rn.bt hT rfl rfl rfl (decide_eq_true c_5270) ?_
      exact Rn.weak (ll_n (ll_s (ll_n (ll_n ll_e)))) (hk x1 e)
    · rw [if_neg c_5270] at e
      refine Rn.bf hT rfl rfl rfl (decide_eq_false c_5270) ?_
      refine Rn.n hT 1 (pc' := 26) (L' := [some (.ref q0), some (.int x1), some (.int x2), some (.int x3)]) (st' := [.ref q0]) rfl ?_
      obtain ⟨v_5271, e_5272, e⟩ := Option.bind_eq_some_iff.mp e
      refine Rn.hp hT rfl rfl (gR_hp e_5272) ?_
      obtain ⟨v_5273, e_5274, e⟩ := Option.bind_eq_some_iff.mp e
      refine Rn.hp hT rfl rfl (gR_hp e_5274) ?_
      refine Rn.n hT 1 (pc' := 33) (L' := [some (.ref q0), some (.int x1), some (.int x2), some (.int x3)]) (st' := [.int x3, .ref v_5273]) rfl ?_
      obtain ⟨_, e_5276, e⟩ := Option.bind_eq_some_iff.mp e
      obtain ⟨v_5277, e_5275, e⟩ := Option.bind_eq_some_iff.mp e
      refine Rn.call hT rfl rfl rfl (Nat.le_of_ble_eq_true rfl) (rcv_v gX1_isEmptyCell (by omega) e_5276) (rX1_isEmptyCell (by omega) e_5275 ?_)
      show Rn d _ _ 36 [some (.ref q0), some (.int x1), some (.int x2), some (.int x3)] [.int v_5277] h Q
      by_cases c_5278 : v_5277 = 0
      · rw [if_pos c_5278] at e
        refine Rn.bt hT rfl rfl rfl (decide_eq_true c_5278) ?_
        exact Rn.weak (ll_s (ll_s (ll_s (ll_s ll_e)))) (rX11_best_b68 hd ih hk hq e)
      · rw [if_neg c_5278] at e
        refine Rn.bf hT rfl rfl rfl (decide_eq_false c_5278) ?_
        refine Rn.n hT 1 (pc' := 40) (L' := [some (.ref q0), some (.int x1), some (.int x2), some (.int x3)]) (st' := [.ref q0]) rfl ?_
        obtain ⟨v_5279, e_5280, e⟩ := Option.bind_eq_some_iff.mp e
        refine Rn.hp hT rfl rfl (gR_hp e_5280) ?_
        obtain ⟨v_5281, e_5282, e⟩ := Option.bind_eq_some_iff.mp e
        refine Rn.hp hT rfl rfl (gR_hp e_5282) ?_
        refine Rn.n hT 1 (pc' := 47) (L' := [some (.ref q0), some (.int x1), some (.int x2), some (.int x3)]) (st' := [.int x3, .ref v_5281]) rfl ?_
        obtain ⟨_, e_5284, e⟩ := Option.bind_eq_some_iff.mp e
        obtain ⟨v_5285, e_5283, e⟩ := Option.bind_eq_some_iff.mp e
        refine Rn.call hT rfl rfl rfl (Nat.le_of_ble_eq_true rfl) (rcv_v gX1_doorsTowards (by omega) e_5284) (rX1_doorsTowards (by omega) e_5283 ?_)
        show Rn d _ _ 50 [some (.ref q0), some (.int x1), some (.int x2), some (.int x3)] [.int v_5285] h Q
        refine Rn.n hT 1 (pc' := 51) (L' := [some (.ref q0), some (.int x1), some (.int x2), some (.int x3)]) (st' := [.int x2, .int v_5285]) rfl ?_
        by_cases c_5286 : v_5285 ≤ x2
        · rw [if_pos c_5286] at e
          refine Rn.bt hT rfl rfl rfl (decide_eq_true c_5286) ?_
          exact Rn.weak (ll_s (ll_s (ll_s (ll_s ll_e)))) (rX11_best_b68 hd ih hk hq e)
        · rw [if_neg c_5286] at e
          refine Rn.bf hT rfl rfl rfl (decide_eq_false c_5286) ?_
          refine Rn.n hT 3 (pc' := 57) (L' := [some (.ref q0), some (.int x3), some (.int x2), some (.int x3)]) (st' := [.ref q0]) rfl ?_
          obtain ⟨v_5287, e_5288, e⟩ := Option.bind_eq_some_iff.mp e
          refine Rn.hp hT rfl rfl (gR_hp e_5288) ?_
          obtain ⟨v_5289, e_5290, e⟩ := Option.bind_eq_some_iff.mp e
          refine Rn.hp hT rfl rfl (gR_hp e_5290) ?_
          refine Rn.n hT 1 (pc' := 64) (L' := [some (.ref q0), some (.int x3), some (.int x2), some (.int x3)]) (st' := [.int x3, .ref v_5289]) rfl ?_
          obtain ⟨_, e_5292, e⟩ := Option.bind_eq_some_iff.mp e
          obtain ⟨v_5293, e_5291, e⟩ := Option.bind_eq_some_iff.mp e
          refine Rn.call hT rfl rfl rfl (Nat.le_of_ble_eq_true rfl) (rcv_v gX1_doorsTowards (by omega) e_5292) (rX1_doorsTowards (by omega) e_5291 ?_)
          show Rn d _ _ 67 [some (.ref q0), some (.int x3), some (.int x2), some (.int x3)] [.int v_5293] h Q
          refine Rn.n hT 1 (pc' := 68) (L' := [some (.ref q0), some (.int x3), some (.int v_5293), some (.int x3)]) (st' := []) rfl ?_
          exact Rn.weak (ll_s (ll_s (ll_s (ll_s ll_e)))) (rX11_best_b68 hd ih hk hq e)
def fX11_best (N : Nat) (h : iv_H) (q0 : Nat) : Option (Int32) := ((gR h 11 4 q0).bind fun v_5264 => ((gI h 2 0 v_5264).bind fun v_5266 => (if v_5266 = 0 then (some (-1 : Int32)) else (fX11_best_l19 N h q0 (fun (z_5269 : Int32) => (some z_5269)) N (-2 : Int32) (-1 : Int32) (0 : Int32)))))
set_option maxRecDepth 10000 in
set_option maxHeartbeats 4000000 in
theorem rX11_best {d N : Nat} (hd : 3 ≤ d) {h : iv_H} {q0 : Nat} {r : Int32} {Q : Option Value → iv_H → Prop} (e : fX11_best N h q0 = some r) (hq : Q (some (.int r)) h) : Cl d 182 [.ref q0] h Q := by
  obtain ⟨d, rfl⟩ : ∃ k, d = k + 1 := ⟨d - 1, by omega⟩
  have hd : 2 ≤ d := by omega
  have hT := hX11_best
  unfold fX11_best at e
  refine Cl.into (by decide) gX11_best rfl ?_
  show Rn d 182 (some .int) 0 [some (.ref q0), none, none, none] [] h Q
  refine Rn.n hT 1 (pc' := 1) (L' := [some (.ref q0), none, none, none]) (st' := [.ref q0]) rfl ?_
  obtain ⟨v_5264, e_5265, e⟩ := Option.bind_eq_some_iff.mp e
  refine Rn.hp hT rfl rfl (gR_hp e_5265) ?_
  obtain ⟨v_5266, e_5267, e⟩ := Option.bind_eq_some_iff.mp e
  refine Rn.hp hT rfl rfl (gI_hp e_5267) ?_
  by_cases c_5268 : v_5266 = 0
  · rw [if_pos c_5268] at e
    refine Rn.bf hT rfl rfl rfl (decide_eq_false (fun z => z c_5268)) ?_
    refine Rn.n hT 1 (pc' := 11) (L' := [some (.ref q0), none, none, none]) (st' := [.int (-1 : Int32)]) rfl ?_
    obtain rfl := Option.some.inj e
    exact Rn.ret hT rfl rfl rfl hq
  · rw [if_neg c_5268] at e
    refine Rn.bt hT rfl rfl rfl (decide_eq_true c_5268) ?_
    refine Rn.n hT 6 (pc' := 19) (L' := [some (.ref q0), some (.int (-2 : Int32)), some (.int (-1 : Int32)), some (.int (0 : Int32))]) (st' := []) rfl ?_
    refine Rn.weak (ll_s (ll_s (ll_s (ll_s ll_e)))) (rX11_best_l19 hd (fun z_5269 e => ?_) hq N (-2 : Int32) (-1 : Int32) (0 : Int32) e)
    try dsimp only at e
    refine Rn.n hT 1 (pc' := 75) (L' := [none, some (.int z_5269), none, none]) (st' := [.int z_5269]) rfl ?_
    obtain rfl := Option.some.inj e
    exact Rn.ret hT rfl rfl rfl hq
set_option maxRecDepth 10000 in
theorem hX11_seed : iv_Tb 183 tX11_seed := iv_tb_of (m := mX11_seed) rfl
set_option maxRecDepth 10000 in
theorem gX11_seed : PG.2 183 = some mX11_seed := iv_pi_of (t := tX11_seed) rfl (by decide)
def fX11_seed (N : Nat) (h : iv_H) (q0 : Nat) (x1 : Int32) : Option (Int32 × iv_H) := (if 0 ≤ x1 then ((gR h 11 4 q0).bind fun v_5295 => ((gI h 2 7 v_5295).bind fun v_5297 => ((gR h 11 4 q0).bind fun v_5299 => ((pV h 2 7 v_5299 (.int x1)).bind fun h_5301 => (some (v_5297, h_5301)))))) else (some ((-1 : Int32), h)))
set_option maxRecDepth 10000 in
set_option maxHeartbeats 4000000 in
theorem rX11_seed {d N : Nat} (hd : 1 ≤ d) {h : iv_H} {q0 : Nat} {x1 : Int32} {r : Int32 × iv_H} {Q : Option Value → iv_H → Prop} (e : fX11_seed N h q0 x1 = some r) (hq : Q (some (.int r.1)) r.2) : Cl d 183 [.ref q0, .int x1] h Q := by
  obtain ⟨d, rfl⟩ : ∃ k, d = k + 1 := ⟨d - 1, by omega⟩
  have hd : 0 ≤ d := by omega
  have hT := hX11_seed
  unfold fX11_seed at e
  refine Cl.into (by decide) gX11_seed rfl ?_
  show Rn d 183 (some .int) 0 [some (.ref q0), some (.int x1), none] [] h Q
  refine Rn.n hT 1 (pc' := 1) (L' := [some (.ref q0), some (.int x1), none]) (st' := [.int x1]) rfl ?_
  by_cases c_5294 : 0 ≤ x1
  · rw [if_pos c_5294] at e
    refine Rn.bt hT rfl rfl rfl (decide_eq_true c_5294) ?_
    refine Rn.n hT 1 (pc' := 7) (L' := [some (.ref q0), some (.int x1), none]) (st' := [.ref q0]) rfl ?_
    obtain ⟨v_5295, e_5296, e⟩ := Option.bind_eq_some_iff.mp e
    refine Rn.hp hT rfl rfl (gR_hp e_5296) ?_
    obtain ⟨v_5297, e_5298, e⟩ := Option.bind_eq_some_iff.mp e
    refine Rn.hp hT rfl rfl (gI_hp e_5298) ?_
    refine Rn.n hT 2 (pc' := 15) (L' := [some (.ref q0), some (.int x1), some (.int v_5297)]) (st' := [.ref q0]) rfl ?_
    obtain ⟨v_5299, e_5300, e⟩ := Option.bind_eq_some_iff.mp e
    refine Rn.hp hT rfl rfl (gR_hp e_5300) ?_
    refine Rn.n hT 1 (pc' := 19) (L' := [some (.ref q0), some (.int x1), some (.int v_5297)]) (st' := [.int x1, .ref v_5299]) rfl ?_
    obtain ⟨h_5301, e_5302, e⟩ := Option.bind_eq_some_iff.mp e
    refine Rn.hp hT rfl rfl (pV_hp rfl e_5302) ?_
    refine Rn.n hT 1 (pc' := 23) (L' := [some (.ref q0), some (.int x1), some (.int v_5297)]) (st' := [.int v_5297]) rfl ?_
    obtain rfl := Option.some.inj e
    exact Rn.ret hT rfl rfl rfl hq
  · rw [if_neg c_5294] at e
    refine Rn.bf hT rfl rfl rfl (decide_eq_false c_5294) ?_
    refine Rn.n hT 1 (pc' := 5) (L' := [some (.ref q0), some (.int x1), none]) (st' := [.int (-1 : Int32)]) rfl ?_
    obtain rfl := Option.some.inj e
    exact Rn.ret hT rfl rfl rfl hq
set_option maxRecDepth 10000 in
theorem hX11_drawn : iv_Tb 184 tX11_drawn := iv_tb_of (m := mX11_drawn) rfl
set_option maxRecDepth 10000 in
theorem gX11_drawn : PG.2 184 = some mX11_drawn := iv_pi_of (t := tX11_drawn) rfl (by decide)
def fX11_drawn_b33 (N : Nat) (h : iv_H)   : Option (Int32 × iv_H) := (some ((-1 : Int32), h))
set_option maxRecDepth 10000 in
set_option maxHeartbeats 4000000 in
theorem rX11_drawn_b33 {d N : Nat} (hd : 6 ≤ d) {h : iv_H}   {r : Int32 × iv_H} {Q : Option Value → iv_H → Prop} (hq : Q (some (.int r.1)) r.2) (e : fX11_drawn_b33 N h   = some r) : Rn d 184 (some .int) 33 [none, none, none, none, none, none] [] h Q := by
  have hT := hX11_drawn
  unfold fX11_drawn_b33 at e
  refine Rn.n hT 1 (pc' := 34) (L' := [none, none, none, none, none, none]) (st' := [.int (-1 : Int32)]) rfl ?_
  obtain rfl := Option.some.inj e
  exact Rn.ret hT rfl rfl rfl hq
def fX11_drawn_b64 (N : Nat) (h : iv_H)   : Option (Int32 × iv_H) := (some ((-1 : Int32), h))
set_option maxRecDepth 10000 in
set_option maxHeartbeats 4000000 in
theorem rX11_drawn_b64 {d N : Nat} (hd : 6 ≤ d) {h : iv_H}   {r : Int32 × iv_H} {Q : Option Value → iv_H → Prop} (hq : Q (some (.int r.1)) r.2) (e : fX11_drawn_b64 N h   = some r) : Rn d 184 (some .int) 64 [none, none, none, none, none, none] [] h Q := by
  have hT := hX11_drawn
  unfold fX11_drawn_b64 at e
  refine Rn.n hT 1 (pc' := 65) (L' := [none, none, none, none, none, none]) (st' := [.int (-1 : Int32)]) rfl ?_
  obtain rfl := Option.some.inj e
  exact Rn.ret hT rfl rfl rfl hq
def fX11_drawn_b122 (N : Nat) (h : iv_H)  (s0 : Int32) : Option (Int32 × iv_H) := (some (s0, h))
set_option maxRecDepth 10000 in
set_option maxHeartbeats 4000000 in
theorem rX11_drawn_b122 {d N : Nat} (hd : 6 ≤ d) {h : iv_H}  {s0 : Int32} {r : Int32 × iv_H} {Q : Option Value → iv_H → Prop} (hq : Q (some (.int r.1)) r.2) (e : fX11_drawn_b122 N h  s0 = some r) : Rn d 184 (some .int) 122 [none, none, none, none, none, none] [.int s0] h Q := by
  have hT := hX11_drawn
  unfold fX11_drawn_b122 at e
  obtain rfl := Option.some.inj e
  exact Rn.ret hT rfl rfl rfl hq
def fX11_drawn (N : Nat) (h : iv_H) (q0 : Nat) (x1 : Int32) (x2 : Int32) (x3 : Int32) (x4 : Int32) (x5 : Int32) : Option (Int32 × iv_H) := (if x1 < (1 : Int32) then (fX11_drawn_b33 N h) else (if (10 : Int32) < x1 then (fX11_drawn_b33 N h) else (if x2 < (1 : Int32) then (fX11_drawn_b33 N h) else (if (60 : Int32) < x2 then (fX11_drawn_b33 N h) else (if x5 < 0 then (fX11_drawn_b33 N h) else (if x5 ≤ (2 : Int32) then ((gR h 11 4 q0).bind fun v_5309 => ((cko h v_5309 2).bind fun _ => (fX2_isRoom N h v_5309 x3).bind fun v_5313 => (if v_5313 = 0 then (fX11_drawn_b64 N h) else ((gR h 11 4 q0).bind fun v_5315 => ((cko h v_5315 2).bind fun _ => (fX2_isRoom N h v_5315 x4).bind fun v_5319 => (if v_5319 = 0 then (fX11_drawn_b64 N h) else (if x3 = x4 then (fX11_drawn_b64 N h) else ((gR h 11 11 q0).bind fun v_5322 => ((gR h 11 4 q0).bind fun v_5324 => ((cko h q0 11).bind fun _ => (fX11_ruleInForce N h q0).bind fun v_5328 => ((cko h v_5322 10).bind fun _ => (fX10_drawTimes N h v_5322 v_5324 v_5328 x1 x2 x3 x4).bind fun h_5332 => (if x5 = 0 then ((gR h_5332 11 11 q0).bind fun v_5343 => ((gI h_5332 10 9 v_5343).bind fun v_5345 => (some (v_5345, h_5332)))) else (if x5 = (1 : Int32) then ((gR h_5332 11 11 q0).bind fun v_5339 => ((gI h_5332 10 10 v_5339).bind fun v_5341 => (fX11_drawn_b122 N h_5332 v_5341))) else ((gR h_5332 11 11 q0).bind fun v_5335 => ((gI h_5332 10 11 v_5335).bind fun v_5337 => (fX11_drawn_b122 N h_5332 v_5337)))))))))))))))) else (fX11_drawn_b33 N h)))))))
set_option maxRecDepth 10000 in
set_option maxHeartbeats 4000000 in
theorem rX11_drawn {d N : Nat} (hd : 7 ≤ d) {h : iv_H} {q0 : Nat} {x1 : Int32} {x2 : Int32} {x3 : Int32} {x4 : Int32} {x5 : Int32} {r : Int32 × iv_H} {Q : Option Value → iv_H → Prop} (e : fX11_drawn N h q0 x1 x2 x3 x4 x5 = some r) (hq : Q (some (.int r.1)) r.2) : Cl d 184 [.ref q0, .int x1, .int x2, .int x3, .int x4, .int x5] h Q := by
  obtain ⟨d, rfl⟩ : ∃ k, d = k + 1 := ⟨d - 1, by omega⟩
  have hd : 6 ≤ d := by omega
  have hT := hX11_drawn
  unfold fX11_drawn at e
  refine Cl.into (by decide) gX11_drawn rfl ?_
  show Rn d 184 (some .int) 0 [some (.ref q0), some (.int x1), some (.int x2), some (.int x3), some (.int x4), some (.int x5)] [] h Q
  refine Rn.n hT 2 (pc' := 2) (L' := [some (.ref q0), some (.int x1), some (.int x2), some (.int x3), some (.int x4), some (.int x5)]) (st' := [.int (1 : Int32), .int x1]) rfl ?_
  by_cases c_5303 : x1 < (1 : Int32)
  · rw [if_pos c_5303] at e
    refine Rn.bt hT rfl rfl rfl (decide_eq_true c_5303) ?_
    exact Rn.weak (ll_n (ll_n (ll_n (ll_n (ll_n (ll_n ll_e)))))) (rX11_drawn_b33 hd hq e)
  · rw [if_neg c_5303] at e
    refine Rn.bf hT rfl rfl rfl (decide_eq_false c_5303) ?_
    refine Rn.n hT 2 (pc' := 8) (L' := [some (.ref q0), some (.int x1), some (.int x2), some (.int x3), some (.int x4), some (.int x5)]) (st' := [.int (10 : Int32), .int x1]) rfl ?_
    by_cases c_5304 : (10 : Int32) < x1
    · rw [if_pos c_5304] at e
      refine Rn.bt hT rfl rfl rfl (decide_eq_true c_5304) ?_
      exact Rn.weak (ll_n (ll_n (ll_n (ll_n (ll_n (ll_n ll_e)))))) (rX11_drawn_b33 hd hq e)
    · rw [if_neg c_5304] at e
      refine Rn.bf hT rfl rfl rfl (decide_eq_false c_5304) ?_
      refine Rn.n hT 2 (pc' := 13) (L' := [some (.ref q0), some (.int x1), some (.int x2), some (.int x3), some (.int x4), some (.int x5)]) (st' := [.int (1 : Int32), .int x2]) rfl ?_
      by_cases c_5305 : x2 < (1 : Int32)
      · rw [if_pos c_5305] at e
        refine Rn.bt hT rfl rfl rfl (decide_eq_true c_5305) ?_
        exact Rn.weak (ll_n (ll_n (ll_n (ll_n (ll_n (ll_n ll_e)))))) (rX11_drawn_b33 hd hq e)
      · rw [if_neg c_5305] at e
        refine Rn.bf hT rfl rfl rfl (decide_eq_false c_5305) ?_
        refine Rn.n hT 2 (pc' := 19) (L' := [some (.ref q0), some (.int x1), some (.int x2), some (.int x3), some (.int x4), some (.int x5)]) (st' := [.int (60 : Int32), .int x2]) rfl ?_
        by_cases c_5306 : (60 : Int32) < x2
        · rw [if_pos c_5306] at e
          refine Rn.bt hT rfl rfl rfl (decide_eq_true c_5306) ?_
          exact Rn.weak (ll_n (ll_n (ll_n (ll_n (ll_n (ll_n ll_e)))))) (rX11_drawn_b33 hd hq e)
        · rw [if_neg c_5306] at e
          refine Rn.bf hT rfl rfl rfl (decide_eq_false c_5306) ?_
          refine Rn.n hT 1 (pc' := 24) (L' := [some (.ref q0), some (.int x1), some (.int x2), some (.int x3), some (.int x4), some (.int x5)]) (st' := [.int x5]) rfl ?_
          by_cases c_5307 : x5 < 0
          · rw [if_pos c_5307] at e
            refine Rn.bt hT rfl rfl rfl (decide_eq_true c_5307) ?_
            exact Rn.weak (ll_n (ll_n (ll_n (ll_n (ll_n (ll_n ll_e)))))) (rX11_drawn_b33 hd hq e)
          · rw [if_neg c_5307] at e
            refine Rn.bf hT rfl rfl rfl (decide_eq_false c_5307) ?_
            refine Rn.n hT 2 (pc' := 30) (L' := [some (.ref q0), some (.int x1), some (.int x2), some (.int x3), some (.int x4), some (.int x5)]) (st' := [.int (2 : Int32), .int x5]) rfl ?_
            by_cases c_5308 : x5 ≤ (2 : Int32)
            · rw [if_pos c_5308] at e
              refine Rn.bt hT rfl rfl rfl (decide_eq_true c_5308) ?_
              refine Rn.n hT 1 (pc' := 36) (L' := [some (.ref q0), some (.int x1), some (.int x2), some (.int x3), some (.int x4), some (.int x5)]) (st' := [.ref q0]) rfl ?_
              obtain ⟨v_5309, e_5310, e⟩ := Option.bind_eq_some_iff.mp e
              refine Rn.hp hT rfl rfl (gR_hp e_5310) ?_
              refine Rn.n hT 1 (pc' := 40) (L' := [some (.ref q0), some (.int x1), some (.int x2), some (.int x3), some (.int x4), some (.int x5)]) (st' := [.int x3, .ref v_5309]) rfl ?_
              obtain ⟨_, e_5312, e⟩ := Option.bind_eq_some_iff.mp e
              obtain ⟨v_5313, e_5311, e⟩ := Option.bind_eq_some_iff.mp e
              refine Rn.call hT rfl rfl rfl (Nat.le_of_ble_eq_true rfl) (rcv_v gX2_isRoom (by omega) e_5312) (rX2_isRoom (by omega) e_5311 ?_)
              show Rn d _ _ 43 [some (.ref q0), some (.int x1), some (.int x2), some (.int x3), some (.int x4), some (.int x5)] [.int v_5313] h Q
              by_cases c_5314 : v_5313 = 0
              · rw [if_pos c_5314] at e
                refine Rn.bt hT rfl rfl rfl (decide_eq_true c_5314) ?_
                exact Rn.weak (ll_n (ll_n (ll_n (ll_n (ll_n (ll_n ll_e)))))) (rX11_drawn_b64 hd hq e)
              · rw [if_neg c_5314] at e
                refine Rn.bf hT rfl rfl rfl (decide_eq_false c_5314) ?_
                refine Rn.n hT 1 (pc' := 47) (L' := [some (.ref q0), some (.int x1), some (.int x2), some (.int x3), some (.int x4), some (.int x5)]) (st' := [.ref q0]) rfl ?_
                obtain ⟨v_5315, e_5316, e⟩ := Option.bind_eq_some_iff.mp e
                refine Rn.hp hT rfl rfl (gR_hp e_5316) ?_
                refine Rn.n hT 1 (pc' := 52) (L' := [some (.ref q0), some (.int x1), some (.int x2), some (.int x3), some (.int x4), some (.int x5)]) (st' := [.int x4, .ref v_5315]) rfl ?_
                obtain ⟨_, e_5318, e⟩ := Option.bind_eq_some_iff.mp e
                obtain ⟨v_5319, e_5317, e⟩ := Option.bind_eq_some_iff.mp e
                refine Rn.call hT rfl rfl rfl (Nat.le_of_ble_eq_true rfl) (rcv_v gX2_isRoom (by omega) e_5318) (rX2_isRoom (by omega) e_5317 ?_)
                show Rn d _ _ 55 [some (.ref q0), some (.int x1), some (.int x2), some (.int x3), some (.int x4), some (.int x5)] [.int v_5319] h Q
                by_cases c_5320 : v_5319 = 0
                · rw [if_pos c_5320] at e
                  refine Rn.bt hT rfl rfl rfl (decide_eq_true c_5320) ?_
                  exact Rn.weak (ll_n (ll_n (ll_n (ll_n (ll_n (ll_n ll_e)))))) (rX11_drawn_b64 hd hq e)
                · rw [if_neg c_5320] at e
                  refine Rn.bf hT rfl rfl rfl (decide_eq_false c_5320) ?_
                  refine Rn.n hT 2 (pc' := 61) (L' := [some (.ref q0), some (.int x1), some (.int x2), some (.int x3), some (.int x4), some (.int x5)]) (st' := [.int x4, .int x3]) rfl ?_
                  by_cases c_5321 : x3 = x4
                  · rw [if_pos c_5321] at e
                    refine Rn.bf hT rfl rfl rfl (decide_eq_false (fun z => z c_5321)) ?_
                    exact Rn.weak (ll_n (ll_n (ll_n (ll_n (ll_n (ll_n ll_e)))))) (rX11_drawn_b64 hd hq e)
                  · rw [if_neg c_5321] at e
                    refine Rn.bt hT rfl rfl rfl (decide_eq_true c_5321) ?_
                    refine Rn.n hT 1 (pc' := 67) (L' := [some (.ref q0), some (.int x1), some (.int x2), some (.int x3), some (.int x4), some (.int x5)]) (st' := [.ref q0]) rfl ?_
                    obtain ⟨v_5322, e_5323, e⟩ := Option.bind_eq_some_iff.mp e
                    refine Rn.hp hT rfl rfl (gR_hp e_5323) ?_
                    refine Rn.n hT 1 (pc' := 71) (L' := [some (.ref q0), some (.int x1), some (.int x2), some (.int x3), some (.int x4), some (.int x5)]) (st' := [.ref q0, .ref v_5322]) rfl ?_
                    obtain ⟨v_5324, e_5325, e⟩ := Option.bind_eq_some_iff.mp e
                    refine Rn.hp hT rfl rfl (gR_hp e_5325) ?_
                    refine Rn.n hT 1 (pc' := 75) (L' := [some (.ref q0), some (.int x1), some (.int x2), some (.int x3), some (.int x4), some (.int x5)]) (st' := [.ref q0, .ref v_5324, .ref v_5322]) rfl ?_
                    obtain ⟨_, e_5327, e⟩ := Option.bind_eq_some_iff.mp e
                    obtain ⟨v_5328, e_5326, e⟩ := Option.bind_eq_some_iff.mp e
                    refine Rn.call hT rfl rfl rfl (Nat.le_of_ble_eq_true rfl) (rcv_v gX11_ruleInForce (by omega) e_5327) (rX11_ruleInForce (by omega) e_5326 ?_)
                    show Rn d _ _ 78 [some (.ref q0), some (.int x1), some (.int x2), some (.int x3), some (.int x4), some (.int x5)] [iv_rf v_5328, .ref v_5324, .ref v_5322] h Q
                    refine Rn.n hT 4 (pc' := 83) (L' := [some (.ref q0), some (.int x1), some (.int x2), some (.int x3), some (.int x4), some (.int x5)]) (st' := [.int x4, .int x3, .int x2, .int x1, iv_rf v_5328, .ref v_5324, .ref v_5322]) rfl ?_
                    obtain ⟨_, e_5330, e⟩ := Option.bind_eq_some_iff.mp e
                    obtain ⟨h_5332, e_5329, e⟩ := Option.bind_eq_some_iff.mp e
                    refine Rn.call hT rfl rfl rfl (Nat.le_of_ble_eq_true rfl) (rcv_v gX10_drawTimes (by omega) e_5330) (rX10_drawTimes (by omega) e_5329 ?_)
                    show Rn d _ _ 86 [some (.ref q0), some (.int x1), some (.int x2), some (.int x3), some (.int x4), some (.int x5)] [] h_5332 Q
                    refine Rn.n hT 1 (pc' := 88) (L' := [some (.ref q0), some (.int x1), some (.int x2), some (.int x3), some (.int x4), some (.int x5)]) (st' := [.int x5]) rfl ?_
                    by_cases c_5333 : x5 = 0
                    · rw [if_pos c_5333] at e
                      refine Rn.bf hT rfl rfl rfl (decide_eq_false (fun z => z c_5333)) ?_
                      refine Rn.n hT 1 (pc' := 92) (L' := [some (.ref q0), some (.int x1), some (.int x2), some (.int x3), some (.int x4), some (.int x5)]) (st' := [.ref q0]) rfl ?_
                      obtain ⟨v_5343, e_5344, e⟩ := Option.bind_eq_some_iff.mp e
                      refine Rn.hp hT rfl rfl (gR_hp e_5344) ?_
                      obtain ⟨v_5345, e_5346, e⟩ := Option.bind_eq_some_iff.mp e
                      refine Rn.hp hT rfl rfl (gI_hp e_5346) ?_
                      obtain rfl := Option.some.inj e
                      exact Rn.ret hT rfl rfl rfl hq
                    · rw [if_neg c_5333] at e
                      refine Rn.bt hT rfl rfl rfl (decide_eq_true c_5333) ?_
                      refine Rn.n hT 2 (pc' := 102) (L' := [some (.ref q0), some (.int x1), some (.int x2), some (.int x3), some (.int x4), some (.int x5)]) (st' := [.int (1 : Int32), .int x5]) rfl ?_
                      by_cases c_5334 : x5 = (1 : Int32)
                      · rw [if_pos c_5334] at e
                        refine Rn.bf hT rfl rfl rfl (decide_eq_false (fun z => z c_5334)) ?_
                        refine Rn.n hT 1 (pc' := 106) (L' := [some (.ref q0), some (.int x1), some (.int x2), some (.int x3), some (.int x4), some (.int x5)]) (st' := [.ref q0]) rfl ?_
                        obtain ⟨v_5339, e_5340, e⟩ := Option.bind_eq_some_iff.mp e
                        refine Rn.hp hT rfl rfl (gR_hp e_5340) ?_
                        obtain ⟨v_5341, e_5342, e⟩ := Option.bind_eq_some_iff.mp e
                        refine Rn.hp hT rfl rfl (gI_hp e_5342) ?_
                        refine Rn.n hT 1 (pc' := 122) (L' := [some (.ref q0), some (.int x1), some (.int x2), some (.int x3), some (.int x4), some (.int x5)]) (st' := [.int v_5341]) rfl ?_
                        exact Rn.weak (ll_n (ll_n (ll_n (ll_n (ll_n (ll_n ll_e)))))) (rX11_drawn_b122 hd hq e)
                      · rw [if_neg c_5334] at e
                        refine Rn.bt hT rfl rfl rfl (decide_eq_true c_5334) ?_
                        refine Rn.n hT 1 (pc' := 116) (L' := [some (.ref q0), some (.int x1), some (.int x2), some (.int x3), some (.int x4), some (.int x5)]) (st' := [.ref q0]) rfl ?_
                        obtain ⟨v_5335, e_5336, e⟩ := Option.bind_eq_some_iff.mp e
                        refine Rn.hp hT rfl rfl (gR_hp e_5336) ?_
                        obtain ⟨v_5337, e_5338, e⟩ := Option.bind_eq_some_iff.mp e
                        refine Rn.hp hT rfl rfl (gI_hp e_5338) ?_
                        exact Rn.weak (ll_n (ll_n (ll_n (ll_n (ll_n (ll_n ll_e)))))) (rX11_drawn_b122 hd hq e)
            · rw [if_neg c_5308] at e
              refine Rn.bf hT rfl rfl rfl (decide_eq_false c_5308) ?_
              exact Rn.weak (ll_n (ll_n (ll_n (ll_n (ll_n (ll_n ll_e)))))) (rX11_drawn_b33 hd hq e)
set_option maxRecDepth 10000 in
theorem hX11_countMore : iv_Tb 186 tX11_countMore := iv_tb_of (m := mX11_countMore) rfl
set_option maxRecDepth 10000 in
theorem gX11_countMore : PG.2 186 = some mX11_countMore := iv_pi_of (t := tX11_countMore) rfl (by decide)
def fX11_countMore (N : Nat) (h : iv_H) (q0 : Nat) (x1 : Int32) : Option (Int32) := (if x1 = (9 : Int32) then ((gR h 11 4 q0).bind fun v_5348 => ((gR h 2 12 v_5348).bind fun v_5350 => ((gI h 7 1 v_5350).bind fun v_5352 => (some v_5352)))) else (if x1 = (10 : Int32) then ((gR h 11 4 q0).bind fun v_5355 => ((gR h 2 16 v_5355).bind fun v_5357 => ((gI h 7 1 v_5357).bind fun v_5359 => (some v_5359)))) else (if x1 = (11 : Int32) then ((gR h 11 4 q0).bind fun v_5362 => ((gR h 2 17 v_5362).bind fun v_5364 => ((gI h 7 1 v_5364).bind fun v_5366 => (some v_5366)))) else (if x1 = (12 : Int32) then ((gR h 11 4 q0).bind fun v_5369 => ((gR h 2 18 v_5369).bind fun v_5371 => ((gI h 7 1 v_5371).bind fun v_5373 => (some v_5373)))) else (if x1 = (13 : Int32) then ((gR h 11 4 q0).bind fun v_5376 => ((gI h 2 7 v_5376).bind fun v_5378 => (some v_5378))) else (if x1 = (14 : Int32) then ((gI h 11 1 q0).bind fun v_5381 => (some v_5381)) else (if x1 = (15 : Int32) then ((gR h 11 4 q0).bind fun v_5384 => ((gR h 2 9 v_5384).bind fun v_5386 => ((cko h v_5386 1).bind fun _ => (fX1_emptyCells N h v_5386).bind fun v_5390 => (some v_5390)))) else (if x1 = (16 : Int32) then ((gR h 11 4 q0).bind fun v_5392 => ((gI h 2 8 v_5392).bind fun v_5394 => (some v_5394))) else (some (-1 : Int32))))))))))
set_option maxRecDepth 10000 in
set_option maxHeartbeats 4000000 in
theorem rX11_countMore {d N : Nat} (hd : 2 ≤ d) {h : iv_H} {q0 : Nat} {x1 : Int32} {r : Int32} {Q : Option Value → iv_H → Prop} (e : fX11_countMore N h q0 x1 = some r) (hq : Q (some (.int r)) h) : Cl d 186 [.ref q0, .int x1] h Q := by
  obtain ⟨d, rfl⟩ : ∃ k, d = k + 1 := ⟨d - 1, by omega⟩
  have hd : 1 ≤ d := by omega
  have hT := hX11_countMore
  unfold fX11_countMore at e
  refine Cl.into (by decide) gX11_countMore rfl ?_
  show Rn d 186 (some .int) 0 [some (.ref q0), some (.int x1)] [] h Q
  refine Rn.n hT 1 (pc' := 1) (L' := [some (.ref q0), some (.int x1)]) (st' := [.int x1]) rfl ?_
  by_cases c_5347 : x1 = (9 : Int32)
  · rw [if_pos c_5347] at e
    refine Rn.sw2 hT rfl rfl rfl (if_pos c_5347) ?_
    refine Rn.n hT 1 (pc' := 49) (L' := [some (.ref q0), some (.int x1)]) (st' := [.ref q0]) rfl ?_
    obtain ⟨v_5348, e_5349, e⟩ := Option.bind_eq_some_iff.mp e
    refine Rn.hp hT rfl rfl (gR_hp e_5349) ?_
    obtain ⟨v_5350, e_5351, e⟩ := Option.bind_eq_some_iff.mp e
    refine Rn.hp hT rfl rfl (gR_hp e_5351) ?_
    obtain ⟨v_5352, e_5353, e⟩ := Option.bind_eq_some_iff.mp e
    refine Rn.hp hT rfl rfl (gI_hp e_5353) ?_
    obtain rfl := Option.some.inj e
    exact Rn.ret hT rfl rfl rfl hq
  · rw [if_neg c_5347] at e
    by_cases c_5354 : x1 = (10 : Int32)
    · rw [if_pos c_5354] at e
      refine Rn.sw2 hT rfl rfl rfl ((if_neg c_5347).trans (if_pos c_5354)) ?_
      refine Rn.n hT 1 (pc' := 60) (L' := [some (.ref q0), some (.int x1)]) (st' := [.ref q0]) rfl ?_
      obtain ⟨v_5355, e_5356, e⟩ := Option.bind_eq_some_iff.mp e
      refine Rn.hp hT rfl rfl (gR_hp e_5356) ?_
      obtain ⟨v_5357, e_5358, e⟩ := Option.bind_eq_some_iff.mp e
      refine Rn.hp hT rfl rfl (gR_hp e_5358) ?_
      obtain ⟨v_5359, e_5360, e⟩ := Option.bind_eq_some_iff.mp e
      refine Rn.hp hT rfl rfl (gI_hp e_5360) ?_
      obtain rfl := Option.some.inj e
      exact Rn.ret hT rfl rfl rfl hq
    · rw [if_neg c_5354] at e
      by_cases c_5361 : x1 = (11 : Int32)
      · rw [if_pos c_5361] at e
        refine Rn.sw2 hT rfl rfl rfl ((if_neg c_5347).trans ((if_neg c_5354).trans (if_pos c_5361))) ?_
        refine Rn.n hT 1 (pc' := 71) (L' := [some (.ref q0), some (.int x1)]) (st' := [.ref q0]) rfl ?_
        obtain ⟨v_5362, e_5363, e⟩ := Option.bind_eq_some_iff.mp e
        refine Rn.hp hT rfl rfl (gR_hp e_5363) ?_
        obtain ⟨v_5364, e_5365, e⟩ := Option.bind_eq_some_iff.mp e
        refine Rn.hp hT rfl rfl (gR_hp e_5365) ?_
        obtain ⟨v_5366, e_5367, e⟩ := Option.bind_eq_some_iff.mp e
        refine Rn.hp hT rfl rfl (gI_hp e_5367) ?_
        obtain rfl := Option.some.inj e
        exact Rn.ret hT rfl rfl rfl hq
      · rw [if_neg c_5361] at e
        by_cases c_5368 : x1 = (12 : Int32)
        · rw [if_pos c_5368] at e
          refine Rn.sw2 hT rfl rfl rfl ((if_neg c_5347).trans ((if_neg c_5354).trans ((if_neg c_5361).trans (if_pos c_5368)))) ?_
          refine Rn.n hT 1 (pc' := 82) (L' := [some (.ref q0), some (.int x1)]) (st' := [.ref q0]) rfl ?_
          obtain ⟨v_5369, e_5370, e⟩ := Option.bind_eq_some_iff.mp e
          refine Rn.hp hT rfl rfl (gR_hp e_5370) ?_
          obtain ⟨v_5371, e_5372, e⟩ := Option.bind_eq_some_iff.mp e
          refine Rn.hp hT rfl rfl (gR_hp e_5372) ?_
          obtain ⟨v_5373, e_5374, e⟩ := Option.bind_eq_some_iff.mp e
          refine Rn.hp hT rfl rfl (gI_hp e_5374) ?_
          obtain rfl := Option.some.inj e
          exact Rn.ret hT rfl rfl rfl hq
        · rw [if_neg c_5368] at e
          by_cases c_5375 : x1 = (13 : Int32)
          · rw [if_pos c_5375] at e
            refine Rn.sw2 hT rfl rfl rfl ((if_neg c_5347).trans ((if_neg c_5354).trans ((if_neg c_5361).trans ((if_neg c_5368).trans (if_pos c_5375))))) ?_
            refine Rn.n hT 1 (pc' := 93) (L' := [some (.ref q0), some (.int x1)]) (st' := [.ref q0]) rfl ?_
            obtain ⟨v_5376, e_5377, e⟩ := Option.bind_eq_some_iff.mp e
            refine Rn.hp hT rfl rfl (gR_hp e_5377) ?_
            obtain ⟨v_5378, e_5379, e⟩ := Option.bind_eq_some_iff.mp e
            refine Rn.hp hT rfl rfl (gI_hp e_5379) ?_
            obtain rfl := Option.some.inj e
            exact Rn.ret hT rfl rfl rfl hq
          · rw [if_neg c_5375] at e
            by_cases c_5380 : x1 = (14 : Int32)
            · rw [if_pos c_5380] at e
              refine Rn.sw2 hT rfl rfl rfl ((if_neg c_5347).trans ((if_neg c_5354).trans ((if_neg c_5361).trans ((if_neg c_5368).trans ((if_neg c_5375).trans (if_pos c_5380)))))) ?_
              refine Rn.n hT 1 (pc' := 101) (L' := [some (.ref q0), some (.int x1)]) (st' := [.ref q0]) rfl ?_
              obtain ⟨v_5381, e_5382, e⟩ := Option.bind_eq_some_iff.mp e
              refine Rn.hp hT rfl rfl (gI_hp e_5382) ?_
              obtain rfl := Option.some.inj e
              exact Rn.ret hT rfl rfl rfl hq
            · rw [if_neg c_5380] at e
              by_cases c_5383 : x1 = (15 : Int32)
              · rw [if_pos c_5383] at e
                refine Rn.sw2 hT rfl rfl rfl ((if_neg c_5347).trans ((if_neg c_5354).trans ((if_neg c_5361).trans ((if_neg c_5368).trans ((if_neg c_5375).trans ((if_neg c_5380).trans (if_pos c_5383))))))) ?_
                refine Rn.n hT 1 (pc' := 106) (L' := [some (.ref q0), some (.int x1)]) (st' := [.ref q0]) rfl ?_
                obtain ⟨v_5384, e_5385, e⟩ := Option.bind_eq_some_iff.mp e
                refine Rn.hp hT rfl rfl (gR_hp e_5385) ?_
                obtain ⟨v_5386, e_5387, e⟩ := Option.bind_eq_some_iff.mp e
                refine Rn.hp hT rfl rfl (gR_hp e_5387) ?_
                obtain ⟨_, e_5389, e⟩ := Option.bind_eq_some_iff.mp e
                obtain ⟨v_5390, e_5388, e⟩ := Option.bind_eq_some_iff.mp e
                refine Rn.call hT rfl rfl rfl (Nat.le_of_ble_eq_true rfl) (rcv_v gX1_emptyCells (by omega) e_5389) (rX1_emptyCells (by omega) e_5388 ?_)
                show Rn d _ _ 115 [some (.ref q0), some (.int x1)] [.int v_5390] h Q
                obtain rfl := Option.some.inj e
                exact Rn.ret hT rfl rfl rfl hq
              · rw [if_neg c_5383] at e
                by_cases c_5391 : x1 = (16 : Int32)
                · rw [if_pos c_5391] at e
                  refine Rn.sw2 hT rfl rfl rfl ((if_neg c_5347).trans ((if_neg c_5354).trans ((if_neg c_5361).trans ((if_neg c_5368).trans ((if_neg c_5375).trans ((if_neg c_5380).trans ((if_neg c_5383).trans (if_pos c_5391)))))))) ?_
                  refine Rn.n hT 1 (pc' := 117) (L' := [some (.ref q0), some (.int x1)]) (st' := [.ref q0]) rfl ?_
                  obtain ⟨v_5392, e_5393, e⟩ := Option.bind_eq_some_iff.mp e
                  refine Rn.hp hT rfl rfl (gR_hp e_5393) ?_
                  obtain ⟨v_5394, e_5395, e⟩ := Option.bind_eq_some_iff.mp e
                  refine Rn.hp hT rfl rfl (gI_hp e_5395) ?_
                  obtain rfl := Option.some.inj e
                  exact Rn.ret hT rfl rfl rfl hq
                · rw [if_neg c_5391] at e
                  refine Rn.sw2 hT rfl rfl rfl ((if_neg c_5347).trans ((if_neg c_5354).trans ((if_neg c_5361).trans ((if_neg c_5368).trans ((if_neg c_5375).trans ((if_neg c_5380).trans ((if_neg c_5383).trans ((if_neg c_5391).trans rfl)))))))) ?_
                  refine Rn.n hT 1 (pc' := 125) (L' := [some (.ref q0), some (.int x1)]) (st' := [.int (-1 : Int32)]) rfl ?_
                  obtain rfl := Option.some.inj e
                  exact Rn.ret hT rfl rfl rfl hq
set_option maxRecDepth 10000 in
theorem hX11_count : iv_Tb 185 tX11_count := iv_tb_of (m := mX11_count) rfl
set_option maxRecDepth 10000 in
theorem gX11_count : PG.2 185 = some mX11_count := iv_pi_of (t := tX11_count) rfl (by decide)
def fX11_count (N : Nat) (h : iv_H) (q0 : Nat) (x1 : Int32) : Option (Int32) := (if x1 = (0 : Int32) then ((gR h 11 4 q0).bind fun v_5397 => ((gR h 2 9 v_5397).bind fun v_5399 => ((gI h 1 0 v_5399).bind fun v_5401 => (some v_5401)))) else (if x1 = (1 : Int32) then ((gR h 11 4 q0).bind fun v_5404 => ((gR h 2 9 v_5404).bind fun v_5406 => ((gI h 1 1 v_5406).bind fun v_5408 => (some v_5408)))) else (if x1 = (2 : Int32) then ((gR h 11 4 q0).bind fun v_5411 => ((gR h 2 9 v_5411).bind fun v_5413 => ((gI h 1 2 v_5413).bind fun v_5415 => (some v_5415)))) else (if x1 = (3 : Int32) then ((gR h 11 4 q0).bind fun v_5418 => ((gI h 2 2 v_5418).bind fun v_5420 => (some v_5420))) else (if x1 = (4 : Int32) then ((gR h 11 4 q0).bind fun v_5423 => ((gI h 2 1 v_5423).bind fun v_5425 => (some v_5425))) else (if x1 = (5 : Int32) then ((gR h 11 4 q0).bind fun v_5428 => ((gI h 2 4 v_5428).bind fun v_5430 => (some v_5430))) else (if x1 = (6 : Int32) then ((gI h 11 3 q0).bind fun v_5433 => (some v_5433)) else (if x1 = (7 : Int32) then ((gR h 11 4 q0).bind fun v_5436 => ((gI h 2 5 v_5436).bind fun v_5438 => (some v_5438))) else (if x1 = (8 : Int32) then ((gR h 11 4 q0).bind fun v_5441 => ((gI h 2 6 v_5441).bind fun v_5443 => (some v_5443))) else ((cko h q0 11).bind fun _ => (fX11_countMore N h q0 x1).bind fun v_5447 => (some v_5447)))))))))))
set_option maxRecDepth 10000 in
set_option maxHeartbeats 4000000 in
theorem rX11_count {d N : Nat} (hd : 3 ≤ d) {h : iv_H} {q0 : Nat} {x1 : Int32} {r : Int32} {Q : Option Value → iv_H → Prop} (e : fX11_count N h q0 x1 = some r) (hq : Q (some (.int r)) h) : Cl d 185 [.ref q0, .int x1] h Q := by
  obtain ⟨d, rfl⟩ : ∃ k, d = k + 1 := ⟨d - 1, by omega⟩
  have hd : 2 ≤ d := by omega
  have hT := hX11_count
  unfold fX11_count at e
  refine Cl.into (by decide) gX11_count rfl ?_
  show Rn d 185 (some .int) 0 [some (.ref q0), some (.int x1)] [] h Q
  refine Rn.n hT 1 (pc' := 1) (L' := [some (.ref q0), some (.int x1)]) (st' := [.int x1]) rfl ?_
  by_cases c_5396 : x1 = (0 : Int32)
  · rw [if_pos c_5396] at e
    refine Rn.sw2 hT rfl rfl rfl (if_pos c_5396) ?_
    refine Rn.n hT 1 (pc' := 53) (L' := [some (.ref q0), some (.int x1)]) (st' := [.ref q0]) rfl ?_
    obtain ⟨v_5397, e_5398, e⟩ := Option.bind_eq_some_iff.mp e
    refine Rn.hp hT rfl rfl (gR_hp e_5398) ?_
    obtain ⟨v_5399, e_5400, e⟩ := Option.bind_eq_some_iff.mp e
    refine Rn.hp hT rfl rfl (gR_hp e_5400) ?_
    obtain ⟨v_5401, e_5402, e⟩ := Option.bind_eq_some_iff.mp e
    refine Rn.hp hT rfl rfl (gI_hp e_5402) ?_
    obtain rfl := Option.some.inj e
    exact Rn.ret hT rfl rfl rfl hq
  · rw [if_neg c_5396] at e
    by_cases c_5403 : x1 = (1 : Int32)
    · rw [if_pos c_5403] at e
      refine Rn.sw2 hT rfl rfl rfl ((if_neg c_5396).trans (if_pos c_5403)) ?_
      refine Rn.n hT 1 (pc' := 64) (L' := [some (.ref q0), some (.int x1)]) (st' := [.ref q0]) rfl ?_
      obtain ⟨v_5404, e_5405, e⟩ := Option.bind_eq_some_iff.mp e
      refine Rn.hp hT rfl rfl (gR_hp e_5405) ?_
      obtain ⟨v_5406, e_5407, e⟩ := Option.bind_eq_some_iff.mp e
      refine Rn.hp hT rfl rfl (gR_hp e_5407) ?_
      obtain ⟨v_5408, e_5409, e⟩ := Option.bind_eq_some_iff.mp e
      refine Rn.hp hT rfl rfl (gI_hp e_5409) ?_
      obtain rfl := Option.some.inj e
      exact Rn.ret hT rfl rfl rfl hq
    · rw [if_neg c_5403] at e
      by_cases c_5410 : x1 = (2 : Int32)
      · rw [if_pos c_5410] at e
        refine Rn.sw2 hT rfl rfl rfl ((if_neg c_5396).trans ((if_neg c_5403).trans (if_pos c_5410))) ?_
        refine Rn.n hT 1 (pc' := 75) (L' := [some (.ref q0), some (.int x1)]) (st' := [.ref q0]) rfl ?_
        obtain ⟨v_5411, e_5412, e⟩ := Option.bind_eq_some_iff.mp e
        refine Rn.hp hT rfl rfl (gR_hp e_5412) ?_
        obtain ⟨v_5413, e_5414, e⟩ := Option.bind_eq_some_iff.mp e
        refine Rn.hp hT rfl rfl (gR_hp e_5414) ?_
        obtain ⟨v_5415, e_5416, e⟩ := Option.bind_eq_some_iff.mp e
        refine Rn.hp hT rfl rfl (gI_hp e_5416) ?_
        obtain rfl := Option.some.inj e
        exact Rn.ret hT rfl rfl rfl hq
      · rw [if_neg c_5410] at e
        by_cases c_5417 : x1 = (3 : Int32)
        · rw [if_pos c_5417] at e
          refine Rn.sw2 hT rfl rfl rfl ((if_neg c_5396).trans ((if_neg c_5403).trans ((if_neg c_5410).trans (if_pos c_5417)))) ?_
          refine Rn.n hT 1 (pc' := 86) (L' := [some (.ref q0), some (.int x1)]) (st' := [.ref q0]) rfl ?_
          obtain ⟨v_5418, e_5419, e⟩ := Option.bind_eq_some_iff.mp e
          refine Rn.hp hT rfl rfl (gR_hp e_5419) ?_
          obtain ⟨v_5420, e_5421, e⟩ := Option.bind_eq_some_iff.mp e
          refine Rn.hp hT rfl rfl (gI_hp e_5421) ?_
          obtain rfl := Option.some.inj e
          exact Rn.ret hT rfl rfl rfl hq
        · rw [if_neg c_5417] at e
          by_cases c_5422 : x1 = (4 : Int32)
          · rw [if_pos c_5422] at e
            refine Rn.sw2 hT rfl rfl rfl ((if_neg c_5396).trans ((if_neg c_5403).trans ((if_neg c_5410).trans ((if_neg c_5417).trans (if_pos c_5422))))) ?_
            refine Rn.n hT 1 (pc' := 94) (L' := [some (.ref q0), some (.int x1)]) (st' := [.ref q0]) rfl ?_
            obtain ⟨v_5423, e_5424, e⟩ := Option.bind_eq_some_iff.mp e
            refine Rn.hp hT rfl rfl (gR_hp e_5424) ?_
            obtain ⟨v_5425, e_5426, e⟩ := Option.bind_eq_some_iff.mp e
            refine Rn.hp hT rfl rfl (gI_hp e_5426) ?_
            obtain rfl := Option.some.inj e
            exact Rn.ret hT rfl rfl rfl hq
          · rw [if_neg c_5422] at e
            by_cases c_5427 : x1 = (5 : Int32)
            · rw [if_pos c_5427] at e
              refine Rn.sw2 hT rfl rfl rfl ((if_neg c_5396).trans ((if_neg c_5403).trans ((if_neg c_5410).trans ((if_neg c_5417).trans ((if_neg c_5422).trans (if_pos c_5427)))))) ?_
              refine Rn.n hT 1 (pc' := 102) (L' := [some (.ref q0), some (.int x1)]) (st' := [.ref q0]) rfl ?_
              obtain ⟨v_5428, e_5429, e⟩ := Option.bind_eq_some_iff.mp e
              refine Rn.hp hT rfl rfl (gR_hp e_5429) ?_
              obtain ⟨v_5430, e_5431, e⟩ := Option.bind_eq_some_iff.mp e
              refine Rn.hp hT rfl rfl (gI_hp e_5431) ?_
              obtain rfl := Option.some.inj e
              exact Rn.ret hT rfl rfl rfl hq
            · rw [if_neg c_5427] at e
              by_cases c_5432 : x1 = (6 : Int32)
              · rw [if_pos c_5432] at e
                refine Rn.sw2 hT rfl rfl rfl ((if_neg c_5396).trans ((if_neg c_5403).trans ((if_neg c_5410).trans ((if_neg c_5417).trans ((if_neg c_5422).trans ((if_neg c_5427).trans (if_pos c_5432))))))) ?_
                refine Rn.n hT 1 (pc' := 110) (L' := [some (.ref q0), some (.int x1)]) (st' := [.ref q0]) rfl ?_
                obtain ⟨v_5433, e_5434, e⟩ := Option.bind_eq_some_iff.mp e
                refine Rn.hp hT rfl rfl (gI_hp e_5434) ?_
                obtain rfl := Option.some.inj e
                exact Rn.ret hT rfl rfl rfl hq
              · rw [if_neg c_5432] at e
                by_cases c_5435 : x1 = (7 : Int32)
                · rw [if_pos c_5435] at e
                  refine Rn.sw2 hT rfl rfl rfl ((if_neg c_5396).trans ((if_neg c_5403).trans ((if_neg c_5410).trans ((if_neg c_5417).trans ((if_neg c_5422).trans ((if_neg c_5427).trans ((if_neg c_5432).trans (if_pos c_5435)))))))) ?_
                  refine Rn.n hT 1 (pc' := 115) (L' := [some (.ref q0), some (.int x1)]) (st' := [.ref q0]) rfl ?_
                  obtain ⟨v_5436, e_5437, e⟩ := Option.bind_eq_some_iff.mp e
                  refine Rn.hp hT rfl rfl (gR_hp e_5437) ?_
                  obtain ⟨v_5438, e_5439, e⟩ := Option.bind_eq_some_iff.mp e
                  refine Rn.hp hT rfl rfl (gI_hp e_5439) ?_
                  obtain rfl := Option.some.inj e
                  exact Rn.ret hT rfl rfl rfl hq
                · rw [if_neg c_5435] at e
                  by_cases c_5440 : x1 = (8 : Int32)
                  · rw [if_pos c_5440] at e
                    refine Rn.sw2 hT rfl rfl rfl ((if_neg c_5396).trans ((if_neg c_5403).trans ((if_neg c_5410).trans ((if_neg c_5417).trans ((if_neg c_5422).trans ((if_neg c_5427).trans ((if_neg c_5432).trans ((if_neg c_5435).trans (if_pos c_5440))))))))) ?_
                    refine Rn.n hT 1 (pc' := 123) (L' := [some (.ref q0), some (.int x1)]) (st' := [.ref q0]) rfl ?_
                    obtain ⟨v_5441, e_5442, e⟩ := Option.bind_eq_some_iff.mp e
                    refine Rn.hp hT rfl rfl (gR_hp e_5442) ?_
                    obtain ⟨v_5443, e_5444, e⟩ := Option.bind_eq_some_iff.mp e
                    refine Rn.hp hT rfl rfl (gI_hp e_5444) ?_
                    obtain rfl := Option.some.inj e
                    exact Rn.ret hT rfl rfl rfl hq
                  · rw [if_neg c_5440] at e
                    refine Rn.sw2 hT rfl rfl rfl ((if_neg c_5396).trans ((if_neg c_5403).trans ((if_neg c_5410).trans ((if_neg c_5417).trans ((if_neg c_5422).trans ((if_neg c_5427).trans ((if_neg c_5432).trans ((if_neg c_5435).trans ((if_neg c_5440).trans rfl))))))))) ?_
                    refine Rn.n hT 2 (pc' := 132) (L' := [some (.ref q0), some (.int x1)]) (st' := [.int x1, .ref q0]) rfl ?_
                    obtain ⟨_, e_5446, e⟩ := Option.bind_eq_some_iff.mp e
                    obtain ⟨v_5447, e_5445, e⟩ := Option.bind_eq_some_iff.mp e
                    refine Rn.call hT rfl rfl rfl (Nat.le_of_ble_eq_true rfl) (rcv_v gX11_countMore (by omega) e_5446) (rX11_countMore (by omega) e_5445 ?_)
                    show Rn d _ _ 135 [some (.ref q0), some (.int x1)] [.int v_5447] h Q
                    obtain rfl := Option.some.inj e
                    exact Rn.ret hT rfl rfl rfl hq
