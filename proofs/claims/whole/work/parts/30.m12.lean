-- MIRRORS, 12 (written by wip/whole/mir.py)
set_option maxRecDepth 10000 in
theorem hX12_almanac : iv_Tb 314 tX12_almanac := iv_tb_of (m := mX12_almanac) rfl
set_option maxRecDepth 10000 in
theorem gX12_almanac : PG.2 314 = some mX12_almanac := iv_pi_of (t := tX12_almanac) rfl (by decide)
def fX12_almanac_b41 (N : Nat) (h : iv_H)   : Option (Int32 × iv_H) := (some ((-2 : Int32), h))
set_option maxRecDepth 10000 in
set_option maxHeartbeats 4000000 in
theorem rX12_almanac_b41 {d N : Nat} (hd : 3 ≤ d) {h : iv_H}   {r : Int32 × iv_H} {Q : Option Value → iv_H → Prop} (hq : Q (some (.int r.1)) r.2) (e : fX12_almanac_b41 N h   = some r) : Rn d 314 (some .int) 41 [none, none, none, none, none] [] h Q := by
  have hT := hX12_almanac
  unfold fX12_almanac_b41 at e
  refine Rn.n hT 1 (pc' := 43) (L' := [none, none, none, none, none]) (st' := [.int (-2 : Int32)]) rfl ?_
  obtain rfl := Option.some.inj e
  exact Rn.ret hT rfl rfl rfl hq
def fX12_almanac (N : Nat) (h : iv_H) (q0 : Nat) (x1 : Int32) (x2 : Int32) (x3 : Int32) : Option (Int32 × iv_H) := (if x1 = (-1 : Int32) then ((gR h 12 1 q0).bind fun v_9118 => ((wI h v_9118 (8 : Int32) (0 : Int32)).bind fun h_9120 => (some ((0 : Int32), h_9120)))) else ((gR h 12 1 q0).bind fun v_9087 => ((aI h v_9087 (8 : Int32)).bind fun v_9089 => ((cko h q0 12).bind fun _ => (fX12_isWalk N h q0 x1 x2 x3).bind fun v_9093 => (if v_9093 = 0 then (fX12_almanac_b41 N h) else (if v_9089 = (10 : Int32) then (fX12_almanac_b41 N h) else ((gR h 12 11 q0).bind fun v_9096 => ((wI h v_9096 v_9089 x1).bind fun h_9098 => ((gR h_9098 12 12 q0).bind fun v_9100 => ((fX12_least N h_9098 x1 x2 x3).bind fun v_9103 => ((wI h_9098 v_9100 v_9089 v_9103).bind fun h_9104 => ((gR h_9104 12 13 q0).bind fun v_9106 => ((fX12_greatest N h_9104 x1 x2 x3).bind fun v_9109 => ((wI h_9104 v_9106 v_9089 v_9109).bind fun h_9110 => ((gR h_9110 12 1 q0).bind fun v_9112 => ((aI h_9110 v_9112 (8 : Int32)).bind fun v_9114 => ((wI h_9110 v_9112 (8 : Int32) (v_9114 + (1 : Int32))).bind fun h_9116 => (some ((v_9089 + (1 : Int32)), h_9116)))))))))))))))))))
set_option maxRecDepth 10000 in
set_option maxHeartbeats 4000000 in
theorem rX12_almanac {d N : Nat} (hd : 4 ≤ d) {h : iv_H} {q0 : Nat} {x1 : Int32} {x2 : Int32} {x3 : Int32} {r : Int32 × iv_H} {Q : Option Value → iv_H → Prop} (e : fX12_almanac N h q0 x1 x2 x3 = some r) (hq : Q (some (.int r.1)) r.2) : Cl d 314 [.ref q0, .int x1, .int x2, .int x3] h Q := by
  obtain ⟨d, rfl⟩ : ∃ k, d = k + 1 := ⟨d - 1, by omega⟩
  have hd : 3 ≤ d := by omega
  have hT := hX12_almanac
  unfold fX12_almanac at e
  refine Cl.into (by decide) gX12_almanac rfl ?_
  show Rn d 314 (some .int) 0 [some (.ref q0), some (.int x1), some (.int x2), some (.int x3), none] [] h Q
  refine Rn.n hT 2 (pc' := 2) (L' := [some (.ref q0), some (.int x1), some (.int x2), some (.int x3), none]) (st' := [.int (-1 : Int32), .int x1]) rfl ?_
  by_cases c_9086 : x1 = (-1 : Int32)
  · rw [if_pos c_9086] at e
    refine Rn.bf hT rfl rfl rfl (decide_eq_false (fun z => z c_9086)) ?_
    refine Rn.n hT 1 (pc' := 6) (L' := [some (.ref q0), some (.int x1), some (.int x2), some (.int x3), none]) (st' := [.ref q0]) rfl ?_
    obtain ⟨v_9118, e_9119, e⟩ := Option.bind_eq_some_iff.mp e
    refine Rn.hp hT rfl rfl (gR_hp e_9119) ?_
    refine Rn.n hT 2 (pc' := 12) (L' := [some (.ref q0), some (.int x1), some (.int x2), some (.int x3), none]) (st' := [.int (0 : Int32), .int (8 : Int32), .ref v_9118]) rfl ?_
    obtain ⟨h_9120, e_9121, e⟩ := Option.bind_eq_some_iff.mp e
    refine Rn.hp hT rfl rfl (wI_hp e_9121) ?_
    refine Rn.n hT 1 (pc' := 14) (L' := [some (.ref q0), some (.int x1), some (.int x2), some (.int x3), none]) (st' := [.int (0 : Int32)]) rfl ?_
    obtain rfl := Option.some.inj e
    exact Rn.ret hT rfl rfl rfl hq
  · rw [if_neg c_9086] at e
    refine Rn.bt hT rfl rfl rfl (decide_eq_true c_9086) ?_
    refine Rn.n hT 1 (pc' := 16) (L' := [some (.ref q0), some (.int x1), some (.int x2), some (.int x3), none]) (st' := [.ref q0]) rfl ?_
    obtain ⟨v_9087, e_9088, e⟩ := Option.bind_eq_some_iff.mp e
    refine Rn.hp hT rfl rfl (gR_hp e_9088) ?_
    refine Rn.n hT 1 (pc' := 21) (L' := [some (.ref q0), some (.int x1), some (.int x2), some (.int x3), none]) (st' := [.int (8 : Int32), .ref v_9087]) rfl ?_
    obtain ⟨v_9089, e_9090, e⟩ := Option.bind_eq_some_iff.mp e
    refine Rn.hp hT rfl rfl (aI_hp e_9090) ?_
    refine Rn.n hT 5 (pc' := 28) (L' := [some (.ref q0), some (.int x1), some (.int x2), some (.int x3), some (.int v_9089)]) (st' := [.int x3, .int x2, .int x1, .ref q0]) rfl ?_
    obtain ⟨_, e_9092, e⟩ := Option.bind_eq_some_iff.mp e
    obtain ⟨v_9093, e_9091, e⟩ := Option.bind_eq_some_iff.mp e
    refine Rn.call hT rfl rfl rfl (Nat.le_of_ble_eq_true rfl) (rcv_v gX12_isWalk (by omega) e_9092) (rX12_isWalk (by omega) e_9091 ?_)
    show Rn d _ _ 31 [some (.ref q0), some (.int x1), some (.int x2), some (.int x3), some (.int v_9089)] [.int v_9093] h Q
    by_cases c_9094 : v_9093 = 0
    · rw [if_pos c_9094] at e
      refine Rn.bt hT rfl rfl rfl (decide_eq_true c_9094) ?_
      exact Rn.weak (ll_n (ll_n (ll_n (ll_n (ll_n ll_e))))) (rX12_almanac_b41 hd hq e)
    · rw [if_neg c_9094] at e
      refine Rn.bf hT rfl rfl rfl (decide_eq_false c_9094) ?_
      refine Rn.n hT 2 (pc' := 38) (L' := [some (.ref q0), some (.int x1), some (.int x2), some (.int x3), some (.int v_9089)]) (st' := [.int (10 : Int32), .int v_9089]) rfl ?_
      by_cases c_9095 : v_9089 = (10 : Int32)
      · rw [if_pos c_9095] at e
        refine Rn.bf hT rfl rfl rfl (decide_eq_false (fun z => z c_9095)) ?_
        exact Rn.weak (ll_n (ll_n (ll_n (ll_n (ll_n ll_e))))) (rX12_almanac_b41 hd hq e)
      · rw [if_neg c_9095] at e
        refine Rn.bt hT rfl rfl rfl (decide_eq_true c_9095) ?_
        refine Rn.n hT 1 (pc' := 45) (L' := [some (.ref q0), some (.int x1), some (.int x2), some (.int x3), some (.int v_9089)]) (st' := [.ref q0]) rfl ?_
        obtain ⟨v_9096, e_9097, e⟩ := Option.bind_eq_some_iff.mp e
        refine Rn.hp hT rfl rfl (gR_hp e_9097) ?_
        refine Rn.n hT 2 (pc' := 51) (L' := [some (.ref q0), some (.int x1), some (.int x2), some (.int x3), some (.int v_9089)]) (st' := [.int x1, .int v_9089, .ref v_9096]) rfl ?_
        obtain ⟨h_9098, e_9099, e⟩ := Option.bind_eq_some_iff.mp e
        refine Rn.hp hT rfl rfl (wI_hp e_9099) ?_
        refine Rn.n hT 1 (pc' := 53) (L' := [some (.ref q0), some (.int x1), some (.int x2), some (.int x3), some (.int v_9089)]) (st' := [.ref q0]) rfl ?_
        obtain ⟨v_9100, e_9101, e⟩ := Option.bind_eq_some_iff.mp e
        refine Rn.hp hT rfl rfl (gR_hp e_9101) ?_
        refine Rn.n hT 4 (pc' := 61) (L' := [some (.ref q0), some (.int x1), some (.int x2), some (.int x3), some (.int v_9089)]) (st' := [.int x3, .int x2, .int x1, .int v_9089, .ref v_9100]) rfl ?_
        obtain ⟨v_9103, e_9102, e⟩ := Option.bind_eq_some_iff.mp e
        refine Rn.call hT rfl rfl rfl (Nat.le_of_ble_eq_true rfl) rfl (rX12_least (by omega) e_9102 ?_)
        show Rn d _ _ 64 [some (.ref q0), some (.int x1), some (.int x2), some (.int x3), some (.int v_9089)] [.int v_9103, .int v_9089, .ref v_9100] h_9098 Q
        obtain ⟨h_9104, e_9105, e⟩ := Option.bind_eq_some_iff.mp e
        refine Rn.hp hT rfl rfl (wI_hp e_9105) ?_
        refine Rn.n hT 1 (pc' := 66) (L' := [some (.ref q0), some (.int x1), some (.int x2), some (.int x3), some (.int v_9089)]) (st' := [.ref q0]) rfl ?_
        obtain ⟨v_9106, e_9107, e⟩ := Option.bind_eq_some_iff.mp e
        refine Rn.hp hT rfl rfl (gR_hp e_9107) ?_
        refine Rn.n hT 4 (pc' := 74) (L' := [some (.ref q0), some (.int x1), some (.int x2), some (.int x3), some (.int v_9089)]) (st' := [.int x3, .int x2, .int x1, .int v_9089, .ref v_9106]) rfl ?_
        obtain ⟨v_9109, e_9108, e⟩ := Option.bind_eq_some_iff.mp e
        refine Rn.call hT rfl rfl rfl (Nat.le_of_ble_eq_true rfl) rfl (rX12_greatest (by omega) e_9108 ?_)
        show Rn d _ _ 77 [some (.ref q0), some (.int x1), some (.int x2), some (.int x3), some (.int v_9089)] [.int v_9109, .int v_9089, .ref v_9106] h_9104 Q
        obtain ⟨h_9110, e_9111, e⟩ := Option.bind_eq_some_iff.mp e
        refine Rn.hp hT rfl rfl (wI_hp e_9111) ?_
        refine Rn.n hT 1 (pc' := 79) (L' := [some (.ref q0), some (.int x1), some (.int x2), some (.int x3), some (.int v_9089)]) (st' := [.ref q0]) rfl ?_
        obtain ⟨v_9112, e_9113, e⟩ := Option.bind_eq_some_iff.mp e
        refine Rn.hp hT rfl rfl (gR_hp e_9113) ?_
        refine Rn.n hT 2 (pc' := 85) (L' := [some (.ref q0), some (.int x1), some (.int x2), some (.int x3), some (.int v_9089)]) (st' := [.int (8 : Int32), .ref v_9112, .int (8 : Int32), .ref v_9112]) rfl ?_
        obtain ⟨v_9114, e_9115, e⟩ := Option.bind_eq_some_iff.mp e
        refine Rn.hp hT rfl rfl (aI_hp e_9115) ?_
        refine Rn.n hT 2 (pc' := 88) (L' := [some (.ref q0), some (.int x1), some (.int x2), some (.int x3), some (.int v_9089)]) (st' := [.int (v_9114 + (1 : Int32)), .int (8 : Int32), .ref v_9112]) rfl ?_
        obtain ⟨h_9116, e_9117, e⟩ := Option.bind_eq_some_iff.mp e
        refine Rn.hp hT rfl rfl (wI_hp e_9117) ?_
        refine Rn.n hT 3 (pc' := 93) (L' := [some (.ref q0), some (.int x1), some (.int x2), some (.int x3), some (.int v_9089)]) (st' := [.int (v_9089 + (1 : Int32))]) rfl ?_
        obtain rfl := Option.some.inj e
        exact Rn.ret hT rfl rfl rfl hq
set_option maxRecDepth 10000 in
theorem hX12_comesDue : iv_Tb 315 tX12_comesDue := iv_tb_of (m := mX12_comesDue) rfl
set_option maxRecDepth 10000 in
theorem gX12_comesDue : PG.2 315 = some mX12_comesDue := iv_pi_of (t := tX12_comesDue) rfl (by decide)
def fX12_comesDue_b57 (N : Nat) (h : iv_H) (x2 : Int32)  : Option (Int32 × iv_H) := (if x2 = 0 ∨ x2 = 1 then some (x2, h) else none)
set_option maxRecDepth 10000 in
set_option maxHeartbeats 4000000 in
theorem rX12_comesDue_b57 {d N : Nat} (hd : 7 ≤ d) {h : iv_H} {x2 : Int32}  {r : Int32 × iv_H} {Q : Option Value → iv_H → Prop} (hq : Q (some (.int r.1)) r.2) (e : fX12_comesDue_b57 N h x2  = some r) : Rn d 315 (some .boolean) 57 [none, none, some (.int x2)] [] h Q := by
  have hT := hX12_comesDue
  unfold fX12_comesDue_b57 at e
  refine Rn.n hT 1 (pc' := 58) (L' := [none, none, some (.int x2)]) (st' := [.int x2]) rfl ?_
  by_cases c_9157 : x2 = 0 ∨ x2 = 1
  · rw [if_pos c_9157] at e
    obtain rfl := Option.some.inj e
    exact Rn.ret hT rfl rfl (if_pos c_9157) hq
  · rw [if_neg c_9157] at e
    cases e
def fX12_comesDue_b30 (N : Nat) (h : iv_H) (q0 : Nat) (x1 : Int32) (s0 : Int32) : Option (Int32 × iv_H) := (if s0 = 0 then (fX12_comesDue_b57 N h s0) else ((gR h 12 11 q0).bind fun v_9141 => ((aI h v_9141 x1).bind fun v_9143 => ((gR h 12 12 q0).bind fun v_9145 => ((aI h v_9145 x1).bind fun v_9147 => ((gR h 12 13 q0).bind fun v_9149 => ((aI h v_9149 x1).bind fun v_9151 => ((cko h q0 12).bind fun _ => (fX12_walks N h q0 v_9143 v_9147 v_9151).bind fun h_9156 => (fX12_comesDue_b57 N h_9156 s0)))))))))
set_option maxRecDepth 10000 in
set_option maxHeartbeats 4000000 in
theorem rX12_comesDue_b30 {d N : Nat} (hd : 7 ≤ d) {h : iv_H} {q0 : Nat} {x1 : Int32} {s0 : Int32} {r : Int32 × iv_H} {Q : Option Value → iv_H → Prop} (hq : Q (some (.int r.1)) r.2) (e : fX12_comesDue_b30 N h q0 x1 s0 = some r) : Rn d 315 (some .boolean) 30 [some (.ref q0), some (.int x1), none] [.int s0] h Q := by
  have hT := hX12_comesDue
  unfold fX12_comesDue_b30 at e
  refine Rn.n hT 2 (pc' := 32) (L' := [some (.ref q0), some (.int x1), some (.int s0)]) (st' := [.int s0]) rfl ?_
  by_cases c_9140 : s0 = 0
  · rw [if_pos c_9140] at e
    refine Rn.bt hT rfl rfl rfl (decide_eq_true c_9140) ?_
    exact Rn.weak (ll_n (ll_n (ll_s ll_e))) (rX12_comesDue_b57 hd hq e)
  · rw [if_neg c_9140] at e
    refine Rn.bf hT rfl rfl rfl (decide_eq_false c_9140) ?_
    refine Rn.n hT 2 (pc' := 37) (L' := [some (.ref q0), some (.int x1), some (.int s0)]) (st' := [.ref q0, .ref q0]) rfl ?_
    obtain ⟨v_9141, e_9142, e⟩ := Option.bind_eq_some_iff.mp e
    refine Rn.hp hT rfl rfl (gR_hp e_9142) ?_
    refine Rn.n hT 1 (pc' := 41) (L' := [some (.ref q0), some (.int x1), some (.int s0)]) (st' := [.int x1, .ref v_9141, .ref q0]) rfl ?_
    obtain ⟨v_9143, e_9144, e⟩ := Option.bind_eq_some_iff.mp e
    refine Rn.hp hT rfl rfl (aI_hp e_9144) ?_
    refine Rn.n hT 1 (pc' := 43) (L' := [some (.ref q0), some (.int x1), some (.int s0)]) (st' := [.ref q0, .int v_9143, .ref q0]) rfl ?_
    obtain ⟨v_9145, e_9146, e⟩ := Option.bind_eq_some_iff.mp e
    refine Rn.hp hT rfl rfl (gR_hp e_9146) ?_
    refine Rn.n hT 1 (pc' := 47) (L' := [some (.ref q0), some (.int x1), some (.int s0)]) (st' := [.int x1, .ref v_9145, .int v_9143, .ref q0]) rfl ?_
    obtain ⟨v_9147, e_9148, e⟩ := Option.bind_eq_some_iff.mp e
    refine Rn.hp hT rfl rfl (aI_hp e_9148) ?_
    refine Rn.n hT 1 (pc' := 49) (L' := [some (.ref q0), some (.int x1), some (.int s0)]) (st' := [.ref q0, .int v_9147, .int v_9143, .ref q0]) rfl ?_
    obtain ⟨v_9149, e_9150, e⟩ := Option.bind_eq_some_iff.mp e
    refine Rn.hp hT rfl rfl (gR_hp e_9150) ?_
    refine Rn.n hT 1 (pc' := 53) (L' := [some (.ref q0), some (.int x1), some (.int s0)]) (st' := [.int x1, .ref v_9149, .int v_9147, .int v_9143, .ref q0]) rfl ?_
    obtain ⟨v_9151, e_9152, e⟩ := Option.bind_eq_some_iff.mp e
    refine Rn.hp hT rfl rfl (aI_hp e_9152) ?_
    obtain ⟨_, e_9154, e⟩ := Option.bind_eq_some_iff.mp e
    obtain ⟨h_9156, e_9153, e⟩ := Option.bind_eq_some_iff.mp e
    refine Rn.call hT rfl rfl rfl (Nat.le_of_ble_eq_true rfl) (rcv_v gX12_walks (by omega) e_9154) (rX12_walks (by omega) e_9153 ?_)
    show Rn d _ _ 57 [some (.ref q0), some (.int x1), some (.int s0)] [] h_9156 Q
    exact Rn.weak (ll_n (ll_n (ll_s ll_e))) (rX12_comesDue_b57 hd hq e)
def fX12_comesDue (N : Nat) (h : iv_H) (q0 : Nat) (x1 : Int32) : Option (Int32 × iv_H) := ((gR h 12 11 q0).bind fun v_9122 => ((aI h v_9122 x1).bind fun v_9124 => ((gR h 12 12 q0).bind fun v_9126 => ((aI h v_9126 x1).bind fun v_9128 => ((gR h 12 13 q0).bind fun v_9130 => ((aI h v_9130 x1).bind fun v_9132 => ((cko h q0 12).bind fun _ => (fX12_lawOf N h q0 v_9124 v_9128 v_9132).bind fun p_9139 => (fun (v_9136 : Int32) (h_9137 : iv_H) => (if v_9136 = 0 then (fX12_comesDue_b30 N h_9137 q0 x1 (1 : Int32)) else (fX12_comesDue_b30 N h_9137 q0 x1 (0 : Int32)))) p_9139.1 p_9139.2)))))))
set_option maxRecDepth 10000 in
set_option maxHeartbeats 4000000 in
theorem rX12_comesDue {d N : Nat} (hd : 8 ≤ d) {h : iv_H} {q0 : Nat} {x1 : Int32} {r : Int32 × iv_H} {Q : Option Value → iv_H → Prop} (e : fX12_comesDue N h q0 x1 = some r) (hq : Q (some (.int r.1)) r.2) : Cl d 315 [.ref q0, .int x1] h Q := by
  obtain ⟨d, rfl⟩ : ∃ k, d = k + 1 := ⟨d - 1, by omega⟩
  have hd : 7 ≤ d := by omega
  have hT := hX12_comesDue
  unfold fX12_comesDue at e
  refine Cl.into (by decide) gX12_comesDue rfl ?_
  show Rn d 315 (some .boolean) 0 [some (.ref q0), some (.int x1), none] [] h Q
  refine Rn.n hT 2 (pc' := 2) (L' := [some (.ref q0), some (.int x1), none]) (st' := [.ref q0, .ref q0]) rfl ?_
  obtain ⟨v_9122, e_9123, e⟩ := Option.bind_eq_some_iff.mp e
  refine Rn.hp hT rfl rfl (gR_hp e_9123) ?_
  refine Rn.n hT 1 (pc' := 6) (L' := [some (.ref q0), some (.int x1), none]) (st' := [.int x1, .ref v_9122, .ref q0]) rfl ?_
  obtain ⟨v_9124, e_9125, e⟩ := Option.bind_eq_some_iff.mp e
  refine Rn.hp hT rfl rfl (aI_hp e_9125) ?_
  refine Rn.n hT 1 (pc' := 8) (L' := [some (.ref q0), some (.int x1), none]) (st' := [.ref q0, .int v_9124, .ref q0]) rfl ?_
  obtain ⟨v_9126, e_9127, e⟩ := Option.bind_eq_some_iff.mp e
  refine Rn.hp hT rfl rfl (gR_hp e_9127) ?_
  refine Rn.n hT 1 (pc' := 12) (L' := [some (.ref q0), some (.int x1), none]) (st' := [.int x1, .ref v_9126, .int v_9124, .ref q0]) rfl ?_
  obtain ⟨v_9128, e_9129, e⟩ := Option.bind_eq_some_iff.mp e
  refine Rn.hp hT rfl rfl (aI_hp e_9129) ?_
  refine Rn.n hT 1 (pc' := 14) (L' := [some (.ref q0), some (.int x1), none]) (st' := [.ref q0, .int v_9128, .int v_9124, .ref q0]) rfl ?_
  obtain ⟨v_9130, e_9131, e⟩ := Option.bind_eq_some_iff.mp e
  refine Rn.hp hT rfl rfl (gR_hp e_9131) ?_
  refine Rn.n hT 1 (pc' := 18) (L' := [some (.ref q0), some (.int x1), none]) (st' := [.int x1, .ref v_9130, .int v_9128, .int v_9124, .ref q0]) rfl ?_
  obtain ⟨v_9132, e_9133, e⟩ := Option.bind_eq_some_iff.mp e
  refine Rn.hp hT rfl rfl (aI_hp e_9133) ?_
  obtain ⟨_, e_9135, e⟩ := Option.bind_eq_some_iff.mp e
  obtain ⟨⟨v_9136, h_9137⟩, e_9134, e⟩ := Option.bind_eq_some_iff.mp e
  try dsimp only at e
  try dsimp only at e
  refine Rn.call hT rfl rfl rfl (Nat.le_of_ble_eq_true rfl) (rcv_v gX12_lawOf (by omega) e_9135) (rX12_lawOf (by omega) e_9134 ?_)
  show Rn d _ _ 22 [some (.ref q0), some (.int x1), none] [.int v_9136] h_9137 Q
  by_cases c_9138 : v_9136 = 0
  · rw [if_pos c_9138] at e
    refine Rn.bf hT rfl rfl rfl (decide_eq_false (fun z => z c_9138)) ?_
    refine Rn.n hT 2 (pc' := 30) (L' := [some (.ref q0), some (.int x1), none]) (st' := [.int (1 : Int32)]) rfl ?_
    exact Rn.weak (ll_s (ll_s (ll_n ll_e))) (rX12_comesDue_b30 hd hq e)
  · rw [if_neg c_9138] at e
    refine Rn.bt hT rfl rfl rfl (decide_eq_true c_9138) ?_
    refine Rn.n hT 1 (pc' := 30) (L' := [some (.ref q0), some (.int x1), none]) (st' := [.int (0 : Int32)]) rfl ?_
    exact Rn.weak (ll_s (ll_s (ll_n ll_e))) (rX12_comesDue_b30 hd hq e)
set_option maxRecDepth 10000 in
theorem hX12_followsSome : iv_Tb 316 tX12_followsSome := iv_tb_of (m := mX12_followsSome) rfl
set_option maxRecDepth 10000 in
theorem gX12_followsSome : PG.2 316 = some mX12_followsSome := iv_pi_of (t := tX12_followsSome) rfl (by decide)
def fX12_followsSome_l14 (N : Nat) (q0 : Nat) (x1 : Int32) (x2 : Int32) (kx : iv_H → Option (iv_H)) : Nat → iv_H → Int32 → Option (iv_H)
  | 0, _, _ => none
  | n + 1, h, x3 => (if (12 : Int32) ≤ x3 then (kx h) else ((gR h 12 67 q0).bind fun v_9179 => ((gR h 12 3 q0).bind fun v_9181 => ((aI h v_9181 x3).bind fun v_9183 => ((wI h v_9179 (((12 : Int32) * x2) + x3) v_9183).bind fun h_9185 => (fX12_followsSome_l14 N q0 x1 x2 kx n h_9185 (x3 + (1 : Int32))))))))
set_option maxRecDepth 10000 in
set_option maxHeartbeats 4000000 in
theorem rX12_followsSome_l14 {d N : Nat} (hd : 8 ≤ d) {q0 : Nat} {x1 : Int32} {x2 : Int32} {kx : iv_H → Option (iv_H)} {r : iv_H} {Q : Option Value → iv_H → Prop} (hk : ∀ (h : iv_H), kx h = some r → Rn d 316 none 43 [some (.ref q0), some (.int x1), some (.int x2), none] [] h Q) (hq : Q none r) : ∀ (n : Nat) (h : iv_H) (x3 : Int32), fX12_followsSome_l14 N q0 x1 x2 kx n h x3 = some r → Rn d 316 none 14 [some (.ref q0), some (.int x1), some (.int x2), some (.int x3)] [] h Q := by
  have hT := hX12_followsSome
  intro n
  induction n with
  | zero =>
    intro h x3 e
    rw [fX12_followsSome_l14] at e
    cases e
  | succ n ih =>
    intro h x3 e
    rw [fX12_followsSome_l14] at e
    refine Rn.n hT 2 (pc' := 17) (L' := [some (.ref q0), some (.int x1), some (.int x2), some (.int x3)]) (st' := [.int (12 : Int32), .int x3]) rfl ?_
    by_cases c_9178 : (12 : Int32) ≤ x3
    · rw [if_pos c_9178] at e
      refine Rn.bt hT rfl rfl rfl (decide_eq_true c_9178) ?_
      exact Rn.weak (ll_s (ll_s (ll_s (ll_n ll_e)))) (hk h e)
    · rw [if_neg c_9178] at e
      refine Rn.bf hT rfl rfl rfl (decide_eq_false c_9178) ?_
      refine Rn.n hT 1 (pc' := 21) (L' := [some (.ref q0), some (.int x1), some (.int x2), some (.int x3)]) (st' := [.ref q0]) rfl ?_
      obtain ⟨v_9179, e_9180, e⟩ := Option.bind_eq_some_iff.mp e
      refine Rn.hp hT rfl rfl (gR_hp e_9180) ?_
      refine Rn.n hT 6 (pc' := 31) (L' := [some (.ref q0), some (.int x1), some (.int x2), some (.int x3)]) (st' := [.ref q0, .int (((12 : Int32) * x2) + x3), .ref v_9179]) rfl ?_
      obtain ⟨v_9181, e_9182, e⟩ := Option.bind_eq_some_iff.mp e
      refine Rn.hp hT rfl rfl (gR_hp e_9182) ?_
      refine Rn.n hT 1 (pc' := 35) (L' := [some (.ref q0), some (.int x1), some (.int x2), some (.int x3)]) (st' := [.int x3, .ref v_9181, .int (((12 : Int32) * x2) + x3), .ref v_9179]) rfl ?_
      obtain ⟨v_9183, e_9184, e⟩ := Option.bind_eq_some_iff.mp e
      refine Rn.hp hT rfl rfl (aI_hp e_9184) ?_
      obtain ⟨h_9185, e_9186, e⟩ := Option.bind_eq_some_iff.mp e
      refine Rn.hp hT rfl rfl (wI_hp e_9186) ?_
      refine Rn.n hT 2 (pc' := 14) (L' := [some (.ref q0), some (.int x1), some (.int x2), some (.int (x3 + (1 : Int32)))]) (st' := []) rfl ?_
      exact Rn.weak (ll_s (ll_s (ll_s (ll_s ll_e)))) (ih h_9185 (x3 + (1 : Int32)) e)
def fX12_followsSome_b81 (N : Nat) (h : iv_H) (q0 : Nat) (x1 : Int32) (x2 : Int32)  (kb : iv_H → Int32 → Option (iv_H)) (kx : iv_H → Option (iv_H)) : Option (iv_H) := (kb h (x2 + (1 : Int32)))
set_option maxRecDepth 10000 in
set_option maxHeartbeats 4000000 in
theorem rX12_followsSome_b81 {d N : Nat} (hd : 8 ≤ d) {h : iv_H} {q0 : Nat} {x1 : Int32} {x2 : Int32}  {kb : iv_H → Int32 → Option (iv_H)} {kx : iv_H → Option (iv_H)} {r : iv_H} {Q : Option Value → iv_H → Prop} (hb : ∀ (h : iv_H) (w2 : Int32), kb h w2 = some r → Rn d 316 none 7 [some (.ref q0), some (.int x1), some (.int w2), none] [] h Q) (hk : ∀ (h : iv_H), kx h = some r → Rn d 316 none 87 [some (.ref q0), some (.int x1), none, none] [] h Q) (hq : Q none r) (e : fX12_followsSome_b81 N h q0 x1 x2  kb kx = some r) : Rn d 316 none 81 [some (.ref q0), some (.int x1), some (.int x2), none] [] h Q := by
  have hT := hX12_followsSome
  unfold fX12_followsSome_b81 at e
  refine Rn.n hT 2 (pc' := 7) (L' := [some (.ref q0), some (.int x1), some (.int (x2 + (1 : Int32))), none]) (st' := []) rfl ?_
  exact Rn.weak (ll_s (ll_s (ll_s (ll_n ll_e)))) (hb h (x2 + (1 : Int32)) e)
def fX12_followsSome_b66 (N : Nat) (h : iv_H) (q0 : Nat) (x1 : Int32) (x2 : Int32) (s0 : Int32) (s1 : Int32) (sq2 : Nat) (kb : iv_H → Int32 → Option (iv_H)) (kx : iv_H → Option (iv_H)) : Option (iv_H) := ((pV h 12 68 sq2 (.int (s1 + s0))).bind fun h_9187 => ((gR h_9187 12 1 q0).bind fun v_9189 => ((aI h_9187 v_9189 (6 : Int32)).bind fun v_9191 => ((wI h_9187 v_9189 (6 : Int32) (v_9191 + (1 : Int32))).bind fun h_9193 => (fX12_followsSome_b81 N h_9193 q0 x1 x2 kb kx)))))
set_option maxRecDepth 10000 in
set_option maxHeartbeats 4000000 in
theorem rX12_followsSome_b66 {d N : Nat} (hd : 8 ≤ d) {h : iv_H} {q0 : Nat} {x1 : Int32} {x2 : Int32} {s0 : Int32} {s1 : Int32} {sq2 : Nat} {kb : iv_H → Int32 → Option (iv_H)} {kx : iv_H → Option (iv_H)} {r : iv_H} {Q : Option Value → iv_H → Prop} (hb : ∀ (h : iv_H) (w2 : Int32), kb h w2 = some r → Rn d 316 none 7 [some (.ref q0), some (.int x1), some (.int w2), none] [] h Q) (hk : ∀ (h : iv_H), kx h = some r → Rn d 316 none 87 [some (.ref q0), some (.int x1), none, none] [] h Q) (hq : Q none r) (e : fX12_followsSome_b66 N h q0 x1 x2 s0 s1 sq2 kb kx = some r) : Rn d 316 none 66 [some (.ref q0), some (.int x1), some (.int x2), none] [.int s0, .int s1, .ref sq2] h Q := by
  have hT := hX12_followsSome
  unfold fX12_followsSome_b66 at e
  refine Rn.n hT 1 (pc' := 67) (L' := [some (.ref q0), some (.int x1), some (.int x2), none]) (st' := [.int (s1 + s0), .ref sq2]) rfl ?_
  obtain ⟨h_9187, e_9188, e⟩ := Option.bind_eq_some_iff.mp e
  refine Rn.hp hT rfl rfl (pV_hp rfl e_9188) ?_
  refine Rn.n hT 1 (pc' := 71) (L' := [some (.ref q0), some (.int x1), some (.int x2), none]) (st' := [.ref q0]) rfl ?_
  obtain ⟨v_9189, e_9190, e⟩ := Option.bind_eq_some_iff.mp e
  refine Rn.hp hT rfl rfl (gR_hp e_9190) ?_
  refine Rn.n hT 2 (pc' := 77) (L' := [some (.ref q0), some (.int x1), some (.int x2), none]) (st' := [.int (6 : Int32), .ref v_9189, .int (6 : Int32), .ref v_9189]) rfl ?_
  obtain ⟨v_9191, e_9192, e⟩ := Option.bind_eq_some_iff.mp e
  refine Rn.hp hT rfl rfl (aI_hp e_9192) ?_
  refine Rn.n hT 2 (pc' := 80) (L' := [some (.ref q0), some (.int x1), some (.int x2), none]) (st' := [.int (v_9191 + (1 : Int32)), .int (6 : Int32), .ref v_9189]) rfl ?_
  obtain ⟨h_9193, e_9194, e⟩ := Option.bind_eq_some_iff.mp e
  refine Rn.hp hT rfl rfl (wI_hp e_9194) ?_
  exact Rn.weak (ll_s (ll_s (ll_s (ll_n ll_e)))) (rX12_followsSome_b81 hd hb hk hq e)
def fX12_followsSome_l7 (N : Nat) (q0 : Nat) (x1 : Int32) (kx : iv_H → Option (iv_H)) : Nat → iv_H → Int32 → Option (iv_H)
  | 0, _, _ => none
  | n + 1, h, x2 => (if x1 < x2 then (kx h) else (fX12_followsSome_l14 N q0 x1 x2 (fun (h_9168 : iv_H) => (if x1 ≤ x2 then (fX12_followsSome_b81 N h_9168 q0 x1 x2 (fX12_followsSome_l7 N q0 x1 kx n) kx) else ((gI h_9168 12 68 q0).bind fun v_9170 => ((cko h_9168 q0 12).bind fun _ => (fX12_comesDue N h_9168 q0 x2).bind fun p_9177 => (fun (v_9174 : Int32) (h_9175 : iv_H) => (if v_9174 = 0 then (fX12_followsSome_b66 N h_9175 q0 x1 x2 (1 : Int32) v_9170 q0 (fX12_followsSome_l7 N q0 x1 kx n) kx) else (fX12_followsSome_b66 N h_9175 q0 x1 x2 (0 : Int32) v_9170 q0 (fX12_followsSome_l7 N q0 x1 kx n) kx))) p_9177.1 p_9177.2)))) N h (0 : Int32)))
set_option maxRecDepth 10000 in
set_option maxHeartbeats 4000000 in
theorem rX12_followsSome_l7 {d N : Nat} (hd : 8 ≤ d) {q0 : Nat} {x1 : Int32} {kx : iv_H → Option (iv_H)} {r : iv_H} {Q : Option Value → iv_H → Prop} (hk : ∀ (h : iv_H), kx h = some r → Rn d 316 none 87 [some (.ref q0), some (.int x1), none, none] [] h Q) (hq : Q none r) : ∀ (n : Nat) (h : iv_H) (x2 : Int32), fX12_followsSome_l7 N q0 x1 kx n h x2 = some r → Rn d 316 none 7 [some (.ref q0), some (.int x1), some (.int x2), none] [] h Q := by
  have hT := hX12_followsSome
  intro n
  induction n with
  | zero =>
    intro h x2 e
    rw [fX12_followsSome_l7] at e
    cases e
  | succ n ih =>
    intro h x2 e
    rw [fX12_followsSome_l7] at e
    refine Rn.n hT 2 (pc' := 9) (L' := [some (.ref q0), some (.int x1), some (.int x2), none]) (st' := [.int x1, .int x2]) rfl ?_
    by_cases c_9167 : x1 < x2
    · rw [if_pos c_9167] at e
      refine Rn.bt hT rfl rfl rfl (decide_eq_true c_9167) ?_
      exact Rn.weak (ll_s (ll_s (ll_n (ll_n ll_e)))) (hk h e)
    · rw [if_neg c_9167] at e
      refine Rn.bf hT rfl rfl rfl (decide_eq_false c_9167) ?_
      refine Rn.n hT 2 (pc' := 14) (L' := [some (.ref q0), some (.int x1), some (.int x2), some (.int (0 : Int32))]) (st' := []) rfl ?_
      refine Rn.weak (ll_s (ll_s (ll_s (ll_s ll_e)))) (rX12_followsSome_l14 hd (fun h_9168 e => ?_) hq N h (0 : Int32) e)
      try dsimp only at e
      refine Rn.n hT 2 (pc' := 45) (L' := [some (.ref q0), some (.int x1), some (.int x2), none]) (st' := [.int x1, .int x2]) rfl ?_
      by_cases c_9169 : x1 ≤ x2
      · rw [if_pos c_9169] at e
        refine Rn.bt hT rfl rfl rfl (decide_eq_true c_9169) ?_
        exact Rn.weak (ll_s (ll_s (ll_s (ll_n ll_e)))) (rX12_followsSome_b81 hd ih hk hq e)
      · rw [if_neg c_9169] at e
        refine Rn.bf hT rfl rfl rfl (decide_eq_false c_9169) ?_
        refine Rn.n hT 2 (pc' := 50) (L' := [some (.ref q0), some (.int x1), some (.int x2), none]) (st' := [.ref q0, .ref q0]) rfl ?_
        obtain ⟨v_9170, e_9171, e⟩ := Option.bind_eq_some_iff.mp e
        refine Rn.hp hT rfl rfl (gI_hp e_9171) ?_
        refine Rn.n hT 2 (pc' := 55) (L' := [some (.ref q0), some (.int x1), some (.int x2), none]) (st' := [.int x2, .ref q0, .int v_9170, .ref q0]) rfl ?_
        obtain ⟨_, e_9173, e⟩ := Option.bind_eq_some_iff.mp e
        obtain ⟨⟨v_9174, h_9175⟩, e_9172, e⟩ := Option.bind_eq_some_iff.mp e
        try dsimp only at e
        try dsimp only at e
        refine Rn.call hT rfl rfl rfl (Nat.le_of_ble_eq_true rfl) (rcv_v gX12_comesDue (by omega) e_9173) (rX12_comesDue (by omega) e_9172 ?_)
        show Rn d _ _ 58 [some (.ref q0), some (.int x1), some (.int x2), none] [.int v_9174, .int v_9170, .ref q0] h_9175 Q
        by_cases c_9176 : v_9174 = 0
        · rw [if_pos c_9176] at e
          refine Rn.bt hT rfl rfl rfl (decide_eq_true c_9176) ?_
          refine Rn.n hT 1 (pc' := 66) (L' := [some (.ref q0), some (.int x1), some (.int x2), none]) (st' := [.int (1 : Int32), .int v_9170, .ref q0]) rfl ?_
          exact Rn.weak (ll_s (ll_s (ll_s (ll_n ll_e)))) (rX12_followsSome_b66 hd ih hk hq e)
        · rw [if_neg c_9176] at e
          refine Rn.bf hT rfl rfl rfl (decide_eq_false c_9176) ?_
          refine Rn.n hT 2 (pc' := 66) (L' := [some (.ref q0), some (.int x1), some (.int x2), none]) (st' := [.int (0 : Int32), .int v_9170, .ref q0]) rfl ?_
          exact Rn.weak (ll_s (ll_s (ll_s (ll_n ll_e)))) (rX12_followsSome_b66 hd ih hk hq e)
def fX12_followsSome (N : Nat) (h : iv_H) (q0 : Nat) (x1 : Int32) : Option (iv_H) := ((pV h 12 68 q0 (.int (0 : Int32))).bind fun h_9158 => (fX12_followsSome_l7 N q0 x1 (fun (h_9160 : iv_H) => ((gR h_9160 12 1 q0).bind fun v_9161 => ((aI h_9160 v_9161 (6 : Int32)).bind fun v_9163 => ((wI h_9160 v_9161 (6 : Int32) (v_9163 - x1)).bind fun h_9165 => some h_9165)))) N h_9158 (0 : Int32)))
set_option maxRecDepth 10000 in
set_option maxHeartbeats 4000000 in
theorem rX12_followsSome {d N : Nat} (hd : 9 ≤ d) {h : iv_H} {q0 : Nat} {x1 : Int32} {r : iv_H} {Q : Option Value → iv_H → Prop} (e : fX12_followsSome N h q0 x1 = some r) (hq : Q none r) : Cl d 316 [.ref q0, .int x1] h Q := by
  obtain ⟨d, rfl⟩ : ∃ k, d = k + 1 := ⟨d - 1, by omega⟩
  have hd : 8 ≤ d := by omega
  have hT := hX12_followsSome
  unfold fX12_followsSome at e
  refine Cl.into (by decide) gX12_followsSome rfl ?_
  show Rn d 316 none 0 [some (.ref q0), some (.int x1), none, none] [] h Q
  refine Rn.n hT 2 (pc' := 2) (L' := [some (.ref q0), some (.int x1), none, none]) (st' := [.int (0 : Int32), .ref q0]) rfl ?_
  obtain ⟨h_9158, e_9159, e⟩ := Option.bind_eq_some_iff.mp e
  refine Rn.hp hT rfl rfl (pV_hp rfl e_9159) ?_
  refine Rn.n hT 2 (pc' := 7) (L' := [some (.ref q0), some (.int x1), some (.int (0 : Int32)), none]) (st' := []) rfl ?_
  refine Rn.weak (ll_s (ll_s (ll_s (ll_n ll_e)))) (rX12_followsSome_l7 hd (fun h_9160 e => ?_) hq N h_9158 (0 : Int32) e)
  try dsimp only at e
  refine Rn.n hT 1 (pc' := 88) (L' := [some (.ref q0), some (.int x1), none, none]) (st' := [.ref q0]) rfl ?_
  obtain ⟨v_9161, e_9162, e⟩ := Option.bind_eq_some_iff.mp e
  refine Rn.hp hT rfl rfl (gR_hp e_9162) ?_
  refine Rn.n hT 2 (pc' := 94) (L' := [some (.ref q0), some (.int x1), none, none]) (st' := [.int (6 : Int32), .ref v_9161, .int (6 : Int32), .ref v_9161]) rfl ?_
  obtain ⟨v_9163, e_9164, e⟩ := Option.bind_eq_some_iff.mp e
  refine Rn.hp hT rfl rfl (aI_hp e_9164) ?_
  refine Rn.n hT 2 (pc' := 97) (L' := [some (.ref q0), some (.int x1), none, none]) (st' := [.int (v_9163 - x1), .int (6 : Int32), .ref v_9161]) rfl ?_
  obtain ⟨h_9165, e_9166, e⟩ := Option.bind_eq_some_iff.mp e
  refine Rn.hp hT rfl rfl (wI_hp e_9166) ?_
  obtain rfl := Option.some.inj e
  exact Rn.ret hT rfl rfl rfl hq
set_option maxRecDepth 10000 in
theorem hX12_would : iv_Tb 317 tX12_would := iv_tb_of (m := mX12_would) rfl
set_option maxRecDepth 10000 in
theorem gX12_would : PG.2 317 = some mX12_would := iv_pi_of (t := tX12_would) rfl (by decide)
def fX12_would_b37 (N : Nat) (h : iv_H)   : Option (Int32 × iv_H) := (some ((-1 : Int32), h))
set_option maxRecDepth 10000 in
set_option maxHeartbeats 4000000 in
theorem rX12_would_b37 {d N : Nat} (hd : 9 ≤ d) {h : iv_H}   {r : Int32 × iv_H} {Q : Option Value → iv_H → Prop} (hq : Q (some (.int r.1)) r.2) (e : fX12_would_b37 N h   = some r) : Rn d 317 (some .int) 37 [none, none, none, none, none] [] h Q := by
  have hT := hX12_would
  unfold fX12_would_b37 at e
  refine Rn.n hT 1 (pc' := 38) (L' := [none, none, none, none, none]) (st' := [.int (-1 : Int32)]) rfl ?_
  obtain rfl := Option.some.inj e
  exact Rn.ret hT rfl rfl rfl hq
def fX12_would_b84 (N : Nat) (h : iv_H) (q0 : Nat) (s0 : Int32) : Option (Int32 × iv_H) := ((gR h 12 55 q0).bind fun v_9231 => ((cko h q0 12).bind fun _ => (fX12_laysFloor N h q0 v_9231 (0 : Int32)).bind fun h_9236 => (some (s0, h_9236))))
set_option maxRecDepth 10000 in
set_option maxHeartbeats 4000000 in
theorem rX12_would_b84 {d N : Nat} (hd : 9 ≤ d) {h : iv_H} {q0 : Nat} {s0 : Int32} {r : Int32 × iv_H} {Q : Option Value → iv_H → Prop} (hq : Q (some (.int r.1)) r.2) (e : fX12_would_b84 N h q0 s0 = some r) : Rn d 317 (some .int) 84 [some (.ref q0), none, none, none, none] [.int s0] h Q := by
  have hT := hX12_would
  unfold fX12_would_b84 at e
  refine Rn.n hT 3 (pc' := 88) (L' := [some (.ref q0), none, none, none, some (.int s0)]) (st' := [.ref q0, .ref q0]) rfl ?_
  obtain ⟨v_9231, e_9232, e⟩ := Option.bind_eq_some_iff.mp e
  refine Rn.hp hT rfl rfl (gR_hp e_9232) ?_
  refine Rn.n hT 1 (pc' := 92) (L' := [some (.ref q0), none, none, none, some (.int s0)]) (st' := [.int (0 : Int32), .ref v_9231, .ref q0]) rfl ?_
  obtain ⟨_, e_9234, e⟩ := Option.bind_eq_some_iff.mp e
  obtain ⟨h_9236, e_9233, e⟩ := Option.bind_eq_some_iff.mp e
  refine Rn.call hT rfl rfl rfl (Nat.le_of_ble_eq_true rfl) (rcv_v gX12_laysFloor (by omega) e_9234) (rX12_laysFloor (by omega) e_9233 ?_)
  show Rn d _ _ 95 [some (.ref q0), none, none, none, some (.int s0)] [] h_9236 Q
  refine Rn.n hT 1 (pc' := 97) (L' := [some (.ref q0), none, none, none, some (.int s0)]) (st' := [.int s0]) rfl ?_
  obtain rfl := Option.some.inj e
  exact Rn.ret hT rfl rfl rfl hq
def fX12_would (N : Nat) (h : iv_H) (q0 : Nat) (x1 : Int32) (x2 : Int32) (x3 : Int32) : Option (Int32 × iv_H) := ((cko h q0 12).bind fun _ => (fX12_isRoom N h q0 x1).bind fun v_9197 => (if v_9197 = 0 then (fX12_would_b37 N h) else ((gR h 12 1 q0).bind fun v_9199 => ((aI h v_9199 (8 : Int32)).bind fun v_9201 => ((fX12_in N h ((x2).toInt64) (0 : Int64) ((v_9201).toInt64)).bind fun v_9204 => (if v_9204 = 0 then (fX12_would_b37 N h) else ((fX12_in N h ((x3).toInt64) (0 : Int64) (2 : Int64)).bind fun v_9207 => (if v_9207 = 0 then (fX12_would_b37 N h) else ((gR h 12 55 q0).bind fun v_9209 => ((cko h q0 12).bind fun _ => (fX12_fillsFloor N h q0 v_9209 (0 : Int32)).bind fun h_9214 => ((cko h_9214 q0 12).bind fun _ => (fX12_followsSome N h_9214 q0 x2).bind fun h_9218 => (if x3 = 0 then ((gR h_9218 12 3 q0).bind fun v_9227 => ((aI h_9218 v_9227 x1).bind fun v_9229 => (fX12_would_b84 N h_9218 q0 v_9229))) else (if x3 = (1 : Int32) then ((gR h_9218 12 4 q0).bind fun v_9223 => ((aI h_9218 v_9223 x1).bind fun v_9225 => (fX12_would_b84 N h_9218 q0 v_9225))) else ((gI h_9218 12 68 q0).bind fun v_9221 => (fX12_would_b84 N h_9218 q0 v_9221)))))))))))))))
set_option maxRecDepth 10000 in
set_option maxHeartbeats 4000000 in
theorem rX12_would {d N : Nat} (hd : 10 ≤ d) {h : iv_H} {q0 : Nat} {x1 : Int32} {x2 : Int32} {x3 : Int32} {r : Int32 × iv_H} {Q : Option Value → iv_H → Prop} (e : fX12_would N h q0 x1 x2 x3 = some r) (hq : Q (some (.int r.1)) r.2) : Cl d 317 [.ref q0, .int x1, .int x2, .int x3] h Q := by
  obtain ⟨d, rfl⟩ : ∃ k, d = k + 1 := ⟨d - 1, by omega⟩
  have hd : 9 ≤ d := by omega
  have hT := hX12_would
  unfold fX12_would at e
  refine Cl.into (by decide) gX12_would rfl ?_
  show Rn d 317 (some .int) 0 [some (.ref q0), some (.int x1), some (.int x2), some (.int x3), none] [] h Q
  refine Rn.n hT 2 (pc' := 2) (L' := [some (.ref q0), some (.int x1), some (.int x2), some (.int x3), none]) (st' := [.int x1, .ref q0]) rfl ?_
  obtain ⟨_, e_9196, e⟩ := Option.bind_eq_some_iff.mp e
  obtain ⟨v_9197, e_9195, e⟩ := Option.bind_eq_some_iff.mp e
  refine Rn.call hT rfl rfl rfl (Nat.le_of_ble_eq_true rfl) (rcv_v gX12_isRoom (by omega) e_9196) (rX12_isRoom (by omega) e_9195 ?_)
  show Rn d _ _ 5 [some (.ref q0), some (.int x1), some (.int x2), some (.int x3), none] [.int v_9197] h Q
  by_cases c_9198 : v_9197 = 0
  · rw [if_pos c_9198] at e
    refine Rn.bt hT rfl rfl rfl (decide_eq_true c_9198) ?_
    exact Rn.weak (ll_n (ll_n (ll_n (ll_n (ll_n ll_e))))) (rX12_would_b37 hd hq e)
  · rw [if_neg c_9198] at e
    refine Rn.bf hT rfl rfl rfl (decide_eq_false c_9198) ?_
    refine Rn.n hT 4 (pc' := 12) (L' := [some (.ref q0), some (.int x1), some (.int x2), some (.int x3), none]) (st' := [.ref q0, .long (0 : Int64), .long ((x2).toInt64)]) rfl ?_
    obtain ⟨v_9199, e_9200, e⟩ := Option.bind_eq_some_iff.mp e
    refine Rn.hp hT rfl rfl (gR_hp e_9200) ?_
    refine Rn.n hT 1 (pc' := 17) (L' := [some (.ref q0), some (.int x1), some (.int x2), some (.int x3), none]) (st' := [.int (8 : Int32), .ref v_9199, .long (0 : Int64), .long ((x2).toInt64)]) rfl ?_
    obtain ⟨v_9201, e_9202, e⟩ := Option.bind_eq_some_iff.mp e
    refine Rn.hp hT rfl rfl (aI_hp e_9202) ?_
    refine Rn.n hT 1 (pc' := 19) (L' := [some (.ref q0), some (.int x1), some (.int x2), some (.int x3), none]) (st' := [.long ((v_9201).toInt64), .long (0 : Int64), .long ((x2).toInt64)]) rfl ?_
    obtain ⟨v_9204, e_9203, e⟩ := Option.bind_eq_some_iff.mp e
    refine Rn.call hT rfl rfl rfl (Nat.le_of_ble_eq_true rfl) rfl (rX12_in (by omega) e_9203 ?_)
    show Rn d _ _ 22 [some (.ref q0), some (.int x1), some (.int x2), some (.int x3), none] [.int v_9204] h Q
    by_cases c_9205 : v_9204 = 0
    · rw [if_pos c_9205] at e
      refine Rn.bt hT rfl rfl rfl (decide_eq_true c_9205) ?_
      exact Rn.weak (ll_n (ll_n (ll_n (ll_n (ll_n ll_e))))) (rX12_would_b37 hd hq e)
    · rw [if_neg c_9205] at e
      refine Rn.bf hT rfl rfl rfl (decide_eq_false c_9205) ?_
      refine Rn.n hT 4 (pc' := 31) (L' := [some (.ref q0), some (.int x1), some (.int x2), some (.int x3), none]) (st' := [.long (2 : Int64), .long (0 : Int64), .long ((x3).toInt64)]) rfl ?_
      obtain ⟨v_9207, e_9206, e⟩ := Option.bind_eq_some_iff.mp e
      refine Rn.call hT rfl rfl rfl (Nat.le_of_ble_eq_true rfl) rfl (rX12_in (by omega) e_9206 ?_)
      show Rn d _ _ 34 [some (.ref q0), some (.int x1), some (.int x2), some (.int x3), none] [.int v_9207] h Q
      by_cases c_9208 : v_9207 = 0
      · rw [if_pos c_9208] at e
        refine Rn.bf hT rfl rfl rfl (decide_eq_false (fun z => z c_9208)) ?_
        exact Rn.weak (ll_n (ll_n (ll_n (ll_n (ll_n ll_e))))) (rX12_would_b37 hd hq e)
      · rw [if_neg c_9208] at e
        refine Rn.bt hT rfl rfl rfl (decide_eq_true c_9208) ?_
        refine Rn.n hT 2 (pc' := 41) (L' := [some (.ref q0), some (.int x1), some (.int x2), some (.int x3), none]) (st' := [.ref q0, .ref q0]) rfl ?_
        obtain ⟨v_9209, e_9210, e⟩ := Option.bind_eq_some_iff.mp e
        refine Rn.hp hT rfl rfl (gR_hp e_9210) ?_
        refine Rn.n hT 1 (pc' := 45) (L' := [some (.ref q0), some (.int x1), some (.int x2), some (.int x3), none]) (st' := [.int (0 : Int32), .ref v_9209, .ref q0]) rfl ?_
        obtain ⟨_, e_9212, e⟩ := Option.bind_eq_some_iff.mp e
        obtain ⟨h_9214, e_9211, e⟩ := Option.bind_eq_some_iff.mp e
        refine Rn.call hT rfl rfl rfl (Nat.le_of_ble_eq_true rfl) (rcv_v gX12_fillsFloor (by omega) e_9212) (rX12_fillsFloor (by omega) e_9211 ?_)
        show Rn d _ _ 48 [some (.ref q0), some (.int x1), some (.int x2), some (.int x3), none] [] h_9214 Q
        refine Rn.n hT 2 (pc' := 50) (L' := [some (.ref q0), some (.int x1), some (.int x2), some (.int x3), none]) (st' := [.int x2, .ref q0]) rfl ?_
        obtain ⟨_, e_9216, e⟩ := Option.bind_eq_some_iff.mp e
        obtain ⟨h_9218, e_9215, e⟩ := Option.bind_eq_some_iff.mp e
        refine Rn.call hT rfl rfl rfl (Nat.le_of_ble_eq_true rfl) (rcv_v gX12_followsSome (by omega) e_9216) (rX12_followsSome (by omega) e_9215 ?_)
        show Rn d _ _ 53 [some (.ref q0), some (.int x1), some (.int x2), some (.int x3), none] [] h_9218 Q
        refine Rn.n hT 1 (pc' := 54) (L' := [some (.ref q0), some (.int x1), some (.int x2), some (.int x3), none]) (st' := [.int x3]) rfl ?_
        by_cases c_9219 : x3 = 0
        · rw [if_pos c_9219] at e
          refine Rn.bf hT rfl rfl rfl (decide_eq_false (fun z => z c_9219)) ?_
          refine Rn.n hT 1 (pc' := 58) (L' := [some (.ref q0), some (.int x1), some (.int x2), some (.int x3), none]) (st' := [.ref q0]) rfl ?_
          obtain ⟨v_9227, e_9228, e⟩ := Option.bind_eq_some_iff.mp e
          refine Rn.hp hT rfl rfl (gR_hp e_9228) ?_
          refine Rn.n hT 1 (pc' := 62) (L' := [some (.ref q0), some (.int x1), some (.int x2), some (.int x3), none]) (st' := [.int x1, .ref v_9227]) rfl ?_
          obtain ⟨v_9229, e_9230, e⟩ := Option.bind_eq_some_iff.mp e
          refine Rn.hp hT rfl rfl (aI_hp e_9230) ?_
          refine Rn.n hT 1 (pc' := 84) (L' := [some (.ref q0), some (.int x1), some (.int x2), some (.int x3), none]) (st' := [.int v_9229]) rfl ?_
          exact Rn.weak (ll_s (ll_n (ll_n (ll_n (ll_n ll_e))))) (rX12_would_b84 hd hq e)
        · rw [if_neg c_9219] at e
          refine Rn.bt hT rfl rfl rfl (decide_eq_true c_9219) ?_
          refine Rn.n hT 2 (pc' := 68) (L' := [some (.ref q0), some (.int x1), some (.int x2), some (.int x3), none]) (st' := [.int (1 : Int32), .int x3]) rfl ?_
          by_cases c_9220 : x3 = (1 : Int32)
          · rw [if_pos c_9220] at e
            refine Rn.bf hT rfl rfl rfl (decide_eq_false (fun z => z c_9220)) ?_
            refine Rn.n hT 1 (pc' := 72) (L' := [some (.ref q0), some (.int x1), some (.int x2), some (.int x3), none]) (st' := [.ref q0]) rfl ?_
            obtain ⟨v_9223, e_9224, e⟩ := Option.bind_eq_some_iff.mp e
            refine Rn.hp hT rfl rfl (gR_hp e_9224) ?_
            refine Rn.n hT 1 (pc' := 76) (L' := [some (.ref q0), some (.int x1), some (.int x2), some (.int x3), none]) (st' := [.int x1, .ref v_9223]) rfl ?_
            obtain ⟨v_9225, e_9226, e⟩ := Option.bind_eq_some_iff.mp e
            refine Rn.hp hT rfl rfl (aI_hp e_9226) ?_
            refine Rn.n hT 1 (pc' := 84) (L' := [some (.ref q0), some (.int x1), some (.int x2), some (.int x3), none]) (st' := [.int v_9225]) rfl ?_
            exact Rn.weak (ll_s (ll_n (ll_n (ll_n (ll_n ll_e))))) (rX12_would_b84 hd hq e)
          · rw [if_neg c_9220] at e
            refine Rn.bt hT rfl rfl rfl (decide_eq_true c_9220) ?_
            refine Rn.n hT 1 (pc' := 81) (L' := [some (.ref q0), some (.int x1), some (.int x2), some (.int x3), none]) (st' := [.ref q0]) rfl ?_
            obtain ⟨v_9221, e_9222, e⟩ := Option.bind_eq_some_iff.mp e
            refine Rn.hp hT rfl rfl (gI_hp e_9222) ?_
            exact Rn.weak (ll_s (ll_n (ll_n (ll_n (ll_n ll_e))))) (rX12_would_b84 hd hq e)
set_option maxRecDepth 10000 in
theorem hX12_follow : iv_Tb 318 tX12_follow := iv_tb_of (m := mX12_follow) rfl
set_option maxRecDepth 10000 in
theorem gX12_follow : PG.2 318 = some mX12_follow := iv_pi_of (t := tX12_follow) rfl (by decide)
def fX12_follow_b95 (N : Nat) (h : iv_H) (q0 : Nat) (x2 : Int32) (s0 : Int32) (s1 : Int32) (kb : iv_H → Int32 → Int32 → Option (Int32 × iv_H)) (kx : iv_H → Int32 → Option (Int32 × iv_H)) : Option (Int32 × iv_H) := (kb h (s1 + s0) (x2 + (1 : Int32)))
set_option maxRecDepth 10000 in
set_option maxHeartbeats 4000000 in
theorem rX12_follow_b95 {d N : Nat} (hd : 7 ≤ d) {h : iv_H} {q0 : Nat} {x2 : Int32} {s0 : Int32} {s1 : Int32} {kb : iv_H → Int32 → Int32 → Option (Int32 × iv_H)} {kx : iv_H → Int32 → Option (Int32 × iv_H)} {r : Int32 × iv_H} {Q : Option Value → iv_H → Prop} (hb : ∀ (h : iv_H) (w1 : Int32) (w2 : Int32), kb h w1 w2 = some r → Rn d 318 (some .int) 13 [some (.ref q0), some (.int w1), some (.int w2), none] [] h Q) (hk : ∀ (h : iv_H) (w1 : Int32), kx h w1 = some r → Rn d 318 (some .int) 103 [some (.ref q0), some (.int w1), none, none] [] h Q) (hq : Q (some (.int r.1)) r.2) (e : fX12_follow_b95 N h q0 x2 s0 s1 kb kx = some r) : Rn d 318 (some .int) 95 [some (.ref q0), none, some (.int x2), none] [.int s0, .int s1] h Q := by
  have hT := hX12_follow
  unfold fX12_follow_b95 at e
  refine Rn.n hT 4 (pc' := 13) (L' := [some (.ref q0), some (.int (s1 + s0)), some (.int (x2 + (1 : Int32))), none]) (st' := []) rfl ?_
  exact Rn.weak (ll_s (ll_s (ll_s (ll_n ll_e)))) (hb h (s1 + s0) (x2 + (1 : Int32)) e)
def fX12_follow_b85 (N : Nat) (h : iv_H) (q0 : Nat) (x1 : Int32) (x2 : Int32) (x3 : Int32)  (kb : iv_H → Int32 → Int32 → Option (Int32 × iv_H)) (kx : iv_H → Int32 → Option (Int32 × iv_H)) : Option (Int32 × iv_H) := (if x3 = 0 then (fX12_follow_b95 N h q0 x2 (1 : Int32) x1 kb kx) else (fX12_follow_b95 N h q0 x2 (0 : Int32) x1 kb kx))
set_option maxRecDepth 10000 in
set_option maxHeartbeats 4000000 in
theorem rX12_follow_b85 {d N : Nat} (hd : 7 ≤ d) {h : iv_H} {q0 : Nat} {x1 : Int32} {x2 : Int32} {x3 : Int32}  {kb : iv_H → Int32 → Int32 → Option (Int32 × iv_H)} {kx : iv_H → Int32 → Option (Int32 × iv_H)} {r : Int32 × iv_H} {Q : Option Value → iv_H → Prop} (hb : ∀ (h : iv_H) (w1 : Int32) (w2 : Int32), kb h w1 w2 = some r → Rn d 318 (some .int) 13 [some (.ref q0), some (.int w1), some (.int w2), none] [] h Q) (hk : ∀ (h : iv_H) (w1 : Int32), kx h w1 = some r → Rn d 318 (some .int) 103 [some (.ref q0), some (.int w1), none, none] [] h Q) (hq : Q (some (.int r.1)) r.2) (e : fX12_follow_b85 N h q0 x1 x2 x3  kb kx = some r) : Rn d 318 (some .int) 85 [some (.ref q0), some (.int x1), some (.int x2), some (.int x3)] [] h Q := by
  have hT := hX12_follow
  unfold fX12_follow_b85 at e
  refine Rn.n hT 2 (pc' := 87) (L' := [some (.ref q0), some (.int x1), some (.int x2), some (.int x3)]) (st' := [.int x3, .int x1]) rfl ?_
  by_cases c_9291 : x3 = 0
  · rw [if_pos c_9291] at e
    refine Rn.bt hT rfl rfl rfl (decide_eq_true c_9291) ?_
    refine Rn.n hT 1 (pc' := 95) (L' := [some (.ref q0), some (.int x1), some (.int x2), some (.int x3)]) (st' := [.int (1 : Int32), .int x1]) rfl ?_
    exact Rn.weak (ll_s (ll_n (ll_s (ll_n ll_e)))) (rX12_follow_b95 hd hb hk hq e)
  · rw [if_neg c_9291] at e
    refine Rn.bf hT rfl rfl rfl (decide_eq_false c_9291) ?_
    refine Rn.n hT 2 (pc' := 95) (L' := [some (.ref q0), some (.int x1), some (.int x2), some (.int x3)]) (st' := [.int (0 : Int32), .int x1]) rfl ?_
    exact Rn.weak (ll_s (ll_n (ll_s (ll_n ll_e)))) (rX12_follow_b95 hd hb hk hq e)
def fX12_follow_b54 (N : Nat) (h : iv_H) (q0 : Nat) (x1 : Int32) (x2 : Int32) (s0 : Int32) (kb : iv_H → Int32 → Int32 → Option (Int32 × iv_H)) (kx : iv_H → Int32 → Option (Int32 × iv_H)) : Option (Int32 × iv_H) := ((cko h q0 12).bind fun _ => (fX12_keepsNight N h q0).bind fun h_9273 => (if s0 = 0 then (fX12_follow_b85 N h_9273 q0 x1 x2 s0 kb kx) else ((gR h_9273 12 11 q0).bind fun v_9275 => ((aI h_9273 v_9275 x2).bind fun v_9277 => ((gR h_9273 12 12 q0).bind fun v_9279 => ((aI h_9273 v_9279 x2).bind fun v_9281 => ((gR h_9273 12 13 q0).bind fun v_9283 => ((aI h_9273 v_9283 x2).bind fun v_9285 => ((cko h_9273 q0 12).bind fun _ => (fX12_walks N h_9273 q0 v_9277 v_9281 v_9285).bind fun h_9290 => (fX12_follow_b85 N h_9290 q0 x1 x2 s0 kb kx))))))))))
set_option maxRecDepth 10000 in
set_option maxHeartbeats 4000000 in
theorem rX12_follow_b54 {d N : Nat} (hd : 7 ≤ d) {h : iv_H} {q0 : Nat} {x1 : Int32} {x2 : Int32} {s0 : Int32} {kb : iv_H → Int32 → Int32 → Option (Int32 × iv_H)} {kx : iv_H → Int32 → Option (Int32 × iv_H)} {r : Int32 × iv_H} {Q : Option Value → iv_H → Prop} (hb : ∀ (h : iv_H) (w1 : Int32) (w2 : Int32), kb h w1 w2 = some r → Rn d 318 (some .int) 13 [some (.ref q0), some (.int w1), some (.int w2), none] [] h Q) (hk : ∀ (h : iv_H) (w1 : Int32), kx h w1 = some r → Rn d 318 (some .int) 103 [some (.ref q0), some (.int w1), none, none] [] h Q) (hq : Q (some (.int r.1)) r.2) (e : fX12_follow_b54 N h q0 x1 x2 s0 kb kx = some r) : Rn d 318 (some .int) 54 [some (.ref q0), some (.int x1), some (.int x2), none] [.int s0] h Q := by
  have hT := hX12_follow
  unfold fX12_follow_b54 at e
  refine Rn.n hT 2 (pc' := 56) (L' := [some (.ref q0), some (.int x1), some (.int x2), some (.int s0)]) (st' := [.ref q0]) rfl ?_
  obtain ⟨_, e_9271, e⟩ := Option.bind_eq_some_iff.mp e
  obtain ⟨h_9273, e_9270, e⟩ := Option.bind_eq_some_iff.mp e
  refine Rn.call hT rfl rfl rfl (Nat.le_of_ble_eq_true rfl) (rcv_v gX12_keepsNight (by omega) e_9271) (rX12_keepsNight (by omega) e_9270 ?_)
  show Rn d _ _ 59 [some (.ref q0), some (.int x1), some (.int x2), some (.int s0)] [] h_9273 Q
  refine Rn.n hT 1 (pc' := 60) (L' := [some (.ref q0), some (.int x1), some (.int x2), some (.int s0)]) (st' := [.int s0]) rfl ?_
  by_cases c_9274 : s0 = 0
  · rw [if_pos c_9274] at e
    refine Rn.bt hT rfl rfl rfl (decide_eq_true c_9274) ?_
    exact Rn.weak (ll_s (ll_s (ll_s (ll_s ll_e)))) (rX12_follow_b85 hd hb hk hq e)
  · rw [if_neg c_9274] at e
    refine Rn.bf hT rfl rfl rfl (decide_eq_false c_9274) ?_
    refine Rn.n hT 2 (pc' := 65) (L' := [some (.ref q0), some (.int x1), some (.int x2), some (.int s0)]) (st' := [.ref q0, .ref q0]) rfl ?_
    obtain ⟨v_9275, e_9276, e⟩ := Option.bind_eq_some_iff.mp e
    refine Rn.hp hT rfl rfl (gR_hp e_9276) ?_
    refine Rn.n hT 1 (pc' := 69) (L' := [some (.ref q0), some (.int x1), some (.int x2), some (.int s0)]) (st' := [.int x2, .ref v_9275, .ref q0]) rfl ?_
    obtain ⟨v_9277, e_9278, e⟩ := Option.bind_eq_some_iff.mp e
    refine Rn.hp hT rfl rfl (aI_hp e_9278) ?_
    refine Rn.n hT 1 (pc' := 71) (L' := [some (.ref q0), some (.int x1), some (.int x2), some (.int s0)]) (st' := [.ref q0, .int v_9277, .ref q0]) rfl ?_
    obtain ⟨v_9279, e_9280, e⟩ := Option.bind_eq_some_iff.mp e
    refine Rn.hp hT rfl rfl (gR_hp e_9280) ?_
    refine Rn.n hT 1 (pc' := 75) (L' := [some (.ref q0), some (.int x1), some (.int x2), some (.int s0)]) (st' := [.int x2, .ref v_9279, .int v_9277, .ref q0]) rfl ?_
    obtain ⟨v_9281, e_9282, e⟩ := Option.bind_eq_some_iff.mp e
    refine Rn.hp hT rfl rfl (aI_hp e_9282) ?_
    refine Rn.n hT 1 (pc' := 77) (L' := [some (.ref q0), some (.int x1), some (.int x2), some (.int s0)]) (st' := [.ref q0, .int v_9281, .int v_9277, .ref q0]) rfl ?_
    obtain ⟨v_9283, e_9284, e⟩ := Option.bind_eq_some_iff.mp e
    refine Rn.hp hT rfl rfl (gR_hp e_9284) ?_
    refine Rn.n hT 1 (pc' := 81) (L' := [some (.ref q0), some (.int x1), some (.int x2), some (.int s0)]) (st' := [.int x2, .ref v_9283, .int v_9281, .int v_9277, .ref q0]) rfl ?_
    obtain ⟨v_9285, e_9286, e⟩ := Option.bind_eq_some_iff.mp e
    refine Rn.hp hT rfl rfl (aI_hp e_9286) ?_
    obtain ⟨_, e_9288, e⟩ := Option.bind_eq_some_iff.mp e
    obtain ⟨h_9290, e_9287, e⟩ := Option.bind_eq_some_iff.mp e
    refine Rn.call hT rfl rfl rfl (Nat.le_of_ble_eq_true rfl) (rcv_v gX12_walks (by omega) e_9288) (rX12_walks (by omega) e_9287 ?_)
    show Rn d _ _ 85 [some (.ref q0), some (.int x1), some (.int x2), some (.int s0)] [] h_9290 Q
    exact Rn.weak (ll_s (ll_s (ll_s (ll_s ll_e)))) (rX12_follow_b85 hd hb hk hq e)
def fX12_follow_l13 (N : Nat) (q0 : Nat) (kx : iv_H → Int32 → Option (Int32 × iv_H)) : Nat → iv_H → Int32 → Int32 → Option (Int32 × iv_H)
  | 0, _, _, _ => none
  | n + 1, h, x1, x2 => ((gR h 12 1 q0).bind fun v_9247 => ((aI h v_9247 (8 : Int32)).bind fun v_9249 => (if v_9249 ≤ x2 then (kx h x1) else ((gR h 12 11 q0).bind fun v_9252 => ((aI h v_9252 x2).bind fun v_9254 => ((gR h 12 12 q0).bind fun v_9256 => ((aI h v_9256 x2).bind fun v_9258 => ((gR h 12 13 q0).bind fun v_9260 => ((aI h v_9260 x2).bind fun v_9262 => ((cko h q0 12).bind fun _ => (fX12_lawOf N h q0 v_9254 v_9258 v_9262).bind fun p_9269 => (fun (v_9266 : Int32) (h_9267 : iv_H) => (if v_9266 = 0 then (fX12_follow_b54 N h_9267 q0 x1 x2 (1 : Int32) (fX12_follow_l13 N q0 kx n) kx) else (fX12_follow_b54 N h_9267 q0 x1 x2 (0 : Int32) (fX12_follow_l13 N q0 kx n) kx))) p_9269.1 p_9269.2))))))))))
set_option maxRecDepth 10000 in
set_option maxHeartbeats 4000000 in
theorem rX12_follow_l13 {d N : Nat} (hd : 7 ≤ d) {q0 : Nat} {kx : iv_H → Int32 → Option (Int32 × iv_H)} {r : Int32 × iv_H} {Q : Option Value → iv_H → Prop} (hk : ∀ (h : iv_H) (x1 : Int32), kx h x1 = some r → Rn d 318 (some .int) 103 [some (.ref q0), some (.int x1), none, none] [] h Q) (hq : Q (some (.int r.1)) r.2) : ∀ (n : Nat) (h : iv_H) (x1 : Int32) (x2 : Int32), fX12_follow_l13 N q0 kx n h x1 x2 = some r → Rn d 318 (some .int) 13 [some (.ref q0), some (.int x1), some (.int x2), none] [] h Q := by
  have hT := hX12_follow
  intro n
  induction n with
  | zero =>
    intro h x1 x2 e
    rw [fX12_follow_l13] at e
    cases e
  | succ n ih =>
    intro h x1 x2 e
    rw [fX12_follow_l13] at e
    refine Rn.n hT 2 (pc' := 15) (L' := [some (.ref q0), some (.int x1), some (.int x2), none]) (st' := [.ref q0, .int x2]) rfl ?_
    obtain ⟨v_9247, e_9248, e⟩ := Option.bind_eq_some_iff.mp e
    refine Rn.hp hT rfl rfl (gR_hp e_9248) ?_
    refine Rn.n hT 1 (pc' := 20) (L' := [some (.ref q0), some (.int x1), some (.int x2), none]) (st' := [.int (8 : Int32), .ref v_9247, .int x2]) rfl ?_
    obtain ⟨v_9249, e_9250, e⟩ := Option.bind_eq_some_iff.mp e
    refine Rn.hp hT rfl rfl (aI_hp e_9250) ?_
    by_cases c_9251 : v_9249 ≤ x2
    · rw [if_pos c_9251] at e
      refine Rn.bt hT rfl rfl rfl (decide_eq_true c_9251) ?_
      exact Rn.weak (ll_s (ll_s (ll_n (ll_n ll_e)))) (hk h x1 e)
    · rw [if_neg c_9251] at e
      refine Rn.bf hT rfl rfl rfl (decide_eq_false c_9251) ?_
      refine Rn.n hT 2 (pc' := 26) (L' := [some (.ref q0), some (.int x1), some (.int x2), none]) (st' := [.ref q0, .ref q0]) rfl ?_
      obtain ⟨v_9252, e_9253, e⟩ := Option.bind_eq_some_iff.mp e
      refine Rn.hp hT rfl rfl (gR_hp e_9253) ?_
      refine Rn.n hT 1 (pc' := 30) (L' := [some (.ref q0), some (.int x1), some (.int x2), none]) (st' := [.int x2, .ref v_9252, .ref q0]) rfl ?_
      obtain ⟨v_9254, e_9255, e⟩ := Option.bind_eq_some_iff.mp e
      refine Rn.hp hT rfl rfl (aI_hp e_9255) ?_
      refine Rn.n hT 1 (pc' := 32) (L' := [some (.ref q0), some (.int x1), some (.int x2), none]) (st' := [.ref q0, .int v_9254, .ref q0]) rfl ?_
      obtain ⟨v_9256, e_9257, e⟩ := Option.bind_eq_some_iff.mp e
      refine Rn.hp hT rfl rfl (gR_hp e_9257) ?_
      refine Rn.n hT 1 (pc' := 36) (L' := [some (.ref q0), some (.int x1), some (.int x2), none]) (st' := [.int x2, .ref v_9256, .int v_9254, .ref q0]) rfl ?_
      obtain ⟨v_9258, e_9259, e⟩ := Option.bind_eq_some_iff.mp e
      refine Rn.hp hT rfl rfl (aI_hp e_9259) ?_
      refine Rn.n hT 1 (pc' := 38) (L' := [some (.ref q0), some (.int x1), some (.int x2), none]) (st' := [.ref q0, .int v_9258, .int v_9254, .ref q0]) rfl ?_
      obtain ⟨v_9260, e_9261, e⟩ := Option.bind_eq_some_iff.mp e
      refine Rn.hp hT rfl rfl (gR_hp e_9261) ?_
      refine Rn.n hT 1 (pc' := 42) (L' := [some (.ref q0), some (.int x1), some (.int x2), none]) (st' := [.int x2, .ref v_9260, .int v_9258, .int v_9254, .ref q0]) rfl ?_
      obtain ⟨v_9262, e_9263, e⟩ := Option.bind_eq_some_iff.mp e
      refine Rn.hp hT rfl rfl (aI_hp e_9263) ?_
      obtain ⟨_, e_9265, e⟩ := Option.bind_eq_some_iff.mp e
      obtain ⟨⟨v_9266, h_9267⟩, e_9264, e⟩ := Option.bind_eq_some_iff.mp e
      try dsimp only at e
      try dsimp only at e
      refine Rn.call hT rfl rfl rfl (Nat.le_of_ble_eq_true rfl) (rcv_v gX12_lawOf (by omega) e_9265) (rX12_lawOf (by omega) e_9264 ?_)
      show Rn d _ _ 46 [some (.ref q0), some (.int x1), some (.int x2), none] [.int v_9266] h_9267 Q
      by_cases c_9268 : v_9266 = 0
      · rw [if_pos c_9268] at e
        refine Rn.bf hT rfl rfl rfl (decide_eq_false (fun z => z c_9268)) ?_
        refine Rn.n hT 2 (pc' := 54) (L' := [some (.ref q0), some (.int x1), some (.int x2), none]) (st' := [.int (1 : Int32)]) rfl ?_
        exact Rn.weak (ll_s (ll_s (ll_s (ll_n ll_e)))) (rX12_follow_b54 hd ih hk hq e)
      · rw [if_neg c_9268] at e
        refine Rn.bt hT rfl rfl rfl (decide_eq_true c_9268) ?_
        refine Rn.n hT 1 (pc' := 54) (L' := [some (.ref q0), some (.int x1), some (.int x2), none]) (st' := [.int (0 : Int32)]) rfl ?_
        exact Rn.weak (ll_s (ll_s (ll_s (ll_n ll_e)))) (rX12_follow_b54 hd ih hk hq e)
def fX12_follow (N : Nat) (h : iv_H) (q0 : Nat) : Option (Int32 × iv_H) := ((cko h q0 12).bind fun _ => (fX12_isPalace N h q0).bind fun v_9239 => (if v_9239 = 0 then (some ((-1 : Int32), h)) else (fX12_follow_l13 N q0 (fun (h_9241 : iv_H) (z_9242 : Int32) => ((gR h_9241 12 1 q0).bind fun v_9243 => ((wI h_9241 v_9243 (8 : Int32) (0 : Int32)).bind fun h_9245 => (some (z_9242, h_9245))))) N h (0 : Int32) (0 : Int32))))
set_option maxRecDepth 10000 in
set_option maxHeartbeats 4000000 in
theorem rX12_follow {d N : Nat} (hd : 8 ≤ d) {h : iv_H} {q0 : Nat} {r : Int32 × iv_H} {Q : Option Value → iv_H → Prop} (e : fX12_follow N h q0 = some r) (hq : Q (some (.int r.1)) r.2) : Cl d 318 [.ref q0] h Q := by
  obtain ⟨d, rfl⟩ : ∃ k, d = k + 1 := ⟨d - 1, by omega⟩
  have hd : 7 ≤ d := by omega
  have hT := hX12_follow
  unfold fX12_follow at e
  refine Cl.into (by decide) gX12_follow rfl ?_
  show Rn d 318 (some .int) 0 [some (.ref q0), none, none, none] [] h Q
  refine Rn.n hT 1 (pc' := 1) (L' := [some (.ref q0), none, none, none]) (st' := [.ref q0]) rfl ?_
  obtain ⟨_, e_9238, e⟩ := Option.bind_eq_some_iff.mp e
  obtain ⟨v_9239, e_9237, e⟩ := Option.bind_eq_some_iff.mp e
  refine Rn.call hT rfl rfl rfl (Nat.le_of_ble_eq_true rfl) (rcv_v gX12_isPalace (by omega) e_9238) (rX12_isPalace (by omega) e_9237 ?_)
  show Rn d _ _ 4 [some (.ref q0), none, none, none] [.int v_9239] h Q
  by_cases c_9240 : v_9239 = 0
  · rw [if_pos c_9240] at e
    refine Rn.bf hT rfl rfl rfl (decide_eq_false (fun z => z c_9240)) ?_
    refine Rn.n hT 1 (pc' := 8) (L' := [some (.ref q0), none, none, none]) (st' := [.int (-1 : Int32)]) rfl ?_
    obtain rfl := Option.some.inj e
    exact Rn.ret hT rfl rfl rfl hq
  · rw [if_neg c_9240] at e
    refine Rn.bt hT rfl rfl rfl (decide_eq_true c_9240) ?_
    refine Rn.n hT 4 (pc' := 13) (L' := [some (.ref q0), some (.int (0 : Int32)), some (.int (0 : Int32)), none]) (st' := []) rfl ?_
    refine Rn.weak (ll_s (ll_s (ll_s (ll_n ll_e)))) (rX12_follow_l13 hd (fun h_9241 z_9242 e => ?_) hq N h (0 : Int32) (0 : Int32) e)
    try dsimp only at e
    refine Rn.n hT 1 (pc' := 104) (L' := [some (.ref q0), some (.int z_9242), none, none]) (st' := [.ref q0]) rfl ?_
    obtain ⟨v_9243, e_9244, e⟩ := Option.bind_eq_some_iff.mp e
    refine Rn.hp hT rfl rfl (gR_hp e_9244) ?_
    refine Rn.n hT 2 (pc' := 110) (L' := [some (.ref q0), some (.int z_9242), none, none]) (st' := [.int (0 : Int32), .int (8 : Int32), .ref v_9243]) rfl ?_
    obtain ⟨h_9245, e_9246, e⟩ := Option.bind_eq_some_iff.mp e
    refine Rn.hp hT rfl rfl (wI_hp e_9246) ?_
    refine Rn.n hT 1 (pc' := 112) (L' := [some (.ref q0), some (.int z_9242), none, none]) (st' := [.int z_9242]) rfl ?_
    obtain rfl := Option.some.inj e
    exact Rn.ret hT rfl rfl rfl hq
set_option maxRecDepth 10000 in
theorem hX12_wish : iv_Tb 319 tX12_wish := iv_tb_of (m := mX12_wish) rfl
set_option maxRecDepth 10000 in
theorem gX12_wish : PG.2 319 = some mX12_wish := iv_pi_of (t := tX12_wish) rfl (by decide)
def fX12_wish_b61 (N : Nat) (h : iv_H)   : Option (Int32 × iv_H) := (some ((-2 : Int32), h))
set_option maxRecDepth 10000 in
set_option maxHeartbeats 4000000 in
theorem rX12_wish_b61 {d N : Nat} (hd : 2 ≤ d) {h : iv_H}   {r : Int32 × iv_H} {Q : Option Value → iv_H → Prop} (hq : Q (some (.int r.1)) r.2) (e : fX12_wish_b61 N h   = some r) : Rn d 319 (some .int) 61 [none, none, none, none, none, none] [] h Q := by
  have hT := hX12_wish
  unfold fX12_wish_b61 at e
  refine Rn.n hT 1 (pc' := 63) (L' := [none, none, none, none, none, none]) (st' := [.int (-2 : Int32)]) rfl ?_
  obtain rfl := Option.some.inj e
  exact Rn.ret hT rfl rfl rfl hq
def fX12_wish (N : Nat) (h : iv_H) (q0 : Nat) (x1 : Int32) (x2 : Int32) (x3 : Int32) (x4 : Int32) : Option (Int32 × iv_H) := (if x1 = (-1 : Int32) then ((gR h 12 1 q0).bind fun v_9327 => ((wI h v_9327 (9 : Int32) (0 : Int32)).bind fun h_9329 => (some ((0 : Int32), h_9329)))) else ((gR h 12 1 q0).bind fun v_9293 => ((aI h v_9293 (9 : Int32)).bind fun v_9295 => ((cko h q0 12).bind fun _ => (fX12_isPerson N h q0 x1).bind fun v_9299 => (if v_9299 = 0 then (fX12_wish_b61 N h) else ((fX12_in N h ((x2).toInt64) (0 : Int64) (10 : Int64)).bind fun v_9302 => (if v_9302 = 0 then (fX12_wish_b61 N h) else ((cko h q0 12).bind fun _ => (fX12_isCell N h q0 x3 x4).bind fun v_9306 => (if v_9306 = 0 then (fX12_wish_b61 N h) else (if v_9295 = (12 : Int32) then (fX12_wish_b61 N h) else ((gR h 12 14 q0).bind fun v_9309 => ((wI h v_9309 v_9295 x1).bind fun h_9311 => ((gR h_9311 12 15 q0).bind fun v_9313 => ((wI h_9311 v_9313 v_9295 x2).bind fun h_9315 => ((gR h_9315 12 16 q0).bind fun v_9317 => ((wI h_9315 v_9317 v_9295 (((4 : Int32) * x4) + x3)).bind fun h_9319 => ((gR h_9319 12 1 q0).bind fun v_9321 => ((aI h_9319 v_9321 (9 : Int32)).bind fun v_9323 => ((wI h_9319 v_9321 (9 : Int32) (v_9323 + (1 : Int32))).bind fun h_9325 => (some ((v_9295 + (1 : Int32)), h_9325)))))))))))))))))))))
set_option maxRecDepth 10000 in
set_option maxHeartbeats 4000000 in
theorem rX12_wish {d N : Nat} (hd : 3 ≤ d) {h : iv_H} {q0 : Nat} {x1 : Int32} {x2 : Int32} {x3 : Int32} {x4 : Int32} {r : Int32 × iv_H} {Q : Option Value → iv_H → Prop} (e : fX12_wish N h q0 x1 x2 x3 x4 = some r) (hq : Q (some (.int r.1)) r.2) : Cl d 319 [.ref q0, .int x1, .int x2, .int x3, .int x4] h Q := by
  obtain ⟨d, rfl⟩ : ∃ k, d = k + 1 := ⟨d - 1, by omega⟩
  have hd : 2 ≤ d := by omega
  have hT := hX12_wish
  unfold fX12_wish at e
  refine Cl.into (by decide) gX12_wish rfl ?_
  show Rn d 319 (some .int) 0 [some (.ref q0), some (.int x1), some (.int x2), some (.int x3), some (.int x4), none] [] h Q
  refine Rn.n hT 2 (pc' := 2) (L' := [some (.ref q0), some (.int x1), some (.int x2), some (.int x3), some (.int x4), none]) (st' := [.int (-1 : Int32), .int x1]) rfl ?_
  by_cases c_9292 : x1 = (-1 : Int32)
  · rw [if_pos c_9292] at e
    refine Rn.bf hT rfl rfl rfl (decide_eq_false (fun z => z c_9292)) ?_
    refine Rn.n hT 1 (pc' := 6) (L' := [some (.ref q0), some (.int x1), some (.int x2), some (.int x3), some (.int x4), none]) (st' := [.ref q0]) rfl ?_
    obtain ⟨v_9327, e_9328, e⟩ := Option.bind_eq_some_iff.mp e
    refine Rn.hp hT rfl rfl (gR_hp e_9328) ?_
    refine Rn.n hT 2 (pc' := 12) (L' := [some (.ref q0), some (.int x1), some (.int x2), some (.int x3), some (.int x4), none]) (st' := [.int (0 : Int32), .int (9 : Int32), .ref v_9327]) rfl ?_
    obtain ⟨h_9329, e_9330, e⟩ := Option.bind_eq_some_iff.mp e
    refine Rn.hp hT rfl rfl (wI_hp e_9330) ?_
    refine Rn.n hT 1 (pc' := 14) (L' := [some (.ref q0), some (.int x1), some (.int x2), some (.int x3), some (.int x4), none]) (st' := [.int (0 : Int32)]) rfl ?_
    obtain rfl := Option.some.inj e
    exact Rn.ret hT rfl rfl rfl hq
  · rw [if_neg c_9292] at e
    refine Rn.bt hT rfl rfl rfl (decide_eq_true c_9292) ?_
    refine Rn.n hT 1 (pc' := 16) (L' := [some (.ref q0), some (.int x1), some (.int x2), some (.int x3), some (.int x4), none]) (st' := [.ref q0]) rfl ?_
    obtain ⟨v_9293, e_9294, e⟩ := Option.bind_eq_some_iff.mp e
    refine Rn.hp hT rfl rfl (gR_hp e_9294) ?_
    refine Rn.n hT 1 (pc' := 21) (L' := [some (.ref q0), some (.int x1), some (.int x2), some (.int x3), some (.int x4), none]) (st' := [.int (9 : Int32), .ref v_9293]) rfl ?_
    obtain ⟨v_9295, e_9296, e⟩ := Option.bind_eq_some_iff.mp e
    refine Rn.hp hT rfl rfl (aI_hp e_9296) ?_
    refine Rn.n hT 3 (pc' := 26) (L' := [some (.ref q0), some (.int x1), some (.int x2), some (.int x3), some (.int x4), some (.int v_9295)]) (st' := [.int x1, .ref q0]) rfl ?_
    obtain ⟨_, e_9298, e⟩ := Option.bind_eq_some_iff.mp e
    obtain ⟨v_9299, e_9297, e⟩ := Option.bind_eq_some_iff.mp e
    refine Rn.call hT rfl rfl rfl (Nat.le_of_ble_eq_true rfl) (rcv_v gX12_isPerson (by omega) e_9298) (rX12_isPerson (by omega) e_9297 ?_)
    show Rn d _ _ 29 [some (.ref q0), some (.int x1), some (.int x2), some (.int x3), some (.int x4), some (.int v_9295)] [.int v_9299] h Q
    by_cases c_9300 : v_9299 = 0
    · rw [if_pos c_9300] at e
      refine Rn.bt hT rfl rfl rfl (decide_eq_true c_9300) ?_
      exact Rn.weak (ll_n (ll_n (ll_n (ll_n (ll_n (ll_n ll_e)))))) (rX12_wish_b61 hd hq e)
    · rw [if_neg c_9300] at e
      refine Rn.bf hT rfl rfl rfl (decide_eq_false c_9300) ?_
      refine Rn.n hT 4 (pc' := 38) (L' := [some (.ref q0), some (.int x1), some (.int x2), some (.int x3), some (.int x4), some (.int v_9295)]) (st' := [.long (10 : Int64), .long (0 : Int64), .long ((x2).toInt64)]) rfl ?_
      obtain ⟨v_9302, e_9301, e⟩ := Option.bind_eq_some_iff.mp e
      refine Rn.call hT rfl rfl rfl (Nat.le_of_ble_eq_true rfl) rfl (rX12_in (by omega) e_9301 ?_)
      show Rn d _ _ 41 [some (.ref q0), some (.int x1), some (.int x2), some (.int x3), some (.int x4), some (.int v_9295)] [.int v_9302] h Q
      by_cases c_9303 : v_9302 = 0
      · rw [if_pos c_9303] at e
        refine Rn.bt hT rfl rfl rfl (decide_eq_true c_9303) ?_
        exact Rn.weak (ll_n (ll_n (ll_n (ll_n (ll_n (ll_n ll_e)))))) (rX12_wish_b61 hd hq e)
      · rw [if_neg c_9303] at e
        refine Rn.bf hT rfl rfl rfl (decide_eq_false c_9303) ?_
        refine Rn.n hT 3 (pc' := 48) (L' := [some (.ref q0), some (.int x1), some (.int x2), some (.int x3), some (.int x4), some (.int v_9295)]) (st' := [.int x4, .int x3, .ref q0]) rfl ?_
        obtain ⟨_, e_9305, e⟩ := Option.bind_eq_some_iff.mp e
        obtain ⟨v_9306, e_9304, e⟩ := Option.bind_eq_some_iff.mp e
        refine Rn.call hT rfl rfl rfl (Nat.le_of_ble_eq_true rfl) (rcv_v gX12_isCell (by omega) e_9305) (rX12_isCell (by omega) e_9304 ?_)
        show Rn d _ _ 51 [some (.ref q0), some (.int x1), some (.int x2), some (.int x3), some (.int x4), some (.int v_9295)] [.int v_9306] h Q
        by_cases c_9307 : v_9306 = 0
        · rw [if_pos c_9307] at e
          refine Rn.bt hT rfl rfl rfl (decide_eq_true c_9307) ?_
          exact Rn.weak (ll_n (ll_n (ll_n (ll_n (ll_n (ll_n ll_e)))))) (rX12_wish_b61 hd hq e)
        · rw [if_neg c_9307] at e
          refine Rn.bf hT rfl rfl rfl (decide_eq_false c_9307) ?_
          refine Rn.n hT 2 (pc' := 58) (L' := [some (.ref q0), some (.int x1), some (.int x2), some (.int x3), some (.int x4), some (.int v_9295)]) (st' := [.int (12 : Int32), .int v_9295]) rfl ?_
          by_cases c_9308 : v_9295 = (12 : Int32)
          · rw [if_pos c_9308] at e
            refine Rn.bf hT rfl rfl rfl (decide_eq_false (fun z => z c_9308)) ?_
            exact Rn.weak (ll_n (ll_n (ll_n (ll_n (ll_n (ll_n ll_e)))))) (rX12_wish_b61 hd hq e)
          · rw [if_neg c_9308] at e
            refine Rn.bt hT rfl rfl rfl (decide_eq_true c_9308) ?_
            refine Rn.n hT 1 (pc' := 65) (L' := [some (.ref q0), some (.int x1), some (.int x2), some (.int x3), some (.int x4), some (.int v_9295)]) (st' := [.ref q0]) rfl ?_
            obtain ⟨v_9309, e_9310, e⟩ := Option.bind_eq_some_iff.mp e
            refine Rn.hp hT rfl rfl (gR_hp e_9310) ?_
            refine Rn.n hT 2 (pc' := 71) (L' := [some (.ref q0), some (.int x1), some (.int x2), some (.int x3), some (.int x4), some (.int v_9295)]) (st' := [.int x1, .int v_9295, .ref v_9309]) rfl ?_
            obtain ⟨h_9311, e_9312, e⟩ := Option.bind_eq_some_iff.mp e
            refine Rn.hp hT rfl rfl (wI_hp e_9312) ?_
            refine Rn.n hT 1 (pc' := 73) (L' := [some (.ref q0), some (.int x1), some (.int x2), some (.int x3), some (.int x4), some (.int v_9295)]) (st' := [.ref q0]) rfl ?_
            obtain ⟨v_9313, e_9314, e⟩ := Option.bind_eq_some_iff.mp e
            refine Rn.hp hT rfl rfl (gR_hp e_9314) ?_
            refine Rn.n hT 2 (pc' := 79) (L' := [some (.ref q0), some (.int x1), some (.int x2), some (.int x3), some (.int x4), some (.int v_9295)]) (st' := [.int x2, .int v_9295, .ref v_9313]) rfl ?_
            obtain ⟨h_9315, e_9316, e⟩ := Option.bind_eq_some_iff.mp e
            refine Rn.hp hT rfl rfl (wI_hp e_9316) ?_
            refine Rn.n hT 1 (pc' := 81) (L' := [some (.ref q0), some (.int x1), some (.int x2), some (.int x3), some (.int x4), some (.int v_9295)]) (st' := [.ref q0]) rfl ?_
            obtain ⟨v_9317, e_9318, e⟩ := Option.bind_eq_some_iff.mp e
            refine Rn.hp hT rfl rfl (gR_hp e_9318) ?_
            refine Rn.n hT 6 (pc' := 92) (L' := [some (.ref q0), some (.int x1), some (.int x2), some (.int x3), some (.int x4), some (.int v_9295)]) (st' := [.int (((4 : Int32) * x4) + x3), .int v_9295, .ref v_9317]) rfl ?_
            obtain ⟨h_9319, e_9320, e⟩ := Option.bind_eq_some_iff.mp e
            refine Rn.hp hT rfl rfl (wI_hp e_9320) ?_
            refine Rn.n hT 1 (pc' := 94) (L' := [some (.ref q0), some (.int x1), some (.int x2), some (.int x3), some (.int x4), some (.int v_9295)]) (st' := [.ref q0]) rfl ?_
            obtain ⟨v_9321, e_9322, e⟩ := Option.bind_eq_some_iff.mp e
            refine Rn.hp hT rfl rfl (gR_hp e_9322) ?_
            refine Rn.n hT 2 (pc' := 100) (L' := [some (.ref q0), some (.int x1), some (.int x2), some (.int x3), some (.int x4), some (.int v_9295)]) (st' := [.int (9 : Int32), .ref v_9321, .int (9 : Int32), .ref v_9321]) rfl ?_
            obtain ⟨v_9323, e_9324, e⟩ := Option.bind_eq_some_iff.mp e
            refine Rn.hp hT rfl rfl (aI_hp e_9324) ?_
            refine Rn.n hT 2 (pc' := 103) (L' := [some (.ref q0), some (.int x1), some (.int x2), some (.int x3), some (.int x4), some (.int v_9295)]) (st' := [.int (v_9323 + (1 : Int32)), .int (9 : Int32), .ref v_9321]) rfl ?_
            obtain ⟨h_9325, e_9326, e⟩ := Option.bind_eq_some_iff.mp e
            refine Rn.hp hT rfl rfl (wI_hp e_9326) ?_
            refine Rn.n hT 3 (pc' := 108) (L' := [some (.ref q0), some (.int x1), some (.int x2), some (.int x3), some (.int x4), some (.int v_9295)]) (st' := [.int (v_9295 + (1 : Int32))]) rfl ?_
            obtain rfl := Option.some.inj e
            exact Rn.ret hT rfl rfl rfl hq
set_option maxRecDepth 10000 in
theorem hX12_isWished : iv_Tb 320 tX12_isWished := iv_tb_of (m := mX12_isWished) rfl
set_option maxRecDepth 10000 in
theorem gX12_isWished : PG.2 320 = some mX12_isWished := iv_pi_of (t := tX12_isWished) rfl (by decide)
def fX12_isWished_b82 (N : Nat) (h : iv_H) (q0 : Nat) (x1 : Int32) (x2 : Int32) (x3 : Int32) (x4 : Int32)  (kb : Int32 → Int32 → Option (Int32)) (kx : Int32 → Option (Int32)) : Option (Int32) := (kb x3 (x4 + (1 : Int32)))
set_option maxRecDepth 10000 in
set_option maxHeartbeats 4000000 in
theorem rX12_isWished_b82 {d N : Nat} (hd : 0 ≤ d) {h : iv_H} {q0 : Nat} {x1 : Int32} {x2 : Int32} {x3 : Int32} {x4 : Int32}  {kb : Int32 → Int32 → Option (Int32)} {kx : Int32 → Option (Int32)} {r : Int32} {Q : Option Value → iv_H → Prop} (hb : ∀ (w3 : Int32) (w4 : Int32), kb w3 w4 = some r → Rn d 320 (some .boolean) 5 [some (.ref q0), some (.int x1), some (.int x2), some (.int w3), some (.int w4)] [] h Q) (hk : ∀ (w3 : Int32), kx w3 = some r → Rn d 320 (some .boolean) 88 [none, none, none, some (.int w3), none] [] h Q) (hq : Q (some (.int r)) h) (e : fX12_isWished_b82 N h q0 x1 x2 x3 x4  kb kx = some r) : Rn d 320 (some .boolean) 82 [some (.ref q0), some (.int x1), some (.int x2), some (.int x3), some (.int x4)] [] h Q := by
  have hT := hX12_isWished
  unfold fX12_isWished_b82 at e
  refine Rn.n hT 2 (pc' := 5) (L' := [some (.ref q0), some (.int x1), some (.int x2), some (.int x3), some (.int (x4 + (1 : Int32)))]) (st' := []) rfl ?_
  exact Rn.weak (ll_s (ll_s (ll_s (ll_s (ll_s ll_e))))) (hb x3 (x4 + (1 : Int32)) e)
def fX12_isWished_b81 (N : Nat) (h : iv_H) (q0 : Nat) (x1 : Int32) (x2 : Int32) (x4 : Int32) (s0 : Int32) (kb : Int32 → Int32 → Option (Int32)) (kx : Int32 → Option (Int32)) : Option (Int32) := (fX12_isWished_b82 N h q0 x1 x2 s0 x4 kb kx)
set_option maxRecDepth 10000 in
set_option maxHeartbeats 4000000 in
theorem rX12_isWished_b81 {d N : Nat} (hd : 0 ≤ d) {h : iv_H} {q0 : Nat} {x1 : Int32} {x2 : Int32} {x4 : Int32} {s0 : Int32} {kb : Int32 → Int32 → Option (Int32)} {kx : Int32 → Option (Int32)} {r : Int32} {Q : Option Value → iv_H → Prop} (hb : ∀ (w3 : Int32) (w4 : Int32), kb w3 w4 = some r → Rn d 320 (some .boolean) 5 [some (.ref q0), some (.int x1), some (.int x2), some (.int w3), some (.int w4)] [] h Q) (hk : ∀ (w3 : Int32), kx w3 = some r → Rn d 320 (some .boolean) 88 [none, none, none, some (.int w3), none] [] h Q) (hq : Q (some (.int r)) h) (e : fX12_isWished_b81 N h q0 x1 x2 x4 s0 kb kx = some r) : Rn d 320 (some .boolean) 81 [some (.ref q0), some (.int x1), some (.int x2), none, some (.int x4)] [.int s0] h Q := by
  have hT := hX12_isWished
  unfold fX12_isWished_b81 at e
  refine Rn.n hT 1 (pc' := 82) (L' := [some (.ref q0), some (.int x1), some (.int x2), some (.int s0), some (.int x4)]) (st' := []) rfl ?_
  exact Rn.weak (ll_s (ll_s (ll_s (ll_s (ll_s ll_e))))) (rX12_isWished_b82 hd hb hk hq e)
def fX12_isWished_b80 (N : Nat) (h : iv_H) (q0 : Nat) (x1 : Int32) (x2 : Int32) (x4 : Int32)  (kb : Int32 → Int32 → Option (Int32)) (kx : Int32 → Option (Int32)) : Option (Int32) := (fX12_isWished_b81 N h q0 x1 x2 x4 (0 : Int32) kb kx)
set_option maxRecDepth 10000 in
set_option maxHeartbeats 4000000 in
theorem rX12_isWished_b80 {d N : Nat} (hd : 0 ≤ d) {h : iv_H} {q0 : Nat} {x1 : Int32} {x2 : Int32} {x4 : Int32}  {kb : Int32 → Int32 → Option (Int32)} {kx : Int32 → Option (Int32)} {r : Int32} {Q : Option Value → iv_H → Prop} (hb : ∀ (w3 : Int32) (w4 : Int32), kb w3 w4 = some r → Rn d 320 (some .boolean) 5 [some (.ref q0), some (.int x1), some (.int x2), some (.int w3), some (.int w4)] [] h Q) (hk : ∀ (w3 : Int32), kx w3 = some r → Rn d 320 (some .boolean) 88 [none, none, none, some (.int w3), none] [] h Q) (hq : Q (some (.int r)) h) (e : fX12_isWished_b80 N h q0 x1 x2 x4  kb kx = some r) : Rn d 320 (some .boolean) 80 [some (.ref q0), some (.int x1), some (.int x2), none, some (.int x4)] [] h Q := by
  have hT := hX12_isWished
  unfold fX12_isWished_b80 at e
  refine Rn.n hT 1 (pc' := 81) (L' := [some (.ref q0), some (.int x1), some (.int x2), none, some (.int x4)]) (st' := [.int (0 : Int32)]) rfl ?_
  exact Rn.weak (ll_s (ll_s (ll_s (ll_n (ll_s ll_e))))) (rX12_isWished_b81 hd hb hk hq e)
def fX12_isWished_l5 (N : Nat) (h : iv_H) (q0 : Nat) (x1 : Int32) (x2 : Int32) (kx : Int32 → Option (Int32)) : Nat → Int32 → Int32 → Option (Int32)
  | 0, _, _ => none
  | n + 1, x3, x4 => ((gR h 12 1 q0).bind fun v_9333 => ((aI h v_9333 (9 : Int32)).bind fun v_9335 => (if v_9335 ≤ x4 then (kx x3) else ((gR h 12 14 q0).bind fun v_9338 => ((aI h v_9338 x4).bind fun v_9340 => (if v_9340 = x1 then (if x3 = 0 then (fX12_isWished_b80 N h q0 x1 x2 x4 (fX12_isWished_l5 N h q0 x1 x2 kx n) kx) else ((gR h 12 15 q0).bind fun v_9344 => ((aI h v_9344 x4).bind fun v_9346 => ((gR h 12 1 q0).bind fun v_9348 => ((aI h v_9348 (8 : Int32)).bind fun v_9350 => (if v_9350 < v_9346 then (fX12_isWished_b80 N h q0 x1 x2 x4 (fX12_isWished_l5 N h q0 x1 x2 kx n) kx) else ((gR h 12 67 q0).bind fun v_9353 => ((gR h 12 15 q0).bind fun v_9355 => ((aI h v_9355 x4).bind fun v_9357 => ((aI h v_9353 (((12 : Int32) * v_9357) + x2)).bind fun v_9359 => ((gR h 12 16 q0).bind fun v_9361 => ((aI h v_9361 x4).bind fun v_9363 => (if v_9359 = v_9363 then (fX12_isWished_b81 N h q0 x1 x2 x4 (1 : Int32) (fX12_isWished_l5 N h q0 x1 x2 kx n) kx) else (fX12_isWished_b80 N h q0 x1 x2 x4 (fX12_isWished_l5 N h q0 x1 x2 kx n) kx)))))))))))))) else (fX12_isWished_b82 N h q0 x1 x2 x3 x4 (fX12_isWished_l5 N h q0 x1 x2 kx n) kx)))))))
set_option maxRecDepth 10000 in
set_option maxHeartbeats 4000000 in
theorem rX12_isWished_l5 {d N : Nat} (hd : 0 ≤ d) {h : iv_H} {q0 : Nat} {x1 : Int32} {x2 : Int32} {kx : Int32 → Option (Int32)} {r : Int32} {Q : Option Value → iv_H → Prop} (hk : ∀ (x3 : Int32), kx x3 = some r → Rn d 320 (some .boolean) 88 [none, none, none, some (.int x3), none] [] h Q) (hq : Q (some (.int r)) h) : ∀ (n : Nat) (x3 : Int32) (x4 : Int32), fX12_isWished_l5 N h q0 x1 x2 kx n x3 x4 = some r → Rn d 320 (some .boolean) 5 [some (.ref q0), some (.int x1), some (.int x2), some (.int x3), some (.int x4)] [] h Q := by
  have hT := hX12_isWished
  intro n
  induction n with
  | zero =>
    intro x3 x4 e
    rw [fX12_isWished_l5] at e
    cases e
  | succ n ih =>
    intro x3 x4 e
    rw [fX12_isWished_l5] at e
    refine Rn.n hT 2 (pc' := 8) (L' := [some (.ref q0), some (.int x1), some (.int x2), some (.int x3), some (.int x4)]) (st' := [.ref q0, .int x4]) rfl ?_
    obtain ⟨v_9333, e_9334, e⟩ := Option.bind_eq_some_iff.mp e
    refine Rn.hp hT rfl rfl (gR_hp e_9334) ?_
    refine Rn.n hT 1 (pc' := 13) (L' := [some (.ref q0), some (.int x1), some (.int x2), some (.int x3), some (.int x4)]) (st' := [.int (9 : Int32), .ref v_9333, .int x4]) rfl ?_
    obtain ⟨v_9335, e_9336, e⟩ := Option.bind_eq_some_iff.mp e
    refine Rn.hp hT rfl rfl (aI_hp e_9336) ?_
    by_cases c_9337 : v_9335 ≤ x4
    · rw [if_pos c_9337] at e
      refine Rn.bt hT rfl rfl rfl (decide_eq_true c_9337) ?_
      exact Rn.weak (ll_n (ll_n (ll_n (ll_s (ll_n ll_e))))) (hk x3 e)
    · rw [if_neg c_9337] at e
      refine Rn.bf hT rfl rfl rfl (decide_eq_false c_9337) ?_
      refine Rn.n hT 1 (pc' := 18) (L' := [some (.ref q0), some (.int x1), some (.int x2), some (.int x3), some (.int x4)]) (st' := [.ref q0]) rfl ?_
      obtain ⟨v_9338, e_9339, e⟩ := Option.bind_eq_some_iff.mp e
      refine Rn.hp hT rfl rfl (gR_hp e_9339) ?_
      refine Rn.n hT 1 (pc' := 23) (L' := [some (.ref q0), some (.int x1), some (.int x2), some (.int x3), some (.int x4)]) (st' := [.int x4, .ref v_9338]) rfl ?_
      obtain ⟨v_9340, e_9341, e⟩ := Option.bind_eq_some_iff.mp e
      refine Rn.hp hT rfl rfl (aI_hp e_9341) ?_
      refine Rn.n hT 1 (pc' := 25) (L' := [some (.ref q0), some (.int x1), some (.int x2), some (.int x3), some (.int x4)]) (st' := [.int x1, .int v_9340]) rfl ?_
      by_cases c_9342 : v_9340 = x1
      · rw [if_pos c_9342] at e
        refine Rn.bf hT rfl rfl rfl (decide_eq_false (fun z => z c_9342)) ?_
        refine Rn.n hT 1 (pc' := 29) (L' := [some (.ref q0), some (.int x1), some (.int x2), some (.int x3), some (.int x4)]) (st' := [.int x3]) rfl ?_
        by_cases c_9343 : x3 = 0
        · rw [if_pos c_9343] at e
          refine Rn.bt hT rfl rfl rfl (decide_eq_true c_9343) ?_
          exact Rn.weak (ll_s (ll_s (ll_s (ll_n (ll_s ll_e))))) (rX12_isWished_b80 hd ih hk hq e)
        · rw [if_neg c_9343] at e
          refine Rn.bf hT rfl rfl rfl (decide_eq_false c_9343) ?_
          refine Rn.n hT 1 (pc' := 33) (L' := [some (.ref q0), some (.int x1), some (.int x2), some (.int x3), some (.int x4)]) (st' := [.ref q0]) rfl ?_
          obtain ⟨v_9344, e_9345, e⟩ := Option.bind_eq_some_iff.mp e
          refine Rn.hp hT rfl rfl (gR_hp e_9345) ?_
          refine Rn.n hT 1 (pc' := 38) (L' := [some (.ref q0), some (.int x1), some (.int x2), some (.int x3), some (.int x4)]) (st' := [.int x4, .ref v_9344]) rfl ?_
          obtain ⟨v_9346, e_9347, e⟩ := Option.bind_eq_some_iff.mp e
          refine Rn.hp hT rfl rfl (aI_hp e_9347) ?_
          refine Rn.n hT 1 (pc' := 40) (L' := [some (.ref q0), some (.int x1), some (.int x2), some (.int x3), some (.int x4)]) (st' := [.ref q0, .int v_9346]) rfl ?_
          obtain ⟨v_9348, e_9349, e⟩ := Option.bind_eq_some_iff.mp e
          refine Rn.hp hT rfl rfl (gR_hp e_9349) ?_
          refine Rn.n hT 1 (pc' := 45) (L' := [some (.ref q0), some (.int x1), some (.int x2), some (.int x3), some (.int x4)]) (st' := [.int (8 : Int32), .ref v_9348, .int v_9346]) rfl ?_
          obtain ⟨v_9350, e_9351, e⟩ := Option.bind_eq_some_iff.mp e
          refine Rn.hp hT rfl rfl (aI_hp e_9351) ?_
          by_cases c_9352 : v_9350 < v_9346
          · rw [if_pos c_9352] at e
            refine Rn.bt hT rfl rfl rfl (decide_eq_true c_9352) ?_
            exact Rn.weak (ll_s (ll_s (ll_s (ll_n (ll_s ll_e))))) (rX12_isWished_b80 hd ih hk hq e)
          · rw [if_neg c_9352] at e
            refine Rn.bf hT rfl rfl rfl (decide_eq_false c_9352) ?_
            refine Rn.n hT 1 (pc' := 50) (L' := [some (.ref q0), some (.int x1), some (.int x2), some (.int x3), some (.int x4)]) (st' := [.ref q0]) rfl ?_
            obtain ⟨v_9353, e_9354, e⟩ := Option.bind_eq_some_iff.mp e
            refine Rn.hp hT rfl rfl (gR_hp e_9354) ?_
            refine Rn.n hT 2 (pc' := 56) (L' := [some (.ref q0), some (.int x1), some (.int x2), some (.int x3), some (.int x4)]) (st' := [.ref q0, .int (12 : Int32), .ref v_9353]) rfl ?_
            obtain ⟨v_9355, e_9356, e⟩ := Option.bind_eq_some_iff.mp e
            refine Rn.hp hT rfl rfl (gR_hp e_9356) ?_
            refine Rn.n hT 1 (pc' := 61) (L' := [some (.ref q0), some (.int x1), some (.int x2), some (.int x3), some (.int x4)]) (st' := [.int x4, .ref v_9355, .int (12 : Int32), .ref v_9353]) rfl ?_
            obtain ⟨v_9357, e_9358, e⟩ := Option.bind_eq_some_iff.mp e
            refine Rn.hp hT rfl rfl (aI_hp e_9358) ?_
            refine Rn.n hT 3 (pc' := 65) (L' := [some (.ref q0), some (.int x1), some (.int x2), some (.int x3), some (.int x4)]) (st' := [.int (((12 : Int32) * v_9357) + x2), .ref v_9353]) rfl ?_
            obtain ⟨v_9359, e_9360, e⟩ := Option.bind_eq_some_iff.mp e
            refine Rn.hp hT rfl rfl (aI_hp e_9360) ?_
            refine Rn.n hT 1 (pc' := 67) (L' := [some (.ref q0), some (.int x1), some (.int x2), some (.int x3), some (.int x4)]) (st' := [.ref q0, .int v_9359]) rfl ?_
            obtain ⟨v_9361, e_9362, e⟩ := Option.bind_eq_some_iff.mp e
            refine Rn.hp hT rfl rfl (gR_hp e_9362) ?_
            refine Rn.n hT 1 (pc' := 72) (L' := [some (.ref q0), some (.int x1), some (.int x2), some (.int x3), some (.int x4)]) (st' := [.int x4, .ref v_9361, .int v_9359]) rfl ?_
            obtain ⟨v_9363, e_9364, e⟩ := Option.bind_eq_some_iff.mp e
            refine Rn.hp hT rfl rfl (aI_hp e_9364) ?_
            by_cases c_9365 : v_9359 = v_9363
            · rw [if_pos c_9365] at e
              refine Rn.bf hT rfl rfl rfl (decide_eq_false (fun z => z c_9365)) ?_
              refine Rn.n hT 2 (pc' := 81) (L' := [some (.ref q0), some (.int x1), some (.int x2), some (.int x3), some (.int x4)]) (st' := [.int (1 : Int32)]) rfl ?_
              exact Rn.weak (ll_s (ll_s (ll_s (ll_n (ll_s ll_e))))) (rX12_isWished_b81 hd ih hk hq e)
            · rw [if_neg c_9365] at e
              refine Rn.bt hT rfl rfl rfl (decide_eq_true c_9365) ?_
              exact Rn.weak (ll_s (ll_s (ll_s (ll_n (ll_s ll_e))))) (rX12_isWished_b80 hd ih hk hq e)
      · rw [if_neg c_9342] at e
        refine Rn.bt hT rfl rfl rfl (decide_eq_true c_9342) ?_
        exact Rn.weak (ll_s (ll_s (ll_s (ll_s (ll_s ll_e))))) (rX12_isWished_b82 hd ih hk hq e)
def fX12_isWished (N : Nat) (h : iv_H) (q0 : Nat) (x1 : Int32) (x2 : Int32) : Option (Int32) := (fX12_isWished_l5 N h q0 x1 x2 (fun (z_9331 : Int32) => (if z_9331 = 0 ∨ z_9331 = 1 then some z_9331 else none)) N (1 : Int32) (0 : Int32))
set_option maxRecDepth 10000 in
set_option maxHeartbeats 4000000 in
theorem rX12_isWished {d N : Nat} (hd : 1 ≤ d) {h : iv_H} {q0 : Nat} {x1 : Int32} {x2 : Int32} {r : Int32} {Q : Option Value → iv_H → Prop} (e : fX12_isWished N h q0 x1 x2 = some r) (hq : Q (some (.int r)) h) : Cl d 320 [.ref q0, .int x1, .int x2] h Q := by
  obtain ⟨d, rfl⟩ : ∃ k, d = k + 1 := ⟨d - 1, by omega⟩
  have hd : 0 ≤ d := by omega
  have hT := hX12_isWished
  unfold fX12_isWished at e
  refine Cl.into (by decide) gX12_isWished rfl ?_
  show Rn d 320 (some .boolean) 0 [some (.ref q0), some (.int x1), some (.int x2), none, none] [] h Q
  refine Rn.n hT 4 (pc' := 5) (L' := [some (.ref q0), some (.int x1), some (.int x2), some (.int (1 : Int32)), some (.int (0 : Int32))]) (st' := []) rfl ?_
  refine Rn.weak (ll_s (ll_s (ll_s (ll_s (ll_s ll_e))))) (rX12_isWished_l5 hd (fun z_9331 e => ?_) hq N (1 : Int32) (0 : Int32) e)
  try dsimp only at e
  refine Rn.n hT 1 (pc' := 89) (L' := [none, none, none, some (.int z_9331), none]) (st' := [.int z_9331]) rfl ?_
  by_cases c_9332 : z_9331 = 0 ∨ z_9331 = 1
  · rw [if_pos c_9332] at e
    obtain rfl := Option.some.inj e
    exact Rn.ret hT rfl rfl (if_pos c_9332) hq
  · rw [if_neg c_9332] at e
    cases e
set_option maxRecDepth 10000 in
theorem hX12_fillsWho : iv_Tb 321 tX12_fillsWho := iv_tb_of (m := mX12_fillsWho) rfl
set_option maxRecDepth 10000 in
theorem gX12_fillsWho : PG.2 321 = some mX12_fillsWho := iv_pi_of (t := tX12_fillsWho) rfl (by decide)
def fX12_fillsWho_b83 (N : Nat) (h : iv_H) (q0 : Nat) (x1 : Int32) (x2 : Int32) (s0 : Int32) (s1 : Int32) (s2 : Int32) (sq3 : Nat) (kb : iv_H → Int32 → Option (iv_H)) (kx : iv_H → Option (iv_H)) : Option (iv_H) := ((wI h sq3 s2 (s1 ||| s0)).bind fun h_9411 => (kb h_9411 (x2 + (1 : Int32))))
set_option maxRecDepth 10000 in
set_option maxHeartbeats 4000000 in
theorem rX12_fillsWho_b83 {d N : Nat} (hd : 9 ≤ d) {h : iv_H} {q0 : Nat} {x1 : Int32} {x2 : Int32} {s0 : Int32} {s1 : Int32} {s2 : Int32} {sq3 : Nat} {kb : iv_H → Int32 → Option (iv_H)} {kx : iv_H → Option (iv_H)} {r : iv_H} {Q : Option Value → iv_H → Prop} (hb : ∀ (h : iv_H) (w2 : Int32), kb h w2 = some r → Rn d 321 none 50 [some (.ref q0), some (.int x1), some (.int w2)] [] h Q) (hk : ∀ (h : iv_H), kx h = some r → Rn d 321 none 91 [some (.ref q0), some (.int x1), none] [] h Q) (hq : Q none r) (e : fX12_fillsWho_b83 N h q0 x1 x2 s0 s1 s2 sq3 kb kx = some r) : Rn d 321 none 83 [some (.ref q0), some (.int x1), some (.int x2)] [.int s0, .int s1, .int s2, .ref sq3] h Q := by
  have hT := hX12_fillsWho
  unfold fX12_fillsWho_b83 at e
  refine Rn.n hT 1 (pc' := 84) (L' := [some (.ref q0), some (.int x1), some (.int x2)]) (st' := [.int (s1 ||| s0), .int s2, .ref sq3]) rfl ?_
  obtain ⟨h_9411, e_9412, e⟩ := Option.bind_eq_some_iff.mp e
  refine Rn.hp hT rfl rfl (wI_hp e_9412) ?_
  refine Rn.n hT 2 (pc' := 50) (L' := [some (.ref q0), some (.int x1), some (.int (x2 + (1 : Int32)))]) (st' := []) rfl ?_
  exact Rn.weak (ll_s (ll_s (ll_s ll_e))) (hb h_9411 (x2 + (1 : Int32)) e)
def fX12_fillsWho_l50 (N : Nat) (q0 : Nat) (x1 : Int32) (kx : iv_H → Option (iv_H)) : Nat → iv_H → Int32 → Option (iv_H)
  | 0, _, _ => none
  | n + 1, h, x2 => ((gR h 12 1 q0).bind fun v_9398 => ((aI h v_9398 (2 : Int32)).bind fun v_9400 => (if v_9400 ≤ x2 then (kx h) else ((gR h 12 69 q0).bind fun v_9403 => ((aI h v_9403 x1).bind fun v_9405 => ((cko h q0 12).bind fun _ => (fX12_isWished N h q0 x1 x2).bind fun v_9409 => (if v_9409 = 0 then (fX12_fillsWho_b83 N h q0 x1 x2 (0 : Int32) v_9405 x1 v_9403 (fX12_fillsWho_l50 N q0 x1 kx n) kx) else (fX12_fillsWho_b83 N h q0 x1 x2 ((1 : Int32) <<< (x2 &&& 31)) v_9405 x1 v_9403 (fX12_fillsWho_l50 N q0 x1 kx n) kx))))))))
set_option maxRecDepth 10000 in
set_option maxHeartbeats 4000000 in
theorem rX12_fillsWho_l50 {d N : Nat} (hd : 9 ≤ d) {q0 : Nat} {x1 : Int32} {kx : iv_H → Option (iv_H)} {r : iv_H} {Q : Option Value → iv_H → Prop} (hk : ∀ (h : iv_H), kx h = some r → Rn d 321 none 91 [some (.ref q0), some (.int x1), none] [] h Q) (hq : Q none r) : ∀ (n : Nat) (h : iv_H) (x2 : Int32), fX12_fillsWho_l50 N q0 x1 kx n h x2 = some r → Rn d 321 none 50 [some (.ref q0), some (.int x1), some (.int x2)] [] h Q := by
  have hT := hX12_fillsWho
  intro n
  induction n with
  | zero =>
    intro h x2 e
    rw [fX12_fillsWho_l50] at e
    cases e
  | succ n ih =>
    intro h x2 e
    rw [fX12_fillsWho_l50] at e
    refine Rn.n hT 2 (pc' := 52) (L' := [some (.ref q0), some (.int x1), some (.int x2)]) (st' := [.ref q0, .int x2]) rfl ?_
    obtain ⟨v_9398, e_9399, e⟩ := Option.bind_eq_some_iff.mp e
    refine Rn.hp hT rfl rfl (gR_hp e_9399) ?_
    refine Rn.n hT 1 (pc' := 56) (L' := [some (.ref q0), some (.int x1), some (.int x2)]) (st' := [.int (2 : Int32), .ref v_9398, .int x2]) rfl ?_
    obtain ⟨v_9400, e_9401, e⟩ := Option.bind_eq_some_iff.mp e
    refine Rn.hp hT rfl rfl (aI_hp e_9401) ?_
    by_cases c_9402 : v_9400 ≤ x2
    · rw [if_pos c_9402] at e
      refine Rn.bt hT rfl rfl rfl (decide_eq_true c_9402) ?_
      exact Rn.weak (ll_s (ll_s (ll_n ll_e))) (hk h e)
    · rw [if_neg c_9402] at e
      refine Rn.bf hT rfl rfl rfl (decide_eq_false c_9402) ?_
      refine Rn.n hT 1 (pc' := 61) (L' := [some (.ref q0), some (.int x1), some (.int x2)]) (st' := [.ref q0]) rfl ?_
      obtain ⟨v_9403, e_9404, e⟩ := Option.bind_eq_some_iff.mp e
      refine Rn.hp hT rfl rfl (gR_hp e_9404) ?_
      refine Rn.n hT 2 (pc' := 66) (L' := [some (.ref q0), some (.int x1), some (.int x2)]) (st' := [.int x1, .ref v_9403, .int x1, .ref v_9403]) rfl ?_
      obtain ⟨v_9405, e_9406, e⟩ := Option.bind_eq_some_iff.mp e
      refine Rn.hp hT rfl rfl (aI_hp e_9406) ?_
      refine Rn.n hT 3 (pc' := 70) (L' := [some (.ref q0), some (.int x1), some (.int x2)]) (st' := [.int x2, .int x1, .ref q0, .int v_9405, .int x1, .ref v_9403]) rfl ?_
      obtain ⟨_, e_9408, e⟩ := Option.bind_eq_some_iff.mp e
      obtain ⟨v_9409, e_9407, e⟩ := Option.bind_eq_some_iff.mp e
      refine Rn.call hT rfl rfl rfl (Nat.le_of_ble_eq_true rfl) (rcv_v gX12_isWished (by omega) e_9408) (rX12_isWished (by omega) e_9407 ?_)
      show Rn d _ _ 73 [some (.ref q0), some (.int x1), some (.int x2)] [.int v_9409, .int v_9405, .int x1, .ref v_9403] h Q
      by_cases c_9410 : v_9409 = 0
      · rw [if_pos c_9410] at e
        refine Rn.bt hT rfl rfl rfl (decide_eq_true c_9410) ?_
        refine Rn.n hT 1 (pc' := 83) (L' := [some (.ref q0), some (.int x1), some (.int x2)]) (st' := [.int (0 : Int32), .int v_9405, .int x1, .ref v_9403]) rfl ?_
        exact Rn.weak (ll_s (ll_s (ll_s ll_e))) (rX12_fillsWho_b83 hd ih hk hq e)
      · rw [if_neg c_9410] at e
        refine Rn.bf hT rfl rfl rfl (decide_eq_false c_9410) ?_
        refine Rn.n hT 4 (pc' := 83) (L' := [some (.ref q0), some (.int x1), some (.int x2)]) (st' := [.int ((1 : Int32) <<< (x2 &&& 31)), .int v_9405, .int x1, .ref v_9403]) rfl ?_
        exact Rn.weak (ll_s (ll_s (ll_s ll_e))) (rX12_fillsWho_b83 hd ih hk hq e)
def fX12_fillsWho_l31 (N : Nat) (q0 : Nat) (kx : iv_H → Option (iv_H)) : Nat → iv_H → Int32 → Option (iv_H)
  | 0, _, _ => none
  | n + 1, h, x1 => ((gR h 12 1 q0).bind fun v_9388 => ((aI h v_9388 (3 : Int32)).bind fun v_9390 => (if v_9390 ≤ x1 then (kx h) else ((gR h 12 69 q0).bind fun v_9393 => ((wI h v_9393 x1 (0 : Int32)).bind fun h_9395 => (fX12_fillsWho_l50 N q0 x1 (fun (h_9397 : iv_H) => (fX12_fillsWho_l31 N q0 kx n h_9397 (x1 + (1 : Int32)))) N h_9395 (0 : Int32)))))))
set_option maxRecDepth 10000 in
set_option maxHeartbeats 4000000 in
theorem rX12_fillsWho_l31 {d N : Nat} (hd : 9 ≤ d) {q0 : Nat} {kx : iv_H → Option (iv_H)} {r : iv_H} {Q : Option Value → iv_H → Prop} (hk : ∀ (h : iv_H), kx h = some r → Rn d 321 none 97 [some (.ref q0), none, none] [] h Q) (hq : Q none r) : ∀ (n : Nat) (h : iv_H) (x1 : Int32), fX12_fillsWho_l31 N q0 kx n h x1 = some r → Rn d 321 none 31 [some (.ref q0), some (.int x1), none] [] h Q := by
  have hT := hX12_fillsWho
  intro n
  induction n with
  | zero =>
    intro h x1 e
    rw [fX12_fillsWho_l31] at e
    cases e
  | succ n ih =>
    intro h x1 e
    rw [fX12_fillsWho_l31] at e
    refine Rn.n hT 2 (pc' := 33) (L' := [some (.ref q0), some (.int x1), none]) (st' := [.ref q0, .int x1]) rfl ?_
    obtain ⟨v_9388, e_9389, e⟩ := Option.bind_eq_some_iff.mp e
    refine Rn.hp hT rfl rfl (gR_hp e_9389) ?_
    refine Rn.n hT 1 (pc' := 37) (L' := [some (.ref q0), some (.int x1), none]) (st' := [.int (3 : Int32), .ref v_9388, .int x1]) rfl ?_
    obtain ⟨v_9390, e_9391, e⟩ := Option.bind_eq_some_iff.mp e
    refine Rn.hp hT rfl rfl (aI_hp e_9391) ?_
    by_cases c_9392 : v_9390 ≤ x1
    · rw [if_pos c_9392] at e
      refine Rn.bt hT rfl rfl rfl (decide_eq_true c_9392) ?_
      exact Rn.weak (ll_s (ll_n (ll_n ll_e))) (hk h e)
    · rw [if_neg c_9392] at e
      refine Rn.bf hT rfl rfl rfl (decide_eq_false c_9392) ?_
      refine Rn.n hT 1 (pc' := 42) (L' := [some (.ref q0), some (.int x1), none]) (st' := [.ref q0]) rfl ?_
      obtain ⟨v_9393, e_9394, e⟩ := Option.bind_eq_some_iff.mp e
      refine Rn.hp hT rfl rfl (gR_hp e_9394) ?_
      refine Rn.n hT 2 (pc' := 47) (L' := [some (.ref q0), some (.int x1), none]) (st' := [.int (0 : Int32), .int x1, .ref v_9393]) rfl ?_
      obtain ⟨h_9395, e_9396, e⟩ := Option.bind_eq_some_iff.mp e
      refine Rn.hp hT rfl rfl (wI_hp e_9396) ?_
      refine Rn.n hT 2 (pc' := 50) (L' := [some (.ref q0), some (.int x1), some (.int (0 : Int32))]) (st' := []) rfl ?_
      refine Rn.weak (ll_s (ll_s (ll_s ll_e))) (rX12_fillsWho_l50 hd (fun h_9397 e => ?_) hq N h_9395 (0 : Int32) e)
      try dsimp only at e
      refine Rn.n hT 2 (pc' := 31) (L' := [some (.ref q0), some (.int (x1 + (1 : Int32))), none]) (st' := []) rfl ?_
      exact Rn.weak (ll_s (ll_s (ll_n ll_e))) (ih h_9397 (x1 + (1 : Int32)) e)
def fX12_fillsWho_l99 (N : Nat) (q0 : Nat) (kx : iv_H → Option (iv_H)) : Nat → iv_H → Int32 → Option (iv_H)
  | 0, _, _ => none
  | n + 1, h, x1 => ((gR h 12 73 q0).bind fun v_9413 => ((aL h v_9413).bind fun v_9415 => (if v_9415 ≤ x1 then (kx h) else ((gR h 12 73 q0).bind fun v_9418 => ((wI h v_9418 x1 (0 : Int32)).bind fun h_9420 => (fX12_fillsWho_l99 N q0 kx n h_9420 (x1 + (1 : Int32))))))))
set_option maxRecDepth 10000 in
set_option maxHeartbeats 4000000 in
theorem rX12_fillsWho_l99 {d N : Nat} (hd : 9 ≤ d) {q0 : Nat} {kx : iv_H → Option (iv_H)} {r : iv_H} {Q : Option Value → iv_H → Prop} (hk : ∀ (h : iv_H), kx h = some r → Rn d 321 none 121 [none, none, none] [] h Q) (hq : Q none r) : ∀ (n : Nat) (h : iv_H) (x1 : Int32), fX12_fillsWho_l99 N q0 kx n h x1 = some r → Rn d 321 none 99 [some (.ref q0), some (.int x1), none] [] h Q := by
  have hT := hX12_fillsWho
  intro n
  induction n with
  | zero =>
    intro h x1 e
    rw [fX12_fillsWho_l99] at e
    cases e
  | succ n ih =>
    intro h x1 e
    rw [fX12_fillsWho_l99] at e
    refine Rn.n hT 2 (pc' := 101) (L' := [some (.ref q0), some (.int x1), none]) (st' := [.ref q0, .int x1]) rfl ?_
    obtain ⟨v_9413, e_9414, e⟩ := Option.bind_eq_some_iff.mp e
    refine Rn.hp hT rfl rfl (gR_hp e_9414) ?_
    obtain ⟨v_9415, e_9416, e⟩ := Option.bind_eq_some_iff.mp e
    refine Rn.hp hT rfl rfl (aL_hp e_9416) ?_
    by_cases c_9417 : v_9415 ≤ x1
    · rw [if_pos c_9417] at e
      refine Rn.bt hT rfl rfl rfl (decide_eq_true c_9417) ?_
      exact Rn.weak (ll_n (ll_n (ll_n ll_e))) (hk h e)
    · rw [if_neg c_9417] at e
      refine Rn.bf hT rfl rfl rfl (decide_eq_false c_9417) ?_
      refine Rn.n hT 1 (pc' := 109) (L' := [some (.ref q0), some (.int x1), none]) (st' := [.ref q0]) rfl ?_
      obtain ⟨v_9418, e_9419, e⟩ := Option.bind_eq_some_iff.mp e
      refine Rn.hp hT rfl rfl (gR_hp e_9419) ?_
      refine Rn.n hT 2 (pc' := 114) (L' := [some (.ref q0), some (.int x1), none]) (st' := [.int (0 : Int32), .int x1, .ref v_9418]) rfl ?_
      obtain ⟨h_9420, e_9421, e⟩ := Option.bind_eq_some_iff.mp e
      refine Rn.hp hT rfl rfl (wI_hp e_9421) ?_
      refine Rn.n hT 2 (pc' := 99) (L' := [some (.ref q0), some (.int (x1 + (1 : Int32))), none]) (st' := []) rfl ?_
      exact Rn.weak (ll_s (ll_s (ll_n ll_e))) (ih h_9420 (x1 + (1 : Int32)) e)
def fX12_fillsWho (N : Nat) (h : iv_H) (q0 : Nat) : Option (iv_H) := ((gR h 12 55 q0).bind fun v_9366 => ((cko h q0 12).bind fun _ => (fX12_fillsFloor N h q0 v_9366 (0 : Int32)).bind fun h_9371 => ((gR h_9371 12 1 q0).bind fun v_9372 => ((aI h_9371 v_9372 (8 : Int32)).bind fun v_9374 => ((cko h_9371 q0 12).bind fun _ => (fX12_followsSome N h_9371 q0 v_9374).bind fun h_9379 => ((gR h_9379 12 55 q0).bind fun v_9380 => ((cko h_9379 q0 12).bind fun _ => (fX12_laysFloor N h_9379 q0 v_9380 (0 : Int32)).bind fun h_9385 => (fX12_fillsWho_l31 N q0 (fun (h_9386 : iv_H) => (fX12_fillsWho_l99 N q0 (fun (h_9387 : iv_H) => some h_9387) N h_9386 (0 : Int32))) N h_9385 (0 : Int32)))))))))
set_option maxRecDepth 10000 in
set_option maxHeartbeats 4000000 in
theorem rX12_fillsWho {d N : Nat} (hd : 10 ≤ d) {h : iv_H} {q0 : Nat} {r : iv_H} {Q : Option Value → iv_H → Prop} (e : fX12_fillsWho N h q0 = some r) (hq : Q none r) : Cl d 321 [.ref q0] h Q := by
  obtain ⟨d, rfl⟩ : ∃ k, d = k + 1 := ⟨d - 1, by omega⟩
  have hd : 9 ≤ d := by omega
  have hT := hX12_fillsWho
  unfold fX12_fillsWho at e
  refine Cl.into (by decide) gX12_fillsWho rfl ?_
  show Rn d 321 none 0 [some (.ref q0), none, none] [] h Q
  refine Rn.n hT 2 (pc' := 2) (L' := [some (.ref q0), none, none]) (st' := [.ref q0, .ref q0]) rfl ?_
  obtain ⟨v_9366, e_9367, e⟩ := Option.bind_eq_some_iff.mp e
  refine Rn.hp hT rfl rfl (gR_hp e_9367) ?_
  refine Rn.n hT 1 (pc' := 6) (L' := [some (.ref q0), none, none]) (st' := [.int (0 : Int32), .ref v_9366, .ref q0]) rfl ?_
  obtain ⟨_, e_9369, e⟩ := Option.bind_eq_some_iff.mp e
  obtain ⟨h_9371, e_9368, e⟩ := Option.bind_eq_some_iff.mp e
  refine Rn.call hT rfl rfl rfl (Nat.le_of_ble_eq_true rfl) (rcv_v gX12_fillsFloor (by omega) e_9369) (rX12_fillsFloor (by omega) e_9368 ?_)
  show Rn d _ _ 9 [some (.ref q0), none, none] [] h_9371 Q
  refine Rn.n hT 2 (pc' := 11) (L' := [some (.ref q0), none, none]) (st' := [.ref q0, .ref q0]) rfl ?_
  obtain ⟨v_9372, e_9373, e⟩ := Option.bind_eq_some_iff.mp e
  refine Rn.hp hT rfl rfl (gR_hp e_9373) ?_
  refine Rn.n hT 1 (pc' := 16) (L' := [some (.ref q0), none, none]) (st' := [.int (8 : Int32), .ref v_9372, .ref q0]) rfl ?_
  obtain ⟨v_9374, e_9375, e⟩ := Option.bind_eq_some_iff.mp e
  refine Rn.hp hT rfl rfl (aI_hp e_9375) ?_
  obtain ⟨_, e_9377, e⟩ := Option.bind_eq_some_iff.mp e
  obtain ⟨h_9379, e_9376, e⟩ := Option.bind_eq_some_iff.mp e
  refine Rn.call hT rfl rfl rfl (Nat.le_of_ble_eq_true rfl) (rcv_v gX12_followsSome (by omega) e_9377) (rX12_followsSome (by omega) e_9376 ?_)
  show Rn d _ _ 20 [some (.ref q0), none, none] [] h_9379 Q
  refine Rn.n hT 2 (pc' := 22) (L' := [some (.ref q0), none, none]) (st' := [.ref q0, .ref q0]) rfl ?_
  obtain ⟨v_9380, e_9381, e⟩ := Option.bind_eq_some_iff.mp e
  refine Rn.hp hT rfl rfl (gR_hp e_9381) ?_
  refine Rn.n hT 1 (pc' := 26) (L' := [some (.ref q0), none, none]) (st' := [.int (0 : Int32), .ref v_9380, .ref q0]) rfl ?_
  obtain ⟨_, e_9383, e⟩ := Option.bind_eq_some_iff.mp e
  obtain ⟨h_9385, e_9382, e⟩ := Option.bind_eq_some_iff.mp e
  refine Rn.call hT rfl rfl rfl (Nat.le_of_ble_eq_true rfl) (rcv_v gX12_laysFloor (by omega) e_9383) (rX12_laysFloor (by omega) e_9382 ?_)
  show Rn d _ _ 29 [some (.ref q0), none, none] [] h_9385 Q
  refine Rn.n hT 2 (pc' := 31) (L' := [some (.ref q0), some (.int (0 : Int32)), none]) (st' := []) rfl ?_
  refine Rn.weak (ll_s (ll_s (ll_n ll_e))) (rX12_fillsWho_l31 hd (fun h_9386 e => ?_) hq N h_9385 (0 : Int32) e)
  try dsimp only at e
  refine Rn.n hT 2 (pc' := 99) (L' := [some (.ref q0), some (.int (0 : Int32)), none]) (st' := []) rfl ?_
  refine Rn.weak (ll_s (ll_s (ll_n ll_e))) (rX12_fillsWho_l99 hd (fun h_9387 e => ?_) hq N h_9386 (0 : Int32) e)
  try dsimp only at e
  obtain rfl := Option.some.inj e
  exact Rn.ret hT rfl rfl rfl hq
set_option maxRecDepth 10000 in
theorem hX12_notesBeds : iv_Tb 322 tX12_notesBeds := iv_tb_of (m := mX12_notesBeds) rfl
set_option maxRecDepth 10000 in
theorem gX12_notesBeds : PG.2 322 = some mX12_notesBeds := iv_pi_of (t := tX12_notesBeds) rfl (by decide)
def fX12_notesBeds_b51 (N : Nat) (h : iv_H) (q0 : Nat) (x1 : Int32) (x2 : Int32) (x3 : Int32) (s0 : Int32) (s1 : Int32) (sq2 : Nat) (kb : iv_H → Int32 → Option (iv_H)) (kx : iv_H → Option (iv_H)) : Option (iv_H) := ((wI h sq2 s1 s0).bind fun h_9445 => (kb h_9445 (x3 + (1 : Int32))))
set_option maxRecDepth 10000 in
set_option maxHeartbeats 4000000 in
theorem rX12_notesBeds_b51 {d N : Nat} (hd : 0 ≤ d) {h : iv_H} {q0 : Nat} {x1 : Int32} {x2 : Int32} {x3 : Int32} {s0 : Int32} {s1 : Int32} {sq2 : Nat} {kb : iv_H → Int32 → Option (iv_H)} {kx : iv_H → Option (iv_H)} {r : iv_H} {Q : Option Value → iv_H → Prop} (hb : ∀ (h : iv_H) (w3 : Int32), kb h w3 = some r → Rn d 322 none 2 [some (.ref q0), some (.int x1), some (.int x2), some (.int w3)] [] h Q) (hk : ∀ (h : iv_H), kx h = some r → Rn d 322 none 58 [none, none, none, none] [] h Q) (hq : Q none r) (e : fX12_notesBeds_b51 N h q0 x1 x2 x3 s0 s1 sq2 kb kx = some r) : Rn d 322 none 51 [some (.ref q0), some (.int x1), some (.int x2), some (.int x3)] [.int s0, .int s1, .ref sq2] h Q := by
  have hT := hX12_notesBeds
  unfold fX12_notesBeds_b51 at e
  obtain ⟨h_9445, e_9446, e⟩ := Option.bind_eq_some_iff.mp e
  refine Rn.hp hT rfl rfl (wI_hp e_9446) ?_
  refine Rn.n hT 2 (pc' := 2) (L' := [some (.ref q0), some (.int x1), some (.int x2), some (.int (x3 + (1 : Int32)))]) (st' := []) rfl ?_
  exact Rn.weak (ll_s (ll_s (ll_s (ll_s ll_e)))) (hb h_9445 (x3 + (1 : Int32)) e)
def fX12_notesBeds_l2 (N : Nat) (q0 : Nat) (x1 : Int32) (x2 : Int32) (kx : iv_H → Option (iv_H)) : Nat → iv_H → Int32 → Option (iv_H)
  | 0, _, _ => none
  | n + 1, h, x3 => (if x1 ≤ x3 then (kx h) else ((gR h 12 73 q0).bind fun v_9424 => ((gR h 12 70 q0).bind fun v_9426 => ((aI h v_9426 x3).bind fun v_9428 => ((aI h v_9424 (((12 : Int32) * x3) + v_9428)).bind fun v_9430 => ((wI h v_9424 (((12 : Int32) * x3) + v_9428) (v_9430 + (1 : Int32))).bind fun h_9432 => ((gR h_9432 12 72 q0).bind fun v_9434 => (if x2 = 0 then ((gR h_9432 12 72 q0).bind fun v_9437 => ((aI h_9432 v_9437 x3).bind fun v_9439 => (fX12_notesBeds_b51 N h_9432 q0 x1 x2 x3 v_9439 x3 v_9434 (fX12_notesBeds_l2 N q0 x1 x2 kx n) kx))) else ((gR h_9432 12 70 q0).bind fun v_9441 => ((aI h_9432 v_9441 x3).bind fun v_9443 => (fX12_notesBeds_b51 N h_9432 q0 x1 x2 x3 v_9443 x3 v_9434 (fX12_notesBeds_l2 N q0 x1 x2 kx n) kx)))))))))))
set_option maxRecDepth 10000 in
set_option maxHeartbeats 4000000 in
theorem rX12_notesBeds_l2 {d N : Nat} (hd : 0 ≤ d) {q0 : Nat} {x1 : Int32} {x2 : Int32} {kx : iv_H → Option (iv_H)} {r : iv_H} {Q : Option Value → iv_H → Prop} (hk : ∀ (h : iv_H), kx h = some r → Rn d 322 none 58 [none, none, none, none] [] h Q) (hq : Q none r) : ∀ (n : Nat) (h : iv_H) (x3 : Int32), fX12_notesBeds_l2 N q0 x1 x2 kx n h x3 = some r → Rn d 322 none 2 [some (.ref q0), some (.int x1), some (.int x2), some (.int x3)] [] h Q := by
  have hT := hX12_notesBeds
  intro n
  induction n with
  | zero =>
    intro h x3 e
    rw [fX12_notesBeds_l2] at e
    cases e
  | succ n ih =>
    intro h x3 e
    rw [fX12_notesBeds_l2] at e
    refine Rn.n hT 2 (pc' := 4) (L' := [some (.ref q0), some (.int x1), some (.int x2), some (.int x3)]) (st' := [.int x1, .int x3]) rfl ?_
    by_cases c_9423 : x1 ≤ x3
    · rw [if_pos c_9423] at e
      refine Rn.bt hT rfl rfl rfl (decide_eq_true c_9423) ?_
      exact Rn.weak (ll_n (ll_n (ll_n (ll_n ll_e)))) (hk h e)
    · rw [if_neg c_9423] at e
      refine Rn.bf hT rfl rfl rfl (decide_eq_false c_9423) ?_
      refine Rn.n hT 1 (pc' := 8) (L' := [some (.ref q0), some (.int x1), some (.int x2), some (.int x3)]) (st' := [.ref q0]) rfl ?_
      obtain ⟨v_9424, e_9425, e⟩ := Option.bind_eq_some_iff.mp e
      refine Rn.hp hT rfl rfl (gR_hp e_9425) ?_
      refine Rn.n hT 4 (pc' := 16) (L' := [some (.ref q0), some (.int x1), some (.int x2), some (.int x3)]) (st' := [.ref q0, .int ((12 : Int32) * x3), .ref v_9424]) rfl ?_
      obtain ⟨v_9426, e_9427, e⟩ := Option.bind_eq_some_iff.mp e
      refine Rn.hp hT rfl rfl (gR_hp e_9427) ?_
      refine Rn.n hT 1 (pc' := 20) (L' := [some (.ref q0), some (.int x1), some (.int x2), some (.int x3)]) (st' := [.int x3, .ref v_9426, .int ((12 : Int32) * x3), .ref v_9424]) rfl ?_
      obtain ⟨v_9428, e_9429, e⟩ := Option.bind_eq_some_iff.mp e
      refine Rn.hp hT rfl rfl (aI_hp e_9429) ?_
      refine Rn.n hT 2 (pc' := 23) (L' := [some (.ref q0), some (.int x1), some (.int x2), some (.int x3)]) (st' := [.int (((12 : Int32) * x3) + v_9428), .ref v_9424, .int (((12 : Int32) * x3) + v_9428), .ref v_9424]) rfl ?_
      obtain ⟨v_9430, e_9431, e⟩ := Option.bind_eq_some_iff.mp e
      refine Rn.hp hT rfl rfl (aI_hp e_9431) ?_
      refine Rn.n hT 2 (pc' := 26) (L' := [some (.ref q0), some (.int x1), some (.int x2), some (.int x3)]) (st' := [.int (v_9430 + (1 : Int32)), .int (((12 : Int32) * x3) + v_9428), .ref v_9424]) rfl ?_
      obtain ⟨h_9432, e_9433, e⟩ := Option.bind_eq_some_iff.mp e
      refine Rn.hp hT rfl rfl (wI_hp e_9433) ?_
      refine Rn.n hT 1 (pc' := 28) (L' := [some (.ref q0), some (.int x1), some (.int x2), some (.int x3)]) (st' := [.ref q0]) rfl ?_
      obtain ⟨v_9434, e_9435, e⟩ := Option.bind_eq_some_iff.mp e
      refine Rn.hp hT rfl rfl (gR_hp e_9435) ?_
      refine Rn.n hT 2 (pc' := 33) (L' := [some (.ref q0), some (.int x1), some (.int x2), some (.int x3)]) (st' := [.int x2, .int x3, .ref v_9434]) rfl ?_
      by_cases c_9436 : x2 = 0
      · rw [if_pos c_9436] at e
        refine Rn.bt hT rfl rfl rfl (decide_eq_true c_9436) ?_
        refine Rn.n hT 1 (pc' := 46) (L' := [some (.ref q0), some (.int x1), some (.int x2), some (.int x3)]) (st' := [.ref q0, .int x3, .ref v_9434]) rfl ?_
        obtain ⟨v_9437, e_9438, e⟩ := Option.bind_eq_some_iff.mp e
        refine Rn.hp hT rfl rfl (gR_hp e_9438) ?_
        refine Rn.n hT 1 (pc' := 50) (L' := [some (.ref q0), some (.int x1), some (.int x2), some (.int x3)]) (st' := [.int x3, .ref v_9437, .int x3, .ref v_9434]) rfl ?_
        obtain ⟨v_9439, e_9440, e⟩ := Option.bind_eq_some_iff.mp e
        refine Rn.hp hT rfl rfl (aI_hp e_9440) ?_
        exact Rn.weak (ll_s (ll_s (ll_s (ll_s ll_e)))) (rX12_notesBeds_b51 hd ih hk hq e)
      · rw [if_neg c_9436] at e
        refine Rn.bf hT rfl rfl rfl (decide_eq_false c_9436) ?_
        refine Rn.n hT 1 (pc' := 37) (L' := [some (.ref q0), some (.int x1), some (.int x2), some (.int x3)]) (st' := [.ref q0, .int x3, .ref v_9434]) rfl ?_
        obtain ⟨v_9441, e_9442, e⟩ := Option.bind_eq_some_iff.mp e
        refine Rn.hp hT rfl rfl (gR_hp e_9442) ?_
        refine Rn.n hT 1 (pc' := 41) (L' := [some (.ref q0), some (.int x1), some (.int x2), some (.int x3)]) (st' := [.int x3, .ref v_9441, .int x3, .ref v_9434]) rfl ?_
        obtain ⟨v_9443, e_9444, e⟩ := Option.bind_eq_some_iff.mp e
        refine Rn.hp hT rfl rfl (aI_hp e_9444) ?_
        refine Rn.n hT 1 (pc' := 51) (L' := [some (.ref q0), some (.int x1), some (.int x2), some (.int x3)]) (st' := [.int v_9443, .int x3, .ref v_9434]) rfl ?_
        exact Rn.weak (ll_s (ll_s (ll_s (ll_s ll_e)))) (rX12_notesBeds_b51 hd ih hk hq e)
def fX12_notesBeds (N : Nat) (h : iv_H) (q0 : Nat) (x1 : Int32) (x2 : Int32) : Option (iv_H) := (fX12_notesBeds_l2 N q0 x1 x2 (fun (h_9422 : iv_H) => some h_9422) N h (0 : Int32))
set_option maxRecDepth 10000 in
set_option maxHeartbeats 4000000 in
theorem rX12_notesBeds {d N : Nat} (hd : 1 ≤ d) {h : iv_H} {q0 : Nat} {x1 : Int32} {x2 : Int32} {r : iv_H} {Q : Option Value → iv_H → Prop} (e : fX12_notesBeds N h q0 x1 x2 = some r) (hq : Q none r) : Cl d 322 [.ref q0, .int x1, .int x2] h Q := by
  obtain ⟨d, rfl⟩ : ∃ k, d = k + 1 := ⟨d - 1, by omega⟩
  have hd : 0 ≤ d := by omega
  have hT := hX12_notesBeds
  unfold fX12_notesBeds at e
  refine Cl.into (by decide) gX12_notesBeds rfl ?_
  show Rn d 322 none 0 [some (.ref q0), some (.int x1), some (.int x2), none] [] h Q
  refine Rn.n hT 2 (pc' := 2) (L' := [some (.ref q0), some (.int x1), some (.int x2), some (.int (0 : Int32))]) (st' := []) rfl ?_
  refine Rn.weak (ll_s (ll_s (ll_s (ll_s ll_e)))) (rX12_notesBeds_l2 hd (fun h_9422 e => ?_) hq N h (0 : Int32) e)
  try dsimp only at e
  obtain rfl := Option.some.inj e
  exact Rn.ret hT rfl rfl rfl hq
set_option maxRecDepth 10000 in
theorem hX12_findsBeds : iv_Tb 323 tX12_findsBeds := iv_tb_of (m := mX12_findsBeds) rfl
set_option maxRecDepth 10000 in
theorem gX12_findsBeds : PG.2 323 = some mX12_findsBeds := iv_pi_of (t := tX12_findsBeds) rfl (by decide)
def fX12_findsBeds_b91 (N : Nat) (h : iv_H) (q0 : Nat) (x1 : Int32) (x2 : Int32) (x3 : Int32) (x4 : Int32)  (kb : iv_H → Int32 → Option (Int32 × iv_H)) (kx : iv_H → Int32 → Option (Int32 × iv_H)) : Option (Int32 × iv_H) := (kb h (x4 + (1 : Int32)))
set_option maxRecDepth 10000 in
set_option maxHeartbeats 4000000 in
theorem rX12_findsBeds_b91 {d N : Nat} (hd : 10 ≤ d) {h : iv_H} {q0 : Nat} {x1 : Int32} {x2 : Int32} {x3 : Int32} {x4 : Int32}  {kb : iv_H → Int32 → Option (Int32 × iv_H)} {kx : iv_H → Int32 → Option (Int32 × iv_H)} {r : Int32 × iv_H} {Q : Option Value → iv_H → Prop} (hb : ∀ (h : iv_H) (w4 : Int32), kb h w4 = some r → Rn d 323 (some .int) 51 [some (.ref q0), some (.int x1), some (.int x2), some (.int x3), some (.int w4)] [] h Q) (hk : ∀ (h : iv_H) (w4 : Int32), kx h w4 = some r → Rn d 323 (some .int) 97 [some (.ref q0), some (.int x1), some (.int x2), some (.int x3), some (.int w4)] [] h Q) (hq : Q (some (.int r.1)) r.2) (e : fX12_findsBeds_b91 N h q0 x1 x2 x3 x4  kb kx = some r) : Rn d 323 (some .int) 91 [some (.ref q0), some (.int x1), some (.int x2), some (.int x3), some (.int x4)] [] h Q := by
  have hT := hX12_findsBeds
  unfold fX12_findsBeds_b91 at e
  refine Rn.n hT 2 (pc' := 51) (L' := [some (.ref q0), some (.int x1), some (.int x2), some (.int x3), some (.int (x4 + (1 : Int32)))]) (st' := []) rfl ?_
  exact Rn.weak (ll_s (ll_s (ll_s (ll_s (ll_s ll_e))))) (hb h (x4 + (1 : Int32)) e)
def fX12_findsBeds_l51 (N : Nat) (q0 : Nat) (x1 : Int32) (x2 : Int32) (x3 : Int32) (kx : iv_H → Int32 → Option (Int32 × iv_H)) : Nat → iv_H → Int32 → Option (Int32 × iv_H)
  | 0, _, _ => none
  | n + 1, h, x4 => ((gR h 12 1 q0).bind fun v_9474 => ((aI h v_9474 (2 : Int32)).bind fun v_9476 => (if v_9476 ≤ x4 then (kx h x4) else ((gR h 12 71 q0).bind fun v_9479 => ((aI h v_9479 x3).bind fun v_9481 => (if ((v_9481 >>> (x4 &&& 31)) &&& (1 : Int32)) = (1 : Int32) then (fX12_findsBeds_b91 N h q0 x1 x2 x3 x4 (fX12_findsBeds_l51 N q0 x1 x2 x3 kx n) kx) else ((gR h 12 69 q0).bind fun v_9484 => ((aI h v_9484 x3).bind fun v_9486 => (if ((v_9486 >>> (x4 &&& 31)) &&& (1 : Int32)) = 0 then (fX12_findsBeds_b91 N h q0 x1 x2 x3 x4 (fX12_findsBeds_l51 N q0 x1 x2 x3 kx n) kx) else (kx h x4))))))))))
set_option maxRecDepth 10000 in
set_option maxHeartbeats 4000000 in
theorem rX12_findsBeds_l51 {d N : Nat} (hd : 10 ≤ d) {q0 : Nat} {x1 : Int32} {x2 : Int32} {x3 : Int32} {kx : iv_H → Int32 → Option (Int32 × iv_H)} {r : Int32 × iv_H} {Q : Option Value → iv_H → Prop} (hk : ∀ (h : iv_H) (x4 : Int32), kx h x4 = some r → Rn d 323 (some .int) 97 [some (.ref q0), some (.int x1), some (.int x2), some (.int x3), some (.int x4)] [] h Q) (hq : Q (some (.int r.1)) r.2) : ∀ (n : Nat) (h : iv_H) (x4 : Int32), fX12_findsBeds_l51 N q0 x1 x2 x3 kx n h x4 = some r → Rn d 323 (some .int) 51 [some (.ref q0), some (.int x1), some (.int x2), some (.int x3), some (.int x4)] [] h Q := by
  have hT := hX12_findsBeds
  intro n
  induction n with
  | zero =>
    intro h x4 e
    rw [fX12_findsBeds_l51] at e
    cases e
  | succ n ih =>
    intro h x4 e
    rw [fX12_findsBeds_l51] at e
    refine Rn.n hT 2 (pc' := 54) (L' := [some (.ref q0), some (.int x1), some (.int x2), some (.int x3), some (.int x4)]) (st' := [.ref q0, .int x4]) rfl ?_
    obtain ⟨v_9474, e_9475, e⟩ := Option.bind_eq_some_iff.mp e
    refine Rn.hp hT rfl rfl (gR_hp e_9475) ?_
    refine Rn.n hT 1 (pc' := 58) (L' := [some (.ref q0), some (.int x1), some (.int x2), some (.int x3), some (.int x4)]) (st' := [.int (2 : Int32), .ref v_9474, .int x4]) rfl ?_
    obtain ⟨v_9476, e_9477, e⟩ := Option.bind_eq_some_iff.mp e
    refine Rn.hp hT rfl rfl (aI_hp e_9477) ?_
    by_cases c_9478 : v_9476 ≤ x4
    · rw [if_pos c_9478] at e
      refine Rn.bt hT rfl rfl rfl (decide_eq_true c_9478) ?_
      exact Rn.weak (ll_s (ll_s (ll_s (ll_s (ll_s ll_e))))) (hk h x4 e)
    · rw [if_neg c_9478] at e
      refine Rn.bf hT rfl rfl rfl (decide_eq_false c_9478) ?_
      refine Rn.n hT 1 (pc' := 63) (L' := [some (.ref q0), some (.int x1), some (.int x2), some (.int x3), some (.int x4)]) (st' := [.ref q0]) rfl ?_
      obtain ⟨v_9479, e_9480, e⟩ := Option.bind_eq_some_iff.mp e
      refine Rn.hp hT rfl rfl (gR_hp e_9480) ?_
      refine Rn.n hT 1 (pc' := 67) (L' := [some (.ref q0), some (.int x1), some (.int x2), some (.int x3), some (.int x4)]) (st' := [.int x3, .ref v_9479]) rfl ?_
      obtain ⟨v_9481, e_9482, e⟩ := Option.bind_eq_some_iff.mp e
      refine Rn.hp hT rfl rfl (aI_hp e_9482) ?_
      refine Rn.n hT 5 (pc' := 74) (L' := [some (.ref q0), some (.int x1), some (.int x2), some (.int x3), some (.int x4)]) (st' := [.int (1 : Int32), .int ((v_9481 >>> (x4 &&& 31)) &&& (1 : Int32))]) rfl ?_
      by_cases c_9483 : ((v_9481 >>> (x4 &&& 31)) &&& (1 : Int32)) = (1 : Int32)
      · rw [if_pos c_9483] at e
        refine Rn.bt hT rfl rfl rfl (decide_eq_true c_9483) ?_
        exact Rn.weak (ll_s (ll_s (ll_s (ll_s (ll_s ll_e))))) (rX12_findsBeds_b91 hd ih hk hq e)
      · rw [if_neg c_9483] at e
        refine Rn.bf hT rfl rfl rfl (decide_eq_false c_9483) ?_
        refine Rn.n hT 1 (pc' := 78) (L' := [some (.ref q0), some (.int x1), some (.int x2), some (.int x3), some (.int x4)]) (st' := [.ref q0]) rfl ?_
        obtain ⟨v_9484, e_9485, e⟩ := Option.bind_eq_some_iff.mp e
        refine Rn.hp hT rfl rfl (gR_hp e_9485) ?_
        refine Rn.n hT 1 (pc' := 82) (L' := [some (.ref q0), some (.int x1), some (.int x2), some (.int x3), some (.int x4)]) (st' := [.int x3, .ref v_9484]) rfl ?_
        obtain ⟨v_9486, e_9487, e⟩ := Option.bind_eq_some_iff.mp e
        refine Rn.hp hT rfl rfl (aI_hp e_9487) ?_
        refine Rn.n hT 4 (pc' := 88) (L' := [some (.ref q0), some (.int x1), some (.int x2), some (.int x3), some (.int x4)]) (st' := [.int ((v_9486 >>> (x4 &&& 31)) &&& (1 : Int32))]) rfl ?_
        by_cases c_9488 : ((v_9486 >>> (x4 &&& 31)) &&& (1 : Int32)) = 0
        · rw [if_pos c_9488] at e
          refine Rn.bf hT rfl rfl rfl (decide_eq_false (fun z => z c_9488)) ?_
          exact Rn.weak (ll_s (ll_s (ll_s (ll_s (ll_s ll_e))))) (rX12_findsBeds_b91 hd ih hk hq e)
        · rw [if_neg c_9488] at e
          refine Rn.bt hT rfl rfl rfl (decide_eq_true c_9488) ?_
          exact Rn.weak (ll_s (ll_s (ll_s (ll_s (ll_s ll_e))))) (hk h x4 e)
def fX12_findsBeds_b179 (N : Nat) (h : iv_H) (q0 : Nat) (x1 : Int32) (x2 : Int32) (x3 : Int32)  (kb : iv_H → Int32 → Int32 → Option (Int32 × iv_H)) (kx : iv_H → Int32 → Option (Int32 × iv_H)) : Option (Int32 × iv_H) := (kb h x2 x3)
set_option maxRecDepth 10000 in
set_option maxHeartbeats 4000000 in
theorem rX12_findsBeds_b179 {d N : Nat} (hd : 10 ≤ d) {h : iv_H} {q0 : Nat} {x1 : Int32} {x2 : Int32} {x3 : Int32}  {kb : iv_H → Int32 → Int32 → Option (Int32 × iv_H)} {kx : iv_H → Int32 → Option (Int32 × iv_H)} {r : Int32 × iv_H} {Q : Option Value → iv_H → Prop} (hb : ∀ (h : iv_H) (w2 : Int32) (w3 : Int32), kb h w2 w3 = some r → Rn d 323 (some .int) 37 [some (.ref q0), some (.int x1), some (.int w2), some (.int w3), none] [] h Q) (hk : ∀ (h : iv_H) (w2 : Int32), kx h w2 = some r → Rn d 323 (some .int) 182 [none, some (.int x1), some (.int w2), none, none] [] h Q) (hq : Q (some (.int r.1)) r.2) (e : fX12_findsBeds_b179 N h q0 x1 x2 x3  kb kx = some r) : Rn d 323 (some .int) 179 [some (.ref q0), some (.int x1), some (.int x2), some (.int x3), none] [] h Q := by
  have hT := hX12_findsBeds
  unfold fX12_findsBeds_b179 at e
  refine Rn.n hT 1 (pc' := 37) (L' := [some (.ref q0), some (.int x1), some (.int x2), some (.int x3), none]) (st' := []) rfl ?_
  exact Rn.weak (ll_s (ll_s (ll_s (ll_s (ll_n ll_e))))) (hb h x2 x3 e)
def fX12_findsBeds_b144 (N : Nat) (h : iv_H) (q0 : Nat) (x1 : Int32) (x2 : Int32) (x3 : Int32) (s0 : Int32) (s1 : Int32) (sq2 : Nat) (kb : iv_H → Int32 → Int32 → Option (Int32 × iv_H)) (kx : iv_H → Int32 → Option (Int32 × iv_H)) : Option (Int32 × iv_H) := ((cko h sq2 12).bind fun _ => (fX12_notesBeds N h sq2 s1 s0).bind fun h_9515 => (fX12_findsBeds_b179 N h_9515 q0 x1 x2 x3 kb kx))
set_option maxRecDepth 10000 in
set_option maxHeartbeats 4000000 in
theorem rX12_findsBeds_b144 {d N : Nat} (hd : 10 ≤ d) {h : iv_H} {q0 : Nat} {x1 : Int32} {x2 : Int32} {x3 : Int32} {s0 : Int32} {s1 : Int32} {sq2 : Nat} {kb : iv_H → Int32 → Int32 → Option (Int32 × iv_H)} {kx : iv_H → Int32 → Option (Int32 × iv_H)} {r : Int32 × iv_H} {Q : Option Value → iv_H → Prop} (hb : ∀ (h : iv_H) (w2 : Int32) (w3 : Int32), kb h w2 w3 = some r → Rn d 323 (some .int) 37 [some (.ref q0), some (.int x1), some (.int w2), some (.int w3), none] [] h Q) (hk : ∀ (h : iv_H) (w2 : Int32), kx h w2 = some r → Rn d 323 (some .int) 182 [none, some (.int x1), some (.int w2), none, none] [] h Q) (hq : Q (some (.int r.1)) r.2) (e : fX12_findsBeds_b144 N h q0 x1 x2 x3 s0 s1 sq2 kb kx = some r) : Rn d 323 (some .int) 144 [some (.ref q0), some (.int x1), some (.int x2), some (.int x3), none] [.int s0, .int s1, .ref sq2] h Q := by
  have hT := hX12_findsBeds
  unfold fX12_findsBeds_b144 at e
  obtain ⟨_, e_9513, e⟩ := Option.bind_eq_some_iff.mp e
  obtain ⟨h_9515, e_9512, e⟩ := Option.bind_eq_some_iff.mp e
  refine Rn.call hT rfl rfl rfl (Nat.le_of_ble_eq_true rfl) (rcv_v gX12_notesBeds (by omega) e_9513) (rX12_notesBeds (by omega) e_9512 ?_)
  show Rn d _ _ 147 [some (.ref q0), some (.int x1), some (.int x2), some (.int x3), none] [] h_9515 Q
  refine Rn.n hT 1 (pc' := 179) (L' := [some (.ref q0), some (.int x1), some (.int x2), some (.int x3), none]) (st' := []) rfl ?_
  exact Rn.weak (ll_s (ll_s (ll_s (ll_s (ll_n ll_e))))) (rX12_findsBeds_b179 hd hb hk hq e)
def fX12_findsBeds_b97 (N : Nat) (h : iv_H) (q0 : Nat) (x1 : Int32) (x2 : Int32) (x3 : Int32) (x4 : Int32)  (kb : iv_H → Int32 → Int32 → Option (Int32 × iv_H)) (kx : iv_H → Int32 → Option (Int32 × iv_H)) : Option (Int32 × iv_H) := ((gR h 12 70 q0).bind fun v_9489 => ((wI h v_9489 x3 x4).bind fun h_9491 => ((gR h_9491 12 1 q0).bind fun v_9493 => ((aI h_9491 v_9493 (2 : Int32)).bind fun v_9495 => (if x4 = v_9495 then (fX12_findsBeds_b179 N h_9491 q0 x1 x2 (x3 + (-1 : Int32)) kb kx) else (if x3 = (x1 - (1 : Int32)) then (if (x2 + (1 : Int32)) = (1 : Int32) then (fX12_findsBeds_b144 N h_9491 q0 x1 (x2 + (1 : Int32)) x3 (1 : Int32) x1 q0 kb kx) else (fX12_findsBeds_b144 N h_9491 q0 x1 (x2 + (1 : Int32)) x3 (0 : Int32) x1 q0 kb kx)) else ((gR h_9491 12 71 q0).bind fun v_9499 => ((gR h_9491 12 71 q0).bind fun v_9501 => ((aI h_9491 v_9501 x3).bind fun v_9503 => ((wI h_9491 v_9499 (x3 + (1 : Int32)) (v_9503 ||| ((1 : Int32) <<< (x4 &&& 31)))).bind fun h_9505 => ((gR h_9505 12 70 q0).bind fun v_9507 => ((wI h_9505 v_9507 (x3 + (1 : Int32)) (-1 : Int32)).bind fun h_9509 => (fX12_findsBeds_b179 N h_9509 q0 x1 x2 (x3 + (1 : Int32)) kb kx)))))))))))))
set_option maxRecDepth 10000 in
set_option maxHeartbeats 4000000 in
theorem rX12_findsBeds_b97 {d N : Nat} (hd : 10 ≤ d) {h : iv_H} {q0 : Nat} {x1 : Int32} {x2 : Int32} {x3 : Int32} {x4 : Int32}  {kb : iv_H → Int32 → Int32 → Option (Int32 × iv_H)} {kx : iv_H → Int32 → Option (Int32 × iv_H)} {r : Int32 × iv_H} {Q : Option Value → iv_H → Prop} (hb : ∀ (h : iv_H) (w2 : Int32) (w3 : Int32), kb h w2 w3 = some r → Rn d 323 (some .int) 37 [some (.ref q0), some (.int x1), some (.int w2), some (.int w3), none] [] h Q) (hk : ∀ (h : iv_H) (w2 : Int32), kx h w2 = some r → Rn d 323 (some .int) 182 [none, some (.int x1), some (.int w2), none, none] [] h Q) (hq : Q (some (.int r.1)) r.2) (e : fX12_findsBeds_b97 N h q0 x1 x2 x3 x4  kb kx = some r) : Rn d 323 (some .int) 97 [some (.ref q0), some (.int x1), some (.int x2), some (.int x3), some (.int x4)] [] h Q := by
  have hT := hX12_findsBeds
  unfold fX12_findsBeds_b97 at e
  refine Rn.n hT 1 (pc' := 98) (L' := [some (.ref q0), some (.int x1), some (.int x2), some (.int x3), some (.int x4)]) (st' := [.ref q0]) rfl ?_
  obtain ⟨v_9489, e_9490, e⟩ := Option.bind_eq_some_iff.mp e
  refine Rn.hp hT rfl rfl (gR_hp e_9490) ?_
  refine Rn.n hT 2 (pc' := 104) (L' := [some (.ref q0), some (.int x1), some (.int x2), some (.int x3), some (.int x4)]) (st' := [.int x4, .int x3, .ref v_9489]) rfl ?_
  obtain ⟨h_9491, e_9492, e⟩ := Option.bind_eq_some_iff.mp e
  refine Rn.hp hT rfl rfl (wI_hp e_9492) ?_
  refine Rn.n hT 2 (pc' := 108) (L' := [some (.ref q0), some (.int x1), some (.int x2), some (.int x3), some (.int x4)]) (st' := [.ref q0, .int x4]) rfl ?_
  obtain ⟨v_9493, e_9494, e⟩ := Option.bind_eq_some_iff.mp e
  refine Rn.hp hT rfl rfl (gR_hp e_9494) ?_
  refine Rn.n hT 1 (pc' := 112) (L' := [some (.ref q0), some (.int x1), some (.int x2), some (.int x3), some (.int x4)]) (st' := [.int (2 : Int32), .ref v_9493, .int x4]) rfl ?_
  obtain ⟨v_9495, e_9496, e⟩ := Option.bind_eq_some_iff.mp e
  refine Rn.hp hT rfl rfl (aI_hp e_9496) ?_
  by_cases c_9497 : x4 = v_9495
  · rw [if_pos c_9497] at e
    refine Rn.bf hT rfl rfl rfl (decide_eq_false (fun z => z c_9497)) ?_
    refine Rn.n hT 2 (pc' := 179) (L' := [some (.ref q0), some (.int x1), some (.int x2), some (.int (x3 + (-1 : Int32))), some (.int x4)]) (st' := []) rfl ?_
    exact Rn.weak (ll_s (ll_s (ll_s (ll_s (ll_n ll_e))))) (rX12_findsBeds_b179 hd hb hk hq e)
  · rw [if_neg c_9497] at e
    refine Rn.bt hT rfl rfl rfl (decide_eq_true c_9497) ?_
    refine Rn.n hT 4 (pc' := 126) (L' := [some (.ref q0), some (.int x1), some (.int x2), some (.int x3), some (.int x4)]) (st' := [.int (x1 - (1 : Int32)), .int x3]) rfl ?_
    by_cases c_9498 : x3 = (x1 - (1 : Int32))
    · rw [if_pos c_9498] at e
      refine Rn.bf hT rfl rfl rfl (decide_eq_false (fun z => z c_9498)) ?_
      refine Rn.n hT 5 (pc' := 136) (L' := [some (.ref q0), some (.int x1), some (.int (x2 + (1 : Int32))), some (.int x3), some (.int x4)]) (st' := [.int (1 : Int32), .int (x2 + (1 : Int32)), .int x1, .ref q0]) rfl ?_
      by_cases c_9511 : (x2 + (1 : Int32)) = (1 : Int32)
      · rw [if_pos c_9511] at e
        refine Rn.bf hT rfl rfl rfl (decide_eq_false (fun z => z c_9511)) ?_
        refine Rn.n hT 2 (pc' := 144) (L' := [some (.ref q0), some (.int x1), some (.int (x2 + (1 : Int32))), some (.int x3), some (.int x4)]) (st' := [.int (1 : Int32), .int x1, .ref q0]) rfl ?_
        exact Rn.weak (ll_s (ll_s (ll_s (ll_s (ll_n ll_e))))) (rX12_findsBeds_b144 hd hb hk hq e)
      · rw [if_neg c_9511] at e
        refine Rn.bt hT rfl rfl rfl (decide_eq_true c_9511) ?_
        refine Rn.n hT 1 (pc' := 144) (L' := [some (.ref q0), some (.int x1), some (.int (x2 + (1 : Int32))), some (.int x3), some (.int x4)]) (st' := [.int (0 : Int32), .int x1, .ref q0]) rfl ?_
        exact Rn.weak (ll_s (ll_s (ll_s (ll_s (ll_n ll_e))))) (rX12_findsBeds_b144 hd hb hk hq e)
    · rw [if_neg c_9498] at e
      refine Rn.bt hT rfl rfl rfl (decide_eq_true c_9498) ?_
      refine Rn.n hT 1 (pc' := 151) (L' := [some (.ref q0), some (.int x1), some (.int x2), some (.int x3), some (.int x4)]) (st' := [.ref q0]) rfl ?_
      obtain ⟨v_9499, e_9500, e⟩ := Option.bind_eq_some_iff.mp e
      refine Rn.hp hT rfl rfl (gR_hp e_9500) ?_
      refine Rn.n hT 4 (pc' := 158) (L' := [some (.ref q0), some (.int x1), some (.int x2), some (.int x3), some (.int x4)]) (st' := [.ref q0, .int (x3 + (1 : Int32)), .ref v_9499]) rfl ?_
      obtain ⟨v_9501, e_9502, e⟩ := Option.bind_eq_some_iff.mp e
      refine Rn.hp hT rfl rfl (gR_hp e_9502) ?_
      refine Rn.n hT 1 (pc' := 162) (L' := [some (.ref q0), some (.int x1), some (.int x2), some (.int x3), some (.int x4)]) (st' := [.int x3, .ref v_9501, .int (x3 + (1 : Int32)), .ref v_9499]) rfl ?_
      obtain ⟨v_9503, e_9504, e⟩ := Option.bind_eq_some_iff.mp e
      refine Rn.hp hT rfl rfl (aI_hp e_9504) ?_
      refine Rn.n hT 4 (pc' := 168) (L' := [some (.ref q0), some (.int x1), some (.int x2), some (.int x3), some (.int x4)]) (st' := [.int (v_9503 ||| ((1 : Int32) <<< (x4 &&& 31))), .int (x3 + (1 : Int32)), .ref v_9499]) rfl ?_
      obtain ⟨h_9505, e_9506, e⟩ := Option.bind_eq_some_iff.mp e
      refine Rn.hp hT rfl rfl (wI_hp e_9506) ?_
      refine Rn.n hT 2 (pc' := 173) (L' := [some (.ref q0), some (.int x1), some (.int x2), some (.int (x3 + (1 : Int32))), some (.int x4)]) (st' := [.ref q0]) rfl ?_
      obtain ⟨v_9507, e_9508, e⟩ := Option.bind_eq_some_iff.mp e
      refine Rn.hp hT rfl rfl (gR_hp e_9508) ?_
      refine Rn.n hT 2 (pc' := 178) (L' := [some (.ref q0), some (.int x1), some (.int x2), some (.int (x3 + (1 : Int32))), some (.int x4)]) (st' := [.int (-1 : Int32), .int (x3 + (1 : Int32)), .ref v_9507]) rfl ?_
      obtain ⟨h_9509, e_9510, e⟩ := Option.bind_eq_some_iff.mp e
      refine Rn.hp hT rfl rfl (wI_hp e_9510) ?_
      exact Rn.weak (ll_s (ll_s (ll_s (ll_s (ll_n ll_e))))) (rX12_findsBeds_b179 hd hb hk hq e)
def fX12_findsBeds_l37 (N : Nat) (q0 : Nat) (x1 : Int32) (kx : iv_H → Int32 → Option (Int32 × iv_H)) : Nat → iv_H → Int32 → Int32 → Option (Int32 × iv_H)
  | 0, _, _, _ => none
  | n + 1, h, x2, x3 => (if x3 < 0 then (kx h x2) else ((gR h 12 70 q0).bind fun v_9468 => ((aI h v_9468 x3).bind fun v_9470 => (fX12_findsBeds_l51 N q0 x1 x2 x3 (fun (h_9472 : iv_H) (z_9473 : Int32) => (fX12_findsBeds_b97 N h_9472 q0 x1 x2 x3 z_9473 (fX12_findsBeds_l37 N q0 x1 kx n) kx)) N h (v_9470 + (1 : Int32))))))
set_option maxRecDepth 10000 in
set_option maxHeartbeats 4000000 in
theorem rX12_findsBeds_l37 {d N : Nat} (hd : 10 ≤ d) {q0 : Nat} {x1 : Int32} {kx : iv_H → Int32 → Option (Int32 × iv_H)} {r : Int32 × iv_H} {Q : Option Value → iv_H → Prop} (hk : ∀ (h : iv_H) (x2 : Int32), kx h x2 = some r → Rn d 323 (some .int) 182 [none, some (.int x1), some (.int x2), none, none] [] h Q) (hq : Q (some (.int r.1)) r.2) : ∀ (n : Nat) (h : iv_H) (x2 : Int32) (x3 : Int32), fX12_findsBeds_l37 N q0 x1 kx n h x2 x3 = some r → Rn d 323 (some .int) 37 [some (.ref q0), some (.int x1), some (.int x2), some (.int x3), none] [] h Q := by
  have hT := hX12_findsBeds
  intro n
  induction n with
  | zero =>
    intro h x2 x3 e
    rw [fX12_findsBeds_l37] at e
    cases e
  | succ n ih =>
    intro h x2 x3 e
    rw [fX12_findsBeds_l37] at e
    refine Rn.n hT 1 (pc' := 38) (L' := [some (.ref q0), some (.int x1), some (.int x2), some (.int x3), none]) (st' := [.int x3]) rfl ?_
    by_cases c_9467 : x3 < 0
    · rw [if_pos c_9467] at e
      refine Rn.bt hT rfl rfl rfl (decide_eq_true c_9467) ?_
      exact Rn.weak (ll_n (ll_s (ll_s (ll_n (ll_n ll_e))))) (hk h x2 e)
    · rw [if_neg c_9467] at e
      refine Rn.bf hT rfl rfl rfl (decide_eq_false c_9467) ?_
      refine Rn.n hT 1 (pc' := 42) (L' := [some (.ref q0), some (.int x1), some (.int x2), some (.int x3), none]) (st' := [.ref q0]) rfl ?_
      obtain ⟨v_9468, e_9469, e⟩ := Option.bind_eq_some_iff.mp e
      refine Rn.hp hT rfl rfl (gR_hp e_9469) ?_
      refine Rn.n hT 1 (pc' := 46) (L' := [some (.ref q0), some (.int x1), some (.int x2), some (.int x3), none]) (st' := [.int x3, .ref v_9468]) rfl ?_
      obtain ⟨v_9470, e_9471, e⟩ := Option.bind_eq_some_iff.mp e
      refine Rn.hp hT rfl rfl (aI_hp e_9471) ?_
      refine Rn.n hT 3 (pc' := 51) (L' := [some (.ref q0), some (.int x1), some (.int x2), some (.int x3), some (.int (v_9470 + (1 : Int32)))]) (st' := []) rfl ?_
      refine Rn.weak (ll_s (ll_s (ll_s (ll_s (ll_s ll_e))))) (rX12_findsBeds_l51 hd (fun h_9472 z_9473 e => ?_) hq N h (v_9470 + (1 : Int32)) e)
      try dsimp only at e
      exact Rn.weak (ll_s (ll_s (ll_s (ll_s (ll_s ll_e))))) (rX12_findsBeds_b97 hd ih hk hq e)
def fX12_findsBeds_b191 (N : Nat) (h : iv_H)  (s0 : Int32) : Option (Int32 × iv_H) := (some (s0, h))
set_option maxRecDepth 10000 in
set_option maxHeartbeats 4000000 in
theorem rX12_findsBeds_b191 {d N : Nat} (hd : 10 ≤ d) {h : iv_H}  {s0 : Int32} {r : Int32 × iv_H} {Q : Option Value → iv_H → Prop} (hq : Q (some (.int r.1)) r.2) (e : fX12_findsBeds_b191 N h  s0 = some r) : Rn d 323 (some .int) 191 [none, none, none, none, none] [.int s0] h Q := by
  have hT := hX12_findsBeds
  unfold fX12_findsBeds_b191 at e
  obtain rfl := Option.some.inj e
  exact Rn.ret hT rfl rfl rfl hq
def fX12_findsBeds_b22 (N : Nat) (h : iv_H) (q0 : Nat) (x1 : Int32) (x2 : Int32) (s0 : Int32) : Option (Int32 × iv_H) := ((gR h 12 70 q0).bind fun v_9456 => ((wI h v_9456 (0 : Int32) (-1 : Int32)).bind fun h_9458 => ((gR h_9458 12 71 q0).bind fun v_9460 => ((wI h_9458 v_9460 (0 : Int32) (0 : Int32)).bind fun h_9462 => (fX12_findsBeds_l37 N q0 x1 (fun (h_9464 : iv_H) (z_9465 : Int32) => (if x1 = 0 then (fX12_findsBeds_b191 N h_9464 (1 : Int32)) else (fX12_findsBeds_b191 N h_9464 z_9465))) N h_9462 x2 s0)))))
set_option maxRecDepth 10000 in
set_option maxHeartbeats 4000000 in
theorem rX12_findsBeds_b22 {d N : Nat} (hd : 10 ≤ d) {h : iv_H} {q0 : Nat} {x1 : Int32} {x2 : Int32} {s0 : Int32} {r : Int32 × iv_H} {Q : Option Value → iv_H → Prop} (hq : Q (some (.int r.1)) r.2) (e : fX12_findsBeds_b22 N h q0 x1 x2 s0 = some r) : Rn d 323 (some .int) 22 [some (.ref q0), some (.int x1), some (.int x2), none, none] [.int s0] h Q := by
  have hT := hX12_findsBeds
  unfold fX12_findsBeds_b22 at e
  refine Rn.n hT 2 (pc' := 24) (L' := [some (.ref q0), some (.int x1), some (.int x2), some (.int s0), none]) (st' := [.ref q0]) rfl ?_
  obtain ⟨v_9456, e_9457, e⟩ := Option.bind_eq_some_iff.mp e
  refine Rn.hp hT rfl rfl (gR_hp e_9457) ?_
  refine Rn.n hT 2 (pc' := 29) (L' := [some (.ref q0), some (.int x1), some (.int x2), some (.int s0), none]) (st' := [.int (-1 : Int32), .int (0 : Int32), .ref v_9456]) rfl ?_
  obtain ⟨h_9458, e_9459, e⟩ := Option.bind_eq_some_iff.mp e
  refine Rn.hp hT rfl rfl (wI_hp e_9459) ?_
  refine Rn.n hT 1 (pc' := 31) (L' := [some (.ref q0), some (.int x1), some (.int x2), some (.int s0), none]) (st' := [.ref q0]) rfl ?_
  obtain ⟨v_9460, e_9461, e⟩ := Option.bind_eq_some_iff.mp e
  refine Rn.hp hT rfl rfl (gR_hp e_9461) ?_
  refine Rn.n hT 2 (pc' := 36) (L' := [some (.ref q0), some (.int x1), some (.int x2), some (.int s0), none]) (st' := [.int (0 : Int32), .int (0 : Int32), .ref v_9460]) rfl ?_
  obtain ⟨h_9462, e_9463, e⟩ := Option.bind_eq_some_iff.mp e
  refine Rn.hp hT rfl rfl (wI_hp e_9463) ?_
  refine Rn.weak (ll_s (ll_s (ll_s (ll_s (ll_n ll_e))))) (rX12_findsBeds_l37 hd (fun h_9464 z_9465 e => ?_) hq N h_9462 x2 s0 e)
  try dsimp only at e
  refine Rn.n hT 1 (pc' := 183) (L' := [none, some (.int x1), some (.int z_9465), none, none]) (st' := [.int x1]) rfl ?_
  by_cases c_9466 : x1 = 0
  · rw [if_pos c_9466] at e
    refine Rn.bf hT rfl rfl rfl (decide_eq_false (fun z => z c_9466)) ?_
    refine Rn.n hT 2 (pc' := 191) (L' := [none, some (.int x1), some (.int z_9465), none, none]) (st' := [.int (1 : Int32)]) rfl ?_
    exact Rn.weak (ll_n (ll_n (ll_n (ll_n (ll_n ll_e))))) (rX12_findsBeds_b191 hd hq e)
  · rw [if_neg c_9466] at e
    refine Rn.bt hT rfl rfl rfl (decide_eq_true c_9466) ?_
    refine Rn.n hT 1 (pc' := 191) (L' := [none, some (.int x1), some (.int z_9465), none, none]) (st' := [.int z_9465]) rfl ?_
    exact Rn.weak (ll_n (ll_n (ll_n (ll_n (ll_n ll_e))))) (rX12_findsBeds_b191 hd hq e)
def fX12_findsBeds (N : Nat) (h : iv_H) (q0 : Nat) : Option (Int32 × iv_H) := ((cko h q0 12).bind fun _ => (fX12_fillsWho N h q0).bind fun h_9450 => ((gR h_9450 12 1 q0).bind fun v_9451 => ((aI h_9450 v_9451 (3 : Int32)).bind fun v_9453 => (if v_9453 = 0 then (fX12_findsBeds_b22 N h_9450 q0 v_9453 (0 : Int32) (-1 : Int32)) else (fX12_findsBeds_b22 N h_9450 q0 v_9453 (0 : Int32) (0 : Int32))))))
set_option maxRecDepth 10000 in
set_option maxHeartbeats 4000000 in
theorem rX12_findsBeds {d N : Nat} (hd : 11 ≤ d) {h : iv_H} {q0 : Nat} {r : Int32 × iv_H} {Q : Option Value → iv_H → Prop} (e : fX12_findsBeds N h q0 = some r) (hq : Q (some (.int r.1)) r.2) : Cl d 323 [.ref q0] h Q := by
  obtain ⟨d, rfl⟩ : ∃ k, d = k + 1 := ⟨d - 1, by omega⟩
  have hd : 10 ≤ d := by omega
  have hT := hX12_findsBeds
  unfold fX12_findsBeds at e
  refine Cl.into (by decide) gX12_findsBeds rfl ?_
  show Rn d 323 (some .int) 0 [some (.ref q0), none, none, none, none] [] h Q
  refine Rn.n hT 1 (pc' := 1) (L' := [some (.ref q0), none, none, none, none]) (st' := [.ref q0]) rfl ?_
  obtain ⟨_, e_9448, e⟩ := Option.bind_eq_some_iff.mp e
  obtain ⟨h_9450, e_9447, e⟩ := Option.bind_eq_some_iff.mp e
  refine Rn.call hT rfl rfl rfl (Nat.le_of_ble_eq_true rfl) (rcv_v gX12_fillsWho (by omega) e_9448) (rX12_fillsWho (by omega) e_9447 ?_)
  show Rn d _ _ 4 [some (.ref q0), none, none, none, none] [] h_9450 Q
  refine Rn.n hT 1 (pc' := 5) (L' := [some (.ref q0), none, none, none, none]) (st' := [.ref q0]) rfl ?_
  obtain ⟨v_9451, e_9452, e⟩ := Option.bind_eq_some_iff.mp e
  refine Rn.hp hT rfl rfl (gR_hp e_9452) ?_
  refine Rn.n hT 1 (pc' := 9) (L' := [some (.ref q0), none, none, none, none]) (st' := [.int (3 : Int32), .ref v_9451]) rfl ?_
  obtain ⟨v_9453, e_9454, e⟩ := Option.bind_eq_some_iff.mp e
  refine Rn.hp hT rfl rfl (aI_hp e_9454) ?_
  refine Rn.n hT 4 (pc' := 14) (L' := [some (.ref q0), some (.int v_9453), some (.int (0 : Int32)), none, none]) (st' := [.int v_9453]) rfl ?_
  by_cases c_9455 : v_9453 = 0
  · rw [if_pos c_9455] at e
    refine Rn.bf hT rfl rfl rfl (decide_eq_false (fun z => z c_9455)) ?_
    refine Rn.n hT 2 (pc' := 22) (L' := [some (.ref q0), some (.int v_9453), some (.int (0 : Int32)), none, none]) (st' := [.int (-1 : Int32)]) rfl ?_
    exact Rn.weak (ll_s (ll_s (ll_s (ll_n (ll_n ll_e))))) (rX12_findsBeds_b22 hd hq e)
  · rw [if_neg c_9455] at e
    refine Rn.bt hT rfl rfl rfl (decide_eq_true c_9455) ?_
    refine Rn.n hT 1 (pc' := 22) (L' := [some (.ref q0), some (.int v_9453), some (.int (0 : Int32)), none, none]) (st' := [.int (0 : Int32)]) rfl ?_
    exact Rn.weak (ll_s (ll_s (ll_s (ll_n (ll_n ll_e))))) (rX12_findsBeds_b22 hd hq e)
set_option maxRecDepth 10000 in
theorem hX12_beds : iv_Tb 324 tX12_beds := iv_tb_of (m := mX12_beds) rfl
set_option maxRecDepth 10000 in
theorem gX12_beds : PG.2 324 = some mX12_beds := iv_pi_of (t := tX12_beds) rfl (by decide)
def fX12_beds_b19 (N : Nat) (h : iv_H)   : Option (Int32 × iv_H) := (some ((-1 : Int32), h))
set_option maxRecDepth 10000 in
set_option maxHeartbeats 4000000 in
theorem rX12_beds_b19 {d N : Nat} (hd : 11 ≤ d) {h : iv_H}   {r : Int32 × iv_H} {Q : Option Value → iv_H → Prop} (hq : Q (some (.int r.1)) r.2) (e : fX12_beds_b19 N h   = some r) : Rn d 324 (some .int) 19 [none, none, none] [] h Q := by
  have hT := hX12_beds
  unfold fX12_beds_b19 at e
  refine Rn.n hT 1 (pc' := 20) (L' := [none, none, none]) (st' := [.int (-1 : Int32)]) rfl ?_
  obtain rfl := Option.some.inj e
  exact Rn.ret hT rfl rfl rfl hq
def fX12_beds_b61 (N : Nat) (h : iv_H)  (s0 : Int32) : Option (Int32 × iv_H) := (some (s0, h))
set_option maxRecDepth 10000 in
set_option maxHeartbeats 4000000 in
theorem rX12_beds_b61 {d N : Nat} (hd : 11 ≤ d) {h : iv_H}  {s0 : Int32} {r : Int32 × iv_H} {Q : Option Value → iv_H → Prop} (hq : Q (some (.int r.1)) r.2) (e : fX12_beds_b61 N h  s0 = some r) : Rn d 324 (some .int) 61 [none, none, none] [.int s0] h Q := by
  have hT := hX12_beds
  unfold fX12_beds_b61 at e
  obtain rfl := Option.some.inj e
  exact Rn.ret hT rfl rfl rfl hq
def fX12_beds_b48 (N : Nat) (h : iv_H)   : Option (Int32 × iv_H) := (fX12_beds_b61 N h (-2 : Int32))
set_option maxRecDepth 10000 in
set_option maxHeartbeats 4000000 in
theorem rX12_beds_b48 {d N : Nat} (hd : 11 ≤ d) {h : iv_H}   {r : Int32 × iv_H} {Q : Option Value → iv_H → Prop} (hq : Q (some (.int r.1)) r.2) (e : fX12_beds_b48 N h   = some r) : Rn d 324 (some .int) 48 [none, none, none] [] h Q := by
  have hT := hX12_beds
  unfold fX12_beds_b48 at e
  refine Rn.n hT 2 (pc' := 61) (L' := [none, none, none]) (st' := [.int (-2 : Int32)]) rfl ?_
  exact Rn.weak (ll_n (ll_n (ll_n ll_e))) (rX12_beds_b61 hd hq e)
def fX12_beds (N : Nat) (h : iv_H) (q0 : Nat) (x1 : Int32) : Option (Int32 × iv_H) := ((cko h q0 12).bind fun _ => (fX12_isPalace N h q0).bind fun v_9518 => (if v_9518 = 0 then (fX12_beds_b19 N h) else ((fX12_in N h ((x1).toInt64) (0 : Int64) (6 : Int64)).bind fun v_9521 => (if v_9521 = 0 then (fX12_beds_b19 N h) else ((cko h q0 12).bind fun _ => (fX12_findsBeds N h q0).bind fun p_9537 => (fun (v_9525 : Int32) (h_9526 : iv_H) => (if x1 = 0 then (fX12_beds_b61 N h_9526 v_9525) else (if v_9525 = 0 then (fX12_beds_b48 N h_9526) else ((cko h_9526 q0 12).bind fun _ => (fX12_isPerson N h_9526 q0 (x1 - (1 : Int32))).bind fun v_9531 => (if v_9531 = 0 then (fX12_beds_b48 N h_9526) else ((gR h_9526 12 72 q0).bind fun v_9533 => ((aI h_9526 v_9533 (x1 - (1 : Int32))).bind fun v_9535 => (fX12_beds_b61 N h_9526 v_9535)))))))) p_9537.1 p_9537.2)))))
set_option maxRecDepth 10000 in
set_option maxHeartbeats 4000000 in
theorem rX12_beds {d N : Nat} (hd : 12 ≤ d) {h : iv_H} {q0 : Nat} {x1 : Int32} {r : Int32 × iv_H} {Q : Option Value → iv_H → Prop} (e : fX12_beds N h q0 x1 = some r) (hq : Q (some (.int r.1)) r.2) : Cl d 324 [.ref q0, .int x1] h Q := by
  obtain ⟨d, rfl⟩ : ∃ k, d = k + 1 := ⟨d - 1, by omega⟩
  have hd : 11 ≤ d := by omega
  have hT := hX12_beds
  unfold fX12_beds at e
  refine Cl.into (by decide) gX12_beds rfl ?_
  show Rn d 324 (some .int) 0 [some (.ref q0), some (.int x1), none] [] h Q
  refine Rn.n hT 1 (pc' := 1) (L' := [some (.ref q0), some (.int x1), none]) (st' := [.ref q0]) rfl ?_
  obtain ⟨_, e_9517, e⟩ := Option.bind_eq_some_iff.mp e
  obtain ⟨v_9518, e_9516, e⟩ := Option.bind_eq_some_iff.mp e
  refine Rn.call hT rfl rfl rfl (Nat.le_of_ble_eq_true rfl) (rcv_v gX12_isPalace (by omega) e_9517) (rX12_isPalace (by omega) e_9516 ?_)
  show Rn d _ _ 4 [some (.ref q0), some (.int x1), none] [.int v_9518] h Q
  by_cases c_9519 : v_9518 = 0
  · rw [if_pos c_9519] at e
    refine Rn.bt hT rfl rfl rfl (decide_eq_true c_9519) ?_
    exact Rn.weak (ll_n (ll_n (ll_n ll_e))) (rX12_beds_b19 hd hq e)
  · rw [if_neg c_9519] at e
    refine Rn.bf hT rfl rfl rfl (decide_eq_false c_9519) ?_
    refine Rn.n hT 4 (pc' := 13) (L' := [some (.ref q0), some (.int x1), none]) (st' := [.long (6 : Int64), .long (0 : Int64), .long ((x1).toInt64)]) rfl ?_
    obtain ⟨v_9521, e_9520, e⟩ := Option.bind_eq_some_iff.mp e
    refine Rn.call hT rfl rfl rfl (Nat.le_of_ble_eq_true rfl) rfl (rX12_in (by omega) e_9520 ?_)
    show Rn d _ _ 16 [some (.ref q0), some (.int x1), none] [.int v_9521] h Q
    by_cases c_9522 : v_9521 = 0
    · rw [if_pos c_9522] at e
      refine Rn.bf hT rfl rfl rfl (decide_eq_false (fun z => z c_9522)) ?_
      exact Rn.weak (ll_n (ll_n (ll_n ll_e))) (rX12_beds_b19 hd hq e)
    · rw [if_neg c_9522] at e
      refine Rn.bt hT rfl rfl rfl (decide_eq_true c_9522) ?_
      refine Rn.n hT 1 (pc' := 22) (L' := [some (.ref q0), some (.int x1), none]) (st' := [.ref q0]) rfl ?_
      obtain ⟨_, e_9524, e⟩ := Option.bind_eq_some_iff.mp e
      obtain ⟨⟨v_9525, h_9526⟩, e_9523, e⟩ := Option.bind_eq_some_iff.mp e
      try dsimp only at e
      try dsimp only at e
      refine Rn.call hT rfl rfl rfl (Nat.le_of_ble_eq_true rfl) (rcv_v gX12_findsBeds (by omega) e_9524) (rX12_findsBeds (by omega) e_9523 ?_)
      show Rn d _ _ 25 [some (.ref q0), some (.int x1), none] [.int v_9525] h_9526 Q
      refine Rn.n hT 2 (pc' := 27) (L' := [some (.ref q0), some (.int x1), some (.int v_9525)]) (st' := [.int x1]) rfl ?_
      by_cases c_9527 : x1 = 0
      · rw [if_pos c_9527] at e
        refine Rn.bf hT rfl rfl rfl (decide_eq_false (fun z => z c_9527)) ?_
        refine Rn.n hT 2 (pc' := 61) (L' := [some (.ref q0), some (.int x1), some (.int v_9525)]) (st' := [.int v_9525]) rfl ?_
        exact Rn.weak (ll_n (ll_n (ll_n ll_e))) (rX12_beds_b61 hd hq e)
      · rw [if_neg c_9527] at e
        refine Rn.bt hT rfl rfl rfl (decide_eq_true c_9527) ?_
        refine Rn.n hT 1 (pc' := 35) (L' := [some (.ref q0), some (.int x1), some (.int v_9525)]) (st' := [.int v_9525]) rfl ?_
        by_cases c_9528 : v_9525 = 0
        · rw [if_pos c_9528] at e
          refine Rn.bt hT rfl rfl rfl (decide_eq_true c_9528) ?_
          exact Rn.weak (ll_n (ll_n (ll_n ll_e))) (rX12_beds_b48 hd hq e)
        · rw [if_neg c_9528] at e
          refine Rn.bf hT rfl rfl rfl (decide_eq_false c_9528) ?_
          refine Rn.n hT 4 (pc' := 42) (L' := [some (.ref q0), some (.int x1), some (.int v_9525)]) (st' := [.int (x1 - (1 : Int32)), .ref q0]) rfl ?_
          obtain ⟨_, e_9530, e⟩ := Option.bind_eq_some_iff.mp e
          obtain ⟨v_9531, e_9529, e⟩ := Option.bind_eq_some_iff.mp e
          refine Rn.call hT rfl rfl rfl (Nat.le_of_ble_eq_true rfl) (rcv_v gX12_isPerson (by omega) e_9530) (rX12_isPerson (by omega) e_9529 ?_)
          show Rn d _ _ 45 [some (.ref q0), some (.int x1), some (.int v_9525)] [.int v_9531] h_9526 Q
          by_cases c_9532 : v_9531 = 0
          · rw [if_pos c_9532] at e
            refine Rn.bf hT rfl rfl rfl (decide_eq_false (fun z => z c_9532)) ?_
            exact Rn.weak (ll_n (ll_n (ll_n ll_e))) (rX12_beds_b48 hd hq e)
          · rw [if_neg c_9532] at e
            refine Rn.bt hT rfl rfl rfl (decide_eq_true c_9532) ?_
            refine Rn.n hT 1 (pc' := 54) (L' := [some (.ref q0), some (.int x1), some (.int v_9525)]) (st' := [.ref q0]) rfl ?_
            obtain ⟨v_9533, e_9534, e⟩ := Option.bind_eq_some_iff.mp e
            refine Rn.hp hT rfl rfl (gR_hp e_9534) ?_
            refine Rn.n hT 3 (pc' := 60) (L' := [some (.ref q0), some (.int x1), some (.int v_9525)]) (st' := [.int (x1 - (1 : Int32)), .ref v_9533]) rfl ?_
            obtain ⟨v_9535, e_9536, e⟩ := Option.bind_eq_some_iff.mp e
            refine Rn.hp hT rfl rfl (aI_hp e_9536) ?_
            exact Rn.weak (ll_n (ll_n (ll_n ll_e))) (rX12_beds_b61 hd hq e)
set_option maxRecDepth 10000 in
theorem hX12_almost : iv_Tb 325 tX12_almost := iv_tb_of (m := mX12_almost) rfl
set_option maxRecDepth 10000 in
theorem gX12_almost : PG.2 325 = some mX12_almost := iv_pi_of (t := tX12_almost) rfl (by decide)
def fX12_almost_b16 (N : Nat) (h : iv_H)   : Option (Int32 × iv_H) := (some ((-1 : Int32), h))
set_option maxRecDepth 10000 in
set_option maxHeartbeats 4000000 in
theorem rX12_almost_b16 {d N : Nat} (hd : 11 ≤ d) {h : iv_H}   {r : Int32 × iv_H} {Q : Option Value → iv_H → Prop} (hq : Q (some (.int r.1)) r.2) (e : fX12_almost_b16 N h   = some r) : Rn d 325 (some .int) 16 [none, none, none] [] h Q := by
  have hT := hX12_almost
  unfold fX12_almost_b16 at e
  refine Rn.n hT 1 (pc' := 17) (L' := [none, none, none]) (st' := [.int (-1 : Int32)]) rfl ?_
  obtain rfl := Option.some.inj e
  exact Rn.ret hT rfl rfl rfl hq
def fX12_almost (N : Nat) (h : iv_H) (q0 : Nat) (x1 : Int32) (x2 : Int32) : Option (Int32 × iv_H) := ((cko h q0 12).bind fun _ => (fX12_isPerson N h q0 x1).bind fun v_9540 => (if v_9540 = 0 then (fX12_almost_b16 N h) else ((cko h q0 12).bind fun _ => (fX12_isRoom N h q0 x2).bind fun v_9544 => (if v_9544 = 0 then (fX12_almost_b16 N h) else ((cko h q0 12).bind fun _ => (fX12_findsBeds N h q0).bind fun p_9554 => (fun (v_9548 : Int32) (h_9549 : iv_H) => ((gR h_9549 12 73 q0).bind fun v_9550 => ((aI h_9549 v_9550 (((12 : Int32) * x1) + x2)).bind fun v_9552 => (some (v_9552, h_9549))))) p_9554.1 p_9554.2)))))
set_option maxRecDepth 10000 in
set_option maxHeartbeats 4000000 in
theorem rX12_almost {d N : Nat} (hd : 12 ≤ d) {h : iv_H} {q0 : Nat} {x1 : Int32} {x2 : Int32} {r : Int32 × iv_H} {Q : Option Value → iv_H → Prop} (e : fX12_almost N h q0 x1 x2 = some r) (hq : Q (some (.int r.1)) r.2) : Cl d 325 [.ref q0, .int x1, .int x2] h Q := by
  obtain ⟨d, rfl⟩ : ∃ k, d = k + 1 := ⟨d - 1, by omega⟩
  have hd : 11 ≤ d := by omega
  have hT := hX12_almost
  unfold fX12_almost at e
  refine Cl.into (by decide) gX12_almost rfl ?_
  show Rn d 325 (some .int) 0 [some (.ref q0), some (.int x1), some (.int x2)] [] h Q
  refine Rn.n hT 2 (pc' := 2) (L' := [some (.ref q0), some (.int x1), some (.int x2)]) (st' := [.int x1, .ref q0]) rfl ?_
  obtain ⟨_, e_9539, e⟩ := Option.bind_eq_some_iff.mp e
  obtain ⟨v_9540, e_9538, e⟩ := Option.bind_eq_some_iff.mp e
  refine Rn.call hT rfl rfl rfl (Nat.le_of_ble_eq_true rfl) (rcv_v gX12_isPerson (by omega) e_9539) (rX12_isPerson (by omega) e_9538 ?_)
  show Rn d _ _ 5 [some (.ref q0), some (.int x1), some (.int x2)] [.int v_9540] h Q
  by_cases c_9541 : v_9540 = 0
  · rw [if_pos c_9541] at e
    refine Rn.bt hT rfl rfl rfl (decide_eq_true c_9541) ?_
    exact Rn.weak (ll_n (ll_n (ll_n ll_e))) (rX12_almost_b16 hd hq e)
  · rw [if_neg c_9541] at e
    refine Rn.bf hT rfl rfl rfl (decide_eq_false c_9541) ?_
    refine Rn.n hT 2 (pc' := 10) (L' := [some (.ref q0), some (.int x1), some (.int x2)]) (st' := [.int x2, .ref q0]) rfl ?_
    obtain ⟨_, e_9543, e⟩ := Option.bind_eq_some_iff.mp e
    obtain ⟨v_9544, e_9542, e⟩ := Option.bind_eq_some_iff.mp e
    refine Rn.call hT rfl rfl rfl (Nat.le_of_ble_eq_true rfl) (rcv_v gX12_isRoom (by omega) e_9543) (rX12_isRoom (by omega) e_9542 ?_)
    show Rn d _ _ 13 [some (.ref q0), some (.int x1), some (.int x2)] [.int v_9544] h Q
    by_cases c_9545 : v_9544 = 0
    · rw [if_pos c_9545] at e
      refine Rn.bf hT rfl rfl rfl (decide_eq_false (fun z => z c_9545)) ?_
      exact Rn.weak (ll_n (ll_n (ll_n ll_e))) (rX12_almost_b16 hd hq e)
    · rw [if_neg c_9545] at e
      refine Rn.bt hT rfl rfl rfl (decide_eq_true c_9545) ?_
      refine Rn.n hT 1 (pc' := 19) (L' := [some (.ref q0), some (.int x1), some (.int x2)]) (st' := [.ref q0]) rfl ?_
      obtain ⟨_, e_9547, e⟩ := Option.bind_eq_some_iff.mp e
      obtain ⟨⟨v_9548, h_9549⟩, e_9546, e⟩ := Option.bind_eq_some_iff.mp e
      try dsimp only at e
      try dsimp only at e
      refine Rn.call hT rfl rfl rfl (Nat.le_of_ble_eq_true rfl) (rcv_v gX12_findsBeds (by omega) e_9547) (rX12_findsBeds (by omega) e_9546 ?_)
      show Rn d _ _ 22 [some (.ref q0), some (.int x1), some (.int x2)] [.int v_9548] h_9549 Q
      refine Rn.n hT 2 (pc' := 24) (L' := [some (.ref q0), some (.int x1), some (.int x2)]) (st' := [.ref q0]) rfl ?_
      obtain ⟨v_9550, e_9551, e⟩ := Option.bind_eq_some_iff.mp e
      refine Rn.hp hT rfl rfl (gR_hp e_9551) ?_
      refine Rn.n hT 5 (pc' := 33) (L' := [some (.ref q0), some (.int x1), some (.int x2)]) (st' := [.int (((12 : Int32) * x1) + x2), .ref v_9550]) rfl ?_
      obtain ⟨v_9552, e_9553, e⟩ := Option.bind_eq_some_iff.mp e
      refine Rn.hp hT rfl rfl (aI_hp e_9553) ?_
      obtain rfl := Option.some.inj e
      exact Rn.ret hT rfl rfl rfl hq
set_option maxRecDepth 10000 in
theorem hX12_guards : iv_Tb 326 tX12_guards := iv_tb_of (m := mX12_guards) rfl
set_option maxRecDepth 10000 in
theorem gX12_guards : PG.2 326 = some mX12_guards := iv_pi_of (t := tX12_guards) rfl (by decide)
def fX12_guards_b17 (N : Nat) (h : iv_H)   : Option (Int32) := (some (-1 : Int32))
set_option maxRecDepth 10000 in
set_option maxHeartbeats 4000000 in
theorem rX12_guards_b17 {d N : Nat} (hd : 5 ≤ d) {h : iv_H}   {r : Int32} {Q : Option Value → iv_H → Prop} (hq : Q (some (.int r)) h) (e : fX12_guards_b17 N h   = some r) : Rn d 326 (some .int) 17 [none, none, none, none, none, none, none] [] h Q := by
  have hT := hX12_guards
  unfold fX12_guards_b17 at e
  refine Rn.n hT 1 (pc' := 18) (L' := [none, none, none, none, none, none, none]) (st' := [.int (-1 : Int32)]) rfl ?_
  obtain rfl := Option.some.inj e
  exact Rn.ret hT rfl rfl rfl hq
def fX12_guards_b136 (N : Nat) (h : iv_H) (q0 : Nat) (x1 : Int32) (x2 : Int32) (x3 : Int32) (x5 : Int32) (x6 : Int32) (s0 : Int32) (kb : Int32 → Int32 → Option (Int32)) (kx : Int32 → Option (Int32)) : Option (Int32) := (kb s0 (x6 + (1 : Int32)))
set_option maxRecDepth 10000 in
set_option maxHeartbeats 4000000 in
theorem rX12_guards_b136 {d N : Nat} (hd : 5 ≤ d) {h : iv_H} {q0 : Nat} {x1 : Int32} {x2 : Int32} {x3 : Int32} {x5 : Int32} {x6 : Int32} {s0 : Int32} {kb : Int32 → Int32 → Option (Int32)} {kx : Int32 → Option (Int32)} {r : Int32} {Q : Option Value → iv_H → Prop} (hb : ∀ (w4 : Int32) (w6 : Int32), kb w4 w6 = some r → Rn d 326 (some .int) 84 [some (.ref q0), some (.int x1), some (.int x2), some (.int x3), some (.int w4), some (.int x5), some (.int w6)] [] h Q) (hk : ∀ (w4 : Int32), kx w4 = some r → Rn d 326 (some .int) 144 [some (.ref q0), some (.int x1), some (.int x2), some (.int x3), some (.int w4), some (.int x5), none] [] h Q) (hq : Q (some (.int r)) h) (e : fX12_guards_b136 N h q0 x1 x2 x3 x5 x6 s0 kb kx = some r) : Rn d 326 (some .int) 136 [some (.ref q0), some (.int x1), some (.int x2), some (.int x3), none, some (.int x5), some (.int x6)] [.int s0] h Q := by
  have hT := hX12_guards
  unfold fX12_guards_b136 at e
  refine Rn.n hT 3 (pc' := 84) (L' := [some (.ref q0), some (.int x1), some (.int x2), some (.int x3), some (.int s0), some (.int x5), some (.int (x6 + (1 : Int32)))]) (st' := []) rfl ?_
  exact Rn.weak (ll_s (ll_s (ll_s (ll_s (ll_s (ll_s (ll_s ll_e))))))) (hb s0 (x6 + (1 : Int32)) e)
def fX12_guards_b131 (N : Nat) (h : iv_H) (q0 : Nat) (x1 : Int32) (x2 : Int32) (x3 : Int32) (x5 : Int32) (x6 : Int32)  (kb : Int32 → Int32 → Option (Int32)) (kx : Int32 → Option (Int32)) : Option (Int32) := (fX12_guards_b136 N h q0 x1 x2 x3 x5 x6 (1 : Int32) kb kx)
set_option maxRecDepth 10000 in
set_option maxHeartbeats 4000000 in
theorem rX12_guards_b131 {d N : Nat} (hd : 5 ≤ d) {h : iv_H} {q0 : Nat} {x1 : Int32} {x2 : Int32} {x3 : Int32} {x5 : Int32} {x6 : Int32}  {kb : Int32 → Int32 → Option (Int32)} {kx : Int32 → Option (Int32)} {r : Int32} {Q : Option Value → iv_H → Prop} (hb : ∀ (w4 : Int32) (w6 : Int32), kb w4 w6 = some r → Rn d 326 (some .int) 84 [some (.ref q0), some (.int x1), some (.int x2), some (.int x3), some (.int w4), some (.int x5), some (.int w6)] [] h Q) (hk : ∀ (w4 : Int32), kx w4 = some r → Rn d 326 (some .int) 144 [some (.ref q0), some (.int x1), some (.int x2), some (.int x3), some (.int w4), some (.int x5), none] [] h Q) (hq : Q (some (.int r)) h) (e : fX12_guards_b131 N h q0 x1 x2 x3 x5 x6  kb kx = some r) : Rn d 326 (some .int) 131 [some (.ref q0), some (.int x1), some (.int x2), some (.int x3), none, some (.int x5), some (.int x6)] [] h Q := by
  have hT := hX12_guards
  unfold fX12_guards_b131 at e
  refine Rn.n hT 2 (pc' := 136) (L' := [some (.ref q0), some (.int x1), some (.int x2), some (.int x3), none, some (.int x5), some (.int x6)]) (st' := [.int (1 : Int32)]) rfl ?_
  exact Rn.weak (ll_s (ll_s (ll_s (ll_s (ll_n (ll_s (ll_s ll_e))))))) (rX12_guards_b136 hd hb hk hq e)
def fX12_guards_l84 (N : Nat) (h : iv_H) (q0 : Nat) (x1 : Int32) (x2 : Int32) (x3 : Int32) (x5 : Int32) (kx : Int32 → Option (Int32)) : Nat → Int32 → Int32 → Option (Int32)
  | 0, _, _ => none
  | n + 1, x4, x6 => (if (4 : Int32) ≤ x6 then (kx x4) else (if x4 = 0 then (kx x4) else (if ((x3 >>> (x5 &&& 31)) &&& (1 : Int32)) = 0 then ((cko h q0 12).bind fun _ => (fX12_isDoorToDoor N h q0 x5 x6).bind fun v_9593 => (if v_9593 = 0 then (fX12_guards_b131 N h q0 x1 x2 x3 x5 x6 (fX12_guards_l84 N h q0 x1 x2 x3 x5 kx n) kx) else ((cko h q0 12).bind fun _ => (fX12_faced N h q0 x5 x6).bind fun v_9597 => (if ((x3 >>> (v_9597 &&& 31)) &&& (1 : Int32)) = (1 : Int32) then (fX12_guards_b131 N h q0 x1 x2 x3 x5 x6 (fX12_guards_l84 N h q0 x1 x2 x3 x5 kx n) kx) else (fX12_guards_b136 N h q0 x1 x2 x3 x5 x6 (0 : Int32) (fX12_guards_l84 N h q0 x1 x2 x3 x5 kx n) kx))))) else (kx x4))))
set_option maxRecDepth 10000 in
set_option maxHeartbeats 4000000 in
theorem rX12_guards_l84 {d N : Nat} (hd : 5 ≤ d) {h : iv_H} {q0 : Nat} {x1 : Int32} {x2 : Int32} {x3 : Int32} {x5 : Int32} {kx : Int32 → Option (Int32)} {r : Int32} {Q : Option Value → iv_H → Prop} (hk : ∀ (x4 : Int32), kx x4 = some r → Rn d 326 (some .int) 144 [some (.ref q0), some (.int x1), some (.int x2), some (.int x3), some (.int x4), some (.int x5), none] [] h Q) (hq : Q (some (.int r)) h) : ∀ (n : Nat) (x4 : Int32) (x6 : Int32), fX12_guards_l84 N h q0 x1 x2 x3 x5 kx n x4 x6 = some r → Rn d 326 (some .int) 84 [some (.ref q0), some (.int x1), some (.int x2), some (.int x3), some (.int x4), some (.int x5), some (.int x6)] [] h Q := by
  have hT := hX12_guards
  intro n
  induction n with
  | zero =>
    intro x4 x6 e
    rw [fX12_guards_l84] at e
    cases e
  | succ n ih =>
    intro x4 x6 e
    rw [fX12_guards_l84] at e
    refine Rn.n hT 2 (pc' := 87) (L' := [some (.ref q0), some (.int x1), some (.int x2), some (.int x3), some (.int x4), some (.int x5), some (.int x6)]) (st' := [.int (4 : Int32), .int x6]) rfl ?_
    by_cases c_9588 : (4 : Int32) ≤ x6
    · rw [if_pos c_9588] at e
      refine Rn.bt hT rfl rfl rfl (decide_eq_true c_9588) ?_
      exact Rn.weak (ll_s (ll_s (ll_s (ll_s (ll_s (ll_s (ll_n ll_e))))))) (hk x4 e)
    · rw [if_neg c_9588] at e
      refine Rn.bf hT rfl rfl rfl (decide_eq_false c_9588) ?_
      refine Rn.n hT 1 (pc' := 92) (L' := [some (.ref q0), some (.int x1), some (.int x2), some (.int x3), some (.int x4), some (.int x5), some (.int x6)]) (st' := [.int x4]) rfl ?_
      by_cases c_9589 : x4 = 0
      · rw [if_pos c_9589] at e
        refine Rn.bt hT rfl rfl rfl (decide_eq_true c_9589) ?_
        exact Rn.weak (ll_s (ll_s (ll_s (ll_s (ll_s (ll_s (ll_n ll_e))))))) (hk x4 e)
      · rw [if_neg c_9589] at e
        refine Rn.bf hT rfl rfl rfl (decide_eq_false c_9589) ?_
        refine Rn.n hT 5 (pc' := 101) (L' := [some (.ref q0), some (.int x1), some (.int x2), some (.int x3), some (.int x4), some (.int x5), some (.int x6)]) (st' := [.int ((x3 >>> (x5 &&& 31)) &&& (1 : Int32))]) rfl ?_
        by_cases c_9590 : ((x3 >>> (x5 &&& 31)) &&& (1 : Int32)) = 0
        · rw [if_pos c_9590] at e
          refine Rn.bf hT rfl rfl rfl (decide_eq_false (fun z => z c_9590)) ?_
          refine Rn.n hT 3 (pc' := 109) (L' := [some (.ref q0), some (.int x1), some (.int x2), some (.int x3), some (.int x4), some (.int x5), some (.int x6)]) (st' := [.int x6, .int x5, .ref q0]) rfl ?_
          obtain ⟨_, e_9592, e⟩ := Option.bind_eq_some_iff.mp e
          obtain ⟨v_9593, e_9591, e⟩ := Option.bind_eq_some_iff.mp e
          refine Rn.call hT rfl rfl rfl (Nat.le_of_ble_eq_true rfl) (rcv_v gX12_isDoorToDoor (by omega) e_9592) (rX12_isDoorToDoor (by omega) e_9591 ?_)
          show Rn d _ _ 112 [some (.ref q0), some (.int x1), some (.int x2), some (.int x3), some (.int x4), some (.int x5), some (.int x6)] [.int v_9593] h Q
          by_cases c_9594 : v_9593 = 0
          · rw [if_pos c_9594] at e
            refine Rn.bt hT rfl rfl rfl (decide_eq_true c_9594) ?_
            exact Rn.weak (ll_s (ll_s (ll_s (ll_s (ll_n (ll_s (ll_s ll_e))))))) (rX12_guards_b131 hd ih hk hq e)
          · rw [if_neg c_9594] at e
            refine Rn.bf hT rfl rfl rfl (decide_eq_false c_9594) ?_
            refine Rn.n hT 4 (pc' := 121) (L' := [some (.ref q0), some (.int x1), some (.int x2), some (.int x3), some (.int x4), some (.int x5), some (.int x6)]) (st' := [.int x6, .int x5, .ref q0, .int x3]) rfl ?_
            obtain ⟨_, e_9596, e⟩ := Option.bind_eq_some_iff.mp e
            obtain ⟨v_9597, e_9595, e⟩ := Option.bind_eq_some_iff.mp e
            refine Rn.call hT rfl rfl rfl (Nat.le_of_ble_eq_true rfl) (rcv_v gX12_faced (by omega) e_9596) (rX12_faced (by omega) e_9595 ?_)
            show Rn d _ _ 124 [some (.ref q0), some (.int x1), some (.int x2), some (.int x3), some (.int x4), some (.int x5), some (.int x6)] [.int v_9597, .int x3] h Q
            refine Rn.n hT 4 (pc' := 128) (L' := [some (.ref q0), some (.int x1), some (.int x2), some (.int x3), some (.int x4), some (.int x5), some (.int x6)]) (st' := [.int (1 : Int32), .int ((x3 >>> (v_9597 &&& 31)) &&& (1 : Int32))]) rfl ?_
            by_cases c_9598 : ((x3 >>> (v_9597 &&& 31)) &&& (1 : Int32)) = (1 : Int32)
            · rw [if_pos c_9598] at e
              refine Rn.bf hT rfl rfl rfl (decide_eq_false (fun z => z c_9598)) ?_
              exact Rn.weak (ll_s (ll_s (ll_s (ll_s (ll_n (ll_s (ll_s ll_e))))))) (rX12_guards_b131 hd ih hk hq e)
            · rw [if_neg c_9598] at e
              refine Rn.bt hT rfl rfl rfl (decide_eq_true c_9598) ?_
              refine Rn.n hT 1 (pc' := 136) (L' := [some (.ref q0), some (.int x1), some (.int x2), some (.int x3), some (.int x4), some (.int x5), some (.int x6)]) (st' := [.int (0 : Int32)]) rfl ?_
              exact Rn.weak (ll_s (ll_s (ll_s (ll_s (ll_n (ll_s (ll_s ll_e))))))) (rX12_guards_b136 hd ih hk hq e)
        · rw [if_neg c_9590] at e
          refine Rn.bt hT rfl rfl rfl (decide_eq_true c_9590) ?_
          exact Rn.weak (ll_s (ll_s (ll_s (ll_s (ll_s (ll_s (ll_n ll_e))))))) (hk x4 e)
def fX12_guards_b144 (N : Nat) (h : iv_H) (q0 : Nat) (x1 : Int32) (x2 : Int32) (x3 : Int32) (x4 : Int32) (x5 : Int32)  (kb : Int32 → Int32 → Option (Int32)) (kx : Int32 → Option (Int32)) : Option (Int32) := (kb x4 (x5 + (1 : Int32)))
set_option maxRecDepth 10000 in
set_option maxHeartbeats 4000000 in
theorem rX12_guards_b144 {d N : Nat} (hd : 5 ≤ d) {h : iv_H} {q0 : Nat} {x1 : Int32} {x2 : Int32} {x3 : Int32} {x4 : Int32} {x5 : Int32}  {kb : Int32 → Int32 → Option (Int32)} {kx : Int32 → Option (Int32)} {r : Int32} {Q : Option Value → iv_H → Prop} (hb : ∀ (w4 : Int32) (w5 : Int32), kb w4 w5 = some r → Rn d 326 (some .int) 65 [some (.ref q0), some (.int x1), some (.int x2), some (.int x3), some (.int w4), some (.int w5), none] [] h Q) (hk : ∀ (w4 : Int32), kx w4 = some r → Rn d 326 (some .int) 150 [some (.ref q0), some (.int x1), some (.int x2), some (.int x3), some (.int w4), none, none] [] h Q) (hq : Q (some (.int r)) h) (e : fX12_guards_b144 N h q0 x1 x2 x3 x4 x5  kb kx = some r) : Rn d 326 (some .int) 144 [some (.ref q0), some (.int x1), some (.int x2), some (.int x3), some (.int x4), some (.int x5), none] [] h Q := by
  have hT := hX12_guards
  unfold fX12_guards_b144 at e
  refine Rn.n hT 2 (pc' := 65) (L' := [some (.ref q0), some (.int x1), some (.int x2), some (.int x3), some (.int x4), some (.int (x5 + (1 : Int32))), none]) (st' := []) rfl ?_
  exact Rn.weak (ll_s (ll_s (ll_s (ll_s (ll_s (ll_s (ll_n ll_e))))))) (hb x4 (x5 + (1 : Int32)) e)
def fX12_guards_l65 (N : Nat) (h : iv_H) (q0 : Nat) (x1 : Int32) (x2 : Int32) (x3 : Int32) (kx : Int32 → Option (Int32)) : Nat → Int32 → Int32 → Option (Int32)
  | 0, _, _ => none
  | n + 1, x4, x5 => ((gR h 12 1 q0).bind fun v_9581 => ((aI h v_9581 (2 : Int32)).bind fun v_9583 => (if v_9583 ≤ x5 then (kx x4) else (if x4 = 0 then (kx x4) else (fX12_guards_l84 N h q0 x1 x2 x3 x5 (fun (z_9587 : Int32) => (fX12_guards_b144 N h q0 x1 x2 x3 z_9587 x5 (fX12_guards_l65 N h q0 x1 x2 x3 kx n) kx)) N x4 (0 : Int32))))))
set_option maxRecDepth 10000 in
set_option maxHeartbeats 4000000 in
theorem rX12_guards_l65 {d N : Nat} (hd : 5 ≤ d) {h : iv_H} {q0 : Nat} {x1 : Int32} {x2 : Int32} {x3 : Int32} {kx : Int32 → Option (Int32)} {r : Int32} {Q : Option Value → iv_H → Prop} (hk : ∀ (x4 : Int32), kx x4 = some r → Rn d 326 (some .int) 150 [some (.ref q0), some (.int x1), some (.int x2), some (.int x3), some (.int x4), none, none] [] h Q) (hq : Q (some (.int r)) h) : ∀ (n : Nat) (x4 : Int32) (x5 : Int32), fX12_guards_l65 N h q0 x1 x2 x3 kx n x4 x5 = some r → Rn d 326 (some .int) 65 [some (.ref q0), some (.int x1), some (.int x2), some (.int x3), some (.int x4), some (.int x5), none] [] h Q := by
  have hT := hX12_guards
  intro n
  induction n with
  | zero =>
    intro x4 x5 e
    rw [fX12_guards_l65] at e
    cases e
  | succ n ih =>
    intro x4 x5 e
    rw [fX12_guards_l65] at e
    refine Rn.n hT 2 (pc' := 68) (L' := [some (.ref q0), some (.int x1), some (.int x2), some (.int x3), some (.int x4), some (.int x5), none]) (st' := [.ref q0, .int x5]) rfl ?_
    obtain ⟨v_9581, e_9582, e⟩ := Option.bind_eq_some_iff.mp e
    refine Rn.hp hT rfl rfl (gR_hp e_9582) ?_
    refine Rn.n hT 1 (pc' := 72) (L' := [some (.ref q0), some (.int x1), some (.int x2), some (.int x3), some (.int x4), some (.int x5), none]) (st' := [.int (2 : Int32), .ref v_9581, .int x5]) rfl ?_
    obtain ⟨v_9583, e_9584, e⟩ := Option.bind_eq_some_iff.mp e
    refine Rn.hp hT rfl rfl (aI_hp e_9584) ?_
    by_cases c_9585 : v_9583 ≤ x5
    · rw [if_pos c_9585] at e
      refine Rn.bt hT rfl rfl rfl (decide_eq_true c_9585) ?_
      exact Rn.weak (ll_s (ll_s (ll_s (ll_s (ll_s (ll_n (ll_n ll_e))))))) (hk x4 e)
    · rw [if_neg c_9585] at e
      refine Rn.bf hT rfl rfl rfl (decide_eq_false c_9585) ?_
      refine Rn.n hT 1 (pc' := 78) (L' := [some (.ref q0), some (.int x1), some (.int x2), some (.int x3), some (.int x4), some (.int x5), none]) (st' := [.int x4]) rfl ?_
      by_cases c_9586 : x4 = 0
      · rw [if_pos c_9586] at e
        refine Rn.bt hT rfl rfl rfl (decide_eq_true c_9586) ?_
        exact Rn.weak (ll_s (ll_s (ll_s (ll_s (ll_s (ll_n (ll_n ll_e))))))) (hk x4 e)
      · rw [if_neg c_9586] at e
        refine Rn.bf hT rfl rfl rfl (decide_eq_false c_9586) ?_
        refine Rn.n hT 2 (pc' := 84) (L' := [some (.ref q0), some (.int x1), some (.int x2), some (.int x3), some (.int x4), some (.int x5), some (.int (0 : Int32))]) (st' := []) rfl ?_
        refine Rn.weak (ll_s (ll_s (ll_s (ll_s (ll_s (ll_s (ll_s ll_e))))))) (rX12_guards_l84 hd (fun z_9587 e => ?_) hq N x4 (0 : Int32) e)
        try dsimp only at e
        exact Rn.weak (ll_s (ll_s (ll_s (ll_s (ll_s (ll_s (ll_n ll_e))))))) (rX12_guards_b144 hd ih hk hq e)
def fX12_guards_b160 (N : Nat) (h : iv_H) (q0 : Nat) (x1 : Int32) (x3 : Int32) (s0 : Int32) (kb : Int32 → Int32 → Option (Int32)) (kx : Int32 → Option (Int32)) : Option (Int32) := (kb s0 (x3 + (1 : Int32)))
set_option maxRecDepth 10000 in
set_option maxHeartbeats 4000000 in
theorem rX12_guards_b160 {d N : Nat} (hd : 5 ≤ d) {h : iv_H} {q0 : Nat} {x1 : Int32} {x3 : Int32} {s0 : Int32} {kb : Int32 → Int32 → Option (Int32)} {kx : Int32 → Option (Int32)} {r : Int32} {Q : Option Value → iv_H → Prop} (hb : ∀ (w2 : Int32) (w3 : Int32), kb w2 w3 = some r → Rn d 326 (some .int) 32 [some (.ref q0), some (.int x1), some (.int w2), some (.int w3), none, none, none] [] h Q) (hk : ∀ (w2 : Int32), kx w2 = some r → Rn d 326 (some .int) 167 [none, some (.int x1), some (.int w2), none, none, none, none] [] h Q) (hq : Q (some (.int r)) h) (e : fX12_guards_b160 N h q0 x1 x3 s0 kb kx = some r) : Rn d 326 (some .int) 160 [some (.ref q0), some (.int x1), none, some (.int x3), none, none, none] [.int s0] h Q := by
  have hT := hX12_guards
  unfold fX12_guards_b160 at e
  refine Rn.n hT 3 (pc' := 32) (L' := [some (.ref q0), some (.int x1), some (.int s0), some (.int (x3 + (1 : Int32))), none, none, none]) (st' := []) rfl ?_
  exact Rn.weak (ll_s (ll_s (ll_s (ll_s (ll_n (ll_n (ll_n ll_e))))))) (hb s0 (x3 + (1 : Int32)) e)
def fX12_guards_b150 (N : Nat) (h : iv_H) (q0 : Nat) (x1 : Int32) (x2 : Int32) (x3 : Int32) (x4 : Int32)  (kb : Int32 → Int32 → Option (Int32)) (kx : Int32 → Option (Int32)) : Option (Int32) := (if x4 = 0 then (fX12_guards_b160 N h q0 x1 x3 x2 kb kx) else (fX12_guards_b160 N h q0 x1 x3 x3 kb kx))
set_option maxRecDepth 10000 in
set_option maxHeartbeats 4000000 in
theorem rX12_guards_b150 {d N : Nat} (hd : 5 ≤ d) {h : iv_H} {q0 : Nat} {x1 : Int32} {x2 : Int32} {x3 : Int32} {x4 : Int32}  {kb : Int32 → Int32 → Option (Int32)} {kx : Int32 → Option (Int32)} {r : Int32} {Q : Option Value → iv_H → Prop} (hb : ∀ (w2 : Int32) (w3 : Int32), kb w2 w3 = some r → Rn d 326 (some .int) 32 [some (.ref q0), some (.int x1), some (.int w2), some (.int w3), none, none, none] [] h Q) (hk : ∀ (w2 : Int32), kx w2 = some r → Rn d 326 (some .int) 167 [none, some (.int x1), some (.int w2), none, none, none, none] [] h Q) (hq : Q (some (.int r)) h) (e : fX12_guards_b150 N h q0 x1 x2 x3 x4  kb kx = some r) : Rn d 326 (some .int) 150 [some (.ref q0), some (.int x1), some (.int x2), some (.int x3), some (.int x4), none, none] [] h Q := by
  have hT := hX12_guards
  unfold fX12_guards_b150 at e
  refine Rn.n hT 1 (pc' := 152) (L' := [some (.ref q0), some (.int x1), some (.int x2), some (.int x3), some (.int x4), none, none]) (st' := [.int x4]) rfl ?_
  by_cases c_9599 : x4 = 0
  · rw [if_pos c_9599] at e
    refine Rn.bt hT rfl rfl rfl (decide_eq_true c_9599) ?_
    refine Rn.n hT 1 (pc' := 160) (L' := [some (.ref q0), some (.int x1), some (.int x2), some (.int x3), some (.int x4), none, none]) (st' := [.int x2]) rfl ?_
    exact Rn.weak (ll_s (ll_s (ll_n (ll_s (ll_n (ll_n (ll_n ll_e))))))) (rX12_guards_b160 hd hb hk hq e)
  · rw [if_neg c_9599] at e
    refine Rn.bf hT rfl rfl rfl (decide_eq_false c_9599) ?_
    refine Rn.n hT 2 (pc' := 160) (L' := [some (.ref q0), some (.int x1), some (.int x2), some (.int x3), some (.int x4), none, none]) (st' := [.int x3]) rfl ?_
    exact Rn.weak (ll_s (ll_s (ll_n (ll_s (ll_n (ll_n (ll_n ll_e))))))) (rX12_guards_b160 hd hb hk hq e)
def fX12_guards_b60 (N : Nat) (h : iv_H) (q0 : Nat) (x1 : Int32) (x2 : Int32) (x3 : Int32) (s0 : Int32) (kb : Int32 → Int32 → Option (Int32)) (kx : Int32 → Option (Int32)) : Option (Int32) := (fX12_guards_l65 N h q0 x1 x2 x3 (fun (z_9580 : Int32) => (fX12_guards_b150 N h q0 x1 x2 x3 z_9580 kb kx)) N s0 (0 : Int32))
set_option maxRecDepth 10000 in
set_option maxHeartbeats 4000000 in
theorem rX12_guards_b60 {d N : Nat} (hd : 5 ≤ d) {h : iv_H} {q0 : Nat} {x1 : Int32} {x2 : Int32} {x3 : Int32} {s0 : Int32} {kb : Int32 → Int32 → Option (Int32)} {kx : Int32 → Option (Int32)} {r : Int32} {Q : Option Value → iv_H → Prop} (hb : ∀ (w2 : Int32) (w3 : Int32), kb w2 w3 = some r → Rn d 326 (some .int) 32 [some (.ref q0), some (.int x1), some (.int w2), some (.int w3), none, none, none] [] h Q) (hk : ∀ (w2 : Int32), kx w2 = some r → Rn d 326 (some .int) 167 [none, some (.int x1), some (.int w2), none, none, none, none] [] h Q) (hq : Q (some (.int r)) h) (e : fX12_guards_b60 N h q0 x1 x2 x3 s0 kb kx = some r) : Rn d 326 (some .int) 60 [some (.ref q0), some (.int x1), some (.int x2), some (.int x3), none, none, none] [.int s0] h Q := by
  have hT := hX12_guards
  unfold fX12_guards_b60 at e
  refine Rn.n hT 3 (pc' := 65) (L' := [some (.ref q0), some (.int x1), some (.int x2), some (.int x3), some (.int s0), some (.int (0 : Int32)), none]) (st' := []) rfl ?_
  refine Rn.weak (ll_s (ll_s (ll_s (ll_s (ll_s (ll_s (ll_n ll_e))))))) (rX12_guards_l65 hd (fun z_9580 e => ?_) hq N s0 (0 : Int32) e)
  try dsimp only at e
  exact Rn.weak (ll_s (ll_s (ll_s (ll_s (ll_s (ll_n (ll_n ll_e))))))) (rX12_guards_b150 hd hb hk hq e)
def fX12_guards_l32 (N : Nat) (h : iv_H) (q0 : Nat) (x1 : Int32) (kx : Int32 → Option (Int32)) : Nat → Int32 → Int32 → Option (Int32)
  | 0, _, _ => none
  | n + 1, x2, x3 => ((gR h 12 1 q0).bind fun v_9570 => ((aI h v_9570 (2 : Int32)).bind fun v_9572 => (if ((1 : Int32) <<< (v_9572 &&& 31)) ≤ x3 then (kx x2) else ((fX12_bits N h x3).bind fun v_9576 => ((fX12_bits N h x2).bind fun v_9578 => (if v_9578 ≤ v_9576 then (fX12_guards_b60 N h q0 x1 x2 x3 (0 : Int32) (fX12_guards_l32 N h q0 x1 kx n) kx) else (fX12_guards_b60 N h q0 x1 x2 x3 (1 : Int32) (fX12_guards_l32 N h q0 x1 kx n) kx)))))))
set_option maxRecDepth 10000 in
set_option maxHeartbeats 4000000 in
theorem rX12_guards_l32 {d N : Nat} (hd : 5 ≤ d) {h : iv_H} {q0 : Nat} {x1 : Int32} {kx : Int32 → Option (Int32)} {r : Int32} {Q : Option Value → iv_H → Prop} (hk : ∀ (x2 : Int32), kx x2 = some r → Rn d 326 (some .int) 167 [none, some (.int x1), some (.int x2), none, none, none, none] [] h Q) (hq : Q (some (.int r)) h) : ∀ (n : Nat) (x2 : Int32) (x3 : Int32), fX12_guards_l32 N h q0 x1 kx n x2 x3 = some r → Rn d 326 (some .int) 32 [some (.ref q0), some (.int x1), some (.int x2), some (.int x3), none, none, none] [] h Q := by
  have hT := hX12_guards
  intro n
  induction n with
  | zero =>
    intro x2 x3 e
    rw [fX12_guards_l32] at e
    cases e
  | succ n ih =>
    intro x2 x3 e
    rw [fX12_guards_l32] at e
    refine Rn.n hT 3 (pc' := 35) (L' := [some (.ref q0), some (.int x1), some (.int x2), some (.int x3), none, none, none]) (st' := [.ref q0, .int (1 : Int32), .int x3]) rfl ?_
    obtain ⟨v_9570, e_9571, e⟩ := Option.bind_eq_some_iff.mp e
    refine Rn.hp hT rfl rfl (gR_hp e_9571) ?_
    refine Rn.n hT 1 (pc' := 39) (L' := [some (.ref q0), some (.int x1), some (.int x2), some (.int x3), none, none, none]) (st' := [.int (2 : Int32), .ref v_9570, .int (1 : Int32), .int x3]) rfl ?_
    obtain ⟨v_9572, e_9573, e⟩ := Option.bind_eq_some_iff.mp e
    refine Rn.hp hT rfl rfl (aI_hp e_9573) ?_
    refine Rn.n hT 1 (pc' := 41) (L' := [some (.ref q0), some (.int x1), some (.int x2), some (.int x3), none, none, none]) (st' := [.int ((1 : Int32) <<< (v_9572 &&& 31)), .int x3]) rfl ?_
    by_cases c_9574 : ((1 : Int32) <<< (v_9572 &&& 31)) ≤ x3
    · rw [if_pos c_9574] at e
      refine Rn.bt hT rfl rfl rfl (decide_eq_true c_9574) ?_
      exact Rn.weak (ll_n (ll_s (ll_s (ll_n (ll_n (ll_n (ll_n ll_e))))))) (hk x2 e)
    · rw [if_neg c_9574] at e
      refine Rn.bf hT rfl rfl rfl (decide_eq_false c_9574) ?_
      refine Rn.n hT 1 (pc' := 45) (L' := [some (.ref q0), some (.int x1), some (.int x2), some (.int x3), none, none, none]) (st' := [.int x3]) rfl ?_
      obtain ⟨v_9576, e_9575, e⟩ := Option.bind_eq_some_iff.mp e
      refine Rn.call hT rfl rfl rfl (Nat.le_of_ble_eq_true rfl) rfl (rX12_bits (by omega) e_9575 ?_)
      show Rn d _ _ 48 [some (.ref q0), some (.int x1), some (.int x2), some (.int x3), none, none, none] [.int v_9576] h Q
      refine Rn.n hT 1 (pc' := 49) (L' := [some (.ref q0), some (.int x1), some (.int x2), some (.int x3), none, none, none]) (st' := [.int x2, .int v_9576]) rfl ?_
      obtain ⟨v_9578, e_9577, e⟩ := Option.bind_eq_some_iff.mp e
      refine Rn.call hT rfl rfl rfl (Nat.le_of_ble_eq_true rfl) rfl (rX12_bits (by omega) e_9577 ?_)
      show Rn d _ _ 52 [some (.ref q0), some (.int x1), some (.int x2), some (.int x3), none, none, none] [.int v_9578, .int v_9576] h Q
      by_cases c_9579 : v_9578 ≤ v_9576
      · rw [if_pos c_9579] at e
        refine Rn.bt hT rfl rfl rfl (decide_eq_true c_9579) ?_
        refine Rn.n hT 1 (pc' := 60) (L' := [some (.ref q0), some (.int x1), some (.int x2), some (.int x3), none, none, none]) (st' := [.int (0 : Int32)]) rfl ?_
        exact Rn.weak (ll_s (ll_s (ll_s (ll_s (ll_n (ll_n (ll_n ll_e))))))) (rX12_guards_b60 hd ih hk hq e)
      · rw [if_neg c_9579] at e
        refine Rn.bf hT rfl rfl rfl (decide_eq_false c_9579) ?_
        refine Rn.n hT 2 (pc' := 60) (L' := [some (.ref q0), some (.int x1), some (.int x2), some (.int x3), none, none, none]) (st' := [.int (1 : Int32)]) rfl ?_
        exact Rn.weak (ll_s (ll_s (ll_s (ll_s (ll_n (ll_n (ll_n ll_e))))))) (rX12_guards_b60 hd ih hk hq e)
def fX12_guards_b179 (N : Nat) (h : iv_H)  (s0 : Int32) : Option (Int32) := (some s0)
set_option maxRecDepth 10000 in
set_option maxHeartbeats 4000000 in
theorem rX12_guards_b179 {d N : Nat} (hd : 5 ≤ d) {h : iv_H}  {s0 : Int32} {r : Int32} {Q : Option Value → iv_H → Prop} (hq : Q (some (.int r)) h) (e : fX12_guards_b179 N h  s0 = some r) : Rn d 326 (some .int) 179 [none, none, none, none, none, none, none] [.int s0] h Q := by
  have hT := hX12_guards
  unfold fX12_guards_b179 at e
  obtain rfl := Option.some.inj e
  exact Rn.ret hT rfl rfl rfl hq
def fX12_guards (N : Nat) (h : iv_H) (q0 : Nat) (x1 : Int32) : Option (Int32) := ((cko h q0 12).bind fun _ => (fX12_isPalace N h q0).bind fun v_9557 => (if v_9557 = 0 then (fX12_guards_b17 N h) else ((fX12_in N h ((x1).toInt64) (0 : Int64) (1 : Int64)).bind fun v_9560 => (if v_9560 = 0 then (fX12_guards_b17 N h) else ((gR h 12 1 q0).bind fun v_9562 => ((aI h v_9562 (2 : Int32)).bind fun v_9564 => (fX12_guards_l32 N h q0 x1 (fun (z_9566 : Int32) => (if x1 = 0 then ((fX12_bits N h z_9566).bind fun v_9569 => (fX12_guards_b179 N h v_9569)) else (fX12_guards_b179 N h z_9566))) N (((1 : Int32) <<< (v_9564 &&& 31)) - (1 : Int32)) (0 : Int32))))))))
set_option maxRecDepth 10000 in
set_option maxHeartbeats 4000000 in
theorem rX12_guards {d N : Nat} (hd : 6 ≤ d) {h : iv_H} {q0 : Nat} {x1 : Int32} {r : Int32} {Q : Option Value → iv_H → Prop} (e : fX12_guards N h q0 x1 = some r) (hq : Q (some (.int r)) h) : Cl d 326 [.ref q0, .int x1] h Q := by
  obtain ⟨d, rfl⟩ : ∃ k, d = k + 1 := ⟨d - 1, by omega⟩
  have hd : 5 ≤ d := by omega
  have hT := hX12_guards
  unfold fX12_guards at e
  refine Cl.into (by decide) gX12_guards rfl ?_
  show Rn d 326 (some .int) 0 [some (.ref q0), some (.int x1), none, none, none, none, none] [] h Q
  refine Rn.n hT 1 (pc' := 1) (L' := [some (.ref q0), some (.int x1), none, none, none, none, none]) (st' := [.ref q0]) rfl ?_
  obtain ⟨_, e_9556, e⟩ := Option.bind_eq_some_iff.mp e
  obtain ⟨v_9557, e_9555, e⟩ := Option.bind_eq_some_iff.mp e
  refine Rn.call hT rfl rfl rfl (Nat.le_of_ble_eq_true rfl) (rcv_v gX12_isPalace (by omega) e_9556) (rX12_isPalace (by omega) e_9555 ?_)
  show Rn d _ _ 4 [some (.ref q0), some (.int x1), none, none, none, none, none] [.int v_9557] h Q
  by_cases c_9558 : v_9557 = 0
  · rw [if_pos c_9558] at e
    refine Rn.bt hT rfl rfl rfl (decide_eq_true c_9558) ?_
    exact Rn.weak (ll_n (ll_n (ll_n (ll_n (ll_n (ll_n (ll_n ll_e))))))) (rX12_guards_b17 hd hq e)
  · rw [if_neg c_9558] at e
    refine Rn.bf hT rfl rfl rfl (decide_eq_false c_9558) ?_
    refine Rn.n hT 4 (pc' := 11) (L' := [some (.ref q0), some (.int x1), none, none, none, none, none]) (st' := [.long (1 : Int64), .long (0 : Int64), .long ((x1).toInt64)]) rfl ?_
    obtain ⟨v_9560, e_9559, e⟩ := Option.bind_eq_some_iff.mp e
    refine Rn.call hT rfl rfl rfl (Nat.le_of_ble_eq_true rfl) rfl (rX12_in (by omega) e_9559 ?_)
    show Rn d _ _ 14 [some (.ref q0), some (.int x1), none, none, none, none, none] [.int v_9560] h Q
    by_cases c_9561 : v_9560 = 0
    · rw [if_pos c_9561] at e
      refine Rn.bf hT rfl rfl rfl (decide_eq_false (fun z => z c_9561)) ?_
      exact Rn.weak (ll_n (ll_n (ll_n (ll_n (ll_n (ll_n (ll_n ll_e))))))) (rX12_guards_b17 hd hq e)
    · rw [if_neg c_9561] at e
      refine Rn.bt hT rfl rfl rfl (decide_eq_true c_9561) ?_
      refine Rn.n hT 2 (pc' := 21) (L' := [some (.ref q0), some (.int x1), none, none, none, none, none]) (st' := [.ref q0, .int (1 : Int32)]) rfl ?_
      obtain ⟨v_9562, e_9563, e⟩ := Option.bind_eq_some_iff.mp e
      refine Rn.hp hT rfl rfl (gR_hp e_9563) ?_
      refine Rn.n hT 1 (pc' := 25) (L' := [some (.ref q0), some (.int x1), none, none, none, none, none]) (st' := [.int (2 : Int32), .ref v_9562, .int (1 : Int32)]) rfl ?_
      obtain ⟨v_9564, e_9565, e⟩ := Option.bind_eq_some_iff.mp e
      refine Rn.hp hT rfl rfl (aI_hp e_9565) ?_
      refine Rn.n hT 6 (pc' := 32) (L' := [some (.ref q0), some (.int x1), some (.int (((1 : Int32) <<< (v_9564 &&& 31)) - (1 : Int32))), some (.int (0 : Int32)), none, none, none]) (st' := []) rfl ?_
      refine Rn.weak (ll_s (ll_s (ll_s (ll_s (ll_n (ll_n (ll_n ll_e))))))) (rX12_guards_l32 hd (fun z_9566 e => ?_) hq N (((1 : Int32) <<< (v_9564 &&& 31)) - (1 : Int32)) (0 : Int32) e)
      try dsimp only at e
      refine Rn.n hT 1 (pc' := 168) (L' := [none, some (.int x1), some (.int z_9566), none, none, none, none]) (st' := [.int x1]) rfl ?_
      by_cases c_9567 : x1 = 0
      · rw [if_pos c_9567] at e
        refine Rn.bf hT rfl rfl rfl (decide_eq_false (fun z => z c_9567)) ?_
        refine Rn.n hT 1 (pc' := 172) (L' := [none, some (.int x1), some (.int z_9566), none, none, none, none]) (st' := [.int z_9566]) rfl ?_
        obtain ⟨v_9569, e_9568, e⟩ := Option.bind_eq_some_iff.mp e
        refine Rn.call hT rfl rfl rfl (Nat.le_of_ble_eq_true rfl) rfl (rX12_bits (by omega) e_9568 ?_)
        show Rn d _ _ 175 [none, some (.int x1), some (.int z_9566), none, none, none, none] [.int v_9569] h Q
        refine Rn.n hT 1 (pc' := 179) (L' := [none, some (.int x1), some (.int z_9566), none, none, none, none]) (st' := [.int v_9569]) rfl ?_
        exact Rn.weak (ll_n (ll_n (ll_n (ll_n (ll_n (ll_n (ll_n ll_e))))))) (rX12_guards_b179 hd hq e)
      · rw [if_neg c_9567] at e
        refine Rn.bt hT rfl rfl rfl (decide_eq_true c_9567) ?_
        refine Rn.n hT 1 (pc' := 179) (L' := [none, some (.int x1), some (.int z_9566), none, none, none, none]) (st' := [.int z_9566]) rfl ?_
        exact Rn.weak (ll_n (ll_n (ll_n (ll_n (ll_n (ll_n (ll_n ll_e))))))) (rX12_guards_b179 hd hq e)
set_option maxRecDepth 10000 in
theorem hX12_fromEdge : iv_Tb 327 tX12_fromEdge := iv_tb_of (m := mX12_fromEdge) rfl
set_option maxRecDepth 10000 in
theorem gX12_fromEdge : PG.2 327 = some mX12_fromEdge := iv_pi_of (t := tX12_fromEdge) rfl (by decide)
def fX12_fromEdge_b82 (N : Nat) (h : iv_H)  (s0 : Int32) : Option (Int32) := (some s0)
set_option maxRecDepth 10000 in
set_option maxHeartbeats 4000000 in
theorem rX12_fromEdge_b82 {d N : Nat} (hd : 0 ≤ d) {h : iv_H}  {s0 : Int32} {r : Int32} {Q : Option Value → iv_H → Prop} (hq : Q (some (.int r)) h) (e : fX12_fromEdge_b82 N h  s0 = some r) : Rn d 327 (some .int) 82 [none, none, none, none, none, none] [.int s0] h Q := by
  have hT := hX12_fromEdge
  unfold fX12_fromEdge_b82 at e
  obtain rfl := Option.some.inj e
  exact Rn.ret hT rfl rfl rfl hq
def fX12_fromEdge_b66 (N : Nat) (h : iv_H) (x4 : Int32) (s0 : Int32) : Option (Int32) := (if s0 ≤ x4 then (fX12_fromEdge_b82 N h s0) else (fX12_fromEdge_b82 N h x4))
set_option maxRecDepth 10000 in
set_option maxHeartbeats 4000000 in
theorem rX12_fromEdge_b66 {d N : Nat} (hd : 0 ≤ d) {h : iv_H} {x4 : Int32} {s0 : Int32} {r : Int32} {Q : Option Value → iv_H → Prop} (hq : Q (some (.int r)) h) (e : fX12_fromEdge_b66 N h x4 s0 = some r) : Rn d 327 (some .int) 66 [none, none, none, none, some (.int x4), none] [.int s0] h Q := by
  have hT := hX12_fromEdge
  unfold fX12_fromEdge_b66 at e
  refine Rn.n hT 3 (pc' := 72) (L' := [none, none, none, none, some (.int x4), some (.int s0)]) (st' := [.int s0, .int x4]) rfl ?_
  by_cases c_9618 : s0 ≤ x4
  · rw [if_pos c_9618] at e
    refine Rn.bt hT rfl rfl rfl (decide_eq_true c_9618) ?_
    refine Rn.n hT 1 (pc' := 82) (L' := [none, none, none, none, some (.int x4), some (.int s0)]) (st' := [.int s0]) rfl ?_
    exact Rn.weak (ll_n (ll_n (ll_n (ll_n (ll_n (ll_n ll_e)))))) (rX12_fromEdge_b82 hd hq e)
  · rw [if_neg c_9618] at e
    refine Rn.bf hT rfl rfl rfl (decide_eq_false c_9618) ?_
    refine Rn.n hT 2 (pc' := 82) (L' := [none, none, none, none, some (.int x4), some (.int s0)]) (st' := [.int x4]) rfl ?_
    exact Rn.weak (ll_n (ll_n (ll_n (ll_n (ll_n (ll_n ll_e)))))) (rX12_fromEdge_b82 hd hq e)
def fX12_fromEdge_b36 (N : Nat) (h : iv_H) (q0 : Nat) (x3 : Int32) (s0 : Int32) : Option (Int32) := ((gR h 12 1 q0).bind fun v_9609 => ((aI h v_9609 (1 : Int32)).bind fun v_9611 => (if x3 ≤ ((v_9611 - (1 : Int32)) - x3) then (fX12_fromEdge_b66 N h s0 x3) else ((gR h 12 1 q0).bind fun v_9614 => ((aI h v_9614 (1 : Int32)).bind fun v_9616 => (fX12_fromEdge_b66 N h s0 ((v_9616 - (1 : Int32)) - x3)))))))
set_option maxRecDepth 10000 in
set_option maxHeartbeats 4000000 in
theorem rX12_fromEdge_b36 {d N : Nat} (hd : 0 ≤ d) {h : iv_H} {q0 : Nat} {x3 : Int32} {s0 : Int32} {r : Int32} {Q : Option Value → iv_H → Prop} (hq : Q (some (.int r)) h) (e : fX12_fromEdge_b36 N h q0 x3 s0 = some r) : Rn d 327 (some .int) 36 [some (.ref q0), none, none, some (.int x3), none, none] [.int s0] h Q := by
  have hT := hX12_fromEdge
  unfold fX12_fromEdge_b36 at e
  refine Rn.n hT 2 (pc' := 39) (L' := [some (.ref q0), none, none, some (.int x3), some (.int s0), none]) (st' := [.ref q0]) rfl ?_
  obtain ⟨v_9609, e_9610, e⟩ := Option.bind_eq_some_iff.mp e
  refine Rn.hp hT rfl rfl (gR_hp e_9610) ?_
  refine Rn.n hT 1 (pc' := 43) (L' := [some (.ref q0), none, none, some (.int x3), some (.int s0), none]) (st' := [.int (1 : Int32), .ref v_9609]) rfl ?_
  obtain ⟨v_9611, e_9612, e⟩ := Option.bind_eq_some_iff.mp e
  refine Rn.hp hT rfl rfl (aI_hp e_9612) ?_
  refine Rn.n hT 5 (pc' := 49) (L' := [some (.ref q0), none, none, some (.int x3), some (.int s0), none]) (st' := [.int x3, .int ((v_9611 - (1 : Int32)) - x3)]) rfl ?_
  by_cases c_9613 : x3 ≤ ((v_9611 - (1 : Int32)) - x3)
  · rw [if_pos c_9613] at e
    refine Rn.bt hT rfl rfl rfl (decide_eq_true c_9613) ?_
    refine Rn.n hT 1 (pc' := 66) (L' := [some (.ref q0), none, none, some (.int x3), some (.int s0), none]) (st' := [.int x3]) rfl ?_
    exact Rn.weak (ll_n (ll_n (ll_n (ll_n (ll_s (ll_n ll_e)))))) (rX12_fromEdge_b66 hd hq e)
  · rw [if_neg c_9613] at e
    refine Rn.bf hT rfl rfl rfl (decide_eq_false c_9613) ?_
    refine Rn.n hT 1 (pc' := 53) (L' := [some (.ref q0), none, none, some (.int x3), some (.int s0), none]) (st' := [.ref q0]) rfl ?_
    obtain ⟨v_9614, e_9615, e⟩ := Option.bind_eq_some_iff.mp e
    refine Rn.hp hT rfl rfl (gR_hp e_9615) ?_
    refine Rn.n hT 1 (pc' := 57) (L' := [some (.ref q0), none, none, some (.int x3), some (.int s0), none]) (st' := [.int (1 : Int32), .ref v_9614]) rfl ?_
    obtain ⟨v_9616, e_9617, e⟩ := Option.bind_eq_some_iff.mp e
    refine Rn.hp hT rfl rfl (aI_hp e_9617) ?_
    refine Rn.n hT 5 (pc' := 66) (L' := [some (.ref q0), none, none, some (.int x3), some (.int s0), none]) (st' := [.int ((v_9616 - (1 : Int32)) - x3)]) rfl ?_
    exact Rn.weak (ll_n (ll_n (ll_n (ll_n (ll_s (ll_n ll_e)))))) (rX12_fromEdge_b66 hd hq e)
def fX12_fromEdge (N : Nat) (h : iv_H) (q0 : Nat) (x1 : Int32) : Option (Int32) := ((gR h 12 1 q0).bind fun v_9600 => ((aI h v_9600 (0 : Int32)).bind fun v_9602 => (if (x1 - x1 / (4 : Int32) * (4 : Int32)) ≤ ((v_9602 - (1 : Int32)) - (x1 - x1 / (4 : Int32) * (4 : Int32))) then (fX12_fromEdge_b36 N h q0 (x1 / (4 : Int32)) (x1 - x1 / (4 : Int32) * (4 : Int32))) else ((gR h 12 1 q0).bind fun v_9605 => ((aI h v_9605 (0 : Int32)).bind fun v_9607 => (fX12_fromEdge_b36 N h q0 (x1 / (4 : Int32)) ((v_9607 - (1 : Int32)) - (x1 - x1 / (4 : Int32) * (4 : Int32)))))))))
set_option maxRecDepth 10000 in
set_option maxHeartbeats 4000000 in
theorem rX12_fromEdge {d N : Nat} (hd : 1 ≤ d) {h : iv_H} {q0 : Nat} {x1 : Int32} {r : Int32} {Q : Option Value → iv_H → Prop} (e : fX12_fromEdge N h q0 x1 = some r) (hq : Q (some (.int r)) h) : Cl d 327 [.ref q0, .int x1] h Q := by
  obtain ⟨d, rfl⟩ : ∃ k, d = k + 1 := ⟨d - 1, by omega⟩
  have hd : 0 ≤ d := by omega
  have hT := hX12_fromEdge
  unfold fX12_fromEdge at e
  refine Cl.into (by decide) gX12_fromEdge rfl ?_
  show Rn d 327 (some .int) 0 [some (.ref q0), some (.int x1), none, none, none, none] [] h Q
  refine Rn.n hT 9 (pc' := 9) (L' := [some (.ref q0), some (.int x1), some (.int (x1 - x1 / (4 : Int32) * (4 : Int32))), some (.int (x1 / (4 : Int32))), none, none]) (st' := [.ref q0]) rfl ?_
  obtain ⟨v_9600, e_9601, e⟩ := Option.bind_eq_some_iff.mp e
  refine Rn.hp hT rfl rfl (gR_hp e_9601) ?_
  refine Rn.n hT 1 (pc' := 13) (L' := [some (.ref q0), some (.int x1), some (.int (x1 - x1 / (4 : Int32) * (4 : Int32))), some (.int (x1 / (4 : Int32))), none, none]) (st' := [.int (0 : Int32), .ref v_9600]) rfl ?_
  obtain ⟨v_9602, e_9603, e⟩ := Option.bind_eq_some_iff.mp e
  refine Rn.hp hT rfl rfl (aI_hp e_9603) ?_
  refine Rn.n hT 5 (pc' := 19) (L' := [some (.ref q0), some (.int x1), some (.int (x1 - x1 / (4 : Int32) * (4 : Int32))), some (.int (x1 / (4 : Int32))), none, none]) (st' := [.int (x1 - x1 / (4 : Int32) * (4 : Int32)), .int ((v_9602 - (1 : Int32)) - (x1 - x1 / (4 : Int32) * (4 : Int32)))]) rfl ?_
  by_cases c_9604 : (x1 - x1 / (4 : Int32) * (4 : Int32)) ≤ ((v_9602 - (1 : Int32)) - (x1 - x1 / (4 : Int32) * (4 : Int32)))
  · rw [if_pos c_9604] at e
    refine Rn.bt hT rfl rfl rfl (decide_eq_true c_9604) ?_
    refine Rn.n hT 1 (pc' := 36) (L' := [some (.ref q0), some (.int x1), some (.int (x1 - x1 / (4 : Int32) * (4 : Int32))), some (.int (x1 / (4 : Int32))), none, none]) (st' := [.int (x1 - x1 / (4 : Int32) * (4 : Int32))]) rfl ?_
    exact Rn.weak (ll_s (ll_n (ll_n (ll_s (ll_n (ll_n ll_e)))))) (rX12_fromEdge_b36 hd hq e)
  · rw [if_neg c_9604] at e
    refine Rn.bf hT rfl rfl rfl (decide_eq_false c_9604) ?_
    refine Rn.n hT 1 (pc' := 23) (L' := [some (.ref q0), some (.int x1), some (.int (x1 - x1 / (4 : Int32) * (4 : Int32))), some (.int (x1 / (4 : Int32))), none, none]) (st' := [.ref q0]) rfl ?_
    obtain ⟨v_9605, e_9606, e⟩ := Option.bind_eq_some_iff.mp e
    refine Rn.hp hT rfl rfl (gR_hp e_9606) ?_
    refine Rn.n hT 1 (pc' := 27) (L' := [some (.ref q0), some (.int x1), some (.int (x1 - x1 / (4 : Int32) * (4 : Int32))), some (.int (x1 / (4 : Int32))), none, none]) (st' := [.int (0 : Int32), .ref v_9605]) rfl ?_
    obtain ⟨v_9607, e_9608, e⟩ := Option.bind_eq_some_iff.mp e
    refine Rn.hp hT rfl rfl (aI_hp e_9608) ?_
    refine Rn.n hT 5 (pc' := 36) (L' := [some (.ref q0), some (.int x1), some (.int (x1 - x1 / (4 : Int32) * (4 : Int32))), some (.int (x1 / (4 : Int32))), none, none]) (st' := [.int ((v_9607 - (1 : Int32)) - (x1 - x1 / (4 : Int32) * (4 : Int32)))]) rfl ?_
    exact Rn.weak (ll_s (ll_n (ll_n (ll_s (ll_n (ll_n ll_e)))))) (rX12_fromEdge_b36 hd hq e)
set_option maxRecDepth 10000 in
theorem hX12_drift : iv_Tb 328 tX12_drift := iv_tb_of (m := mX12_drift) rfl
set_option maxRecDepth 10000 in
theorem gX12_drift : PG.2 328 = some mX12_drift := iv_pi_of (t := tX12_drift) rfl (by decide)
def fX12_drift_b19 (N : Nat) (h : iv_H)   : Option (Int32) := (some (-1 : Int32))
set_option maxRecDepth 10000 in
set_option maxHeartbeats 4000000 in
theorem rX12_drift_b19 {d N : Nat} (hd : 5 ≤ d) {h : iv_H}   {r : Int32} {Q : Option Value → iv_H → Prop} (hq : Q (some (.int r)) h) (e : fX12_drift_b19 N h   = some r) : Rn d 328 (some .int) 19 [none, none, none, none, none, none] [] h Q := by
  have hT := hX12_drift
  unfold fX12_drift_b19 at e
  refine Rn.n hT 1 (pc' := 20) (L' := [none, none, none, none, none, none]) (st' := [.int (-1 : Int32)]) rfl ?_
  obtain rfl := Option.some.inj e
  exact Rn.ret hT rfl rfl rfl hq
def fX12_drift_b96 (N : Nat) (h : iv_H) (q0 : Nat) (x1 : Int32) (x2 : Int32) (x4 : Int32) (s0 : Int32) (kb : Int32 → Int32 → Int32 → Option (Int32)) (kx : Int32 → Int32 → Option (Int32)) : Option (Int32) := (kb x2 s0 (x4 + (1 : Int32)))
set_option maxRecDepth 10000 in
set_option maxHeartbeats 4000000 in
theorem rX12_drift_b96 {d N : Nat} (hd : 5 ≤ d) {h : iv_H} {q0 : Nat} {x1 : Int32} {x2 : Int32} {x4 : Int32} {s0 : Int32} {kb : Int32 → Int32 → Int32 → Option (Int32)} {kx : Int32 → Int32 → Option (Int32)} {r : Int32} {Q : Option Value → iv_H → Prop} (hb : ∀ (w2 : Int32) (w3 : Int32) (w4 : Int32), kb w2 w3 w4 = some r → Rn d 328 (some .int) 29 [some (.ref q0), some (.int x1), some (.int w2), some (.int w3), some (.int w4), none] [] h Q) (hk : ∀ (w2 : Int32) (w3 : Int32), kx w2 w3 = some r → Rn d 328 (some .int) 103 [some (.ref q0), some (.int x1), some (.int w2), some (.int w3), none, none] [] h Q) (hq : Q (some (.int r)) h) (e : fX12_drift_b96 N h q0 x1 x2 x4 s0 kb kx = some r) : Rn d 328 (some .int) 96 [some (.ref q0), some (.int x1), some (.int x2), none, some (.int x4), none] [.int s0] h Q := by
  have hT := hX12_drift
  unfold fX12_drift_b96 at e
  refine Rn.n hT 3 (pc' := 29) (L' := [some (.ref q0), some (.int x1), some (.int x2), some (.int s0), some (.int (x4 + (1 : Int32))), none]) (st' := []) rfl ?_
  exact Rn.weak (ll_s (ll_s (ll_s (ll_s (ll_s (ll_n ll_e)))))) (hb x2 s0 (x4 + (1 : Int32)) e)
def fX12_drift_b90 (N : Nat) (h : iv_H) (q0 : Nat) (x1 : Int32) (x2 : Int32) (x4 : Int32)  (kb : Int32 → Int32 → Int32 → Option (Int32)) (kx : Int32 → Int32 → Option (Int32)) : Option (Int32) := (fX12_drift_b96 N h q0 x1 x2 x4 x4 kb kx)
set_option maxRecDepth 10000 in
set_option maxHeartbeats 4000000 in
theorem rX12_drift_b90 {d N : Nat} (hd : 5 ≤ d) {h : iv_H} {q0 : Nat} {x1 : Int32} {x2 : Int32} {x4 : Int32}  {kb : Int32 → Int32 → Int32 → Option (Int32)} {kx : Int32 → Int32 → Option (Int32)} {r : Int32} {Q : Option Value → iv_H → Prop} (hb : ∀ (w2 : Int32) (w3 : Int32) (w4 : Int32), kb w2 w3 w4 = some r → Rn d 328 (some .int) 29 [some (.ref q0), some (.int x1), some (.int w2), some (.int w3), some (.int w4), none] [] h Q) (hk : ∀ (w2 : Int32) (w3 : Int32), kx w2 w3 = some r → Rn d 328 (some .int) 103 [some (.ref q0), some (.int x1), some (.int w2), some (.int w3), none, none] [] h Q) (hq : Q (some (.int r)) h) (e : fX12_drift_b90 N h q0 x1 x2 x4  kb kx = some r) : Rn d 328 (some .int) 90 [some (.ref q0), some (.int x1), some (.int x2), none, some (.int x4), none] [] h Q := by
  have hT := hX12_drift
  unfold fX12_drift_b90 at e
  refine Rn.n hT 2 (pc' := 96) (L' := [some (.ref q0), some (.int x1), some (.int x2), none, some (.int x4), none]) (st' := [.int x4]) rfl ?_
  exact Rn.weak (ll_s (ll_s (ll_s (ll_n (ll_s (ll_n ll_e)))))) (rX12_drift_b96 hd hb hk hq e)
def fX12_drift_b66 (N : Nat) (h : iv_H) (q0 : Nat) (x1 : Int32) (x3 : Int32) (x4 : Int32) (s0 : Int32) (s1 : Int32) (kb : Int32 → Int32 → Int32 → Option (Int32)) (kx : Int32 → Int32 → Option (Int32)) : Option (Int32) := (if x3 = (-2 : Int32) then (fX12_drift_b90 N h q0 x1 (s1 + s0) x4 kb kx) else ((cko h q0 12).bind fun _ => (fX12_doorsOf N h q0 x4 (0 : Int32)).bind fun v_9651 => ((cko h q0 12).bind fun _ => (fX12_doorsOf N h q0 x3 (0 : Int32)).bind fun v_9654 => (if v_9651 ≤ v_9654 then (fX12_drift_b96 N h q0 x1 (s1 + s0) x4 x3 kb kx) else (fX12_drift_b90 N h q0 x1 (s1 + s0) x4 kb kx)))))
set_option maxRecDepth 10000 in
set_option maxHeartbeats 4000000 in
theorem rX12_drift_b66 {d N : Nat} (hd : 5 ≤ d) {h : iv_H} {q0 : Nat} {x1 : Int32} {x3 : Int32} {x4 : Int32} {s0 : Int32} {s1 : Int32} {kb : Int32 → Int32 → Int32 → Option (Int32)} {kx : Int32 → Int32 → Option (Int32)} {r : Int32} {Q : Option Value → iv_H → Prop} (hb : ∀ (w2 : Int32) (w3 : Int32) (w4 : Int32), kb w2 w3 w4 = some r → Rn d 328 (some .int) 29 [some (.ref q0), some (.int x1), some (.int w2), some (.int w3), some (.int w4), none] [] h Q) (hk : ∀ (w2 : Int32) (w3 : Int32), kx w2 w3 = some r → Rn d 328 (some .int) 103 [some (.ref q0), some (.int x1), some (.int w2), some (.int w3), none, none] [] h Q) (hq : Q (some (.int r)) h) (e : fX12_drift_b66 N h q0 x1 x3 x4 s0 s1 kb kx = some r) : Rn d 328 (some .int) 66 [some (.ref q0), some (.int x1), none, some (.int x3), some (.int x4), none] [.int s0, .int s1] h Q := by
  have hT := hX12_drift
  unfold fX12_drift_b66 at e
  refine Rn.n hT 4 (pc' := 71) (L' := [some (.ref q0), some (.int x1), some (.int (s1 + s0)), some (.int x3), some (.int x4), none]) (st' := [.int (-2 : Int32), .int x3]) rfl ?_
  by_cases c_9648 : x3 = (-2 : Int32)
  · rw [if_pos c_9648] at e
    refine Rn.bt hT rfl rfl rfl (decide_eq_true c_9648) ?_
    exact Rn.weak (ll_s (ll_s (ll_s (ll_n (ll_s (ll_n ll_e)))))) (rX12_drift_b90 hd hb hk hq e)
  · rw [if_neg c_9648] at e
    refine Rn.bf hT rfl rfl rfl (decide_eq_false c_9648) ?_
    refine Rn.n hT 3 (pc' := 78) (L' := [some (.ref q0), some (.int x1), some (.int (s1 + s0)), some (.int x3), some (.int x4), none]) (st' := [.int (0 : Int32), .int x4, .ref q0]) rfl ?_
    obtain ⟨_, e_9650, e⟩ := Option.bind_eq_some_iff.mp e
    obtain ⟨v_9651, e_9649, e⟩ := Option.bind_eq_some_iff.mp e
    refine Rn.call hT rfl rfl rfl (Nat.le_of_ble_eq_true rfl) (rcv_v gX12_doorsOf (by omega) e_9650) (rX12_doorsOf (by omega) e_9649 ?_)
    show Rn d _ _ 81 [some (.ref q0), some (.int x1), some (.int (s1 + s0)), some (.int x3), some (.int x4), none] [.int v_9651] h Q
    refine Rn.n hT 3 (pc' := 84) (L' := [some (.ref q0), some (.int x1), some (.int (s1 + s0)), some (.int x3), some (.int x4), none]) (st' := [.int (0 : Int32), .int x3, .ref q0, .int v_9651]) rfl ?_
    obtain ⟨_, e_9653, e⟩ := Option.bind_eq_some_iff.mp e
    obtain ⟨v_9654, e_9652, e⟩ := Option.bind_eq_some_iff.mp e
    refine Rn.call hT rfl rfl rfl (Nat.le_of_ble_eq_true rfl) (rcv_v gX12_doorsOf (by omega) e_9653) (rX12_doorsOf (by omega) e_9652 ?_)
    show Rn d _ _ 87 [some (.ref q0), some (.int x1), some (.int (s1 + s0)), some (.int x3), some (.int x4), none] [.int v_9654, .int v_9651] h Q
    by_cases c_9655 : v_9651 ≤ v_9654
    · rw [if_pos c_9655] at e
      refine Rn.bt hT rfl rfl rfl (decide_eq_true c_9655) ?_
      refine Rn.n hT 1 (pc' := 96) (L' := [some (.ref q0), some (.int x1), some (.int (s1 + s0)), some (.int x3), some (.int x4), none]) (st' := [.int x3]) rfl ?_
      exact Rn.weak (ll_s (ll_s (ll_s (ll_n (ll_s (ll_n ll_e)))))) (rX12_drift_b96 hd hb hk hq e)
    · rw [if_neg c_9655] at e
      refine Rn.bf hT rfl rfl rfl (decide_eq_false c_9655) ?_
      exact Rn.weak (ll_s (ll_s (ll_s (ll_n (ll_s (ll_n ll_e)))))) (rX12_drift_b90 hd hb hk hq e)
def fX12_drift_l29 (N : Nat) (h : iv_H) (q0 : Nat) (x1 : Int32) (kx : Int32 → Int32 → Option (Int32)) : Nat → Int32 → Int32 → Int32 → Option (Int32)
  | 0, _, _, _ => none
  | n + 1, x2, x3, x4 => ((gR h 12 1 q0).bind fun v_9632 => ((aI h v_9632 (2 : Int32)).bind fun v_9634 => (if v_9634 ≤ x4 then (kx x2 x3) else ((cko h q0 12).bind fun _ => (fX12_doorsOf N h q0 x4 (1 : Int32)).bind fun v_9639 => (if v_9639 ≤ 0 then (fX12_drift_b66 N h q0 x1 x3 x4 (0 : Int32) x2 (fX12_drift_l29 N h q0 x1 kx n) kx) else ((gR h 12 3 q0).bind fun v_9641 => ((aI h v_9641 x4).bind fun v_9643 => ((cko h q0 12).bind fun _ => (fX12_fromEdge N h q0 v_9643).bind fun v_9647 => (fX12_drift_b66 N h q0 x1 x3 x4 v_9647 x2 (fX12_drift_l29 N h q0 x1 kx n) kx)))))))))
set_option maxRecDepth 10000 in
set_option maxHeartbeats 4000000 in
theorem rX12_drift_l29 {d N : Nat} (hd : 5 ≤ d) {h : iv_H} {q0 : Nat} {x1 : Int32} {kx : Int32 → Int32 → Option (Int32)} {r : Int32} {Q : Option Value → iv_H → Prop} (hk : ∀ (x2 : Int32) (x3 : Int32), kx x2 x3 = some r → Rn d 328 (some .int) 103 [some (.ref q0), some (.int x1), some (.int x2), some (.int x3), none, none] [] h Q) (hq : Q (some (.int r)) h) : ∀ (n : Nat) (x2 : Int32) (x3 : Int32) (x4 : Int32), fX12_drift_l29 N h q0 x1 kx n x2 x3 x4 = some r → Rn d 328 (some .int) 29 [some (.ref q0), some (.int x1), some (.int x2), some (.int x3), some (.int x4), none] [] h Q := by
  have hT := hX12_drift
  intro n
  induction n with
  | zero =>
    intro x2 x3 x4 e
    rw [fX12_drift_l29] at e
    cases e
  | succ n ih =>
    intro x2 x3 x4 e
    rw [fX12_drift_l29] at e
    refine Rn.n hT 2 (pc' := 32) (L' := [some (.ref q0), some (.int x1), some (.int x2), some (.int x3), some (.int x4), none]) (st' := [.ref q0, .int x4]) rfl ?_
    obtain ⟨v_9632, e_9633, e⟩ := Option.bind_eq_some_iff.mp e
    refine Rn.hp hT rfl rfl (gR_hp e_9633) ?_
    refine Rn.n hT 1 (pc' := 36) (L' := [some (.ref q0), some (.int x1), some (.int x2), some (.int x3), some (.int x4), none]) (st' := [.int (2 : Int32), .ref v_9632, .int x4]) rfl ?_
    obtain ⟨v_9634, e_9635, e⟩ := Option.bind_eq_some_iff.mp e
    refine Rn.hp hT rfl rfl (aI_hp e_9635) ?_
    by_cases c_9636 : v_9634 ≤ x4
    · rw [if_pos c_9636] at e
      refine Rn.bt hT rfl rfl rfl (decide_eq_true c_9636) ?_
      exact Rn.weak (ll_s (ll_s (ll_s (ll_s (ll_n (ll_n ll_e)))))) (hk x2 x3 e)
    · rw [if_neg c_9636] at e
      refine Rn.bf hT rfl rfl rfl (decide_eq_false c_9636) ?_
      refine Rn.n hT 4 (pc' := 45) (L' := [some (.ref q0), some (.int x1), some (.int x2), some (.int x3), some (.int x4), none]) (st' := [.int (1 : Int32), .int x4, .ref q0, .int x2]) rfl ?_
      obtain ⟨_, e_9638, e⟩ := Option.bind_eq_some_iff.mp e
      obtain ⟨v_9639, e_9637, e⟩ := Option.bind_eq_some_iff.mp e
      refine Rn.call hT rfl rfl rfl (Nat.le_of_ble_eq_true rfl) (rcv_v gX12_doorsOf (by omega) e_9638) (rX12_doorsOf (by omega) e_9637 ?_)
      show Rn d _ _ 48 [some (.ref q0), some (.int x1), some (.int x2), some (.int x3), some (.int x4), none] [.int v_9639, .int x2] h Q
      by_cases c_9640 : v_9639 ≤ 0
      · rw [if_pos c_9640] at e
        refine Rn.bt hT rfl rfl rfl (decide_eq_true c_9640) ?_
        refine Rn.n hT 1 (pc' := 66) (L' := [some (.ref q0), some (.int x1), some (.int x2), some (.int x3), some (.int x4), none]) (st' := [.int (0 : Int32), .int x2]) rfl ?_
        exact Rn.weak (ll_s (ll_s (ll_n (ll_s (ll_s (ll_n ll_e)))))) (rX12_drift_b66 hd ih hk hq e)
      · rw [if_neg c_9640] at e
        refine Rn.bf hT rfl rfl rfl (decide_eq_false c_9640) ?_
        refine Rn.n hT 2 (pc' := 53) (L' := [some (.ref q0), some (.int x1), some (.int x2), some (.int x3), some (.int x4), none]) (st' := [.ref q0, .ref q0, .int x2]) rfl ?_
        obtain ⟨v_9641, e_9642, e⟩ := Option.bind_eq_some_iff.mp e
        refine Rn.hp hT rfl rfl (gR_hp e_9642) ?_
        refine Rn.n hT 1 (pc' := 58) (L' := [some (.ref q0), some (.int x1), some (.int x2), some (.int x3), some (.int x4), none]) (st' := [.int x4, .ref v_9641, .ref q0, .int x2]) rfl ?_
        obtain ⟨v_9643, e_9644, e⟩ := Option.bind_eq_some_iff.mp e
        refine Rn.hp hT rfl rfl (aI_hp e_9644) ?_
        obtain ⟨_, e_9646, e⟩ := Option.bind_eq_some_iff.mp e
        obtain ⟨v_9647, e_9645, e⟩ := Option.bind_eq_some_iff.mp e
        refine Rn.call hT rfl rfl rfl (Nat.le_of_ble_eq_true rfl) (rcv_v gX12_fromEdge (by omega) e_9646) (rX12_fromEdge (by omega) e_9645 ?_)
        show Rn d _ _ 62 [some (.ref q0), some (.int x1), some (.int x2), some (.int x3), some (.int x4), none] [.int v_9647, .int x2] h Q
        refine Rn.n hT 1 (pc' := 66) (L' := [some (.ref q0), some (.int x1), some (.int x2), some (.int x3), some (.int x4), none]) (st' := [.int v_9647, .int x2]) rfl ?_
        exact Rn.weak (ll_s (ll_s (ll_n (ll_s (ll_s (ll_n ll_e)))))) (rX12_drift_b66 hd ih hk hq e)
def fX12_drift_b127 (N : Nat) (h : iv_H)  (s0 : Int32) : Option (Int32) := (some s0)
set_option maxRecDepth 10000 in
set_option maxHeartbeats 4000000 in
theorem rX12_drift_b127 {d N : Nat} (hd : 5 ≤ d) {h : iv_H}  {s0 : Int32} {r : Int32} {Q : Option Value → iv_H → Prop} (hq : Q (some (.int r)) h) (e : fX12_drift_b127 N h  s0 = some r) : Rn d 328 (some .int) 127 [none, none, none, none, none, none] [.int s0] h Q := by
  have hT := hX12_drift
  unfold fX12_drift_b127 at e
  obtain rfl := Option.some.inj e
  exact Rn.ret hT rfl rfl rfl hq
def fX12_drift_b118 (N : Nat) (h : iv_H) (x1 : Int32) (x2 : Int32) (x3 : Int32)  : Option (Int32) := (if x1 = 0 then (fX12_drift_b127 N h x2) else (fX12_drift_b127 N h x3))
set_option maxRecDepth 10000 in
set_option maxHeartbeats 4000000 in
theorem rX12_drift_b118 {d N : Nat} (hd : 5 ≤ d) {h : iv_H} {x1 : Int32} {x2 : Int32} {x3 : Int32}  {r : Int32} {Q : Option Value → iv_H → Prop} (hq : Q (some (.int r)) h) (e : fX12_drift_b118 N h x1 x2 x3  = some r) : Rn d 328 (some .int) 118 [none, some (.int x1), some (.int x2), some (.int x3), none, none] [] h Q := by
  have hT := hX12_drift
  unfold fX12_drift_b118 at e
  refine Rn.n hT 1 (pc' := 119) (L' := [none, some (.int x1), some (.int x2), some (.int x3), none, none]) (st' := [.int x1]) rfl ?_
  by_cases c_9656 : x1 = 0
  · rw [if_pos c_9656] at e
    refine Rn.bf hT rfl rfl rfl (decide_eq_false (fun z => z c_9656)) ?_
    refine Rn.n hT 2 (pc' := 127) (L' := [none, some (.int x1), some (.int x2), some (.int x3), none, none]) (st' := [.int x2]) rfl ?_
    exact Rn.weak (ll_n (ll_n (ll_n (ll_n (ll_n (ll_n ll_e)))))) (rX12_drift_b127 hd hq e)
  · rw [if_neg c_9656] at e
    refine Rn.bt hT rfl rfl rfl (decide_eq_true c_9656) ?_
    refine Rn.n hT 1 (pc' := 127) (L' := [none, some (.int x1), some (.int x2), some (.int x3), none, none]) (st' := [.int x3]) rfl ?_
    exact Rn.weak (ll_n (ll_n (ll_n (ll_n (ll_n (ll_n ll_e)))))) (rX12_drift_b127 hd hq e)
def fX12_drift_b157 (N : Nat) (h : iv_H) (q0 : Nat) (x3 : Int32) (x5 : Int32) (s0 : Int32) (s1 : Int32) (kb : Int32 → Int32 → Option (Int32)) (kx : Int32 → Option (Int32)) : Option (Int32) := (kb (s1 + s0) (x5 + (1 : Int32)))
set_option maxRecDepth 10000 in
set_option maxHeartbeats 4000000 in
theorem rX12_drift_b157 {d N : Nat} (hd : 5 ≤ d) {h : iv_H} {q0 : Nat} {x3 : Int32} {x5 : Int32} {s0 : Int32} {s1 : Int32} {kb : Int32 → Int32 → Option (Int32)} {kx : Int32 → Option (Int32)} {r : Int32} {Q : Option Value → iv_H → Prop} (hb : ∀ (w4 : Int32) (w5 : Int32), kb w4 w5 = some r → Rn d 328 (some .int) 134 [some (.ref q0), none, none, some (.int x3), some (.int w4), some (.int w5)] [] h Q) (hk : ∀ (w4 : Int32), kx w4 = some r → Rn d 328 (some .int) 166 [none, none, none, none, some (.int w4), none] [] h Q) (hq : Q (some (.int r)) h) (e : fX12_drift_b157 N h q0 x3 x5 s0 s1 kb kx = some r) : Rn d 328 (some .int) 157 [some (.ref q0), none, none, some (.int x3), none, some (.int x5)] [.int s0, .int s1] h Q := by
  have hT := hX12_drift
  unfold fX12_drift_b157 at e
  refine Rn.n hT 4 (pc' := 134) (L' := [some (.ref q0), none, none, some (.int x3), some (.int (s1 + s0)), some (.int (x5 + (1 : Int32)))]) (st' := []) rfl ?_
  exact Rn.weak (ll_s (ll_n (ll_n (ll_s (ll_s (ll_s ll_e)))))) (hb (s1 + s0) (x5 + (1 : Int32)) e)
def fX12_drift_l134 (N : Nat) (h : iv_H) (q0 : Nat) (x3 : Int32) (kx : Int32 → Option (Int32)) : Nat → Int32 → Int32 → Option (Int32)
  | 0, _, _ => none
  | n + 1, x4, x5 => (if (4 : Int32) ≤ x5 then (kx x4) else ((cko h q0 12).bind fun _ => (fX12_isDoorToDoor N h q0 x3 x5).bind fun v_9660 => (if v_9660 = 0 then (fX12_drift_b157 N h q0 x3 x5 (0 : Int32) x4 (fX12_drift_l134 N h q0 x3 kx n) kx) else (fX12_drift_b157 N h q0 x3 x5 (1 : Int32) x4 (fX12_drift_l134 N h q0 x3 kx n) kx))))
set_option maxRecDepth 10000 in
set_option maxHeartbeats 4000000 in
theorem rX12_drift_l134 {d N : Nat} (hd : 5 ≤ d) {h : iv_H} {q0 : Nat} {x3 : Int32} {kx : Int32 → Option (Int32)} {r : Int32} {Q : Option Value → iv_H → Prop} (hk : ∀ (x4 : Int32), kx x4 = some r → Rn d 328 (some .int) 166 [none, none, none, none, some (.int x4), none] [] h Q) (hq : Q (some (.int r)) h) : ∀ (n : Nat) (x4 : Int32) (x5 : Int32), fX12_drift_l134 N h q0 x3 kx n x4 x5 = some r → Rn d 328 (some .int) 134 [some (.ref q0), none, none, some (.int x3), some (.int x4), some (.int x5)] [] h Q := by
  have hT := hX12_drift
  intro n
  induction n with
  | zero =>
    intro x4 x5 e
    rw [fX12_drift_l134] at e
    cases e
  | succ n ih =>
    intro x4 x5 e
    rw [fX12_drift_l134] at e
    refine Rn.n hT 2 (pc' := 137) (L' := [some (.ref q0), none, none, some (.int x3), some (.int x4), some (.int x5)]) (st' := [.int (4 : Int32), .int x5]) rfl ?_
    by_cases c_9657 : (4 : Int32) ≤ x5
    · rw [if_pos c_9657] at e
      refine Rn.bt hT rfl rfl rfl (decide_eq_true c_9657) ?_
      exact Rn.weak (ll_n (ll_n (ll_n (ll_n (ll_s (ll_n ll_e)))))) (hk x4 e)
    · rw [if_neg c_9657] at e
      refine Rn.bf hT rfl rfl rfl (decide_eq_false c_9657) ?_
      refine Rn.n hT 4 (pc' := 146) (L' := [some (.ref q0), none, none, some (.int x3), some (.int x4), some (.int x5)]) (st' := [.int x5, .int x3, .ref q0, .int x4]) rfl ?_
      obtain ⟨_, e_9659, e⟩ := Option.bind_eq_some_iff.mp e
      obtain ⟨v_9660, e_9658, e⟩ := Option.bind_eq_some_iff.mp e
      refine Rn.call hT rfl rfl rfl (Nat.le_of_ble_eq_true rfl) (rcv_v gX12_isDoorToDoor (by omega) e_9659) (rX12_isDoorToDoor (by omega) e_9658 ?_)
      show Rn d _ _ 149 [some (.ref q0), none, none, some (.int x3), some (.int x4), some (.int x5)] [.int v_9660, .int x4] h Q
      by_cases c_9661 : v_9660 = 0
      · rw [if_pos c_9661] at e
        refine Rn.bt hT rfl rfl rfl (decide_eq_true c_9661) ?_
        refine Rn.n hT 1 (pc' := 157) (L' := [some (.ref q0), none, none, some (.int x3), some (.int x4), some (.int x5)]) (st' := [.int (0 : Int32), .int x4]) rfl ?_
        exact Rn.weak (ll_s (ll_n (ll_n (ll_s (ll_n (ll_s ll_e)))))) (rX12_drift_b157 hd ih hk hq e)
      · rw [if_neg c_9661] at e
        refine Rn.bf hT rfl rfl rfl (decide_eq_false c_9661) ?_
        refine Rn.n hT 2 (pc' := 157) (L' := [some (.ref q0), none, none, some (.int x3), some (.int x4), some (.int x5)]) (st' := [.int (1 : Int32), .int x4]) rfl ?_
        exact Rn.weak (ll_s (ll_n (ll_n (ll_s (ll_n (ll_s ll_e)))))) (rX12_drift_b157 hd ih hk hq e)
def fX12_drift (N : Nat) (h : iv_H) (q0 : Nat) (x1 : Int32) : Option (Int32) := ((cko h q0 12).bind fun _ => (fX12_isPalace N h q0).bind fun v_9621 => (if v_9621 = 0 then (fX12_drift_b19 N h) else ((fX12_in N h ((x1).toInt64) (0 : Int64) (2 : Int64)).bind fun v_9624 => (if v_9624 = 0 then (fX12_drift_b19 N h) else (fX12_drift_l29 N h q0 x1 (fun (z_9626 : Int32) (z_9627 : Int32) => (if x1 = 0 then (fX12_drift_b118 N h x1 z_9626 z_9627) else (if x1 = (1 : Int32) then (fX12_drift_b118 N h x1 z_9626 z_9627) else (if z_9627 = (-2 : Int32) then (fX12_drift_b118 N h x1 z_9626 z_9627) else (fX12_drift_l134 N h q0 z_9627 (fun (z_9631 : Int32) => (some z_9631)) N (0 : Int32) (0 : Int32)))))) N (0 : Int32) (-2 : Int32) (0 : Int32))))))
set_option maxRecDepth 10000 in
set_option maxHeartbeats 4000000 in
theorem rX12_drift {d N : Nat} (hd : 6 ≤ d) {h : iv_H} {q0 : Nat} {x1 : Int32} {r : Int32} {Q : Option Value → iv_H → Prop} (e : fX12_drift N h q0 x1 = some r) (hq : Q (some (.int r)) h) : Cl d 328 [.ref q0, .int x1] h Q := by
  obtain ⟨d, rfl⟩ : ∃ k, d = k + 1 := ⟨d - 1, by omega⟩
  have hd : 5 ≤ d := by omega
  have hT := hX12_drift
  unfold fX12_drift at e
  refine Cl.into (by decide) gX12_drift rfl ?_
  show Rn d 328 (some .int) 0 [some (.ref q0), some (.int x1), none, none, none, none] [] h Q
  refine Rn.n hT 1 (pc' := 1) (L' := [some (.ref q0), some (.int x1), none, none, none, none]) (st' := [.ref q0]) rfl ?_
  obtain ⟨_, e_9620, e⟩ := Option.bind_eq_some_iff.mp e
  obtain ⟨v_9621, e_9619, e⟩ := Option.bind_eq_some_iff.mp e
  refine Rn.call hT rfl rfl rfl (Nat.le_of_ble_eq_true rfl) (rcv_v gX12_isPalace (by omega) e_9620) (rX12_isPalace (by omega) e_9619 ?_)
  show Rn d _ _ 4 [some (.ref q0), some (.int x1), none, none, none, none] [.int v_9621] h Q
  by_cases c_9622 : v_9621 = 0
  · rw [if_pos c_9622] at e
    refine Rn.bt hT rfl rfl rfl (decide_eq_true c_9622) ?_
    exact Rn.weak (ll_n (ll_n (ll_n (ll_n (ll_n (ll_n ll_e)))))) (rX12_drift_b19 hd hq e)
  · rw [if_neg c_9622] at e
    refine Rn.bf hT rfl rfl rfl (decide_eq_false c_9622) ?_
    refine Rn.n hT 4 (pc' := 13) (L' := [some (.ref q0), some (.int x1), none, none, none, none]) (st' := [.long (2 : Int64), .long (0 : Int64), .long ((x1).toInt64)]) rfl ?_
    obtain ⟨v_9624, e_9623, e⟩ := Option.bind_eq_some_iff.mp e
    refine Rn.call hT rfl rfl rfl (Nat.le_of_ble_eq_true rfl) rfl (rX12_in (by omega) e_9623 ?_)
    show Rn d _ _ 16 [some (.ref q0), some (.int x1), none, none, none, none] [.int v_9624] h Q
    by_cases c_9625 : v_9624 = 0
    · rw [if_pos c_9625] at e
      refine Rn.bf hT rfl rfl rfl (decide_eq_false (fun z => z c_9625)) ?_
      exact Rn.weak (ll_n (ll_n (ll_n (ll_n (ll_n (ll_n ll_e)))))) (rX12_drift_b19 hd hq e)
    · rw [if_neg c_9625] at e
      refine Rn.bt hT rfl rfl rfl (decide_eq_true c_9625) ?_
      refine Rn.n hT 6 (pc' := 29) (L' := [some (.ref q0), some (.int x1), some (.int (0 : Int32)), some (.int (-2 : Int32)), some (.int (0 : Int32)), none]) (st' := []) rfl ?_
      refine Rn.weak (ll_s (ll_s (ll_s (ll_s (ll_s (ll_n ll_e)))))) (rX12_drift_l29 hd (fun z_9626 z_9627 e => ?_) hq N (0 : Int32) (-2 : Int32) (0 : Int32) e)
      try dsimp only at e
      refine Rn.n hT 1 (pc' := 104) (L' := [some (.ref q0), some (.int x1), some (.int z_9626), some (.int z_9627), none, none]) (st' := [.int x1]) rfl ?_
      by_cases c_9628 : x1 = 0
      · rw [if_pos c_9628] at e
        refine Rn.bt hT rfl rfl rfl (decide_eq_true c_9628) ?_
        exact Rn.weak (ll_n (ll_s (ll_s (ll_s (ll_n (ll_n ll_e)))))) (rX12_drift_b118 hd hq e)
      · rw [if_neg c_9628] at e
        refine Rn.bf hT rfl rfl rfl (decide_eq_false c_9628) ?_
        refine Rn.n hT 2 (pc' := 109) (L' := [some (.ref q0), some (.int x1), some (.int z_9626), some (.int z_9627), none, none]) (st' := [.int (1 : Int32), .int x1]) rfl ?_
        by_cases c_9629 : x1 = (1 : Int32)
        · rw [if_pos c_9629] at e
          refine Rn.bt hT rfl rfl rfl (decide_eq_true c_9629) ?_
          exact Rn.weak (ll_n (ll_s (ll_s (ll_s (ll_n (ll_n ll_e)))))) (rX12_drift_b118 hd hq e)
        · rw [if_neg c_9629] at e
          refine Rn.bf hT rfl rfl rfl (decide_eq_false c_9629) ?_
          refine Rn.n hT 2 (pc' := 115) (L' := [some (.ref q0), some (.int x1), some (.int z_9626), some (.int z_9627), none, none]) (st' := [.int (-2 : Int32), .int z_9627]) rfl ?_
          by_cases c_9630 : z_9627 = (-2 : Int32)
          · rw [if_pos c_9630] at e
            refine Rn.bf hT rfl rfl rfl (decide_eq_false (fun z => z c_9630)) ?_
            exact Rn.weak (ll_n (ll_s (ll_s (ll_s (ll_n (ll_n ll_e)))))) (rX12_drift_b118 hd hq e)
          · rw [if_neg c_9630] at e
            refine Rn.bt hT rfl rfl rfl (decide_eq_true c_9630) ?_
            refine Rn.n hT 4 (pc' := 134) (L' := [some (.ref q0), some (.int x1), some (.int z_9626), some (.int z_9627), some (.int (0 : Int32)), some (.int (0 : Int32))]) (st' := []) rfl ?_
            refine Rn.weak (ll_s (ll_n (ll_n (ll_s (ll_s (ll_s ll_e)))))) (rX12_drift_l134 hd (fun z_9631 e => ?_) hq N (0 : Int32) (0 : Int32) e)
            try dsimp only at e
            refine Rn.n hT 1 (pc' := 168) (L' := [none, none, none, none, some (.int z_9631), none]) (st' := [.int z_9631]) rfl ?_
            obtain rfl := Option.some.inj e
            exact Rn.ret hT rfl rfl rfl hq
set_option maxRecDepth 10000 in
theorem hX12_woke : iv_Tb 329 tX12_woke := iv_tb_of (m := mX12_woke) rfl
set_option maxRecDepth 10000 in
theorem gX12_woke : PG.2 329 = some mX12_woke := iv_pi_of (t := tX12_woke) rfl (by decide)
def fX12_woke_b48 (N : Nat) (h : iv_H)   : Option (Int32 × iv_H) := (some ((-2 : Int32), h))
set_option maxRecDepth 10000 in
set_option maxHeartbeats 4000000 in
theorem rX12_woke_b48 {d N : Nat} (hd : 2 ≤ d) {h : iv_H}   {r : Int32 × iv_H} {Q : Option Value → iv_H → Prop} (hq : Q (some (.int r.1)) r.2) (e : fX12_woke_b48 N h   = some r) : Rn d 329 (some .int) 48 [none, none, none, none, none] [] h Q := by
  have hT := hX12_woke
  unfold fX12_woke_b48 at e
  refine Rn.n hT 1 (pc' := 50) (L' := [none, none, none, none, none]) (st' := [.int (-2 : Int32)]) rfl ?_
  obtain rfl := Option.some.inj e
  exact Rn.ret hT rfl rfl rfl hq
def fX12_woke (N : Nat) (h : iv_H) (q0 : Nat) (x1 : Int32) (x2 : Int32) (x3 : Int32) : Option (Int32 × iv_H) := (if x1 = (-1 : Int32) then ((gR h 12 1 q0).bind fun v_9690 => ((wI h v_9690 (10 : Int32) (0 : Int32)).bind fun h_9692 => (some ((0 : Int32), h_9692)))) else ((gR h 12 1 q0).bind fun v_9663 => ((aI h v_9663 (10 : Int32)).bind fun v_9665 => ((cko h q0 12).bind fun _ => (fX12_isRoom N h q0 x1).bind fun v_9669 => (if v_9669 = 0 then (fX12_woke_b48 N h) else ((cko h q0 12).bind fun _ => (fX12_isCell N h q0 x2 x3).bind fun v_9673 => (if v_9673 = 0 then (fX12_woke_b48 N h) else (if v_9665 = (8 : Int32) then (fX12_woke_b48 N h) else ((gR h 12 17 q0).bind fun v_9676 => ((wI h v_9676 v_9665 x1).bind fun h_9678 => ((gR h_9678 12 18 q0).bind fun v_9680 => ((wI h_9678 v_9680 v_9665 (((4 : Int32) * x3) + x2)).bind fun h_9682 => ((gR h_9682 12 1 q0).bind fun v_9684 => ((aI h_9682 v_9684 (10 : Int32)).bind fun v_9686 => ((wI h_9682 v_9684 (10 : Int32) (v_9686 + (1 : Int32))).bind fun h_9688 => (some ((v_9665 + (1 : Int32)), h_9688)))))))))))))))))
set_option maxRecDepth 10000 in
set_option maxHeartbeats 4000000 in
theorem rX12_woke {d N : Nat} (hd : 3 ≤ d) {h : iv_H} {q0 : Nat} {x1 : Int32} {x2 : Int32} {x3 : Int32} {r : Int32 × iv_H} {Q : Option Value → iv_H → Prop} (e : fX12_woke N h q0 x1 x2 x3 = some r) (hq : Q (some (.int r.1)) r.2) : Cl d 329 [.ref q0, .int x1, .int x2, .int x3] h Q := by
  obtain ⟨d, rfl⟩ : ∃ k, d = k + 1 := ⟨d - 1, by omega⟩
  have hd : 2 ≤ d := by omega
  have hT := hX12_woke
  unfold fX12_woke at e
  refine Cl.into (by decide) gX12_woke rfl ?_
  show Rn d 329 (some .int) 0 [some (.ref q0), some (.int x1), some (.int x2), some (.int x3), none] [] h Q
  refine Rn.n hT 2 (pc' := 2) (L' := [some (.ref q0), some (.int x1), some (.int x2), some (.int x3), none]) (st' := [.int (-1 : Int32), .int x1]) rfl ?_
  by_cases c_9662 : x1 = (-1 : Int32)
  · rw [if_pos c_9662] at e
    refine Rn.bf hT rfl rfl rfl (decide_eq_false (fun z => z c_9662)) ?_
    refine Rn.n hT 1 (pc' := 6) (L' := [some (.ref q0), some (.int x1), some (.int x2), some (.int x3), none]) (st' := [.ref q0]) rfl ?_
    obtain ⟨v_9690, e_9691, e⟩ := Option.bind_eq_some_iff.mp e
    refine Rn.hp hT rfl rfl (gR_hp e_9691) ?_
    refine Rn.n hT 2 (pc' := 12) (L' := [some (.ref q0), some (.int x1), some (.int x2), some (.int x3), none]) (st' := [.int (0 : Int32), .int (10 : Int32), .ref v_9690]) rfl ?_
    obtain ⟨h_9692, e_9693, e⟩ := Option.bind_eq_some_iff.mp e
    refine Rn.hp hT rfl rfl (wI_hp e_9693) ?_
    refine Rn.n hT 1 (pc' := 14) (L' := [some (.ref q0), some (.int x1), some (.int x2), some (.int x3), none]) (st' := [.int (0 : Int32)]) rfl ?_
    obtain rfl := Option.some.inj e
    exact Rn.ret hT rfl rfl rfl hq
  · rw [if_neg c_9662] at e
    refine Rn.bt hT rfl rfl rfl (decide_eq_true c_9662) ?_
    refine Rn.n hT 1 (pc' := 16) (L' := [some (.ref q0), some (.int x1), some (.int x2), some (.int x3), none]) (st' := [.ref q0]) rfl ?_
    obtain ⟨v_9663, e_9664, e⟩ := Option.bind_eq_some_iff.mp e
    refine Rn.hp hT rfl rfl (gR_hp e_9664) ?_
    refine Rn.n hT 1 (pc' := 21) (L' := [some (.ref q0), some (.int x1), some (.int x2), some (.int x3), none]) (st' := [.int (10 : Int32), .ref v_9663]) rfl ?_
    obtain ⟨v_9665, e_9666, e⟩ := Option.bind_eq_some_iff.mp e
    refine Rn.hp hT rfl rfl (aI_hp e_9666) ?_
    refine Rn.n hT 3 (pc' := 26) (L' := [some (.ref q0), some (.int x1), some (.int x2), some (.int x3), some (.int v_9665)]) (st' := [.int x1, .ref q0]) rfl ?_
    obtain ⟨_, e_9668, e⟩ := Option.bind_eq_some_iff.mp e
    obtain ⟨v_9669, e_9667, e⟩ := Option.bind_eq_some_iff.mp e
    refine Rn.call hT rfl rfl rfl (Nat.le_of_ble_eq_true rfl) (rcv_v gX12_isRoom (by omega) e_9668) (rX12_isRoom (by omega) e_9667 ?_)
    show Rn d _ _ 29 [some (.ref q0), some (.int x1), some (.int x2), some (.int x3), some (.int v_9665)] [.int v_9669] h Q
    by_cases c_9670 : v_9669 = 0
    · rw [if_pos c_9670] at e
      refine Rn.bt hT rfl rfl rfl (decide_eq_true c_9670) ?_
      exact Rn.weak (ll_n (ll_n (ll_n (ll_n (ll_n ll_e))))) (rX12_woke_b48 hd hq e)
    · rw [if_neg c_9670] at e
      refine Rn.bf hT rfl rfl rfl (decide_eq_false c_9670) ?_
      refine Rn.n hT 3 (pc' := 35) (L' := [some (.ref q0), some (.int x1), some (.int x2), some (.int x3), some (.int v_9665)]) (st' := [.int x3, .int x2, .ref q0]) rfl ?_
      obtain ⟨_, e_9672, e⟩ := Option.bind_eq_some_iff.mp e
      obtain ⟨v_9673, e_9671, e⟩ := Option.bind_eq_some_iff.mp e
      refine Rn.call hT rfl rfl rfl (Nat.le_of_ble_eq_true rfl) (rcv_v gX12_isCell (by omega) e_9672) (rX12_isCell (by omega) e_9671 ?_)
      show Rn d _ _ 38 [some (.ref q0), some (.int x1), some (.int x2), some (.int x3), some (.int v_9665)] [.int v_9673] h Q
      by_cases c_9674 : v_9673 = 0
      · rw [if_pos c_9674] at e
        refine Rn.bt hT rfl rfl rfl (decide_eq_true c_9674) ?_
        exact Rn.weak (ll_n (ll_n (ll_n (ll_n (ll_n ll_e))))) (rX12_woke_b48 hd hq e)
      · rw [if_neg c_9674] at e
        refine Rn.bf hT rfl rfl rfl (decide_eq_false c_9674) ?_
        refine Rn.n hT 2 (pc' := 45) (L' := [some (.ref q0), some (.int x1), some (.int x2), some (.int x3), some (.int v_9665)]) (st' := [.int (8 : Int32), .int v_9665]) rfl ?_
        by_cases c_9675 : v_9665 = (8 : Int32)
        · rw [if_pos c_9675] at e
          refine Rn.bf hT rfl rfl rfl (decide_eq_false (fun z => z c_9675)) ?_
          exact Rn.weak (ll_n (ll_n (ll_n (ll_n (ll_n ll_e))))) (rX12_woke_b48 hd hq e)
        · rw [if_neg c_9675] at e
          refine Rn.bt hT rfl rfl rfl (decide_eq_true c_9675) ?_
          refine Rn.n hT 1 (pc' := 52) (L' := [some (.ref q0), some (.int x1), some (.int x2), some (.int x3), some (.int v_9665)]) (st' := [.ref q0]) rfl ?_
          obtain ⟨v_9676, e_9677, e⟩ := Option.bind_eq_some_iff.mp e
          refine Rn.hp hT rfl rfl (gR_hp e_9677) ?_
          refine Rn.n hT 2 (pc' := 58) (L' := [some (.ref q0), some (.int x1), some (.int x2), some (.int x3), some (.int v_9665)]) (st' := [.int x1, .int v_9665, .ref v_9676]) rfl ?_
          obtain ⟨h_9678, e_9679, e⟩ := Option.bind_eq_some_iff.mp e
          refine Rn.hp hT rfl rfl (wI_hp e_9679) ?_
          refine Rn.n hT 1 (pc' := 60) (L' := [some (.ref q0), some (.int x1), some (.int x2), some (.int x3), some (.int v_9665)]) (st' := [.ref q0]) rfl ?_
          obtain ⟨v_9680, e_9681, e⟩ := Option.bind_eq_some_iff.mp e
          refine Rn.hp hT rfl rfl (gR_hp e_9681) ?_
          refine Rn.n hT 6 (pc' := 70) (L' := [some (.ref q0), some (.int x1), some (.int x2), some (.int x3), some (.int v_9665)]) (st' := [.int (((4 : Int32) * x3) + x2), .int v_9665, .ref v_9680]) rfl ?_
          obtain ⟨h_9682, e_9683, e⟩ := Option.bind_eq_some_iff.mp e
          refine Rn.hp hT rfl rfl (wI_hp e_9683) ?_
          refine Rn.n hT 1 (pc' := 72) (L' := [some (.ref q0), some (.int x1), some (.int x2), some (.int x3), some (.int v_9665)]) (st' := [.ref q0]) rfl ?_
          obtain ⟨v_9684, e_9685, e⟩ := Option.bind_eq_some_iff.mp e
          refine Rn.hp hT rfl rfl (gR_hp e_9685) ?_
          refine Rn.n hT 2 (pc' := 78) (L' := [some (.ref q0), some (.int x1), some (.int x2), some (.int x3), some (.int v_9665)]) (st' := [.int (10 : Int32), .ref v_9684, .int (10 : Int32), .ref v_9684]) rfl ?_
          obtain ⟨v_9686, e_9687, e⟩ := Option.bind_eq_some_iff.mp e
          refine Rn.hp hT rfl rfl (aI_hp e_9687) ?_
          refine Rn.n hT 2 (pc' := 81) (L' := [some (.ref q0), some (.int x1), some (.int x2), some (.int x3), some (.int v_9665)]) (st' := [.int (v_9686 + (1 : Int32)), .int (10 : Int32), .ref v_9684]) rfl ?_
          obtain ⟨h_9688, e_9689, e⟩ := Option.bind_eq_some_iff.mp e
          refine Rn.hp hT rfl rfl (wI_hp e_9689) ?_
          refine Rn.n hT 3 (pc' := 86) (L' := [some (.ref q0), some (.int x1), some (.int x2), some (.int x3), some (.int v_9665)]) (st' := [.int (v_9665 + (1 : Int32))]) rfl ?_
          obtain rfl := Option.some.inj e
          exact Rn.ret hT rfl rfl rfl hq
set_option maxRecDepth 10000 in
theorem hX12_isAsWoken : iv_Tb 330 tX12_isAsWoken := iv_tb_of (m := mX12_isAsWoken) rfl
set_option maxRecDepth 10000 in
theorem gX12_isAsWoken : PG.2 330 = some mX12_isAsWoken := iv_pi_of (t := tX12_isAsWoken) rfl (by decide)
def fX12_isAsWoken_b44 (N : Nat) (h : iv_H) (q0 : Nat) (x2 : Int32) (s0 : Int32) (kb : Int32 → Int32 → Option (Int32)) (kx : Int32 → Option (Int32)) : Option (Int32) := (kb s0 (x2 + (1 : Int32)))
set_option maxRecDepth 10000 in
set_option maxHeartbeats 4000000 in
theorem rX12_isAsWoken_b44 {d N : Nat} (hd : 0 ≤ d) {h : iv_H} {q0 : Nat} {x2 : Int32} {s0 : Int32} {kb : Int32 → Int32 → Option (Int32)} {kx : Int32 → Option (Int32)} {r : Int32} {Q : Option Value → iv_H → Prop} (hb : ∀ (w1 : Int32) (w2 : Int32), kb w1 w2 = some r → Rn d 330 (some .boolean) 4 [some (.ref q0), some (.int w1), some (.int w2)] [] h Q) (hk : ∀ (w1 : Int32), kx w1 = some r → Rn d 330 (some .boolean) 51 [none, some (.int w1), none] [] h Q) (hq : Q (some (.int r)) h) (e : fX12_isAsWoken_b44 N h q0 x2 s0 kb kx = some r) : Rn d 330 (some .boolean) 44 [some (.ref q0), none, some (.int x2)] [.int s0] h Q := by
  have hT := hX12_isAsWoken
  unfold fX12_isAsWoken_b44 at e
  refine Rn.n hT 3 (pc' := 4) (L' := [some (.ref q0), some (.int s0), some (.int (x2 + (1 : Int32)))]) (st' := []) rfl ?_
  exact Rn.weak (ll_s (ll_s (ll_s ll_e))) (hb s0 (x2 + (1 : Int32)) e)
def fX12_isAsWoken_b43 (N : Nat) (h : iv_H) (q0 : Nat) (x2 : Int32)  (kb : Int32 → Int32 → Option (Int32)) (kx : Int32 → Option (Int32)) : Option (Int32) := (fX12_isAsWoken_b44 N h q0 x2 (0 : Int32) kb kx)
set_option maxRecDepth 10000 in
set_option maxHeartbeats 4000000 in
theorem rX12_isAsWoken_b43 {d N : Nat} (hd : 0 ≤ d) {h : iv_H} {q0 : Nat} {x2 : Int32}  {kb : Int32 → Int32 → Option (Int32)} {kx : Int32 → Option (Int32)} {r : Int32} {Q : Option Value → iv_H → Prop} (hb : ∀ (w1 : Int32) (w2 : Int32), kb w1 w2 = some r → Rn d 330 (some .boolean) 4 [some (.ref q0), some (.int w1), some (.int w2)] [] h Q) (hk : ∀ (w1 : Int32), kx w1 = some r → Rn d 330 (some .boolean) 51 [none, some (.int w1), none] [] h Q) (hq : Q (some (.int r)) h) (e : fX12_isAsWoken_b43 N h q0 x2  kb kx = some r) : Rn d 330 (some .boolean) 43 [some (.ref q0), none, some (.int x2)] [] h Q := by
  have hT := hX12_isAsWoken
  unfold fX12_isAsWoken_b43 at e
  refine Rn.n hT 1 (pc' := 44) (L' := [some (.ref q0), none, some (.int x2)]) (st' := [.int (0 : Int32)]) rfl ?_
  exact Rn.weak (ll_s (ll_n (ll_s ll_e))) (rX12_isAsWoken_b44 hd hb hk hq e)
def fX12_isAsWoken_l4 (N : Nat) (h : iv_H) (q0 : Nat) (kx : Int32 → Option (Int32)) : Nat → Int32 → Int32 → Option (Int32)
  | 0, _, _ => none
  | n + 1, x1, x2 => ((gR h 12 1 q0).bind fun v_9696 => ((aI h v_9696 (10 : Int32)).bind fun v_9698 => (if v_9698 ≤ x2 then (kx x1) else (if x1 = 0 then (fX12_isAsWoken_b43 N h q0 x2 (fX12_isAsWoken_l4 N h q0 kx n) kx) else ((gR h 12 3 q0).bind fun v_9702 => ((gR h 12 17 q0).bind fun v_9704 => ((aI h v_9704 x2).bind fun v_9706 => ((aI h v_9702 v_9706).bind fun v_9708 => ((gR h 12 18 q0).bind fun v_9710 => ((aI h v_9710 x2).bind fun v_9712 => (if v_9708 = v_9712 then (fX12_isAsWoken_b44 N h q0 x2 (1 : Int32) (fX12_isAsWoken_l4 N h q0 kx n) kx) else (fX12_isAsWoken_b43 N h q0 x2 (fX12_isAsWoken_l4 N h q0 kx n) kx))))))))))))
set_option maxRecDepth 10000 in
set_option maxHeartbeats 4000000 in
theorem rX12_isAsWoken_l4 {d N : Nat} (hd : 0 ≤ d) {h : iv_H} {q0 : Nat} {kx : Int32 → Option (Int32)} {r : Int32} {Q : Option Value → iv_H → Prop} (hk : ∀ (x1 : Int32), kx x1 = some r → Rn d 330 (some .boolean) 51 [none, some (.int x1), none] [] h Q) (hq : Q (some (.int r)) h) : ∀ (n : Nat) (x1 : Int32) (x2 : Int32), fX12_isAsWoken_l4 N h q0 kx n x1 x2 = some r → Rn d 330 (some .boolean) 4 [some (.ref q0), some (.int x1), some (.int x2)] [] h Q := by
  have hT := hX12_isAsWoken
  intro n
  induction n with
  | zero =>
    intro x1 x2 e
    rw [fX12_isAsWoken_l4] at e
    cases e
  | succ n ih =>
    intro x1 x2 e
    rw [fX12_isAsWoken_l4] at e
    refine Rn.n hT 2 (pc' := 6) (L' := [some (.ref q0), some (.int x1), some (.int x2)]) (st' := [.ref q0, .int x2]) rfl ?_
    obtain ⟨v_9696, e_9697, e⟩ := Option.bind_eq_some_iff.mp e
    refine Rn.hp hT rfl rfl (gR_hp e_9697) ?_
    refine Rn.n hT 1 (pc' := 11) (L' := [some (.ref q0), some (.int x1), some (.int x2)]) (st' := [.int (10 : Int32), .ref v_9696, .int x2]) rfl ?_
    obtain ⟨v_9698, e_9699, e⟩ := Option.bind_eq_some_iff.mp e
    refine Rn.hp hT rfl rfl (aI_hp e_9699) ?_
    by_cases c_9700 : v_9698 ≤ x2
    · rw [if_pos c_9700] at e
      refine Rn.bt hT rfl rfl rfl (decide_eq_true c_9700) ?_
      exact Rn.weak (ll_n (ll_s (ll_n ll_e))) (hk x1 e)
    · rw [if_neg c_9700] at e
      refine Rn.bf hT rfl rfl rfl (decide_eq_false c_9700) ?_
      refine Rn.n hT 1 (pc' := 16) (L' := [some (.ref q0), some (.int x1), some (.int x2)]) (st' := [.int x1]) rfl ?_
      by_cases c_9701 : x1 = 0
      · rw [if_pos c_9701] at e
        refine Rn.bt hT rfl rfl rfl (decide_eq_true c_9701) ?_
        exact Rn.weak (ll_s (ll_n (ll_s ll_e))) (rX12_isAsWoken_b43 hd ih hk hq e)
      · rw [if_neg c_9701] at e
        refine Rn.bf hT rfl rfl rfl (decide_eq_false c_9701) ?_
        refine Rn.n hT 1 (pc' := 20) (L' := [some (.ref q0), some (.int x1), some (.int x2)]) (st' := [.ref q0]) rfl ?_
        obtain ⟨v_9702, e_9703, e⟩ := Option.bind_eq_some_iff.mp e
        refine Rn.hp hT rfl rfl (gR_hp e_9703) ?_
        refine Rn.n hT 1 (pc' := 24) (L' := [some (.ref q0), some (.int x1), some (.int x2)]) (st' := [.ref q0, .ref v_9702]) rfl ?_
        obtain ⟨v_9704, e_9705, e⟩ := Option.bind_eq_some_iff.mp e
        refine Rn.hp hT rfl rfl (gR_hp e_9705) ?_
        refine Rn.n hT 1 (pc' := 28) (L' := [some (.ref q0), some (.int x1), some (.int x2)]) (st' := [.int x2, .ref v_9704, .ref v_9702]) rfl ?_
        obtain ⟨v_9706, e_9707, e⟩ := Option.bind_eq_some_iff.mp e
        refine Rn.hp hT rfl rfl (aI_hp e_9707) ?_
        obtain ⟨v_9708, e_9709, e⟩ := Option.bind_eq_some_iff.mp e
        refine Rn.hp hT rfl rfl (aI_hp e_9709) ?_
        refine Rn.n hT 1 (pc' := 31) (L' := [some (.ref q0), some (.int x1), some (.int x2)]) (st' := [.ref q0, .int v_9708]) rfl ?_
        obtain ⟨v_9710, e_9711, e⟩ := Option.bind_eq_some_iff.mp e
        refine Rn.hp hT rfl rfl (gR_hp e_9711) ?_
        refine Rn.n hT 1 (pc' := 35) (L' := [some (.ref q0), some (.int x1), some (.int x2)]) (st' := [.int x2, .ref v_9710, .int v_9708]) rfl ?_
        obtain ⟨v_9712, e_9713, e⟩ := Option.bind_eq_some_iff.mp e
        refine Rn.hp hT rfl rfl (aI_hp e_9713) ?_
        by_cases c_9714 : v_9708 = v_9712
        · rw [if_pos c_9714] at e
          refine Rn.bf hT rfl rfl rfl (decide_eq_false (fun z => z c_9714)) ?_
          refine Rn.n hT 2 (pc' := 44) (L' := [some (.ref q0), some (.int x1), some (.int x2)]) (st' := [.int (1 : Int32)]) rfl ?_
          exact Rn.weak (ll_s (ll_n (ll_s ll_e))) (rX12_isAsWoken_b44 hd ih hk hq e)
        · rw [if_neg c_9714] at e
          refine Rn.bt hT rfl rfl rfl (decide_eq_true c_9714) ?_
          exact Rn.weak (ll_s (ll_n (ll_s ll_e))) (rX12_isAsWoken_b43 hd ih hk hq e)
def fX12_isAsWoken (N : Nat) (h : iv_H) (q0 : Nat) : Option (Int32) := (fX12_isAsWoken_l4 N h q0 (fun (z_9694 : Int32) => (if z_9694 = 0 ∨ z_9694 = 1 then some z_9694 else none)) N (1 : Int32) (0 : Int32))
set_option maxRecDepth 10000 in
set_option maxHeartbeats 4000000 in
theorem rX12_isAsWoken {d N : Nat} (hd : 1 ≤ d) {h : iv_H} {q0 : Nat} {r : Int32} {Q : Option Value → iv_H → Prop} (e : fX12_isAsWoken N h q0 = some r) (hq : Q (some (.int r)) h) : Cl d 330 [.ref q0] h Q := by
  obtain ⟨d, rfl⟩ : ∃ k, d = k + 1 := ⟨d - 1, by omega⟩
  have hd : 0 ≤ d := by omega
  have hT := hX12_isAsWoken
  unfold fX12_isAsWoken at e
  refine Cl.into (by decide) gX12_isAsWoken rfl ?_
  show Rn d 330 (some .boolean) 0 [some (.ref q0), none, none] [] h Q
  refine Rn.n hT 4 (pc' := 4) (L' := [some (.ref q0), some (.int (1 : Int32)), some (.int (0 : Int32))]) (st' := []) rfl ?_
  refine Rn.weak (ll_s (ll_s (ll_s ll_e))) (rX12_isAsWoken_l4 hd (fun z_9694 e => ?_) hq N (1 : Int32) (0 : Int32) e)
  try dsimp only at e
  refine Rn.n hT 1 (pc' := 52) (L' := [none, some (.int z_9694), none]) (st' := [.int z_9694]) rfl ?_
  by_cases c_9695 : z_9694 = 0 ∨ z_9694 = 1
  · rw [if_pos c_9695] at e
    obtain rfl := Option.some.inj e
    exact Rn.ret hT rfl rfl (if_pos c_9695) hq
  · rw [if_neg c_9695] at e
    cases e
set_option maxRecDepth 10000 in
theorem hX12_notesRow : iv_Tb 331 tX12_notesRow := iv_tb_of (m := mX12_notesRow) rfl
set_option maxRecDepth 10000 in
theorem gX12_notesRow : PG.2 331 = some mX12_notesRow := iv_pi_of (t := tX12_notesRow) rfl (by decide)
def fX12_notesRow_b34 (N : Nat) (h : iv_H) (q0 : Nat) (x1 : Int32) (x2 : Int32) (s0 : Int32) (s1 : Int32) (sq2 : Nat) (kb : iv_H → Int32 → Option (iv_H)) (kx : iv_H → Option (iv_H)) : Option (iv_H) := ((wI h sq2 s1 s0).bind fun h_9734 => ((gR h_9734 12 77 q0).bind fun v_9736 => ((gR h_9734 12 74 q0).bind fun v_9738 => ((aI h_9734 v_9738 x2).bind fun v_9740 => ((fX12_kindOf N h_9734 v_9740).bind fun v_9743 => ((aI h_9734 v_9736 v_9743).bind fun v_9744 => ((wI h_9734 v_9736 v_9743 (v_9744 + (1 : Int32))).bind fun h_9746 => (kb h_9746 (x2 + (1 : Int32))))))))))
set_option maxRecDepth 10000 in
set_option maxHeartbeats 4000000 in
theorem rX12_notesRow_b34 {d N : Nat} (hd : 1 ≤ d) {h : iv_H} {q0 : Nat} {x1 : Int32} {x2 : Int32} {s0 : Int32} {s1 : Int32} {sq2 : Nat} {kb : iv_H → Int32 → Option (iv_H)} {kx : iv_H → Option (iv_H)} {r : iv_H} {Q : Option Value → iv_H → Prop} (hb : ∀ (h : iv_H) (w2 : Int32), kb h w2 = some r → Rn d 331 none 2 [some (.ref q0), some (.int x1), some (.int w2)] [] h Q) (hk : ∀ (h : iv_H), kx h = some r → Rn d 331 none 59 [some (.ref q0), none, none] [] h Q) (hq : Q none r) (e : fX12_notesRow_b34 N h q0 x1 x2 s0 s1 sq2 kb kx = some r) : Rn d 331 none 34 [some (.ref q0), some (.int x1), some (.int x2)] [.int s0, .int s1, .ref sq2] h Q := by
  have hT := hX12_notesRow
  unfold fX12_notesRow_b34 at e
  obtain ⟨h_9734, e_9735, e⟩ := Option.bind_eq_some_iff.mp e
  refine Rn.hp hT rfl rfl (wI_hp e_9735) ?_
  refine Rn.n hT 1 (pc' := 36) (L' := [some (.ref q0), some (.int x1), some (.int x2)]) (st' := [.ref q0]) rfl ?_
  obtain ⟨v_9736, e_9737, e⟩ := Option.bind_eq_some_iff.mp e
  refine Rn.hp hT rfl rfl (gR_hp e_9737) ?_
  refine Rn.n hT 1 (pc' := 40) (L' := [some (.ref q0), some (.int x1), some (.int x2)]) (st' := [.ref q0, .ref v_9736]) rfl ?_
  obtain ⟨v_9738, e_9739, e⟩ := Option.bind_eq_some_iff.mp e
  refine Rn.hp hT rfl rfl (gR_hp e_9739) ?_
  refine Rn.n hT 1 (pc' := 44) (L' := [some (.ref q0), some (.int x1), some (.int x2)]) (st' := [.int x2, .ref v_9738, .ref v_9736]) rfl ?_
  obtain ⟨v_9740, e_9741, e⟩ := Option.bind_eq_some_iff.mp e
  refine Rn.hp hT rfl rfl (aI_hp e_9741) ?_
  obtain ⟨v_9743, e_9742, e⟩ := Option.bind_eq_some_iff.mp e
  refine Rn.call hT rfl rfl rfl (Nat.le_of_ble_eq_true rfl) rfl (rX12_kindOf (by omega) e_9742 ?_)
  show Rn d _ _ 48 [some (.ref q0), some (.int x1), some (.int x2)] [.int v_9743, .ref v_9736] h_9734 Q
  refine Rn.n hT 1 (pc' := 49) (L' := [some (.ref q0), some (.int x1), some (.int x2)]) (st' := [.int v_9743, .ref v_9736, .int v_9743, .ref v_9736]) rfl ?_
  obtain ⟨v_9744, e_9745, e⟩ := Option.bind_eq_some_iff.mp e
  refine Rn.hp hT rfl rfl (aI_hp e_9745) ?_
  refine Rn.n hT 2 (pc' := 52) (L' := [some (.ref q0), some (.int x1), some (.int x2)]) (st' := [.int (v_9744 + (1 : Int32)), .int v_9743, .ref v_9736]) rfl ?_
  obtain ⟨h_9746, e_9747, e⟩ := Option.bind_eq_some_iff.mp e
  refine Rn.hp hT rfl rfl (wI_hp e_9747) ?_
  refine Rn.n hT 2 (pc' := 2) (L' := [some (.ref q0), some (.int x1), some (.int (x2 + (1 : Int32)))]) (st' := []) rfl ?_
  exact Rn.weak (ll_s (ll_s (ll_s ll_e))) (hb h_9746 (x2 + (1 : Int32)) e)
def fX12_notesRow_l2 (N : Nat) (q0 : Nat) (x1 : Int32) (kx : iv_H → Option (iv_H)) : Nat → iv_H → Int32 → Option (iv_H)
  | 0, _, _ => none
  | n + 1, h, x2 => (if x1 ≤ x2 then (kx h) else ((gR h 12 76 q0).bind fun v_9721 => ((gI h 12 78 q0).bind fun v_9723 => (if v_9723 = 0 then ((gR h 12 75 q0).bind fun v_9730 => ((aI h v_9730 x2).bind fun v_9732 => (fX12_notesRow_b34 N h q0 x1 x2 v_9732 x2 v_9721 (fX12_notesRow_l2 N q0 x1 kx n) kx))) else ((gR h 12 76 q0).bind fun v_9726 => ((aI h v_9726 x2).bind fun v_9728 => (fX12_notesRow_b34 N h q0 x1 x2 v_9728 x2 v_9721 (fX12_notesRow_l2 N q0 x1 kx n) kx)))))))
set_option maxRecDepth 10000 in
set_option maxHeartbeats 4000000 in
theorem rX12_notesRow_l2 {d N : Nat} (hd : 1 ≤ d) {q0 : Nat} {x1 : Int32} {kx : iv_H → Option (iv_H)} {r : iv_H} {Q : Option Value → iv_H → Prop} (hk : ∀ (h : iv_H), kx h = some r → Rn d 331 none 59 [some (.ref q0), none, none] [] h Q) (hq : Q none r) : ∀ (n : Nat) (h : iv_H) (x2 : Int32), fX12_notesRow_l2 N q0 x1 kx n h x2 = some r → Rn d 331 none 2 [some (.ref q0), some (.int x1), some (.int x2)] [] h Q := by
  have hT := hX12_notesRow
  intro n
  induction n with
  | zero =>
    intro h x2 e
    rw [fX12_notesRow_l2] at e
    cases e
  | succ n ih =>
    intro h x2 e
    rw [fX12_notesRow_l2] at e
    refine Rn.n hT 2 (pc' := 4) (L' := [some (.ref q0), some (.int x1), some (.int x2)]) (st' := [.int x1, .int x2]) rfl ?_
    by_cases c_9720 : x1 ≤ x2
    · rw [if_pos c_9720] at e
      refine Rn.bt hT rfl rfl rfl (decide_eq_true c_9720) ?_
      exact Rn.weak (ll_s (ll_n (ll_n ll_e))) (hk h e)
    · rw [if_neg c_9720] at e
      refine Rn.bf hT rfl rfl rfl (decide_eq_false c_9720) ?_
      refine Rn.n hT 1 (pc' := 8) (L' := [some (.ref q0), some (.int x1), some (.int x2)]) (st' := [.ref q0]) rfl ?_
      obtain ⟨v_9721, e_9722, e⟩ := Option.bind_eq_some_iff.mp e
      refine Rn.hp hT rfl rfl (gR_hp e_9722) ?_
      refine Rn.n hT 2 (pc' := 13) (L' := [some (.ref q0), some (.int x1), some (.int x2)]) (st' := [.ref q0, .int x2, .ref v_9721]) rfl ?_
      obtain ⟨v_9723, e_9724, e⟩ := Option.bind_eq_some_iff.mp e
      refine Rn.hp hT rfl rfl (gI_hp e_9724) ?_
      by_cases c_9725 : v_9723 = 0
      · rw [if_pos c_9725] at e
        refine Rn.bf hT rfl rfl rfl (decide_eq_false (fun z => z c_9725)) ?_
        refine Rn.n hT 1 (pc' := 20) (L' := [some (.ref q0), some (.int x1), some (.int x2)]) (st' := [.ref q0, .int x2, .ref v_9721]) rfl ?_
        obtain ⟨v_9730, e_9731, e⟩ := Option.bind_eq_some_iff.mp e
        refine Rn.hp hT rfl rfl (gR_hp e_9731) ?_
        refine Rn.n hT 1 (pc' := 24) (L' := [some (.ref q0), some (.int x1), some (.int x2)]) (st' := [.int x2, .ref v_9730, .int x2, .ref v_9721]) rfl ?_
        obtain ⟨v_9732, e_9733, e⟩ := Option.bind_eq_some_iff.mp e
        refine Rn.hp hT rfl rfl (aI_hp e_9733) ?_
        refine Rn.n hT 1 (pc' := 34) (L' := [some (.ref q0), some (.int x1), some (.int x2)]) (st' := [.int v_9732, .int x2, .ref v_9721]) rfl ?_
        exact Rn.weak (ll_s (ll_s (ll_s ll_e))) (rX12_notesRow_b34 hd ih hk hq e)
      · rw [if_neg c_9725] at e
        refine Rn.bt hT rfl rfl rfl (decide_eq_true c_9725) ?_
        refine Rn.n hT 1 (pc' := 29) (L' := [some (.ref q0), some (.int x1), some (.int x2)]) (st' := [.ref q0, .int x2, .ref v_9721]) rfl ?_
        obtain ⟨v_9726, e_9727, e⟩ := Option.bind_eq_some_iff.mp e
        refine Rn.hp hT rfl rfl (gR_hp e_9727) ?_
        refine Rn.n hT 1 (pc' := 33) (L' := [some (.ref q0), some (.int x1), some (.int x2)]) (st' := [.int x2, .ref v_9726, .int x2, .ref v_9721]) rfl ?_
        obtain ⟨v_9728, e_9729, e⟩ := Option.bind_eq_some_iff.mp e
        refine Rn.hp hT rfl rfl (aI_hp e_9729) ?_
        exact Rn.weak (ll_s (ll_s (ll_s ll_e))) (rX12_notesRow_b34 hd ih hk hq e)
def fX12_notesRow (N : Nat) (h : iv_H) (q0 : Nat) (x1 : Int32) : Option (iv_H) := (fX12_notesRow_l2 N q0 x1 (fun (h_9715 : iv_H) => ((gI h_9715 12 78 q0).bind fun v_9716 => ((pV h_9715 12 78 q0 (.int (v_9716 + (1 : Int32)))).bind fun h_9718 => some h_9718))) N h (0 : Int32))
set_option maxRecDepth 10000 in
set_option maxHeartbeats 4000000 in
theorem rX12_notesRow {d N : Nat} (hd : 2 ≤ d) {h : iv_H} {q0 : Nat} {x1 : Int32} {r : iv_H} {Q : Option Value → iv_H → Prop} (e : fX12_notesRow N h q0 x1 = some r) (hq : Q none r) : Cl d 331 [.ref q0, .int x1] h Q := by
  obtain ⟨d, rfl⟩ : ∃ k, d = k + 1 := ⟨d - 1, by omega⟩
  have hd : 1 ≤ d := by omega
  have hT := hX12_notesRow
  unfold fX12_notesRow at e
  refine Cl.into (by decide) gX12_notesRow rfl ?_
  show Rn d 331 none 0 [some (.ref q0), some (.int x1), none] [] h Q
  refine Rn.n hT 2 (pc' := 2) (L' := [some (.ref q0), some (.int x1), some (.int (0 : Int32))]) (st' := []) rfl ?_
  refine Rn.weak (ll_s (ll_s (ll_s ll_e))) (rX12_notesRow_l2 hd (fun h_9715 e => ?_) hq N h (0 : Int32) e)
  try dsimp only at e
  refine Rn.n hT 2 (pc' := 61) (L' := [some (.ref q0), none, none]) (st' := [.ref q0, .ref q0]) rfl ?_
  obtain ⟨v_9716, e_9717, e⟩ := Option.bind_eq_some_iff.mp e
  refine Rn.hp hT rfl rfl (gI_hp e_9717) ?_
  refine Rn.n hT 2 (pc' := 66) (L' := [some (.ref q0), none, none]) (st' := [.int (v_9716 + (1 : Int32)), .ref q0]) rfl ?_
  obtain ⟨h_9718, e_9719, e⟩ := Option.bind_eq_some_iff.mp e
  refine Rn.hp hT rfl rfl (pV_hp rfl e_9719) ?_
  obtain rfl := Option.some.inj e
  exact Rn.ret hT rfl rfl rfl hq
set_option maxRecDepth 10000 in
theorem hX12_stepsBack : iv_Tb 333 tX12_stepsBack := iv_tb_of (m := mX12_stepsBack) rfl
set_option maxRecDepth 10000 in
theorem gX12_stepsBack : PG.2 333 = some mX12_stepsBack := iv_pi_of (t := tX12_stepsBack) rfl (by decide)
def fX12_stepsBack_b16 (N : Nat) (h : iv_H) (x1 : Int32)  : Option (Int32 × iv_H) := (some ((x1 - (1 : Int32)), h))
set_option maxRecDepth 10000 in
set_option maxHeartbeats 4000000 in
theorem rX12_stepsBack_b16 {d N : Nat} (hd : 5 ≤ d) {h : iv_H} {x1 : Int32}  {r : Int32 × iv_H} {Q : Option Value → iv_H → Prop} (hq : Q (some (.int r.1)) r.2) (e : fX12_stepsBack_b16 N h x1  = some r) : Rn d 333 (some .int) 16 [none, some (.int x1)] [] h Q := by
  have hT := hX12_stepsBack
  unfold fX12_stepsBack_b16 at e
  refine Rn.n hT 3 (pc' := 19) (L' := [none, some (.int x1)]) (st' := [.int (x1 - (1 : Int32))]) rfl ?_
  obtain rfl := Option.some.inj e
  exact Rn.ret hT rfl rfl rfl hq
def fX12_stepsBack (N : Nat) (h : iv_H) (q0 : Nat) (x1 : Int32) : Option (Int32 × iv_H) := (if x1 ≤ 0 then (fX12_stepsBack_b16 N h x1) else ((gR h 12 74 q0).bind fun v_9749 => ((aI h v_9749 (x1 - (1 : Int32))).bind fun v_9751 => ((cko h q0 12).bind fun _ => (fX12_doesBack N h q0 v_9751).bind fun h_9756 => (fX12_stepsBack_b16 N h_9756 x1)))))
set_option maxRecDepth 10000 in
set_option maxHeartbeats 4000000 in
theorem rX12_stepsBack {d N : Nat} (hd : 6 ≤ d) {h : iv_H} {q0 : Nat} {x1 : Int32} {r : Int32 × iv_H} {Q : Option Value → iv_H → Prop} (e : fX12_stepsBack N h q0 x1 = some r) (hq : Q (some (.int r.1)) r.2) : Cl d 333 [.ref q0, .int x1] h Q := by
  obtain ⟨d, rfl⟩ : ∃ k, d = k + 1 := ⟨d - 1, by omega⟩
  have hd : 5 ≤ d := by omega
  have hT := hX12_stepsBack
  unfold fX12_stepsBack at e
  refine Cl.into (by decide) gX12_stepsBack rfl ?_
  show Rn d 333 (some .int) 0 [some (.ref q0), some (.int x1)] [] h Q
  refine Rn.n hT 1 (pc' := 1) (L' := [some (.ref q0), some (.int x1)]) (st' := [.int x1]) rfl ?_
  by_cases c_9748 : x1 ≤ 0
  · rw [if_pos c_9748] at e
    refine Rn.bt hT rfl rfl rfl (decide_eq_true c_9748) ?_
    exact Rn.weak (ll_n (ll_s ll_e)) (rX12_stepsBack_b16 hd hq e)
  · rw [if_neg c_9748] at e
    refine Rn.bf hT rfl rfl rfl (decide_eq_false c_9748) ?_
    refine Rn.n hT 2 (pc' := 6) (L' := [some (.ref q0), some (.int x1)]) (st' := [.ref q0, .ref q0]) rfl ?_
    obtain ⟨v_9749, e_9750, e⟩ := Option.bind_eq_some_iff.mp e
    refine Rn.hp hT rfl rfl (gR_hp e_9750) ?_
    refine Rn.n hT 3 (pc' := 12) (L' := [some (.ref q0), some (.int x1)]) (st' := [.int (x1 - (1 : Int32)), .ref v_9749, .ref q0]) rfl ?_
    obtain ⟨v_9751, e_9752, e⟩ := Option.bind_eq_some_iff.mp e
    refine Rn.hp hT rfl rfl (aI_hp e_9752) ?_
    obtain ⟨_, e_9754, e⟩ := Option.bind_eq_some_iff.mp e
    obtain ⟨h_9756, e_9753, e⟩ := Option.bind_eq_some_iff.mp e
    refine Rn.call hT rfl rfl rfl (Nat.le_of_ble_eq_true rfl) (rcv_v gX12_doesBack (by omega) e_9754) (rX12_doesBack (by omega) e_9753 ?_)
    show Rn d _ _ 16 [some (.ref q0), some (.int x1)] [] h_9756 Q
    exact Rn.weak (ll_n (ll_s ll_e)) (rX12_stepsBack_b16 hd hq e)
