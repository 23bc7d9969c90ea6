-- MIRRORS, 11 (written by wip/whole/mir.py)
set_option maxRecDepth 10000 in
theorem hX12_nights : iv_Tb 298 tX12_nights := iv_tb_of (m := mX12_nights) rfl
set_option maxRecDepth 10000 in
theorem gX12_nights : PG.2 298 = some mX12_nights := iv_pi_of (t := tX12_nights) rfl (by decide)
def fX12_nights_b17 (N : Nat) (h : iv_H)  (s0 : Int32) : Option (Int32 × iv_H) := (some (s0, h))
set_option maxRecDepth 10000 in
set_option maxHeartbeats 4000000 in
theorem rX12_nights_b17 {d N : Nat} (hd : 9 ≤ d) {h : iv_H}  {s0 : Int32} {r : Int32 × iv_H} {Q : Option Value → iv_H → Prop} (hq : Q (some (.int r.1)) r.2) (e : fX12_nights_b17 N h  s0 = some r) : Rn d 298 (some .int) 17 [none, none] [.int s0] h Q := by
  have hT := hX12_nights
  unfold fX12_nights_b17 at e
  obtain rfl := Option.some.inj e
  exact Rn.ret hT rfl rfl rfl hq
def fX12_nights (N : Nat) (h : iv_H) (q0 : Nat) (x1 : Int32) : Option (Int32 × iv_H) := ((cko h q0 12).bind fun _ => (fX12_isDraft N h q0 x1).bind fun v_8480 => (if v_8480 = 0 then (fX12_nights_b17 N h (-1 : Int32)) else ((cko h q0 12).bind fun _ => (fX12_finds N h q0 x1).bind fun p_8486 => (fun (v_8484 : Int32) (h_8485 : iv_H) => (fX12_nights_b17 N h_8485 v_8484)) p_8486.1 p_8486.2)))
set_option maxRecDepth 10000 in
set_option maxHeartbeats 4000000 in
theorem rX12_nights {d N : Nat} (hd : 10 ≤ d) {h : iv_H} {q0 : Nat} {x1 : Int32} {r : Int32 × iv_H} {Q : Option Value → iv_H → Prop} (e : fX12_nights N h q0 x1 = some r) (hq : Q (some (.int r.1)) r.2) : Cl d 298 [.ref q0, .int x1] h Q := by
  obtain ⟨d, rfl⟩ : ∃ k, d = k + 1 := ⟨d - 1, by omega⟩
  have hd : 9 ≤ d := by omega
  have hT := hX12_nights
  unfold fX12_nights at e
  refine Cl.into (by decide) gX12_nights rfl ?_
  show Rn d 298 (some .int) 0 [some (.ref q0), some (.int x1)] [] h Q
  refine Rn.n hT 2 (pc' := 2) (L' := [some (.ref q0), some (.int x1)]) (st' := [.int x1, .ref q0]) rfl ?_
  obtain ⟨_, e_8479, e⟩ := Option.bind_eq_some_iff.mp e
  obtain ⟨v_8480, e_8478, e⟩ := Option.bind_eq_some_iff.mp e
  refine Rn.call hT rfl rfl rfl (Nat.le_of_ble_eq_true rfl) (rcv_v gX12_isDraft (by omega) e_8479) (rX12_isDraft (by omega) e_8478 ?_)
  show Rn d _ _ 5 [some (.ref q0), some (.int x1)] [.int v_8480] h Q
  by_cases c_8481 : v_8480 = 0
  · rw [if_pos c_8481] at e
    refine Rn.bt hT rfl rfl rfl (decide_eq_true c_8481) ?_
    refine Rn.n hT 1 (pc' := 17) (L' := [some (.ref q0), some (.int x1)]) (st' := [.int (-1 : Int32)]) rfl ?_
    exact Rn.weak (ll_n (ll_n ll_e)) (rX12_nights_b17 hd hq e)
  · rw [if_neg c_8481] at e
    refine Rn.bf hT rfl rfl rfl (decide_eq_false c_8481) ?_
    refine Rn.n hT 2 (pc' := 10) (L' := [some (.ref q0), some (.int x1)]) (st' := [.int x1, .ref q0]) rfl ?_
    obtain ⟨_, e_8483, e⟩ := Option.bind_eq_some_iff.mp e
    obtain ⟨⟨v_8484, h_8485⟩, e_8482, e⟩ := Option.bind_eq_some_iff.mp e
    try dsimp only at e
    try dsimp only at e
    refine Rn.call hT rfl rfl rfl (Nat.le_of_ble_eq_true rfl) (rcv_v gX12_finds (by omega) e_8483) (rX12_finds (by omega) e_8482 ?_)
    show Rn d _ _ 13 [some (.ref q0), some (.int x1)] [.int v_8484] h_8485 Q
    refine Rn.n hT 1 (pc' := 17) (L' := [some (.ref q0), some (.int x1)]) (st' := [.int v_8484]) rfl ?_
    exact Rn.weak (ll_n (ll_n ll_e)) (rX12_nights_b17 hd hq e)
set_option maxRecDepth 10000 in
theorem hX12_row : iv_Tb 299 tX12_row := iv_tb_of (m := mX12_row) rfl
set_option maxRecDepth 10000 in
theorem gX12_row : PG.2 299 = some mX12_row := iv_pi_of (t := tX12_row) rfl (by decide)
def fX12_row_b24 (N : Nat) (h : iv_H)   : Option (Int32 × iv_H) := (some ((-1 : Int32), h))
set_option maxRecDepth 10000 in
set_option maxHeartbeats 4000000 in
theorem rX12_row_b24 {d N : Nat} (hd : 9 ≤ d) {h : iv_H}   {r : Int32 × iv_H} {Q : Option Value → iv_H → Prop} (hq : Q (some (.int r.1)) r.2) (e : fX12_row_b24 N h   = some r) : Rn d 299 (some .int) 24 [none, none, none, none, none, none, none] [] h Q := by
  have hT := hX12_row
  unfold fX12_row_b24 at e
  refine Rn.n hT 1 (pc' := 25) (L' := [none, none, none, none, none, none, none]) (st' := [.int (-1 : Int32)]) rfl ?_
  obtain rfl := Option.some.inj e
  exact Rn.ret hT rfl rfl rfl hq
def fX12_row_b56 (N : Nat) (h : iv_H)  (s0 : Int32) : Option (Int32 × iv_H) := (some (s0, h))
set_option maxRecDepth 10000 in
set_option maxHeartbeats 4000000 in
theorem rX12_row_b56 {d N : Nat} (hd : 9 ≤ d) {h : iv_H}  {s0 : Int32} {r : Int32 × iv_H} {Q : Option Value → iv_H → Prop} (hq : Q (some (.int r.1)) r.2) (e : fX12_row_b56 N h  s0 = some r) : Rn d 299 (some .int) 56 [none, none, none, none, none, none, none] [.int s0] h Q := by
  have hT := hX12_row
  unfold fX12_row_b56 at e
  obtain rfl := Option.some.inj e
  exact Rn.ret hT rfl rfl rfl hq
def fX12_row_b44 (N : Nat) (h : iv_H) (x4 : Int32)  : Option (Int32 × iv_H) := (if 0 ≤ x4 then (fX12_row_b56 N h (-2 : Int32)) else (fX12_row_b56 N h x4))
set_option maxRecDepth 10000 in
set_option maxHeartbeats 4000000 in
theorem rX12_row_b44 {d N : Nat} (hd : 9 ≤ d) {h : iv_H} {x4 : Int32}  {r : Int32 × iv_H} {Q : Option Value → iv_H → Prop} (hq : Q (some (.int r.1)) r.2) (e : fX12_row_b44 N h x4  = some r) : Rn d 299 (some .int) 44 [none, none, none, none, some (.int x4), none, none] [] h Q := by
  have hT := hX12_row
  unfold fX12_row_b44 at e
  refine Rn.n hT 1 (pc' := 46) (L' := [none, none, none, none, some (.int x4), none, none]) (st' := [.int x4]) rfl ?_
  by_cases c_8512 : 0 ≤ x4
  · rw [if_pos c_8512] at e
    refine Rn.bt hT rfl rfl rfl (decide_eq_true c_8512) ?_
    refine Rn.n hT 1 (pc' := 56) (L' := [none, none, none, none, some (.int x4), none, none]) (st' := [.int (-2 : Int32)]) rfl ?_
    exact Rn.weak (ll_n (ll_n (ll_n (ll_n (ll_n (ll_n (ll_n ll_e))))))) (rX12_row_b56 hd hq e)
  · rw [if_neg c_8512] at e
    refine Rn.bf hT rfl rfl rfl (decide_eq_false c_8512) ?_
    refine Rn.n hT 2 (pc' := 56) (L' := [none, none, none, none, some (.int x4), none, none]) (st' := [.int x4]) rfl ?_
    exact Rn.weak (ll_n (ll_n (ll_n (ll_n (ll_n (ll_n (ll_n ll_e))))))) (rX12_row_b56 hd hq e)
def fX12_row_l69 (N : Nat) (q0 : Nat) (x2 : Int32) (x3 : Int32) (kx : iv_H → Int32 → Option (Int32 × iv_H)) : Nat → iv_H → Int32 → Int32 → Option (Int32 × iv_H)
  | 0, _, _, _ => none
  | n + 1, h, x5, x6 => (if x6 ≤ x2 then (kx h x5) else ((gR h 12 51 q0).bind fun v_8514 => ((aI h v_8514 x5).bind fun v_8516 => (fX12_row_l69 N q0 x2 x3 kx n h v_8516 (x6 + (-1 : Int32))))))
set_option maxRecDepth 10000 in
set_option maxHeartbeats 4000000 in
theorem rX12_row_l69 {d N : Nat} (hd : 9 ≤ d) {q0 : Nat} {x2 : Int32} {x3 : Int32} {kx : iv_H → Int32 → Option (Int32 × iv_H)} {r : Int32 × iv_H} {Q : Option Value → iv_H → Prop} (hk : ∀ (h : iv_H) (x5 : Int32), kx h x5 = some r → Rn d 299 (some .int) 90 [some (.ref q0), none, none, some (.int x3), none, some (.int x5), none] [] h Q) (hq : Q (some (.int r.1)) r.2) : ∀ (n : Nat) (h : iv_H) (x5 : Int32) (x6 : Int32), fX12_row_l69 N q0 x2 x3 kx n h x5 x6 = some r → Rn d 299 (some .int) 69 [some (.ref q0), none, some (.int x2), some (.int x3), none, some (.int x5), some (.int x6)] [] h Q := by
  have hT := hX12_row
  intro n
  induction n with
  | zero =>
    intro h x5 x6 e
    rw [fX12_row_l69] at e
    cases e
  | succ n ih =>
    intro h x5 x6 e
    rw [fX12_row_l69] at e
    refine Rn.n hT 2 (pc' := 72) (L' := [some (.ref q0), none, some (.int x2), some (.int x3), none, some (.int x5), some (.int x6)]) (st' := [.int x2, .int x6]) rfl ?_
    by_cases c_8513 : x6 ≤ x2
    · rw [if_pos c_8513] at e
      refine Rn.bt hT rfl rfl rfl (decide_eq_true c_8513) ?_
      exact Rn.weak (ll_s (ll_n (ll_n (ll_s (ll_n (ll_s (ll_n ll_e))))))) (hk h x5 e)
    · rw [if_neg c_8513] at e
      refine Rn.bf hT rfl rfl rfl (decide_eq_false c_8513) ?_
      refine Rn.n hT 1 (pc' := 76) (L' := [some (.ref q0), none, some (.int x2), some (.int x3), none, some (.int x5), some (.int x6)]) (st' := [.ref q0]) rfl ?_
      obtain ⟨v_8514, e_8515, e⟩ := Option.bind_eq_some_iff.mp e
      refine Rn.hp hT rfl rfl (gR_hp e_8515) ?_
      refine Rn.n hT 1 (pc' := 81) (L' := [some (.ref q0), none, some (.int x2), some (.int x3), none, some (.int x5), some (.int x6)]) (st' := [.int x5, .ref v_8514]) rfl ?_
      obtain ⟨v_8516, e_8517, e⟩ := Option.bind_eq_some_iff.mp e
      refine Rn.hp hT rfl rfl (aI_hp e_8517) ?_
      refine Rn.n hT 3 (pc' := 69) (L' := [some (.ref q0), none, some (.int x2), some (.int x3), none, some (.int v_8516), some (.int (x6 + (-1 : Int32)))]) (st' := []) rfl ?_
      exact Rn.weak (ll_s (ll_n (ll_s (ll_s (ll_n (ll_s (ll_s ll_e))))))) (ih h v_8516 (x6 + (-1 : Int32)) e)
def fX12_row (N : Nat) (h : iv_H) (q0 : Nat) (x1 : Int32) (x2 : Int32) (x3 : Int32) : Option (Int32 × iv_H) := ((cko h q0 12).bind fun _ => (fX12_isDraft N h q0 x1).bind fun v_8489 => (if v_8489 = 0 then (fX12_row_b24 N h) else (if x2 < 0 then (fX12_row_b24 N h) else ((fX12_in N h ((x3).toInt64) (0 : Int64) (2 : Int64)).bind fun v_8493 => (if v_8493 = 0 then (fX12_row_b24 N h) else ((cko h q0 12).bind fun _ => (fX12_finds N h q0 x1).bind fun p_8511 => (fun (v_8497 : Int32) (h_8498 : iv_H) => (if v_8497 < 0 then (fX12_row_b44 N h_8498 v_8497) else (if x2 < v_8497 then ((gI h_8498 12 58 q0).bind fun v_8501 => (fX12_row_l69 N q0 x2 x3 (fun (h_8503 : iv_H) (z_8504 : Int32) => ((gR h_8503 12 52 q0).bind fun v_8505 => ((aI h_8503 v_8505 z_8504).bind fun v_8507 => ((fX12_part N h_8503 v_8507 x3).bind fun v_8510 => (some (v_8510, h_8503)))))) N h_8498 v_8501 (v_8497 - (1 : Int32)))) else (fX12_row_b44 N h_8498 v_8497)))) p_8511.1 p_8511.2))))))
set_option maxRecDepth 10000 in
set_option maxHeartbeats 4000000 in
theorem rX12_row {d N : Nat} (hd : 10 ≤ d) {h : iv_H} {q0 : Nat} {x1 : Int32} {x2 : Int32} {x3 : Int32} {r : Int32 × iv_H} {Q : Option Value → iv_H → Prop} (e : fX12_row N h q0 x1 x2 x3 = some r) (hq : Q (some (.int r.1)) r.2) : Cl d 299 [.ref q0, .int x1, .int x2, .int x3] h Q := by
  obtain ⟨d, rfl⟩ : ∃ k, d = k + 1 := ⟨d - 1, by omega⟩
  have hd : 9 ≤ d := by omega
  have hT := hX12_row
  unfold fX12_row at e
  refine Cl.into (by decide) gX12_row rfl ?_
  show Rn d 299 (some .int) 0 [some (.ref q0), some (.int x1), some (.int x2), some (.int x3), none, none, none] [] h Q
  refine Rn.n hT 2 (pc' := 2) (L' := [some (.ref q0), some (.int x1), some (.int x2), some (.int x3), none, none, none]) (st' := [.int x1, .ref q0]) rfl ?_
  obtain ⟨_, e_8488, e⟩ := Option.bind_eq_some_iff.mp e
  obtain ⟨v_8489, e_8487, e⟩ := Option.bind_eq_some_iff.mp e
  refine Rn.call hT rfl rfl rfl (Nat.le_of_ble_eq_true rfl) (rcv_v gX12_isDraft (by omega) e_8488) (rX12_isDraft (by omega) e_8487 ?_)
  show Rn d _ _ 5 [some (.ref q0), some (.int x1), some (.int x2), some (.int x3), none, none, none] [.int v_8489] h Q
  by_cases c_8490 : v_8489 = 0
  · rw [if_pos c_8490] at e
    refine Rn.bt hT rfl rfl rfl (decide_eq_true c_8490) ?_
    exact Rn.weak (ll_n (ll_n (ll_n (ll_n (ll_n (ll_n (ll_n ll_e))))))) (rX12_row_b24 hd hq e)
  · rw [if_neg c_8490] at e
    refine Rn.bf hT rfl rfl rfl (decide_eq_false c_8490) ?_
    refine Rn.n hT 1 (pc' := 9) (L' := [some (.ref q0), some (.int x1), some (.int x2), some (.int x3), none, none, none]) (st' := [.int x2]) rfl ?_
    by_cases c_8491 : x2 < 0
    · rw [if_pos c_8491] at e
      refine Rn.bt hT rfl rfl rfl (decide_eq_true c_8491) ?_
      exact Rn.weak (ll_n (ll_n (ll_n (ll_n (ll_n (ll_n (ll_n ll_e))))))) (rX12_row_b24 hd hq e)
    · rw [if_neg c_8491] at e
      refine Rn.bf hT rfl rfl rfl (decide_eq_false c_8491) ?_
      refine Rn.n hT 4 (pc' := 18) (L' := [some (.ref q0), some (.int x1), some (.int x2), some (.int x3), none, none, none]) (st' := [.long (2 : Int64), .long (0 : Int64), .long ((x3).toInt64)]) rfl ?_
      obtain ⟨v_8493, e_8492, e⟩ := Option.bind_eq_some_iff.mp e
      refine Rn.call hT rfl rfl rfl (Nat.le_of_ble_eq_true rfl) rfl (rX12_in (by omega) e_8492 ?_)
      show Rn d _ _ 21 [some (.ref q0), some (.int x1), some (.int x2), some (.int x3), none, none, none] [.int v_8493] h Q
      by_cases c_8494 : v_8493 = 0
      · rw [if_pos c_8494] at e
        refine Rn.bf hT rfl rfl rfl (decide_eq_false (fun z => z c_8494)) ?_
        exact Rn.weak (ll_n (ll_n (ll_n (ll_n (ll_n (ll_n (ll_n ll_e))))))) (rX12_row_b24 hd hq e)
      · rw [if_neg c_8494] at e
        refine Rn.bt hT rfl rfl rfl (decide_eq_true c_8494) ?_
        refine Rn.n hT 2 (pc' := 28) (L' := [some (.ref q0), some (.int x1), some (.int x2), some (.int x3), none, none, none]) (st' := [.int x1, .ref q0]) rfl ?_
        obtain ⟨_, e_8496, e⟩ := Option.bind_eq_some_iff.mp e
        obtain ⟨⟨v_8497, h_8498⟩, e_8495, e⟩ := Option.bind_eq_some_iff.mp e
        try dsimp only at e
        try dsimp only at e
        refine Rn.call hT rfl rfl rfl (Nat.le_of_ble_eq_true rfl) (rcv_v gX12_finds (by omega) e_8496) (rX12_finds (by omega) e_8495 ?_)
        show Rn d _ _ 31 [some (.ref q0), some (.int x1), some (.int x2), some (.int x3), none, none, none] [.int v_8497] h_8498 Q
        refine Rn.n hT 2 (pc' := 35) (L' := [some (.ref q0), some (.int x1), some (.int x2), some (.int x3), some (.int v_8497), none, none]) (st' := [.int v_8497]) rfl ?_
        by_cases c_8499 : v_8497 < 0
        · rw [if_pos c_8499] at e
          refine Rn.bt hT rfl rfl rfl (decide_eq_true c_8499) ?_
          exact Rn.weak (ll_n (ll_n (ll_n (ll_n (ll_s (ll_n (ll_n ll_e))))))) (rX12_row_b44 hd hq e)
        · rw [if_neg c_8499] at e
          refine Rn.bf hT rfl rfl rfl (decide_eq_false c_8499) ?_
          refine Rn.n hT 2 (pc' := 41) (L' := [some (.ref q0), some (.int x1), some (.int x2), some (.int x3), some (.int v_8497), none, none]) (st' := [.int v_8497, .int x2]) rfl ?_
          by_cases c_8500 : x2 < v_8497
          · rw [if_pos c_8500] at e
            refine Rn.bt hT rfl rfl rfl (decide_eq_true c_8500) ?_
            refine Rn.n hT 1 (pc' := 58) (L' := [some (.ref q0), some (.int x1), some (.int x2), some (.int x3), some (.int v_8497), none, none]) (st' := [.ref q0]) rfl ?_
            obtain ⟨v_8501, e_8502, e⟩ := Option.bind_eq_some_iff.mp e
            refine Rn.hp hT rfl rfl (gI_hp e_8502) ?_
            refine Rn.n hT 5 (pc' := 69) (L' := [some (.ref q0), some (.int x1), some (.int x2), some (.int x3), some (.int v_8497), some (.int v_8501), some (.int (v_8497 - (1 : Int32)))]) (st' := []) rfl ?_
            refine Rn.weak (ll_s (ll_n (ll_s (ll_s (ll_n (ll_s (ll_s ll_e))))))) (rX12_row_l69 hd (fun h_8503 z_8504 e => ?_) hq N h_8498 v_8501 (v_8497 - (1 : Int32)) e)
            try dsimp only at e
            refine Rn.n hT 1 (pc' := 91) (L' := [some (.ref q0), none, none, some (.int x3), none, some (.int z_8504), none]) (st' := [.ref q0]) rfl ?_
            obtain ⟨v_8505, e_8506, e⟩ := Option.bind_eq_some_iff.mp e
            refine Rn.hp hT rfl rfl (gR_hp e_8506) ?_
            refine Rn.n hT 1 (pc' := 96) (L' := [some (.ref q0), none, none, some (.int x3), none, some (.int z_8504), none]) (st' := [.int z_8504, .ref v_8505]) rfl ?_
            obtain ⟨v_8507, e_8508, e⟩ := Option.bind_eq_some_iff.mp e
            refine Rn.hp hT rfl rfl (aI_hp e_8508) ?_
            refine Rn.n hT 1 (pc' := 98) (L' := [some (.ref q0), none, none, some (.int x3), none, some (.int z_8504), none]) (st' := [.int x3, .int v_8507]) rfl ?_
            obtain ⟨v_8510, e_8509, e⟩ := Option.bind_eq_some_iff.mp e
            refine Rn.call hT rfl rfl rfl (Nat.le_of_ble_eq_true rfl) rfl (rX12_part (by omega) e_8509 ?_)
            show Rn d _ _ 101 [some (.ref q0), none, none, some (.int x3), none, some (.int z_8504), none] [.int v_8510] h_8503 Q
            obtain rfl := Option.some.inj e
            exact Rn.ret hT rfl rfl rfl hq
          · rw [if_neg c_8500] at e
            refine Rn.bf hT rfl rfl rfl (decide_eq_false c_8500) ?_
            exact Rn.weak (ll_n (ll_n (ll_n (ll_n (ll_s (ll_n (ll_n ll_e))))))) (rX12_row_b44 hd hq e)
set_option maxRecDepth 10000 in
theorem hX12_emptyMany : iv_Tb 300 tX12_emptyMany := iv_tb_of (m := mX12_emptyMany) rfl
set_option maxRecDepth 10000 in
theorem gX12_emptyMany : PG.2 300 = some mX12_emptyMany := iv_pi_of (t := tX12_emptyMany) rfl (by decide)
def fX12_emptyMany (N : Nat) (h : iv_H) (q0 : Nat) : Option (Int32) := ((gR h 12 1 q0).bind fun v_8518 => ((aI h v_8518 (0 : Int32)).bind fun v_8520 => ((gR h 12 1 q0).bind fun v_8522 => ((aI h v_8522 (1 : Int32)).bind fun v_8524 => ((gR h 12 1 q0).bind fun v_8526 => ((aI h v_8526 (2 : Int32)).bind fun v_8528 => (some ((v_8520 * v_8524) - v_8528))))))))
set_option maxRecDepth 10000 in
set_option maxHeartbeats 4000000 in
theorem rX12_emptyMany {d N : Nat} (hd : 1 ≤ d) {h : iv_H} {q0 : Nat} {r : Int32} {Q : Option Value → iv_H → Prop} (e : fX12_emptyMany N h q0 = some r) (hq : Q (some (.int r)) h) : Cl d 300 [.ref q0] h Q := by
  obtain ⟨d, rfl⟩ : ∃ k, d = k + 1 := ⟨d - 1, by omega⟩
  have hd : 0 ≤ d := by omega
  have hT := hX12_emptyMany
  unfold fX12_emptyMany at e
  refine Cl.into (by decide) gX12_emptyMany rfl ?_
  show Rn d 300 (some .int) 0 [some (.ref q0)] [] h Q
  refine Rn.n hT 1 (pc' := 1) (L' := [some (.ref q0)]) (st' := [.ref q0]) rfl ?_
  obtain ⟨v_8518, e_8519, e⟩ := Option.bind_eq_some_iff.mp e
  refine Rn.hp hT rfl rfl (gR_hp e_8519) ?_
  refine Rn.n hT 1 (pc' := 5) (L' := [some (.ref q0)]) (st' := [.int (0 : Int32), .ref v_8518]) rfl ?_
  obtain ⟨v_8520, e_8521, e⟩ := Option.bind_eq_some_iff.mp e
  refine Rn.hp hT rfl rfl (aI_hp e_8521) ?_
  refine Rn.n hT 1 (pc' := 7) (L' := [some (.ref q0)]) (st' := [.ref q0, .int v_8520]) rfl ?_
  obtain ⟨v_8522, e_8523, e⟩ := Option.bind_eq_some_iff.mp e
  refine Rn.hp hT rfl rfl (gR_hp e_8523) ?_
  refine Rn.n hT 1 (pc' := 11) (L' := [some (.ref q0)]) (st' := [.int (1 : Int32), .ref v_8522, .int v_8520]) rfl ?_
  obtain ⟨v_8524, e_8525, e⟩ := Option.bind_eq_some_iff.mp e
  refine Rn.hp hT rfl rfl (aI_hp e_8525) ?_
  refine Rn.n hT 2 (pc' := 14) (L' := [some (.ref q0)]) (st' := [.ref q0, .int (v_8520 * v_8524)]) rfl ?_
  obtain ⟨v_8526, e_8527, e⟩ := Option.bind_eq_some_iff.mp e
  refine Rn.hp hT rfl rfl (gR_hp e_8527) ?_
  refine Rn.n hT 1 (pc' := 18) (L' := [some (.ref q0)]) (st' := [.int (2 : Int32), .ref v_8526, .int (v_8520 * v_8524)]) rfl ?_
  obtain ⟨v_8528, e_8529, e⟩ := Option.bind_eq_some_iff.mp e
  refine Rn.hp hT rfl rfl (aI_hp e_8529) ?_
  refine Rn.n hT 1 (pc' := 20) (L' := [some (.ref q0)]) (st' := [.int ((v_8520 * v_8524) - v_8528)]) rfl ?_
  obtain rfl := Option.some.inj e
  exact Rn.ret hT rfl rfl rfl hq
set_option maxRecDepth 10000 in
theorem hX12_canBySlides : iv_Tb 301 tX12_canBySlides := iv_tb_of (m := mX12_canBySlides) rfl
set_option maxRecDepth 10000 in
theorem gX12_canBySlides : PG.2 301 = some mX12_canBySlides := iv_pi_of (t := tX12_canBySlides) rfl (by decide)
def fX12_canBySlides_b52 (N : Nat) (h : iv_H) (q0 : Nat) (x1 : Int32) (x2 : Int32) (s0 : Int32) (s1 : Int32) (sq2 : Nat) (kb : iv_H → Int32 → Option (Int32 × iv_H)) (kx : iv_H → Option (Int32 × iv_H)) : Option (Int32 × iv_H) := ((wI h sq2 s1 s0).bind fun h_8561 => (kb h_8561 (x2 + (1 : Int32))))
set_option maxRecDepth 10000 in
set_option maxHeartbeats 4000000 in
theorem rX12_canBySlides_b52 {d N : Nat} (hd : 3 ≤ d) {h : iv_H} {q0 : Nat} {x1 : Int32} {x2 : Int32} {s0 : Int32} {s1 : Int32} {sq2 : Nat} {kb : iv_H → Int32 → Option (Int32 × iv_H)} {kx : iv_H → Option (Int32 × iv_H)} {r : Int32 × iv_H} {Q : Option Value → iv_H → Prop} (hb : ∀ (h : iv_H) (w2 : Int32), kb h w2 = some r → Rn d 301 (some .boolean) 2 [some (.ref q0), some (.int x1), some (.int w2), none, none, none, none] [] h Q) (hk : ∀ (h : iv_H), kx h = some r → Rn d 301 (some .boolean) 59 [some (.ref q0), some (.int x1), none, none, none, none, none] [] h Q) (hq : Q (some (.int r.1)) r.2) (e : fX12_canBySlides_b52 N h q0 x1 x2 s0 s1 sq2 kb kx = some r) : Rn d 301 (some .boolean) 52 [some (.ref q0), some (.int x1), some (.int x2), none, none, none, none] [.int s0, .int s1, .ref sq2] h Q := by
  have hT := hX12_canBySlides
  unfold fX12_canBySlides_b52 at e
  obtain ⟨h_8561, e_8562, e⟩ := Option.bind_eq_some_iff.mp e
  refine Rn.hp hT rfl rfl (wI_hp e_8562) ?_
  refine Rn.n hT 2 (pc' := 2) (L' := [some (.ref q0), some (.int x1), some (.int (x2 + (1 : Int32))), none, none, none, none]) (st' := []) rfl ?_
  exact Rn.weak (ll_s (ll_s (ll_s (ll_n (ll_n (ll_n (ll_n ll_e))))))) (hb h_8561 (x2 + (1 : Int32)) e)
def fX12_canBySlides_b32 (N : Nat) (h : iv_H) (q0 : Nat) (x1 : Int32) (x2 : Int32) (s0 : Int32) (s1 : Int32) (sq2 : Nat) (kb : iv_H → Int32 → Option (Int32 × iv_H)) (kx : iv_H → Option (Int32 × iv_H)) : Option (Int32 × iv_H) := ((wI h sq2 s1 s0).bind fun h_8553 => ((gR h_8553 12 59 q0).bind fun v_8555 => ((cko h_8553 q0 12).bind fun _ => (fX12_isFloor N h_8553 q0 x2).bind fun v_8559 => (if v_8559 = 0 then (fX12_canBySlides_b52 N h_8553 q0 x1 x2 (-2 : Int32) x2 v_8555 kb kx) else (fX12_canBySlides_b52 N h_8553 q0 x1 x2 (-1 : Int32) x2 v_8555 kb kx)))))
set_option maxRecDepth 10000 in
set_option maxHeartbeats 4000000 in
theorem rX12_canBySlides_b32 {d N : Nat} (hd : 3 ≤ d) {h : iv_H} {q0 : Nat} {x1 : Int32} {x2 : Int32} {s0 : Int32} {s1 : Int32} {sq2 : Nat} {kb : iv_H → Int32 → Option (Int32 × iv_H)} {kx : iv_H → Option (Int32 × iv_H)} {r : Int32 × iv_H} {Q : Option Value → iv_H → Prop} (hb : ∀ (h : iv_H) (w2 : Int32), kb h w2 = some r → Rn d 301 (some .boolean) 2 [some (.ref q0), some (.int x1), some (.int w2), none, none, none, none] [] h Q) (hk : ∀ (h : iv_H), kx h = some r → Rn d 301 (some .boolean) 59 [some (.ref q0), some (.int x1), none, none, none, none, none] [] h Q) (hq : Q (some (.int r.1)) r.2) (e : fX12_canBySlides_b32 N h q0 x1 x2 s0 s1 sq2 kb kx = some r) : Rn d 301 (some .boolean) 32 [some (.ref q0), some (.int x1), some (.int x2), none, none, none, none] [.int s0, .int s1, .ref sq2] h Q := by
  have hT := hX12_canBySlides
  unfold fX12_canBySlides_b32 at e
  obtain ⟨h_8553, e_8554, e⟩ := Option.bind_eq_some_iff.mp e
  refine Rn.hp hT rfl rfl (wI_hp e_8554) ?_
  refine Rn.n hT 1 (pc' := 34) (L' := [some (.ref q0), some (.int x1), some (.int x2), none, none, none, none]) (st' := [.ref q0]) rfl ?_
  obtain ⟨v_8555, e_8556, e⟩ := Option.bind_eq_some_iff.mp e
  refine Rn.hp hT rfl rfl (gR_hp e_8556) ?_
  refine Rn.n hT 3 (pc' := 40) (L' := [some (.ref q0), some (.int x1), some (.int x2), none, none, none, none]) (st' := [.int x2, .ref q0, .int x2, .ref v_8555]) rfl ?_
  obtain ⟨_, e_8558, e⟩ := Option.bind_eq_some_iff.mp e
  obtain ⟨v_8559, e_8557, e⟩ := Option.bind_eq_some_iff.mp e
  refine Rn.call hT rfl rfl rfl (Nat.le_of_ble_eq_true rfl) (rcv_v gX12_isFloor (by omega) e_8558) (rX12_isFloor (by omega) e_8557 ?_)
  show Rn d _ _ 43 [some (.ref q0), some (.int x1), some (.int x2), none, none, none, none] [.int v_8559, .int x2, .ref v_8555] h_8553 Q
  by_cases c_8560 : v_8559 = 0
  · rw [if_pos c_8560] at e
    refine Rn.bt hT rfl rfl rfl (decide_eq_true c_8560) ?_
    refine Rn.n hT 1 (pc' := 52) (L' := [some (.ref q0), some (.int x1), some (.int x2), none, none, none, none]) (st' := [.int (-2 : Int32), .int x2, .ref v_8555]) rfl ?_
    exact Rn.weak (ll_s (ll_s (ll_s (ll_n (ll_n (ll_n (ll_n ll_e))))))) (rX12_canBySlides_b52 hd hb hk hq e)
  · rw [if_neg c_8560] at e
    refine Rn.bf hT rfl rfl rfl (decide_eq_false c_8560) ?_
    refine Rn.n hT 2 (pc' := 52) (L' := [some (.ref q0), some (.int x1), some (.int x2), none, none, none, none]) (st' := [.int (-1 : Int32), .int x2, .ref v_8555]) rfl ?_
    exact Rn.weak (ll_s (ll_s (ll_s (ll_n (ll_n (ll_n (ll_n ll_e))))))) (rX12_canBySlides_b52 hd hb hk hq e)
def fX12_canBySlides_l2 (N : Nat) (q0 : Nat) (x1 : Int32) (kx : iv_H → Option (Int32 × iv_H)) : Nat → iv_H → Int32 → Option (Int32 × iv_H)
  | 0, _, _ => none
  | n + 1, h, x2 => (if (16 : Int32) ≤ x2 then (kx h) else ((gR h 12 60 q0).bind fun v_8543 => ((cko h q0 12).bind fun _ => (fX12_isFloor N h q0 x2).bind fun v_8547 => (if v_8547 = 0 then (fX12_canBySlides_b32 N h q0 x1 x2 (-2 : Int32) x2 v_8543 (fX12_canBySlides_l2 N q0 x1 kx n) kx) else ((gR h 12 8 q0).bind fun v_8549 => ((aI h v_8549 x2).bind fun v_8551 => (fX12_canBySlides_b32 N h q0 x1 x2 v_8551 x2 v_8543 (fX12_canBySlides_l2 N q0 x1 kx n) kx)))))))
set_option maxRecDepth 10000 in
set_option maxHeartbeats 4000000 in
theorem rX12_canBySlides_l2 {d N : Nat} (hd : 3 ≤ d) {q0 : Nat} {x1 : Int32} {kx : iv_H → Option (Int32 × iv_H)} {r : Int32 × iv_H} {Q : Option Value → iv_H → Prop} (hk : ∀ (h : iv_H), kx h = some r → Rn d 301 (some .boolean) 59 [some (.ref q0), some (.int x1), none, none, none, none, none] [] h Q) (hq : Q (some (.int r.1)) r.2) : ∀ (n : Nat) (h : iv_H) (x2 : Int32), fX12_canBySlides_l2 N q0 x1 kx n h x2 = some r → Rn d 301 (some .boolean) 2 [some (.ref q0), some (.int x1), some (.int x2), none, none, none, none] [] h Q := by
  have hT := hX12_canBySlides
  intro n
  induction n with
  | zero =>
    intro h x2 e
    rw [fX12_canBySlides_l2] at e
    cases e
  | succ n ih =>
    intro h x2 e
    rw [fX12_canBySlides_l2] at e
    refine Rn.n hT 2 (pc' := 5) (L' := [some (.ref q0), some (.int x1), some (.int x2), none, none, none, none]) (st' := [.int (16 : Int32), .int x2]) rfl ?_
    by_cases c_8542 : (16 : Int32) ≤ x2
    · rw [if_pos c_8542] at e
      refine Rn.bt hT rfl rfl rfl (decide_eq_true c_8542) ?_
      exact Rn.weak (ll_s (ll_s (ll_n (ll_n (ll_n (ll_n (ll_n ll_e))))))) (hk h e)
    · rw [if_neg c_8542] at e
      refine Rn.bf hT rfl rfl rfl (decide_eq_false c_8542) ?_
      refine Rn.n hT 1 (pc' := 9) (L' := [some (.ref q0), some (.int x1), some (.int x2), none, none, none, none]) (st' := [.ref q0]) rfl ?_
      obtain ⟨v_8543, e_8544, e⟩ := Option.bind_eq_some_iff.mp e
      refine Rn.hp hT rfl rfl (gR_hp e_8544) ?_
      refine Rn.n hT 3 (pc' := 15) (L' := [some (.ref q0), some (.int x1), some (.int x2), none, none, none, none]) (st' := [.int x2, .ref q0, .int x2, .ref v_8543]) rfl ?_
      obtain ⟨_, e_8546, e⟩ := Option.bind_eq_some_iff.mp e
      obtain ⟨v_8547, e_8545, e⟩ := Option.bind_eq_some_iff.mp e
      refine Rn.call hT rfl rfl rfl (Nat.le_of_ble_eq_true rfl) (rcv_v gX12_isFloor (by omega) e_8546) (rX12_isFloor (by omega) e_8545 ?_)
      show Rn d _ _ 18 [some (.ref q0), some (.int x1), some (.int x2), none, none, none, none] [.int v_8547, .int x2, .ref v_8543] h Q
      by_cases c_8548 : v_8547 = 0
      · rw [if_pos c_8548] at e
        refine Rn.bt hT rfl rfl rfl (decide_eq_true c_8548) ?_
        refine Rn.n hT 1 (pc' := 32) (L' := [some (.ref q0), some (.int x1), some (.int x2), none, none, none, none]) (st' := [.int (-2 : Int32), .int x2, .ref v_8543]) rfl ?_
        exact Rn.weak (ll_s (ll_s (ll_s (ll_n (ll_n (ll_n (ll_n ll_e))))))) (rX12_canBySlides_b32 hd ih hk hq e)
      · rw [if_neg c_8548] at e
        refine Rn.bf hT rfl rfl rfl (decide_eq_false c_8548) ?_
        refine Rn.n hT 1 (pc' := 22) (L' := [some (.ref q0), some (.int x1), some (.int x2), none, none, none, none]) (st' := [.ref q0, .int x2, .ref v_8543]) rfl ?_
        obtain ⟨v_8549, e_8550, e⟩ := Option.bind_eq_some_iff.mp e
        refine Rn.hp hT rfl rfl (gR_hp e_8550) ?_
        refine Rn.n hT 1 (pc' := 26) (L' := [some (.ref q0), some (.int x1), some (.int x2), none, none, none, none]) (st' := [.int x2, .ref v_8549, .int x2, .ref v_8543]) rfl ?_
        obtain ⟨v_8551, e_8552, e⟩ := Option.bind_eq_some_iff.mp e
        refine Rn.hp hT rfl rfl (aI_hp e_8552) ?_
        refine Rn.n hT 1 (pc' := 32) (L' := [some (.ref q0), some (.int x1), some (.int x2), none, none, none, none]) (st' := [.int v_8551, .int x2, .ref v_8543]) rfl ?_
        exact Rn.weak (ll_s (ll_s (ll_s (ll_n (ll_n (ll_n (ll_n ll_e))))))) (rX12_canBySlides_b32 hd ih hk hq e)
def fX12_canBySlides_l61 (N : Nat) (q0 : Nat) (x1 : Int32) (kx : iv_H → Option (Int32 × iv_H)) : Nat → iv_H → Int32 → Option (Int32 × iv_H)
  | 0, _, _ => none
  | n + 1, h, x2 => ((gR h 12 1 q0).bind fun v_8563 => ((aI h v_8563 (2 : Int32)).bind fun v_8565 => (if v_8565 ≤ x2 then (kx h) else ((gR h 12 59 q0).bind fun v_8568 => ((gR h 12 10 q0).bind fun v_8570 => ((aI h v_8570 (((24 : Int32) * x1) + ((2 : Int32) * x2))).bind fun v_8572 => ((wI h v_8568 v_8572 x2).bind fun h_8574 => (fX12_canBySlides_l61 N q0 x1 kx n h_8574 (x2 + (1 : Int32))))))))))
set_option maxRecDepth 10000 in
set_option maxHeartbeats 4000000 in
theorem rX12_canBySlides_l61 {d N : Nat} (hd : 3 ≤ d) {q0 : Nat} {x1 : Int32} {kx : iv_H → Option (Int32 × iv_H)} {r : Int32 × iv_H} {Q : Option Value → iv_H → Prop} (hk : ∀ (h : iv_H), kx h = some r → Rn d 301 (some .boolean) 96 [some (.ref q0), none, none, none, none, none, none] [] h Q) (hq : Q (some (.int r.1)) r.2) : ∀ (n : Nat) (h : iv_H) (x2 : Int32), fX12_canBySlides_l61 N q0 x1 kx n h x2 = some r → Rn d 301 (some .boolean) 61 [some (.ref q0), some (.int x1), some (.int x2), none, none, none, none] [] h Q := by
  have hT := hX12_canBySlides
  intro n
  induction n with
  | zero =>
    intro h x2 e
    rw [fX12_canBySlides_l61] at e
    cases e
  | succ n ih =>
    intro h x2 e
    rw [fX12_canBySlides_l61] at e
    refine Rn.n hT 2 (pc' := 63) (L' := [some (.ref q0), some (.int x1), some (.int x2), none, none, none, none]) (st' := [.ref q0, .int x2]) rfl ?_
    obtain ⟨v_8563, e_8564, e⟩ := Option.bind_eq_some_iff.mp e
    refine Rn.hp hT rfl rfl (gR_hp e_8564) ?_
    refine Rn.n hT 1 (pc' := 67) (L' := [some (.ref q0), some (.int x1), some (.int x2), none, none, none, none]) (st' := [.int (2 : Int32), .ref v_8563, .int x2]) rfl ?_
    obtain ⟨v_8565, e_8566, e⟩ := Option.bind_eq_some_iff.mp e
    refine Rn.hp hT rfl rfl (aI_hp e_8566) ?_
    by_cases c_8567 : v_8565 ≤ x2
    · rw [if_pos c_8567] at e
      refine Rn.bt hT rfl rfl rfl (decide_eq_true c_8567) ?_
      exact Rn.weak (ll_s (ll_n (ll_n (ll_n (ll_n (ll_n (ll_n ll_e))))))) (hk h e)
    · rw [if_neg c_8567] at e
      refine Rn.bf hT rfl rfl rfl (decide_eq_false c_8567) ?_
      refine Rn.n hT 1 (pc' := 72) (L' := [some (.ref q0), some (.int x1), some (.int x2), none, none, none, none]) (st' := [.ref q0]) rfl ?_
      obtain ⟨v_8568, e_8569, e⟩ := Option.bind_eq_some_iff.mp e
      refine Rn.hp hT rfl rfl (gR_hp e_8569) ?_
      refine Rn.n hT 1 (pc' := 76) (L' := [some (.ref q0), some (.int x1), some (.int x2), none, none, none, none]) (st' := [.ref q0, .ref v_8568]) rfl ?_
      obtain ⟨v_8570, e_8571, e⟩ := Option.bind_eq_some_iff.mp e
      refine Rn.hp hT rfl rfl (gR_hp e_8571) ?_
      refine Rn.n hT 7 (pc' := 87) (L' := [some (.ref q0), some (.int x1), some (.int x2), none, none, none, none]) (st' := [.int (((24 : Int32) * x1) + ((2 : Int32) * x2)), .ref v_8570, .ref v_8568]) rfl ?_
      obtain ⟨v_8572, e_8573, e⟩ := Option.bind_eq_some_iff.mp e
      refine Rn.hp hT rfl rfl (aI_hp e_8573) ?_
      refine Rn.n hT 1 (pc' := 89) (L' := [some (.ref q0), some (.int x1), some (.int x2), none, none, none, none]) (st' := [.int x2, .int v_8572, .ref v_8568]) rfl ?_
      obtain ⟨h_8574, e_8575, e⟩ := Option.bind_eq_some_iff.mp e
      refine Rn.hp hT rfl rfl (wI_hp e_8575) ?_
      refine Rn.n hT 2 (pc' := 61) (L' := [some (.ref q0), some (.int x1), some (.int (x2 + (1 : Int32))), none, none, none, none]) (st' := []) rfl ?_
      exact Rn.weak (ll_s (ll_s (ll_s (ll_n (ll_n (ll_n (ll_n ll_e))))))) (ih h_8574 (x2 + (1 : Int32)) e)
def fX12_canBySlides_b145 (N : Nat) (h : iv_H) (q0 : Nat) (x2 : Int32) (x4 : Int32) (s0 : Int32) (kb : iv_H → Int32 → Int32 → Int32 → Option (Int32 × iv_H)) (kx : iv_H → Int32 → Int32 → Option (Int32 × iv_H)) : Option (Int32 × iv_H) := (kb h x2 s0 (x4 + (1 : Int32)))
set_option maxRecDepth 10000 in
set_option maxHeartbeats 4000000 in
theorem rX12_canBySlides_b145 {d N : Nat} (hd : 3 ≤ d) {h : iv_H} {q0 : Nat} {x2 : Int32} {x4 : Int32} {s0 : Int32} {kb : iv_H → Int32 → Int32 → Int32 → Option (Int32 × iv_H)} {kx : iv_H → Int32 → Int32 → Option (Int32 × iv_H)} {r : Int32 × iv_H} {Q : Option Value → iv_H → Prop} (hb : ∀ (h : iv_H) (w2 : Int32) (w3 : Int32) (w4 : Int32), kb h w2 w3 w4 = some r → Rn d 301 (some .boolean) 103 [some (.ref q0), none, some (.int w2), some (.int w3), some (.int w4), none, none] [] h Q) (hk : ∀ (h : iv_H) (w2 : Int32) (w3 : Int32), kx h w2 w3 = some r → Rn d 301 (some .boolean) 152 [some (.ref q0), none, some (.int w2), some (.int w3), none, none, none] [] h Q) (hq : Q (some (.int r.1)) r.2) (e : fX12_canBySlides_b145 N h q0 x2 x4 s0 kb kx = some r) : Rn d 301 (some .boolean) 145 [some (.ref q0), none, some (.int x2), none, some (.int x4), none, none] [.int s0] h Q := by
  have hT := hX12_canBySlides
  unfold fX12_canBySlides_b145 at e
  refine Rn.n hT 3 (pc' := 103) (L' := [some (.ref q0), none, some (.int x2), some (.int s0), some (.int (x4 + (1 : Int32))), none, none]) (st' := []) rfl ?_
  exact Rn.weak (ll_s (ll_n (ll_s (ll_s (ll_s (ll_n (ll_n ll_e))))))) (hb h x2 s0 (x4 + (1 : Int32)) e)
def fX12_canBySlides_b127 (N : Nat) (h : iv_H) (q0 : Nat) (x3 : Int32) (x4 : Int32) (s0 : Int32) (kb : iv_H → Int32 → Int32 → Int32 → Option (Int32 × iv_H)) (kx : iv_H → Int32 → Int32 → Option (Int32 × iv_H)) : Option (Int32 × iv_H) := ((gR h 12 59 q0).bind fun v_8582 => ((aI h v_8582 x4).bind fun v_8584 => (if v_8584 = (-1 : Int32) then (fX12_canBySlides_b145 N h q0 s0 x4 x4 kb kx) else (fX12_canBySlides_b145 N h q0 s0 x4 x3 kb kx))))
set_option maxRecDepth 10000 in
set_option maxHeartbeats 4000000 in
theorem rX12_canBySlides_b127 {d N : Nat} (hd : 3 ≤ d) {h : iv_H} {q0 : Nat} {x3 : Int32} {x4 : Int32} {s0 : Int32} {kb : iv_H → Int32 → Int32 → Int32 → Option (Int32 × iv_H)} {kx : iv_H → Int32 → Int32 → Option (Int32 × iv_H)} {r : Int32 × iv_H} {Q : Option Value → iv_H → Prop} (hb : ∀ (h : iv_H) (w2 : Int32) (w3 : Int32) (w4 : Int32), kb h w2 w3 w4 = some r → Rn d 301 (some .boolean) 103 [some (.ref q0), none, some (.int w2), some (.int w3), some (.int w4), none, none] [] h Q) (hk : ∀ (h : iv_H) (w2 : Int32) (w3 : Int32), kx h w2 w3 = some r → Rn d 301 (some .boolean) 152 [some (.ref q0), none, some (.int w2), some (.int w3), none, none, none] [] h Q) (hq : Q (some (.int r.1)) r.2) (e : fX12_canBySlides_b127 N h q0 x3 x4 s0 kb kx = some r) : Rn d 301 (some .boolean) 127 [some (.ref q0), none, none, some (.int x3), some (.int x4), none, none] [.int s0] h Q := by
  have hT := hX12_canBySlides
  unfold fX12_canBySlides_b127 at e
  refine Rn.n hT 2 (pc' := 129) (L' := [some (.ref q0), none, some (.int s0), some (.int x3), some (.int x4), none, none]) (st' := [.ref q0]) rfl ?_
  obtain ⟨v_8582, e_8583, e⟩ := Option.bind_eq_some_iff.mp e
  refine Rn.hp hT rfl rfl (gR_hp e_8583) ?_
  refine Rn.n hT 1 (pc' := 134) (L' := [some (.ref q0), none, some (.int s0), some (.int x3), some (.int x4), none, none]) (st' := [.int x4, .ref v_8582]) rfl ?_
  obtain ⟨v_8584, e_8585, e⟩ := Option.bind_eq_some_iff.mp e
  refine Rn.hp hT rfl rfl (aI_hp e_8585) ?_
  refine Rn.n hT 1 (pc' := 136) (L' := [some (.ref q0), none, some (.int s0), some (.int x3), some (.int x4), none, none]) (st' := [.int (-1 : Int32), .int v_8584]) rfl ?_
  by_cases c_8586 : v_8584 = (-1 : Int32)
  · rw [if_pos c_8586] at e
    refine Rn.bf hT rfl rfl rfl (decide_eq_false (fun z => z c_8586)) ?_
    refine Rn.n hT 2 (pc' := 145) (L' := [some (.ref q0), none, some (.int s0), some (.int x3), some (.int x4), none, none]) (st' := [.int x4]) rfl ?_
    exact Rn.weak (ll_s (ll_n (ll_s (ll_n (ll_s (ll_n (ll_n ll_e))))))) (rX12_canBySlides_b145 hd hb hk hq e)
  · rw [if_neg c_8586] at e
    refine Rn.bt hT rfl rfl rfl (decide_eq_true c_8586) ?_
    refine Rn.n hT 1 (pc' := 145) (L' := [some (.ref q0), none, some (.int s0), some (.int x3), some (.int x4), none, none]) (st' := [.int x3]) rfl ?_
    exact Rn.weak (ll_s (ll_n (ll_s (ll_n (ll_s (ll_n (ll_n ll_e))))))) (rX12_canBySlides_b145 hd hb hk hq e)
def fX12_canBySlides_l103 (N : Nat) (q0 : Nat) (kx : iv_H → Int32 → Int32 → Option (Int32 × iv_H)) : Nat → iv_H → Int32 → Int32 → Int32 → Option (Int32 × iv_H)
  | 0, _, _, _, _ => none
  | n + 1, h, x2, x3, x4 => (if (16 : Int32) ≤ x4 then (kx h x2 x3) else ((gR h 12 60 q0).bind fun v_8577 => ((aI h v_8577 x4).bind fun v_8579 => (if v_8579 = (-1 : Int32) then (fX12_canBySlides_b127 N h q0 x3 x4 x4 (fX12_canBySlides_l103 N q0 kx n) kx) else (fX12_canBySlides_b127 N h q0 x3 x4 x2 (fX12_canBySlides_l103 N q0 kx n) kx)))))
set_option maxRecDepth 10000 in
set_option maxHeartbeats 4000000 in
theorem rX12_canBySlides_l103 {d N : Nat} (hd : 3 ≤ d) {q0 : Nat} {kx : iv_H → Int32 → Int32 → Option (Int32 × iv_H)} {r : Int32 × iv_H} {Q : Option Value → iv_H → Prop} (hk : ∀ (h : iv_H) (x2 : Int32) (x3 : Int32), kx h x2 x3 = some r → Rn d 301 (some .boolean) 152 [some (.ref q0), none, some (.int x2), some (.int x3), none, none, none] [] h Q) (hq : Q (some (.int r.1)) r.2) : ∀ (n : Nat) (h : iv_H) (x2 : Int32) (x3 : Int32) (x4 : Int32), fX12_canBySlides_l103 N q0 kx n h x2 x3 x4 = some r → Rn d 301 (some .boolean) 103 [some (.ref q0), none, some (.int x2), some (.int x3), some (.int x4), none, none] [] h Q := by
  have hT := hX12_canBySlides
  intro n
  induction n with
  | zero =>
    intro h x2 x3 x4 e
    rw [fX12_canBySlides_l103] at e
    cases e
  | succ n ih =>
    intro h x2 x3 x4 e
    rw [fX12_canBySlides_l103] at e
    refine Rn.n hT 2 (pc' := 107) (L' := [some (.ref q0), none, some (.int x2), some (.int x3), some (.int x4), none, none]) (st' := [.int (16 : Int32), .int x4]) rfl ?_
    by_cases c_8576 : (16 : Int32) ≤ x4
    · rw [if_pos c_8576] at e
      refine Rn.bt hT rfl rfl rfl (decide_eq_true c_8576) ?_
      exact Rn.weak (ll_s (ll_n (ll_s (ll_s (ll_n (ll_n (ll_n ll_e))))))) (hk h x2 x3 e)
    · rw [if_neg c_8576] at e
      refine Rn.bf hT rfl rfl rfl (decide_eq_false c_8576) ?_
      refine Rn.n hT 1 (pc' := 111) (L' := [some (.ref q0), none, some (.int x2), some (.int x3), some (.int x4), none, none]) (st' := [.ref q0]) rfl ?_
      obtain ⟨v_8577, e_8578, e⟩ := Option.bind_eq_some_iff.mp e
      refine Rn.hp hT rfl rfl (gR_hp e_8578) ?_
      refine Rn.n hT 1 (pc' := 116) (L' := [some (.ref q0), none, some (.int x2), some (.int x3), some (.int x4), none, none]) (st' := [.int x4, .ref v_8577]) rfl ?_
      obtain ⟨v_8579, e_8580, e⟩ := Option.bind_eq_some_iff.mp e
      refine Rn.hp hT rfl rfl (aI_hp e_8580) ?_
      refine Rn.n hT 1 (pc' := 118) (L' := [some (.ref q0), none, some (.int x2), some (.int x3), some (.int x4), none, none]) (st' := [.int (-1 : Int32), .int v_8579]) rfl ?_
      by_cases c_8581 : v_8579 = (-1 : Int32)
      · rw [if_pos c_8581] at e
        refine Rn.bf hT rfl rfl rfl (decide_eq_false (fun z => z c_8581)) ?_
        refine Rn.n hT 2 (pc' := 127) (L' := [some (.ref q0), none, some (.int x2), some (.int x3), some (.int x4), none, none]) (st' := [.int x4]) rfl ?_
        exact Rn.weak (ll_s (ll_n (ll_n (ll_s (ll_s (ll_n (ll_n ll_e))))))) (rX12_canBySlides_b127 hd ih hk hq e)
      · rw [if_neg c_8581] at e
        refine Rn.bt hT rfl rfl rfl (decide_eq_true c_8581) ?_
        refine Rn.n hT 1 (pc' := 127) (L' := [some (.ref q0), none, some (.int x2), some (.int x3), some (.int x4), none, none]) (st' := [.int x2]) rfl ?_
        exact Rn.weak (ll_s (ll_n (ll_n (ll_s (ll_s (ll_n (ll_n ll_e))))))) (rX12_canBySlides_b127 hd ih hk hq e)
def fX12_canBySlides_l188 (N : Nat) (q0 : Nat) (x2 : Int32) (x3 : Int32) (x4 : Int32) (x5 : Int32) (kx : iv_H → Int32 → Option (Int32 × iv_H)) : Nat → iv_H → Int32 → Option (Int32 × iv_H)
  | 0, _, _ => none
  | n + 1, h, x6 => ((gR h 12 60 q0).bind fun v_8615 => ((aI h v_8615 x6).bind fun v_8617 => ((gR h 12 59 q0).bind fun v_8619 => ((aI h v_8619 x5).bind fun v_8621 => (if v_8617 = v_8621 then (kx h x6) else (fX12_canBySlides_l188 N q0 x2 x3 x4 x5 kx n h (x6 + (1 : Int32))))))))
set_option maxRecDepth 10000 in
set_option maxHeartbeats 4000000 in
theorem rX12_canBySlides_l188 {d N : Nat} (hd : 3 ≤ d) {q0 : Nat} {x2 : Int32} {x3 : Int32} {x4 : Int32} {x5 : Int32} {kx : iv_H → Int32 → Option (Int32 × iv_H)} {r : Int32 × iv_H} {Q : Option Value → iv_H → Prop} (hk : ∀ (h : iv_H) (x6 : Int32), kx h x6 = some r → Rn d 301 (some .boolean) 211 [some (.ref q0), none, some (.int x2), some (.int x3), some (.int x4), some (.int x5), some (.int x6)] [] h Q) (hq : Q (some (.int r.1)) r.2) : ∀ (n : Nat) (h : iv_H) (x6 : Int32), fX12_canBySlides_l188 N q0 x2 x3 x4 x5 kx n h x6 = some r → Rn d 301 (some .boolean) 188 [some (.ref q0), none, some (.int x2), some (.int x3), some (.int x4), some (.int x5), some (.int x6)] [] h Q := by
  have hT := hX12_canBySlides
  intro n
  induction n with
  | zero =>
    intro h x6 e
    rw [fX12_canBySlides_l188] at e
    cases e
  | succ n ih =>
    intro h x6 e
    rw [fX12_canBySlides_l188] at e
    refine Rn.n hT 1 (pc' := 189) (L' := [some (.ref q0), none, some (.int x2), some (.int x3), some (.int x4), some (.int x5), some (.int x6)]) (st' := [.ref q0]) rfl ?_
    obtain ⟨v_8615, e_8616, e⟩ := Option.bind_eq_some_iff.mp e
    refine Rn.hp hT rfl rfl (gR_hp e_8616) ?_
    refine Rn.n hT 1 (pc' := 194) (L' := [some (.ref q0), none, some (.int x2), some (.int x3), some (.int x4), some (.int x5), some (.int x6)]) (st' := [.int x6, .ref v_8615]) rfl ?_
    obtain ⟨v_8617, e_8618, e⟩ := Option.bind_eq_some_iff.mp e
    refine Rn.hp hT rfl rfl (aI_hp e_8618) ?_
    refine Rn.n hT 1 (pc' := 196) (L' := [some (.ref q0), none, some (.int x2), some (.int x3), some (.int x4), some (.int x5), some (.int x6)]) (st' := [.ref q0, .int v_8617]) rfl ?_
    obtain ⟨v_8619, e_8620, e⟩ := Option.bind_eq_some_iff.mp e
    refine Rn.hp hT rfl rfl (gR_hp e_8620) ?_
    refine Rn.n hT 1 (pc' := 201) (L' := [some (.ref q0), none, some (.int x2), some (.int x3), some (.int x4), some (.int x5), some (.int x6)]) (st' := [.int x5, .ref v_8619, .int v_8617]) rfl ?_
    obtain ⟨v_8621, e_8622, e⟩ := Option.bind_eq_some_iff.mp e
    refine Rn.hp hT rfl rfl (aI_hp e_8622) ?_
    by_cases c_8623 : v_8617 = v_8621
    · rw [if_pos c_8623] at e
      refine Rn.bt hT rfl rfl rfl (decide_eq_true c_8623) ?_
      exact Rn.weak (ll_s (ll_n (ll_s (ll_s (ll_s (ll_s (ll_s ll_e))))))) (hk h x6 e)
    · rw [if_neg c_8623] at e
      refine Rn.bf hT rfl rfl rfl (decide_eq_false c_8623) ?_
      refine Rn.n hT 2 (pc' := 188) (L' := [some (.ref q0), none, some (.int x2), some (.int x3), some (.int x4), some (.int x5), some (.int (x6 + (1 : Int32)))]) (st' := []) rfl ?_
      exact Rn.weak (ll_s (ll_n (ll_s (ll_s (ll_s (ll_s (ll_s ll_e))))))) (ih h (x6 + (1 : Int32)) e)
def fX12_canBySlides_b242 (N : Nat) (h : iv_H) (q0 : Nat) (x2 : Int32) (x3 : Int32) (x4 : Int32) (x5 : Int32)  (kb : iv_H → Int32 → Int32 → Option (Int32 × iv_H)) (kx : iv_H → Int32 → Option (Int32 × iv_H)) : Option (Int32 × iv_H) := (kb h x4 (x5 + (1 : Int32)))
set_option maxRecDepth 10000 in
set_option maxHeartbeats 4000000 in
theorem rX12_canBySlides_b242 {d N : Nat} (hd : 3 ≤ d) {h : iv_H} {q0 : Nat} {x2 : Int32} {x3 : Int32} {x4 : Int32} {x5 : Int32}  {kb : iv_H → Int32 → Int32 → Option (Int32 × iv_H)} {kx : iv_H → Int32 → Option (Int32 × iv_H)} {r : Int32 × iv_H} {Q : Option Value → iv_H → Prop} (hb : ∀ (h : iv_H) (w4 : Int32) (w5 : Int32), kb h w4 w5 = some r → Rn d 301 (some .boolean) 158 [some (.ref q0), none, some (.int x2), some (.int x3), some (.int w4), some (.int w5), none] [] h Q) (hk : ∀ (h : iv_H) (w4 : Int32), kx h w4 = some r → Rn d 301 (some .boolean) 248 [none, none, some (.int x2), some (.int x3), some (.int w4), none, none] [] h Q) (hq : Q (some (.int r.1)) r.2) (e : fX12_canBySlides_b242 N h q0 x2 x3 x4 x5  kb kx = some r) : Rn d 301 (some .boolean) 242 [some (.ref q0), none, some (.int x2), some (.int x3), some (.int x4), some (.int x5), none] [] h Q := by
  have hT := hX12_canBySlides
  unfold fX12_canBySlides_b242 at e
  refine Rn.n hT 2 (pc' := 158) (L' := [some (.ref q0), none, some (.int x2), some (.int x3), some (.int x4), some (.int (x5 + (1 : Int32))), none]) (st' := []) rfl ?_
  exact Rn.weak (ll_s (ll_n (ll_s (ll_s (ll_s (ll_s (ll_n ll_e))))))) (hb h x4 (x5 + (1 : Int32)) e)
def fX12_canBySlides_l158 (N : Nat) (q0 : Nat) (x2 : Int32) (x3 : Int32) (kx : iv_H → Int32 → Option (Int32 × iv_H)) : Nat → iv_H → Int32 → Int32 → Option (Int32 × iv_H)
  | 0, _, _, _ => none
  | n + 1, h, x4, x5 => (if (16 : Int32) ≤ x5 then (kx h x4) else ((gR h 12 60 q0).bind fun v_8588 => ((aI h v_8588 x5).bind fun v_8590 => ((gR h 12 59 q0).bind fun v_8592 => ((aI h v_8592 x5).bind fun v_8594 => (if v_8590 = v_8594 then (fX12_canBySlides_b242 N h q0 x2 x3 x4 x5 (fX12_canBySlides_l158 N q0 x2 x3 kx n) kx) else (fX12_canBySlides_l188 N q0 x2 x3 x4 x5 (fun (h_8597 : iv_H) (z_8598 : Int32) => ((gR h_8597 12 60 q0).bind fun v_8599 => ((gR h_8597 12 60 q0).bind fun v_8601 => ((aI h_8597 v_8601 x5).bind fun v_8603 => ((wI h_8597 v_8599 z_8598 v_8603).bind fun h_8605 => ((gR h_8605 12 60 q0).bind fun v_8607 => ((gR h_8605 12 59 q0).bind fun v_8609 => ((aI h_8605 v_8609 x5).bind fun v_8611 => ((wI h_8605 v_8607 x5 v_8611).bind fun h_8613 => (fX12_canBySlides_b242 N h_8613 q0 x2 x3 (x4 + (1 : Int32)) x5 (fX12_canBySlides_l158 N q0 x2 x3 kx n) kx)))))))))) N h (x5 + (1 : Int32)))))))))
set_option maxRecDepth 10000 in
set_option maxHeartbeats 4000000 in
theorem rX12_canBySlides_l158 {d N : Nat} (hd : 3 ≤ d) {q0 : Nat} {x2 : Int32} {x3 : Int32} {kx : iv_H → Int32 → Option (Int32 × iv_H)} {r : Int32 × iv_H} {Q : Option Value → iv_H → Prop} (hk : ∀ (h : iv_H) (x4 : Int32), kx h x4 = some r → Rn d 301 (some .boolean) 248 [none, none, some (.int x2), some (.int x3), some (.int x4), none, none] [] h Q) (hq : Q (some (.int r.1)) r.2) : ∀ (n : Nat) (h : iv_H) (x4 : Int32) (x5 : Int32), fX12_canBySlides_l158 N q0 x2 x3 kx n h x4 x5 = some r → Rn d 301 (some .boolean) 158 [some (.ref q0), none, some (.int x2), some (.int x3), some (.int x4), some (.int x5), none] [] h Q := by
  have hT := hX12_canBySlides
  intro n
  induction n with
  | zero =>
    intro h x4 x5 e
    rw [fX12_canBySlides_l158] at e
    cases e
  | succ n ih =>
    intro h x4 x5 e
    rw [fX12_canBySlides_l158] at e
    refine Rn.n hT 2 (pc' := 162) (L' := [some (.ref q0), none, some (.int x2), some (.int x3), some (.int x4), some (.int x5), none]) (st' := [.int (16 : Int32), .int x5]) rfl ?_
    by_cases c_8587 : (16 : Int32) ≤ x5
    · rw [if_pos c_8587] at e
      refine Rn.bt hT rfl rfl rfl (decide_eq_true c_8587) ?_
      exact Rn.weak (ll_n (ll_n (ll_s (ll_s (ll_s (ll_n (ll_n ll_e))))))) (hk h x4 e)
    · rw [if_neg c_8587] at e
      refine Rn.bf hT rfl rfl rfl (decide_eq_false c_8587) ?_
      refine Rn.n hT 1 (pc' := 166) (L' := [some (.ref q0), none, some (.int x2), some (.int x3), some (.int x4), some (.int x5), none]) (st' := [.ref q0]) rfl ?_
      obtain ⟨v_8588, e_8589, e⟩ := Option.bind_eq_some_iff.mp e
      refine Rn.hp hT rfl rfl (gR_hp e_8589) ?_
      refine Rn.n hT 1 (pc' := 171) (L' := [some (.ref q0), none, some (.int x2), some (.int x3), some (.int x4), some (.int x5), none]) (st' := [.int x5, .ref v_8588]) rfl ?_
      obtain ⟨v_8590, e_8591, e⟩ := Option.bind_eq_some_iff.mp e
      refine Rn.hp hT rfl rfl (aI_hp e_8591) ?_
      refine Rn.n hT 1 (pc' := 173) (L' := [some (.ref q0), none, some (.int x2), some (.int x3), some (.int x4), some (.int x5), none]) (st' := [.ref q0, .int v_8590]) rfl ?_
      obtain ⟨v_8592, e_8593, e⟩ := Option.bind_eq_some_iff.mp e
      refine Rn.hp hT rfl rfl (gR_hp e_8593) ?_
      refine Rn.n hT 1 (pc' := 178) (L' := [some (.ref q0), none, some (.int x2), some (.int x3), some (.int x4), some (.int x5), none]) (st' := [.int x5, .ref v_8592, .int v_8590]) rfl ?_
      obtain ⟨v_8594, e_8595, e⟩ := Option.bind_eq_some_iff.mp e
      refine Rn.hp hT rfl rfl (aI_hp e_8595) ?_
      by_cases c_8596 : v_8590 = v_8594
      · rw [if_pos c_8596] at e
        refine Rn.bt hT rfl rfl rfl (decide_eq_true c_8596) ?_
        exact Rn.weak (ll_s (ll_n (ll_s (ll_s (ll_s (ll_s (ll_n ll_e))))))) (rX12_canBySlides_b242 hd ih hk hq e)
      · rw [if_neg c_8596] at e
        refine Rn.bf hT rfl rfl rfl (decide_eq_false c_8596) ?_
        refine Rn.n hT 4 (pc' := 188) (L' := [some (.ref q0), none, some (.int x2), some (.int x3), some (.int x4), some (.int x5), some (.int (x5 + (1 : Int32)))]) (st' := []) rfl ?_
        refine Rn.weak (ll_s (ll_n (ll_s (ll_s (ll_s (ll_s (ll_s ll_e))))))) (rX12_canBySlides_l188 hd (fun h_8597 z_8598 e => ?_) hq N h (x5 + (1 : Int32)) e)
        try dsimp only at e
        refine Rn.n hT 1 (pc' := 212) (L' := [some (.ref q0), none, some (.int x2), some (.int x3), some (.int x4), some (.int x5), some (.int z_8598)]) (st' := [.ref q0]) rfl ?_
        obtain ⟨v_8599, e_8600, e⟩ := Option.bind_eq_some_iff.mp e
        refine Rn.hp hT rfl rfl (gR_hp e_8600) ?_
        refine Rn.n hT 2 (pc' := 218) (L' := [some (.ref q0), none, some (.int x2), some (.int x3), some (.int x4), some (.int x5), some (.int z_8598)]) (st' := [.ref q0, .int z_8598, .ref v_8599]) rfl ?_
        obtain ⟨v_8601, e_8602, e⟩ := Option.bind_eq_some_iff.mp e
        refine Rn.hp hT rfl rfl (gR_hp e_8602) ?_
        refine Rn.n hT 1 (pc' := 223) (L' := [some (.ref q0), none, some (.int x2), some (.int x3), some (.int x4), some (.int x5), some (.int z_8598)]) (st' := [.int x5, .ref v_8601, .int z_8598, .ref v_8599]) rfl ?_
        obtain ⟨v_8603, e_8604, e⟩ := Option.bind_eq_some_iff.mp e
        refine Rn.hp hT rfl rfl (aI_hp e_8604) ?_
        obtain ⟨h_8605, e_8606, e⟩ := Option.bind_eq_some_iff.mp e
        refine Rn.hp hT rfl rfl (wI_hp e_8606) ?_
        refine Rn.n hT 1 (pc' := 226) (L' := [some (.ref q0), none, some (.int x2), some (.int x3), some (.int x4), some (.int x5), some (.int z_8598)]) (st' := [.ref q0]) rfl ?_
        obtain ⟨v_8607, e_8608, e⟩ := Option.bind_eq_some_iff.mp e
        refine Rn.hp hT rfl rfl (gR_hp e_8608) ?_
        refine Rn.n hT 2 (pc' := 232) (L' := [some (.ref q0), none, some (.int x2), some (.int x3), some (.int x4), some (.int x5), some (.int z_8598)]) (st' := [.ref q0, .int x5, .ref v_8607]) rfl ?_
        obtain ⟨v_8609, e_8610, e⟩ := Option.bind_eq_some_iff.mp e
        refine Rn.hp hT rfl rfl (gR_hp e_8610) ?_
        refine Rn.n hT 1 (pc' := 237) (L' := [some (.ref q0), none, some (.int x2), some (.int x3), some (.int x4), some (.int x5), some (.int z_8598)]) (st' := [.int x5, .ref v_8609, .int x5, .ref v_8607]) rfl ?_
        obtain ⟨v_8611, e_8612, e⟩ := Option.bind_eq_some_iff.mp e
        refine Rn.hp hT rfl rfl (aI_hp e_8612) ?_
        obtain ⟨h_8613, e_8614, e⟩ := Option.bind_eq_some_iff.mp e
        refine Rn.hp hT rfl rfl (wI_hp e_8614) ?_
        refine Rn.n hT 1 (pc' := 242) (L' := [some (.ref q0), none, some (.int x2), some (.int x3), some (.int (x4 + (1 : Int32))), some (.int x5), some (.int z_8598)]) (st' := []) rfl ?_
        exact Rn.weak (ll_s (ll_n (ll_s (ll_s (ll_s (ll_s (ll_n ll_e))))))) (rX12_canBySlides_b242 hd ih hk hq e)
def fX12_canBySlides_b285 (N : Nat) (h : iv_H)  (s0 : Int32) : Option (Int32 × iv_H) := (if s0 = 0 ∨ s0 = 1 then some (s0, h) else none)
set_option maxRecDepth 10000 in
set_option maxHeartbeats 4000000 in
theorem rX12_canBySlides_b285 {d N : Nat} (hd : 3 ≤ d) {h : iv_H}  {s0 : Int32} {r : Int32 × iv_H} {Q : Option Value → iv_H → Prop} (hq : Q (some (.int r.1)) r.2) (e : fX12_canBySlides_b285 N h  s0 = some r) : Rn d 301 (some .boolean) 285 [none, none, none, none, none, none, none] [.int s0] h Q := by
  have hT := hX12_canBySlides
  unfold fX12_canBySlides_b285 at e
  by_cases c_8624 : s0 = 0 ∨ s0 = 1
  · rw [if_pos c_8624] at e
    obtain rfl := Option.some.inj e
    exact Rn.ret hT rfl rfl (if_pos c_8624) hq
  · rw [if_neg c_8624] at e
    cases e
def fX12_canBySlides (N : Nat) (h : iv_H) (q0 : Nat) (x1 : Int32) : Option (Int32 × iv_H) := (fX12_canBySlides_l2 N q0 x1 (fun (h_8530 : iv_H) => (fX12_canBySlides_l61 N q0 x1 (fun (h_8531 : iv_H) => (fX12_canBySlides_l103 N q0 (fun (h_8532 : iv_H) (z_8533 : Int32) (z_8534 : Int32) => (fX12_canBySlides_l158 N q0 z_8533 z_8534 (fun (h_8535 : iv_H) (z_8536 : Int32) => ((fX12_apart N h_8535 (z_8533 - z_8533 / (4 : Int32) * (4 : Int32)) (z_8534 - z_8534 / (4 : Int32) * (4 : Int32))).bind fun v_8538 => ((fX12_apart N h_8535 (z_8533 / (4 : Int32)) (z_8534 / (4 : Int32))).bind fun v_8540 => (if (z_8536 - z_8536 / (2 : Int32) * (2 : Int32)) = ((v_8538 + v_8540) - (v_8538 + v_8540) / (2 : Int32) * (2 : Int32)) then (fX12_canBySlides_b285 N h_8535 (1 : Int32)) else (fX12_canBySlides_b285 N h_8535 (0 : Int32)))))) N h_8532 (0 : Int32) (0 : Int32))) N h_8531 (0 : Int32) (0 : Int32) (0 : Int32))) N h_8530 (0 : Int32))) N h (0 : Int32))
set_option maxRecDepth 10000 in
set_option maxHeartbeats 4000000 in
theorem rX12_canBySlides {d N : Nat} (hd : 4 ≤ d) {h : iv_H} {q0 : Nat} {x1 : Int32} {r : Int32 × iv_H} {Q : Option Value → iv_H → Prop} (e : fX12_canBySlides N h q0 x1 = some r) (hq : Q (some (.int r.1)) r.2) : Cl d 301 [.ref q0, .int x1] h Q := by
  obtain ⟨d, rfl⟩ : ∃ k, d = k + 1 := ⟨d - 1, by omega⟩
  have hd : 3 ≤ d := by omega
  have hT := hX12_canBySlides
  unfold fX12_canBySlides at e
  refine Cl.into (by decide) gX12_canBySlides rfl ?_
  show Rn d 301 (some .boolean) 0 [some (.ref q0), some (.int x1), none, none, none, none, none] [] h Q
  refine Rn.n hT 2 (pc' := 2) (L' := [some (.ref q0), some (.int x1), some (.int (0 : Int32)), none, none, none, none]) (st' := []) rfl ?_
  refine Rn.weak (ll_s (ll_s (ll_s (ll_n (ll_n (ll_n (ll_n ll_e))))))) (rX12_canBySlides_l2 hd (fun h_8530 e => ?_) hq N h (0 : Int32) e)
  try dsimp only at e
  refine Rn.n hT 2 (pc' := 61) (L' := [some (.ref q0), some (.int x1), some (.int (0 : Int32)), none, none, none, none]) (st' := []) rfl ?_
  refine Rn.weak (ll_s (ll_s (ll_s (ll_n (ll_n (ll_n (ll_n ll_e))))))) (rX12_canBySlides_l61 hd (fun h_8531 e => ?_) hq N h_8530 (0 : Int32) e)
  try dsimp only at e
  refine Rn.n hT 6 (pc' := 103) (L' := [some (.ref q0), none, some (.int (0 : Int32)), some (.int (0 : Int32)), some (.int (0 : Int32)), none, none]) (st' := []) rfl ?_
  refine Rn.weak (ll_s (ll_n (ll_s (ll_s (ll_s (ll_n (ll_n ll_e))))))) (rX12_canBySlides_l103 hd (fun h_8532 z_8533 z_8534 e => ?_) hq N h_8531 (0 : Int32) (0 : Int32) (0 : Int32) e)
  try dsimp only at e
  refine Rn.n hT 4 (pc' := 158) (L' := [some (.ref q0), none, some (.int z_8533), some (.int z_8534), some (.int (0 : Int32)), some (.int (0 : Int32)), none]) (st' := []) rfl ?_
  refine Rn.weak (ll_s (ll_n (ll_s (ll_s (ll_s (ll_s (ll_n ll_e))))))) (rX12_canBySlides_l158 hd (fun h_8535 z_8536 e => ?_) hq N h_8532 (0 : Int32) (0 : Int32) e)
  try dsimp only at e
  refine Rn.n hT 6 (pc' := 254) (L' := [none, none, some (.int z_8533), some (.int z_8534), some (.int z_8536), none, none]) (st' := [.int (z_8534 - z_8534 / (4 : Int32) * (4 : Int32)), .int (z_8533 - z_8533 / (4 : Int32) * (4 : Int32))]) rfl ?_
  obtain ⟨v_8538, e_8537, e⟩ := Option.bind_eq_some_iff.mp e
  refine Rn.call hT rfl rfl rfl (Nat.le_of_ble_eq_true rfl) rfl (rX12_apart (by omega) e_8537 ?_)
  show Rn d _ _ 257 [none, none, some (.int z_8533), some (.int z_8534), some (.int z_8536), none, none] [.int v_8538] h_8535 Q
  refine Rn.n hT 6 (pc' := 263) (L' := [none, none, some (.int z_8533), some (.int z_8534), some (.int z_8536), none, none]) (st' := [.int (z_8534 / (4 : Int32)), .int (z_8533 / (4 : Int32)), .int v_8538]) rfl ?_
  obtain ⟨v_8540, e_8539, e⟩ := Option.bind_eq_some_iff.mp e
  refine Rn.call hT rfl rfl rfl (Nat.le_of_ble_eq_true rfl) rfl (rX12_apart (by omega) e_8539 ?_)
  show Rn d _ _ 266 [none, none, some (.int z_8533), some (.int z_8534), some (.int z_8536), none, none] [.int v_8540, .int v_8538] h_8535 Q
  refine Rn.n hT 8 (pc' := 277) (L' := [none, none, some (.int z_8533), some (.int z_8534), some (.int z_8536), some (.int (v_8538 + v_8540)), none]) (st' := [.int ((v_8538 + v_8540) - (v_8538 + v_8540) / (2 : Int32) * (2 : Int32)), .int (z_8536 - z_8536 / (2 : Int32) * (2 : Int32))]) rfl ?_
  by_cases c_8541 : (z_8536 - z_8536 / (2 : Int32) * (2 : Int32)) = ((v_8538 + v_8540) - (v_8538 + v_8540) / (2 : Int32) * (2 : Int32))
  · rw [if_pos c_8541] at e
    refine Rn.bf hT rfl rfl rfl (decide_eq_false (fun z => z c_8541)) ?_
    refine Rn.n hT 2 (pc' := 285) (L' := [none, none, some (.int z_8533), some (.int z_8534), some (.int z_8536), some (.int (v_8538 + v_8540)), none]) (st' := [.int (1 : Int32)]) rfl ?_
    exact Rn.weak (ll_n (ll_n (ll_n (ll_n (ll_n (ll_n (ll_n ll_e))))))) (rX12_canBySlides_b285 hd hq e)
  · rw [if_neg c_8541] at e
    refine Rn.bt hT rfl rfl rfl (decide_eq_true c_8541) ?_
    refine Rn.n hT 1 (pc' := 285) (L' := [none, none, some (.int z_8533), some (.int z_8534), some (.int z_8536), some (.int (v_8538 + v_8540)), none]) (st' := [.int (0 : Int32)]) rfl ?_
    exact Rn.weak (ll_n (ll_n (ll_n (ll_n (ll_n (ll_n (ll_n ll_e))))))) (rX12_canBySlides_b285 hd hq e)
set_option maxRecDepth 10000 in
theorem hX12_marks : iv_Tb 302 tX12_marks := iv_tb_of (m := mX12_marks) rfl
set_option maxRecDepth 10000 in
theorem gX12_marks : PG.2 302 = some mX12_marks := iv_pi_of (t := tX12_marks) rfl (by decide)
def fX12_marks_b156 (N : Nat) (h : iv_H) (q0 : Nat) (x1 : Int32) (x2 : Int32) (x3 : Int32) (x5 : Int32) (s0 : Int32) (kb : iv_H → Int32 → Int32 → Int32 → Int32 → Option (Int32 × iv_H)) (kx : iv_H → Int32 → Int32 → Int32 → Option (Int32 × iv_H)) : Option (Int32 × iv_H) := (kb h x2 x3 s0 (x5 + (1 : Int32)))
set_option maxRecDepth 10000 in
set_option maxHeartbeats 4000000 in
theorem rX12_marks_b156 {d N : Nat} (hd : 4 ≤ d) {h : iv_H} {q0 : Nat} {x1 : Int32} {x2 : Int32} {x3 : Int32} {x5 : Int32} {s0 : Int32} {kb : iv_H → Int32 → Int32 → Int32 → Int32 → Option (Int32 × iv_H)} {kx : iv_H → Int32 → Int32 → Int32 → Option (Int32 × iv_H)} {r : Int32 × iv_H} {Q : Option Value → iv_H → Prop} (hb : ∀ (h : iv_H) (w2 : Int32) (w3 : Int32) (w4 : Int32) (w5 : Int32), kb h w2 w3 w4 w5 = some r → Rn d 302 (some .int) 20 [some (.ref q0), some (.int x1), some (.int w2), some (.int w3), some (.int w4), some (.int w5), none, none] [] h Q) (hk : ∀ (h : iv_H) (w2 : Int32) (w3 : Int32) (w4 : Int32), kx h w2 w3 w4 = some r → Rn d 302 (some .int) 164 [some (.ref q0), some (.int x1), some (.int w2), some (.int w3), some (.int w4), none, none, none] [] h Q) (hq : Q (some (.int r.1)) r.2) (e : fX12_marks_b156 N h q0 x1 x2 x3 x5 s0 kb kx = some r) : Rn d 302 (some .int) 156 [some (.ref q0), some (.int x1), some (.int x2), some (.int x3), none, some (.int x5), none, none] [.int s0] h Q := by
  have hT := hX12_marks
  unfold fX12_marks_b156 at e
  refine Rn.n hT 3 (pc' := 20) (L' := [some (.ref q0), some (.int x1), some (.int x2), some (.int x3), some (.int s0), some (.int (x5 + (1 : Int32))), none, none]) (st' := []) rfl ?_
  exact Rn.weak (ll_s (ll_s (ll_s (ll_s (ll_s (ll_s (ll_n (ll_n ll_e)))))))) (hb h x2 x3 s0 (x5 + (1 : Int32)) e)
def fX12_marks_b151 (N : Nat) (h : iv_H) (q0 : Nat) (x1 : Int32) (x2 : Int32) (x3 : Int32) (x5 : Int32)  (kb : iv_H → Int32 → Int32 → Int32 → Int32 → Option (Int32 × iv_H)) (kx : iv_H → Int32 → Int32 → Int32 → Option (Int32 × iv_H)) : Option (Int32 × iv_H) := (fX12_marks_b156 N h q0 x1 x2 x3 x5 (1 : Int32) kb kx)
set_option maxRecDepth 10000 in
set_option maxHeartbeats 4000000 in
theorem rX12_marks_b151 {d N : Nat} (hd : 4 ≤ d) {h : iv_H} {q0 : Nat} {x1 : Int32} {x2 : Int32} {x3 : Int32} {x5 : Int32}  {kb : iv_H → Int32 → Int32 → Int32 → Int32 → Option (Int32 × iv_H)} {kx : iv_H → Int32 → Int32 → Int32 → Option (Int32 × iv_H)} {r : Int32 × iv_H} {Q : Option Value → iv_H → Prop} (hb : ∀ (h : iv_H) (w2 : Int32) (w3 : Int32) (w4 : Int32) (w5 : Int32), kb h w2 w3 w4 w5 = some r → Rn d 302 (some .int) 20 [some (.ref q0), some (.int x1), some (.int w2), some (.int w3), some (.int w4), some (.int w5), none, none] [] h Q) (hk : ∀ (h : iv_H) (w2 : Int32) (w3 : Int32) (w4 : Int32), kx h w2 w3 w4 = some r → Rn d 302 (some .int) 164 [some (.ref q0), some (.int x1), some (.int w2), some (.int w3), some (.int w4), none, none, none] [] h Q) (hq : Q (some (.int r.1)) r.2) (e : fX12_marks_b151 N h q0 x1 x2 x3 x5  kb kx = some r) : Rn d 302 (some .int) 151 [some (.ref q0), some (.int x1), some (.int x2), some (.int x3), none, some (.int x5), none, none] [] h Q := by
  have hT := hX12_marks
  unfold fX12_marks_b151 at e
  refine Rn.n hT 2 (pc' := 156) (L' := [some (.ref q0), some (.int x1), some (.int x2), some (.int x3), none, some (.int x5), none, none]) (st' := [.int (1 : Int32)]) rfl ?_
  exact Rn.weak (ll_s (ll_s (ll_s (ll_s (ll_n (ll_s (ll_n (ll_n ll_e)))))))) (rX12_marks_b156 hd hb hk hq e)
def fX12_marks_b140 (N : Nat) (h : iv_H) (q0 : Nat) (x1 : Int32) (x2 : Int32) (x4 : Int32) (x5 : Int32) (x6 : Int32) (s0 : Int32) (kb : iv_H → Int32 → Int32 → Int32 → Int32 → Option (Int32 × iv_H)) (kx : iv_H → Int32 → Int32 → Int32 → Option (Int32 × iv_H)) : Option (Int32 × iv_H) := (if x4 = 0 then (if x6 = 0 then (fX12_marks_b156 N h q0 x1 x2 s0 x5 (0 : Int32) kb kx) else (fX12_marks_b151 N h q0 x1 x2 s0 x5 kb kx)) else (fX12_marks_b151 N h q0 x1 x2 s0 x5 kb kx))
set_option maxRecDepth 10000 in
set_option maxHeartbeats 4000000 in
theorem rX12_marks_b140 {d N : Nat} (hd : 4 ≤ d) {h : iv_H} {q0 : Nat} {x1 : Int32} {x2 : Int32} {x4 : Int32} {x5 : Int32} {x6 : Int32} {s0 : Int32} {kb : iv_H → Int32 → Int32 → Int32 → Int32 → Option (Int32 × iv_H)} {kx : iv_H → Int32 → Int32 → Int32 → Option (Int32 × iv_H)} {r : Int32 × iv_H} {Q : Option Value → iv_H → Prop} (hb : ∀ (h : iv_H) (w2 : Int32) (w3 : Int32) (w4 : Int32) (w5 : Int32), kb h w2 w3 w4 w5 = some r → Rn d 302 (some .int) 20 [some (.ref q0), some (.int x1), some (.int w2), some (.int w3), some (.int w4), some (.int w5), none, none] [] h Q) (hk : ∀ (h : iv_H) (w2 : Int32) (w3 : Int32) (w4 : Int32), kx h w2 w3 w4 = some r → Rn d 302 (some .int) 164 [some (.ref q0), some (.int x1), some (.int w2), some (.int w3), some (.int w4), none, none, none] [] h Q) (hq : Q (some (.int r.1)) r.2) (e : fX12_marks_b140 N h q0 x1 x2 x4 x5 x6 s0 kb kx = some r) : Rn d 302 (some .int) 140 [some (.ref q0), some (.int x1), some (.int x2), none, some (.int x4), some (.int x5), some (.int x6), none] [.int s0] h Q := by
  have hT := hX12_marks
  unfold fX12_marks_b140 at e
  refine Rn.n hT 2 (pc' := 143) (L' := [some (.ref q0), some (.int x1), some (.int x2), some (.int s0), some (.int x4), some (.int x5), some (.int x6), none]) (st' := [.int x4]) rfl ?_
  by_cases c_8671 : x4 = 0
  · rw [if_pos c_8671] at e
    refine Rn.bf hT rfl rfl rfl (decide_eq_false (fun z => z c_8671)) ?_
    refine Rn.n hT 1 (pc' := 148) (L' := [some (.ref q0), some (.int x1), some (.int x2), some (.int s0), some (.int x4), some (.int x5), some (.int x6), none]) (st' := [.int x6]) rfl ?_
    by_cases c_8672 : x6 = 0
    · rw [if_pos c_8672] at e
      refine Rn.bt hT rfl rfl rfl (decide_eq_true c_8672) ?_
      refine Rn.n hT 1 (pc' := 156) (L' := [some (.ref q0), some (.int x1), some (.int x2), some (.int s0), some (.int x4), some (.int x5), some (.int x6), none]) (st' := [.int (0 : Int32)]) rfl ?_
      exact Rn.weak (ll_s (ll_s (ll_s (ll_s (ll_n (ll_s (ll_n (ll_n ll_e)))))))) (rX12_marks_b156 hd hb hk hq e)
    · rw [if_neg c_8672] at e
      refine Rn.bf hT rfl rfl rfl (decide_eq_false c_8672) ?_
      exact Rn.weak (ll_s (ll_s (ll_s (ll_s (ll_n (ll_s (ll_n (ll_n ll_e)))))))) (rX12_marks_b151 hd hb hk hq e)
  · rw [if_neg c_8671] at e
    refine Rn.bt hT rfl rfl rfl (decide_eq_true c_8671) ?_
    exact Rn.weak (ll_s (ll_s (ll_s (ll_s (ll_n (ll_s (ll_n (ll_n ll_e)))))))) (rX12_marks_b151 hd hb hk hq e)
def fX12_marks_b135 (N : Nat) (h : iv_H) (q0 : Nat) (x1 : Int32) (x2 : Int32) (x4 : Int32) (x5 : Int32) (x6 : Int32)  (kb : iv_H → Int32 → Int32 → Int32 → Int32 → Option (Int32 × iv_H)) (kx : iv_H → Int32 → Int32 → Int32 → Option (Int32 × iv_H)) : Option (Int32 × iv_H) := (fX12_marks_b140 N h q0 x1 x2 x4 x5 x6 (1 : Int32) kb kx)
set_option maxRecDepth 10000 in
set_option maxHeartbeats 4000000 in
theorem rX12_marks_b135 {d N : Nat} (hd : 4 ≤ d) {h : iv_H} {q0 : Nat} {x1 : Int32} {x2 : Int32} {x4 : Int32} {x5 : Int32} {x6 : Int32}  {kb : iv_H → Int32 → Int32 → Int32 → Int32 → Option (Int32 × iv_H)} {kx : iv_H → Int32 → Int32 → Int32 → Option (Int32 × iv_H)} {r : Int32 × iv_H} {Q : Option Value → iv_H → Prop} (hb : ∀ (h : iv_H) (w2 : Int32) (w3 : Int32) (w4 : Int32) (w5 : Int32), kb h w2 w3 w4 w5 = some r → Rn d 302 (some .int) 20 [some (.ref q0), some (.int x1), some (.int w2), some (.int w3), some (.int w4), some (.int w5), none, none] [] h Q) (hk : ∀ (h : iv_H) (w2 : Int32) (w3 : Int32) (w4 : Int32), kx h w2 w3 w4 = some r → Rn d 302 (some .int) 164 [some (.ref q0), some (.int x1), some (.int w2), some (.int w3), some (.int w4), none, none, none] [] h Q) (hq : Q (some (.int r.1)) r.2) (e : fX12_marks_b135 N h q0 x1 x2 x4 x5 x6  kb kx = some r) : Rn d 302 (some .int) 135 [some (.ref q0), some (.int x1), some (.int x2), none, some (.int x4), some (.int x5), some (.int x6), none] [] h Q := by
  have hT := hX12_marks
  unfold fX12_marks_b135 at e
  refine Rn.n hT 2 (pc' := 140) (L' := [some (.ref q0), some (.int x1), some (.int x2), none, some (.int x4), some (.int x5), some (.int x6), none]) (st' := [.int (1 : Int32)]) rfl ?_
  exact Rn.weak (ll_s (ll_s (ll_s (ll_n (ll_s (ll_s (ll_s (ll_n ll_e)))))))) (rX12_marks_b140 hd hb hk hq e)
def fX12_marks_b125 (N : Nat) (h : iv_H) (q0 : Nat) (x1 : Int32) (x3 : Int32) (x4 : Int32) (x5 : Int32) (x6 : Int32) (x7 : Int32) (s0 : Int32) (kb : iv_H → Int32 → Int32 → Int32 → Int32 → Option (Int32 × iv_H)) (kx : iv_H → Int32 → Int32 → Int32 → Option (Int32 × iv_H)) : Option (Int32 × iv_H) := (if x3 = 0 then (if x7 = 0 then (fX12_marks_b140 N h q0 x1 s0 x4 x5 x6 (0 : Int32) kb kx) else (fX12_marks_b135 N h q0 x1 s0 x4 x5 x6 kb kx)) else (fX12_marks_b135 N h q0 x1 s0 x4 x5 x6 kb kx))
set_option maxRecDepth 10000 in
set_option maxHeartbeats 4000000 in
theorem rX12_marks_b125 {d N : Nat} (hd : 4 ≤ d) {h : iv_H} {q0 : Nat} {x1 : Int32} {x3 : Int32} {x4 : Int32} {x5 : Int32} {x6 : Int32} {x7 : Int32} {s0 : Int32} {kb : iv_H → Int32 → Int32 → Int32 → Int32 → Option (Int32 × iv_H)} {kx : iv_H → Int32 → Int32 → Int32 → Option (Int32 × iv_H)} {r : Int32 × iv_H} {Q : Option Value → iv_H → Prop} (hb : ∀ (h : iv_H) (w2 : Int32) (w3 : Int32) (w4 : Int32) (w5 : Int32), kb h w2 w3 w4 w5 = some r → Rn d 302 (some .int) 20 [some (.ref q0), some (.int x1), some (.int w2), some (.int w3), some (.int w4), some (.int w5), none, none] [] h Q) (hk : ∀ (h : iv_H) (w2 : Int32) (w3 : Int32) (w4 : Int32), kx h w2 w3 w4 = some r → Rn d 302 (some .int) 164 [some (.ref q0), some (.int x1), some (.int w2), some (.int w3), some (.int w4), none, none, none] [] h Q) (hq : Q (some (.int r.1)) r.2) (e : fX12_marks_b125 N h q0 x1 x3 x4 x5 x6 x7 s0 kb kx = some r) : Rn d 302 (some .int) 125 [some (.ref q0), some (.int x1), none, some (.int x3), some (.int x4), some (.int x5), some (.int x6), some (.int x7)] [.int s0] h Q := by
  have hT := hX12_marks
  unfold fX12_marks_b125 at e
  refine Rn.n hT 2 (pc' := 127) (L' := [some (.ref q0), some (.int x1), some (.int s0), some (.int x3), some (.int x4), some (.int x5), some (.int x6), some (.int x7)]) (st' := [.int x3]) rfl ?_
  by_cases c_8669 : x3 = 0
  · rw [if_pos c_8669] at e
    refine Rn.bf hT rfl rfl rfl (decide_eq_false (fun z => z c_8669)) ?_
    refine Rn.n hT 1 (pc' := 132) (L' := [some (.ref q0), some (.int x1), some (.int s0), some (.int x3), some (.int x4), some (.int x5), some (.int x6), some (.int x7)]) (st' := [.int x7]) rfl ?_
    by_cases c_8670 : x7 = 0
    · rw [if_pos c_8670] at e
      refine Rn.bt hT rfl rfl rfl (decide_eq_true c_8670) ?_
      refine Rn.n hT 1 (pc' := 140) (L' := [some (.ref q0), some (.int x1), some (.int s0), some (.int x3), some (.int x4), some (.int x5), some (.int x6), some (.int x7)]) (st' := [.int (0 : Int32)]) rfl ?_
      exact Rn.weak (ll_s (ll_s (ll_s (ll_n (ll_s (ll_s (ll_s (ll_n ll_e)))))))) (rX12_marks_b140 hd hb hk hq e)
    · rw [if_neg c_8670] at e
      refine Rn.bf hT rfl rfl rfl (decide_eq_false c_8670) ?_
      exact Rn.weak (ll_s (ll_s (ll_s (ll_n (ll_s (ll_s (ll_s (ll_n ll_e)))))))) (rX12_marks_b135 hd hb hk hq e)
  · rw [if_neg c_8669] at e
    refine Rn.bt hT rfl rfl rfl (decide_eq_true c_8669) ?_
    exact Rn.weak (ll_s (ll_s (ll_s (ll_n (ll_s (ll_s (ll_s (ll_n ll_e)))))))) (rX12_marks_b135 hd hb hk hq e)
def fX12_marks_b120 (N : Nat) (h : iv_H) (q0 : Nat) (x1 : Int32) (x3 : Int32) (x4 : Int32) (x5 : Int32) (x6 : Int32) (x7 : Int32)  (kb : iv_H → Int32 → Int32 → Int32 → Int32 → Option (Int32 × iv_H)) (kx : iv_H → Int32 → Int32 → Int32 → Option (Int32 × iv_H)) : Option (Int32 × iv_H) := (fX12_marks_b125 N h q0 x1 x3 x4 x5 x6 x7 (1 : Int32) kb kx)
set_option maxRecDepth 10000 in
set_option maxHeartbeats 4000000 in
theorem rX12_marks_b120 {d N : Nat} (hd : 4 ≤ d) {h : iv_H} {q0 : Nat} {x1 : Int32} {x3 : Int32} {x4 : Int32} {x5 : Int32} {x6 : Int32} {x7 : Int32}  {kb : iv_H → Int32 → Int32 → Int32 → Int32 → Option (Int32 × iv_H)} {kx : iv_H → Int32 → Int32 → Int32 → Option (Int32 × iv_H)} {r : Int32 × iv_H} {Q : Option Value → iv_H → Prop} (hb : ∀ (h : iv_H) (w2 : Int32) (w3 : Int32) (w4 : Int32) (w5 : Int32), kb h w2 w3 w4 w5 = some r → Rn d 302 (some .int) 20 [some (.ref q0), some (.int x1), some (.int w2), some (.int w3), some (.int w4), some (.int w5), none, none] [] h Q) (hk : ∀ (h : iv_H) (w2 : Int32) (w3 : Int32) (w4 : Int32), kx h w2 w3 w4 = some r → Rn d 302 (some .int) 164 [some (.ref q0), some (.int x1), some (.int w2), some (.int w3), some (.int w4), none, none, none] [] h Q) (hq : Q (some (.int r.1)) r.2) (e : fX12_marks_b120 N h q0 x1 x3 x4 x5 x6 x7  kb kx = some r) : Rn d 302 (some .int) 120 [some (.ref q0), some (.int x1), none, some (.int x3), some (.int x4), some (.int x5), some (.int x6), some (.int x7)] [] h Q := by
  have hT := hX12_marks
  unfold fX12_marks_b120 at e
  refine Rn.n hT 2 (pc' := 125) (L' := [some (.ref q0), some (.int x1), none, some (.int x3), some (.int x4), some (.int x5), some (.int x6), some (.int x7)]) (st' := [.int (1 : Int32)]) rfl ?_
  exact Rn.weak (ll_s (ll_s (ll_n (ll_s (ll_s (ll_s (ll_s (ll_s ll_e)))))))) (rX12_marks_b125 hd hb hk hq e)
def fX12_marks_b124 (N : Nat) (h : iv_H) (q0 : Nat) (x1 : Int32) (x3 : Int32) (x4 : Int32) (x5 : Int32) (x6 : Int32) (x7 : Int32)  (kb : iv_H → Int32 → Int32 → Int32 → Int32 → Option (Int32 × iv_H)) (kx : iv_H → Int32 → Int32 → Int32 → Option (Int32 × iv_H)) : Option (Int32 × iv_H) := (fX12_marks_b125 N h q0 x1 x3 x4 x5 x6 x7 (0 : Int32) kb kx)
set_option maxRecDepth 10000 in
set_option maxHeartbeats 4000000 in
theorem rX12_marks_b124 {d N : Nat} (hd : 4 ≤ d) {h : iv_H} {q0 : Nat} {x1 : Int32} {x3 : Int32} {x4 : Int32} {x5 : Int32} {x6 : Int32} {x7 : Int32}  {kb : iv_H → Int32 → Int32 → Int32 → Int32 → Option (Int32 × iv_H)} {kx : iv_H → Int32 → Int32 → Int32 → Option (Int32 × iv_H)} {r : Int32 × iv_H} {Q : Option Value → iv_H → Prop} (hb : ∀ (h : iv_H) (w2 : Int32) (w3 : Int32) (w4 : Int32) (w5 : Int32), kb h w2 w3 w4 w5 = some r → Rn d 302 (some .int) 20 [some (.ref q0), some (.int x1), some (.int w2), some (.int w3), some (.int w4), some (.int w5), none, none] [] h Q) (hk : ∀ (h : iv_H) (w2 : Int32) (w3 : Int32) (w4 : Int32), kx h w2 w3 w4 = some r → Rn d 302 (some .int) 164 [some (.ref q0), some (.int x1), some (.int w2), some (.int w3), some (.int w4), none, none, none] [] h Q) (hq : Q (some (.int r.1)) r.2) (e : fX12_marks_b124 N h q0 x1 x3 x4 x5 x6 x7  kb kx = some r) : Rn d 302 (some .int) 124 [some (.ref q0), some (.int x1), none, some (.int x3), some (.int x4), some (.int x5), some (.int x6), some (.int x7)] [] h Q := by
  have hT := hX12_marks
  unfold fX12_marks_b124 at e
  refine Rn.n hT 1 (pc' := 125) (L' := [some (.ref q0), some (.int x1), none, some (.int x3), some (.int x4), some (.int x5), some (.int x6), some (.int x7)]) (st' := [.int (0 : Int32)]) rfl ?_
  exact Rn.weak (ll_s (ll_s (ll_n (ll_s (ll_s (ll_s (ll_s (ll_s ll_e)))))))) (rX12_marks_b125 hd hb hk hq e)
def fX12_marks_b93 (N : Nat) (h : iv_H) (q0 : Nat) (x1 : Int32) (x2 : Int32) (x3 : Int32) (x4 : Int32) (x5 : Int32) (x6 : Int32) (s0 : Int32) (kb : iv_H → Int32 → Int32 → Int32 → Int32 → Option (Int32 × iv_H)) (kx : iv_H → Int32 → Int32 → Int32 → Option (Int32 × iv_H)) : Option (Int32 × iv_H) := (if x2 = 0 then ((gR h 12 5 q0).bind fun v_8662 => ((aI h v_8662 x5).bind fun v_8664 => (if v_8664 = (1 : Int32) then (if x6 = 0 then (if s0 = 0 then (fX12_marks_b124 N h q0 x1 x3 x4 x5 x6 s0 kb kx) else (fX12_marks_b120 N h q0 x1 x3 x4 x5 x6 s0 kb kx)) else (fX12_marks_b120 N h q0 x1 x3 x4 x5 x6 s0 kb kx)) else (fX12_marks_b124 N h q0 x1 x3 x4 x5 x6 s0 kb kx)))) else (fX12_marks_b120 N h q0 x1 x3 x4 x5 x6 s0 kb kx))
set_option maxRecDepth 10000 in
set_option maxHeartbeats 4000000 in
theorem rX12_marks_b93 {d N : Nat} (hd : 4 ≤ d) {h : iv_H} {q0 : Nat} {x1 : Int32} {x2 : Int32} {x3 : Int32} {x4 : Int32} {x5 : Int32} {x6 : Int32} {s0 : Int32} {kb : iv_H → Int32 → Int32 → Int32 → Int32 → Option (Int32 × iv_H)} {kx : iv_H → Int32 → Int32 → Int32 → Option (Int32 × iv_H)} {r : Int32 × iv_H} {Q : Option Value → iv_H → Prop} (hb : ∀ (h : iv_H) (w2 : Int32) (w3 : Int32) (w4 : Int32) (w5 : Int32), kb h w2 w3 w4 w5 = some r → Rn d 302 (some .int) 20 [some (.ref q0), some (.int x1), some (.int w2), some (.int w3), some (.int w4), some (.int w5), none, none] [] h Q) (hk : ∀ (h : iv_H) (w2 : Int32) (w3 : Int32) (w4 : Int32), kx h w2 w3 w4 = some r → Rn d 302 (some .int) 164 [some (.ref q0), some (.int x1), some (.int w2), some (.int w3), some (.int w4), none, none, none] [] h Q) (hq : Q (some (.int r.1)) r.2) (e : fX12_marks_b93 N h q0 x1 x2 x3 x4 x5 x6 s0 kb kx = some r) : Rn d 302 (some .int) 93 [some (.ref q0), some (.int x1), some (.int x2), some (.int x3), some (.int x4), some (.int x5), some (.int x6), none] [.int s0] h Q := by
  have hT := hX12_marks
  unfold fX12_marks_b93 at e
  refine Rn.n hT 2 (pc' := 96) (L' := [some (.ref q0), some (.int x1), some (.int x2), some (.int x3), some (.int x4), some (.int x5), some (.int x6), some (.int s0)]) (st' := [.int x2]) rfl ?_
  by_cases c_8661 : x2 = 0
  · rw [if_pos c_8661] at e
    refine Rn.bf hT rfl rfl rfl (decide_eq_false (fun z => z c_8661)) ?_
    refine Rn.n hT 1 (pc' := 100) (L' := [some (.ref q0), some (.int x1), some (.int x2), some (.int x3), some (.int x4), some (.int x5), some (.int x6), some (.int s0)]) (st' := [.ref q0]) rfl ?_
    obtain ⟨v_8662, e_8663, e⟩ := Option.bind_eq_some_iff.mp e
    refine Rn.hp hT rfl rfl (gR_hp e_8663) ?_
    refine Rn.n hT 1 (pc' := 105) (L' := [some (.ref q0), some (.int x1), some (.int x2), some (.int x3), some (.int x4), some (.int x5), some (.int x6), some (.int s0)]) (st' := [.int x5, .ref v_8662]) rfl ?_
    obtain ⟨v_8664, e_8665, e⟩ := Option.bind_eq_some_iff.mp e
    refine Rn.hp hT rfl rfl (aI_hp e_8665) ?_
    refine Rn.n hT 1 (pc' := 107) (L' := [some (.ref q0), some (.int x1), some (.int x2), some (.int x3), some (.int x4), some (.int x5), some (.int x6), some (.int s0)]) (st' := [.int (1 : Int32), .int v_8664]) rfl ?_
    by_cases c_8666 : v_8664 = (1 : Int32)
    · rw [if_pos c_8666] at e
      refine Rn.bf hT rfl rfl rfl (decide_eq_false (fun z => z c_8666)) ?_
      refine Rn.n hT 1 (pc' := 112) (L' := [some (.ref q0), some (.int x1), some (.int x2), some (.int x3), some (.int x4), some (.int x5), some (.int x6), some (.int s0)]) (st' := [.int x6]) rfl ?_
      by_cases c_8667 : x6 = 0
      · rw [if_pos c_8667] at e
        refine Rn.bf hT rfl rfl rfl (decide_eq_false (fun z => z c_8667)) ?_
        refine Rn.n hT 1 (pc' := 117) (L' := [some (.ref q0), some (.int x1), some (.int x2), some (.int x3), some (.int x4), some (.int x5), some (.int x6), some (.int s0)]) (st' := [.int s0]) rfl ?_
        by_cases c_8668 : s0 = 0
        · rw [if_pos c_8668] at e
          refine Rn.bt hT rfl rfl rfl (decide_eq_true c_8668) ?_
          exact Rn.weak (ll_s (ll_s (ll_n (ll_s (ll_s (ll_s (ll_s (ll_s ll_e)))))))) (rX12_marks_b124 hd hb hk hq e)
        · rw [if_neg c_8668] at e
          refine Rn.bf hT rfl rfl rfl (decide_eq_false c_8668) ?_
          exact Rn.weak (ll_s (ll_s (ll_n (ll_s (ll_s (ll_s (ll_s (ll_s ll_e)))))))) (rX12_marks_b120 hd hb hk hq e)
      · rw [if_neg c_8667] at e
        refine Rn.bt hT rfl rfl rfl (decide_eq_true c_8667) ?_
        exact Rn.weak (ll_s (ll_s (ll_n (ll_s (ll_s (ll_s (ll_s (ll_s ll_e)))))))) (rX12_marks_b120 hd hb hk hq e)
    · rw [if_neg c_8666] at e
      refine Rn.bt hT rfl rfl rfl (decide_eq_true c_8666) ?_
      exact Rn.weak (ll_s (ll_s (ll_n (ll_s (ll_s (ll_s (ll_s (ll_s ll_e)))))))) (rX12_marks_b124 hd hb hk hq e)
  · rw [if_neg c_8661] at e
    refine Rn.bt hT rfl rfl rfl (decide_eq_true c_8661) ?_
    exact Rn.weak (ll_s (ll_s (ll_n (ll_s (ll_s (ll_s (ll_s (ll_s ll_e)))))))) (rX12_marks_b120 hd hb hk hq e)
def fX12_marks_b60 (N : Nat) (h : iv_H) (q0 : Nat) (x1 : Int32) (x2 : Int32) (x3 : Int32) (x4 : Int32) (x5 : Int32) (s0 : Int32) (kb : iv_H → Int32 → Int32 → Int32 → Int32 → Option (Int32 × iv_H)) (kx : iv_H → Int32 → Int32 → Int32 → Option (Int32 × iv_H)) : Option (Int32 × iv_H) := ((gR h 12 4 q0).bind fun v_8652 => ((aI h v_8652 x5).bind fun v_8654 => ((gR h 12 10 q0).bind fun v_8656 => ((aI h v_8656 ((((24 : Int32) * x1) + ((2 : Int32) * x5)) + (1 : Int32))).bind fun v_8658 => (if v_8654 = v_8658 then (fX12_marks_b93 N h q0 x1 x2 x3 x4 x5 s0 (0 : Int32) kb kx) else (fX12_marks_b93 N h q0 x1 x2 x3 x4 x5 s0 (1 : Int32) kb kx))))))
set_option maxRecDepth 10000 in
set_option maxHeartbeats 4000000 in
theorem rX12_marks_b60 {d N : Nat} (hd : 4 ≤ d) {h : iv_H} {q0 : Nat} {x1 : Int32} {x2 : Int32} {x3 : Int32} {x4 : Int32} {x5 : Int32} {s0 : Int32} {kb : iv_H → Int32 → Int32 → Int32 → Int32 → Option (Int32 × iv_H)} {kx : iv_H → Int32 → Int32 → Int32 → Option (Int32 × iv_H)} {r : Int32 × iv_H} {Q : Option Value → iv_H → Prop} (hb : ∀ (h : iv_H) (w2 : Int32) (w3 : Int32) (w4 : Int32) (w5 : Int32), kb h w2 w3 w4 w5 = some r → Rn d 302 (some .int) 20 [some (.ref q0), some (.int x1), some (.int w2), some (.int w3), some (.int w4), some (.int w5), none, none] [] h Q) (hk : ∀ (h : iv_H) (w2 : Int32) (w3 : Int32) (w4 : Int32), kx h w2 w3 w4 = some r → Rn d 302 (some .int) 164 [some (.ref q0), some (.int x1), some (.int w2), some (.int w3), some (.int w4), none, none, none] [] h Q) (hq : Q (some (.int r.1)) r.2) (e : fX12_marks_b60 N h q0 x1 x2 x3 x4 x5 s0 kb kx = some r) : Rn d 302 (some .int) 60 [some (.ref q0), some (.int x1), some (.int x2), some (.int x3), some (.int x4), some (.int x5), none, none] [.int s0] h Q := by
  have hT := hX12_marks
  unfold fX12_marks_b60 at e
  refine Rn.n hT 2 (pc' := 63) (L' := [some (.ref q0), some (.int x1), some (.int x2), some (.int x3), some (.int x4), some (.int x5), some (.int s0), none]) (st' := [.ref q0]) rfl ?_
  obtain ⟨v_8652, e_8653, e⟩ := Option.bind_eq_some_iff.mp e
  refine Rn.hp hT rfl rfl (gR_hp e_8653) ?_
  refine Rn.n hT 1 (pc' := 68) (L' := [some (.ref q0), some (.int x1), some (.int x2), some (.int x3), some (.int x4), some (.int x5), some (.int s0), none]) (st' := [.int x5, .ref v_8652]) rfl ?_
  obtain ⟨v_8654, e_8655, e⟩ := Option.bind_eq_some_iff.mp e
  refine Rn.hp hT rfl rfl (aI_hp e_8655) ?_
  refine Rn.n hT 1 (pc' := 70) (L' := [some (.ref q0), some (.int x1), some (.int x2), some (.int x3), some (.int x4), some (.int x5), some (.int s0), none]) (st' := [.ref q0, .int v_8654]) rfl ?_
  obtain ⟨v_8656, e_8657, e⟩ := Option.bind_eq_some_iff.mp e
  refine Rn.hp hT rfl rfl (gR_hp e_8657) ?_
  refine Rn.n hT 9 (pc' := 84) (L' := [some (.ref q0), some (.int x1), some (.int x2), some (.int x3), some (.int x4), some (.int x5), some (.int s0), none]) (st' := [.int ((((24 : Int32) * x1) + ((2 : Int32) * x5)) + (1 : Int32)), .ref v_8656, .int v_8654]) rfl ?_
  obtain ⟨v_8658, e_8659, e⟩ := Option.bind_eq_some_iff.mp e
  refine Rn.hp hT rfl rfl (aI_hp e_8659) ?_
  by_cases c_8660 : v_8654 = v_8658
  · rw [if_pos c_8660] at e
    refine Rn.bt hT rfl rfl rfl (decide_eq_true c_8660) ?_
    refine Rn.n hT 1 (pc' := 93) (L' := [some (.ref q0), some (.int x1), some (.int x2), some (.int x3), some (.int x4), some (.int x5), some (.int s0), none]) (st' := [.int (0 : Int32)]) rfl ?_
    exact Rn.weak (ll_s (ll_s (ll_s (ll_s (ll_s (ll_s (ll_s (ll_n ll_e)))))))) (rX12_marks_b93 hd hb hk hq e)
  · rw [if_neg c_8660] at e
    refine Rn.bf hT rfl rfl rfl (decide_eq_false c_8660) ?_
    refine Rn.n hT 2 (pc' := 93) (L' := [some (.ref q0), some (.int x1), some (.int x2), some (.int x3), some (.int x4), some (.int x5), some (.int s0), none]) (st' := [.int (1 : Int32)]) rfl ?_
    exact Rn.weak (ll_s (ll_s (ll_s (ll_s (ll_s (ll_s (ll_s (ll_n ll_e)))))))) (rX12_marks_b93 hd hb hk hq e)
def fX12_marks_l20 (N : Nat) (q0 : Nat) (x1 : Int32) (kx : iv_H → Int32 → Int32 → Int32 → Option (Int32 × iv_H)) : Nat → iv_H → Int32 → Int32 → Int32 → Int32 → Option (Int32 × iv_H)
  | 0, _, _, _, _, _ => none
  | n + 1, h, x2, x3, x4, x5 => ((gR h 12 1 q0).bind fun v_8638 => ((aI h v_8638 (2 : Int32)).bind fun v_8640 => (if v_8640 ≤ x5 then (kx h x2 x3 x4) else ((gR h 12 3 q0).bind fun v_8643 => ((aI h v_8643 x5).bind fun v_8645 => ((gR h 12 10 q0).bind fun v_8647 => ((aI h v_8647 (((24 : Int32) * x1) + ((2 : Int32) * x5))).bind fun v_8649 => (if v_8645 = v_8649 then (fX12_marks_b60 N h q0 x1 x2 x3 x4 x5 (0 : Int32) (fX12_marks_l20 N q0 x1 kx n) kx) else (fX12_marks_b60 N h q0 x1 x2 x3 x4 x5 (1 : Int32) (fX12_marks_l20 N q0 x1 kx n) kx)))))))))
set_option maxRecDepth 10000 in
set_option maxHeartbeats 4000000 in
theorem rX12_marks_l20 {d N : Nat} (hd : 4 ≤ d) {q0 : Nat} {x1 : Int32} {kx : iv_H → Int32 → Int32 → Int32 → Option (Int32 × iv_H)} {r : Int32 × iv_H} {Q : Option Value → iv_H → Prop} (hk : ∀ (h : iv_H) (x2 : Int32) (x3 : Int32) (x4 : Int32), kx h x2 x3 x4 = some r → Rn d 302 (some .int) 164 [some (.ref q0), some (.int x1), some (.int x2), some (.int x3), some (.int x4), none, none, none] [] h Q) (hq : Q (some (.int r.1)) r.2) : ∀ (n : Nat) (h : iv_H) (x2 : Int32) (x3 : Int32) (x4 : Int32) (x5 : Int32), fX12_marks_l20 N q0 x1 kx n h x2 x3 x4 x5 = some r → Rn d 302 (some .int) 20 [some (.ref q0), some (.int x1), some (.int x2), some (.int x3), some (.int x4), some (.int x5), none, none] [] h Q := by
  have hT := hX12_marks
  intro n
  induction n with
  | zero =>
    intro h x2 x3 x4 x5 e
    rw [fX12_marks_l20] at e
    cases e
  | succ n ih =>
    intro h x2 x3 x4 x5 e
    rw [fX12_marks_l20] at e
    refine Rn.n hT 2 (pc' := 23) (L' := [some (.ref q0), some (.int x1), some (.int x2), some (.int x3), some (.int x4), some (.int x5), none, none]) (st' := [.ref q0, .int x5]) rfl ?_
    obtain ⟨v_8638, e_8639, e⟩ := Option.bind_eq_some_iff.mp e
    refine Rn.hp hT rfl rfl (gR_hp e_8639) ?_
    refine Rn.n hT 1 (pc' := 27) (L' := [some (.ref q0), some (.int x1), some (.int x2), some (.int x3), some (.int x4), some (.int x5), none, none]) (st' := [.int (2 : Int32), .ref v_8638, .int x5]) rfl ?_
    obtain ⟨v_8640, e_8641, e⟩ := Option.bind_eq_some_iff.mp e
    refine Rn.hp hT rfl rfl (aI_hp e_8641) ?_
    by_cases c_8642 : v_8640 ≤ x5
    · rw [if_pos c_8642] at e
      refine Rn.bt hT rfl rfl rfl (decide_eq_true c_8642) ?_
      exact Rn.weak (ll_s (ll_s (ll_s (ll_s (ll_s (ll_n (ll_n (ll_n ll_e)))))))) (hk h x2 x3 x4 e)
    · rw [if_neg c_8642] at e
      refine Rn.bf hT rfl rfl rfl (decide_eq_false c_8642) ?_
      refine Rn.n hT 1 (pc' := 32) (L' := [some (.ref q0), some (.int x1), some (.int x2), some (.int x3), some (.int x4), some (.int x5), none, none]) (st' := [.ref q0]) rfl ?_
      obtain ⟨v_8643, e_8644, e⟩ := Option.bind_eq_some_iff.mp e
      refine Rn.hp hT rfl rfl (gR_hp e_8644) ?_
      refine Rn.n hT 1 (pc' := 37) (L' := [some (.ref q0), some (.int x1), some (.int x2), some (.int x3), some (.int x4), some (.int x5), none, none]) (st' := [.int x5, .ref v_8643]) rfl ?_
      obtain ⟨v_8645, e_8646, e⟩ := Option.bind_eq_some_iff.mp e
      refine Rn.hp hT rfl rfl (aI_hp e_8646) ?_
      refine Rn.n hT 1 (pc' := 39) (L' := [some (.ref q0), some (.int x1), some (.int x2), some (.int x3), some (.int x4), some (.int x5), none, none]) (st' := [.ref q0, .int v_8645]) rfl ?_
      obtain ⟨v_8647, e_8648, e⟩ := Option.bind_eq_some_iff.mp e
      refine Rn.hp hT rfl rfl (gR_hp e_8648) ?_
      refine Rn.n hT 7 (pc' := 51) (L' := [some (.ref q0), some (.int x1), some (.int x2), some (.int x3), some (.int x4), some (.int x5), none, none]) (st' := [.int (((24 : Int32) * x1) + ((2 : Int32) * x5)), .ref v_8647, .int v_8645]) rfl ?_
      obtain ⟨v_8649, e_8650, e⟩ := Option.bind_eq_some_iff.mp e
      refine Rn.hp hT rfl rfl (aI_hp e_8650) ?_
      by_cases c_8651 : v_8645 = v_8649
      · rw [if_pos c_8651] at e
        refine Rn.bt hT rfl rfl rfl (decide_eq_true c_8651) ?_
        refine Rn.n hT 1 (pc' := 60) (L' := [some (.ref q0), some (.int x1), some (.int x2), some (.int x3), some (.int x4), some (.int x5), none, none]) (st' := [.int (0 : Int32)]) rfl ?_
        exact Rn.weak (ll_s (ll_s (ll_s (ll_s (ll_s (ll_s (ll_n (ll_n ll_e)))))))) (rX12_marks_b60 hd ih hk hq e)
      · rw [if_neg c_8651] at e
        refine Rn.bf hT rfl rfl rfl (decide_eq_false c_8651) ?_
        refine Rn.n hT 2 (pc' := 60) (L' := [some (.ref q0), some (.int x1), some (.int x2), some (.int x3), some (.int x4), some (.int x5), none, none]) (st' := [.int (1 : Int32)]) rfl ?_
        exact Rn.weak (ll_s (ll_s (ll_s (ll_s (ll_s (ll_s (ll_n (ll_n ll_e)))))))) (rX12_marks_b60 hd ih hk hq e)
def fX12_marks_b257 (N : Nat) (h : iv_H)  (s0 : Int32) (s1 : Int32) : Option (Int32 × iv_H) := (some ((s1 + s0), h))
set_option maxRecDepth 10000 in
set_option maxHeartbeats 4000000 in
theorem rX12_marks_b257 {d N : Nat} (hd : 4 ≤ d) {h : iv_H}  {s0 : Int32} {s1 : Int32} {r : Int32 × iv_H} {Q : Option Value → iv_H → Prop} (hq : Q (some (.int r.1)) r.2) (e : fX12_marks_b257 N h  s0 s1 = some r) : Rn d 302 (some .int) 257 [none, none, none, none, none, none, none, none] [.int s0, .int s1] h Q := by
  have hT := hX12_marks
  unfold fX12_marks_b257 at e
  refine Rn.n hT 1 (pc' := 258) (L' := [none, none, none, none, none, none, none, none]) (st' := [.int (s1 + s0)]) rfl ?_
  obtain rfl := Option.some.inj e
  exact Rn.ret hT rfl rfl rfl hq
def fX12_marks_b256 (N : Nat) (h : iv_H)  (s0 : Int32) : Option (Int32 × iv_H) := (fX12_marks_b257 N h (0 : Int32) s0)
set_option maxRecDepth 10000 in
set_option maxHeartbeats 4000000 in
theorem rX12_marks_b256 {d N : Nat} (hd : 4 ≤ d) {h : iv_H}  {s0 : Int32} {r : Int32 × iv_H} {Q : Option Value → iv_H → Prop} (hq : Q (some (.int r.1)) r.2) (e : fX12_marks_b256 N h  s0 = some r) : Rn d 302 (some .int) 256 [none, none, none, none, none, none, none, none] [.int s0] h Q := by
  have hT := hX12_marks
  unfold fX12_marks_b256 at e
  refine Rn.n hT 1 (pc' := 257) (L' := [none, none, none, none, none, none, none, none]) (st' := [.int (0 : Int32), .int s0]) rfl ?_
  exact Rn.weak (ll_n (ll_n (ll_n (ll_n (ll_n (ll_n (ll_n (ll_n ll_e)))))))) (rX12_marks_b257 hd hq e)
def fX12_marks_b223 (N : Nat) (h : iv_H) (q0 : Nat) (x1 : Int32) (x5 : Int32) (s0 : Int32) (s1 : Int32) : Option (Int32 × iv_H) := (if (x5 &&& (2 : Int32)) = 0 then ((cko h q0 12).bind fun _ => (fX12_emptyMany N h q0).bind fun v_8680 => (if v_8680 = (1 : Int32) then ((cko h q0 12).bind fun _ => (fX12_canBySlides N h q0 x1).bind fun p_8687 => (fun (v_8684 : Int32) (h_8685 : iv_H) => (if v_8684 = 0 then (fX12_marks_b257 N h_8685 (8 : Int32) (s1 + s0)) else (fX12_marks_b256 N h_8685 (s1 + s0)))) p_8687.1 p_8687.2) else (fX12_marks_b256 N h (s1 + s0)))) else (fX12_marks_b256 N h (s1 + s0)))
set_option maxRecDepth 10000 in
set_option maxHeartbeats 4000000 in
theorem rX12_marks_b223 {d N : Nat} (hd : 4 ≤ d) {h : iv_H} {q0 : Nat} {x1 : Int32} {x5 : Int32} {s0 : Int32} {s1 : Int32} {r : Int32 × iv_H} {Q : Option Value → iv_H → Prop} (hq : Q (some (.int r.1)) r.2) (e : fX12_marks_b223 N h q0 x1 x5 s0 s1 = some r) : Rn d 302 (some .int) 223 [some (.ref q0), some (.int x1), none, none, none, some (.int x5), none, none] [.int s0, .int s1] h Q := by
  have hT := hX12_marks
  unfold fX12_marks_b223 at e
  refine Rn.n hT 6 (pc' := 232) (L' := [some (.ref q0), some (.int x1), none, none, none, some (.int x5), some (.int (s1 + s0)), none]) (st' := [.int (x5 &&& (2 : Int32)), .int (s1 + s0)]) rfl ?_
  by_cases c_8677 : (x5 &&& (2 : Int32)) = 0
  · rw [if_pos c_8677] at e
    refine Rn.bf hT rfl rfl rfl (decide_eq_false (fun z => z c_8677)) ?_
    refine Rn.n hT 1 (pc' := 236) (L' := [some (.ref q0), some (.int x1), none, none, none, some (.int x5), some (.int (s1 + s0)), none]) (st' := [.ref q0, .int (s1 + s0)]) rfl ?_
    obtain ⟨_, e_8679, e⟩ := Option.bind_eq_some_iff.mp e
    obtain ⟨v_8680, e_8678, e⟩ := Option.bind_eq_some_iff.mp e
    refine Rn.call hT rfl rfl rfl (Nat.le_of_ble_eq_true rfl) (rcv_v gX12_emptyMany (by omega) e_8679) (rX12_emptyMany (by omega) e_8678 ?_)
    show Rn d _ _ 239 [some (.ref q0), some (.int x1), none, none, none, some (.int x5), some (.int (s1 + s0)), none] [.int v_8680, .int (s1 + s0)] h Q
    refine Rn.n hT 1 (pc' := 240) (L' := [some (.ref q0), some (.int x1), none, none, none, some (.int x5), some (.int (s1 + s0)), none]) (st' := [.int (1 : Int32), .int v_8680, .int (s1 + s0)]) rfl ?_
    by_cases c_8681 : v_8680 = (1 : Int32)
    · rw [if_pos c_8681] at e
      refine Rn.bf hT rfl rfl rfl (decide_eq_false (fun z => z c_8681)) ?_
      refine Rn.n hT 2 (pc' := 245) (L' := [some (.ref q0), some (.int x1), none, none, none, some (.int x5), some (.int (s1 + s0)), none]) (st' := [.int x1, .ref q0, .int (s1 + s0)]) rfl ?_
      obtain ⟨_, e_8683, e⟩ := Option.bind_eq_some_iff.mp e
      obtain ⟨⟨v_8684, h_8685⟩, e_8682, e⟩ := Option.bind_eq_some_iff.mp e
      try dsimp only at e
      try dsimp only at e
      refine Rn.call hT rfl rfl rfl (Nat.le_of_ble_eq_true rfl) (rcv_v gX12_canBySlides (by omega) e_8683) (rX12_canBySlides (by omega) e_8682 ?_)
      show Rn d _ _ 248 [some (.ref q0), some (.int x1), none, none, none, some (.int x5), some (.int (s1 + s0)), none] [.int v_8684, .int (s1 + s0)] h_8685 Q
      by_cases c_8686 : v_8684 = 0
      · rw [if_pos c_8686] at e
        refine Rn.bf hT rfl rfl rfl (decide_eq_false (fun z => z c_8686)) ?_
        refine Rn.n hT 2 (pc' := 257) (L' := [some (.ref q0), some (.int x1), none, none, none, some (.int x5), some (.int (s1 + s0)), none]) (st' := [.int (8 : Int32), .int (s1 + s0)]) rfl ?_
        exact Rn.weak (ll_n (ll_n (ll_n (ll_n (ll_n (ll_n (ll_n (ll_n ll_e)))))))) (rX12_marks_b257 hd hq e)
      · rw [if_neg c_8686] at e
        refine Rn.bt hT rfl rfl rfl (decide_eq_true c_8686) ?_
        exact Rn.weak (ll_n (ll_n (ll_n (ll_n (ll_n (ll_n (ll_n (ll_n ll_e)))))))) (rX12_marks_b256 hd hq e)
    · rw [if_neg c_8681] at e
      refine Rn.bt hT rfl rfl rfl (decide_eq_true c_8681) ?_
      exact Rn.weak (ll_n (ll_n (ll_n (ll_n (ll_n (ll_n (ll_n (ll_n ll_e)))))))) (rX12_marks_b256 hd hq e)
  · rw [if_neg c_8677] at e
    refine Rn.bt hT rfl rfl rfl (decide_eq_true c_8677) ?_
    exact Rn.weak (ll_n (ll_n (ll_n (ll_n (ll_n (ll_n (ll_n (ll_n ll_e)))))))) (rX12_marks_b256 hd hq e)
def fX12_marks_b222 (N : Nat) (h : iv_H) (q0 : Nat) (x1 : Int32) (x5 : Int32) (s0 : Int32) : Option (Int32 × iv_H) := (fX12_marks_b223 N h q0 x1 x5 (0 : Int32) s0)
set_option maxRecDepth 10000 in
set_option maxHeartbeats 4000000 in
theorem rX12_marks_b222 {d N : Nat} (hd : 4 ≤ d) {h : iv_H} {q0 : Nat} {x1 : Int32} {x5 : Int32} {s0 : Int32} {r : Int32 × iv_H} {Q : Option Value → iv_H → Prop} (hq : Q (some (.int r.1)) r.2) (e : fX12_marks_b222 N h q0 x1 x5 s0 = some r) : Rn d 302 (some .int) 222 [some (.ref q0), some (.int x1), none, none, none, some (.int x5), none, none] [.int s0] h Q := by
  have hT := hX12_marks
  unfold fX12_marks_b222 at e
  refine Rn.n hT 1 (pc' := 223) (L' := [some (.ref q0), some (.int x1), none, none, none, some (.int x5), none, none]) (st' := [.int (0 : Int32), .int s0]) rfl ?_
  exact Rn.weak (ll_s (ll_s (ll_n (ll_n (ll_n (ll_s (ll_n (ll_n ll_e)))))))) (rX12_marks_b223 hd hq e)
def fX12_marks_b201 (N : Nat) (h : iv_H) (q0 : Nat) (x1 : Int32) (x4 : Int32) (x5 : Int32) (s0 : Int32) (s1 : Int32) : Option (Int32 × iv_H) := (if (x5 &&& (3 : Int32)) = 0 then (if x4 = 0 then (fX12_marks_b222 N h q0 x1 x5 (s1 + s0)) else (fX12_marks_b223 N h q0 x1 x5 (4 : Int32) (s1 + s0))) else (fX12_marks_b222 N h q0 x1 x5 (s1 + s0)))
set_option maxRecDepth 10000 in
set_option maxHeartbeats 4000000 in
theorem rX12_marks_b201 {d N : Nat} (hd : 4 ≤ d) {h : iv_H} {q0 : Nat} {x1 : Int32} {x4 : Int32} {x5 : Int32} {s0 : Int32} {s1 : Int32} {r : Int32 × iv_H} {Q : Option Value → iv_H → Prop} (hq : Q (some (.int r.1)) r.2) (e : fX12_marks_b201 N h q0 x1 x4 x5 s0 s1 = some r) : Rn d 302 (some .int) 201 [some (.ref q0), some (.int x1), none, none, some (.int x4), some (.int x5), none, none] [.int s0, .int s1] h Q := by
  have hT := hX12_marks
  unfold fX12_marks_b201 at e
  refine Rn.n hT 6 (pc' := 210) (L' := [some (.ref q0), some (.int x1), none, none, some (.int x4), some (.int x5), some (.int (s1 + s0)), none]) (st' := [.int (x5 &&& (3 : Int32)), .int (s1 + s0)]) rfl ?_
  by_cases c_8675 : (x5 &&& (3 : Int32)) = 0
  · rw [if_pos c_8675] at e
    refine Rn.bf hT rfl rfl rfl (decide_eq_false (fun z => z c_8675)) ?_
    refine Rn.n hT 1 (pc' := 215) (L' := [some (.ref q0), some (.int x1), none, none, some (.int x4), some (.int x5), some (.int (s1 + s0)), none]) (st' := [.int x4, .int (s1 + s0)]) rfl ?_
    by_cases c_8676 : x4 = 0
    · rw [if_pos c_8676] at e
      refine Rn.bt hT rfl rfl rfl (decide_eq_true c_8676) ?_
      exact Rn.weak (ll_s (ll_s (ll_n (ll_n (ll_n (ll_s (ll_n (ll_n ll_e)))))))) (rX12_marks_b222 hd hq e)
    · rw [if_neg c_8676] at e
      refine Rn.bf hT rfl rfl rfl (decide_eq_false c_8676) ?_
      refine Rn.n hT 2 (pc' := 223) (L' := [some (.ref q0), some (.int x1), none, none, some (.int x4), some (.int x5), some (.int (s1 + s0)), none]) (st' := [.int (4 : Int32), .int (s1 + s0)]) rfl ?_
      exact Rn.weak (ll_s (ll_s (ll_n (ll_n (ll_n (ll_s (ll_n (ll_n ll_e)))))))) (rX12_marks_b223 hd hq e)
  · rw [if_neg c_8675] at e
    refine Rn.bt hT rfl rfl rfl (decide_eq_true c_8675) ?_
    exact Rn.weak (ll_s (ll_s (ll_n (ll_n (ll_n (ll_s (ll_n (ll_n ll_e)))))))) (rX12_marks_b222 hd hq e)
def fX12_marks_b200 (N : Nat) (h : iv_H) (q0 : Nat) (x1 : Int32) (x4 : Int32) (x5 : Int32) (s0 : Int32) : Option (Int32 × iv_H) := (fX12_marks_b201 N h q0 x1 x4 x5 (0 : Int32) s0)
set_option maxRecDepth 10000 in
set_option maxHeartbeats 4000000 in
theorem rX12_marks_b200 {d N : Nat} (hd : 4 ≤ d) {h : iv_H} {q0 : Nat} {x1 : Int32} {x4 : Int32} {x5 : Int32} {s0 : Int32} {r : Int32 × iv_H} {Q : Option Value → iv_H → Prop} (hq : Q (some (.int r.1)) r.2) (e : fX12_marks_b200 N h q0 x1 x4 x5 s0 = some r) : Rn d 302 (some .int) 200 [some (.ref q0), some (.int x1), none, none, some (.int x4), some (.int x5), none, none] [.int s0] h Q := by
  have hT := hX12_marks
  unfold fX12_marks_b200 at e
  refine Rn.n hT 1 (pc' := 201) (L' := [some (.ref q0), some (.int x1), none, none, some (.int x4), some (.int x5), none, none]) (st' := [.int (0 : Int32), .int s0]) rfl ?_
  exact Rn.weak (ll_s (ll_s (ll_n (ll_n (ll_s (ll_s (ll_n (ll_n ll_e)))))))) (rX12_marks_b201 hd hq e)
def fX12_marks_b181 (N : Nat) (h : iv_H) (q0 : Nat) (x1 : Int32) (x3 : Int32) (x4 : Int32) (x5 : Int32) (s0 : Int32) : Option (Int32 × iv_H) := (if (x5 &&& (4 : Int32)) = 0 then (if x3 = 0 then (fX12_marks_b200 N h q0 x1 x4 x5 s0) else (fX12_marks_b201 N h q0 x1 x4 x5 (2 : Int32) s0)) else (fX12_marks_b200 N h q0 x1 x4 x5 s0))
set_option maxRecDepth 10000 in
set_option maxHeartbeats 4000000 in
theorem rX12_marks_b181 {d N : Nat} (hd : 4 ≤ d) {h : iv_H} {q0 : Nat} {x1 : Int32} {x3 : Int32} {x4 : Int32} {x5 : Int32} {s0 : Int32} {r : Int32 × iv_H} {Q : Option Value → iv_H → Prop} (hq : Q (some (.int r.1)) r.2) (e : fX12_marks_b181 N h q0 x1 x3 x4 x5 s0 = some r) : Rn d 302 (some .int) 181 [some (.ref q0), some (.int x1), none, some (.int x3), some (.int x4), some (.int x5), none, none] [.int s0] h Q := by
  have hT := hX12_marks
  unfold fX12_marks_b181 at e
  refine Rn.n hT 5 (pc' := 189) (L' := [some (.ref q0), some (.int x1), none, some (.int x3), some (.int x4), some (.int x5), some (.int s0), none]) (st' := [.int (x5 &&& (4 : Int32)), .int s0]) rfl ?_
  by_cases c_8673 : (x5 &&& (4 : Int32)) = 0
  · rw [if_pos c_8673] at e
    refine Rn.bf hT rfl rfl rfl (decide_eq_false (fun z => z c_8673)) ?_
    refine Rn.n hT 1 (pc' := 193) (L' := [some (.ref q0), some (.int x1), none, some (.int x3), some (.int x4), some (.int x5), some (.int s0), none]) (st' := [.int x3, .int s0]) rfl ?_
    by_cases c_8674 : x3 = 0
    · rw [if_pos c_8674] at e
      refine Rn.bt hT rfl rfl rfl (decide_eq_true c_8674) ?_
      exact Rn.weak (ll_s (ll_s (ll_n (ll_n (ll_s (ll_s (ll_n (ll_n ll_e)))))))) (rX12_marks_b200 hd hq e)
    · rw [if_neg c_8674] at e
      refine Rn.bf hT rfl rfl rfl (decide_eq_false c_8674) ?_
      refine Rn.n hT 2 (pc' := 201) (L' := [some (.ref q0), some (.int x1), none, some (.int x3), some (.int x4), some (.int x5), some (.int s0), none]) (st' := [.int (2 : Int32), .int s0]) rfl ?_
      exact Rn.weak (ll_s (ll_s (ll_n (ll_n (ll_s (ll_s (ll_n (ll_n ll_e)))))))) (rX12_marks_b201 hd hq e)
  · rw [if_neg c_8673] at e
    refine Rn.bt hT rfl rfl rfl (decide_eq_true c_8673) ?_
    exact Rn.weak (ll_s (ll_s (ll_n (ll_n (ll_s (ll_s (ll_n (ll_n ll_e)))))))) (rX12_marks_b200 hd hq e)
def fX12_marks (N : Nat) (h : iv_H) (q0 : Nat) (x1 : Int32) : Option (Int32 × iv_H) := ((cko h q0 12).bind fun _ => (fX12_isDraft N h q0 x1).bind fun v_8627 => (if v_8627 = 0 then (some ((-1 : Int32), h)) else (fX12_marks_l20 N q0 x1 (fun (h_8629 : iv_H) (z_8630 : Int32) (z_8631 : Int32) (z_8632 : Int32) => ((gR h_8629 12 1 q0).bind fun v_8633 => ((aI h_8629 v_8633 (4 : Int32)).bind fun v_8635 => (if z_8630 = 0 then (fX12_marks_b181 N h_8629 q0 x1 z_8631 z_8632 v_8635 (0 : Int32)) else (fX12_marks_b181 N h_8629 q0 x1 z_8631 z_8632 v_8635 (1 : Int32)))))) N h (0 : Int32) (0 : Int32) (0 : Int32) (0 : Int32))))
set_option maxRecDepth 10000 in
set_option maxHeartbeats 4000000 in
theorem rX12_marks {d N : Nat} (hd : 5 ≤ d) {h : iv_H} {q0 : Nat} {x1 : Int32} {r : Int32 × iv_H} {Q : Option Value → iv_H → Prop} (e : fX12_marks N h q0 x1 = some r) (hq : Q (some (.int r.1)) r.2) : Cl d 302 [.ref q0, .int x1] h Q := by
  obtain ⟨d, rfl⟩ : ∃ k, d = k + 1 := ⟨d - 1, by omega⟩
  have hd : 4 ≤ d := by omega
  have hT := hX12_marks
  unfold fX12_marks at e
  refine Cl.into (by decide) gX12_marks rfl ?_
  show Rn d 302 (some .int) 0 [some (.ref q0), some (.int x1), none, none, none, none, none, none] [] h Q
  refine Rn.n hT 2 (pc' := 2) (L' := [some (.ref q0), some (.int x1), none, none, none, none, none, none]) (st' := [.int x1, .ref q0]) rfl ?_
  obtain ⟨_, e_8626, e⟩ := Option.bind_eq_some_iff.mp e
  obtain ⟨v_8627, e_8625, e⟩ := Option.bind_eq_some_iff.mp e
  refine Rn.call hT rfl rfl rfl (Nat.le_of_ble_eq_true rfl) (rcv_v gX12_isDraft (by omega) e_8626) (rX12_isDraft (by omega) e_8625 ?_)
  show Rn d _ _ 5 [some (.ref q0), some (.int x1), none, none, none, none, none, none] [.int v_8627] h Q
  by_cases c_8628 : v_8627 = 0
  · rw [if_pos c_8628] at e
    refine Rn.bf hT rfl rfl rfl (decide_eq_false (fun z => z c_8628)) ?_
    refine Rn.n hT 1 (pc' := 9) (L' := [some (.ref q0), some (.int x1), none, none, none, none, none, none]) (st' := [.int (-1 : Int32)]) rfl ?_
    obtain rfl := Option.some.inj e
    exact Rn.ret hT rfl rfl rfl hq
  · rw [if_neg c_8628] at e
    refine Rn.bt hT rfl rfl rfl (decide_eq_true c_8628) ?_
    refine Rn.n hT 8 (pc' := 20) (L' := [some (.ref q0), some (.int x1), some (.int (0 : Int32)), some (.int (0 : Int32)), some (.int (0 : Int32)), some (.int (0 : Int32)), none, none]) (st' := []) rfl ?_
    refine Rn.weak (ll_s (ll_s (ll_s (ll_s (ll_s (ll_s (ll_n (ll_n ll_e)))))))) (rX12_marks_l20 hd (fun h_8629 z_8630 z_8631 z_8632 e => ?_) hq N h (0 : Int32) (0 : Int32) (0 : Int32) (0 : Int32) e)
    try dsimp only at e
    refine Rn.n hT 1 (pc' := 165) (L' := [some (.ref q0), some (.int x1), some (.int z_8630), some (.int z_8631), some (.int z_8632), none, none, none]) (st' := [.ref q0]) rfl ?_
    obtain ⟨v_8633, e_8634, e⟩ := Option.bind_eq_some_iff.mp e
    refine Rn.hp hT rfl rfl (gR_hp e_8634) ?_
    refine Rn.n hT 1 (pc' := 169) (L' := [some (.ref q0), some (.int x1), some (.int z_8630), some (.int z_8631), some (.int z_8632), none, none, none]) (st' := [.int (4 : Int32), .ref v_8633]) rfl ?_
    obtain ⟨v_8635, e_8636, e⟩ := Option.bind_eq_some_iff.mp e
    refine Rn.hp hT rfl rfl (aI_hp e_8636) ?_
    refine Rn.n hT 2 (pc' := 173) (L' := [some (.ref q0), some (.int x1), some (.int z_8630), some (.int z_8631), some (.int z_8632), some (.int v_8635), none, none]) (st' := [.int z_8630]) rfl ?_
    by_cases c_8637 : z_8630 = 0
    · rw [if_pos c_8637] at e
      refine Rn.bt hT rfl rfl rfl (decide_eq_true c_8637) ?_
      refine Rn.n hT 1 (pc' := 181) (L' := [some (.ref q0), some (.int x1), some (.int z_8630), some (.int z_8631), some (.int z_8632), some (.int v_8635), none, none]) (st' := [.int (0 : Int32)]) rfl ?_
      exact Rn.weak (ll_s (ll_s (ll_n (ll_s (ll_s (ll_s (ll_n (ll_n ll_e)))))))) (rX12_marks_b181 hd hq e)
    · rw [if_neg c_8637] at e
      refine Rn.bf hT rfl rfl rfl (decide_eq_false c_8637) ?_
      refine Rn.n hT 2 (pc' := 181) (L' := [some (.ref q0), some (.int x1), some (.int z_8630), some (.int z_8631), some (.int z_8632), some (.int v_8635), none, none]) (st' := [.int (1 : Int32)]) rfl ?_
      exact Rn.weak (ll_s (ll_s (ll_n (ll_s (ll_s (ll_s (ll_n (ll_n ll_e)))))))) (rX12_marks_b181 hd hq e)
set_option maxRecDepth 10000 in
theorem hX12_isLaidWell : iv_Tb 303 tX12_isLaidWell := iv_tb_of (m := mX12_isLaidWell) rfl
set_option maxRecDepth 10000 in
theorem gX12_isLaidWell : PG.2 303 = some mX12_isLaidWell := iv_pi_of (t := tX12_isLaidWell) rfl (by decide)
def fX12_isLaidWell_b77 (N : Nat) (h : iv_H)   : Option (Int32) := (some (0 : Int32))
set_option maxRecDepth 10000 in
set_option maxHeartbeats 4000000 in
theorem rX12_isLaidWell_b77 {d N : Nat} (hd : 3 ≤ d) {h : iv_H}   {r : Int32} {Q : Option Value → iv_H → Prop} (hq : Q (some (.int r)) h) (e : fX12_isLaidWell_b77 N h   = some r) : Rn d 303 (some .boolean) 77 [none, none, none, none, none] [] h Q := by
  have hT := hX12_isLaidWell
  unfold fX12_isLaidWell_b77 at e
  refine Rn.n hT 1 (pc' := 78) (L' := [none, none, none, none, none]) (st' := [.int (0 : Int32)]) rfl ?_
  obtain rfl := Option.some.inj e
  exact Rn.ret hT rfl rfl rfl hq
def fX12_isLaidWell_b79 (N : Nat) (h : iv_H) (q0 : Nat) (x1 : Int32) (x2 : Int32)  (kb : Int32 → Option (Int32)) (kx : Unit → Option (Int32)) : Option (Int32) := (kb (x2 + (1 : Int32)))
set_option maxRecDepth 10000 in
set_option maxHeartbeats 4000000 in
theorem rX12_isLaidWell_b79 {d N : Nat} (hd : 3 ≤ d) {h : iv_H} {q0 : Nat} {x1 : Int32} {x2 : Int32}  {kb : Int32 → Option (Int32)} {kx : Unit → Option (Int32)} {r : Int32} {Q : Option Value → iv_H → Prop} (hb : ∀ (w2 : Int32), kb w2 = some r → Rn d 303 (some .boolean) 2 [some (.ref q0), some (.int x1), some (.int w2), none, none] [] h Q) (hk : ∀ (u : Unit), kx u = some r → Rn d 303 (some .boolean) 85 [none, none, none, none, none] [] h Q) (hq : Q (some (.int r)) h) (e : fX12_isLaidWell_b79 N h q0 x1 x2  kb kx = some r) : Rn d 303 (some .boolean) 79 [some (.ref q0), some (.int x1), some (.int x2), none, none] [] h Q := by
  have hT := hX12_isLaidWell
  unfold fX12_isLaidWell_b79 at e
  refine Rn.n hT 2 (pc' := 2) (L' := [some (.ref q0), some (.int x1), some (.int (x2 + (1 : Int32))), none, none]) (st' := []) rfl ?_
  exact Rn.weak (ll_s (ll_s (ll_s (ll_n (ll_n ll_e))))) (hb (x2 + (1 : Int32)) e)
def fX12_isLaidWell_b51 (N : Nat) (h : iv_H) (q0 : Nat) (x1 : Int32) (x2 : Int32) (x4 : Int32)  (kb : Int32 → Option (Int32)) (kx : Unit → Option (Int32)) : Option (Int32) := (if x4 = (-1 : Int32) then (fX12_isLaidWell_b79 N h q0 x1 x2 kb kx) else ((cko h q0 12).bind fun _ => (fX12_sortAt N h q0 x1 x2).bind fun v_8709 => ((cko h q0 12).bind fun _ => (fX12_sortAt N h q0 x4 ((x2 + (2 : Int32)) &&& (3 : Int32))).bind fun v_8712 => (if v_8709 = v_8712 then (fX12_isLaidWell_b79 N h q0 x1 x2 kb kx) else (fX12_isLaidWell_b77 N h)))))
set_option maxRecDepth 10000 in
set_option maxHeartbeats 4000000 in
theorem rX12_isLaidWell_b51 {d N : Nat} (hd : 3 ≤ d) {h : iv_H} {q0 : Nat} {x1 : Int32} {x2 : Int32} {x4 : Int32}  {kb : Int32 → Option (Int32)} {kx : Unit → Option (Int32)} {r : Int32} {Q : Option Value → iv_H → Prop} (hb : ∀ (w2 : Int32), kb w2 = some r → Rn d 303 (some .boolean) 2 [some (.ref q0), some (.int x1), some (.int w2), none, none] [] h Q) (hk : ∀ (u : Unit), kx u = some r → Rn d 303 (some .boolean) 85 [none, none, none, none, none] [] h Q) (hq : Q (some (.int r)) h) (e : fX12_isLaidWell_b51 N h q0 x1 x2 x4  kb kx = some r) : Rn d 303 (some .boolean) 51 [some (.ref q0), some (.int x1), some (.int x2), none, some (.int x4)] [] h Q := by
  have hT := hX12_isLaidWell
  unfold fX12_isLaidWell_b51 at e
  refine Rn.n hT 2 (pc' := 54) (L' := [some (.ref q0), some (.int x1), some (.int x2), none, some (.int x4)]) (st' := [.int (-1 : Int32), .int x4]) rfl ?_
  by_cases c_8706 : x4 = (-1 : Int32)
  · rw [if_pos c_8706] at e
    refine Rn.bt hT rfl rfl rfl (decide_eq_true c_8706) ?_
    exact Rn.weak (ll_s (ll_s (ll_s (ll_n (ll_n ll_e))))) (rX12_isLaidWell_b79 hd hb hk hq e)
  · rw [if_neg c_8706] at e
    refine Rn.bf hT rfl rfl rfl (decide_eq_false c_8706) ?_
    refine Rn.n hT 3 (pc' := 60) (L' := [some (.ref q0), some (.int x1), some (.int x2), none, some (.int x4)]) (st' := [.int x2, .int x1, .ref q0]) rfl ?_
    obtain ⟨_, e_8708, e⟩ := Option.bind_eq_some_iff.mp e
    obtain ⟨v_8709, e_8707, e⟩ := Option.bind_eq_some_iff.mp e
    refine Rn.call hT rfl rfl rfl (Nat.le_of_ble_eq_true rfl) (rcv_v gX12_sortAt (by omega) e_8708) (rX12_sortAt (by omega) e_8707 ?_)
    show Rn d _ _ 63 [some (.ref q0), some (.int x1), some (.int x2), none, some (.int x4)] [.int v_8709] h Q
    refine Rn.n hT 7 (pc' := 71) (L' := [some (.ref q0), some (.int x1), some (.int x2), none, some (.int x4)]) (st' := [.int ((x2 + (2 : Int32)) &&& (3 : Int32)), .int x4, .ref q0, .int v_8709]) rfl ?_
    obtain ⟨_, e_8711, e⟩ := Option.bind_eq_some_iff.mp e
    obtain ⟨v_8712, e_8710, e⟩ := Option.bind_eq_some_iff.mp e
    refine Rn.call hT rfl rfl rfl (Nat.le_of_ble_eq_true rfl) (rcv_v gX12_sortAt (by omega) e_8711) (rX12_sortAt (by omega) e_8710 ?_)
    show Rn d _ _ 74 [some (.ref q0), some (.int x1), some (.int x2), none, some (.int x4)] [.int v_8712, .int v_8709] h Q
    by_cases c_8713 : v_8709 = v_8712
    · rw [if_pos c_8713] at e
      refine Rn.bt hT rfl rfl rfl (decide_eq_true c_8713) ?_
      exact Rn.weak (ll_s (ll_s (ll_s (ll_n (ll_n ll_e))))) (rX12_isLaidWell_b79 hd hb hk hq e)
    · rw [if_neg c_8713] at e
      refine Rn.bf hT rfl rfl rfl (decide_eq_false c_8713) ?_
      exact Rn.weak (ll_n (ll_n (ll_n (ll_n (ll_n ll_e))))) (rX12_isLaidWell_b77 hd hq e)
def fX12_isLaidWell_b34 (N : Nat) (h : iv_H) (q0 : Nat) (x1 : Int32) (x2 : Int32) (x3 : Int32) (s0 : Int32) (kb : Int32 → Option (Int32)) (kx : Unit → Option (Int32)) : Option (Int32) := (if x3 = (-1 : Int32) then ((cko h q0 12).bind fun _ => (fX12_sortAt N h q0 x1 x2).bind fun v_8704 => (if v_8704 = (1 : Int32) then (fX12_isLaidWell_b77 N h) else (fX12_isLaidWell_b51 N h q0 x1 x2 s0 kb kx))) else (fX12_isLaidWell_b51 N h q0 x1 x2 s0 kb kx))
set_option maxRecDepth 10000 in
set_option maxHeartbeats 4000000 in
theorem rX12_isLaidWell_b34 {d N : Nat} (hd : 3 ≤ d) {h : iv_H} {q0 : Nat} {x1 : Int32} {x2 : Int32} {x3 : Int32} {s0 : Int32} {kb : Int32 → Option (Int32)} {kx : Unit → Option (Int32)} {r : Int32} {Q : Option Value → iv_H → Prop} (hb : ∀ (w2 : Int32), kb w2 = some r → Rn d 303 (some .boolean) 2 [some (.ref q0), some (.int x1), some (.int w2), none, none] [] h Q) (hk : ∀ (u : Unit), kx u = some r → Rn d 303 (some .boolean) 85 [none, none, none, none, none] [] h Q) (hq : Q (some (.int r)) h) (e : fX12_isLaidWell_b34 N h q0 x1 x2 x3 s0 kb kx = some r) : Rn d 303 (some .boolean) 34 [some (.ref q0), some (.int x1), some (.int x2), some (.int x3), none] [.int s0] h Q := by
  have hT := hX12_isLaidWell
  unfold fX12_isLaidWell_b34 at e
  refine Rn.n hT 3 (pc' := 38) (L' := [some (.ref q0), some (.int x1), some (.int x2), some (.int x3), some (.int s0)]) (st' := [.int (-1 : Int32), .int x3]) rfl ?_
  by_cases c_8701 : x3 = (-1 : Int32)
  · rw [if_pos c_8701] at e
    refine Rn.bf hT rfl rfl rfl (decide_eq_false (fun z => z c_8701)) ?_
    refine Rn.n hT 3 (pc' := 44) (L' := [some (.ref q0), some (.int x1), some (.int x2), some (.int x3), some (.int s0)]) (st' := [.int x2, .int x1, .ref q0]) rfl ?_
    obtain ⟨_, e_8703, e⟩ := Option.bind_eq_some_iff.mp e
    obtain ⟨v_8704, e_8702, e⟩ := Option.bind_eq_some_iff.mp e
    refine Rn.call hT rfl rfl rfl (Nat.le_of_ble_eq_true rfl) (rcv_v gX12_sortAt (by omega) e_8703) (rX12_sortAt (by omega) e_8702 ?_)
    show Rn d _ _ 47 [some (.ref q0), some (.int x1), some (.int x2), some (.int x3), some (.int s0)] [.int v_8704] h Q
    refine Rn.n hT 1 (pc' := 48) (L' := [some (.ref q0), some (.int x1), some (.int x2), some (.int x3), some (.int s0)]) (st' := [.int (1 : Int32), .int v_8704]) rfl ?_
    by_cases c_8705 : v_8704 = (1 : Int32)
    · rw [if_pos c_8705] at e
      refine Rn.bt hT rfl rfl rfl (decide_eq_true c_8705) ?_
      exact Rn.weak (ll_n (ll_n (ll_n (ll_n (ll_n ll_e))))) (rX12_isLaidWell_b77 hd hq e)
    · rw [if_neg c_8705] at e
      refine Rn.bf hT rfl rfl rfl (decide_eq_false c_8705) ?_
      exact Rn.weak (ll_s (ll_s (ll_s (ll_n (ll_s ll_e))))) (rX12_isLaidWell_b51 hd hb hk hq e)
  · rw [if_neg c_8701] at e
    refine Rn.bt hT rfl rfl rfl (decide_eq_true c_8701) ?_
    exact Rn.weak (ll_s (ll_s (ll_s (ll_n (ll_s ll_e))))) (rX12_isLaidWell_b51 hd hb hk hq e)
def fX12_isLaidWell_l2 (N : Nat) (h : iv_H) (q0 : Nat) (x1 : Int32) (kx : Unit → Option (Int32)) : Nat → Int32 → Option (Int32)
  | 0, _ => none
  | n + 1, x2 => (if (4 : Int32) ≤ x2 then (kx ()) else ((gR h 12 3 q0).bind fun v_8689 => ((aI h v_8689 x1).bind fun v_8691 => ((cko h q0 12).bind fun _ => (fX12_by N h q0 v_8691 x2).bind fun v_8695 => (if v_8695 = (-1 : Int32) then (fX12_isLaidWell_b34 N h q0 x1 x2 v_8695 (-1 : Int32) (fX12_isLaidWell_l2 N h q0 x1 kx n) kx) else ((gR h 12 8 q0).bind fun v_8697 => ((aI h v_8697 v_8695).bind fun v_8699 => (fX12_isLaidWell_b34 N h q0 x1 x2 v_8695 v_8699 (fX12_isLaidWell_l2 N h q0 x1 kx n) kx))))))))
set_option maxRecDepth 10000 in
set_option maxHeartbeats 4000000 in
theorem rX12_isLaidWell_l2 {d N : Nat} (hd : 3 ≤ d) {h : iv_H} {q0 : Nat} {x1 : Int32} {kx : Unit → Option (Int32)} {r : Int32} {Q : Option Value → iv_H → Prop} (hk : ∀ (u : Unit), kx u = some r → Rn d 303 (some .boolean) 85 [none, none, none, none, none] [] h Q) (hq : Q (some (.int r)) h) : ∀ (n : Nat) (x2 : Int32), fX12_isLaidWell_l2 N h q0 x1 kx n x2 = some r → Rn d 303 (some .boolean) 2 [some (.ref q0), some (.int x1), some (.int x2), none, none] [] h Q := by
  have hT := hX12_isLaidWell
  intro n
  induction n with
  | zero =>
    intro x2 e
    rw [fX12_isLaidWell_l2] at e
    cases e
  | succ n ih =>
    intro x2 e
    rw [fX12_isLaidWell_l2] at e
    refine Rn.n hT 2 (pc' := 4) (L' := [some (.ref q0), some (.int x1), some (.int x2), none, none]) (st' := [.int (4 : Int32), .int x2]) rfl ?_
    by_cases c_8688 : (4 : Int32) ≤ x2
    · rw [if_pos c_8688] at e
      refine Rn.bt hT rfl rfl rfl (decide_eq_true c_8688) ?_
      exact Rn.weak (ll_n (ll_n (ll_n (ll_n (ll_n ll_e))))) (hk () e)
    · rw [if_neg c_8688] at e
      refine Rn.bf hT rfl rfl rfl (decide_eq_false c_8688) ?_
      refine Rn.n hT 2 (pc' := 9) (L' := [some (.ref q0), some (.int x1), some (.int x2), none, none]) (st' := [.ref q0, .ref q0]) rfl ?_
      obtain ⟨v_8689, e_8690, e⟩ := Option.bind_eq_some_iff.mp e
      refine Rn.hp hT rfl rfl (gR_hp e_8690) ?_
      refine Rn.n hT 1 (pc' := 13) (L' := [some (.ref q0), some (.int x1), some (.int x2), none, none]) (st' := [.int x1, .ref v_8689, .ref q0]) rfl ?_
      obtain ⟨v_8691, e_8692, e⟩ := Option.bind_eq_some_iff.mp e
      refine Rn.hp hT rfl rfl (aI_hp e_8692) ?_
      refine Rn.n hT 1 (pc' := 15) (L' := [some (.ref q0), some (.int x1), some (.int x2), none, none]) (st' := [.int x2, .int v_8691, .ref q0]) rfl ?_
      obtain ⟨_, e_8694, e⟩ := Option.bind_eq_some_iff.mp e
      obtain ⟨v_8695, e_8693, e⟩ := Option.bind_eq_some_iff.mp e
      refine Rn.call hT rfl rfl rfl (Nat.le_of_ble_eq_true rfl) (rcv_v gX12_by (by omega) e_8694) (rX12_by (by omega) e_8693 ?_)
      show Rn d _ _ 18 [some (.ref q0), some (.int x1), some (.int x2), none, none] [.int v_8695] h Q
      refine Rn.n hT 3 (pc' := 21) (L' := [some (.ref q0), some (.int x1), some (.int x2), some (.int v_8695), none]) (st' := [.int (-1 : Int32), .int v_8695]) rfl ?_
      by_cases c_8696 : v_8695 = (-1 : Int32)
      · rw [if_pos c_8696] at e
        refine Rn.bf hT rfl rfl rfl (decide_eq_false (fun z => z c_8696)) ?_
        refine Rn.n hT 2 (pc' := 34) (L' := [some (.ref q0), some (.int x1), some (.int x2), some (.int v_8695), none]) (st' := [.int (-1 : Int32)]) rfl ?_
        exact Rn.weak (ll_s (ll_s (ll_s (ll_s (ll_n ll_e))))) (rX12_isLaidWell_b34 hd ih hk hq e)
      · rw [if_neg c_8696] at e
        refine Rn.bt hT rfl rfl rfl (decide_eq_true c_8696) ?_
        refine Rn.n hT 1 (pc' := 29) (L' := [some (.ref q0), some (.int x1), some (.int x2), some (.int v_8695), none]) (st' := [.ref q0]) rfl ?_
        obtain ⟨v_8697, e_8698, e⟩ := Option.bind_eq_some_iff.mp e
        refine Rn.hp hT rfl rfl (gR_hp e_8698) ?_
        refine Rn.n hT 1 (pc' := 33) (L' := [some (.ref q0), some (.int x1), some (.int x2), some (.int v_8695), none]) (st' := [.int v_8695, .ref v_8697]) rfl ?_
        obtain ⟨v_8699, e_8700, e⟩ := Option.bind_eq_some_iff.mp e
        refine Rn.hp hT rfl rfl (aI_hp e_8700) ?_
        exact Rn.weak (ll_s (ll_s (ll_s (ll_s (ll_n ll_e))))) (rX12_isLaidWell_b34 hd ih hk hq e)
def fX12_isLaidWell (N : Nat) (h : iv_H) (q0 : Nat) (x1 : Int32) : Option (Int32) := (fX12_isLaidWell_l2 N h q0 x1 (fun (_ : Unit) => (some (1 : Int32))) N (0 : Int32))
set_option maxRecDepth 10000 in
set_option maxHeartbeats 4000000 in
theorem rX12_isLaidWell {d N : Nat} (hd : 4 ≤ d) {h : iv_H} {q0 : Nat} {x1 : Int32} {r : Int32} {Q : Option Value → iv_H → Prop} (e : fX12_isLaidWell N h q0 x1 = some r) (hq : Q (some (.int r)) h) : Cl d 303 [.ref q0, .int x1] h Q := by
  obtain ⟨d, rfl⟩ : ∃ k, d = k + 1 := ⟨d - 1, by omega⟩
  have hd : 3 ≤ d := by omega
  have hT := hX12_isLaidWell
  unfold fX12_isLaidWell at e
  refine Cl.into (by decide) gX12_isLaidWell rfl ?_
  show Rn d 303 (some .boolean) 0 [some (.ref q0), some (.int x1), none, none, none] [] h Q
  refine Rn.n hT 2 (pc' := 2) (L' := [some (.ref q0), some (.int x1), some (.int (0 : Int32)), none, none]) (st' := []) rfl ?_
  refine Rn.weak (ll_s (ll_s (ll_s (ll_n (ll_n ll_e))))) (rX12_isLaidWell_l2 hd (fun _ e => ?_) hq N (0 : Int32) e)
  try dsimp only at e
  refine Rn.n hT 1 (pc' := 86) (L' := [none, none, none, none, none]) (st' := [.int (1 : Int32)]) rfl ?_
  obtain rfl := Option.some.inj e
  exact Rn.ret hT rfl rfl rfl hq
set_option maxRecDepth 10000 in
theorem hX12_areFixedWell : iv_Tb 304 tX12_areFixedWell := iv_tb_of (m := mX12_areFixedWell) rfl
set_option maxRecDepth 10000 in
theorem gX12_areFixedWell : PG.2 304 = some mX12_areFixedWell := iv_pi_of (t := tX12_areFixedWell) rfl (by decide)
def fX12_areFixedWell_b40 (N : Nat) (h : iv_H) (q0 : Nat) (x2 : Int32) (s0 : Int32) (kb : Int32 → Int32 → Option (Int32)) (kx : Int32 → Option (Int32)) : Option (Int32) := (kb s0 (x2 + (1 : Int32)))
set_option maxRecDepth 10000 in
set_option maxHeartbeats 4000000 in
theorem rX12_areFixedWell_b40 {d N : Nat} (hd : 4 ≤ d) {h : iv_H} {q0 : Nat} {x2 : Int32} {s0 : Int32} {kb : Int32 → Int32 → Option (Int32)} {kx : Int32 → Option (Int32)} {r : Int32} {Q : Option Value → iv_H → Prop} (hb : ∀ (w1 : Int32) (w2 : Int32), kb w1 w2 = some r → Rn d 304 (some .boolean) 4 [some (.ref q0), some (.int w1), some (.int w2)] [] h Q) (hk : ∀ (w1 : Int32), kx w1 = some r → Rn d 304 (some .boolean) 47 [none, some (.int w1), none] [] h Q) (hq : Q (some (.int r)) h) (e : fX12_areFixedWell_b40 N h q0 x2 s0 kb kx = some r) : Rn d 304 (some .boolean) 40 [some (.ref q0), none, some (.int x2)] [.int s0] h Q := by
  have hT := hX12_areFixedWell
  unfold fX12_areFixedWell_b40 at e
  refine Rn.n hT 3 (pc' := 4) (L' := [some (.ref q0), some (.int s0), some (.int (x2 + (1 : Int32)))]) (st' := []) rfl ?_
  exact Rn.weak (ll_s (ll_s (ll_s ll_e))) (hb s0 (x2 + (1 : Int32)) e)
def fX12_areFixedWell_b35 (N : Nat) (h : iv_H) (q0 : Nat) (x2 : Int32)  (kb : Int32 → Int32 → Option (Int32)) (kx : Int32 → Option (Int32)) : Option (Int32) := (fX12_areFixedWell_b40 N h q0 x2 (1 : Int32) kb kx)
set_option maxRecDepth 10000 in
set_option maxHeartbeats 4000000 in
theorem rX12_areFixedWell_b35 {d N : Nat} (hd : 4 ≤ d) {h : iv_H} {q0 : Nat} {x2 : Int32}  {kb : Int32 → Int32 → Option (Int32)} {kx : Int32 → Option (Int32)} {r : Int32} {Q : Option Value → iv_H → Prop} (hb : ∀ (w1 : Int32) (w2 : Int32), kb w1 w2 = some r → Rn d 304 (some .boolean) 4 [some (.ref q0), some (.int w1), some (.int w2)] [] h Q) (hk : ∀ (w1 : Int32), kx w1 = some r → Rn d 304 (some .boolean) 47 [none, some (.int w1), none] [] h Q) (hq : Q (some (.int r)) h) (e : fX12_areFixedWell_b35 N h q0 x2  kb kx = some r) : Rn d 304 (some .boolean) 35 [some (.ref q0), none, some (.int x2)] [] h Q := by
  have hT := hX12_areFixedWell
  unfold fX12_areFixedWell_b35 at e
  refine Rn.n hT 2 (pc' := 40) (L' := [some (.ref q0), none, some (.int x2)]) (st' := [.int (1 : Int32)]) rfl ?_
  exact Rn.weak (ll_s (ll_n (ll_s ll_e))) (rX12_areFixedWell_b40 hd hb hk hq e)
def fX12_areFixedWell_b39 (N : Nat) (h : iv_H) (q0 : Nat) (x2 : Int32)  (kb : Int32 → Int32 → Option (Int32)) (kx : Int32 → Option (Int32)) : Option (Int32) := (fX12_areFixedWell_b40 N h q0 x2 (0 : Int32) kb kx)
set_option maxRecDepth 10000 in
set_option maxHeartbeats 4000000 in
theorem rX12_areFixedWell_b39 {d N : Nat} (hd : 4 ≤ d) {h : iv_H} {q0 : Nat} {x2 : Int32}  {kb : Int32 → Int32 → Option (Int32)} {kx : Int32 → Option (Int32)} {r : Int32} {Q : Option Value → iv_H → Prop} (hb : ∀ (w1 : Int32) (w2 : Int32), kb w1 w2 = some r → Rn d 304 (some .boolean) 4 [some (.ref q0), some (.int w1), some (.int w2)] [] h Q) (hk : ∀ (w1 : Int32), kx w1 = some r → Rn d 304 (some .boolean) 47 [none, some (.int w1), none] [] h Q) (hq : Q (some (.int r)) h) (e : fX12_areFixedWell_b39 N h q0 x2  kb kx = some r) : Rn d 304 (some .boolean) 39 [some (.ref q0), none, some (.int x2)] [] h Q := by
  have hT := hX12_areFixedWell
  unfold fX12_areFixedWell_b39 at e
  refine Rn.n hT 1 (pc' := 40) (L' := [some (.ref q0), none, some (.int x2)]) (st' := [.int (0 : Int32)]) rfl ?_
  exact Rn.weak (ll_s (ll_n (ll_s ll_e))) (rX12_areFixedWell_b40 hd hb hk hq e)
def fX12_areFixedWell_l4 (N : Nat) (h : iv_H) (q0 : Nat) (kx : Int32 → Option (Int32)) : Nat → Int32 → Int32 → Option (Int32)
  | 0, _, _ => none
  | n + 1, x1, x2 => ((gR h 12 1 q0).bind fun v_8716 => ((aI h v_8716 (2 : Int32)).bind fun v_8718 => (if v_8718 ≤ x2 then (kx x1) else (if x1 = 0 then (fX12_areFixedWell_b39 N h q0 x2 (fX12_areFixedWell_l4 N h q0 kx n) kx) else ((gR h 12 5 q0).bind fun v_8722 => ((aI h v_8722 x2).bind fun v_8724 => (if v_8724 = 0 then (fX12_areFixedWell_b35 N h q0 x2 (fX12_areFixedWell_l4 N h q0 kx n) kx) else ((cko h q0 12).bind fun _ => (fX12_isLaidWell N h q0 x2).bind fun v_8729 => (if v_8729 = 0 then (fX12_areFixedWell_b39 N h q0 x2 (fX12_areFixedWell_l4 N h q0 kx n) kx) else (fX12_areFixedWell_b35 N h q0 x2 (fX12_areFixedWell_l4 N h q0 kx n) kx))))))))))
set_option maxRecDepth 10000 in
set_option maxHeartbeats 4000000 in
theorem rX12_areFixedWell_l4 {d N : Nat} (hd : 4 ≤ d) {h : iv_H} {q0 : Nat} {kx : Int32 → Option (Int32)} {r : Int32} {Q : Option Value → iv_H → Prop} (hk : ∀ (x1 : Int32), kx x1 = some r → Rn d 304 (some .boolean) 47 [none, some (.int x1), none] [] h Q) (hq : Q (some (.int r)) h) : ∀ (n : Nat) (x1 : Int32) (x2 : Int32), fX12_areFixedWell_l4 N h q0 kx n x1 x2 = some r → Rn d 304 (some .boolean) 4 [some (.ref q0), some (.int x1), some (.int x2)] [] h Q := by
  have hT := hX12_areFixedWell
  intro n
  induction n with
  | zero =>
    intro x1 x2 e
    rw [fX12_areFixedWell_l4] at e
    cases e
  | succ n ih =>
    intro x1 x2 e
    rw [fX12_areFixedWell_l4] at e
    refine Rn.n hT 2 (pc' := 6) (L' := [some (.ref q0), some (.int x1), some (.int x2)]) (st' := [.ref q0, .int x2]) rfl ?_
    obtain ⟨v_8716, e_8717, e⟩ := Option.bind_eq_some_iff.mp e
    refine Rn.hp hT rfl rfl (gR_hp e_8717) ?_
    refine Rn.n hT 1 (pc' := 10) (L' := [some (.ref q0), some (.int x1), some (.int x2)]) (st' := [.int (2 : Int32), .ref v_8716, .int x2]) rfl ?_
    obtain ⟨v_8718, e_8719, e⟩ := Option.bind_eq_some_iff.mp e
    refine Rn.hp hT rfl rfl (aI_hp e_8719) ?_
    by_cases c_8720 : v_8718 ≤ x2
    · rw [if_pos c_8720] at e
      refine Rn.bt hT rfl rfl rfl (decide_eq_true c_8720) ?_
      exact Rn.weak (ll_n (ll_s (ll_n ll_e))) (hk x1 e)
    · rw [if_neg c_8720] at e
      refine Rn.bf hT rfl rfl rfl (decide_eq_false c_8720) ?_
      refine Rn.n hT 1 (pc' := 15) (L' := [some (.ref q0), some (.int x1), some (.int x2)]) (st' := [.int x1]) rfl ?_
      by_cases c_8721 : x1 = 0
      · rw [if_pos c_8721] at e
        refine Rn.bt hT rfl rfl rfl (decide_eq_true c_8721) ?_
        exact Rn.weak (ll_s (ll_n (ll_s ll_e))) (rX12_areFixedWell_b39 hd ih hk hq e)
      · rw [if_neg c_8721] at e
        refine Rn.bf hT rfl rfl rfl (decide_eq_false c_8721) ?_
        refine Rn.n hT 1 (pc' := 19) (L' := [some (.ref q0), some (.int x1), some (.int x2)]) (st' := [.ref q0]) rfl ?_
        obtain ⟨v_8722, e_8723, e⟩ := Option.bind_eq_some_iff.mp e
        refine Rn.hp hT rfl rfl (gR_hp e_8723) ?_
        refine Rn.n hT 1 (pc' := 23) (L' := [some (.ref q0), some (.int x1), some (.int x2)]) (st' := [.int x2, .ref v_8722]) rfl ?_
        obtain ⟨v_8724, e_8725, e⟩ := Option.bind_eq_some_iff.mp e
        refine Rn.hp hT rfl rfl (aI_hp e_8725) ?_
        by_cases c_8726 : v_8724 = 0
        · rw [if_pos c_8726] at e
          refine Rn.bt hT rfl rfl rfl (decide_eq_true c_8726) ?_
          exact Rn.weak (ll_s (ll_n (ll_s ll_e))) (rX12_areFixedWell_b35 hd ih hk hq e)
        · rw [if_neg c_8726] at e
          refine Rn.bf hT rfl rfl rfl (decide_eq_false c_8726) ?_
          refine Rn.n hT 2 (pc' := 29) (L' := [some (.ref q0), some (.int x1), some (.int x2)]) (st' := [.int x2, .ref q0]) rfl ?_
          obtain ⟨_, e_8728, e⟩ := Option.bind_eq_some_iff.mp e
          obtain ⟨v_8729, e_8727, e⟩ := Option.bind_eq_some_iff.mp e
          refine Rn.call hT rfl rfl rfl (Nat.le_of_ble_eq_true rfl) (rcv_v gX12_isLaidWell (by omega) e_8728) (rX12_isLaidWell (by omega) e_8727 ?_)
          show Rn d _ _ 32 [some (.ref q0), some (.int x1), some (.int x2)] [.int v_8729] h Q
          by_cases c_8730 : v_8729 = 0
          · rw [if_pos c_8730] at e
            refine Rn.bt hT rfl rfl rfl (decide_eq_true c_8730) ?_
            exact Rn.weak (ll_s (ll_n (ll_s ll_e))) (rX12_areFixedWell_b39 hd ih hk hq e)
          · rw [if_neg c_8730] at e
            refine Rn.bf hT rfl rfl rfl (decide_eq_false c_8730) ?_
            exact Rn.weak (ll_s (ll_n (ll_s ll_e))) (rX12_areFixedWell_b35 hd ih hk hq e)
def fX12_areFixedWell (N : Nat) (h : iv_H) (q0 : Nat) : Option (Int32) := (fX12_areFixedWell_l4 N h q0 (fun (z_8714 : Int32) => (if z_8714 = 0 ∨ z_8714 = 1 then some z_8714 else none)) N (1 : Int32) (0 : Int32))
set_option maxRecDepth 10000 in
set_option maxHeartbeats 4000000 in
theorem rX12_areFixedWell {d N : Nat} (hd : 5 ≤ d) {h : iv_H} {q0 : Nat} {r : Int32} {Q : Option Value → iv_H → Prop} (e : fX12_areFixedWell N h q0 = some r) (hq : Q (some (.int r)) h) : Cl d 304 [.ref q0] h Q := by
  obtain ⟨d, rfl⟩ : ∃ k, d = k + 1 := ⟨d - 1, by omega⟩
  have hd : 4 ≤ d := by omega
  have hT := hX12_areFixedWell
  unfold fX12_areFixedWell at e
  refine Cl.into (by decide) gX12_areFixedWell rfl ?_
  show Rn d 304 (some .boolean) 0 [some (.ref q0), none, none] [] h Q
  refine Rn.n hT 4 (pc' := 4) (L' := [some (.ref q0), some (.int (1 : Int32)), some (.int (0 : Int32))]) (st' := []) rfl ?_
  refine Rn.weak (ll_s (ll_s (ll_s ll_e))) (rX12_areFixedWell_l4 hd (fun z_8714 e => ?_) hq N (1 : Int32) (0 : Int32) e)
  try dsimp only at e
  refine Rn.n hT 1 (pc' := 48) (L' := [none, some (.int z_8714), none]) (st' := [.int z_8714]) rfl ?_
  by_cases c_8715 : z_8714 = 0 ∨ z_8714 = 1
  · rw [if_pos c_8715] at e
    obtain rfl := Option.some.inj e
    exact Rn.ret hT rfl rfl (if_pos c_8715) hq
  · rw [if_neg c_8715] at e
    cases e
set_option maxRecDepth 10000 in
theorem hX12_takesLoose : iv_Tb 305 tX12_takesLoose := iv_tb_of (m := mX12_takesLoose) rfl
set_option maxRecDepth 10000 in
theorem gX12_takesLoose : PG.2 305 = some mX12_takesLoose := iv_pi_of (t := tX12_takesLoose) rfl (by decide)
def fX12_takesLoose_b45 (N : Nat) (h : iv_H) (q0 : Nat) (x1 : Int32) (x2 : Int32)  (kb : iv_H → Int32 → Int32 → Option (Int32 × iv_H)) (kx : iv_H → Int32 → Option (Int32 × iv_H)) : Option (Int32 × iv_H) := (kb h x1 (x2 + (1 : Int32)))
set_option maxRecDepth 10000 in
set_option maxHeartbeats 4000000 in
theorem rX12_takesLoose_b45 {d N : Nat} (hd : 0 ≤ d) {h : iv_H} {q0 : Nat} {x1 : Int32} {x2 : Int32}  {kb : iv_H → Int32 → Int32 → Option (Int32 × iv_H)} {kx : iv_H → Int32 → Option (Int32 × iv_H)} {r : Int32 × iv_H} {Q : Option Value → iv_H → Prop} (hb : ∀ (h : iv_H) (w1 : Int32) (w2 : Int32), kb h w1 w2 = some r → Rn d 305 (some .int) 4 [some (.ref q0), some (.int w1), some (.int w2)] [] h Q) (hk : ∀ (h : iv_H) (w1 : Int32), kx h w1 = some r → Rn d 305 (some .int) 51 [none, some (.int w1), none] [] h Q) (hq : Q (some (.int r.1)) r.2) (e : fX12_takesLoose_b45 N h q0 x1 x2  kb kx = some r) : Rn d 305 (some .int) 45 [some (.ref q0), some (.int x1), some (.int x2)] [] h Q := by
  have hT := hX12_takesLoose
  unfold fX12_takesLoose_b45 at e
  refine Rn.n hT 2 (pc' := 4) (L' := [some (.ref q0), some (.int x1), some (.int (x2 + (1 : Int32)))]) (st' := []) rfl ?_
  exact Rn.weak (ll_s (ll_s (ll_s ll_e))) (hb h x1 (x2 + (1 : Int32)) e)
def fX12_takesLoose_l4 (N : Nat) (q0 : Nat) (kx : iv_H → Int32 → Option (Int32 × iv_H)) : Nat → iv_H → Int32 → Int32 → Option (Int32 × iv_H)
  | 0, _, _, _ => none
  | n + 1, h, x1, x2 => ((gR h 12 1 q0).bind fun v_8733 => ((aI h v_8733 (2 : Int32)).bind fun v_8735 => (if v_8735 ≤ x2 then (kx h x1) else ((gR h 12 5 q0).bind fun v_8738 => ((aI h v_8738 x2).bind fun v_8740 => (if v_8740 = 0 then ((gR h 12 61 q0).bind fun v_8743 => ((wI h v_8743 x1 x2).bind fun h_8745 => ((gR h_8745 12 8 q0).bind fun v_8747 => ((gR h_8745 12 3 q0).bind fun v_8749 => ((aI h_8745 v_8749 x2).bind fun v_8751 => ((wI h_8745 v_8747 v_8751 (-1 : Int32)).bind fun h_8753 => (fX12_takesLoose_b45 N h_8753 q0 (x1 + (1 : Int32)) x2 (fX12_takesLoose_l4 N q0 kx n) kx))))))) else (fX12_takesLoose_b45 N h q0 x1 x2 (fX12_takesLoose_l4 N q0 kx n) kx)))))))
set_option maxRecDepth 10000 in
set_option maxHeartbeats 4000000 in
theorem rX12_takesLoose_l4 {d N : Nat} (hd : 0 ≤ d) {q0 : Nat} {kx : iv_H → Int32 → Option (Int32 × iv_H)} {r : Int32 × iv_H} {Q : Option Value → iv_H → Prop} (hk : ∀ (h : iv_H) (x1 : Int32), kx h x1 = some r → Rn d 305 (some .int) 51 [none, some (.int x1), none] [] h Q) (hq : Q (some (.int r.1)) r.2) : ∀ (n : Nat) (h : iv_H) (x1 : Int32) (x2 : Int32), fX12_takesLoose_l4 N q0 kx n h x1 x2 = some r → Rn d 305 (some .int) 4 [some (.ref q0), some (.int x1), some (.int x2)] [] h Q := by
  have hT := hX12_takesLoose
  intro n
  induction n with
  | zero =>
    intro h x1 x2 e
    rw [fX12_takesLoose_l4] at e
    cases e
  | succ n ih =>
    intro h x1 x2 e
    rw [fX12_takesLoose_l4] at e
    refine Rn.n hT 2 (pc' := 6) (L' := [some (.ref q0), some (.int x1), some (.int x2)]) (st' := [.ref q0, .int x2]) rfl ?_
    obtain ⟨v_8733, e_8734, e⟩ := Option.bind_eq_some_iff.mp e
    refine Rn.hp hT rfl rfl (gR_hp e_8734) ?_
    refine Rn.n hT 1 (pc' := 10) (L' := [some (.ref q0), some (.int x1), some (.int x2)]) (st' := [.int (2 : Int32), .ref v_8733, .int x2]) rfl ?_
    obtain ⟨v_8735, e_8736, e⟩ := Option.bind_eq_some_iff.mp e
    refine Rn.hp hT rfl rfl (aI_hp e_8736) ?_
    by_cases c_8737 : v_8735 ≤ x2
    · rw [if_pos c_8737] at e
      refine Rn.bt hT rfl rfl rfl (decide_eq_true c_8737) ?_
      exact Rn.weak (ll_n (ll_s (ll_n ll_e))) (hk h x1 e)
    · rw [if_neg c_8737] at e
      refine Rn.bf hT rfl rfl rfl (decide_eq_false c_8737) ?_
      refine Rn.n hT 1 (pc' := 15) (L' := [some (.ref q0), some (.int x1), some (.int x2)]) (st' := [.ref q0]) rfl ?_
      obtain ⟨v_8738, e_8739, e⟩ := Option.bind_eq_some_iff.mp e
      refine Rn.hp hT rfl rfl (gR_hp e_8739) ?_
      refine Rn.n hT 1 (pc' := 19) (L' := [some (.ref q0), some (.int x1), some (.int x2)]) (st' := [.int x2, .ref v_8738]) rfl ?_
      obtain ⟨v_8740, e_8741, e⟩ := Option.bind_eq_some_iff.mp e
      refine Rn.hp hT rfl rfl (aI_hp e_8741) ?_
      by_cases c_8742 : v_8740 = 0
      · rw [if_pos c_8742] at e
        refine Rn.bf hT rfl rfl rfl (decide_eq_false (fun z => z c_8742)) ?_
        refine Rn.n hT 1 (pc' := 24) (L' := [some (.ref q0), some (.int x1), some (.int x2)]) (st' := [.ref q0]) rfl ?_
        obtain ⟨v_8743, e_8744, e⟩ := Option.bind_eq_some_iff.mp e
        refine Rn.hp hT rfl rfl (gR_hp e_8744) ?_
        refine Rn.n hT 2 (pc' := 29) (L' := [some (.ref q0), some (.int x1), some (.int x2)]) (st' := [.int x2, .int x1, .ref v_8743]) rfl ?_
        obtain ⟨h_8745, e_8746, e⟩ := Option.bind_eq_some_iff.mp e
        refine Rn.hp hT rfl rfl (wI_hp e_8746) ?_
        refine Rn.n hT 2 (pc' := 34) (L' := [some (.ref q0), some (.int (x1 + (1 : Int32))), some (.int x2)]) (st' := [.ref q0]) rfl ?_
        obtain ⟨v_8747, e_8748, e⟩ := Option.bind_eq_some_iff.mp e
        refine Rn.hp hT rfl rfl (gR_hp e_8748) ?_
        refine Rn.n hT 1 (pc' := 38) (L' := [some (.ref q0), some (.int (x1 + (1 : Int32))), some (.int x2)]) (st' := [.ref q0, .ref v_8747]) rfl ?_
        obtain ⟨v_8749, e_8750, e⟩ := Option.bind_eq_some_iff.mp e
        refine Rn.hp hT rfl rfl (gR_hp e_8750) ?_
        refine Rn.n hT 1 (pc' := 42) (L' := [some (.ref q0), some (.int (x1 + (1 : Int32))), some (.int x2)]) (st' := [.int x2, .ref v_8749, .ref v_8747]) rfl ?_
        obtain ⟨v_8751, e_8752, e⟩ := Option.bind_eq_some_iff.mp e
        refine Rn.hp hT rfl rfl (aI_hp e_8752) ?_
        refine Rn.n hT 1 (pc' := 44) (L' := [some (.ref q0), some (.int (x1 + (1 : Int32))), some (.int x2)]) (st' := [.int (-1 : Int32), .int v_8751, .ref v_8747]) rfl ?_
        obtain ⟨h_8753, e_8754, e⟩ := Option.bind_eq_some_iff.mp e
        refine Rn.hp hT rfl rfl (wI_hp e_8754) ?_
        exact Rn.weak (ll_s (ll_s (ll_s ll_e))) (rX12_takesLoose_b45 hd ih hk hq e)
      · rw [if_neg c_8742] at e
        refine Rn.bt hT rfl rfl rfl (decide_eq_true c_8742) ?_
        exact Rn.weak (ll_s (ll_s (ll_s ll_e))) (rX12_takesLoose_b45 hd ih hk hq e)
def fX12_takesLoose (N : Nat) (h : iv_H) (q0 : Nat) : Option (Int32 × iv_H) := (fX12_takesLoose_l4 N q0 (fun (h_8731 : iv_H) (z_8732 : Int32) => (some (z_8732, h_8731))) N h (0 : Int32) (0 : Int32))
set_option maxRecDepth 10000 in
set_option maxHeartbeats 4000000 in
theorem rX12_takesLoose {d N : Nat} (hd : 1 ≤ d) {h : iv_H} {q0 : Nat} {r : Int32 × iv_H} {Q : Option Value → iv_H → Prop} (e : fX12_takesLoose N h q0 = some r) (hq : Q (some (.int r.1)) r.2) : Cl d 305 [.ref q0] h Q := by
  obtain ⟨d, rfl⟩ : ∃ k, d = k + 1 := ⟨d - 1, by omega⟩
  have hd : 0 ≤ d := by omega
  have hT := hX12_takesLoose
  unfold fX12_takesLoose at e
  refine Cl.into (by decide) gX12_takesLoose rfl ?_
  show Rn d 305 (some .int) 0 [some (.ref q0), none, none] [] h Q
  refine Rn.n hT 4 (pc' := 4) (L' := [some (.ref q0), some (.int (0 : Int32)), some (.int (0 : Int32))]) (st' := []) rfl ?_
  refine Rn.weak (ll_s (ll_s (ll_s ll_e))) (rX12_takesLoose_l4 hd (fun h_8731 z_8732 e => ?_) hq N h (0 : Int32) (0 : Int32) e)
  try dsimp only at e
  refine Rn.n hT 1 (pc' := 52) (L' := [none, some (.int z_8732), none]) (st' := [.int z_8732]) rfl ?_
  obtain rfl := Option.some.inj e
  exact Rn.ret hT rfl rfl rfl hq
set_option maxRecDepth 10000 in
theorem hX12_floors : iv_Tb 306 tX12_floors := iv_tb_of (m := mX12_floors) rfl
set_option maxRecDepth 10000 in
theorem gX12_floors : PG.2 306 = some mX12_floors := iv_pi_of (t := tX12_floors) rfl (by decide)
def fX12_floors_b351 (N : Nat) (h : iv_H) (q0 : Nat) (x1 : Int32) (x2 : Int32) (x3 : Int32) (x4 : Int32) (x5 : Int32) (x6 : Int32)  (kb : iv_H → Int32 → Int32 → Int32 → Option (Int32 × iv_H)) (kx : iv_H → Int32 → Int32 → Option (Int32 × iv_H)) : Option (Int32 × iv_H) := (kb h x4 x5 x6)
set_option maxRecDepth 10000 in
set_option maxHeartbeats 4000000 in
theorem rX12_floors_b351 {d N : Nat} (hd : 6 ≤ d) {h : iv_H} {q0 : Nat} {x1 : Int32} {x2 : Int32} {x3 : Int32} {x4 : Int32} {x5 : Int32} {x6 : Int32}  {kb : iv_H → Int32 → Int32 → Int32 → Option (Int32 × iv_H)} {kx : iv_H → Int32 → Int32 → Option (Int32 × iv_H)} {r : Int32 × iv_H} {Q : Option Value → iv_H → Prop} (hb : ∀ (h : iv_H) (w4 : Int32) (w5 : Int32) (w6 : Int32), kb h w4 w5 w6 = some r → Rn d 306 (some .int) 93 [some (.ref q0), some (.int x1), some (.int x2), some (.int x3), some (.int w4), some (.int w5), some (.int w6), none, none, none, none] [] h Q) (hk : ∀ (h : iv_H) (w4 : Int32) (w5 : Int32), kx h w4 w5 = some r → Rn d 306 (some .int) 354 [some (.ref q0), none, none, none, some (.int w4), some (.int w5), none, none, none, none, none] [] h Q) (hq : Q (some (.int r.1)) r.2) (e : fX12_floors_b351 N h q0 x1 x2 x3 x4 x5 x6  kb kx = some r) : Rn d 306 (some .int) 351 [some (.ref q0), some (.int x1), some (.int x2), some (.int x3), some (.int x4), some (.int x5), some (.int x6), none, none, none, none] [] h Q := by
  have hT := hX12_floors
  unfold fX12_floors_b351 at e
  refine Rn.n hT 1 (pc' := 93) (L' := [some (.ref q0), some (.int x1), some (.int x2), some (.int x3), some (.int x4), some (.int x5), some (.int x6), none, none, none, none]) (st' := []) rfl ?_
  exact Rn.weak (ll_s (ll_s (ll_s (ll_s (ll_s (ll_s (ll_s (ll_n (ll_n (ll_n (ll_n ll_e))))))))))) (hb h x4 x5 x6 e)
def fX12_floors_b329 (N : Nat) (h : iv_H) (q0 : Nat) (x1 : Int32) (x2 : Int32) (x3 : Int32) (x5 : Int32) (x6 : Int32) (s0 : Int32) (s1 : Int32) (kb : iv_H → Int32 → Int32 → Int32 → Option (Int32 × iv_H)) (kx : iv_H → Int32 → Int32 → Option (Int32 × iv_H)) : Option (Int32 × iv_H) := (fX12_floors_b351 N h q0 x1 x2 x3 (s1 + s0) x5 x6 kb kx)
set_option maxRecDepth 10000 in
set_option maxHeartbeats 4000000 in
theorem rX12_floors_b329 {d N : Nat} (hd : 6 ≤ d) {h : iv_H} {q0 : Nat} {x1 : Int32} {x2 : Int32} {x3 : Int32} {x5 : Int32} {x6 : Int32} {s0 : Int32} {s1 : Int32} {kb : iv_H → Int32 → Int32 → Int32 → Option (Int32 × iv_H)} {kx : iv_H → Int32 → Int32 → Option (Int32 × iv_H)} {r : Int32 × iv_H} {Q : Option Value → iv_H → Prop} (hb : ∀ (h : iv_H) (w4 : Int32) (w5 : Int32) (w6 : Int32), kb h w4 w5 w6 = some r → Rn d 306 (some .int) 93 [some (.ref q0), some (.int x1), some (.int x2), some (.int x3), some (.int w4), some (.int w5), some (.int w6), none, none, none, none] [] h Q) (hk : ∀ (h : iv_H) (w4 : Int32) (w5 : Int32), kx h w4 w5 = some r → Rn d 306 (some .int) 354 [some (.ref q0), none, none, none, some (.int w4), some (.int w5), none, none, none, none, none] [] h Q) (hq : Q (some (.int r.1)) r.2) (e : fX12_floors_b329 N h q0 x1 x2 x3 x5 x6 s0 s1 kb kx = some r) : Rn d 306 (some .int) 329 [some (.ref q0), some (.int x1), some (.int x2), some (.int x3), none, some (.int x5), some (.int x6), none, none, none, none] [.int s0, .int s1] h Q := by
  have hT := hX12_floors
  unfold fX12_floors_b329 at e
  refine Rn.n hT 3 (pc' := 351) (L' := [some (.ref q0), some (.int x1), some (.int x2), some (.int x3), some (.int (s1 + s0)), some (.int x5), some (.int x6), none, none, none, none]) (st' := []) rfl ?_
  exact Rn.weak (ll_s (ll_s (ll_s (ll_s (ll_s (ll_s (ll_s (ll_n (ll_n (ll_n (ll_n ll_e))))))))))) (rX12_floors_b351 hd hb hk hq e)
def fX12_floors_b335 (N : Nat) (h : iv_H) (q0 : Nat) (x1 : Int32) (x2 : Int32) (x3 : Int32) (x4 : Int32) (x5 : Int32) (x6 : Int32) (x10 : Int32)  (kb : iv_H → Int32 → Int32 → Int32 → Option (Int32 × iv_H)) (kx : iv_H → Int32 → Int32 → Option (Int32 × iv_H)) : Option (Int32 × iv_H) := (if x10 = 0 then (fX12_floors_b351 N h q0 x1 x2 x3 x4 x5 x6 kb kx) else ((gR h 12 62 q0).bind fun v_8889 => ((wI h v_8889 (x6 + (1 : Int32)) (0 : Int32)).bind fun h_8891 => (fX12_floors_b351 N h_8891 q0 x1 x2 x3 x4 x5 (x6 + (1 : Int32)) kb kx))))
set_option maxRecDepth 10000 in
set_option maxHeartbeats 4000000 in
theorem rX12_floors_b335 {d N : Nat} (hd : 6 ≤ d) {h : iv_H} {q0 : Nat} {x1 : Int32} {x2 : Int32} {x3 : Int32} {x4 : Int32} {x5 : Int32} {x6 : Int32} {x10 : Int32}  {kb : iv_H → Int32 → Int32 → Int32 → Option (Int32 × iv_H)} {kx : iv_H → Int32 → Int32 → Option (Int32 × iv_H)} {r : Int32 × iv_H} {Q : Option Value → iv_H → Prop} (hb : ∀ (h : iv_H) (w4 : Int32) (w5 : Int32) (w6 : Int32), kb h w4 w5 w6 = some r → Rn d 306 (some .int) 93 [some (.ref q0), some (.int x1), some (.int x2), some (.int x3), some (.int w4), some (.int w5), some (.int w6), none, none, none, none] [] h Q) (hk : ∀ (h : iv_H) (w4 : Int32) (w5 : Int32), kx h w4 w5 = some r → Rn d 306 (some .int) 354 [some (.ref q0), none, none, none, some (.int w4), some (.int w5), none, none, none, none, none] [] h Q) (hq : Q (some (.int r.1)) r.2) (e : fX12_floors_b335 N h q0 x1 x2 x3 x4 x5 x6 x10  kb kx = some r) : Rn d 306 (some .int) 335 [some (.ref q0), some (.int x1), some (.int x2), some (.int x3), some (.int x4), some (.int x5), some (.int x6), none, none, none, some (.int x10)] [] h Q := by
  have hT := hX12_floors
  unfold fX12_floors_b335 at e
  refine Rn.n hT 1 (pc' := 337) (L' := [some (.ref q0), some (.int x1), some (.int x2), some (.int x3), some (.int x4), some (.int x5), some (.int x6), none, none, none, some (.int x10)]) (st' := [.int x10]) rfl ?_
  by_cases c_8888 : x10 = 0
  · rw [if_pos c_8888] at e
    refine Rn.bt hT rfl rfl rfl (decide_eq_true c_8888) ?_
    exact Rn.weak (ll_s (ll_s (ll_s (ll_s (ll_s (ll_s (ll_s (ll_n (ll_n (ll_n (ll_n ll_e))))))))))) (rX12_floors_b351 hd hb hk hq e)
  · rw [if_neg c_8888] at e
    refine Rn.bf hT rfl rfl rfl (decide_eq_false c_8888) ?_
    refine Rn.n hT 2 (pc' := 344) (L' := [some (.ref q0), some (.int x1), some (.int x2), some (.int x3), some (.int x4), some (.int x5), some (.int (x6 + (1 : Int32))), none, none, none, some (.int x10)]) (st' := [.ref q0]) rfl ?_
    obtain ⟨v_8889, e_8890, e⟩ := Option.bind_eq_some_iff.mp e
    refine Rn.hp hT rfl rfl (gR_hp e_8890) ?_
    refine Rn.n hT 2 (pc' := 350) (L' := [some (.ref q0), some (.int x1), some (.int x2), some (.int x3), some (.int x4), some (.int x5), some (.int (x6 + (1 : Int32))), none, none, none, some (.int x10)]) (st' := [.int (0 : Int32), .int (x6 + (1 : Int32)), .ref v_8889]) rfl ?_
    obtain ⟨h_8891, e_8892, e⟩ := Option.bind_eq_some_iff.mp e
    refine Rn.hp hT rfl rfl (wI_hp e_8892) ?_
    exact Rn.weak (ll_s (ll_s (ll_s (ll_s (ll_s (ll_s (ll_s (ll_n (ll_n (ll_n (ll_n ll_e))))))))))) (rX12_floors_b351 hd hb hk hq e)
def fX12_floors_b300 (N : Nat) (h : iv_H) (q0 : Nat) (x1 : Int32) (x2 : Int32) (x3 : Int32) (x4 : Int32) (x5 : Int32) (x6 : Int32) (s0 : Int32) (kb : iv_H → Int32 → Int32 → Int32 → Option (Int32 × iv_H)) (kx : iv_H → Int32 → Int32 → Option (Int32 × iv_H)) : Option (Int32 × iv_H) := (if s0 = 0 then (fX12_floors_b335 N h q0 x1 x2 x3 x4 x5 x6 s0 kb kx) else (if x6 = (x1 - (1 : Int32)) then ((cko h q0 12).bind fun _ => (fX12_mismatches N h q0).bind fun p_8887 => (fun (v_8884 : Int32) (h_8885 : iv_H) => (if v_8884 = 0 then (fX12_floors_b329 N h_8885 q0 x1 x2 x3 x5 x6 (1 : Int32) x4 kb kx) else (fX12_floors_b329 N h_8885 q0 x1 x2 x3 x5 x6 (0 : Int32) x4 kb kx))) p_8887.1 p_8887.2) else (fX12_floors_b335 N h q0 x1 x2 x3 x4 x5 x6 s0 kb kx)))
set_option maxRecDepth 10000 in
set_option maxHeartbeats 4000000 in
theorem rX12_floors_b300 {d N : Nat} (hd : 6 ≤ d) {h : iv_H} {q0 : Nat} {x1 : Int32} {x2 : Int32} {x3 : Int32} {x4 : Int32} {x5 : Int32} {x6 : Int32} {s0 : Int32} {kb : iv_H → Int32 → Int32 → Int32 → Option (Int32 × iv_H)} {kx : iv_H → Int32 → Int32 → Option (Int32 × iv_H)} {r : Int32 × iv_H} {Q : Option Value → iv_H → Prop} (hb : ∀ (h : iv_H) (w4 : Int32) (w5 : Int32) (w6 : Int32), kb h w4 w5 w6 = some r → Rn d 306 (some .int) 93 [some (.ref q0), some (.int x1), some (.int x2), some (.int x3), some (.int w4), some (.int w5), some (.int w6), none, none, none, none] [] h Q) (hk : ∀ (h : iv_H) (w4 : Int32) (w5 : Int32), kx h w4 w5 = some r → Rn d 306 (some .int) 354 [some (.ref q0), none, none, none, some (.int w4), some (.int w5), none, none, none, none, none] [] h Q) (hq : Q (some (.int r.1)) r.2) (e : fX12_floors_b300 N h q0 x1 x2 x3 x4 x5 x6 s0 kb kx = some r) : Rn d 306 (some .int) 300 [some (.ref q0), some (.int x1), some (.int x2), some (.int x3), some (.int x4), some (.int x5), some (.int x6), none, none, none, none] [.int s0] h Q := by
  have hT := hX12_floors
  unfold fX12_floors_b300 at e
  refine Rn.n hT 2 (pc' := 304) (L' := [some (.ref q0), some (.int x1), some (.int x2), some (.int x3), some (.int x4), some (.int x5), some (.int x6), none, none, none, some (.int s0)]) (st' := [.int s0]) rfl ?_
  by_cases c_8880 : s0 = 0
  · rw [if_pos c_8880] at e
    refine Rn.bt hT rfl rfl rfl (decide_eq_true c_8880) ?_
    exact Rn.weak (ll_s (ll_s (ll_s (ll_s (ll_s (ll_s (ll_s (ll_n (ll_n (ll_n (ll_s ll_e))))))))))) (rX12_floors_b335 hd hb hk hq e)
  · rw [if_neg c_8880] at e
    refine Rn.bf hT rfl rfl rfl (decide_eq_false c_8880) ?_
    refine Rn.n hT 4 (pc' := 312) (L' := [some (.ref q0), some (.int x1), some (.int x2), some (.int x3), some (.int x4), some (.int x5), some (.int x6), none, none, none, some (.int s0)]) (st' := [.int (x1 - (1 : Int32)), .int x6]) rfl ?_
    by_cases c_8881 : x6 = (x1 - (1 : Int32))
    · rw [if_pos c_8881] at e
      refine Rn.bf hT rfl rfl rfl (decide_eq_false (fun z => z c_8881)) ?_
      refine Rn.n hT 2 (pc' := 318) (L' := [some (.ref q0), some (.int x1), some (.int x2), some (.int x3), some (.int x4), some (.int x5), some (.int x6), none, none, none, some (.int s0)]) (st' := [.ref q0, .int x4]) rfl ?_
      obtain ⟨_, e_8883, e⟩ := Option.bind_eq_some_iff.mp e
      obtain ⟨⟨v_8884, h_8885⟩, e_8882, e⟩ := Option.bind_eq_some_iff.mp e
      try dsimp only at e
      try dsimp only at e
      refine Rn.call hT rfl rfl rfl (Nat.le_of_ble_eq_true rfl) (rcv_v gX12_mismatches (by omega) e_8883) (rX12_mismatches (by omega) e_8882 ?_)
      show Rn d _ _ 321 [some (.ref q0), some (.int x1), some (.int x2), some (.int x3), some (.int x4), some (.int x5), some (.int x6), none, none, none, some (.int s0)] [.int v_8884, .int x4] h_8885 Q
      by_cases c_8886 : v_8884 = 0
      · rw [if_pos c_8886] at e
        refine Rn.bf hT rfl rfl rfl (decide_eq_false (fun z => z c_8886)) ?_
        refine Rn.n hT 2 (pc' := 329) (L' := [some (.ref q0), some (.int x1), some (.int x2), some (.int x3), some (.int x4), some (.int x5), some (.int x6), none, none, none, some (.int s0)]) (st' := [.int (1 : Int32), .int x4]) rfl ?_
        exact Rn.weak (ll_s (ll_s (ll_s (ll_s (ll_n (ll_s (ll_s (ll_n (ll_n (ll_n (ll_n ll_e))))))))))) (rX12_floors_b329 hd hb hk hq e)
      · rw [if_neg c_8886] at e
        refine Rn.bt hT rfl rfl rfl (decide_eq_true c_8886) ?_
        refine Rn.n hT 1 (pc' := 329) (L' := [some (.ref q0), some (.int x1), some (.int x2), some (.int x3), some (.int x4), some (.int x5), some (.int x6), none, none, none, some (.int s0)]) (st' := [.int (0 : Int32), .int x4]) rfl ?_
        exact Rn.weak (ll_s (ll_s (ll_s (ll_s (ll_n (ll_s (ll_s (ll_n (ll_n (ll_n (ll_n ll_e))))))))))) (rX12_floors_b329 hd hb hk hq e)
    · rw [if_neg c_8881] at e
      refine Rn.bt hT rfl rfl rfl (decide_eq_true c_8881) ?_
      exact Rn.weak (ll_s (ll_s (ll_s (ll_s (ll_s (ll_s (ll_s (ll_n (ll_n (ll_n (ll_s ll_e))))))))))) (rX12_floors_b335 hd hb hk hq e)
def fX12_floors_b299 (N : Nat) (h : iv_H) (q0 : Nat) (x1 : Int32) (x2 : Int32) (x3 : Int32) (x4 : Int32) (x5 : Int32) (x6 : Int32)  (kb : iv_H → Int32 → Int32 → Int32 → Option (Int32 × iv_H)) (kx : iv_H → Int32 → Int32 → Option (Int32 × iv_H)) : Option (Int32 × iv_H) := (fX12_floors_b300 N h q0 x1 x2 x3 x4 x5 x6 (0 : Int32) kb kx)
set_option maxRecDepth 10000 in
set_option maxHeartbeats 4000000 in
theorem rX12_floors_b299 {d N : Nat} (hd : 6 ≤ d) {h : iv_H} {q0 : Nat} {x1 : Int32} {x2 : Int32} {x3 : Int32} {x4 : Int32} {x5 : Int32} {x6 : Int32}  {kb : iv_H → Int32 → Int32 → Int32 → Option (Int32 × iv_H)} {kx : iv_H → Int32 → Int32 → Option (Int32 × iv_H)} {r : Int32 × iv_H} {Q : Option Value → iv_H → Prop} (hb : ∀ (h : iv_H) (w4 : Int32) (w5 : Int32) (w6 : Int32), kb h w4 w5 w6 = some r → Rn d 306 (some .int) 93 [some (.ref q0), some (.int x1), some (.int x2), some (.int x3), some (.int w4), some (.int w5), some (.int w6), none, none, none, none] [] h Q) (hk : ∀ (h : iv_H) (w4 : Int32) (w5 : Int32), kx h w4 w5 = some r → Rn d 306 (some .int) 354 [some (.ref q0), none, none, none, some (.int w4), some (.int w5), none, none, none, none, none] [] h Q) (hq : Q (some (.int r.1)) r.2) (e : fX12_floors_b299 N h q0 x1 x2 x3 x4 x5 x6  kb kx = some r) : Rn d 306 (some .int) 299 [some (.ref q0), some (.int x1), some (.int x2), some (.int x3), some (.int x4), some (.int x5), some (.int x6), none, none, none, none] [] h Q := by
  have hT := hX12_floors
  unfold fX12_floors_b299 at e
  refine Rn.n hT 1 (pc' := 300) (L' := [some (.ref q0), some (.int x1), some (.int x2), some (.int x3), some (.int x4), some (.int x5), some (.int x6), none, none, none, none]) (st' := [.int (0 : Int32)]) rfl ?_
  exact Rn.weak (ll_s (ll_s (ll_s (ll_s (ll_s (ll_s (ll_s (ll_n (ll_n (ll_n (ll_n ll_e))))))))))) (rX12_floors_b300 hd hb hk hq e)
def fX12_floors_b272 (N : Nat) (h : iv_H) (q0 : Nat) (x1 : Int32) (x2 : Int32) (x3 : Int32) (x4 : Int32) (x5 : Int32) (x6 : Int32) (x7 : Int32) (x9 : Int32) (s0 : Int32) (s1 : Int32) (sq2 : Nat) (kb : iv_H → Int32 → Int32 → Int32 → Option (Int32 × iv_H)) (kx : iv_H → Int32 → Int32 → Option (Int32 × iv_H)) : Option (Int32 × iv_H) := ((wI h sq2 s1 s0).bind fun h_8869 => ((gR h_8869 12 8 q0).bind fun v_8871 => ((wI h_8869 v_8871 x9 x7).bind fun h_8873 => (if x2 = 0 then (fX12_floors_b299 N h_8873 q0 x1 x2 x3 x4 x5 x6 kb kx) else ((cko h_8873 q0 12).bind fun _ => (fX12_isLaidWell N h_8873 q0 x7).bind fun v_8878 => (if v_8878 = 0 then (fX12_floors_b299 N h_8873 q0 x1 x2 x3 x4 x5 x6 kb kx) else (fX12_floors_b300 N h_8873 q0 x1 x2 x3 x4 x5 x6 (1 : Int32) kb kx)))))))
set_option maxRecDepth 10000 in
set_option maxHeartbeats 4000000 in
theorem rX12_floors_b272 {d N : Nat} (hd : 6 ≤ d) {h : iv_H} {q0 : Nat} {x1 : Int32} {x2 : Int32} {x3 : Int32} {x4 : Int32} {x5 : Int32} {x6 : Int32} {x7 : Int32} {x9 : Int32} {s0 : Int32} {s1 : Int32} {sq2 : Nat} {kb : iv_H → Int32 → Int32 → Int32 → Option (Int32 × iv_H)} {kx : iv_H → Int32 → Int32 → Option (Int32 × iv_H)} {r : Int32 × iv_H} {Q : Option Value → iv_H → Prop} (hb : ∀ (h : iv_H) (w4 : Int32) (w5 : Int32) (w6 : Int32), kb h w4 w5 w6 = some r → Rn d 306 (some .int) 93 [some (.ref q0), some (.int x1), some (.int x2), some (.int x3), some (.int w4), some (.int w5), some (.int w6), none, none, none, none] [] h Q) (hk : ∀ (h : iv_H) (w4 : Int32) (w5 : Int32), kx h w4 w5 = some r → Rn d 306 (some .int) 354 [some (.ref q0), none, none, none, some (.int w4), some (.int w5), none, none, none, none, none] [] h Q) (hq : Q (some (.int r.1)) r.2) (e : fX12_floors_b272 N h q0 x1 x2 x3 x4 x5 x6 x7 x9 s0 s1 sq2 kb kx = some r) : Rn d 306 (some .int) 272 [some (.ref q0), some (.int x1), some (.int x2), some (.int x3), some (.int x4), some (.int x5), some (.int x6), some (.int x7), none, some (.int x9), none] [.int s0, .int s1, .ref sq2] h Q := by
  have hT := hX12_floors
  unfold fX12_floors_b272 at e
  obtain ⟨h_8869, e_8870, e⟩ := Option.bind_eq_some_iff.mp e
  refine Rn.hp hT rfl rfl (wI_hp e_8870) ?_
  refine Rn.n hT 1 (pc' := 274) (L' := [some (.ref q0), some (.int x1), some (.int x2), some (.int x3), some (.int x4), some (.int x5), some (.int x6), some (.int x7), none, some (.int x9), none]) (st' := [.ref q0]) rfl ?_
  obtain ⟨v_8871, e_8872, e⟩ := Option.bind_eq_some_iff.mp e
  refine Rn.hp hT rfl rfl (gR_hp e_8872) ?_
  refine Rn.n hT 2 (pc' := 281) (L' := [some (.ref q0), some (.int x1), some (.int x2), some (.int x3), some (.int x4), some (.int x5), some (.int x6), some (.int x7), none, some (.int x9), none]) (st' := [.int x7, .int x9, .ref v_8871]) rfl ?_
  obtain ⟨h_8873, e_8874, e⟩ := Option.bind_eq_some_iff.mp e
  refine Rn.hp hT rfl rfl (wI_hp e_8874) ?_
  refine Rn.n hT 1 (pc' := 283) (L' := [some (.ref q0), some (.int x1), some (.int x2), some (.int x3), some (.int x4), some (.int x5), some (.int x6), some (.int x7), none, some (.int x9), none]) (st' := [.int x2]) rfl ?_
  by_cases c_8875 : x2 = 0
  · rw [if_pos c_8875] at e
    refine Rn.bt hT rfl rfl rfl (decide_eq_true c_8875) ?_
    exact Rn.weak (ll_s (ll_s (ll_s (ll_s (ll_s (ll_s (ll_s (ll_n (ll_n (ll_n (ll_n ll_e))))))))))) (rX12_floors_b299 hd hb hk hq e)
  · rw [if_neg c_8875] at e
    refine Rn.bf hT rfl rfl rfl (decide_eq_false c_8875) ?_
    refine Rn.n hT 2 (pc' := 289) (L' := [some (.ref q0), some (.int x1), some (.int x2), some (.int x3), some (.int x4), some (.int x5), some (.int x6), some (.int x7), none, some (.int x9), none]) (st' := [.int x7, .ref q0]) rfl ?_
    obtain ⟨_, e_8877, e⟩ := Option.bind_eq_some_iff.mp e
    obtain ⟨v_8878, e_8876, e⟩ := Option.bind_eq_some_iff.mp e
    refine Rn.call hT rfl rfl rfl (Nat.le_of_ble_eq_true rfl) (rcv_v gX12_isLaidWell (by omega) e_8877) (rX12_isLaidWell (by omega) e_8876 ?_)
    show Rn d _ _ 292 [some (.ref q0), some (.int x1), some (.int x2), some (.int x3), some (.int x4), some (.int x5), some (.int x6), some (.int x7), none, some (.int x9), none] [.int v_8878] h_8873 Q
    by_cases c_8879 : v_8878 = 0
    · rw [if_pos c_8879] at e
      refine Rn.bt hT rfl rfl rfl (decide_eq_true c_8879) ?_
      exact Rn.weak (ll_s (ll_s (ll_s (ll_s (ll_s (ll_s (ll_s (ll_n (ll_n (ll_n (ll_n ll_e))))))))))) (rX12_floors_b299 hd hb hk hq e)
    · rw [if_neg c_8879] at e
      refine Rn.bf hT rfl rfl rfl (decide_eq_false c_8879) ?_
      refine Rn.n hT 2 (pc' := 300) (L' := [some (.ref q0), some (.int x1), some (.int x2), some (.int x3), some (.int x4), some (.int x5), some (.int x6), some (.int x7), none, some (.int x9), none]) (st' := [.int (1 : Int32)]) rfl ?_
      exact Rn.weak (ll_s (ll_s (ll_s (ll_s (ll_s (ll_s (ll_s (ll_n (ll_n (ll_n (ll_n ll_e))))))))))) (rX12_floors_b300 hd hb hk hq e)
def fX12_floors_b174 (N : Nat) (h : iv_H) (q0 : Nat) (x1 : Int32) (x2 : Int32) (x3 : Int32) (x4 : Int32) (x5 : Int32) (x6 : Int32) (x7 : Int32)  (kb : iv_H → Int32 → Int32 → Int32 → Option (Int32 × iv_H)) (kx : iv_H → Int32 → Int32 → Option (Int32 × iv_H)) : Option (Int32 × iv_H) := ((gR h 12 62 q0).bind fun v_8836 => ((aI h v_8836 x6).bind fun v_8838 => (if v_8838 = ((16 : Int32) * x3) then (fX12_floors_b351 N h q0 x1 x2 x3 x4 x5 (x6 + (-1 : Int32)) kb kx) else ((gR h 12 62 q0).bind fun v_8841 => ((aI h v_8841 x6).bind fun v_8843 => ((wI h v_8841 x6 (v_8843 + (1 : Int32))).bind fun h_8845 => (if x3 = 0 then none else ((gR h_8845 12 3 q0).bind fun v_8848 => ((wI h_8845 v_8848 x7 (v_8838 / x3)).bind fun h_8850 => ((cko h_8850 q0 12).bind fun _ => (fX12_isFloor N h_8850 q0 (v_8838 / x3)).bind fun v_8854 => (if v_8854 = 0 then (fX12_floors_b351 N h_8850 q0 x1 x2 x3 x4 x5 x6 kb kx) else ((gR h_8850 12 8 q0).bind fun v_8856 => ((aI h_8850 v_8856 (v_8838 / x3)).bind fun v_8858 => (if v_8858 = (-1 : Int32) then ((gR h_8850 12 4 q0).bind fun v_8861 => (if x3 = (1 : Int32) then ((gR h_8850 12 63 q0).bind fun v_8865 => ((aI h_8850 v_8865 x7).bind fun v_8867 => (fX12_floors_b272 N h_8850 q0 x1 x2 x3 x4 (x5 + (1 : Int32)) x6 x7 (v_8838 / x3) v_8867 x7 v_8861 kb kx))) else (if x3 = 0 then none else (fX12_floors_b272 N h_8850 q0 x1 x2 x3 x4 (x5 + (1 : Int32)) x6 x7 (v_8838 / x3) (v_8838 - v_8838 / x3 * x3) x7 v_8861 kb kx)))) else (fX12_floors_b351 N h_8850 q0 x1 x2 x3 x4 x5 x6 kb kx)))))))))))))))
set_option maxRecDepth 10000 in
set_option maxHeartbeats 4000000 in
theorem rX12_floors_b174 {d N : Nat} (hd : 6 ≤ d) {h : iv_H} {q0 : Nat} {x1 : Int32} {x2 : Int32} {x3 : Int32} {x4 : Int32} {x5 : Int32} {x6 : Int32} {x7 : Int32}  {kb : iv_H → Int32 → Int32 → Int32 → Option (Int32 × iv_H)} {kx : iv_H → Int32 → Int32 → Option (Int32 × iv_H)} {r : Int32 × iv_H} {Q : Option Value → iv_H → Prop} (hb : ∀ (h : iv_H) (w4 : Int32) (w5 : Int32) (w6 : Int32), kb h w4 w5 w6 = some r → Rn d 306 (some .int) 93 [some (.ref q0), some (.int x1), some (.int x2), some (.int x3), some (.int w4), some (.int w5), some (.int w6), none, none, none, none] [] h Q) (hk : ∀ (h : iv_H) (w4 : Int32) (w5 : Int32), kx h w4 w5 = some r → Rn d 306 (some .int) 354 [some (.ref q0), none, none, none, some (.int w4), some (.int w5), none, none, none, none, none] [] h Q) (hq : Q (some (.int r.1)) r.2) (e : fX12_floors_b174 N h q0 x1 x2 x3 x4 x5 x6 x7  kb kx = some r) : Rn d 306 (some .int) 174 [some (.ref q0), some (.int x1), some (.int x2), some (.int x3), some (.int x4), some (.int x5), some (.int x6), some (.int x7), none, none, none] [] h Q := by
  have hT := hX12_floors
  unfold fX12_floors_b174 at e
  refine Rn.n hT 1 (pc' := 175) (L' := [some (.ref q0), some (.int x1), some (.int x2), some (.int x3), some (.int x4), some (.int x5), some (.int x6), some (.int x7), none, none, none]) (st' := [.ref q0]) rfl ?_
  obtain ⟨v_8836, e_8837, e⟩ := Option.bind_eq_some_iff.mp e
  refine Rn.hp hT rfl rfl (gR_hp e_8837) ?_
  refine Rn.n hT 1 (pc' := 180) (L' := [some (.ref q0), some (.int x1), some (.int x2), some (.int x3), some (.int x4), some (.int x5), some (.int x6), some (.int x7), none, none, none]) (st' := [.int x6, .ref v_8836]) rfl ?_
  obtain ⟨v_8838, e_8839, e⟩ := Option.bind_eq_some_iff.mp e
  refine Rn.hp hT rfl rfl (aI_hp e_8839) ?_
  refine Rn.n hT 5 (pc' := 189) (L' := [some (.ref q0), some (.int x1), some (.int x2), some (.int x3), some (.int x4), some (.int x5), some (.int x6), some (.int x7), some (.int v_8838), none, none]) (st' := [.int ((16 : Int32) * x3), .int v_8838]) rfl ?_
  by_cases c_8840 : v_8838 = ((16 : Int32) * x3)
  · rw [if_pos c_8840] at e
    refine Rn.bf hT rfl rfl rfl (decide_eq_false (fun z => z c_8840)) ?_
    refine Rn.n hT 2 (pc' := 351) (L' := [some (.ref q0), some (.int x1), some (.int x2), some (.int x3), some (.int x4), some (.int x5), some (.int (x6 + (-1 : Int32))), some (.int x7), some (.int v_8838), none, none]) (st' := []) rfl ?_
    exact Rn.weak (ll_s (ll_s (ll_s (ll_s (ll_s (ll_s (ll_s (ll_n (ll_n (ll_n (ll_n ll_e))))))))))) (rX12_floors_b351 hd hb hk hq e)
  · rw [if_neg c_8840] at e
    refine Rn.bt hT rfl rfl rfl (decide_eq_true c_8840) ?_
    refine Rn.n hT 1 (pc' := 199) (L' := [some (.ref q0), some (.int x1), some (.int x2), some (.int x3), some (.int x4), some (.int x5), some (.int x6), some (.int x7), some (.int v_8838), none, none]) (st' := [.ref q0]) rfl ?_
    obtain ⟨v_8841, e_8842, e⟩ := Option.bind_eq_some_iff.mp e
    refine Rn.hp hT rfl rfl (gR_hp e_8842) ?_
    refine Rn.n hT 2 (pc' := 205) (L' := [some (.ref q0), some (.int x1), some (.int x2), some (.int x3), some (.int x4), some (.int x5), some (.int x6), some (.int x7), some (.int v_8838), none, none]) (st' := [.int x6, .ref v_8841, .int x6, .ref v_8841]) rfl ?_
    obtain ⟨v_8843, e_8844, e⟩ := Option.bind_eq_some_iff.mp e
    refine Rn.hp hT rfl rfl (aI_hp e_8844) ?_
    refine Rn.n hT 2 (pc' := 208) (L' := [some (.ref q0), some (.int x1), some (.int x2), some (.int x3), some (.int x4), some (.int x5), some (.int x6), some (.int x7), some (.int v_8838), none, none]) (st' := [.int (v_8843 + (1 : Int32)), .int x6, .ref v_8841]) rfl ?_
    obtain ⟨h_8845, e_8846, e⟩ := Option.bind_eq_some_iff.mp e
    refine Rn.hp hT rfl rfl (wI_hp e_8846) ?_
    refine Rn.n hT 2 (pc' := 212) (L' := [some (.ref q0), some (.int x1), some (.int x2), some (.int x3), some (.int x4), some (.int x5), some (.int x6), some (.int x7), some (.int v_8838), none, none]) (st' := [.int x3, .int v_8838]) rfl ?_
    by_cases c_8847 : x3 = 0
    · rw [if_pos c_8847] at e
      cases e
    · rw [if_neg c_8847] at e
      refine Rn.pu hT rfl rfl (st' := [.int (v_8838 / x3)]) (if_neg c_8847) ?_
      refine Rn.n hT 2 (pc' := 216) (L' := [some (.ref q0), some (.int x1), some (.int x2), some (.int x3), some (.int x4), some (.int x5), some (.int x6), some (.int x7), some (.int v_8838), some (.int (v_8838 / x3)), none]) (st' := [.ref q0]) rfl ?_
      obtain ⟨v_8848, e_8849, e⟩ := Option.bind_eq_some_iff.mp e
      refine Rn.hp hT rfl rfl (gR_hp e_8849) ?_
      refine Rn.n hT 2 (pc' := 223) (L' := [some (.ref q0), some (.int x1), some (.int x2), some (.int x3), some (.int x4), some (.int x5), some (.int x6), some (.int x7), some (.int v_8838), some (.int (v_8838 / x3)), none]) (st' := [.int (v_8838 / x3), .int x7, .ref v_8848]) rfl ?_
      obtain ⟨h_8850, e_8851, e⟩ := Option.bind_eq_some_iff.mp e
      refine Rn.hp hT rfl rfl (wI_hp e_8851) ?_
      refine Rn.n hT 2 (pc' := 227) (L' := [some (.ref q0), some (.int x1), some (.int x2), some (.int x3), some (.int x4), some (.int x5), some (.int x6), some (.int x7), some (.int v_8838), some (.int (v_8838 / x3)), none]) (st' := [.int (v_8838 / x3), .ref q0]) rfl ?_
      obtain ⟨_, e_8853, e⟩ := Option.bind_eq_some_iff.mp e
      obtain ⟨v_8854, e_8852, e⟩ := Option.bind_eq_some_iff.mp e
      refine Rn.call hT rfl rfl rfl (Nat.le_of_ble_eq_true rfl) (rcv_v gX12_isFloor (by omega) e_8853) (rX12_isFloor (by omega) e_8852 ?_)
      show Rn d _ _ 230 [some (.ref q0), some (.int x1), some (.int x2), some (.int x3), some (.int x4), some (.int x5), some (.int x6), some (.int x7), some (.int v_8838), some (.int (v_8838 / x3)), none] [.int v_8854] h_8850 Q
      by_cases c_8855 : v_8854 = 0
      · rw [if_pos c_8855] at e
        refine Rn.bt hT rfl rfl rfl (decide_eq_true c_8855) ?_
        exact Rn.weak (ll_s (ll_s (ll_s (ll_s (ll_s (ll_s (ll_s (ll_n (ll_n (ll_n (ll_n ll_e))))))))))) (rX12_floors_b351 hd hb hk hq e)
      · rw [if_neg c_8855] at e
        refine Rn.bf hT rfl rfl rfl (decide_eq_false c_8855) ?_
        refine Rn.n hT 1 (pc' := 234) (L' := [some (.ref q0), some (.int x1), some (.int x2), some (.int x3), some (.int x4), some (.int x5), some (.int x6), some (.int x7), some (.int v_8838), some (.int (v_8838 / x3)), none]) (st' := [.ref q0]) rfl ?_
        obtain ⟨v_8856, e_8857, e⟩ := Option.bind_eq_some_iff.mp e
        refine Rn.hp hT rfl rfl (gR_hp e_8857) ?_
        refine Rn.n hT 1 (pc' := 239) (L' := [some (.ref q0), some (.int x1), some (.int x2), some (.int x3), some (.int x4), some (.int x5), some (.int x6), some (.int x7), some (.int v_8838), some (.int (v_8838 / x3)), none]) (st' := [.int (v_8838 / x3), .ref v_8856]) rfl ?_
        obtain ⟨v_8858, e_8859, e⟩ := Option.bind_eq_some_iff.mp e
        refine Rn.hp hT rfl rfl (aI_hp e_8859) ?_
        refine Rn.n hT 1 (pc' := 241) (L' := [some (.ref q0), some (.int x1), some (.int x2), some (.int x3), some (.int x4), some (.int x5), some (.int x6), some (.int x7), some (.int v_8838), some (.int (v_8838 / x3)), none]) (st' := [.int (-1 : Int32), .int v_8858]) rfl ?_
        by_cases c_8860 : v_8858 = (-1 : Int32)
        · rw [if_pos c_8860] at e
          refine Rn.bf hT rfl rfl rfl (decide_eq_false (fun z => z c_8860)) ?_
          refine Rn.n hT 2 (pc' := 248) (L' := [some (.ref q0), some (.int x1), some (.int x2), some (.int x3), some (.int x4), some (.int (x5 + (1 : Int32))), some (.int x6), some (.int x7), some (.int v_8838), some (.int (v_8838 / x3)), none]) (st' := [.ref q0]) rfl ?_
          obtain ⟨v_8861, e_8862, e⟩ := Option.bind_eq_some_iff.mp e
          refine Rn.hp hT rfl rfl (gR_hp e_8862) ?_
          refine Rn.n hT 3 (pc' := 255) (L' := [some (.ref q0), some (.int x1), some (.int x2), some (.int x3), some (.int x4), some (.int (x5 + (1 : Int32))), some (.int x6), some (.int x7), some (.int v_8838), some (.int (v_8838 / x3)), none]) (st' := [.int (1 : Int32), .int x3, .int x7, .ref v_8861]) rfl ?_
          by_cases c_8863 : x3 = (1 : Int32)
          · rw [if_pos c_8863] at e
            refine Rn.bf hT rfl rfl rfl (decide_eq_false (fun z => z c_8863)) ?_
            refine Rn.n hT 1 (pc' := 259) (L' := [some (.ref q0), some (.int x1), some (.int x2), some (.int x3), some (.int x4), some (.int (x5 + (1 : Int32))), some (.int x6), some (.int x7), some (.int v_8838), some (.int (v_8838 / x3)), none]) (st' := [.ref q0, .int x7, .ref v_8861]) rfl ?_
            obtain ⟨v_8865, e_8866, e⟩ := Option.bind_eq_some_iff.mp e
            refine Rn.hp hT rfl rfl (gR_hp e_8866) ?_
            refine Rn.n hT 1 (pc' := 264) (L' := [some (.ref q0), some (.int x1), some (.int x2), some (.int x3), some (.int x4), some (.int (x5 + (1 : Int32))), some (.int x6), some (.int x7), some (.int v_8838), some (.int (v_8838 / x3)), none]) (st' := [.int x7, .ref v_8865, .int x7, .ref v_8861]) rfl ?_
            obtain ⟨v_8867, e_8868, e⟩ := Option.bind_eq_some_iff.mp e
            refine Rn.hp hT rfl rfl (aI_hp e_8868) ?_
            refine Rn.n hT 1 (pc' := 272) (L' := [some (.ref q0), some (.int x1), some (.int x2), some (.int x3), some (.int x4), some (.int (x5 + (1 : Int32))), some (.int x6), some (.int x7), some (.int v_8838), some (.int (v_8838 / x3)), none]) (st' := [.int v_8867, .int x7, .ref v_8861]) rfl ?_
            exact Rn.weak (ll_s (ll_s (ll_s (ll_s (ll_s (ll_s (ll_s (ll_s (ll_n (ll_s (ll_n ll_e))))))))))) (rX12_floors_b272 hd hb hk hq e)
          · rw [if_neg c_8863] at e
            refine Rn.bt hT rfl rfl rfl (decide_eq_true c_8863) ?_
            refine Rn.n hT 2 (pc' := 271) (L' := [some (.ref q0), some (.int x1), some (.int x2), some (.int x3), some (.int x4), some (.int (x5 + (1 : Int32))), some (.int x6), some (.int x7), some (.int v_8838), some (.int (v_8838 / x3)), none]) (st' := [.int x3, .int v_8838, .int x7, .ref v_8861]) rfl ?_
            by_cases c_8864 : x3 = 0
            · rw [if_pos c_8864] at e
              cases e
            · rw [if_neg c_8864] at e
              refine Rn.pu hT rfl rfl (st' := [.int (v_8838 - v_8838 / x3 * x3), .int x7, .ref v_8861]) (if_neg c_8864) ?_
              exact Rn.weak (ll_s (ll_s (ll_s (ll_s (ll_s (ll_s (ll_s (ll_s (ll_n (ll_s (ll_n ll_e))))))))))) (rX12_floors_b272 hd hb hk hq e)
        · rw [if_neg c_8860] at e
          refine Rn.bt hT rfl rfl rfl (decide_eq_true c_8860) ?_
          exact Rn.weak (ll_s (ll_s (ll_s (ll_s (ll_s (ll_s (ll_s (ll_n (ll_n (ll_n (ll_n ll_e))))))))))) (rX12_floors_b351 hd hb hk hq e)
def fX12_floors_b173 (N : Nat) (h : iv_H) (q0 : Nat) (x1 : Int32) (x2 : Int32) (x3 : Int32) (x4 : Int32) (x5 : Int32) (x6 : Int32) (x7 : Int32) (s0 : Int32) (s1 : Int32) (sq2 : Nat) (kb : iv_H → Int32 → Int32 → Int32 → Option (Int32 × iv_H)) (kx : iv_H → Int32 → Int32 → Option (Int32 × iv_H)) : Option (Int32 × iv_H) := ((wI h sq2 s1 s0).bind fun h_8834 => (fX12_floors_b174 N h_8834 q0 x1 x2 x3 x4 x5 x6 x7 kb kx))
set_option maxRecDepth 10000 in
set_option maxHeartbeats 4000000 in
theorem rX12_floors_b173 {d N : Nat} (hd : 6 ≤ d) {h : iv_H} {q0 : Nat} {x1 : Int32} {x2 : Int32} {x3 : Int32} {x4 : Int32} {x5 : Int32} {x6 : Int32} {x7 : Int32} {s0 : Int32} {s1 : Int32} {sq2 : Nat} {kb : iv_H → Int32 → Int32 → Int32 → Option (Int32 × iv_H)} {kx : iv_H → Int32 → Int32 → Option (Int32 × iv_H)} {r : Int32 × iv_H} {Q : Option Value → iv_H → Prop} (hb : ∀ (h : iv_H) (w4 : Int32) (w5 : Int32) (w6 : Int32), kb h w4 w5 w6 = some r → Rn d 306 (some .int) 93 [some (.ref q0), some (.int x1), some (.int x2), some (.int x3), some (.int w4), some (.int w5), some (.int w6), none, none, none, none] [] h Q) (hk : ∀ (h : iv_H) (w4 : Int32) (w5 : Int32), kx h w4 w5 = some r → Rn d 306 (some .int) 354 [some (.ref q0), none, none, none, some (.int w4), some (.int w5), none, none, none, none, none] [] h Q) (hq : Q (some (.int r.1)) r.2) (e : fX12_floors_b173 N h q0 x1 x2 x3 x4 x5 x6 x7 s0 s1 sq2 kb kx = some r) : Rn d 306 (some .int) 173 [some (.ref q0), some (.int x1), some (.int x2), some (.int x3), some (.int x4), some (.int x5), some (.int x6), some (.int x7), none, none, none] [.int s0, .int s1, .ref sq2] h Q := by
  have hT := hX12_floors
  unfold fX12_floors_b173 at e
  obtain ⟨h_8834, e_8835, e⟩ := Option.bind_eq_some_iff.mp e
  refine Rn.hp hT rfl rfl (wI_hp e_8835) ?_
  exact Rn.weak (ll_s (ll_s (ll_s (ll_s (ll_s (ll_s (ll_s (ll_s (ll_n (ll_n (ll_n ll_e))))))))))) (rX12_floors_b174 hd hb hk hq e)
def fX12_floors_l93 (N : Nat) (q0 : Nat) (x1 : Int32) (x2 : Int32) (x3 : Int32) (kx : iv_H → Int32 → Int32 → Option (Int32 × iv_H)) : Nat → iv_H → Int32 → Int32 → Int32 → Option (Int32 × iv_H)
  | 0, _, _, _, _ => none
  | n + 1, h, x4, x5, x6 => (if x6 < 0 then (kx h x4 x5) else (if x1 ≤ 0 then (kx h x4 x5) else (if (20000 : Int32) < x5 then (kx h x4 x5) else ((gR h 12 61 q0).bind fun v_8802 => ((aI h v_8802 x6).bind fun v_8804 => ((gR h 12 62 q0).bind fun v_8806 => ((aI h v_8806 x6).bind fun v_8808 => (if v_8808 ≤ 0 then (fX12_floors_b174 N h q0 x1 x2 x3 x4 x5 x6 v_8804 (fX12_floors_l93 N q0 x1 x2 x3 kx n) kx) else ((gR h 12 8 q0).bind fun v_8811 => ((gR h 12 3 q0).bind fun v_8813 => ((aI h v_8813 v_8804).bind fun v_8815 => ((gR h 12 8 q0).bind fun v_8817 => ((gR h 12 3 q0).bind fun v_8819 => ((aI h v_8819 v_8804).bind fun v_8821 => ((aI h v_8817 v_8821).bind fun v_8823 => (if v_8823 = v_8804 then (fX12_floors_b173 N h q0 x1 x2 x3 x4 x5 x6 v_8804 (-1 : Int32) v_8815 v_8811 (fX12_floors_l93 N q0 x1 x2 x3 kx n) kx) else ((gR h 12 8 q0).bind fun v_8826 => ((gR h 12 3 q0).bind fun v_8828 => ((aI h v_8828 v_8804).bind fun v_8830 => ((aI h v_8826 v_8830).bind fun v_8832 => (fX12_floors_b173 N h q0 x1 x2 x3 x4 x5 x6 v_8804 v_8832 v_8815 v_8811 (fX12_floors_l93 N q0 x1 x2 x3 kx n) kx)))))))))))))))))))))
set_option maxRecDepth 10000 in
set_option maxHeartbeats 4000000 in
theorem rX12_floors_l93 {d N : Nat} (hd : 6 ≤ d) {q0 : Nat} {x1 : Int32} {x2 : Int32} {x3 : Int32} {kx : iv_H → Int32 → Int32 → Option (Int32 × iv_H)} {r : Int32 × iv_H} {Q : Option Value → iv_H → Prop} (hk : ∀ (h : iv_H) (x4 : Int32) (x5 : Int32), kx h x4 x5 = some r → Rn d 306 (some .int) 354 [some (.ref q0), none, none, none, some (.int x4), some (.int x5), none, none, none, none, none] [] h Q) (hq : Q (some (.int r.1)) r.2) : ∀ (n : Nat) (h : iv_H) (x4 : Int32) (x5 : Int32) (x6 : Int32), fX12_floors_l93 N q0 x1 x2 x3 kx n h x4 x5 x6 = some r → Rn d 306 (some .int) 93 [some (.ref q0), some (.int x1), some (.int x2), some (.int x3), some (.int x4), some (.int x5), some (.int x6), none, none, none, none] [] h Q := by
  have hT := hX12_floors
  intro n
  induction n with
  | zero =>
    intro h x4 x5 x6 e
    rw [fX12_floors_l93] at e
    cases e
  | succ n ih =>
    intro h x4 x5 x6 e
    rw [fX12_floors_l93] at e
    refine Rn.n hT 1 (pc' := 95) (L' := [some (.ref q0), some (.int x1), some (.int x2), some (.int x3), some (.int x4), some (.int x5), some (.int x6), none, none, none, none]) (st' := [.int x6]) rfl ?_
    by_cases c_8799 : x6 < 0
    · rw [if_pos c_8799] at e
      refine Rn.bt hT rfl rfl rfl (decide_eq_true c_8799) ?_
      exact Rn.weak (ll_s (ll_n (ll_n (ll_n (ll_s (ll_s (ll_n (ll_n (ll_n (ll_n (ll_n ll_e))))))))))) (hk h x4 x5 e)
    · rw [if_neg c_8799] at e
      refine Rn.bf hT rfl rfl rfl (decide_eq_false c_8799) ?_
      refine Rn.n hT 1 (pc' := 99) (L' := [some (.ref q0), some (.int x1), some (.int x2), some (.int x3), some (.int x4), some (.int x5), some (.int x6), none, none, none, none]) (st' := [.int x1]) rfl ?_
      by_cases c_8800 : x1 ≤ 0
      · rw [if_pos c_8800] at e
        refine Rn.bt hT rfl rfl rfl (decide_eq_true c_8800) ?_
        exact Rn.weak (ll_s (ll_n (ll_n (ll_n (ll_s (ll_s (ll_n (ll_n (ll_n (ll_n (ll_n ll_e))))))))))) (hk h x4 x5 e)
      · rw [if_neg c_8800] at e
        refine Rn.bf hT rfl rfl rfl (decide_eq_false c_8800) ?_
        refine Rn.n hT 2 (pc' := 107) (L' := [some (.ref q0), some (.int x1), some (.int x2), some (.int x3), some (.int x4), some (.int x5), some (.int x6), none, none, none, none]) (st' := [.int (20000 : Int32), .int x5]) rfl ?_
        by_cases c_8801 : (20000 : Int32) < x5
        · rw [if_pos c_8801] at e
          refine Rn.bt hT rfl rfl rfl (decide_eq_true c_8801) ?_
          exact Rn.weak (ll_s (ll_n (ll_n (ll_n (ll_s (ll_s (ll_n (ll_n (ll_n (ll_n (ll_n ll_e))))))))))) (hk h x4 x5 e)
        · rw [if_neg c_8801] at e
          refine Rn.bf hT rfl rfl rfl (decide_eq_false c_8801) ?_
          refine Rn.n hT 1 (pc' := 111) (L' := [some (.ref q0), some (.int x1), some (.int x2), some (.int x3), some (.int x4), some (.int x5), some (.int x6), none, none, none, none]) (st' := [.ref q0]) rfl ?_
          obtain ⟨v_8802, e_8803, e⟩ := Option.bind_eq_some_iff.mp e
          refine Rn.hp hT rfl rfl (gR_hp e_8803) ?_
          refine Rn.n hT 1 (pc' := 116) (L' := [some (.ref q0), some (.int x1), some (.int x2), some (.int x3), some (.int x4), some (.int x5), some (.int x6), none, none, none, none]) (st' := [.int x6, .ref v_8802]) rfl ?_
          obtain ⟨v_8804, e_8805, e⟩ := Option.bind_eq_some_iff.mp e
          refine Rn.hp hT rfl rfl (aI_hp e_8805) ?_
          refine Rn.n hT 2 (pc' := 120) (L' := [some (.ref q0), some (.int x1), some (.int x2), some (.int x3), some (.int x4), some (.int x5), some (.int x6), some (.int v_8804), none, none, none]) (st' := [.ref q0]) rfl ?_
          obtain ⟨v_8806, e_8807, e⟩ := Option.bind_eq_some_iff.mp e
          refine Rn.hp hT rfl rfl (gR_hp e_8807) ?_
          refine Rn.n hT 1 (pc' := 125) (L' := [some (.ref q0), some (.int x1), some (.int x2), some (.int x3), some (.int x4), some (.int x5), some (.int x6), some (.int v_8804), none, none, none]) (st' := [.int x6, .ref v_8806]) rfl ?_
          obtain ⟨v_8808, e_8809, e⟩ := Option.bind_eq_some_iff.mp e
          refine Rn.hp hT rfl rfl (aI_hp e_8809) ?_
          by_cases c_8810 : v_8808 ≤ 0
          · rw [if_pos c_8810] at e
            refine Rn.bt hT rfl rfl rfl (decide_eq_true c_8810) ?_
            exact Rn.weak (ll_s (ll_s (ll_s (ll_s (ll_s (ll_s (ll_s (ll_s (ll_n (ll_n (ll_n ll_e))))))))))) (rX12_floors_b174 hd ih hk hq e)
          · rw [if_neg c_8810] at e
            refine Rn.bf hT rfl rfl rfl (decide_eq_false c_8810) ?_
            refine Rn.n hT 1 (pc' := 130) (L' := [some (.ref q0), some (.int x1), some (.int x2), some (.int x3), some (.int x4), some (.int x5), some (.int x6), some (.int v_8804), none, none, none]) (st' := [.ref q0]) rfl ?_
            obtain ⟨v_8811, e_8812, e⟩ := Option.bind_eq_some_iff.mp e
            refine Rn.hp hT rfl rfl (gR_hp e_8812) ?_
            refine Rn.n hT 1 (pc' := 134) (L' := [some (.ref q0), some (.int x1), some (.int x2), some (.int x3), some (.int x4), some (.int x5), some (.int x6), some (.int v_8804), none, none, none]) (st' := [.ref q0, .ref v_8811]) rfl ?_
            obtain ⟨v_8813, e_8814, e⟩ := Option.bind_eq_some_iff.mp e
            refine Rn.hp hT rfl rfl (gR_hp e_8814) ?_
            refine Rn.n hT 1 (pc' := 139) (L' := [some (.ref q0), some (.int x1), some (.int x2), some (.int x3), some (.int x4), some (.int x5), some (.int x6), some (.int v_8804), none, none, none]) (st' := [.int v_8804, .ref v_8813, .ref v_8811]) rfl ?_
            obtain ⟨v_8815, e_8816, e⟩ := Option.bind_eq_some_iff.mp e
            refine Rn.hp hT rfl rfl (aI_hp e_8816) ?_
            refine Rn.n hT 1 (pc' := 141) (L' := [some (.ref q0), some (.int x1), some (.int x2), some (.int x3), some (.int x4), some (.int x5), some (.int x6), some (.int v_8804), none, none, none]) (st' := [.ref q0, .int v_8815, .ref v_8811]) rfl ?_
            obtain ⟨v_8817, e_8818, e⟩ := Option.bind_eq_some_iff.mp e
            refine Rn.hp hT rfl rfl (gR_hp e_8818) ?_
            refine Rn.n hT 1 (pc' := 145) (L' := [some (.ref q0), some (.int x1), some (.int x2), some (.int x3), some (.int x4), some (.int x5), some (.int x6), some (.int v_8804), none, none, none]) (st' := [.ref q0, .ref v_8817, .int v_8815, .ref v_8811]) rfl ?_
            obtain ⟨v_8819, e_8820, e⟩ := Option.bind_eq_some_iff.mp e
            refine Rn.hp hT rfl rfl (gR_hp e_8820) ?_
            refine Rn.n hT 1 (pc' := 150) (L' := [some (.ref q0), some (.int x1), some (.int x2), some (.int x3), some (.int x4), some (.int x5), some (.int x6), some (.int v_8804), none, none, none]) (st' := [.int v_8804, .ref v_8819, .ref v_8817, .int v_8815, .ref v_8811]) rfl ?_
            obtain ⟨v_8821, e_8822, e⟩ := Option.bind_eq_some_iff.mp e
            refine Rn.hp hT rfl rfl (aI_hp e_8822) ?_
            obtain ⟨v_8823, e_8824, e⟩ := Option.bind_eq_some_iff.mp e
            refine Rn.hp hT rfl rfl (aI_hp e_8824) ?_
            refine Rn.n hT 1 (pc' := 154) (L' := [some (.ref q0), some (.int x1), some (.int x2), some (.int x3), some (.int x4), some (.int x5), some (.int x6), some (.int v_8804), none, none, none]) (st' := [.int v_8804, .int v_8823, .int v_8815, .ref v_8811]) rfl ?_
            by_cases c_8825 : v_8823 = v_8804
            · rw [if_pos c_8825] at e
              refine Rn.bf hT rfl rfl rfl (decide_eq_false (fun z => z c_8825)) ?_
              refine Rn.n hT 2 (pc' := 173) (L' := [some (.ref q0), some (.int x1), some (.int x2), some (.int x3), some (.int x4), some (.int x5), some (.int x6), some (.int v_8804), none, none, none]) (st' := [.int (-1 : Int32), .int v_8815, .ref v_8811]) rfl ?_
              exact Rn.weak (ll_s (ll_s (ll_s (ll_s (ll_s (ll_s (ll_s (ll_s (ll_n (ll_n (ll_n ll_e))))))))))) (rX12_floors_b173 hd ih hk hq e)
            · rw [if_neg c_8825] at e
              refine Rn.bt hT rfl rfl rfl (decide_eq_true c_8825) ?_
              refine Rn.n hT 1 (pc' := 162) (L' := [some (.ref q0), some (.int x1), some (.int x2), some (.int x3), some (.int x4), some (.int x5), some (.int x6), some (.int v_8804), none, none, none]) (st' := [.ref q0, .int v_8815, .ref v_8811]) rfl ?_
              obtain ⟨v_8826, e_8827, e⟩ := Option.bind_eq_some_iff.mp e
              refine Rn.hp hT rfl rfl (gR_hp e_8827) ?_
              refine Rn.n hT 1 (pc' := 166) (L' := [some (.ref q0), some (.int x1), some (.int x2), some (.int x3), some (.int x4), some (.int x5), some (.int x6), some (.int v_8804), none, none, none]) (st' := [.ref q0, .ref v_8826, .int v_8815, .ref v_8811]) rfl ?_
              obtain ⟨v_8828, e_8829, e⟩ := Option.bind_eq_some_iff.mp e
              refine Rn.hp hT rfl rfl (gR_hp e_8829) ?_
              refine Rn.n hT 1 (pc' := 171) (L' := [some (.ref q0), some (.int x1), some (.int x2), some (.int x3), some (.int x4), some (.int x5), some (.int x6), some (.int v_8804), none, none, none]) (st' := [.int v_8804, .ref v_8828, .ref v_8826, .int v_8815, .ref v_8811]) rfl ?_
              obtain ⟨v_8830, e_8831, e⟩ := Option.bind_eq_some_iff.mp e
              refine Rn.hp hT rfl rfl (aI_hp e_8831) ?_
              obtain ⟨v_8832, e_8833, e⟩ := Option.bind_eq_some_iff.mp e
              refine Rn.hp hT rfl rfl (aI_hp e_8833) ?_
              exact Rn.weak (ll_s (ll_s (ll_s (ll_s (ll_s (ll_s (ll_s (ll_s (ll_n (ll_n (ll_n ll_e))))))))))) (rX12_floors_b173 hd ih hk hq e)
def fX12_floors_b378 (N : Nat) (h : iv_H)  (s0 : Int32) : Option (Int32 × iv_H) := (some (s0, h))
set_option maxRecDepth 10000 in
set_option maxHeartbeats 4000000 in
theorem rX12_floors_b378 {d N : Nat} (hd : 6 ≤ d) {h : iv_H}  {s0 : Int32} {r : Int32 × iv_H} {Q : Option Value → iv_H → Prop} (hq : Q (some (.int r.1)) r.2) (e : fX12_floors_b378 N h  s0 = some r) : Rn d 306 (some .int) 378 [none, none, none, none, none, none, none, none, none, none, none] [.int s0] h Q := by
  have hT := hX12_floors
  unfold fX12_floors_b378 at e
  obtain rfl := Option.some.inj e
  exact Rn.ret hT rfl rfl rfl hq
def fX12_floors_b354 (N : Nat) (h : iv_H) (q0 : Nat) (x4 : Int32) (x5 : Int32)  : Option (Int32 × iv_H) := ((gR h 12 55 q0).bind fun v_8893 => ((cko h q0 12).bind fun _ => (fX12_laysFloor N h q0 v_8893 (0 : Int32)).bind fun h_8898 => (if x5 ≤ (20000 : Int32) then (fX12_floors_b378 N h_8898 x4) else (fX12_floors_b378 N h_8898 (-3 : Int32)))))
set_option maxRecDepth 10000 in
set_option maxHeartbeats 4000000 in
theorem rX12_floors_b354 {d N : Nat} (hd : 6 ≤ d) {h : iv_H} {q0 : Nat} {x4 : Int32} {x5 : Int32}  {r : Int32 × iv_H} {Q : Option Value → iv_H → Prop} (hq : Q (some (.int r.1)) r.2) (e : fX12_floors_b354 N h q0 x4 x5  = some r) : Rn d 306 (some .int) 354 [some (.ref q0), none, none, none, some (.int x4), some (.int x5), none, none, none, none, none] [] h Q := by
  have hT := hX12_floors
  unfold fX12_floors_b354 at e
  refine Rn.n hT 2 (pc' := 356) (L' := [some (.ref q0), none, none, none, some (.int x4), some (.int x5), none, none, none, none, none]) (st' := [.ref q0, .ref q0]) rfl ?_
  obtain ⟨v_8893, e_8894, e⟩ := Option.bind_eq_some_iff.mp e
  refine Rn.hp hT rfl rfl (gR_hp e_8894) ?_
  refine Rn.n hT 1 (pc' := 360) (L' := [some (.ref q0), none, none, none, some (.int x4), some (.int x5), none, none, none, none, none]) (st' := [.int (0 : Int32), .ref v_8893, .ref q0]) rfl ?_
  obtain ⟨_, e_8896, e⟩ := Option.bind_eq_some_iff.mp e
  obtain ⟨h_8898, e_8895, e⟩ := Option.bind_eq_some_iff.mp e
  refine Rn.call hT rfl rfl rfl (Nat.le_of_ble_eq_true rfl) (rcv_v gX12_laysFloor (by omega) e_8896) (rX12_laysFloor (by omega) e_8895 ?_)
  show Rn d _ _ 363 [some (.ref q0), none, none, none, some (.int x4), some (.int x5), none, none, none, none, none] [] h_8898 Q
  refine Rn.n hT 2 (pc' := 368) (L' := [some (.ref q0), none, none, none, some (.int x4), some (.int x5), none, none, none, none, none]) (st' := [.int (20000 : Int32), .int x5]) rfl ?_
  by_cases c_8899 : x5 ≤ (20000 : Int32)
  · rw [if_pos c_8899] at e
    refine Rn.bt hT rfl rfl rfl (decide_eq_true c_8899) ?_
    refine Rn.n hT 1 (pc' := 378) (L' := [some (.ref q0), none, none, none, some (.int x4), some (.int x5), none, none, none, none, none]) (st' := [.int x4]) rfl ?_
    exact Rn.weak (ll_n (ll_n (ll_n (ll_n (ll_n (ll_n (ll_n (ll_n (ll_n (ll_n (ll_n ll_e))))))))))) (rX12_floors_b378 hd hq e)
  · rw [if_neg c_8899] at e
    refine Rn.bf hT rfl rfl rfl (decide_eq_false c_8899) ?_
    refine Rn.n hT 2 (pc' := 378) (L' := [some (.ref q0), none, none, none, some (.int x4), some (.int x5), none, none, none, none, none]) (st' := [.int (-3 : Int32)]) rfl ?_
    exact Rn.weak (ll_n (ll_n (ll_n (ll_n (ll_n (ll_n (ll_n (ll_n (ll_n (ll_n (ll_n ll_e))))))))))) (rX12_floors_b378 hd hq e)
def fX12_floors_b90 (N : Nat) (h : iv_H) (q0 : Nat) (x1 : Int32) (x2 : Int32) (x3 : Int32) (x5 : Int32) (x6 : Int32) (s0 : Int32) (s1 : Int32) : Option (Int32 × iv_H) := (fX12_floors_l93 N q0 x1 x2 x3 (fun (h_8796 : iv_H) (z_8797 : Int32) (z_8798 : Int32) => (fX12_floors_b354 N h_8796 q0 z_8797 z_8798)) N h (s1 + s0) x5 x6)
set_option maxRecDepth 10000 in
set_option maxHeartbeats 4000000 in
theorem rX12_floors_b90 {d N : Nat} (hd : 6 ≤ d) {h : iv_H} {q0 : Nat} {x1 : Int32} {x2 : Int32} {x3 : Int32} {x5 : Int32} {x6 : Int32} {s0 : Int32} {s1 : Int32} {r : Int32 × iv_H} {Q : Option Value → iv_H → Prop} (hq : Q (some (.int r.1)) r.2) (e : fX12_floors_b90 N h q0 x1 x2 x3 x5 x6 s0 s1 = some r) : Rn d 306 (some .int) 90 [some (.ref q0), some (.int x1), some (.int x2), some (.int x3), none, some (.int x5), some (.int x6), none, none, none, none] [.int s0, .int s1] h Q := by
  have hT := hX12_floors
  unfold fX12_floors_b90 at e
  refine Rn.n hT 2 (pc' := 93) (L' := [some (.ref q0), some (.int x1), some (.int x2), some (.int x3), some (.int (s1 + s0)), some (.int x5), some (.int x6), none, none, none, none]) (st' := []) rfl ?_
  refine Rn.weak (ll_s (ll_s (ll_s (ll_s (ll_s (ll_s (ll_s (ll_n (ll_n (ll_n (ll_n ll_e))))))))))) (rX12_floors_l93 hd (fun h_8796 z_8797 z_8798 e => ?_) hq N h (s1 + s0) x5 x6 e)
  try dsimp only at e
  exact Rn.weak (ll_s (ll_n (ll_n (ll_n (ll_s (ll_s (ll_n (ll_n (ll_n (ll_n (ll_n ll_e))))))))))) (rX12_floors_b354 hd hq e)
def fX12_floors_b89 (N : Nat) (h : iv_H) (q0 : Nat) (x1 : Int32) (x2 : Int32) (x3 : Int32) (x5 : Int32) (x6 : Int32) (s0 : Int32) : Option (Int32 × iv_H) := (fX12_floors_b90 N h q0 x1 x2 x3 x5 x6 (0 : Int32) s0)
set_option maxRecDepth 10000 in
set_option maxHeartbeats 4000000 in
theorem rX12_floors_b89 {d N : Nat} (hd : 6 ≤ d) {h : iv_H} {q0 : Nat} {x1 : Int32} {x2 : Int32} {x3 : Int32} {x5 : Int32} {x6 : Int32} {s0 : Int32} {r : Int32 × iv_H} {Q : Option Value → iv_H → Prop} (hq : Q (some (.int r.1)) r.2) (e : fX12_floors_b89 N h q0 x1 x2 x3 x5 x6 s0 = some r) : Rn d 306 (some .int) 89 [some (.ref q0), some (.int x1), some (.int x2), some (.int x3), none, some (.int x5), some (.int x6), none, none, none, none] [.int s0] h Q := by
  have hT := hX12_floors
  unfold fX12_floors_b89 at e
  refine Rn.n hT 1 (pc' := 90) (L' := [some (.ref q0), some (.int x1), some (.int x2), some (.int x3), none, some (.int x5), some (.int x6), none, none, none, none]) (st' := [.int (0 : Int32), .int s0]) rfl ?_
  exact Rn.weak (ll_s (ll_s (ll_s (ll_s (ll_n (ll_s (ll_s (ll_n (ll_n (ll_n (ll_n ll_e))))))))))) (rX12_floors_b90 hd hq e)
def fX12_floors_b55 (N : Nat) (h : iv_H) (q0 : Nat) (x1 : Int32) (x2 : Int32) (s0 : Int32) : Option (Int32 × iv_H) := ((gR h 12 62 q0).bind fun v_8785 => ((wI h v_8785 (0 : Int32) (0 : Int32)).bind fun h_8787 => (if x1 = 0 then ((cko h_8787 q0 12).bind fun _ => (fX12_mismatches N h_8787 q0).bind fun p_8795 => (fun (v_8792 : Int32) (h_8793 : iv_H) => (if v_8792 = 0 then (fX12_floors_b90 N h_8793 q0 x1 x2 s0 (0 : Int32) (0 : Int32) (1 : Int32) (0 : Int32)) else (fX12_floors_b89 N h_8793 q0 x1 x2 s0 (0 : Int32) (0 : Int32) (0 : Int32)))) p_8795.1 p_8795.2) else (fX12_floors_b89 N h_8787 q0 x1 x2 s0 (0 : Int32) (0 : Int32) (0 : Int32)))))
set_option maxRecDepth 10000 in
set_option maxHeartbeats 4000000 in
theorem rX12_floors_b55 {d N : Nat} (hd : 6 ≤ d) {h : iv_H} {q0 : Nat} {x1 : Int32} {x2 : Int32} {s0 : Int32} {r : Int32 × iv_H} {Q : Option Value → iv_H → Prop} (hq : Q (some (.int r.1)) r.2) (e : fX12_floors_b55 N h q0 x1 x2 s0 = some r) : Rn d 306 (some .int) 55 [some (.ref q0), some (.int x1), some (.int x2), none, none, none, none, none, none, none, none] [.int s0] h Q := by
  have hT := hX12_floors
  unfold fX12_floors_b55 at e
  refine Rn.n hT 8 (pc' := 66) (L' := [some (.ref q0), some (.int x1), some (.int x2), some (.int s0), some (.int (0 : Int32)), some (.int (0 : Int32)), some (.int (0 : Int32)), none, none, none, none]) (st' := [.ref q0]) rfl ?_
  obtain ⟨v_8785, e_8786, e⟩ := Option.bind_eq_some_iff.mp e
  refine Rn.hp hT rfl rfl (gR_hp e_8786) ?_
  refine Rn.n hT 2 (pc' := 71) (L' := [some (.ref q0), some (.int x1), some (.int x2), some (.int s0), some (.int (0 : Int32)), some (.int (0 : Int32)), some (.int (0 : Int32)), none, none, none, none]) (st' := [.int (0 : Int32), .int (0 : Int32), .ref v_8785]) rfl ?_
  obtain ⟨h_8787, e_8788, e⟩ := Option.bind_eq_some_iff.mp e
  refine Rn.hp hT rfl rfl (wI_hp e_8788) ?_
  refine Rn.n hT 2 (pc' := 75) (L' := [some (.ref q0), some (.int x1), some (.int x2), some (.int s0), some (.int (0 : Int32)), some (.int (0 : Int32)), some (.int (0 : Int32)), none, none, none, none]) (st' := [.int x1, .int (0 : Int32)]) rfl ?_
  by_cases c_8789 : x1 = 0
  · rw [if_pos c_8789] at e
    refine Rn.bf hT rfl rfl rfl (decide_eq_false (fun z => z c_8789)) ?_
    refine Rn.n hT 1 (pc' := 79) (L' := [some (.ref q0), some (.int x1), some (.int x2), some (.int s0), some (.int (0 : Int32)), some (.int (0 : Int32)), some (.int (0 : Int32)), none, none, none, none]) (st' := [.ref q0, .int (0 : Int32)]) rfl ?_
    obtain ⟨_, e_8791, e⟩ := Option.bind_eq_some_iff.mp e
    obtain ⟨⟨v_8792, h_8793⟩, e_8790, e⟩ := Option.bind_eq_some_iff.mp e
    try dsimp only at e
    try dsimp only at e
    refine Rn.call hT rfl rfl rfl (Nat.le_of_ble_eq_true rfl) (rcv_v gX12_mismatches (by omega) e_8791) (rX12_mismatches (by omega) e_8790 ?_)
    show Rn d _ _ 82 [some (.ref q0), some (.int x1), some (.int x2), some (.int s0), some (.int (0 : Int32)), some (.int (0 : Int32)), some (.int (0 : Int32)), none, none, none, none] [.int v_8792, .int (0 : Int32)] h_8793 Q
    by_cases c_8794 : v_8792 = 0
    · rw [if_pos c_8794] at e
      refine Rn.bf hT rfl rfl rfl (decide_eq_false (fun z => z c_8794)) ?_
      refine Rn.n hT 2 (pc' := 90) (L' := [some (.ref q0), some (.int x1), some (.int x2), some (.int s0), some (.int (0 : Int32)), some (.int (0 : Int32)), some (.int (0 : Int32)), none, none, none, none]) (st' := [.int (1 : Int32), .int (0 : Int32)]) rfl ?_
      exact Rn.weak (ll_s (ll_s (ll_s (ll_s (ll_n (ll_s (ll_s (ll_n (ll_n (ll_n (ll_n ll_e))))))))))) (rX12_floors_b90 hd hq e)
    · rw [if_neg c_8794] at e
      refine Rn.bt hT rfl rfl rfl (decide_eq_true c_8794) ?_
      exact Rn.weak (ll_s (ll_s (ll_s (ll_s (ll_n (ll_s (ll_s (ll_n (ll_n (ll_n (ll_n ll_e))))))))))) (rX12_floors_b89 hd hq e)
  · rw [if_neg c_8789] at e
    refine Rn.bt hT rfl rfl rfl (decide_eq_true c_8789) ?_
    exact Rn.weak (ll_s (ll_s (ll_s (ll_s (ll_n (ll_s (ll_s (ll_n (ll_n (ll_n (ll_n ll_e))))))))))) (rX12_floors_b89 hd hq e)
def fX12_floors (N : Nat) (h : iv_H) (q0 : Nat) : Option (Int32 × iv_H) := ((cko h q0 12).bind fun _ => (fX12_isPalace N h q0).bind fun v_8757 => (if v_8757 = 0 then (some ((-1 : Int32), h)) else ((gR h 12 55 q0).bind fun v_8759 => ((cko h q0 12).bind fun _ => (fX12_fillsFloor N h q0 v_8759 (0 : Int32)).bind fun h_8764 => ((gR h_8764 12 4 q0).bind fun v_8765 => ((gR h_8764 12 63 q0).bind fun v_8767 => ((fX12_copies N h_8764 v_8765 v_8767).bind fun h_8771 => ((cko h_8771 q0 12).bind fun _ => (fX12_takesLoose N h_8771 q0).bind fun p_8784 => (fun (v_8774 : Int32) (h_8775 : iv_H) => ((cko h_8775 q0 12).bind fun _ => (fX12_areFixedWell N h_8775 q0).bind fun v_8778 => ((gR h_8775 12 1 q0).bind fun v_8779 => ((aI h_8775 v_8779 (4 : Int32)).bind fun v_8781 => (if (v_8781 &&& (4 : Int32)) ≤ 0 then (fX12_floors_b55 N h_8775 q0 v_8774 v_8778 (1 : Int32)) else (fX12_floors_b55 N h_8775 q0 v_8774 v_8778 (4 : Int32))))))) p_8784.1 p_8784.2))))))))
set_option maxRecDepth 10000 in
set_option maxHeartbeats 4000000 in
theorem rX12_floors {d N : Nat} (hd : 7 ≤ d) {h : iv_H} {q0 : Nat} {r : Int32 × iv_H} {Q : Option Value → iv_H → Prop} (e : fX12_floors N h q0 = some r) (hq : Q (some (.int r.1)) r.2) : Cl d 306 [.ref q0] h Q := by
  obtain ⟨d, rfl⟩ : ∃ k, d = k + 1 := ⟨d - 1, by omega⟩
  have hd : 6 ≤ d := by omega
  have hT := hX12_floors
  unfold fX12_floors at e
  refine Cl.into (by decide) gX12_floors rfl ?_
  show Rn d 306 (some .int) 0 [some (.ref q0), none, none, none, none, none, none, none, none, none, none] [] h Q
  refine Rn.n hT 1 (pc' := 1) (L' := [some (.ref q0), none, none, none, none, none, none, none, none, none, none]) (st' := [.ref q0]) rfl ?_
  obtain ⟨_, e_8756, e⟩ := Option.bind_eq_some_iff.mp e
  obtain ⟨v_8757, e_8755, e⟩ := Option.bind_eq_some_iff.mp e
  refine Rn.call hT rfl rfl rfl (Nat.le_of_ble_eq_true rfl) (rcv_v gX12_isPalace (by omega) e_8756) (rX12_isPalace (by omega) e_8755 ?_)
  show Rn d _ _ 4 [some (.ref q0), none, none, none, none, none, none, none, none, none, none] [.int v_8757] h Q
  by_cases c_8758 : v_8757 = 0
  · rw [if_pos c_8758] at e
    refine Rn.bf hT rfl rfl rfl (decide_eq_false (fun z => z c_8758)) ?_
    refine Rn.n hT 1 (pc' := 8) (L' := [some (.ref q0), none, none, none, none, none, none, none, none, none, none]) (st' := [.int (-1 : Int32)]) rfl ?_
    obtain rfl := Option.some.inj e
    exact Rn.ret hT rfl rfl rfl hq
  · rw [if_neg c_8758] at e
    refine Rn.bt hT rfl rfl rfl (decide_eq_true c_8758) ?_
    refine Rn.n hT 2 (pc' := 11) (L' := [some (.ref q0), none, none, none, none, none, none, none, none, none, none]) (st' := [.ref q0, .ref q0]) rfl ?_
    obtain ⟨v_8759, e_8760, e⟩ := Option.bind_eq_some_iff.mp e
    refine Rn.hp hT rfl rfl (gR_hp e_8760) ?_
    refine Rn.n hT 1 (pc' := 15) (L' := [some (.ref q0), none, none, none, none, none, none, none, none, none, none]) (st' := [.int (0 : Int32), .ref v_8759, .ref q0]) rfl ?_
    obtain ⟨_, e_8762, e⟩ := Option.bind_eq_some_iff.mp e
    obtain ⟨h_8764, e_8761, e⟩ := Option.bind_eq_some_iff.mp e
    refine Rn.call hT rfl rfl rfl (Nat.le_of_ble_eq_true rfl) (rcv_v gX12_fillsFloor (by omega) e_8762) (rX12_fillsFloor (by omega) e_8761 ?_)
    show Rn d _ _ 18 [some (.ref q0), none, none, none, none, none, none, none, none, none, none] [] h_8764 Q
    refine Rn.n hT 1 (pc' := 19) (L' := [some (.ref q0), none, none, none, none, none, none, none, none, none, none]) (st' := [.ref q0]) rfl ?_
    obtain ⟨v_8765, e_8766, e⟩ := Option.bind_eq_some_iff.mp e
    refine Rn.hp hT rfl rfl (gR_hp e_8766) ?_
    refine Rn.n hT 1 (pc' := 23) (L' := [some (.ref q0), none, none, none, none, none, none, none, none, none, none]) (st' := [.ref q0, .ref v_8765]) rfl ?_
    obtain ⟨v_8767, e_8768, e⟩ := Option.bind_eq_some_iff.mp e
    refine Rn.hp hT rfl rfl (gR_hp e_8768) ?_
    obtain ⟨h_8771, e_8769, e⟩ := Option.bind_eq_some_iff.mp e
    refine Rn.call hT rfl rfl rfl (Nat.le_of_ble_eq_true rfl) rfl (rX12_copies (by omega) e_8769 ?_)
    show Rn d _ _ 29 [some (.ref q0), none, none, none, none, none, none, none, none, none, none] [] h_8771 Q
    refine Rn.n hT 1 (pc' := 30) (L' := [some (.ref q0), none, none, none, none, none, none, none, none, none, none]) (st' := [.ref q0]) rfl ?_
    obtain ⟨_, e_8773, e⟩ := Option.bind_eq_some_iff.mp e
    obtain ⟨⟨v_8774, h_8775⟩, e_8772, e⟩ := Option.bind_eq_some_iff.mp e
    try dsimp only at e
    try dsimp only at e
    refine Rn.call hT rfl rfl rfl (Nat.le_of_ble_eq_true rfl) (rcv_v gX12_takesLoose (by omega) e_8773) (rX12_takesLoose (by omega) e_8772 ?_)
    show Rn d _ _ 33 [some (.ref q0), none, none, none, none, none, none, none, none, none, none] [.int v_8774] h_8775 Q
    refine Rn.n hT 2 (pc' := 35) (L' := [some (.ref q0), some (.int v_8774), none, none, none, none, none, none, none, none, none]) (st' := [.ref q0]) rfl ?_
    obtain ⟨_, e_8777, e⟩ := Option.bind_eq_some_iff.mp e
    obtain ⟨v_8778, e_8776, e⟩ := Option.bind_eq_some_iff.mp e
    refine Rn.call hT rfl rfl rfl (Nat.le_of_ble_eq_true rfl) (rcv_v gX12_areFixedWell (by omega) e_8777) (rX12_areFixedWell (by omega) e_8776 ?_)
    show Rn d _ _ 38 [some (.ref q0), some (.int v_8774), none, none, none, none, none, none, none, none, none] [.int v_8778] h_8775 Q
    refine Rn.n hT 2 (pc' := 40) (L' := [some (.ref q0), some (.int v_8774), some (.int v_8778), none, none, none, none, none, none, none, none]) (st' := [.ref q0]) rfl ?_
    obtain ⟨v_8779, e_8780, e⟩ := Option.bind_eq_some_iff.mp e
    refine Rn.hp hT rfl rfl (gR_hp e_8780) ?_
    refine Rn.n hT 1 (pc' := 44) (L' := [some (.ref q0), some (.int v_8774), some (.int v_8778), none, none, none, none, none, none, none, none]) (st' := [.int (4 : Int32), .ref v_8779]) rfl ?_
    obtain ⟨v_8781, e_8782, e⟩ := Option.bind_eq_some_iff.mp e
    refine Rn.hp hT rfl rfl (aI_hp e_8782) ?_
    refine Rn.n hT 2 (pc' := 47) (L' := [some (.ref q0), some (.int v_8774), some (.int v_8778), none, none, none, none, none, none, none, none]) (st' := [.int (v_8781 &&& (4 : Int32))]) rfl ?_
    by_cases c_8783 : (v_8781 &&& (4 : Int32)) ≤ 0
    · rw [if_pos c_8783] at e
      refine Rn.bt hT rfl rfl rfl (decide_eq_true c_8783) ?_
      refine Rn.n hT 1 (pc' := 55) (L' := [some (.ref q0), some (.int v_8774), some (.int v_8778), none, none, none, none, none, none, none, none]) (st' := [.int (1 : Int32)]) rfl ?_
      exact Rn.weak (ll_s (ll_s (ll_s (ll_n (ll_n (ll_n (ll_n (ll_n (ll_n (ll_n (ll_n ll_e))))))))))) (rX12_floors_b55 hd hq e)
    · rw [if_neg c_8783] at e
      refine Rn.bf hT rfl rfl rfl (decide_eq_false c_8783) ?_
      refine Rn.n hT 2 (pc' := 55) (L' := [some (.ref q0), some (.int v_8774), some (.int v_8778), none, none, none, none, none, none, none, none]) (st' := [.int (4 : Int32)]) rfl ?_
      exact Rn.weak (ll_s (ll_s (ll_s (ll_n (ll_n (ll_n (ll_n (ll_n (ll_n (ll_n (ll_n ll_e))))))))))) (rX12_floors_b55 hd hq e)
set_option maxRecDepth 10000 in
theorem hX12_opens_ : iv_Tb 307 tX12_opens_ := iv_tb_of (m := mX12_opens_) rfl
set_option maxRecDepth 10000 in
theorem gX12_opens_ : PG.2 307 = some mX12_opens_ := iv_pi_of (t := tX12_opens_) rfl (by decide)
def fX12_opens__b21 (N : Nat) (h : iv_H)  (s0 : Int32) : Option (Int32) := (if s0 = 0 ∨ s0 = 1 then some s0 else none)
set_option maxRecDepth 10000 in
set_option maxHeartbeats 4000000 in
theorem rX12_opens__b21 {d N : Nat} (hd : 0 ≤ d) {h : iv_H}  {s0 : Int32} {r : Int32} {Q : Option Value → iv_H → Prop} (hq : Q (some (.int r)) h) (e : fX12_opens__b21 N h  s0 = some r) : Rn d 307 (some .boolean) 21 [none, none] [.int s0] h Q := by
  have hT := hX12_opens_
  unfold fX12_opens__b21 at e
  by_cases c_8902 : s0 = 0 ∨ s0 = 1
  · rw [if_pos c_8902] at e
    obtain rfl := Option.some.inj e
    exact Rn.ret hT rfl rfl (if_pos c_8902) hq
  · rw [if_neg c_8902] at e
    cases e
def fX12_opens__b16 (N : Nat) (h : iv_H)   : Option (Int32) := (fX12_opens__b21 N h (1 : Int32))
set_option maxRecDepth 10000 in
set_option maxHeartbeats 4000000 in
theorem rX12_opens__b16 {d N : Nat} (hd : 0 ≤ d) {h : iv_H}   {r : Int32} {Q : Option Value → iv_H → Prop} (hq : Q (some (.int r)) h) (e : fX12_opens__b16 N h   = some r) : Rn d 307 (some .boolean) 16 [none, none] [] h Q := by
  have hT := hX12_opens_
  unfold fX12_opens__b16 at e
  refine Rn.n hT 2 (pc' := 21) (L' := [none, none]) (st' := [.int (1 : Int32)]) rfl ?_
  exact Rn.weak (ll_n (ll_n ll_e)) (rX12_opens__b21 hd hq e)
def fX12_opens_ (N : Nat) (h : iv_H) (x0 : Int32) (x1 : Int32) : Option (Int32) := (if x0 < (3 : Int32) then (fX12_opens__b16 N h) else (if ((x1 >>> ((x0 - (3 : Int32)) &&& 31)) &&& (1 : Int32)) = (1 : Int32) then (fX12_opens__b16 N h) else (fX12_opens__b21 N h (0 : Int32))))
set_option maxRecDepth 10000 in
set_option maxHeartbeats 4000000 in
theorem rX12_opens_ {d N : Nat} (hd : 1 ≤ d) {h : iv_H} {x0 : Int32} {x1 : Int32} {r : Int32} {Q : Option Value → iv_H → Prop} (e : fX12_opens_ N h x0 x1 = some r) (hq : Q (some (.int r)) h) : Cl d 307 [.int x0, .int x1] h Q := by
  obtain ⟨d, rfl⟩ : ∃ k, d = k + 1 := ⟨d - 1, by omega⟩
  have hd : 0 ≤ d := by omega
  have hT := hX12_opens_
  unfold fX12_opens_ at e
  refine Cl.into (by decide) gX12_opens_ rfl ?_
  show Rn d 307 (some .boolean) 0 [some (.int x0), some (.int x1)] [] h Q
  refine Rn.n hT 2 (pc' := 2) (L' := [some (.int x0), some (.int x1)]) (st' := [.int (3 : Int32), .int x0]) rfl ?_
  by_cases c_8900 : x0 < (3 : Int32)
  · rw [if_pos c_8900] at e
    refine Rn.bt hT rfl rfl rfl (decide_eq_true c_8900) ?_
    exact Rn.weak (ll_n (ll_n ll_e)) (rX12_opens__b16 hd hq e)
  · rw [if_neg c_8900] at e
    refine Rn.bf hT rfl rfl rfl (decide_eq_false c_8900) ?_
    refine Rn.n hT 8 (pc' := 13) (L' := [some (.int x0), some (.int x1)]) (st' := [.int (1 : Int32), .int ((x1 >>> ((x0 - (3 : Int32)) &&& 31)) &&& (1 : Int32))]) rfl ?_
    by_cases c_8901 : ((x1 >>> ((x0 - (3 : Int32)) &&& 31)) &&& (1 : Int32)) = (1 : Int32)
    · rw [if_pos c_8901] at e
      refine Rn.bf hT rfl rfl rfl (decide_eq_false (fun z => z c_8901)) ?_
      exact Rn.weak (ll_n (ll_n ll_e)) (rX12_opens__b16 hd hq e)
    · rw [if_neg c_8901] at e
      refine Rn.bt hT rfl rfl rfl (decide_eq_true c_8901) ?_
      refine Rn.n hT 1 (pc' := 21) (L' := [some (.int x0), some (.int x1)]) (st' := [.int (0 : Int32)]) rfl ?_
      exact Rn.weak (ll_n (ll_n ll_e)) (rX12_opens__b21 hd hq e)
set_option maxRecDepth 10000 in
theorem hX12_bagAt : iv_Tb 308 tX12_bagAt := iv_tb_of (m := mX12_bagAt) rfl
set_option maxRecDepth 10000 in
theorem gX12_bagAt : PG.2 308 = some mX12_bagAt := iv_pi_of (t := tX12_bagAt) rfl (by decide)
def fX12_bagAt (N : Nat) (h : iv_H) (q0 : Nat) (x1 : Int32) (x2 : Int32) : Option (Int32) := ((cko h q0 12).bind fun _ => (fX12_keysIn N h q0 x1).bind fun v_8905 => (some (x2 ||| (v_8905 >>> ((1 : Int32) &&& 31)))))
set_option maxRecDepth 10000 in
set_option maxHeartbeats 4000000 in
theorem rX12_bagAt {d N : Nat} (hd : 2 ≤ d) {h : iv_H} {q0 : Nat} {x1 : Int32} {x2 : Int32} {r : Int32} {Q : Option Value → iv_H → Prop} (e : fX12_bagAt N h q0 x1 x2 = some r) (hq : Q (some (.int r)) h) : Cl d 308 [.ref q0, .int x1, .int x2] h Q := by
  obtain ⟨d, rfl⟩ : ∃ k, d = k + 1 := ⟨d - 1, by omega⟩
  have hd : 1 ≤ d := by omega
  have hT := hX12_bagAt
  unfold fX12_bagAt at e
  refine Cl.into (by decide) gX12_bagAt rfl ?_
  show Rn d 308 (some .int) 0 [some (.ref q0), some (.int x1), some (.int x2)] [] h Q
  refine Rn.n hT 3 (pc' := 3) (L' := [some (.ref q0), some (.int x1), some (.int x2)]) (st' := [.int x1, .ref q0, .int x2]) rfl ?_
  obtain ⟨_, e_8904, e⟩ := Option.bind_eq_some_iff.mp e
  obtain ⟨v_8905, e_8903, e⟩ := Option.bind_eq_some_iff.mp e
  refine Rn.call hT rfl rfl rfl (Nat.le_of_ble_eq_true rfl) (rcv_v gX12_keysIn (by omega) e_8904) (rX12_keysIn (by omega) e_8903 ?_)
  show Rn d _ _ 6 [some (.ref q0), some (.int x1), some (.int x2)] [.int v_8905, .int x2] h Q
  refine Rn.n hT 3 (pc' := 9) (L' := [some (.ref q0), some (.int x1), some (.int x2)]) (st' := [.int (x2 ||| (v_8905 >>> ((1 : Int32) &&& 31)))]) rfl ?_
  obtain rfl := Option.some.inj e
  exact Rn.ret hT rfl rfl rfl hq
set_option maxRecDepth 10000 in
theorem hX12_comesIn : iv_Tb 310 tX12_comesIn := iv_tb_of (m := mX12_comesIn) rfl
set_option maxRecDepth 10000 in
theorem gX12_comesIn : PG.2 310 = some mX12_comesIn := iv_pi_of (t := tX12_comesIn) rfl (by decide)
def fX12_comesIn_b48 (N : Nat) (h : iv_H)   : Option (iv_H) := some h
set_option maxRecDepth 10000 in
set_option maxHeartbeats 4000000 in
theorem rX12_comesIn_b48 {d N : Nat} (hd : 0 ≤ d) {h : iv_H}   {r : iv_H} {Q : Option Value → iv_H → Prop} (hq : Q none r) (e : fX12_comesIn_b48 N h   = some r) : Rn d 310 none 48 [none, none, none, none, none] [] h Q := by
  have hT := hX12_comesIn
  unfold fX12_comesIn_b48 at e
  obtain rfl := Option.some.inj e
  exact Rn.ret hT rfl rfl rfl hq
def fX12_comesIn (N : Nat) (h : iv_H) (q0 : Nat) (x1 : Int32) (x2 : Int32) (x3 : Int32) : Option (iv_H) := ((gR h 12 64 q0).bind fun v_8906 => ((aI h v_8906 (((16 : Int32) * x1) + x2)).bind fun v_8908 => (if v_8908 = (-1 : Int32) then ((gR h 12 64 q0).bind fun v_8911 => ((wI h v_8911 (((16 : Int32) * x1) + x2) x3).bind fun h_8913 => ((gR h_8913 12 65 q0).bind fun v_8915 => ((gI h_8913 12 66 q0).bind fun v_8917 => ((wI h_8913 v_8915 v_8917 (((16 : Int32) * x1) + x2)).bind fun h_8919 => ((gI h_8919 12 66 q0).bind fun v_8921 => ((pV h_8919 12 66 q0 (.int (v_8921 + (1 : Int32)))).bind fun h_8923 => (fX12_comesIn_b48 N h_8923)))))))) else (fX12_comesIn_b48 N h))))
set_option maxRecDepth 10000 in
set_option maxHeartbeats 4000000 in
theorem rX12_comesIn {d N : Nat} (hd : 1 ≤ d) {h : iv_H} {q0 : Nat} {x1 : Int32} {x2 : Int32} {x3 : Int32} {r : iv_H} {Q : Option Value → iv_H → Prop} (e : fX12_comesIn N h q0 x1 x2 x3 = some r) (hq : Q none r) : Cl d 310 [.ref q0, .int x1, .int x2, .int x3] h Q := by
  obtain ⟨d, rfl⟩ : ∃ k, d = k + 1 := ⟨d - 1, by omega⟩
  have hd : 0 ≤ d := by omega
  have hT := hX12_comesIn
  unfold fX12_comesIn at e
  refine Cl.into (by decide) gX12_comesIn rfl ?_
  show Rn d 310 none 0 [some (.ref q0), some (.int x1), some (.int x2), some (.int x3), none] [] h Q
  refine Rn.n hT 7 (pc' := 9) (L' := [some (.ref q0), some (.int x1), some (.int x2), some (.int x3), some (.int (((16 : Int32) * x1) + x2))]) (st' := [.ref q0]) rfl ?_
  obtain ⟨v_8906, e_8907, e⟩ := Option.bind_eq_some_iff.mp e
  refine Rn.hp hT rfl rfl (gR_hp e_8907) ?_
  refine Rn.n hT 1 (pc' := 14) (L' := [some (.ref q0), some (.int x1), some (.int x2), some (.int x3), some (.int (((16 : Int32) * x1) + x2))]) (st' := [.int (((16 : Int32) * x1) + x2), .ref v_8906]) rfl ?_
  obtain ⟨v_8908, e_8909, e⟩ := Option.bind_eq_some_iff.mp e
  refine Rn.hp hT rfl rfl (aI_hp e_8909) ?_
  refine Rn.n hT 1 (pc' := 16) (L' := [some (.ref q0), some (.int x1), some (.int x2), some (.int x3), some (.int (((16 : Int32) * x1) + x2))]) (st' := [.int (-1 : Int32), .int v_8908]) rfl ?_
  by_cases c_8910 : v_8908 = (-1 : Int32)
  · rw [if_pos c_8910] at e
    refine Rn.bf hT rfl rfl rfl (decide_eq_false (fun z => z c_8910)) ?_
    refine Rn.n hT 1 (pc' := 20) (L' := [some (.ref q0), some (.int x1), some (.int x2), some (.int x3), some (.int (((16 : Int32) * x1) + x2))]) (st' := [.ref q0]) rfl ?_
    obtain ⟨v_8911, e_8912, e⟩ := Option.bind_eq_some_iff.mp e
    refine Rn.hp hT rfl rfl (gR_hp e_8912) ?_
    refine Rn.n hT 2 (pc' := 26) (L' := [some (.ref q0), some (.int x1), some (.int x2), some (.int x3), some (.int (((16 : Int32) * x1) + x2))]) (st' := [.int x3, .int (((16 : Int32) * x1) + x2), .ref v_8911]) rfl ?_
    obtain ⟨h_8913, e_8914, e⟩ := Option.bind_eq_some_iff.mp e
    refine Rn.hp hT rfl rfl (wI_hp e_8914) ?_
    refine Rn.n hT 1 (pc' := 28) (L' := [some (.ref q0), some (.int x1), some (.int x2), some (.int x3), some (.int (((16 : Int32) * x1) + x2))]) (st' := [.ref q0]) rfl ?_
    obtain ⟨v_8915, e_8916, e⟩ := Option.bind_eq_some_iff.mp e
    refine Rn.hp hT rfl rfl (gR_hp e_8916) ?_
    refine Rn.n hT 1 (pc' := 32) (L' := [some (.ref q0), some (.int x1), some (.int x2), some (.int x3), some (.int (((16 : Int32) * x1) + x2))]) (st' := [.ref q0, .ref v_8915]) rfl ?_
    obtain ⟨v_8917, e_8918, e⟩ := Option.bind_eq_some_iff.mp e
    refine Rn.hp hT rfl rfl (gI_hp e_8918) ?_
    refine Rn.n hT 1 (pc' := 37) (L' := [some (.ref q0), some (.int x1), some (.int x2), some (.int x3), some (.int (((16 : Int32) * x1) + x2))]) (st' := [.int (((16 : Int32) * x1) + x2), .int v_8917, .ref v_8915]) rfl ?_
    obtain ⟨h_8919, e_8920, e⟩ := Option.bind_eq_some_iff.mp e
    refine Rn.hp hT rfl rfl (wI_hp e_8920) ?_
    refine Rn.n hT 2 (pc' := 40) (L' := [some (.ref q0), some (.int x1), some (.int x2), some (.int x3), some (.int (((16 : Int32) * x1) + x2))]) (st' := [.ref q0, .ref q0]) rfl ?_
    obtain ⟨v_8921, e_8922, e⟩ := Option.bind_eq_some_iff.mp e
    refine Rn.hp hT rfl rfl (gI_hp e_8922) ?_
    refine Rn.n hT 2 (pc' := 45) (L' := [some (.ref q0), some (.int x1), some (.int x2), some (.int x3), some (.int (((16 : Int32) * x1) + x2))]) (st' := [.int (v_8921 + (1 : Int32)), .ref q0]) rfl ?_
    obtain ⟨h_8923, e_8924, e⟩ := Option.bind_eq_some_iff.mp e
    refine Rn.hp hT rfl rfl (pV_hp rfl e_8924) ?_
    exact Rn.weak (ll_n (ll_n (ll_n (ll_n (ll_n ll_e))))) (rX12_comesIn_b48 hd hq e)
  · rw [if_neg c_8910] at e
    refine Rn.bt hT rfl rfl rfl (decide_eq_true c_8910) ?_
    exact Rn.weak (ll_n (ll_n (ll_n (ll_n (ll_n ll_e))))) (rX12_comesIn_b48 hd hq e)
set_option maxRecDepth 10000 in
theorem hX12_goesByDay : iv_Tb 309 tX12_goesByDay := iv_tb_of (m := mX12_goesByDay) rfl
set_option maxRecDepth 10000 in
theorem gX12_goesByDay : PG.2 309 = some mX12_goesByDay := iv_pi_of (t := tX12_goesByDay) rfl (by decide)
def fX12_goesByDay_l2 (N : Nat) (q0 : Nat) (x1 : Int32) (kx : iv_H → Option (iv_H)) : Nat → iv_H → Int32 → Option (iv_H)
  | 0, _, _ => none
  | n + 1, h, x2 => ((gR h 12 64 q0).bind fun v_8936 => ((aL h v_8936).bind fun v_8938 => (if v_8938 ≤ x2 then (kx h) else ((gR h 12 64 q0).bind fun v_8941 => ((wI h v_8941 x2 (-1 : Int32)).bind fun h_8943 => (fX12_goesByDay_l2 N q0 x1 kx n h_8943 (x2 + (1 : Int32))))))))
set_option maxRecDepth 10000 in
set_option maxHeartbeats 4000000 in
theorem rX12_goesByDay_l2 {d N : Nat} (hd : 5 ≤ d) {q0 : Nat} {x1 : Int32} {kx : iv_H → Option (iv_H)} {r : iv_H} {Q : Option Value → iv_H → Prop} (hk : ∀ (h : iv_H), kx h = some r → Rn d 309 none 24 [some (.ref q0), some (.int x1), none, none, none, none, none] [] h Q) (hq : Q none r) : ∀ (n : Nat) (h : iv_H) (x2 : Int32), fX12_goesByDay_l2 N q0 x1 kx n h x2 = some r → Rn d 309 none 2 [some (.ref q0), some (.int x1), some (.int x2), none, none, none, none] [] h Q := by
  have hT := hX12_goesByDay
  intro n
  induction n with
  | zero =>
    intro h x2 e
    rw [fX12_goesByDay_l2] at e
    cases e
  | succ n ih =>
    intro h x2 e
    rw [fX12_goesByDay_l2] at e
    refine Rn.n hT 2 (pc' := 4) (L' := [some (.ref q0), some (.int x1), some (.int x2), none, none, none, none]) (st' := [.ref q0, .int x2]) rfl ?_
    obtain ⟨v_8936, e_8937, e⟩ := Option.bind_eq_some_iff.mp e
    refine Rn.hp hT rfl rfl (gR_hp e_8937) ?_
    obtain ⟨v_8938, e_8939, e⟩ := Option.bind_eq_some_iff.mp e
    refine Rn.hp hT rfl rfl (aL_hp e_8939) ?_
    by_cases c_8940 : v_8938 ≤ x2
    · rw [if_pos c_8940] at e
      refine Rn.bt hT rfl rfl rfl (decide_eq_true c_8940) ?_
      exact Rn.weak (ll_s (ll_s (ll_n (ll_n (ll_n (ll_n (ll_n ll_e))))))) (hk h e)
    · rw [if_neg c_8940] at e
      refine Rn.bf hT rfl rfl rfl (decide_eq_false c_8940) ?_
      refine Rn.n hT 1 (pc' := 12) (L' := [some (.ref q0), some (.int x1), some (.int x2), none, none, none, none]) (st' := [.ref q0]) rfl ?_
      obtain ⟨v_8941, e_8942, e⟩ := Option.bind_eq_some_iff.mp e
      refine Rn.hp hT rfl rfl (gR_hp e_8942) ?_
      refine Rn.n hT 2 (pc' := 17) (L' := [some (.ref q0), some (.int x1), some (.int x2), none, none, none, none]) (st' := [.int (-1 : Int32), .int x2, .ref v_8941]) rfl ?_
      obtain ⟨h_8943, e_8944, e⟩ := Option.bind_eq_some_iff.mp e
      refine Rn.hp hT rfl rfl (wI_hp e_8944) ?_
      refine Rn.n hT 2 (pc' := 2) (L' := [some (.ref q0), some (.int x1), some (.int (x2 + (1 : Int32))), none, none, none, none]) (st' := []) rfl ?_
      exact Rn.weak (ll_s (ll_s (ll_s (ll_n (ll_n (ll_n (ll_n ll_e))))))) (ih h_8943 (x2 + (1 : Int32)) e)
def fX12_goesByDay_b162 (N : Nat) (h : iv_H) (q0 : Nat) (x2 : Int32) (x3 : Int32) (x4 : Int32) (x5 : Int32)  (kb : iv_H → Int32 → Option (iv_H)) (kx : iv_H → Option (iv_H)) : Option (iv_H) := (kb h (x5 + (1 : Int32)))
set_option maxRecDepth 10000 in
set_option maxHeartbeats 4000000 in
theorem rX12_goesByDay_b162 {d N : Nat} (hd : 5 ≤ d) {h : iv_H} {q0 : Nat} {x2 : Int32} {x3 : Int32} {x4 : Int32} {x5 : Int32}  {kb : iv_H → Int32 → Option (iv_H)} {kx : iv_H → Option (iv_H)} {r : iv_H} {Q : Option Value → iv_H → Prop} (hb : ∀ (h : iv_H) (w5 : Int32), kb h w5 = some r → Rn d 309 none 75 [some (.ref q0), none, some (.int x2), some (.int x3), some (.int x4), some (.int w5), none] [] h Q) (hk : ∀ (h : iv_H), kx h = some r → Rn d 309 none 168 [some (.ref q0), none, some (.int x2), none, none, none, none] [] h Q) (hq : Q none r) (e : fX12_goesByDay_b162 N h q0 x2 x3 x4 x5  kb kx = some r) : Rn d 309 none 162 [some (.ref q0), none, some (.int x2), some (.int x3), some (.int x4), some (.int x5), none] [] h Q := by
  have hT := hX12_goesByDay
  unfold fX12_goesByDay_b162 at e
  refine Rn.n hT 2 (pc' := 75) (L' := [some (.ref q0), none, some (.int x2), some (.int x3), some (.int x4), some (.int (x5 + (1 : Int32))), none]) (st' := []) rfl ?_
  exact Rn.weak (ll_s (ll_n (ll_s (ll_s (ll_s (ll_s (ll_n ll_e))))))) (hb h (x5 + (1 : Int32)) e)
def fX12_goesByDay_l75 (N : Nat) (q0 : Nat) (x2 : Int32) (x3 : Int32) (x4 : Int32) (kx : iv_H → Option (iv_H)) : Nat → iv_H → Int32 → Option (iv_H)
  | 0, _, _ => none
  | n + 1, h, x5 => (if (4 : Int32) ≤ x5 then (kx h) else ((cko h q0 12).bind fun _ => (fX12_faced N h q0 x3 x5).bind fun v_8960 => ((cko h q0 12).bind fun _ => (fX12_isDoorToDoor N h q0 x3 x5).bind fun v_8963 => (if v_8963 = 0 then (fX12_goesByDay_b162 N h q0 x2 x3 x4 x5 (fX12_goesByDay_l75 N q0 x2 x3 x4 kx n) kx) else ((cko h q0 12).bind fun _ => (fX12_sideOf N h q0 x3 x5).bind fun v_8967 => ((fX12_opens_ N h v_8967 x4).bind fun v_8969 => (if v_8969 = 0 then (fX12_goesByDay_b162 N h q0 x2 x3 x4 x5 (fX12_goesByDay_l75 N q0 x2 x3 x4 kx n) kx) else ((cko h q0 12).bind fun _ => (fX12_sideOf N h q0 v_8960 ((x5 + (2 : Int32)) &&& (3 : Int32))).bind fun v_8973 => ((fX12_opens_ N h v_8973 x4).bind fun v_8975 => (if v_8975 = 0 then (fX12_goesByDay_b162 N h q0 x2 x3 x4 x5 (fX12_goesByDay_l75 N q0 x2 x3 x4 kx n) kx) else ((cko h q0 12).bind fun _ => (fX12_bagAt N h q0 v_8960 x4).bind fun v_8979 => ((gR h 12 64 q0).bind fun v_8980 => ((gR h 12 65 q0).bind fun v_8982 => ((aI h v_8982 x2).bind fun v_8984 => ((aI h v_8980 v_8984).bind fun v_8986 => ((cko h q0 12).bind fun _ => (fX12_comesIn N h q0 v_8960 v_8979 (v_8986 + (1 : Int32))).bind fun h_8991 => (fX12_goesByDay_b162 N h_8991 q0 x2 x3 x4 x5 (fX12_goesByDay_l75 N q0 x2 x3 x4 kx n) kx)))))))))))))))))
set_option maxRecDepth 10000 in
set_option maxHeartbeats 4000000 in
theorem rX12_goesByDay_l75 {d N : Nat} (hd : 5 ≤ d) {q0 : Nat} {x2 : Int32} {x3 : Int32} {x4 : Int32} {kx : iv_H → Option (iv_H)} {r : iv_H} {Q : Option Value → iv_H → Prop} (hk : ∀ (h : iv_H), kx h = some r → Rn d 309 none 168 [some (.ref q0), none, some (.int x2), none, none, none, none] [] h Q) (hq : Q none r) : ∀ (n : Nat) (h : iv_H) (x5 : Int32), fX12_goesByDay_l75 N q0 x2 x3 x4 kx n h x5 = some r → Rn d 309 none 75 [some (.ref q0), none, some (.int x2), some (.int x3), some (.int x4), some (.int x5), none] [] h Q := by
  have hT := hX12_goesByDay
  intro n
  induction n with
  | zero =>
    intro h x5 e
    rw [fX12_goesByDay_l75] at e
    cases e
  | succ n ih =>
    intro h x5 e
    rw [fX12_goesByDay_l75] at e
    refine Rn.n hT 2 (pc' := 78) (L' := [some (.ref q0), none, some (.int x2), some (.int x3), some (.int x4), some (.int x5), none]) (st' := [.int (4 : Int32), .int x5]) rfl ?_
    by_cases c_8957 : (4 : Int32) ≤ x5
    · rw [if_pos c_8957] at e
      refine Rn.bt hT rfl rfl rfl (decide_eq_true c_8957) ?_
      exact Rn.weak (ll_s (ll_n (ll_s (ll_n (ll_n (ll_n (ll_n ll_e))))))) (hk h e)
    · rw [if_neg c_8957] at e
      refine Rn.bf hT rfl rfl rfl (decide_eq_false c_8957) ?_
      refine Rn.n hT 3 (pc' := 85) (L' := [some (.ref q0), none, some (.int x2), some (.int x3), some (.int x4), some (.int x5), none]) (st' := [.int x5, .int x3, .ref q0]) rfl ?_
      obtain ⟨_, e_8959, e⟩ := Option.bind_eq_some_iff.mp e
      obtain ⟨v_8960, e_8958, e⟩ := Option.bind_eq_some_iff.mp e
      refine Rn.call hT rfl rfl rfl (Nat.le_of_ble_eq_true rfl) (rcv_v gX12_faced (by omega) e_8959) (rX12_faced (by omega) e_8958 ?_)
      show Rn d _ _ 88 [some (.ref q0), none, some (.int x2), some (.int x3), some (.int x4), some (.int x5), none] [.int v_8960] h Q
      refine Rn.n hT 4 (pc' := 94) (L' := [some (.ref q0), none, some (.int x2), some (.int x3), some (.int x4), some (.int x5), some (.int v_8960)]) (st' := [.int x5, .int x3, .ref q0]) rfl ?_
      obtain ⟨_, e_8962, e⟩ := Option.bind_eq_some_iff.mp e
      obtain ⟨v_8963, e_8961, e⟩ := Option.bind_eq_some_iff.mp e
      refine Rn.call hT rfl rfl rfl (Nat.le_of_ble_eq_true rfl) (rcv_v gX12_isDoorToDoor (by omega) e_8962) (rX12_isDoorToDoor (by omega) e_8961 ?_)
      show Rn d _ _ 97 [some (.ref q0), none, some (.int x2), some (.int x3), some (.int x4), some (.int x5), some (.int v_8960)] [.int v_8963] h Q
      by_cases c_8964 : v_8963 = 0
      · rw [if_pos c_8964] at e
        refine Rn.bt hT rfl rfl rfl (decide_eq_true c_8964) ?_
        exact Rn.weak (ll_s (ll_n (ll_s (ll_s (ll_s (ll_s (ll_n ll_e))))))) (rX12_goesByDay_b162 hd ih hk hq e)
      · rw [if_neg c_8964] at e
        refine Rn.bf hT rfl rfl rfl (decide_eq_false c_8964) ?_
        refine Rn.n hT 3 (pc' := 104) (L' := [some (.ref q0), none, some (.int x2), some (.int x3), some (.int x4), some (.int x5), some (.int v_8960)]) (st' := [.int x5, .int x3, .ref q0]) rfl ?_
        obtain ⟨_, e_8966, e⟩ := Option.bind_eq_some_iff.mp e
        obtain ⟨v_8967, e_8965, e⟩ := Option.bind_eq_some_iff.mp e
        refine Rn.call hT rfl rfl rfl (Nat.le_of_ble_eq_true rfl) (rcv_v gX12_sideOf (by omega) e_8966) (rX12_sideOf (by omega) e_8965 ?_)
        show Rn d _ _ 107 [some (.ref q0), none, some (.int x2), some (.int x3), some (.int x4), some (.int x5), some (.int v_8960)] [.int v_8967] h Q
        refine Rn.n hT 1 (pc' := 109) (L' := [some (.ref q0), none, some (.int x2), some (.int x3), some (.int x4), some (.int x5), some (.int v_8960)]) (st' := [.int x4, .int v_8967]) rfl ?_
        obtain ⟨v_8969, e_8968, e⟩ := Option.bind_eq_some_iff.mp e
        refine Rn.call hT rfl rfl rfl (Nat.le_of_ble_eq_true rfl) rfl (rX12_opens_ (by omega) e_8968 ?_)
        show Rn d _ _ 112 [some (.ref q0), none, some (.int x2), some (.int x3), some (.int x4), some (.int x5), some (.int v_8960)] [.int v_8969] h Q
        by_cases c_8970 : v_8969 = 0
        · rw [if_pos c_8970] at e
          refine Rn.bt hT rfl rfl rfl (decide_eq_true c_8970) ?_
          exact Rn.weak (ll_s (ll_n (ll_s (ll_s (ll_s (ll_s (ll_n ll_e))))))) (rX12_goesByDay_b162 hd ih hk hq e)
        · rw [if_neg c_8970] at e
          refine Rn.bf hT rfl rfl rfl (decide_eq_false c_8970) ?_
          refine Rn.n hT 7 (pc' := 124) (L' := [some (.ref q0), none, some (.int x2), some (.int x3), some (.int x4), some (.int x5), some (.int v_8960)]) (st' := [.int ((x5 + (2 : Int32)) &&& (3 : Int32)), .int v_8960, .ref q0]) rfl ?_
          obtain ⟨_, e_8972, e⟩ := Option.bind_eq_some_iff.mp e
          obtain ⟨v_8973, e_8971, e⟩ := Option.bind_eq_some_iff.mp e
          refine Rn.call hT rfl rfl rfl (Nat.le_of_ble_eq_true rfl) (rcv_v gX12_sideOf (by omega) e_8972) (rX12_sideOf (by omega) e_8971 ?_)
          show Rn d _ _ 127 [some (.ref q0), none, some (.int x2), some (.int x3), some (.int x4), some (.int x5), some (.int v_8960)] [.int v_8973] h Q
          refine Rn.n hT 1 (pc' := 129) (L' := [some (.ref q0), none, some (.int x2), some (.int x3), some (.int x4), some (.int x5), some (.int v_8960)]) (st' := [.int x4, .int v_8973]) rfl ?_
          obtain ⟨v_8975, e_8974, e⟩ := Option.bind_eq_some_iff.mp e
          refine Rn.call hT rfl rfl rfl (Nat.le_of_ble_eq_true rfl) rfl (rX12_opens_ (by omega) e_8974 ?_)
          show Rn d _ _ 132 [some (.ref q0), none, some (.int x2), some (.int x3), some (.int x4), some (.int x5), some (.int v_8960)] [.int v_8975] h Q
          by_cases c_8976 : v_8975 = 0
          · rw [if_pos c_8976] at e
            refine Rn.bt hT rfl rfl rfl (decide_eq_true c_8976) ?_
            exact Rn.weak (ll_s (ll_n (ll_s (ll_s (ll_s (ll_s (ll_n ll_e))))))) (rX12_goesByDay_b162 hd ih hk hq e)
          · rw [if_neg c_8976] at e
            refine Rn.bf hT rfl rfl rfl (decide_eq_false c_8976) ?_
            refine Rn.n hT 5 (pc' := 143) (L' := [some (.ref q0), none, some (.int x2), some (.int x3), some (.int x4), some (.int x5), some (.int v_8960)]) (st' := [.int x4, .int v_8960, .ref q0, .int v_8960, .ref q0]) rfl ?_
            obtain ⟨_, e_8978, e⟩ := Option.bind_eq_some_iff.mp e
            obtain ⟨v_8979, e_8977, e⟩ := Option.bind_eq_some_iff.mp e
            refine Rn.call hT rfl rfl rfl (Nat.le_of_ble_eq_true rfl) (rcv_v gX12_bagAt (by omega) e_8978) (rX12_bagAt (by omega) e_8977 ?_)
            show Rn d _ _ 146 [some (.ref q0), none, some (.int x2), some (.int x3), some (.int x4), some (.int x5), some (.int v_8960)] [.int v_8979, .int v_8960, .ref q0] h Q
            refine Rn.n hT 1 (pc' := 147) (L' := [some (.ref q0), none, some (.int x2), some (.int x3), some (.int x4), some (.int x5), some (.int v_8960)]) (st' := [.ref q0, .int v_8979, .int v_8960, .ref q0]) rfl ?_
            obtain ⟨v_8980, e_8981, e⟩ := Option.bind_eq_some_iff.mp e
            refine Rn.hp hT rfl rfl (gR_hp e_8981) ?_
            refine Rn.n hT 1 (pc' := 151) (L' := [some (.ref q0), none, some (.int x2), some (.int x3), some (.int x4), some (.int x5), some (.int v_8960)]) (st' := [.ref q0, .ref v_8980, .int v_8979, .int v_8960, .ref q0]) rfl ?_
            obtain ⟨v_8982, e_8983, e⟩ := Option.bind_eq_some_iff.mp e
            refine Rn.hp hT rfl rfl (gR_hp e_8983) ?_
            refine Rn.n hT 1 (pc' := 155) (L' := [some (.ref q0), none, some (.int x2), some (.int x3), some (.int x4), some (.int x5), some (.int v_8960)]) (st' := [.int x2, .ref v_8982, .ref v_8980, .int v_8979, .int v_8960, .ref q0]) rfl ?_
            obtain ⟨v_8984, e_8985, e⟩ := Option.bind_eq_some_iff.mp e
            refine Rn.hp hT rfl rfl (aI_hp e_8985) ?_
            obtain ⟨v_8986, e_8987, e⟩ := Option.bind_eq_some_iff.mp e
            refine Rn.hp hT rfl rfl (aI_hp e_8987) ?_
            refine Rn.n hT 2 (pc' := 159) (L' := [some (.ref q0), none, some (.int x2), some (.int x3), some (.int x4), some (.int x5), some (.int v_8960)]) (st' := [.int (v_8986 + (1 : Int32)), .int v_8979, .int v_8960, .ref q0]) rfl ?_
            obtain ⟨_, e_8989, e⟩ := Option.bind_eq_some_iff.mp e
            obtain ⟨h_8991, e_8988, e⟩ := Option.bind_eq_some_iff.mp e
            refine Rn.call hT rfl rfl rfl (Nat.le_of_ble_eq_true rfl) (rcv_v gX12_comesIn (by omega) e_8989) (rX12_comesIn (by omega) e_8988 ?_)
            show Rn d _ _ 162 [some (.ref q0), none, some (.int x2), some (.int x3), some (.int x4), some (.int x5), some (.int v_8960)] [] h_8991 Q
            exact Rn.weak (ll_s (ll_n (ll_s (ll_s (ll_s (ll_s (ll_n ll_e))))))) (rX12_goesByDay_b162 hd ih hk hq e)
def fX12_goesByDay_l43 (N : Nat) (q0 : Nat) (kx : iv_H → Option (iv_H)) : Nat → iv_H → Int32 → Option (iv_H)
  | 0, _, _ => none
  | n + 1, h, x2 => ((gI h 12 66 q0).bind fun v_8945 => (if v_8945 ≤ x2 then (kx h) else ((gR h 12 65 q0).bind fun v_8948 => ((aI h v_8948 x2).bind fun v_8950 => ((gR h 12 65 q0).bind fun v_8952 => ((aI h v_8952 x2).bind fun v_8954 => (fX12_goesByDay_l75 N q0 x2 (v_8950 / (16 : Int32)) (v_8954 - v_8954 / (16 : Int32) * (16 : Int32)) (fun (h_8956 : iv_H) => (fX12_goesByDay_l43 N q0 kx n h_8956 (x2 + (1 : Int32)))) N h (0 : Int32))))))))
set_option maxRecDepth 10000 in
set_option maxHeartbeats 4000000 in
theorem rX12_goesByDay_l43 {d N : Nat} (hd : 5 ≤ d) {q0 : Nat} {kx : iv_H → Option (iv_H)} {r : iv_H} {Q : Option Value → iv_H → Prop} (hk : ∀ (h : iv_H), kx h = some r → Rn d 309 none 174 [none, none, none, none, none, none, none] [] h Q) (hq : Q none r) : ∀ (n : Nat) (h : iv_H) (x2 : Int32), fX12_goesByDay_l43 N q0 kx n h x2 = some r → Rn d 309 none 43 [some (.ref q0), none, some (.int x2), none, none, none, none] [] h Q := by
  have hT := hX12_goesByDay
  intro n
  induction n with
  | zero =>
    intro h x2 e
    rw [fX12_goesByDay_l43] at e
    cases e
  | succ n ih =>
    intro h x2 e
    rw [fX12_goesByDay_l43] at e
    refine Rn.n hT 2 (pc' := 45) (L' := [some (.ref q0), none, some (.int x2), none, none, none, none]) (st' := [.ref q0, .int x2]) rfl ?_
    obtain ⟨v_8945, e_8946, e⟩ := Option.bind_eq_some_iff.mp e
    refine Rn.hp hT rfl rfl (gI_hp e_8946) ?_
    by_cases c_8947 : v_8945 ≤ x2
    · rw [if_pos c_8947] at e
      refine Rn.bt hT rfl rfl rfl (decide_eq_true c_8947) ?_
      exact Rn.weak (ll_n (ll_n (ll_n (ll_n (ll_n (ll_n (ll_n ll_e))))))) (hk h e)
    · rw [if_neg c_8947] at e
      refine Rn.bf hT rfl rfl rfl (decide_eq_false c_8947) ?_
      refine Rn.n hT 1 (pc' := 52) (L' := [some (.ref q0), none, some (.int x2), none, none, none, none]) (st' := [.ref q0]) rfl ?_
      obtain ⟨v_8948, e_8949, e⟩ := Option.bind_eq_some_iff.mp e
      refine Rn.hp hT rfl rfl (gR_hp e_8949) ?_
      refine Rn.n hT 1 (pc' := 56) (L' := [some (.ref q0), none, some (.int x2), none, none, none, none]) (st' := [.int x2, .ref v_8948]) rfl ?_
      obtain ⟨v_8950, e_8951, e⟩ := Option.bind_eq_some_iff.mp e
      refine Rn.hp hT rfl rfl (aI_hp e_8951) ?_
      refine Rn.n hT 4 (pc' := 62) (L' := [some (.ref q0), none, some (.int x2), some (.int (v_8950 / (16 : Int32))), none, none, none]) (st' := [.ref q0]) rfl ?_
      obtain ⟨v_8952, e_8953, e⟩ := Option.bind_eq_some_iff.mp e
      refine Rn.hp hT rfl rfl (gR_hp e_8953) ?_
      refine Rn.n hT 1 (pc' := 66) (L' := [some (.ref q0), none, some (.int x2), some (.int (v_8950 / (16 : Int32))), none, none, none]) (st' := [.int x2, .ref v_8952]) rfl ?_
      obtain ⟨v_8954, e_8955, e⟩ := Option.bind_eq_some_iff.mp e
      refine Rn.hp hT rfl rfl (aI_hp e_8955) ?_
      refine Rn.n hT 5 (pc' := 75) (L' := [some (.ref q0), none, some (.int x2), some (.int (v_8950 / (16 : Int32))), some (.int (v_8954 - v_8954 / (16 : Int32) * (16 : Int32))), some (.int (0 : Int32)), none]) (st' := []) rfl ?_
      refine Rn.weak (ll_s (ll_n (ll_s (ll_s (ll_s (ll_s (ll_n ll_e))))))) (rX12_goesByDay_l75 hd (fun h_8956 e => ?_) hq N h (0 : Int32) e)
      try dsimp only at e
      refine Rn.n hT 2 (pc' := 43) (L' := [some (.ref q0), none, some (.int (x2 + (1 : Int32))), none, none, none, none]) (st' := []) rfl ?_
      exact Rn.weak (ll_s (ll_n (ll_s (ll_n (ll_n (ll_n (ll_n ll_e))))))) (ih h_8956 (x2 + (1 : Int32)) e)
def fX12_goesByDay (N : Nat) (h : iv_H) (q0 : Nat) (x1 : Int32) : Option (iv_H) := (fX12_goesByDay_l2 N q0 x1 (fun (h_8925 : iv_H) => ((pV h_8925 12 66 q0 (.int (0 : Int32))).bind fun h_8926 => ((cko h_8926 q0 12).bind fun _ => (fX12_bagAt N h_8926 q0 x1 (0 : Int32)).bind fun v_8930 => ((cko h_8926 q0 12).bind fun _ => (fX12_comesIn N h_8926 q0 x1 v_8930 (0 : Int32)).bind fun h_8934 => (fX12_goesByDay_l43 N q0 (fun (h_8935 : iv_H) => some h_8935) N h_8934 (0 : Int32)))))) N h (0 : Int32))
set_option maxRecDepth 10000 in
set_option maxHeartbeats 4000000 in
theorem rX12_goesByDay {d N : Nat} (hd : 6 ≤ d) {h : iv_H} {q0 : Nat} {x1 : Int32} {r : iv_H} {Q : Option Value → iv_H → Prop} (e : fX12_goesByDay N h q0 x1 = some r) (hq : Q none r) : Cl d 309 [.ref q0, .int x1] h Q := by
  obtain ⟨d, rfl⟩ : ∃ k, d = k + 1 := ⟨d - 1, by omega⟩
  have hd : 5 ≤ d := by omega
  have hT := hX12_goesByDay
  unfold fX12_goesByDay at e
  refine Cl.into (by decide) gX12_goesByDay rfl ?_
  show Rn d 309 none 0 [some (.ref q0), some (.int x1), none, none, none, none, none] [] h Q
  refine Rn.n hT 2 (pc' := 2) (L' := [some (.ref q0), some (.int x1), some (.int (0 : Int32)), none, none, none, none]) (st' := []) rfl ?_
  refine Rn.weak (ll_s (ll_s (ll_s (ll_n (ll_n (ll_n (ll_n ll_e))))))) (rX12_goesByDay_l2 hd (fun h_8925 e => ?_) hq N h (0 : Int32) e)
  try dsimp only at e
  refine Rn.n hT 2 (pc' := 26) (L' := [some (.ref q0), some (.int x1), none, none, none, none, none]) (st' := [.int (0 : Int32), .ref q0]) rfl ?_
  obtain ⟨h_8926, e_8927, e⟩ := Option.bind_eq_some_iff.mp e
  refine Rn.hp hT rfl rfl (pV_hp rfl e_8927) ?_
  refine Rn.n hT 5 (pc' := 34) (L' := [some (.ref q0), some (.int x1), none, none, none, none, none]) (st' := [.int (0 : Int32), .int x1, .ref q0, .int x1, .ref q0]) rfl ?_
  obtain ⟨_, e_8929, e⟩ := Option.bind_eq_some_iff.mp e
  obtain ⟨v_8930, e_8928, e⟩ := Option.bind_eq_some_iff.mp e
  refine Rn.call hT rfl rfl rfl (Nat.le_of_ble_eq_true rfl) (rcv_v gX12_bagAt (by omega) e_8929) (rX12_bagAt (by omega) e_8928 ?_)
  show Rn d _ _ 37 [some (.ref q0), some (.int x1), none, none, none, none, none] [.int v_8930, .int x1, .ref q0] h_8926 Q
  refine Rn.n hT 1 (pc' := 38) (L' := [some (.ref q0), some (.int x1), none, none, none, none, none]) (st' := [.int (0 : Int32), .int v_8930, .int x1, .ref q0]) rfl ?_
  obtain ⟨_, e_8932, e⟩ := Option.bind_eq_some_iff.mp e
  obtain ⟨h_8934, e_8931, e⟩ := Option.bind_eq_some_iff.mp e
  refine Rn.call hT rfl rfl rfl (Nat.le_of_ble_eq_true rfl) (rcv_v gX12_comesIn (by omega) e_8932) (rX12_comesIn (by omega) e_8931 ?_)
  show Rn d _ _ 41 [some (.ref q0), some (.int x1), none, none, none, none, none] [] h_8934 Q
  refine Rn.n hT 2 (pc' := 43) (L' := [some (.ref q0), some (.int x1), some (.int (0 : Int32)), none, none, none, none]) (st' := []) rfl ?_
  refine Rn.weak (ll_s (ll_n (ll_s (ll_n (ll_n (ll_n (ll_n ll_e))))))) (rX12_goesByDay_l43 hd (fun h_8935 e => ?_) hq N h_8934 (0 : Int32) e)
  try dsimp only at e
  obtain rfl := Option.some.inj e
  exact Rn.ret hT rfl rfl rfl hq
set_option maxRecDepth 10000 in
theorem hX12_steps : iv_Tb 311 tX12_steps := iv_tb_of (m := mX12_steps) rfl
set_option maxRecDepth 10000 in
theorem gX12_steps : PG.2 311 = some mX12_steps := iv_pi_of (t := tX12_steps) rfl (by decide)
def fX12_steps_b16 (N : Nat) (h : iv_H)   : Option (Int32 × iv_H) := (some ((-1 : Int32), h))
set_option maxRecDepth 10000 in
set_option maxHeartbeats 4000000 in
theorem rX12_steps_b16 {d N : Nat} (hd : 6 ≤ d) {h : iv_H}   {r : Int32 × iv_H} {Q : Option Value → iv_H → Prop} (hq : Q (some (.int r.1)) r.2) (e : fX12_steps_b16 N h   = some r) : Rn d 311 (some .int) 16 [none, none, none, none] [] h Q := by
  have hT := hX12_steps
  unfold fX12_steps_b16 at e
  refine Rn.n hT 1 (pc' := 17) (L' := [none, none, none, none]) (st' := [.int (-1 : Int32)]) rfl ?_
  obtain rfl := Option.some.inj e
  exact Rn.ret hT rfl rfl rfl hq
def fX12_steps_l25 (N : Nat) (q0 : Nat) (x2 : Int32) (kx : iv_H → Option (Int32 × iv_H)) : Nat → iv_H → Int32 → Option (Int32 × iv_H)
  | 0, _, _ => none
  | n + 1, h, x3 => ((gI h 12 66 q0).bind fun v_9005 => (if v_9005 ≤ x3 then (kx h) else ((gR h 12 65 q0).bind fun v_9008 => ((aI h v_9008 x3).bind fun v_9010 => (if (v_9010 / (16 : Int32)) = x2 then ((gR h 12 64 q0).bind fun v_9013 => ((gR h 12 65 q0).bind fun v_9015 => ((aI h v_9015 x3).bind fun v_9017 => ((aI h v_9013 v_9017).bind fun v_9019 => (some (v_9019, h)))))) else (fX12_steps_l25 N q0 x2 kx n h (x3 + (1 : Int32))))))))
set_option maxRecDepth 10000 in
set_option maxHeartbeats 4000000 in
theorem rX12_steps_l25 {d N : Nat} (hd : 6 ≤ d) {q0 : Nat} {x2 : Int32} {kx : iv_H → Option (Int32 × iv_H)} {r : Int32 × iv_H} {Q : Option Value → iv_H → Prop} (hk : ∀ (h : iv_H), kx h = some r → Rn d 311 (some .int) 64 [none, none, none, none] [] h Q) (hq : Q (some (.int r.1)) r.2) : ∀ (n : Nat) (h : iv_H) (x3 : Int32), fX12_steps_l25 N q0 x2 kx n h x3 = some r → Rn d 311 (some .int) 25 [some (.ref q0), none, some (.int x2), some (.int x3)] [] h Q := by
  have hT := hX12_steps
  intro n
  induction n with
  | zero =>
    intro h x3 e
    rw [fX12_steps_l25] at e
    cases e
  | succ n ih =>
    intro h x3 e
    rw [fX12_steps_l25] at e
    refine Rn.n hT 2 (pc' := 27) (L' := [some (.ref q0), none, some (.int x2), some (.int x3)]) (st' := [.ref q0, .int x3]) rfl ?_
    obtain ⟨v_9005, e_9006, e⟩ := Option.bind_eq_some_iff.mp e
    refine Rn.hp hT rfl rfl (gI_hp e_9006) ?_
    by_cases c_9007 : v_9005 ≤ x3
    · rw [if_pos c_9007] at e
      refine Rn.bt hT rfl rfl rfl (decide_eq_true c_9007) ?_
      exact Rn.weak (ll_n (ll_n (ll_n (ll_n ll_e)))) (hk h e)
    · rw [if_neg c_9007] at e
      refine Rn.bf hT rfl rfl rfl (decide_eq_false c_9007) ?_
      refine Rn.n hT 1 (pc' := 34) (L' := [some (.ref q0), none, some (.int x2), some (.int x3)]) (st' := [.ref q0]) rfl ?_
      obtain ⟨v_9008, e_9009, e⟩ := Option.bind_eq_some_iff.mp e
      refine Rn.hp hT rfl rfl (gR_hp e_9009) ?_
      refine Rn.n hT 1 (pc' := 38) (L' := [some (.ref q0), none, some (.int x2), some (.int x3)]) (st' := [.int x3, .ref v_9008]) rfl ?_
      obtain ⟨v_9010, e_9011, e⟩ := Option.bind_eq_some_iff.mp e
      refine Rn.hp hT rfl rfl (aI_hp e_9011) ?_
      refine Rn.n hT 3 (pc' := 43) (L' := [some (.ref q0), none, some (.int x2), some (.int x3)]) (st' := [.int x2, .int (v_9010 / (16 : Int32))]) rfl ?_
      by_cases c_9012 : (v_9010 / (16 : Int32)) = x2
      · rw [if_pos c_9012] at e
        refine Rn.bf hT rfl rfl rfl (decide_eq_false (fun z => z c_9012)) ?_
        refine Rn.n hT 1 (pc' := 47) (L' := [some (.ref q0), none, some (.int x2), some (.int x3)]) (st' := [.ref q0]) rfl ?_
        obtain ⟨v_9013, e_9014, e⟩ := Option.bind_eq_some_iff.mp e
        refine Rn.hp hT rfl rfl (gR_hp e_9014) ?_
        refine Rn.n hT 1 (pc' := 51) (L' := [some (.ref q0), none, some (.int x2), some (.int x3)]) (st' := [.ref q0, .ref v_9013]) rfl ?_
        obtain ⟨v_9015, e_9016, e⟩ := Option.bind_eq_some_iff.mp e
        refine Rn.hp hT rfl rfl (gR_hp e_9016) ?_
        refine Rn.n hT 1 (pc' := 55) (L' := [some (.ref q0), none, some (.int x2), some (.int x3)]) (st' := [.int x3, .ref v_9015, .ref v_9013]) rfl ?_
        obtain ⟨v_9017, e_9018, e⟩ := Option.bind_eq_some_iff.mp e
        refine Rn.hp hT rfl rfl (aI_hp e_9018) ?_
        obtain ⟨v_9019, e_9020, e⟩ := Option.bind_eq_some_iff.mp e
        refine Rn.hp hT rfl rfl (aI_hp e_9020) ?_
        obtain rfl := Option.some.inj e
        exact Rn.ret hT rfl rfl rfl hq
      · rw [if_neg c_9012] at e
        refine Rn.bt hT rfl rfl rfl (decide_eq_true c_9012) ?_
        refine Rn.n hT 2 (pc' := 25) (L' := [some (.ref q0), none, some (.int x2), some (.int (x3 + (1 : Int32)))]) (st' := []) rfl ?_
        exact Rn.weak (ll_s (ll_n (ll_s (ll_s ll_e)))) (ih h (x3 + (1 : Int32)) e)
def fX12_steps (N : Nat) (h : iv_H) (q0 : Nat) (x1 : Int32) (x2 : Int32) : Option (Int32 × iv_H) := ((cko h q0 12).bind fun _ => (fX12_isRoom N h q0 x1).bind fun v_8994 => (if v_8994 = 0 then (fX12_steps_b16 N h) else ((cko h q0 12).bind fun _ => (fX12_isRoom N h q0 x2).bind fun v_8998 => (if v_8998 = 0 then (fX12_steps_b16 N h) else ((cko h q0 12).bind fun _ => (fX12_goesByDay N h q0 x1).bind fun h_9003 => (fX12_steps_l25 N q0 x2 (fun (h_9004 : iv_H) => (some ((-2 : Int32), h_9004))) N h_9003 (0 : Int32)))))))
set_option maxRecDepth 10000 in
set_option maxHeartbeats 4000000 in
theorem rX12_steps {d N : Nat} (hd : 7 ≤ d) {h : iv_H} {q0 : Nat} {x1 : Int32} {x2 : Int32} {r : Int32 × iv_H} {Q : Option Value → iv_H → Prop} (e : fX12_steps N h q0 x1 x2 = some r) (hq : Q (some (.int r.1)) r.2) : Cl d 311 [.ref q0, .int x1, .int x2] h Q := by
  obtain ⟨d, rfl⟩ : ∃ k, d = k + 1 := ⟨d - 1, by omega⟩
  have hd : 6 ≤ d := by omega
  have hT := hX12_steps
  unfold fX12_steps at e
  refine Cl.into (by decide) gX12_steps rfl ?_
  show Rn d 311 (some .int) 0 [some (.ref q0), some (.int x1), some (.int x2), none] [] h Q
  refine Rn.n hT 2 (pc' := 2) (L' := [some (.ref q0), some (.int x1), some (.int x2), none]) (st' := [.int x1, .ref q0]) rfl ?_
  obtain ⟨_, e_8993, e⟩ := Option.bind_eq_some_iff.mp e
  obtain ⟨v_8994, e_8992, e⟩ := Option.bind_eq_some_iff.mp e
  refine Rn.call hT rfl rfl rfl (Nat.le_of_ble_eq_true rfl) (rcv_v gX12_isRoom (by omega) e_8993) (rX12_isRoom (by omega) e_8992 ?_)
  show Rn d _ _ 5 [some (.ref q0), some (.int x1), some (.int x2), none] [.int v_8994] h Q
  by_cases c_8995 : v_8994 = 0
  · rw [if_pos c_8995] at e
    refine Rn.bt hT rfl rfl rfl (decide_eq_true c_8995) ?_
    exact Rn.weak (ll_n (ll_n (ll_n (ll_n ll_e)))) (rX12_steps_b16 hd hq e)
  · rw [if_neg c_8995] at e
    refine Rn.bf hT rfl rfl rfl (decide_eq_false c_8995) ?_
    refine Rn.n hT 2 (pc' := 10) (L' := [some (.ref q0), some (.int x1), some (.int x2), none]) (st' := [.int x2, .ref q0]) rfl ?_
    obtain ⟨_, e_8997, e⟩ := Option.bind_eq_some_iff.mp e
    obtain ⟨v_8998, e_8996, e⟩ := Option.bind_eq_some_iff.mp e
    refine Rn.call hT rfl rfl rfl (Nat.le_of_ble_eq_true rfl) (rcv_v gX12_isRoom (by omega) e_8997) (rX12_isRoom (by omega) e_8996 ?_)
    show Rn d _ _ 13 [some (.ref q0), some (.int x1), some (.int x2), none] [.int v_8998] h Q
    by_cases c_8999 : v_8998 = 0
    · rw [if_pos c_8999] at e
      refine Rn.bf hT rfl rfl rfl (decide_eq_false (fun z => z c_8999)) ?_
      exact Rn.weak (ll_n (ll_n (ll_n (ll_n ll_e)))) (rX12_steps_b16 hd hq e)
    · rw [if_neg c_8999] at e
      refine Rn.bt hT rfl rfl rfl (decide_eq_true c_8999) ?_
      refine Rn.n hT 2 (pc' := 20) (L' := [some (.ref q0), some (.int x1), some (.int x2), none]) (st' := [.int x1, .ref q0]) rfl ?_
      obtain ⟨_, e_9001, e⟩ := Option.bind_eq_some_iff.mp e
      obtain ⟨h_9003, e_9000, e⟩ := Option.bind_eq_some_iff.mp e
      refine Rn.call hT rfl rfl rfl (Nat.le_of_ble_eq_true rfl) (rcv_v gX12_goesByDay (by omega) e_9001) (rX12_goesByDay (by omega) e_9000 ?_)
      show Rn d _ _ 23 [some (.ref q0), some (.int x1), some (.int x2), none] [] h_9003 Q
      refine Rn.n hT 2 (pc' := 25) (L' := [some (.ref q0), some (.int x1), some (.int x2), some (.int (0 : Int32))]) (st' := []) rfl ?_
      refine Rn.weak (ll_s (ll_n (ll_s (ll_s ll_e)))) (rX12_steps_l25 hd (fun h_9004 e => ?_) hq N h_9003 (0 : Int32) e)
      try dsimp only at e
      refine Rn.n hT 1 (pc' := 66) (L' := [none, none, none, none]) (st' := [.int (-2 : Int32)]) rfl ?_
      obtain rfl := Option.some.inj e
      exact Rn.ret hT rfl rfl rfl hq
set_option maxRecDepth 10000 in
theorem hX12_reach : iv_Tb 312 tX12_reach := iv_tb_of (m := mX12_reach) rfl
set_option maxRecDepth 10000 in
theorem gX12_reach : PG.2 312 = some mX12_reach := iv_pi_of (t := tX12_reach) rfl (by decide)
def fX12_reach_b18 (N : Nat) (h : iv_H)   : Option (Int32 × iv_H) := (some ((-1 : Int32), h))
set_option maxRecDepth 10000 in
set_option maxHeartbeats 4000000 in
theorem rX12_reach_b18 {d N : Nat} (hd : 6 ≤ d) {h : iv_H}   {r : Int32 × iv_H} {Q : Option Value → iv_H → Prop} (hq : Q (some (.int r.1)) r.2) (e : fX12_reach_b18 N h   = some r) : Rn d 312 (some .int) 18 [none, none, none, none, none, none] [] h Q := by
  have hT := hX12_reach
  unfold fX12_reach_b18 at e
  refine Rn.n hT 1 (pc' := 19) (L' := [none, none, none, none, none, none]) (st' := [.int (-1 : Int32)]) rfl ?_
  obtain rfl := Option.some.inj e
  exact Rn.ret hT rfl rfl rfl hq
def fX12_reach_l33 (N : Nat) (q0 : Nat) (x2 : Int32) (kx : iv_H → Int32 → Int32 → Option (Int32 × iv_H)) : Nat → iv_H → Int32 → Int32 → Int32 → Option (Int32 × iv_H)
  | 0, _, _, _, _ => none
  | n + 1, h, x3, x4, x5 => ((gI h 12 66 q0).bind fun v_9036 => (if v_9036 ≤ x5 then (kx h x3 x4) else ((gR h 12 65 q0).bind fun v_9039 => ((aI h v_9039 x5).bind fun v_9041 => ((gR h 12 65 q0).bind fun v_9043 => ((aI h v_9043 x5).bind fun v_9045 => (fX12_reach_l33 N q0 x2 kx n h (x3 ||| ((1 : Int32) <<< ((v_9041 / (16 : Int32)) &&& 31))) (x4 ||| ((v_9045 - v_9045 / (16 : Int32) * (16 : Int32)) <<< ((1 : Int32) &&& 31))) (x5 + (1 : Int32)))))))))
set_option maxRecDepth 10000 in
set_option maxHeartbeats 4000000 in
theorem rX12_reach_l33 {d N : Nat} (hd : 6 ≤ d) {q0 : Nat} {x2 : Int32} {kx : iv_H → Int32 → Int32 → Option (Int32 × iv_H)} {r : Int32 × iv_H} {Q : Option Value → iv_H → Prop} (hk : ∀ (h : iv_H) (x3 : Int32) (x4 : Int32), kx h x3 x4 = some r → Rn d 312 (some .int) 80 [none, none, some (.int x2), some (.int x3), some (.int x4), none] [] h Q) (hq : Q (some (.int r.1)) r.2) : ∀ (n : Nat) (h : iv_H) (x3 : Int32) (x4 : Int32) (x5 : Int32), fX12_reach_l33 N q0 x2 kx n h x3 x4 x5 = some r → Rn d 312 (some .int) 33 [some (.ref q0), none, some (.int x2), some (.int x3), some (.int x4), some (.int x5)] [] h Q := by
  have hT := hX12_reach
  intro n
  induction n with
  | zero =>
    intro h x3 x4 x5 e
    rw [fX12_reach_l33] at e
    cases e
  | succ n ih =>
    intro h x3 x4 x5 e
    rw [fX12_reach_l33] at e
    refine Rn.n hT 2 (pc' := 36) (L' := [some (.ref q0), none, some (.int x2), some (.int x3), some (.int x4), some (.int x5)]) (st' := [.ref q0, .int x5]) rfl ?_
    obtain ⟨v_9036, e_9037, e⟩ := Option.bind_eq_some_iff.mp e
    refine Rn.hp hT rfl rfl (gI_hp e_9037) ?_
    by_cases c_9038 : v_9036 ≤ x5
    · rw [if_pos c_9038] at e
      refine Rn.bt hT rfl rfl rfl (decide_eq_true c_9038) ?_
      exact Rn.weak (ll_n (ll_n (ll_s (ll_s (ll_s (ll_n ll_e)))))) (hk h x3 x4 e)
    · rw [if_neg c_9038] at e
      refine Rn.bf hT rfl rfl rfl (decide_eq_false c_9038) ?_
      refine Rn.n hT 3 (pc' := 45) (L' := [some (.ref q0), none, some (.int x2), some (.int x3), some (.int x4), some (.int x5)]) (st' := [.ref q0, .int (1 : Int32), .int x3]) rfl ?_
      obtain ⟨v_9039, e_9040, e⟩ := Option.bind_eq_some_iff.mp e
      refine Rn.hp hT rfl rfl (gR_hp e_9040) ?_
      refine Rn.n hT 1 (pc' := 50) (L' := [some (.ref q0), none, some (.int x2), some (.int x3), some (.int x4), some (.int x5)]) (st' := [.int x5, .ref v_9039, .int (1 : Int32), .int x3]) rfl ?_
      obtain ⟨v_9041, e_9042, e⟩ := Option.bind_eq_some_iff.mp e
      refine Rn.hp hT rfl rfl (aI_hp e_9042) ?_
      refine Rn.n hT 7 (pc' := 60) (L' := [some (.ref q0), none, some (.int x2), some (.int (x3 ||| ((1 : Int32) <<< ((v_9041 / (16 : Int32)) &&& 31)))), some (.int x4), some (.int x5)]) (st' := [.ref q0, .int x4]) rfl ?_
      obtain ⟨v_9043, e_9044, e⟩ := Option.bind_eq_some_iff.mp e
      refine Rn.hp hT rfl rfl (gR_hp e_9044) ?_
      refine Rn.n hT 1 (pc' := 65) (L' := [some (.ref q0), none, some (.int x2), some (.int (x3 ||| ((1 : Int32) <<< ((v_9041 / (16 : Int32)) &&& 31)))), some (.int x4), some (.int x5)]) (st' := [.int x5, .ref v_9043, .int x4]) rfl ?_
      obtain ⟨v_9045, e_9046, e⟩ := Option.bind_eq_some_iff.mp e
      refine Rn.hp hT rfl rfl (aI_hp e_9046) ?_
      refine Rn.n hT 8 (pc' := 33) (L' := [some (.ref q0), none, some (.int x2), some (.int (x3 ||| ((1 : Int32) <<< ((v_9041 / (16 : Int32)) &&& 31)))), some (.int (x4 ||| ((v_9045 - v_9045 / (16 : Int32) * (16 : Int32)) <<< ((1 : Int32) &&& 31)))), some (.int (x5 + (1 : Int32)))]) (st' := []) rfl ?_
      exact Rn.weak (ll_s (ll_n (ll_s (ll_s (ll_s (ll_s ll_e)))))) (ih h (x3 ||| ((1 : Int32) <<< ((v_9041 / (16 : Int32)) &&& 31))) (x4 ||| ((v_9045 - v_9045 / (16 : Int32) * (16 : Int32)) <<< ((1 : Int32) &&& 31))) (x5 + (1 : Int32)) e)
def fX12_reach_b90 (N : Nat) (h : iv_H)  (s0 : Int32) : Option (Int32 × iv_H) := (some (s0, h))
set_option maxRecDepth 10000 in
set_option maxHeartbeats 4000000 in
theorem rX12_reach_b90 {d N : Nat} (hd : 6 ≤ d) {h : iv_H}  {s0 : Int32} {r : Int32 × iv_H} {Q : Option Value → iv_H → Prop} (hq : Q (some (.int r.1)) r.2) (e : fX12_reach_b90 N h  s0 = some r) : Rn d 312 (some .int) 90 [none, none, none, none, none, none] [.int s0] h Q := by
  have hT := hX12_reach
  unfold fX12_reach_b90 at e
  obtain rfl := Option.some.inj e
  exact Rn.ret hT rfl rfl rfl hq
def fX12_reach (N : Nat) (h : iv_H) (q0 : Nat) (x1 : Int32) (x2 : Int32) : Option (Int32 × iv_H) := ((cko h q0 12).bind fun _ => (fX12_isRoom N h q0 x1).bind fun v_9023 => (if v_9023 = 0 then (fX12_reach_b18 N h) else ((fX12_in N h ((x2).toInt64) (0 : Int64) (1 : Int64)).bind fun v_9026 => (if v_9026 = 0 then (fX12_reach_b18 N h) else ((cko h q0 12).bind fun _ => (fX12_goesByDay N h q0 x1).bind fun h_9031 => (fX12_reach_l33 N q0 x2 (fun (h_9032 : iv_H) (z_9033 : Int32) (z_9034 : Int32) => (if x2 = 0 then (fX12_reach_b90 N h_9032 z_9033) else (fX12_reach_b90 N h_9032 z_9034))) N h_9031 (0 : Int32) (0 : Int32) (0 : Int32)))))))
set_option maxRecDepth 10000 in
set_option maxHeartbeats 4000000 in
theorem rX12_reach {d N : Nat} (hd : 7 ≤ d) {h : iv_H} {q0 : Nat} {x1 : Int32} {x2 : Int32} {r : Int32 × iv_H} {Q : Option Value → iv_H → Prop} (e : fX12_reach N h q0 x1 x2 = some r) (hq : Q (some (.int r.1)) r.2) : Cl d 312 [.ref q0, .int x1, .int x2] h Q := by
  obtain ⟨d, rfl⟩ : ∃ k, d = k + 1 := ⟨d - 1, by omega⟩
  have hd : 6 ≤ d := by omega
  have hT := hX12_reach
  unfold fX12_reach at e
  refine Cl.into (by decide) gX12_reach rfl ?_
  show Rn d 312 (some .int) 0 [some (.ref q0), some (.int x1), some (.int x2), none, none, none] [] h Q
  refine Rn.n hT 2 (pc' := 2) (L' := [some (.ref q0), some (.int x1), some (.int x2), none, none, none]) (st' := [.int x1, .ref q0]) rfl ?_
  obtain ⟨_, e_9022, e⟩ := Option.bind_eq_some_iff.mp e
  obtain ⟨v_9023, e_9021, e⟩ := Option.bind_eq_some_iff.mp e
  refine Rn.call hT rfl rfl rfl (Nat.le_of_ble_eq_true rfl) (rcv_v gX12_isRoom (by omega) e_9022) (rX12_isRoom (by omega) e_9021 ?_)
  show Rn d _ _ 5 [some (.ref q0), some (.int x1), some (.int x2), none, none, none] [.int v_9023] h Q
  by_cases c_9024 : v_9023 = 0
  · rw [if_pos c_9024] at e
    refine Rn.bt hT rfl rfl rfl (decide_eq_true c_9024) ?_
    exact Rn.weak (ll_n (ll_n (ll_n (ll_n (ll_n (ll_n ll_e)))))) (rX12_reach_b18 hd hq e)
  · rw [if_neg c_9024] at e
    refine Rn.bf hT rfl rfl rfl (decide_eq_false c_9024) ?_
    refine Rn.n hT 4 (pc' := 12) (L' := [some (.ref q0), some (.int x1), some (.int x2), none, none, none]) (st' := [.long (1 : Int64), .long (0 : Int64), .long ((x2).toInt64)]) rfl ?_
    obtain ⟨v_9026, e_9025, e⟩ := Option.bind_eq_some_iff.mp e
    refine Rn.call hT rfl rfl rfl (Nat.le_of_ble_eq_true rfl) rfl (rX12_in (by omega) e_9025 ?_)
    show Rn d _ _ 15 [some (.ref q0), some (.int x1), some (.int x2), none, none, none] [.int v_9026] h Q
    by_cases c_9027 : v_9026 = 0
    · rw [if_pos c_9027] at e
      refine Rn.bf hT rfl rfl rfl (decide_eq_false (fun z => z c_9027)) ?_
      exact Rn.weak (ll_n (ll_n (ll_n (ll_n (ll_n (ll_n ll_e)))))) (rX12_reach_b18 hd hq e)
    · rw [if_neg c_9027] at e
      refine Rn.bt hT rfl rfl rfl (decide_eq_true c_9027) ?_
      refine Rn.n hT 2 (pc' := 22) (L' := [some (.ref q0), some (.int x1), some (.int x2), none, none, none]) (st' := [.int x1, .ref q0]) rfl ?_
      obtain ⟨_, e_9029, e⟩ := Option.bind_eq_some_iff.mp e
      obtain ⟨h_9031, e_9028, e⟩ := Option.bind_eq_some_iff.mp e
      refine Rn.call hT rfl rfl rfl (Nat.le_of_ble_eq_true rfl) (rcv_v gX12_goesByDay (by omega) e_9029) (rX12_goesByDay (by omega) e_9028 ?_)
      show Rn d _ _ 25 [some (.ref q0), some (.int x1), some (.int x2), none, none, none] [] h_9031 Q
      refine Rn.n hT 6 (pc' := 33) (L' := [some (.ref q0), some (.int x1), some (.int x2), some (.int (0 : Int32)), some (.int (0 : Int32)), some (.int (0 : Int32))]) (st' := []) rfl ?_
      refine Rn.weak (ll_s (ll_n (ll_s (ll_s (ll_s (ll_s ll_e)))))) (rX12_reach_l33 hd (fun h_9032 z_9033 z_9034 e => ?_) hq N h_9031 (0 : Int32) (0 : Int32) (0 : Int32) e)
      try dsimp only at e
      refine Rn.n hT 1 (pc' := 81) (L' := [none, none, some (.int x2), some (.int z_9033), some (.int z_9034), none]) (st' := [.int x2]) rfl ?_
      by_cases c_9035 : x2 = 0
      · rw [if_pos c_9035] at e
        refine Rn.bf hT rfl rfl rfl (decide_eq_false (fun z => z c_9035)) ?_
        refine Rn.n hT 2 (pc' := 90) (L' := [none, none, some (.int x2), some (.int z_9033), some (.int z_9034), none]) (st' := [.int z_9033]) rfl ?_
        exact Rn.weak (ll_n (ll_n (ll_n (ll_n (ll_n (ll_n ll_e)))))) (rX12_reach_b90 hd hq e)
      · rw [if_neg c_9035] at e
        refine Rn.bt hT rfl rfl rfl (decide_eq_true c_9035) ?_
        refine Rn.n hT 1 (pc' := 90) (L' := [none, none, some (.int x2), some (.int z_9033), some (.int z_9034), none]) (st' := [.int z_9034]) rfl ?_
        exact Rn.weak (ll_n (ll_n (ll_n (ll_n (ll_n (ll_n ll_e)))))) (rX12_reach_b90 hd hq e)
set_option maxRecDepth 10000 in
theorem hX12_gossip : iv_Tb 313 tX12_gossip := iv_tb_of (m := mX12_gossip) rfl
set_option maxRecDepth 10000 in
theorem gX12_gossip : PG.2 313 = some mX12_gossip := iv_pi_of (t := tX12_gossip) rfl (by decide)
def fX12_gossip_b20 (N : Nat) (h : iv_H)   : Option (Int32) := (some (-1 : Int32))
set_option maxRecDepth 10000 in
set_option maxHeartbeats 4000000 in
theorem rX12_gossip_b20 {d N : Nat} (hd : 5 ≤ d) {h : iv_H}   {r : Int32} {Q : Option Value → iv_H → Prop} (hq : Q (some (.int r)) h) (e : fX12_gossip_b20 N h   = some r) : Rn d 313 (some .int) 20 [none, none, none, none, none, none, none, none, none] [] h Q := by
  have hT := hX12_gossip
  unfold fX12_gossip_b20 at e
  refine Rn.n hT 1 (pc' := 21) (L' := [none, none, none, none, none, none, none, none, none]) (st' := [.int (-1 : Int32)]) rfl ?_
  obtain rfl := Option.some.inj e
  exact Rn.ret hT rfl rfl rfl hq
def fX12_gossip_b144 (N : Nat) (h : iv_H) (q0 : Nat) (x2 : Int32) (x3 : Int32) (x4 : Int32) (x6 : Int32) (x7 : Int32) (s0 : Int32) (s1 : Int32) (kb : Int32 → Int32 → Option (Int32)) (kx : Int32 → Option (Int32)) : Option (Int32) := (kb (s1 ||| s0) (x7 + (1 : Int32)))
set_option maxRecDepth 10000 in
set_option maxHeartbeats 4000000 in
theorem rX12_gossip_b144 {d N : Nat} (hd : 5 ≤ d) {h : iv_H} {q0 : Nat} {x2 : Int32} {x3 : Int32} {x4 : Int32} {x6 : Int32} {x7 : Int32} {s0 : Int32} {s1 : Int32} {kb : Int32 → Int32 → Option (Int32)} {kx : Int32 → Option (Int32)} {r : Int32} {Q : Option Value → iv_H → Prop} (hb : ∀ (w5 : Int32) (w7 : Int32), kb w5 w7 = some r → Rn d 313 (some .int) 55 [some (.ref q0), none, some (.int x2), some (.int x3), some (.int x4), some (.int w5), some (.int x6), some (.int w7), none] [] h Q) (hk : ∀ (w5 : Int32), kx w5 = some r → Rn d 313 (some .int) 153 [some (.ref q0), none, some (.int x2), some (.int x3), some (.int x4), some (.int w5), some (.int x6), none, none] [] h Q) (hq : Q (some (.int r)) h) (e : fX12_gossip_b144 N h q0 x2 x3 x4 x6 x7 s0 s1 kb kx = some r) : Rn d 313 (some .int) 144 [some (.ref q0), none, some (.int x2), some (.int x3), some (.int x4), none, some (.int x6), some (.int x7), none] [.int s0, .int s1] h Q := by
  have hT := hX12_gossip
  unfold fX12_gossip_b144 at e
  refine Rn.n hT 4 (pc' := 55) (L' := [some (.ref q0), none, some (.int x2), some (.int x3), some (.int x4), some (.int (s1 ||| s0)), some (.int x6), some (.int (x7 + (1 : Int32))), none]) (st' := []) rfl ?_
  exact Rn.weak (ll_s (ll_n (ll_s (ll_s (ll_s (ll_s (ll_s (ll_s (ll_n ll_e))))))))) (hb (s1 ||| s0) (x7 + (1 : Int32)) e)
def fX12_gossip_b121 (N : Nat) (h : iv_H) (q0 : Nat) (x2 : Int32) (x3 : Int32) (x4 : Int32) (x5 : Int32) (x6 : Int32) (x7 : Int32) (s0 : Int32) (kb : Int32 → Int32 → Option (Int32)) (kx : Int32 → Option (Int32)) : Option (Int32) := (if s0 = 0 then (fX12_gossip_b144 N h q0 x2 x3 x4 x6 x7 (0 : Int32) x5 kb kx) else ((cko h q0 12).bind fun _ => (fX12_faced N h q0 x6 x7).bind fun v_9085 => (fX12_gossip_b144 N h q0 x2 x3 x4 x6 x7 ((1 : Int32) <<< (v_9085 &&& 31)) x5 kb kx)))
set_option maxRecDepth 10000 in
set_option maxHeartbeats 4000000 in
theorem rX12_gossip_b121 {d N : Nat} (hd : 5 ≤ d) {h : iv_H} {q0 : Nat} {x2 : Int32} {x3 : Int32} {x4 : Int32} {x5 : Int32} {x6 : Int32} {x7 : Int32} {s0 : Int32} {kb : Int32 → Int32 → Option (Int32)} {kx : Int32 → Option (Int32)} {r : Int32} {Q : Option Value → iv_H → Prop} (hb : ∀ (w5 : Int32) (w7 : Int32), kb w5 w7 = some r → Rn d 313 (some .int) 55 [some (.ref q0), none, some (.int x2), some (.int x3), some (.int x4), some (.int w5), some (.int x6), some (.int w7), none] [] h Q) (hk : ∀ (w5 : Int32), kx w5 = some r → Rn d 313 (some .int) 153 [some (.ref q0), none, some (.int x2), some (.int x3), some (.int x4), some (.int w5), some (.int x6), none, none] [] h Q) (hq : Q (some (.int r)) h) (e : fX12_gossip_b121 N h q0 x2 x3 x4 x5 x6 x7 s0 kb kx = some r) : Rn d 313 (some .int) 121 [some (.ref q0), none, some (.int x2), some (.int x3), some (.int x4), some (.int x5), some (.int x6), some (.int x7), none] [.int s0] h Q := by
  have hT := hX12_gossip
  unfold fX12_gossip_b121 at e
  refine Rn.n hT 3 (pc' := 127) (L' := [some (.ref q0), none, some (.int x2), some (.int x3), some (.int x4), some (.int x5), some (.int x6), some (.int x7), some (.int s0)]) (st' := [.int s0, .int x5]) rfl ?_
  by_cases c_9082 : s0 = 0
  · rw [if_pos c_9082] at e
    refine Rn.bt hT rfl rfl rfl (decide_eq_true c_9082) ?_
    refine Rn.n hT 1 (pc' := 144) (L' := [some (.ref q0), none, some (.int x2), some (.int x3), some (.int x4), some (.int x5), some (.int x6), some (.int x7), some (.int s0)]) (st' := [.int (0 : Int32), .int x5]) rfl ?_
    exact Rn.weak (ll_s (ll_n (ll_s (ll_s (ll_s (ll_n (ll_s (ll_s (ll_n ll_e))))))))) (rX12_gossip_b144 hd hb hk hq e)
  · rw [if_neg c_9082] at e
    refine Rn.bf hT rfl rfl rfl (decide_eq_false c_9082) ?_
    refine Rn.n hT 4 (pc' := 136) (L' := [some (.ref q0), none, some (.int x2), some (.int x3), some (.int x4), some (.int x5), some (.int x6), some (.int x7), some (.int s0)]) (st' := [.int x7, .int x6, .ref q0, .int (1 : Int32), .int x5]) rfl ?_
    obtain ⟨_, e_9084, e⟩ := Option.bind_eq_some_iff.mp e
    obtain ⟨v_9085, e_9083, e⟩ := Option.bind_eq_some_iff.mp e
    refine Rn.call hT rfl rfl rfl (Nat.le_of_ble_eq_true rfl) (rcv_v gX12_faced (by omega) e_9084) (rX12_faced (by omega) e_9083 ?_)
    show Rn d _ _ 139 [some (.ref q0), none, some (.int x2), some (.int x3), some (.int x4), some (.int x5), some (.int x6), some (.int x7), some (.int s0)] [.int v_9085, .int (1 : Int32), .int x5] h Q
    refine Rn.n hT 2 (pc' := 144) (L' := [some (.ref q0), none, some (.int x2), some (.int x3), some (.int x4), some (.int x5), some (.int x6), some (.int x7), some (.int s0)]) (st' := [.int ((1 : Int32) <<< (v_9085 &&& 31)), .int x5]) rfl ?_
    exact Rn.weak (ll_s (ll_n (ll_s (ll_s (ll_s (ll_n (ll_s (ll_s (ll_n ll_e))))))))) (rX12_gossip_b144 hd hb hk hq e)
def fX12_gossip_b120 (N : Nat) (h : iv_H) (q0 : Nat) (x2 : Int32) (x3 : Int32) (x4 : Int32) (x5 : Int32) (x6 : Int32) (x7 : Int32)  (kb : Int32 → Int32 → Option (Int32)) (kx : Int32 → Option (Int32)) : Option (Int32) := (fX12_gossip_b121 N h q0 x2 x3 x4 x5 x6 x7 (0 : Int32) kb kx)
set_option maxRecDepth 10000 in
set_option maxHeartbeats 4000000 in
theorem rX12_gossip_b120 {d N : Nat} (hd : 5 ≤ d) {h : iv_H} {q0 : Nat} {x2 : Int32} {x3 : Int32} {x4 : Int32} {x5 : Int32} {x6 : Int32} {x7 : Int32}  {kb : Int32 → Int32 → Option (Int32)} {kx : Int32 → Option (Int32)} {r : Int32} {Q : Option Value → iv_H → Prop} (hb : ∀ (w5 : Int32) (w7 : Int32), kb w5 w7 = some r → Rn d 313 (some .int) 55 [some (.ref q0), none, some (.int x2), some (.int x3), some (.int x4), some (.int w5), some (.int x6), some (.int w7), none] [] h Q) (hk : ∀ (w5 : Int32), kx w5 = some r → Rn d 313 (some .int) 153 [some (.ref q0), none, some (.int x2), some (.int x3), some (.int x4), some (.int w5), some (.int x6), none, none] [] h Q) (hq : Q (some (.int r)) h) (e : fX12_gossip_b120 N h q0 x2 x3 x4 x5 x6 x7  kb kx = some r) : Rn d 313 (some .int) 120 [some (.ref q0), none, some (.int x2), some (.int x3), some (.int x4), some (.int x5), some (.int x6), some (.int x7), none] [] h Q := by
  have hT := hX12_gossip
  unfold fX12_gossip_b120 at e
  refine Rn.n hT 1 (pc' := 121) (L' := [some (.ref q0), none, some (.int x2), some (.int x3), some (.int x4), some (.int x5), some (.int x6), some (.int x7), none]) (st' := [.int (0 : Int32)]) rfl ?_
  exact Rn.weak (ll_s (ll_n (ll_s (ll_s (ll_s (ll_s (ll_s (ll_s (ll_n ll_e))))))))) (rX12_gossip_b121 hd hb hk hq e)
def fX12_gossip_l55 (N : Nat) (h : iv_H) (q0 : Nat) (x2 : Int32) (x3 : Int32) (x4 : Int32) (x6 : Int32) (kx : Int32 → Option (Int32)) : Nat → Int32 → Int32 → Option (Int32)
  | 0, _, _ => none
  | n + 1, x5, x7 => (if (4 : Int32) ≤ x7 then (kx x5) else (if ((x3 >>> (x6 &&& 31)) &&& (1 : Int32)) = (1 : Int32) then ((cko h q0 12).bind fun _ => (fX12_isDoorToDoor N h q0 x6 x7).bind fun v_9069 => (if v_9069 = 0 then (fX12_gossip_b120 N h q0 x2 x3 x4 x5 x6 x7 (fX12_gossip_l55 N h q0 x2 x3 x4 x6 kx n) kx) else ((cko h q0 12).bind fun _ => (fX12_sideOf N h q0 x6 x7).bind fun v_9073 => (if v_9073 = (1 : Int32) then ((cko h q0 12).bind fun _ => (fX12_faced N h q0 x6 x7).bind fun v_9077 => ((cko h q0 12).bind fun _ => (fX12_sideOf N h q0 v_9077 ((x7 + (2 : Int32)) &&& (3 : Int32))).bind fun v_9080 => (if v_9080 = (1 : Int32) then (fX12_gossip_b121 N h q0 x2 x3 x4 x5 x6 x7 (1 : Int32) (fX12_gossip_l55 N h q0 x2 x3 x4 x6 kx n) kx) else (fX12_gossip_b120 N h q0 x2 x3 x4 x5 x6 x7 (fX12_gossip_l55 N h q0 x2 x3 x4 x6 kx n) kx)))) else (fX12_gossip_b120 N h q0 x2 x3 x4 x5 x6 x7 (fX12_gossip_l55 N h q0 x2 x3 x4 x6 kx n) kx))))) else (kx x5)))
set_option maxRecDepth 10000 in
set_option maxHeartbeats 4000000 in
theorem rX12_gossip_l55 {d N : Nat} (hd : 5 ≤ d) {h : iv_H} {q0 : Nat} {x2 : Int32} {x3 : Int32} {x4 : Int32} {x6 : Int32} {kx : Int32 → Option (Int32)} {r : Int32} {Q : Option Value → iv_H → Prop} (hk : ∀ (x5 : Int32), kx x5 = some r → Rn d 313 (some .int) 153 [some (.ref q0), none, some (.int x2), some (.int x3), some (.int x4), some (.int x5), some (.int x6), none, none] [] h Q) (hq : Q (some (.int r)) h) : ∀ (n : Nat) (x5 : Int32) (x7 : Int32), fX12_gossip_l55 N h q0 x2 x3 x4 x6 kx n x5 x7 = some r → Rn d 313 (some .int) 55 [some (.ref q0), none, some (.int x2), some (.int x3), some (.int x4), some (.int x5), some (.int x6), some (.int x7), none] [] h Q := by
  have hT := hX12_gossip
  intro n
  induction n with
  | zero =>
    intro x5 x7 e
    rw [fX12_gossip_l55] at e
    cases e
  | succ n ih =>
    intro x5 x7 e
    rw [fX12_gossip_l55] at e
    refine Rn.n hT 2 (pc' := 58) (L' := [some (.ref q0), none, some (.int x2), some (.int x3), some (.int x4), some (.int x5), some (.int x6), some (.int x7), none]) (st' := [.int (4 : Int32), .int x7]) rfl ?_
    by_cases c_9065 : (4 : Int32) ≤ x7
    · rw [if_pos c_9065] at e
      refine Rn.bt hT rfl rfl rfl (decide_eq_true c_9065) ?_
      exact Rn.weak (ll_s (ll_n (ll_s (ll_s (ll_s (ll_s (ll_s (ll_n (ll_n ll_e))))))))) (hk x5 e)
    · rw [if_neg c_9065] at e
      refine Rn.bf hT rfl rfl rfl (decide_eq_false c_9065) ?_
      refine Rn.n hT 6 (pc' := 68) (L' := [some (.ref q0), none, some (.int x2), some (.int x3), some (.int x4), some (.int x5), some (.int x6), some (.int x7), none]) (st' := [.int (1 : Int32), .int ((x3 >>> (x6 &&& 31)) &&& (1 : Int32))]) rfl ?_
      by_cases c_9066 : ((x3 >>> (x6 &&& 31)) &&& (1 : Int32)) = (1 : Int32)
      · rw [if_pos c_9066] at e
        refine Rn.bf hT rfl rfl rfl (decide_eq_false (fun z => z c_9066)) ?_
        refine Rn.n hT 3 (pc' := 76) (L' := [some (.ref q0), none, some (.int x2), some (.int x3), some (.int x4), some (.int x5), some (.int x6), some (.int x7), none]) (st' := [.int x7, .int x6, .ref q0]) rfl ?_
        obtain ⟨_, e_9068, e⟩ := Option.bind_eq_some_iff.mp e
        obtain ⟨v_9069, e_9067, e⟩ := Option.bind_eq_some_iff.mp e
        refine Rn.call hT rfl rfl rfl (Nat.le_of_ble_eq_true rfl) (rcv_v gX12_isDoorToDoor (by omega) e_9068) (rX12_isDoorToDoor (by omega) e_9067 ?_)
        show Rn d _ _ 79 [some (.ref q0), none, some (.int x2), some (.int x3), some (.int x4), some (.int x5), some (.int x6), some (.int x7), none] [.int v_9069] h Q
        by_cases c_9070 : v_9069 = 0
        · rw [if_pos c_9070] at e
          refine Rn.bt hT rfl rfl rfl (decide_eq_true c_9070) ?_
          exact Rn.weak (ll_s (ll_n (ll_s (ll_s (ll_s (ll_s (ll_s (ll_s (ll_n ll_e))))))))) (rX12_gossip_b120 hd ih hk hq e)
        · rw [if_neg c_9070] at e
          refine Rn.bf hT rfl rfl rfl (decide_eq_false c_9070) ?_
          refine Rn.n hT 3 (pc' := 87) (L' := [some (.ref q0), none, some (.int x2), some (.int x3), some (.int x4), some (.int x5), some (.int x6), some (.int x7), none]) (st' := [.int x7, .int x6, .ref q0]) rfl ?_
          obtain ⟨_, e_9072, e⟩ := Option.bind_eq_some_iff.mp e
          obtain ⟨v_9073, e_9071, e⟩ := Option.bind_eq_some_iff.mp e
          refine Rn.call hT rfl rfl rfl (Nat.le_of_ble_eq_true rfl) (rcv_v gX12_sideOf (by omega) e_9072) (rX12_sideOf (by omega) e_9071 ?_)
          show Rn d _ _ 90 [some (.ref q0), none, some (.int x2), some (.int x3), some (.int x4), some (.int x5), some (.int x6), some (.int x7), none] [.int v_9073] h Q
          refine Rn.n hT 1 (pc' := 91) (L' := [some (.ref q0), none, some (.int x2), some (.int x3), some (.int x4), some (.int x5), some (.int x6), some (.int x7), none]) (st' := [.int (1 : Int32), .int v_9073]) rfl ?_
          by_cases c_9074 : v_9073 = (1 : Int32)
          · rw [if_pos c_9074] at e
            refine Rn.bf hT rfl rfl rfl (decide_eq_false (fun z => z c_9074)) ?_
            refine Rn.n hT 4 (pc' := 100) (L' := [some (.ref q0), none, some (.int x2), some (.int x3), some (.int x4), some (.int x5), some (.int x6), some (.int x7), none]) (st' := [.int x7, .int x6, .ref q0, .ref q0]) rfl ?_
            obtain ⟨_, e_9076, e⟩ := Option.bind_eq_some_iff.mp e
            obtain ⟨v_9077, e_9075, e⟩ := Option.bind_eq_some_iff.mp e
            refine Rn.call hT rfl rfl rfl (Nat.le_of_ble_eq_true rfl) (rcv_v gX12_faced (by omega) e_9076) (rX12_faced (by omega) e_9075 ?_)
            show Rn d _ _ 103 [some (.ref q0), none, some (.int x2), some (.int x3), some (.int x4), some (.int x5), some (.int x6), some (.int x7), none] [.int v_9077, .ref q0] h Q
            refine Rn.n hT 5 (pc' := 109) (L' := [some (.ref q0), none, some (.int x2), some (.int x3), some (.int x4), some (.int x5), some (.int x6), some (.int x7), none]) (st' := [.int ((x7 + (2 : Int32)) &&& (3 : Int32)), .int v_9077, .ref q0]) rfl ?_
            obtain ⟨_, e_9079, e⟩ := Option.bind_eq_some_iff.mp e
            obtain ⟨v_9080, e_9078, e⟩ := Option.bind_eq_some_iff.mp e
            refine Rn.call hT rfl rfl rfl (Nat.le_of_ble_eq_true rfl) (rcv_v gX12_sideOf (by omega) e_9079) (rX12_sideOf (by omega) e_9078 ?_)
            show Rn d _ _ 112 [some (.ref q0), none, some (.int x2), some (.int x3), some (.int x4), some (.int x5), some (.int x6), some (.int x7), none] [.int v_9080] h Q
            refine Rn.n hT 1 (pc' := 113) (L' := [some (.ref q0), none, some (.int x2), some (.int x3), some (.int x4), some (.int x5), some (.int x6), some (.int x7), none]) (st' := [.int (1 : Int32), .int v_9080]) rfl ?_
            by_cases c_9081 : v_9080 = (1 : Int32)
            · rw [if_pos c_9081] at e
              refine Rn.bf hT rfl rfl rfl (decide_eq_false (fun z => z c_9081)) ?_
              refine Rn.n hT 2 (pc' := 121) (L' := [some (.ref q0), none, some (.int x2), some (.int x3), some (.int x4), some (.int x5), some (.int x6), some (.int x7), none]) (st' := [.int (1 : Int32)]) rfl ?_
              exact Rn.weak (ll_s (ll_n (ll_s (ll_s (ll_s (ll_s (ll_s (ll_s (ll_n ll_e))))))))) (rX12_gossip_b121 hd ih hk hq e)
            · rw [if_neg c_9081] at e
              refine Rn.bt hT rfl rfl rfl (decide_eq_true c_9081) ?_
              exact Rn.weak (ll_s (ll_n (ll_s (ll_s (ll_s (ll_s (ll_s (ll_s (ll_n ll_e))))))))) (rX12_gossip_b120 hd ih hk hq e)
          · rw [if_neg c_9074] at e
            refine Rn.bt hT rfl rfl rfl (decide_eq_true c_9074) ?_
            exact Rn.weak (ll_s (ll_n (ll_s (ll_s (ll_s (ll_s (ll_s (ll_s (ll_n ll_e))))))))) (rX12_gossip_b120 hd ih hk hq e)
      · rw [if_neg c_9066] at e
        refine Rn.bt hT rfl rfl rfl (decide_eq_true c_9066) ?_
        exact Rn.weak (ll_s (ll_n (ll_s (ll_s (ll_s (ll_s (ll_s (ll_n (ll_n ll_e))))))))) (hk x5 e)
def fX12_gossip_b153 (N : Nat) (h : iv_H) (q0 : Nat) (x2 : Int32) (x3 : Int32) (x4 : Int32) (x5 : Int32) (x6 : Int32)  (kb : Int32 → Int32 → Option (Int32)) (kx : Int32 → Option (Int32)) : Option (Int32) := (kb x5 (x6 + (1 : Int32)))
set_option maxRecDepth 10000 in
set_option maxHeartbeats 4000000 in
theorem rX12_gossip_b153 {d N : Nat} (hd : 5 ≤ d) {h : iv_H} {q0 : Nat} {x2 : Int32} {x3 : Int32} {x4 : Int32} {x5 : Int32} {x6 : Int32}  {kb : Int32 → Int32 → Option (Int32)} {kx : Int32 → Option (Int32)} {r : Int32} {Q : Option Value → iv_H → Prop} (hb : ∀ (w5 : Int32) (w6 : Int32), kb w5 w6 = some r → Rn d 313 (some .int) 41 [some (.ref q0), none, some (.int x2), some (.int x3), some (.int x4), some (.int w5), some (.int w6), none, none] [] h Q) (hk : ∀ (w5 : Int32), kx w5 = some r → Rn d 313 (some .int) 159 [some (.ref q0), none, some (.int x2), none, some (.int x4), some (.int w5), none, none, none] [] h Q) (hq : Q (some (.int r)) h) (e : fX12_gossip_b153 N h q0 x2 x3 x4 x5 x6  kb kx = some r) : Rn d 313 (some .int) 153 [some (.ref q0), none, some (.int x2), some (.int x3), some (.int x4), some (.int x5), some (.int x6), none, none] [] h Q := by
  have hT := hX12_gossip
  unfold fX12_gossip_b153 at e
  refine Rn.n hT 2 (pc' := 41) (L' := [some (.ref q0), none, some (.int x2), some (.int x3), some (.int x4), some (.int x5), some (.int (x6 + (1 : Int32))), none, none]) (st' := []) rfl ?_
  exact Rn.weak (ll_s (ll_n (ll_s (ll_s (ll_s (ll_s (ll_s (ll_n (ll_n ll_e))))))))) (hb x5 (x6 + (1 : Int32)) e)
def fX12_gossip_l41 (N : Nat) (h : iv_H) (q0 : Nat) (x2 : Int32) (x3 : Int32) (x4 : Int32) (kx : Int32 → Option (Int32)) : Nat → Int32 → Int32 → Option (Int32)
  | 0, _, _ => none
  | n + 1, x5, x6 => ((gR h 12 1 q0).bind fun v_9059 => ((aI h v_9059 (2 : Int32)).bind fun v_9061 => (if v_9061 ≤ x6 then (kx x5) else (fX12_gossip_l55 N h q0 x2 x3 x4 x6 (fun (z_9064 : Int32) => (fX12_gossip_b153 N h q0 x2 x3 x4 z_9064 x6 (fX12_gossip_l41 N h q0 x2 x3 x4 kx n) kx)) N x5 (0 : Int32)))))
set_option maxRecDepth 10000 in
set_option maxHeartbeats 4000000 in
theorem rX12_gossip_l41 {d N : Nat} (hd : 5 ≤ d) {h : iv_H} {q0 : Nat} {x2 : Int32} {x3 : Int32} {x4 : Int32} {kx : Int32 → Option (Int32)} {r : Int32} {Q : Option Value → iv_H → Prop} (hk : ∀ (x5 : Int32), kx x5 = some r → Rn d 313 (some .int) 159 [some (.ref q0), none, some (.int x2), none, some (.int x4), some (.int x5), none, none, none] [] h Q) (hq : Q (some (.int r)) h) : ∀ (n : Nat) (x5 : Int32) (x6 : Int32), fX12_gossip_l41 N h q0 x2 x3 x4 kx n x5 x6 = some r → Rn d 313 (some .int) 41 [some (.ref q0), none, some (.int x2), some (.int x3), some (.int x4), some (.int x5), some (.int x6), none, none] [] h Q := by
  have hT := hX12_gossip
  intro n
  induction n with
  | zero =>
    intro x5 x6 e
    rw [fX12_gossip_l41] at e
    cases e
  | succ n ih =>
    intro x5 x6 e
    rw [fX12_gossip_l41] at e
    refine Rn.n hT 2 (pc' := 44) (L' := [some (.ref q0), none, some (.int x2), some (.int x3), some (.int x4), some (.int x5), some (.int x6), none, none]) (st' := [.ref q0, .int x6]) rfl ?_
    obtain ⟨v_9059, e_9060, e⟩ := Option.bind_eq_some_iff.mp e
    refine Rn.hp hT rfl rfl (gR_hp e_9060) ?_
    refine Rn.n hT 1 (pc' := 48) (L' := [some (.ref q0), none, some (.int x2), some (.int x3), some (.int x4), some (.int x5), some (.int x6), none, none]) (st' := [.int (2 : Int32), .ref v_9059, .int x6]) rfl ?_
    obtain ⟨v_9061, e_9062, e⟩ := Option.bind_eq_some_iff.mp e
    refine Rn.hp hT rfl rfl (aI_hp e_9062) ?_
    by_cases c_9063 : v_9061 ≤ x6
    · rw [if_pos c_9063] at e
      refine Rn.bt hT rfl rfl rfl (decide_eq_true c_9063) ?_
      exact Rn.weak (ll_s (ll_n (ll_s (ll_n (ll_s (ll_s (ll_n (ll_n (ll_n ll_e))))))))) (hk x5 e)
    · rw [if_neg c_9063] at e
      refine Rn.bf hT rfl rfl rfl (decide_eq_false c_9063) ?_
      refine Rn.n hT 2 (pc' := 55) (L' := [some (.ref q0), none, some (.int x2), some (.int x3), some (.int x4), some (.int x5), some (.int x6), some (.int (0 : Int32)), none]) (st' := []) rfl ?_
      refine Rn.weak (ll_s (ll_n (ll_s (ll_s (ll_s (ll_s (ll_s (ll_s (ll_n ll_e))))))))) (rX12_gossip_l55 hd (fun z_9064 e => ?_) hq N x5 (0 : Int32) e)
      try dsimp only at e
      exact Rn.weak (ll_s (ll_n (ll_s (ll_s (ll_s (ll_s (ll_s (ll_n (ll_n ll_e))))))))) (rX12_gossip_b153 hd ih hk hq e)
def fX12_gossip_l29 (N : Nat) (h : iv_H) (q0 : Nat) (x2 : Int32) (kx : Int32 → Option (Int32)) : Nat → Int32 → Int32 → Option (Int32)
  | 0, _, _ => none
  | n + 1, x3, x4 => (if x2 ≤ x4 then (kx x3) else (fX12_gossip_l41 N h q0 x2 x3 x4 (fun (z_9058 : Int32) => (fX12_gossip_l29 N h q0 x2 kx n z_9058 (x4 + (1 : Int32)))) N x3 (0 : Int32)))
set_option maxRecDepth 10000 in
set_option maxHeartbeats 4000000 in
theorem rX12_gossip_l29 {d N : Nat} (hd : 5 ≤ d) {h : iv_H} {q0 : Nat} {x2 : Int32} {kx : Int32 → Option (Int32)} {r : Int32} {Q : Option Value → iv_H → Prop} (hk : ∀ (x3 : Int32), kx x3 = some r → Rn d 313 (some .int) 168 [none, none, none, some (.int x3), none, none, none, none, none] [] h Q) (hq : Q (some (.int r)) h) : ∀ (n : Nat) (x3 : Int32) (x4 : Int32), fX12_gossip_l29 N h q0 x2 kx n x3 x4 = some r → Rn d 313 (some .int) 29 [some (.ref q0), none, some (.int x2), some (.int x3), some (.int x4), none, none, none, none] [] h Q := by
  have hT := hX12_gossip
  intro n
  induction n with
  | zero =>
    intro x3 x4 e
    rw [fX12_gossip_l29] at e
    cases e
  | succ n ih =>
    intro x3 x4 e
    rw [fX12_gossip_l29] at e
    refine Rn.n hT 2 (pc' := 32) (L' := [some (.ref q0), none, some (.int x2), some (.int x3), some (.int x4), none, none, none, none]) (st' := [.int x2, .int x4]) rfl ?_
    by_cases c_9057 : x2 ≤ x4
    · rw [if_pos c_9057] at e
      refine Rn.bt hT rfl rfl rfl (decide_eq_true c_9057) ?_
      exact Rn.weak (ll_n (ll_n (ll_n (ll_s (ll_n (ll_n (ll_n (ll_n (ll_n ll_e))))))))) (hk x3 e)
    · rw [if_neg c_9057] at e
      refine Rn.bf hT rfl rfl rfl (decide_eq_false c_9057) ?_
      refine Rn.n hT 4 (pc' := 41) (L' := [some (.ref q0), none, some (.int x2), some (.int x3), some (.int x4), some (.int x3), some (.int (0 : Int32)), none, none]) (st' := []) rfl ?_
      refine Rn.weak (ll_s (ll_n (ll_s (ll_s (ll_s (ll_s (ll_s (ll_n (ll_n ll_e))))))))) (rX12_gossip_l41 hd (fun z_9058 e => ?_) hq N x3 (0 : Int32) e)
      try dsimp only at e
      refine Rn.n hT 4 (pc' := 29) (L' := [some (.ref q0), none, some (.int x2), some (.int z_9058), some (.int (x4 + (1 : Int32))), some (.int z_9058), none, none, none]) (st' := []) rfl ?_
      exact Rn.weak (ll_s (ll_n (ll_s (ll_s (ll_s (ll_n (ll_n (ll_n (ll_n ll_e))))))))) (ih z_9058 (x4 + (1 : Int32)) e)
def fX12_gossip (N : Nat) (h : iv_H) (q0 : Nat) (x1 : Int32) (x2 : Int32) : Option (Int32) := ((cko h q0 12).bind fun _ => (fX12_isRoom N h q0 x1).bind fun v_9049 => (if v_9049 = 0 then (fX12_gossip_b20 N h) else ((fX12_in N h ((x2).toInt64) (0 : Int64) (16 : Int64)).bind fun v_9052 => (if v_9052 = 0 then (fX12_gossip_b20 N h) else (fX12_gossip_l29 N h q0 x2 (fun (z_9054 : Int32) => ((fX12_bits N h z_9054).bind fun v_9056 => (some v_9056))) N ((1 : Int32) <<< (x1 &&& 31)) (0 : Int32))))))
set_option maxRecDepth 10000 in
set_option maxHeartbeats 4000000 in
theorem rX12_gossip {d N : Nat} (hd : 6 ≤ d) {h : iv_H} {q0 : Nat} {x1 : Int32} {x2 : Int32} {r : Int32} {Q : Option Value → iv_H → Prop} (e : fX12_gossip N h q0 x1 x2 = some r) (hq : Q (some (.int r)) h) : Cl d 313 [.ref q0, .int x1, .int x2] h Q := by
  obtain ⟨d, rfl⟩ : ∃ k, d = k + 1 := ⟨d - 1, by omega⟩
  have hd : 5 ≤ d := by omega
  have hT := hX12_gossip
  unfold fX12_gossip at e
  refine Cl.into (by decide) gX12_gossip rfl ?_
  show Rn d 313 (some .int) 0 [some (.ref q0), some (.int x1), some (.int x2), none, none, none, none, none, none] [] h Q
  refine Rn.n hT 2 (pc' := 2) (L' := [some (.ref q0), some (.int x1), some (.int x2), none, none, none, none, none, none]) (st' := [.int x1, .ref q0]) rfl ?_
  obtain ⟨_, e_9048, e⟩ := Option.bind_eq_some_iff.mp e
  obtain ⟨v_9049, e_9047, e⟩ := Option.bind_eq_some_iff.mp e
  refine Rn.call hT rfl rfl rfl (Nat.le_of_ble_eq_true rfl) (rcv_v gX12_isRoom (by omega) e_9048) (rX12_isRoom (by omega) e_9047 ?_)
  show Rn d _ _ 5 [some (.ref q0), some (.int x1), some (.int x2), none, none, none, none, none, none] [.int v_9049] h Q
  by_cases c_9050 : v_9049 = 0
  · rw [if_pos c_9050] at e
    refine Rn.bt hT rfl rfl rfl (decide_eq_true c_9050) ?_
    exact Rn.weak (ll_n (ll_n (ll_n (ll_n (ll_n (ll_n (ll_n (ll_n (ll_n ll_e))))))))) (rX12_gossip_b20 hd hq e)
  · rw [if_neg c_9050] at e
    refine Rn.bf hT rfl rfl rfl (decide_eq_false c_9050) ?_
    refine Rn.n hT 4 (pc' := 14) (L' := [some (.ref q0), some (.int x1), some (.int x2), none, none, none, none, none, none]) (st' := [.long (16 : Int64), .long (0 : Int64), .long ((x2).toInt64)]) rfl ?_
    obtain ⟨v_9052, e_9051, e⟩ := Option.bind_eq_some_iff.mp e
    refine Rn.call hT rfl rfl rfl (Nat.le_of_ble_eq_true rfl) rfl (rX12_in (by omega) e_9051 ?_)
    show Rn d _ _ 17 [some (.ref q0), some (.int x1), some (.int x2), none, none, none, none, none, none] [.int v_9052] h Q
    by_cases c_9053 : v_9052 = 0
    · rw [if_pos c_9053] at e
      refine Rn.bf hT rfl rfl rfl (decide_eq_false (fun z => z c_9053)) ?_
      exact Rn.weak (ll_n (ll_n (ll_n (ll_n (ll_n (ll_n (ll_n (ll_n (ll_n ll_e))))))))) (rX12_gossip_b20 hd hq e)
    · rw [if_neg c_9053] at e
      refine Rn.bt hT rfl rfl rfl (decide_eq_true c_9053) ?_
      refine Rn.n hT 6 (pc' := 29) (L' := [some (.ref q0), some (.int x1), some (.int x2), some (.int ((1 : Int32) <<< (x1 &&& 31))), some (.int (0 : Int32)), none, none, none, none]) (st' := []) rfl ?_
      refine Rn.weak (ll_s (ll_n (ll_s (ll_s (ll_s (ll_n (ll_n (ll_n (ll_n ll_e))))))))) (rX12_gossip_l29 hd (fun z_9054 e => ?_) hq N ((1 : Int32) <<< (x1 &&& 31)) (0 : Int32) e)
      try dsimp only at e
      refine Rn.n hT 1 (pc' := 169) (L' := [none, none, none, some (.int z_9054), none, none, none, none, none]) (st' := [.int z_9054]) rfl ?_
      obtain ⟨v_9056, e_9055, e⟩ := Option.bind_eq_some_iff.mp e
      refine Rn.call hT rfl rfl rfl (Nat.le_of_ble_eq_true rfl) rfl (rX12_bits (by omega) e_9055 ?_)
      show Rn d _ _ 172 [none, none, none, some (.int z_9054), none, none, none, none, none] [.int v_9056] h Q
      obtain rfl := Option.some.inj e
      exact Rn.ret hT rfl rfl rfl hq
