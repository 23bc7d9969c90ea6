-- MIRRORS, 8 (written by wip/whole/mir.py)
set_option maxRecDepth 10000 in
theorem hX12_value : iv_Tb 219 tX12_value := iv_tb_of (m := mX12_value) rfl
set_option maxRecDepth 10000 in
theorem gX12_value : PG.2 219 = some mX12_value := iv_pi_of (t := tX12_value) rfl (by decide)
def fX12_value_l38 (N : Nat) (q0 : Nat) (x1 : Int32) (kx : iv_H → Int32 → Option (iv_H)) : Nat → iv_H → Int32 → Option (iv_H)
  | 0, _, _ => none
  | n + 1, h, x2 => ((gI h 12 37 q0).bind fun v_6298 => (if v_6298 ≤ x2 then (kx h x2) else ((fX12_wordOf N h x2).bind fun v_6302 => ((cko h q0 12).bind fun _ => (fX12_stood N h q0 v_6302).bind fun v_6305 => (if v_6305 = 0 then (fX12_value_l38 N q0 x1 kx n h (x2 + (1 : Int32))) else (kx h x2))))))
set_option maxRecDepth 10000 in
set_option maxHeartbeats 4000000 in
theorem rX12_value_l38 {d N : Nat} (hd : 11 ≤ d) {q0 : Nat} {x1 : Int32} {kx : iv_H → Int32 → Option (iv_H)} {r : iv_H} {Q : Option Value → iv_H → Prop} (hk : ∀ (h : iv_H) (x2 : Int32), kx h x2 = some r → Rn d 219 none 63 [some (.ref q0), some (.int x1), some (.int x2)] [] h Q) (hq : Q none r) : ∀ (n : Nat) (h : iv_H) (x2 : Int32), fX12_value_l38 N q0 x1 kx n h x2 = some r → Rn d 219 none 38 [some (.ref q0), some (.int x1), some (.int x2)] [] h Q := by
  have hT := hX12_value
  intro n
  induction n with
  | zero =>
    intro h x2 e
    rw [fX12_value_l38] at e
    cases e
  | succ n ih =>
    intro h x2 e
    rw [fX12_value_l38] at e
    refine Rn.n hT 2 (pc' := 40) (L' := [some (.ref q0), some (.int x1), some (.int x2)]) (st' := [.ref q0, .int x2]) rfl ?_
    obtain ⟨v_6298, e_6299, e⟩ := Option.bind_eq_some_iff.mp e
    refine Rn.hp hT rfl rfl (gI_hp e_6299) ?_
    by_cases c_6300 : v_6298 ≤ x2
    · rw [if_pos c_6300] at e
      refine Rn.bt hT rfl rfl rfl (decide_eq_true c_6300) ?_
      exact Rn.weak (ll_s (ll_s (ll_s ll_e))) (hk h x2 e)
    · rw [if_neg c_6300] at e
      refine Rn.bf hT rfl rfl rfl (decide_eq_false c_6300) ?_
      refine Rn.n hT 2 (pc' := 48) (L' := [some (.ref q0), some (.int x1), some (.int x2)]) (st' := [.int x2, .ref q0]) rfl ?_
      obtain ⟨v_6302, e_6301, e⟩ := Option.bind_eq_some_iff.mp e
      refine Rn.call hT rfl rfl rfl (Nat.le_of_ble_eq_true rfl) rfl (rX12_wordOf (by omega) e_6301 ?_)
      show Rn d _ _ 51 [some (.ref q0), some (.int x1), some (.int x2)] [.ref v_6302, .ref q0] h Q
      obtain ⟨_, e_6304, e⟩ := Option.bind_eq_some_iff.mp e
      obtain ⟨v_6305, e_6303, e⟩ := Option.bind_eq_some_iff.mp e
      refine Rn.call hT rfl rfl rfl (Nat.le_of_ble_eq_true rfl) (rcv_v gX12_stood (by omega) e_6304) (rX12_stood (by omega) e_6303 ?_)
      show Rn d _ _ 54 [some (.ref q0), some (.int x1), some (.int x2)] [.int v_6305] h Q
      by_cases c_6306 : v_6305 = 0
      · rw [if_pos c_6306] at e
        refine Rn.bf hT rfl rfl rfl (decide_eq_false (fun z => z c_6306)) ?_
        refine Rn.n hT 2 (pc' := 38) (L' := [some (.ref q0), some (.int x1), some (.int (x2 + (1 : Int32)))]) (st' := []) rfl ?_
        exact Rn.weak (ll_s (ll_s (ll_s ll_e))) (ih h (x2 + (1 : Int32)) e)
      · rw [if_neg c_6306] at e
        refine Rn.bt hT rfl rfl rfl (decide_eq_true c_6306) ?_
        exact Rn.weak (ll_s (ll_s (ll_s ll_e))) (hk h x2 e)
def fX12_value_b63 (N : Nat) (h : iv_H) (q0 : Nat) (x1 : Int32) (x2 : Int32)  : Option (iv_H) := ((gI h 12 37 q0).bind fun v_6307 => (if x2 = v_6307 then ((cko h q0 12).bind fun _ => (fX12_fails N h q0 (0 : Int32) x1).bind fun h_6329 => some h_6329) else ((cko h q0 12).bind fun _ => (fX12_isCounted N h q0 x1).bind fun h_6313 => ((gI h_6313 12 29 q0).bind fun v_6314 => ((fX12_wordOf N h_6313 x2).bind fun v_6317 => ((sL h_6313 v_6317).bind fun v_6319 => ((pV h_6313 12 29 q0 (.int (v_6314 + v_6319))).bind fun h_6320 => ((cko h_6320 q0 12).bind fun _ => (fX12_entry N h_6320 q0 (1 : Int32) x2).bind fun h_6325 => some h_6325))))))))
set_option maxRecDepth 10000 in
set_option maxHeartbeats 4000000 in
theorem rX12_value_b63 {d N : Nat} (hd : 11 ≤ d) {h : iv_H} {q0 : Nat} {x1 : Int32} {x2 : Int32}  {r : iv_H} {Q : Option Value → iv_H → Prop} (hq : Q none r) (e : fX12_value_b63 N h q0 x1 x2  = some r) : Rn d 219 none 63 [some (.ref q0), some (.int x1), some (.int x2)] [] h Q := by
  have hT := hX12_value
  unfold fX12_value_b63 at e
  refine Rn.n hT 2 (pc' := 65) (L' := [some (.ref q0), some (.int x1), some (.int x2)]) (st' := [.ref q0, .int x2]) rfl ?_
  obtain ⟨v_6307, e_6308, e⟩ := Option.bind_eq_some_iff.mp e
  refine Rn.hp hT rfl rfl (gI_hp e_6308) ?_
  by_cases c_6309 : x2 = v_6307
  · rw [if_pos c_6309] at e
    refine Rn.bf hT rfl rfl rfl (decide_eq_false (fun z => z c_6309)) ?_
    refine Rn.n hT 3 (pc' := 74) (L' := [some (.ref q0), some (.int x1), some (.int x2)]) (st' := [.int x1, .int (0 : Int32), .ref q0]) rfl ?_
    obtain ⟨_, e_6327, e⟩ := Option.bind_eq_some_iff.mp e
    obtain ⟨h_6329, e_6326, e⟩ := Option.bind_eq_some_iff.mp e
    refine Rn.call hT rfl rfl rfl (Nat.le_of_ble_eq_true rfl) (rcv_v gX12_fails (by omega) e_6327) (rX12_fails (by omega) e_6326 ?_)
    show Rn d _ _ 77 [some (.ref q0), some (.int x1), some (.int x2)] [] h_6329 Q
    obtain rfl := Option.some.inj e
    exact Rn.ret hT rfl rfl rfl hq
  · rw [if_neg c_6309] at e
    refine Rn.bt hT rfl rfl rfl (decide_eq_true c_6309) ?_
    refine Rn.n hT 2 (pc' := 80) (L' := [some (.ref q0), some (.int x1), some (.int x2)]) (st' := [.int x1, .ref q0]) rfl ?_
    obtain ⟨_, e_6311, e⟩ := Option.bind_eq_some_iff.mp e
    obtain ⟨h_6313, e_6310, e⟩ := Option.bind_eq_some_iff.mp e
    refine Rn.call hT rfl rfl rfl (Nat.le_of_ble_eq_true rfl) (rcv_v gX12_isCounted (by omega) e_6311) (rX12_isCounted (by omega) e_6310 ?_)
    show Rn d _ _ 83 [some (.ref q0), some (.int x1), some (.int x2)] [] h_6313 Q
    refine Rn.n hT 2 (pc' := 85) (L' := [some (.ref q0), some (.int x1), some (.int x2)]) (st' := [.ref q0, .ref q0]) rfl ?_
    obtain ⟨v_6314, e_6315, e⟩ := Option.bind_eq_some_iff.mp e
    refine Rn.hp hT rfl rfl (gI_hp e_6315) ?_
    refine Rn.n hT 1 (pc' := 89) (L' := [some (.ref q0), some (.int x1), some (.int x2)]) (st' := [.int x2, .int v_6314, .ref q0]) rfl ?_
    obtain ⟨v_6317, e_6316, e⟩ := Option.bind_eq_some_iff.mp e
    refine Rn.call hT rfl rfl rfl (Nat.le_of_ble_eq_true rfl) rfl (rX12_wordOf (by omega) e_6316 ?_)
    show Rn d _ _ 92 [some (.ref q0), some (.int x1), some (.int x2)] [.ref v_6317, .int v_6314, .ref q0] h_6313 Q
    obtain ⟨v_6319, e_6318, e⟩ := Option.bind_eq_some_iff.mp e
    refine Rn.call hT rfl rfl rfl (Nat.le_of_ble_eq_true rfl) rfl (sL_cl (by omega) e_6318 ?_)
    show Rn d _ _ 95 [some (.ref q0), some (.int x1), some (.int x2)] [.int v_6319, .int v_6314, .ref q0] h_6313 Q
    refine Rn.n hT 1 (pc' := 96) (L' := [some (.ref q0), some (.int x1), some (.int x2)]) (st' := [.int (v_6314 + v_6319), .ref q0]) rfl ?_
    obtain ⟨h_6320, e_6321, e⟩ := Option.bind_eq_some_iff.mp e
    refine Rn.hp hT rfl rfl (pV_hp rfl e_6321) ?_
    refine Rn.n hT 3 (pc' := 102) (L' := [some (.ref q0), some (.int x1), some (.int x2)]) (st' := [.int x2, .int (1 : Int32), .ref q0]) rfl ?_
    obtain ⟨_, e_6323, e⟩ := Option.bind_eq_some_iff.mp e
    obtain ⟨h_6325, e_6322, e⟩ := Option.bind_eq_some_iff.mp e
    refine Rn.call hT rfl rfl rfl (Nat.le_of_ble_eq_true rfl) (rcv_v gX12_entry (by omega) e_6323) (rX12_entry (by omega) e_6322 ?_)
    show Rn d _ _ 105 [some (.ref q0), some (.int x1), some (.int x2)] [] h_6325 Q
    obtain rfl := Option.some.inj e
    exact Rn.ret hT rfl rfl rfl hq
def fX12_value (N : Nat) (h : iv_H) (q0 : Nat) : Option (iv_H) := ((cko h q0 12).bind fun _ => (fX12_blanks N h q0).bind fun h_6276 => ((gI h_6276 12 29 q0).bind fun v_6277 => ((cko h_6276 q0 12).bind fun _ => (fX12_isDigit N h_6276 q0).bind fun v_6281 => (if v_6281 = 0 then (fX12_value_l38 N q0 v_6277 (fun (h_6283 : iv_H) (z_6284 : Int32) => (fX12_value_b63 N h_6283 q0 v_6277 z_6284)) N h_6276 (0 : Int32)) else ((cko h_6276 q0 12).bind fun _ => (fX12_digits N h_6276 q0 (99999 : Int32)).bind fun p_6297 => (fun (v_6287 : Int32) (h_6288 : iv_H) => ((cko h_6288 q0 12).bind fun _ => (fX12_isCounted N h_6288 q0 v_6277).bind fun h_6292 => ((cko h_6292 q0 12).bind fun _ => (fX12_entry N h_6292 q0 (0 : Int32) v_6287).bind fun h_6296 => some h_6296))) p_6297.1 p_6297.2)))))
set_option maxRecDepth 10000 in
set_option maxHeartbeats 4000000 in
theorem rX12_value {d N : Nat} (hd : 12 ≤ d) {h : iv_H} {q0 : Nat} {r : iv_H} {Q : Option Value → iv_H → Prop} (e : fX12_value N h q0 = some r) (hq : Q none r) : Cl d 219 [.ref q0] h Q := by
  obtain ⟨d, rfl⟩ : ∃ k, d = k + 1 := ⟨d - 1, by omega⟩
  have hd : 11 ≤ d := by omega
  have hT := hX12_value
  unfold fX12_value at e
  refine Cl.into (by decide) gX12_value rfl ?_
  show Rn d 219 none 0 [some (.ref q0), none, none] [] h Q
  refine Rn.n hT 1 (pc' := 1) (L' := [some (.ref q0), none, none]) (st' := [.ref q0]) rfl ?_
  obtain ⟨_, e_6274, e⟩ := Option.bind_eq_some_iff.mp e
  obtain ⟨h_6276, e_6273, e⟩ := Option.bind_eq_some_iff.mp e
  refine Rn.call hT rfl rfl rfl (Nat.le_of_ble_eq_true rfl) (rcv_v gX12_blanks (by omega) e_6274) (rX12_blanks (by omega) e_6273 ?_)
  show Rn d _ _ 4 [some (.ref q0), none, none] [] h_6276 Q
  refine Rn.n hT 1 (pc' := 5) (L' := [some (.ref q0), none, none]) (st' := [.ref q0]) rfl ?_
  obtain ⟨v_6277, e_6278, e⟩ := Option.bind_eq_some_iff.mp e
  refine Rn.hp hT rfl rfl (gI_hp e_6278) ?_
  refine Rn.n hT 2 (pc' := 10) (L' := [some (.ref q0), some (.int v_6277), none]) (st' := [.ref q0]) rfl ?_
  obtain ⟨_, e_6280, e⟩ := Option.bind_eq_some_iff.mp e
  obtain ⟨v_6281, e_6279, e⟩ := Option.bind_eq_some_iff.mp e
  refine Rn.call hT rfl rfl rfl (Nat.le_of_ble_eq_true rfl) (rcv_v gX12_isDigit (by omega) e_6280) (rX12_isDigit (by omega) e_6279 ?_)
  show Rn d _ _ 13 [some (.ref q0), some (.int v_6277), none] [.int v_6281] h_6276 Q
  by_cases c_6282 : v_6281 = 0
  · rw [if_pos c_6282] at e
    refine Rn.bt hT rfl rfl rfl (decide_eq_true c_6282) ?_
    refine Rn.n hT 2 (pc' := 38) (L' := [some (.ref q0), some (.int v_6277), some (.int (0 : Int32))]) (st' := []) rfl ?_
    refine Rn.weak (ll_s (ll_s (ll_s ll_e))) (rX12_value_l38 hd (fun h_6283 z_6284 e => ?_) hq N h_6276 (0 : Int32) e)
    try dsimp only at e
    exact Rn.weak (ll_s (ll_s (ll_s ll_e))) (rX12_value_b63 hd hq e)
  · rw [if_neg c_6282] at e
    refine Rn.bf hT rfl rfl rfl (decide_eq_false c_6282) ?_
    refine Rn.n hT 2 (pc' := 20) (L' := [some (.ref q0), some (.int v_6277), none]) (st' := [.int (99999 : Int32), .ref q0]) rfl ?_
    obtain ⟨_, e_6286, e⟩ := Option.bind_eq_some_iff.mp e
    obtain ⟨⟨v_6287, h_6288⟩, e_6285, e⟩ := Option.bind_eq_some_iff.mp e
    try dsimp only at e
    try dsimp only at e
    refine Rn.call hT rfl rfl rfl (Nat.le_of_ble_eq_true rfl) (rcv_v gX12_digits (by omega) e_6286) (rX12_digits (by omega) e_6285 ?_)
    show Rn d _ _ 23 [some (.ref q0), some (.int v_6277), none] [.int v_6287] h_6288 Q
    refine Rn.n hT 3 (pc' := 26) (L' := [some (.ref q0), some (.int v_6277), some (.int v_6287)]) (st' := [.int v_6277, .ref q0]) rfl ?_
    obtain ⟨_, e_6290, e⟩ := Option.bind_eq_some_iff.mp e
    obtain ⟨h_6292, e_6289, e⟩ := Option.bind_eq_some_iff.mp e
    refine Rn.call hT rfl rfl rfl (Nat.le_of_ble_eq_true rfl) (rcv_v gX12_isCounted (by omega) e_6290) (rX12_isCounted (by omega) e_6289 ?_)
    show Rn d _ _ 29 [some (.ref q0), some (.int v_6277), some (.int v_6287)] [] h_6292 Q
    refine Rn.n hT 3 (pc' := 32) (L' := [some (.ref q0), some (.int v_6277), some (.int v_6287)]) (st' := [.int v_6287, .int (0 : Int32), .ref q0]) rfl ?_
    obtain ⟨_, e_6294, e⟩ := Option.bind_eq_some_iff.mp e
    obtain ⟨h_6296, e_6293, e⟩ := Option.bind_eq_some_iff.mp e
    refine Rn.call hT rfl rfl rfl (Nat.le_of_ble_eq_true rfl) (rcv_v gX12_entry (by omega) e_6294) (rX12_entry (by omega) e_6293 ?_)
    show Rn d _ _ 35 [some (.ref q0), some (.int v_6277), some (.int v_6287)] [] h_6296 Q
    obtain rfl := Option.some.inj e
    exact Rn.ret hT rfl rfl rfl hq
set_option maxRecDepth 10000 in
theorem hX12_term : iv_Tb 220 tX12_term := iv_tb_of (m := mX12_term) rfl
set_option maxRecDepth 10000 in
theorem gX12_term : PG.2 220 = some mX12_term := iv_pi_of (t := tX12_term) rfl (by decide)
def fX12_term_b72 (N : Nat) (h : iv_H) (q0 : Nat) (s0 : Int32) (kb : iv_H → Option (iv_H)) (kx : iv_H → Option (iv_H)) : Option (iv_H) := ((gI h 12 29 q0).bind fun v_6362 => ((pV h 12 29 q0 (.int (v_6362 + (1 : Int32)))).bind fun h_6364 => ((cko h_6364 q0 12).bind fun _ => (fX12_value N h_6364 q0).bind fun h_6369 => ((cko h_6369 q0 12).bind fun _ => (fX12_entry N h_6369 q0 s0 (0 : Int32)).bind fun h_6373 => ((cko h_6373 q0 12).bind fun _ => (fX12_blanks N h_6373 q0).bind fun h_6377 => (kb h_6377))))))
set_option maxRecDepth 10000 in
set_option maxHeartbeats 4000000 in
theorem rX12_term_b72 {d N : Nat} (hd : 12 ≤ d) {h : iv_H} {q0 : Nat} {s0 : Int32} {kb : iv_H → Option (iv_H)} {kx : iv_H → Option (iv_H)} {r : iv_H} {Q : Option Value → iv_H → Prop} (hb : ∀ (h : iv_H), kb h = some r → Rn d 220 none 8 [some (.ref q0), none] [] h Q) (hk : ∀ (h : iv_H), kx h = some r → Rn d 220 none 100 [none, none] [] h Q) (hq : Q none r) (e : fX12_term_b72 N h q0 s0 kb kx = some r) : Rn d 220 none 72 [some (.ref q0), none] [.int s0] h Q := by
  have hT := hX12_term
  unfold fX12_term_b72 at e
  refine Rn.n hT 3 (pc' := 75) (L' := [some (.ref q0), some (.int s0)]) (st' := [.ref q0, .ref q0]) rfl ?_
  obtain ⟨v_6362, e_6363, e⟩ := Option.bind_eq_some_iff.mp e
  refine Rn.hp hT rfl rfl (gI_hp e_6363) ?_
  refine Rn.n hT 2 (pc' := 80) (L' := [some (.ref q0), some (.int s0)]) (st' := [.int (v_6362 + (1 : Int32)), .ref q0]) rfl ?_
  obtain ⟨h_6364, e_6365, e⟩ := Option.bind_eq_some_iff.mp e
  refine Rn.hp hT rfl rfl (pV_hp rfl e_6365) ?_
  refine Rn.n hT 1 (pc' := 84) (L' := [some (.ref q0), some (.int s0)]) (st' := [.ref q0]) rfl ?_
  obtain ⟨_, e_6367, e⟩ := Option.bind_eq_some_iff.mp e
  obtain ⟨h_6369, e_6366, e⟩ := Option.bind_eq_some_iff.mp e
  refine Rn.call hT rfl rfl rfl (Nat.le_of_ble_eq_true rfl) (rcv_v gX12_value (by omega) e_6367) (rX12_value (by omega) e_6366 ?_)
  show Rn d _ _ 87 [some (.ref q0), some (.int s0)] [] h_6369 Q
  refine Rn.n hT 3 (pc' := 90) (L' := [some (.ref q0), some (.int s0)]) (st' := [.int (0 : Int32), .int s0, .ref q0]) rfl ?_
  obtain ⟨_, e_6371, e⟩ := Option.bind_eq_some_iff.mp e
  obtain ⟨h_6373, e_6370, e⟩ := Option.bind_eq_some_iff.mp e
  refine Rn.call hT rfl rfl rfl (Nat.le_of_ble_eq_true rfl) (rcv_v gX12_entry (by omega) e_6371) (rX12_entry (by omega) e_6370 ?_)
  show Rn d _ _ 93 [some (.ref q0), some (.int s0)] [] h_6373 Q
  refine Rn.n hT 1 (pc' := 94) (L' := [some (.ref q0), some (.int s0)]) (st' := [.ref q0]) rfl ?_
  obtain ⟨_, e_6375, e⟩ := Option.bind_eq_some_iff.mp e
  obtain ⟨h_6377, e_6374, e⟩ := Option.bind_eq_some_iff.mp e
  refine Rn.call hT rfl rfl rfl (Nat.le_of_ble_eq_true rfl) (rcv_v gX12_blanks (by omega) e_6375) (rX12_blanks (by omega) e_6374 ?_)
  show Rn d _ _ 97 [some (.ref q0), some (.int s0)] [] h_6377 Q
  refine Rn.n hT 1 (pc' := 8) (L' := [some (.ref q0), some (.int s0)]) (st' := []) rfl ?_
  exact Rn.weak (ll_s (ll_n ll_e)) (hb h_6377 e)
def fX12_term_b42 (N : Nat) (h : iv_H) (q0 : Nat)  (kb : iv_H → Option (iv_H)) (kx : iv_H → Option (iv_H)) : Option (iv_H) := ((cko h q0 12).bind fun _ => (fX12_sign N h q0).bind fun v_6356 => (if v_6356 = (42 : Int32) then (fX12_term_b72 N h q0 (13 : Int32) kb kx) else ((cko h q0 12).bind fun _ => (fX12_sign N h q0).bind fun v_6360 => (if v_6360 = (47 : Int32) then (fX12_term_b72 N h q0 (14 : Int32) kb kx) else (fX12_term_b72 N h q0 (15 : Int32) kb kx)))))
set_option maxRecDepth 10000 in
set_option maxHeartbeats 4000000 in
theorem rX12_term_b42 {d N : Nat} (hd : 12 ≤ d) {h : iv_H} {q0 : Nat}  {kb : iv_H → Option (iv_H)} {kx : iv_H → Option (iv_H)} {r : iv_H} {Q : Option Value → iv_H → Prop} (hb : ∀ (h : iv_H), kb h = some r → Rn d 220 none 8 [some (.ref q0), none] [] h Q) (hk : ∀ (h : iv_H), kx h = some r → Rn d 220 none 100 [none, none] [] h Q) (hq : Q none r) (e : fX12_term_b42 N h q0  kb kx = some r) : Rn d 220 none 42 [some (.ref q0), none] [] h Q := by
  have hT := hX12_term
  unfold fX12_term_b42 at e
  refine Rn.n hT 1 (pc' := 43) (L' := [some (.ref q0), none]) (st' := [.ref q0]) rfl ?_
  obtain ⟨_, e_6355, e⟩ := Option.bind_eq_some_iff.mp e
  obtain ⟨v_6356, e_6354, e⟩ := Option.bind_eq_some_iff.mp e
  refine Rn.call hT rfl rfl rfl (Nat.le_of_ble_eq_true rfl) (rcv_v gX12_sign (by omega) e_6355) (rX12_sign (by omega) e_6354 ?_)
  show Rn d _ _ 46 [some (.ref q0), none] [.int v_6356] h Q
  refine Rn.n hT 1 (pc' := 48) (L' := [some (.ref q0), none]) (st' := [.int (42 : Int32), .int v_6356]) rfl ?_
  by_cases c_6357 : v_6356 = (42 : Int32)
  · rw [if_pos c_6357] at e
    refine Rn.bf hT rfl rfl rfl (decide_eq_false (fun z => z c_6357)) ?_
    refine Rn.n hT 2 (pc' := 72) (L' := [some (.ref q0), none]) (st' := [.int (13 : Int32)]) rfl ?_
    exact Rn.weak (ll_s (ll_n ll_e)) (rX12_term_b72 hd hb hk hq e)
  · rw [if_neg c_6357] at e
    refine Rn.bt hT rfl rfl rfl (decide_eq_true c_6357) ?_
    refine Rn.n hT 1 (pc' := 57) (L' := [some (.ref q0), none]) (st' := [.ref q0]) rfl ?_
    obtain ⟨_, e_6359, e⟩ := Option.bind_eq_some_iff.mp e
    obtain ⟨v_6360, e_6358, e⟩ := Option.bind_eq_some_iff.mp e
    refine Rn.call hT rfl rfl rfl (Nat.le_of_ble_eq_true rfl) (rcv_v gX12_sign (by omega) e_6359) (rX12_sign (by omega) e_6358 ?_)
    show Rn d _ _ 60 [some (.ref q0), none] [.int v_6360] h Q
    refine Rn.n hT 1 (pc' := 62) (L' := [some (.ref q0), none]) (st' := [.int (47 : Int32), .int v_6360]) rfl ?_
    by_cases c_6361 : v_6360 = (47 : Int32)
    · rw [if_pos c_6361] at e
      refine Rn.bf hT rfl rfl rfl (decide_eq_false (fun z => z c_6361)) ?_
      refine Rn.n hT 2 (pc' := 72) (L' := [some (.ref q0), none]) (st' := [.int (14 : Int32)]) rfl ?_
      exact Rn.weak (ll_s (ll_n ll_e)) (rX12_term_b72 hd hb hk hq e)
    · rw [if_neg c_6361] at e
      refine Rn.bt hT rfl rfl rfl (decide_eq_true c_6361) ?_
      refine Rn.n hT 1 (pc' := 72) (L' := [some (.ref q0), none]) (st' := [.int (15 : Int32)]) rfl ?_
      exact Rn.weak (ll_s (ll_n ll_e)) (rX12_term_b72 hd hb hk hq e)
def fX12_term_l8 (N : Nat) (q0 : Nat) (kx : iv_H → Option (iv_H)) : Nat → iv_H → Option (iv_H)
  | 0, _ => none
  | n + 1, h => ((gI h 12 30 q0).bind fun v_6339 => (if v_6339 = 0 then ((cko h q0 12).bind fun _ => (fX12_sign N h q0).bind fun v_6344 => (if v_6344 = (42 : Int32) then (fX12_term_b42 N h q0 (fX12_term_l8 N q0 kx n) kx) else ((cko h q0 12).bind fun _ => (fX12_sign N h q0).bind fun v_6348 => (if v_6348 = (47 : Int32) then (fX12_term_b42 N h q0 (fX12_term_l8 N q0 kx n) kx) else ((cko h q0 12).bind fun _ => (fX12_sign N h q0).bind fun v_6352 => (if v_6352 = (37 : Int32) then (fX12_term_b42 N h q0 (fX12_term_l8 N q0 kx n) kx) else (kx h))))))) else (kx h)))
set_option maxRecDepth 10000 in
set_option maxHeartbeats 4000000 in
theorem rX12_term_l8 {d N : Nat} (hd : 12 ≤ d) {q0 : Nat} {kx : iv_H → Option (iv_H)} {r : iv_H} {Q : Option Value → iv_H → Prop} (hk : ∀ (h : iv_H), kx h = some r → Rn d 220 none 100 [none, none] [] h Q) (hq : Q none r) : ∀ (n : Nat) (h : iv_H), fX12_term_l8 N q0 kx n h = some r → Rn d 220 none 8 [some (.ref q0), none] [] h Q := by
  have hT := hX12_term
  intro n
  induction n with
  | zero =>
    intro h e
    rw [fX12_term_l8] at e
    cases e
  | succ n ih =>
    intro h e
    rw [fX12_term_l8] at e
    refine Rn.n hT 1 (pc' := 9) (L' := [some (.ref q0), none]) (st' := [.ref q0]) rfl ?_
    obtain ⟨v_6339, e_6340, e⟩ := Option.bind_eq_some_iff.mp e
    refine Rn.hp hT rfl rfl (gI_hp e_6340) ?_
    by_cases c_6341 : v_6339 = 0
    · rw [if_pos c_6341] at e
      refine Rn.bf hT rfl rfl rfl (decide_eq_false (fun z => z c_6341)) ?_
      refine Rn.n hT 1 (pc' := 16) (L' := [some (.ref q0), none]) (st' := [.ref q0]) rfl ?_
      obtain ⟨_, e_6343, e⟩ := Option.bind_eq_some_iff.mp e
      obtain ⟨v_6344, e_6342, e⟩ := Option.bind_eq_some_iff.mp e
      refine Rn.call hT rfl rfl rfl (Nat.le_of_ble_eq_true rfl) (rcv_v gX12_sign (by omega) e_6343) (rX12_sign (by omega) e_6342 ?_)
      show Rn d _ _ 19 [some (.ref q0), none] [.int v_6344] h Q
      refine Rn.n hT 1 (pc' := 21) (L' := [some (.ref q0), none]) (st' := [.int (42 : Int32), .int v_6344]) rfl ?_
      by_cases c_6345 : v_6344 = (42 : Int32)
      · rw [if_pos c_6345] at e
        refine Rn.bt hT rfl rfl rfl (decide_eq_true c_6345) ?_
        exact Rn.weak (ll_s (ll_n ll_e)) (rX12_term_b42 hd ih hk hq e)
      · rw [if_neg c_6345] at e
        refine Rn.bf hT rfl rfl rfl (decide_eq_false c_6345) ?_
        refine Rn.n hT 1 (pc' := 25) (L' := [some (.ref q0), none]) (st' := [.ref q0]) rfl ?_
        obtain ⟨_, e_6347, e⟩ := Option.bind_eq_some_iff.mp e
        obtain ⟨v_6348, e_6346, e⟩ := Option.bind_eq_some_iff.mp e
        refine Rn.call hT rfl rfl rfl (Nat.le_of_ble_eq_true rfl) (rcv_v gX12_sign (by omega) e_6347) (rX12_sign (by omega) e_6346 ?_)
        show Rn d _ _ 28 [some (.ref q0), none] [.int v_6348] h Q
        refine Rn.n hT 1 (pc' := 30) (L' := [some (.ref q0), none]) (st' := [.int (47 : Int32), .int v_6348]) rfl ?_
        by_cases c_6349 : v_6348 = (47 : Int32)
        · rw [if_pos c_6349] at e
          refine Rn.bt hT rfl rfl rfl (decide_eq_true c_6349) ?_
          exact Rn.weak (ll_s (ll_n ll_e)) (rX12_term_b42 hd ih hk hq e)
        · rw [if_neg c_6349] at e
          refine Rn.bf hT rfl rfl rfl (decide_eq_false c_6349) ?_
          refine Rn.n hT 1 (pc' := 34) (L' := [some (.ref q0), none]) (st' := [.ref q0]) rfl ?_
          obtain ⟨_, e_6351, e⟩ := Option.bind_eq_some_iff.mp e
          obtain ⟨v_6352, e_6350, e⟩ := Option.bind_eq_some_iff.mp e
          refine Rn.call hT rfl rfl rfl (Nat.le_of_ble_eq_true rfl) (rcv_v gX12_sign (by omega) e_6351) (rX12_sign (by omega) e_6350 ?_)
          show Rn d _ _ 37 [some (.ref q0), none] [.int v_6352] h Q
          refine Rn.n hT 1 (pc' := 39) (L' := [some (.ref q0), none]) (st' := [.int (37 : Int32), .int v_6352]) rfl ?_
          by_cases c_6353 : v_6352 = (37 : Int32)
          · rw [if_pos c_6353] at e
            refine Rn.bf hT rfl rfl rfl (decide_eq_false (fun z => z c_6353)) ?_
            exact Rn.weak (ll_s (ll_n ll_e)) (rX12_term_b42 hd ih hk hq e)
          · rw [if_neg c_6353] at e
            refine Rn.bt hT rfl rfl rfl (decide_eq_true c_6353) ?_
            exact Rn.weak (ll_n (ll_n ll_e)) (hk h e)
    · rw [if_neg c_6341] at e
      refine Rn.bt hT rfl rfl rfl (decide_eq_true c_6341) ?_
      exact Rn.weak (ll_n (ll_n ll_e)) (hk h e)
def fX12_term_b100 (N : Nat) (h : iv_H)   : Option (iv_H) := some h
set_option maxRecDepth 10000 in
set_option maxHeartbeats 4000000 in
theorem rX12_term_b100 {d N : Nat} (hd : 12 ≤ d) {h : iv_H}   {r : iv_H} {Q : Option Value → iv_H → Prop} (hq : Q none r) (e : fX12_term_b100 N h   = some r) : Rn d 220 none 100 [none, none] [] h Q := by
  have hT := hX12_term
  unfold fX12_term_b100 at e
  obtain rfl := Option.some.inj e
  exact Rn.ret hT rfl rfl rfl hq
def fX12_term (N : Nat) (h : iv_H) (q0 : Nat) : Option (iv_H) := ((cko h q0 12).bind fun _ => (fX12_value N h q0).bind fun h_6333 => ((cko h_6333 q0 12).bind fun _ => (fX12_blanks N h_6333 q0).bind fun h_6337 => (fX12_term_l8 N q0 (fun (h_6338 : iv_H) => (fX12_term_b100 N h_6338)) N h_6337)))
set_option maxRecDepth 10000 in
set_option maxHeartbeats 4000000 in
theorem rX12_term {d N : Nat} (hd : 13 ≤ d) {h : iv_H} {q0 : Nat} {r : iv_H} {Q : Option Value → iv_H → Prop} (e : fX12_term N h q0 = some r) (hq : Q none r) : Cl d 220 [.ref q0] h Q := by
  obtain ⟨d, rfl⟩ : ∃ k, d = k + 1 := ⟨d - 1, by omega⟩
  have hd : 12 ≤ d := by omega
  have hT := hX12_term
  unfold fX12_term at e
  refine Cl.into (by decide) gX12_term rfl ?_
  show Rn d 220 none 0 [some (.ref q0), none] [] h Q
  refine Rn.n hT 1 (pc' := 1) (L' := [some (.ref q0), none]) (st' := [.ref q0]) rfl ?_
  obtain ⟨_, e_6331, e⟩ := Option.bind_eq_some_iff.mp e
  obtain ⟨h_6333, e_6330, e⟩ := Option.bind_eq_some_iff.mp e
  refine Rn.call hT rfl rfl rfl (Nat.le_of_ble_eq_true rfl) (rcv_v gX12_value (by omega) e_6331) (rX12_value (by omega) e_6330 ?_)
  show Rn d _ _ 4 [some (.ref q0), none] [] h_6333 Q
  refine Rn.n hT 1 (pc' := 5) (L' := [some (.ref q0), none]) (st' := [.ref q0]) rfl ?_
  obtain ⟨_, e_6335, e⟩ := Option.bind_eq_some_iff.mp e
  obtain ⟨h_6337, e_6334, e⟩ := Option.bind_eq_some_iff.mp e
  refine Rn.call hT rfl rfl rfl (Nat.le_of_ble_eq_true rfl) (rcv_v gX12_blanks (by omega) e_6335) (rX12_blanks (by omega) e_6334 ?_)
  show Rn d _ _ 8 [some (.ref q0), none] [] h_6337 Q
  refine Rn.weak (ll_s (ll_n ll_e)) (rX12_term_l8 hd (fun h_6338 e => ?_) hq N h_6337 e)
  try dsimp only at e
  exact Rn.weak (ll_n (ll_n ll_e)) (rX12_term_b100 hd hq e)
set_option maxRecDepth 10000 in
theorem hX12_sum : iv_Tb 221 tX12_sum := iv_tb_of (m := mX12_sum) rfl
set_option maxRecDepth 10000 in
theorem gX12_sum : PG.2 221 = some mX12_sum := iv_pi_of (t := tX12_sum) rfl (by decide)
def fX12_sum_b43 (N : Nat) (h : iv_H) (q0 : Nat) (s0 : Int32) (kb : iv_H → Option (iv_H)) (kx : iv_H → Option (iv_H)) : Option (iv_H) := ((gI h 12 29 q0).bind fun v_6398 => ((pV h 12 29 q0 (.int (v_6398 + (1 : Int32)))).bind fun h_6400 => ((cko h_6400 q0 12).bind fun _ => (fX12_term N h_6400 q0).bind fun h_6405 => ((cko h_6405 q0 12).bind fun _ => (fX12_entry N h_6405 q0 s0 (0 : Int32)).bind fun h_6409 => (kb h_6409)))))
set_option maxRecDepth 10000 in
set_option maxHeartbeats 4000000 in
theorem rX12_sum_b43 {d N : Nat} (hd : 13 ≤ d) {h : iv_H} {q0 : Nat} {s0 : Int32} {kb : iv_H → Option (iv_H)} {kx : iv_H → Option (iv_H)} {r : iv_H} {Q : Option Value → iv_H → Prop} (hb : ∀ (h : iv_H), kb h = some r → Rn d 221 none 4 [some (.ref q0), none] [] h Q) (hk : ∀ (h : iv_H), kx h = some r → Rn d 221 none 67 [none, none] [] h Q) (hq : Q none r) (e : fX12_sum_b43 N h q0 s0 kb kx = some r) : Rn d 221 none 43 [some (.ref q0), none] [.int s0] h Q := by
  have hT := hX12_sum
  unfold fX12_sum_b43 at e
  refine Rn.n hT 3 (pc' := 46) (L' := [some (.ref q0), some (.int s0)]) (st' := [.ref q0, .ref q0]) rfl ?_
  obtain ⟨v_6398, e_6399, e⟩ := Option.bind_eq_some_iff.mp e
  refine Rn.hp hT rfl rfl (gI_hp e_6399) ?_
  refine Rn.n hT 2 (pc' := 51) (L' := [some (.ref q0), some (.int s0)]) (st' := [.int (v_6398 + (1 : Int32)), .ref q0]) rfl ?_
  obtain ⟨h_6400, e_6401, e⟩ := Option.bind_eq_some_iff.mp e
  refine Rn.hp hT rfl rfl (pV_hp rfl e_6401) ?_
  refine Rn.n hT 1 (pc' := 55) (L' := [some (.ref q0), some (.int s0)]) (st' := [.ref q0]) rfl ?_
  obtain ⟨_, e_6403, e⟩ := Option.bind_eq_some_iff.mp e
  obtain ⟨h_6405, e_6402, e⟩ := Option.bind_eq_some_iff.mp e
  refine Rn.call hT rfl rfl rfl (Nat.le_of_ble_eq_true rfl) (rcv_v gX12_term (by omega) e_6403) (rX12_term (by omega) e_6402 ?_)
  show Rn d _ _ 58 [some (.ref q0), some (.int s0)] [] h_6405 Q
  refine Rn.n hT 3 (pc' := 61) (L' := [some (.ref q0), some (.int s0)]) (st' := [.int (0 : Int32), .int s0, .ref q0]) rfl ?_
  obtain ⟨_, e_6407, e⟩ := Option.bind_eq_some_iff.mp e
  obtain ⟨h_6409, e_6406, e⟩ := Option.bind_eq_some_iff.mp e
  refine Rn.call hT rfl rfl rfl (Nat.le_of_ble_eq_true rfl) (rcv_v gX12_entry (by omega) e_6407) (rX12_entry (by omega) e_6406 ?_)
  show Rn d _ _ 64 [some (.ref q0), some (.int s0)] [] h_6409 Q
  refine Rn.n hT 1 (pc' := 4) (L' := [some (.ref q0), some (.int s0)]) (st' := []) rfl ?_
  exact Rn.weak (ll_s (ll_n ll_e)) (hb h_6409 e)
def fX12_sum_b29 (N : Nat) (h : iv_H) (q0 : Nat)  (kb : iv_H → Option (iv_H)) (kx : iv_H → Option (iv_H)) : Option (iv_H) := ((cko h q0 12).bind fun _ => (fX12_sign N h q0).bind fun v_6396 => (if v_6396 = (43 : Int32) then (fX12_sum_b43 N h q0 (2 : Int32) kb kx) else (fX12_sum_b43 N h q0 (3 : Int32) kb kx)))
set_option maxRecDepth 10000 in
set_option maxHeartbeats 4000000 in
theorem rX12_sum_b29 {d N : Nat} (hd : 13 ≤ d) {h : iv_H} {q0 : Nat}  {kb : iv_H → Option (iv_H)} {kx : iv_H → Option (iv_H)} {r : iv_H} {Q : Option Value → iv_H → Prop} (hb : ∀ (h : iv_H), kb h = some r → Rn d 221 none 4 [some (.ref q0), none] [] h Q) (hk : ∀ (h : iv_H), kx h = some r → Rn d 221 none 67 [none, none] [] h Q) (hq : Q none r) (e : fX12_sum_b29 N h q0  kb kx = some r) : Rn d 221 none 29 [some (.ref q0), none] [] h Q := by
  have hT := hX12_sum
  unfold fX12_sum_b29 at e
  refine Rn.n hT 1 (pc' := 30) (L' := [some (.ref q0), none]) (st' := [.ref q0]) rfl ?_
  obtain ⟨_, e_6395, e⟩ := Option.bind_eq_some_iff.mp e
  obtain ⟨v_6396, e_6394, e⟩ := Option.bind_eq_some_iff.mp e
  refine Rn.call hT rfl rfl rfl (Nat.le_of_ble_eq_true rfl) (rcv_v gX12_sign (by omega) e_6395) (rX12_sign (by omega) e_6394 ?_)
  show Rn d _ _ 33 [some (.ref q0), none] [.int v_6396] h Q
  refine Rn.n hT 1 (pc' := 35) (L' := [some (.ref q0), none]) (st' := [.int (43 : Int32), .int v_6396]) rfl ?_
  by_cases c_6397 : v_6396 = (43 : Int32)
  · rw [if_pos c_6397] at e
    refine Rn.bf hT rfl rfl rfl (decide_eq_false (fun z => z c_6397)) ?_
    refine Rn.n hT 2 (pc' := 43) (L' := [some (.ref q0), none]) (st' := [.int (2 : Int32)]) rfl ?_
    exact Rn.weak (ll_s (ll_n ll_e)) (rX12_sum_b43 hd hb hk hq e)
  · rw [if_neg c_6397] at e
    refine Rn.bt hT rfl rfl rfl (decide_eq_true c_6397) ?_
    refine Rn.n hT 1 (pc' := 43) (L' := [some (.ref q0), none]) (st' := [.int (3 : Int32)]) rfl ?_
    exact Rn.weak (ll_s (ll_n ll_e)) (rX12_sum_b43 hd hb hk hq e)
def fX12_sum_l4 (N : Nat) (q0 : Nat) (kx : iv_H → Option (iv_H)) : Nat → iv_H → Option (iv_H)
  | 0, _ => none
  | n + 1, h => ((gI h 12 30 q0).bind fun v_6383 => (if v_6383 = 0 then ((cko h q0 12).bind fun _ => (fX12_sign N h q0).bind fun v_6388 => (if v_6388 = (43 : Int32) then (fX12_sum_b29 N h q0 (fX12_sum_l4 N q0 kx n) kx) else ((cko h q0 12).bind fun _ => (fX12_sign N h q0).bind fun v_6392 => (if v_6392 = (45 : Int32) then (fX12_sum_b29 N h q0 (fX12_sum_l4 N q0 kx n) kx) else (kx h))))) else (kx h)))
set_option maxRecDepth 10000 in
set_option maxHeartbeats 4000000 in
theorem rX12_sum_l4 {d N : Nat} (hd : 13 ≤ d) {q0 : Nat} {kx : iv_H → Option (iv_H)} {r : iv_H} {Q : Option Value → iv_H → Prop} (hk : ∀ (h : iv_H), kx h = some r → Rn d 221 none 67 [none, none] [] h Q) (hq : Q none r) : ∀ (n : Nat) (h : iv_H), fX12_sum_l4 N q0 kx n h = some r → Rn d 221 none 4 [some (.ref q0), none] [] h Q := by
  have hT := hX12_sum
  intro n
  induction n with
  | zero =>
    intro h e
    rw [fX12_sum_l4] at e
    cases e
  | succ n ih =>
    intro h e
    rw [fX12_sum_l4] at e
    refine Rn.n hT 1 (pc' := 5) (L' := [some (.ref q0), none]) (st' := [.ref q0]) rfl ?_
    obtain ⟨v_6383, e_6384, e⟩ := Option.bind_eq_some_iff.mp e
    refine Rn.hp hT rfl rfl (gI_hp e_6384) ?_
    by_cases c_6385 : v_6383 = 0
    · rw [if_pos c_6385] at e
      refine Rn.bf hT rfl rfl rfl (decide_eq_false (fun z => z c_6385)) ?_
      refine Rn.n hT 1 (pc' := 12) (L' := [some (.ref q0), none]) (st' := [.ref q0]) rfl ?_
      obtain ⟨_, e_6387, e⟩ := Option.bind_eq_some_iff.mp e
      obtain ⟨v_6388, e_6386, e⟩ := Option.bind_eq_some_iff.mp e
      refine Rn.call hT rfl rfl rfl (Nat.le_of_ble_eq_true rfl) (rcv_v gX12_sign (by omega) e_6387) (rX12_sign (by omega) e_6386 ?_)
      show Rn d _ _ 15 [some (.ref q0), none] [.int v_6388] h Q
      refine Rn.n hT 1 (pc' := 17) (L' := [some (.ref q0), none]) (st' := [.int (43 : Int32), .int v_6388]) rfl ?_
      by_cases c_6389 : v_6388 = (43 : Int32)
      · rw [if_pos c_6389] at e
        refine Rn.bt hT rfl rfl rfl (decide_eq_true c_6389) ?_
        exact Rn.weak (ll_s (ll_n ll_e)) (rX12_sum_b29 hd ih hk hq e)
      · rw [if_neg c_6389] at e
        refine Rn.bf hT rfl rfl rfl (decide_eq_false c_6389) ?_
        refine Rn.n hT 1 (pc' := 21) (L' := [some (.ref q0), none]) (st' := [.ref q0]) rfl ?_
        obtain ⟨_, e_6391, e⟩ := Option.bind_eq_some_iff.mp e
        obtain ⟨v_6392, e_6390, e⟩ := Option.bind_eq_some_iff.mp e
        refine Rn.call hT rfl rfl rfl (Nat.le_of_ble_eq_true rfl) (rcv_v gX12_sign (by omega) e_6391) (rX12_sign (by omega) e_6390 ?_)
        show Rn d _ _ 24 [some (.ref q0), none] [.int v_6392] h Q
        refine Rn.n hT 1 (pc' := 26) (L' := [some (.ref q0), none]) (st' := [.int (45 : Int32), .int v_6392]) rfl ?_
        by_cases c_6393 : v_6392 = (45 : Int32)
        · rw [if_pos c_6393] at e
          refine Rn.bf hT rfl rfl rfl (decide_eq_false (fun z => z c_6393)) ?_
          exact Rn.weak (ll_s (ll_n ll_e)) (rX12_sum_b29 hd ih hk hq e)
        · rw [if_neg c_6393] at e
          refine Rn.bt hT rfl rfl rfl (decide_eq_true c_6393) ?_
          exact Rn.weak (ll_n (ll_n ll_e)) (hk h e)
    · rw [if_neg c_6385] at e
      refine Rn.bt hT rfl rfl rfl (decide_eq_true c_6385) ?_
      exact Rn.weak (ll_n (ll_n ll_e)) (hk h e)
def fX12_sum_b67 (N : Nat) (h : iv_H)   : Option (iv_H) := some h
set_option maxRecDepth 10000 in
set_option maxHeartbeats 4000000 in
theorem rX12_sum_b67 {d N : Nat} (hd : 13 ≤ d) {h : iv_H}   {r : iv_H} {Q : Option Value → iv_H → Prop} (hq : Q none r) (e : fX12_sum_b67 N h   = some r) : Rn d 221 none 67 [none, none] [] h Q := by
  have hT := hX12_sum
  unfold fX12_sum_b67 at e
  obtain rfl := Option.some.inj e
  exact Rn.ret hT rfl rfl rfl hq
def fX12_sum (N : Nat) (h : iv_H) (q0 : Nat) : Option (iv_H) := ((cko h q0 12).bind fun _ => (fX12_term N h q0).bind fun h_6381 => (fX12_sum_l4 N q0 (fun (h_6382 : iv_H) => (fX12_sum_b67 N h_6382)) N h_6381))
set_option maxRecDepth 10000 in
set_option maxHeartbeats 4000000 in
theorem rX12_sum {d N : Nat} (hd : 14 ≤ d) {h : iv_H} {q0 : Nat} {r : iv_H} {Q : Option Value → iv_H → Prop} (e : fX12_sum N h q0 = some r) (hq : Q none r) : Cl d 221 [.ref q0] h Q := by
  obtain ⟨d, rfl⟩ : ∃ k, d = k + 1 := ⟨d - 1, by omega⟩
  have hd : 13 ≤ d := by omega
  have hT := hX12_sum
  unfold fX12_sum at e
  refine Cl.into (by decide) gX12_sum rfl ?_
  show Rn d 221 none 0 [some (.ref q0), none] [] h Q
  refine Rn.n hT 1 (pc' := 1) (L' := [some (.ref q0), none]) (st' := [.ref q0]) rfl ?_
  obtain ⟨_, e_6379, e⟩ := Option.bind_eq_some_iff.mp e
  obtain ⟨h_6381, e_6378, e⟩ := Option.bind_eq_some_iff.mp e
  refine Rn.call hT rfl rfl rfl (Nat.le_of_ble_eq_true rfl) (rcv_v gX12_term (by omega) e_6379) (rX12_term (by omega) e_6378 ?_)
  show Rn d _ _ 4 [some (.ref q0), none] [] h_6381 Q
  refine Rn.weak (ll_s (ll_n ll_e)) (rX12_sum_l4 hd (fun h_6382 e => ?_) hq N h_6381 e)
  try dsimp only at e
  exact Rn.weak (ll_n (ll_n ll_e)) (rX12_sum_b67 hd hq e)
set_option maxRecDepth 10000 in
theorem hX12_compared : iv_Tb 222 tX12_compared := iv_tb_of (m := mX12_compared) rfl
set_option maxRecDepth 10000 in
theorem gX12_compared : PG.2 222 = some mX12_compared := iv_pi_of (t := tX12_compared) rfl (by decide)
def fX12_compared_b139 (N : Nat) (h : iv_H)  (s0 : Int32) (sq1 : Nat) : Option (iv_H) := ((cko h sq1 12).bind fun _ => (fX12_entry N h sq1 s0 (0 : Int32)).bind fun h_6457 => some h_6457)
set_option maxRecDepth 10000 in
set_option maxHeartbeats 4000000 in
theorem rX12_compared_b139 {d N : Nat} (hd : 14 ≤ d) {h : iv_H}  {s0 : Int32} {sq1 : Nat} {r : iv_H} {Q : Option Value → iv_H → Prop} (hq : Q none r) (e : fX12_compared_b139 N h  s0 sq1 = some r) : Rn d 222 none 139 [none, none, none] [.int s0, .ref sq1] h Q := by
  have hT := hX12_compared
  unfold fX12_compared_b139 at e
  refine Rn.n hT 1 (pc' := 140) (L' := [none, none, none]) (st' := [.int (0 : Int32), .int s0, .ref sq1]) rfl ?_
  obtain ⟨_, e_6455, e⟩ := Option.bind_eq_some_iff.mp e
  obtain ⟨h_6457, e_6454, e⟩ := Option.bind_eq_some_iff.mp e
  refine Rn.call hT rfl rfl rfl (Nat.le_of_ble_eq_true rfl) (rcv_v gX12_entry (by omega) e_6455) (rX12_entry (by omega) e_6454 ?_)
  show Rn d _ _ 143 [none, none, none] [] h_6457 Q
  obtain rfl := Option.some.inj e
  exact Rn.ret hT rfl rfl rfl hq
def fX12_compared_b90 (N : Nat) (h : iv_H) (q0 : Nat) (x1 : Int32) (x2 : Int32) (s0 : Int32) (s1 : Int32) (sq2 : Nat) : Option (iv_H) := ((pV h 12 29 sq2 (.int (s1 + s0))).bind fun h_6444 => ((cko h_6444 q0 12).bind fun _ => (fX12_sum N h_6444 q0).bind fun h_6449 => (if x1 = (61 : Int32) then (fX12_compared_b139 N h_6449 (6 : Int32) q0) else (if x1 = (60 : Int32) then (if x2 = 0 then (fX12_compared_b139 N h_6449 (4 : Int32) q0) else (fX12_compared_b139 N h_6449 (5 : Int32) q0)) else (if x2 = 0 then (fX12_compared_b139 N h_6449 (8 : Int32) q0) else (fX12_compared_b139 N h_6449 (7 : Int32) q0))))))
set_option maxRecDepth 10000 in
set_option maxHeartbeats 4000000 in
theorem rX12_compared_b90 {d N : Nat} (hd : 14 ≤ d) {h : iv_H} {q0 : Nat} {x1 : Int32} {x2 : Int32} {s0 : Int32} {s1 : Int32} {sq2 : Nat} {r : iv_H} {Q : Option Value → iv_H → Prop} (hq : Q none r) (e : fX12_compared_b90 N h q0 x1 x2 s0 s1 sq2 = some r) : Rn d 222 none 90 [some (.ref q0), some (.int x1), some (.int x2)] [.int s0, .int s1, .ref sq2] h Q := by
  have hT := hX12_compared
  unfold fX12_compared_b90 at e
  refine Rn.n hT 1 (pc' := 91) (L' := [some (.ref q0), some (.int x1), some (.int x2)]) (st' := [.int (s1 + s0), .ref sq2]) rfl ?_
  obtain ⟨h_6444, e_6445, e⟩ := Option.bind_eq_some_iff.mp e
  refine Rn.hp hT rfl rfl (pV_hp rfl e_6445) ?_
  refine Rn.n hT 1 (pc' := 95) (L' := [some (.ref q0), some (.int x1), some (.int x2)]) (st' := [.ref q0]) rfl ?_
  obtain ⟨_, e_6447, e⟩ := Option.bind_eq_some_iff.mp e
  obtain ⟨h_6449, e_6446, e⟩ := Option.bind_eq_some_iff.mp e
  refine Rn.call hT rfl rfl rfl (Nat.le_of_ble_eq_true rfl) (rcv_v gX12_sum (by omega) e_6447) (rX12_sum (by omega) e_6446 ?_)
  show Rn d _ _ 98 [some (.ref q0), some (.int x1), some (.int x2)] [] h_6449 Q
  refine Rn.n hT 3 (pc' := 102) (L' := [some (.ref q0), some (.int x1), some (.int x2)]) (st' := [.int (61 : Int32), .int x1, .ref q0]) rfl ?_
  by_cases c_6450 : x1 = (61 : Int32)
  · rw [if_pos c_6450] at e
    refine Rn.bf hT rfl rfl rfl (decide_eq_false (fun z => z c_6450)) ?_
    refine Rn.n hT 2 (pc' := 139) (L' := [some (.ref q0), some (.int x1), some (.int x2)]) (st' := [.int (6 : Int32), .ref q0]) rfl ?_
    exact Rn.weak (ll_n (ll_n (ll_n ll_e))) (rX12_compared_b139 hd hq e)
  · rw [if_neg c_6450] at e
    refine Rn.bt hT rfl rfl rfl (decide_eq_true c_6450) ?_
    refine Rn.n hT 2 (pc' := 113) (L' := [some (.ref q0), some (.int x1), some (.int x2)]) (st' := [.int (60 : Int32), .int x1, .ref q0]) rfl ?_
    by_cases c_6451 : x1 = (60 : Int32)
    · rw [if_pos c_6451] at e
      refine Rn.bf hT rfl rfl rfl (decide_eq_false (fun z => z c_6451)) ?_
      refine Rn.n hT 1 (pc' := 117) (L' := [some (.ref q0), some (.int x1), some (.int x2)]) (st' := [.int x2, .ref q0]) rfl ?_
      by_cases c_6453 : x2 = 0
      · rw [if_pos c_6453] at e
        refine Rn.bt hT rfl rfl rfl (decide_eq_true c_6453) ?_
        refine Rn.n hT 2 (pc' := 139) (L' := [some (.ref q0), some (.int x1), some (.int x2)]) (st' := [.int (4 : Int32), .ref q0]) rfl ?_
        exact Rn.weak (ll_n (ll_n (ll_n ll_e))) (rX12_compared_b139 hd hq e)
      · rw [if_neg c_6453] at e
        refine Rn.bf hT rfl rfl rfl (decide_eq_false c_6453) ?_
        refine Rn.n hT 2 (pc' := 139) (L' := [some (.ref q0), some (.int x1), some (.int x2)]) (st' := [.int (5 : Int32), .ref q0]) rfl ?_
        exact Rn.weak (ll_n (ll_n (ll_n ll_e))) (rX12_compared_b139 hd hq e)
    · rw [if_neg c_6451] at e
      refine Rn.bt hT rfl rfl rfl (decide_eq_true c_6451) ?_
      refine Rn.n hT 1 (pc' := 129) (L' := [some (.ref q0), some (.int x1), some (.int x2)]) (st' := [.int x2, .ref q0]) rfl ?_
      by_cases c_6452 : x2 = 0
      · rw [if_pos c_6452] at e
        refine Rn.bt hT rfl rfl rfl (decide_eq_true c_6452) ?_
        refine Rn.n hT 1 (pc' := 139) (L' := [some (.ref q0), some (.int x1), some (.int x2)]) (st' := [.int (8 : Int32), .ref q0]) rfl ?_
        exact Rn.weak (ll_n (ll_n (ll_n ll_e))) (rX12_compared_b139 hd hq e)
      · rw [if_neg c_6452] at e
        refine Rn.bf hT rfl rfl rfl (decide_eq_false c_6452) ?_
        refine Rn.n hT 2 (pc' := 139) (L' := [some (.ref q0), some (.int x1), some (.int x2)]) (st' := [.int (7 : Int32), .ref q0]) rfl ?_
        exact Rn.weak (ll_n (ll_n (ll_n ll_e))) (rX12_compared_b139 hd hq e)
def fX12_compared_b75 (N : Nat) (h : iv_H) (q0 : Nat) (x1 : Int32) (s0 : Int32) : Option (iv_H) := ((gI h 12 29 q0).bind fun v_6441 => (if s0 = 0 then (fX12_compared_b90 N h q0 x1 s0 (0 : Int32) v_6441 q0) else (fX12_compared_b90 N h q0 x1 s0 (1 : Int32) v_6441 q0)))
set_option maxRecDepth 10000 in
set_option maxHeartbeats 4000000 in
theorem rX12_compared_b75 {d N : Nat} (hd : 14 ≤ d) {h : iv_H} {q0 : Nat} {x1 : Int32} {s0 : Int32} {r : iv_H} {Q : Option Value → iv_H → Prop} (hq : Q none r) (e : fX12_compared_b75 N h q0 x1 s0 = some r) : Rn d 222 none 75 [some (.ref q0), some (.int x1), none] [.int s0] h Q := by
  have hT := hX12_compared
  unfold fX12_compared_b75 at e
  refine Rn.n hT 3 (pc' := 78) (L' := [some (.ref q0), some (.int x1), some (.int s0)]) (st' := [.ref q0, .ref q0]) rfl ?_
  obtain ⟨v_6441, e_6442, e⟩ := Option.bind_eq_some_iff.mp e
  refine Rn.hp hT rfl rfl (gI_hp e_6442) ?_
  refine Rn.n hT 1 (pc' := 82) (L' := [some (.ref q0), some (.int x1), some (.int s0)]) (st' := [.int s0, .int v_6441, .ref q0]) rfl ?_
  by_cases c_6443 : s0 = 0
  · rw [if_pos c_6443] at e
    refine Rn.bt hT rfl rfl rfl (decide_eq_true c_6443) ?_
    refine Rn.n hT 1 (pc' := 90) (L' := [some (.ref q0), some (.int x1), some (.int s0)]) (st' := [.int (0 : Int32), .int v_6441, .ref q0]) rfl ?_
    exact Rn.weak (ll_s (ll_s (ll_s ll_e))) (rX12_compared_b90 hd hq e)
  · rw [if_neg c_6443] at e
    refine Rn.bf hT rfl rfl rfl (decide_eq_false c_6443) ?_
    refine Rn.n hT 2 (pc' := 90) (L' := [some (.ref q0), some (.int x1), some (.int s0)]) (st' := [.int (1 : Int32), .int v_6441, .ref q0]) rfl ?_
    exact Rn.weak (ll_s (ll_s (ll_s ll_e))) (rX12_compared_b90 hd hq e)
def fX12_compared_b74 (N : Nat) (h : iv_H) (q0 : Nat) (x1 : Int32)  : Option (iv_H) := (fX12_compared_b75 N h q0 x1 (0 : Int32))
set_option maxRecDepth 10000 in
set_option maxHeartbeats 4000000 in
theorem rX12_compared_b74 {d N : Nat} (hd : 14 ≤ d) {h : iv_H} {q0 : Nat} {x1 : Int32}  {r : iv_H} {Q : Option Value → iv_H → Prop} (hq : Q none r) (e : fX12_compared_b74 N h q0 x1  = some r) : Rn d 222 none 74 [some (.ref q0), some (.int x1), none] [] h Q := by
  have hT := hX12_compared
  unfold fX12_compared_b74 at e
  refine Rn.n hT 1 (pc' := 75) (L' := [some (.ref q0), some (.int x1), none]) (st' := [.int (0 : Int32)]) rfl ?_
  exact Rn.weak (ll_s (ll_s (ll_n ll_e))) (rX12_compared_b75 hd hq e)
def fX12_compared_b37 (N : Nat) (h : iv_H) (q0 : Nat) (x1 : Int32)  : Option (iv_H) := ((gI h 12 29 q0).bind fun v_6426 => ((cko h q0 12).bind fun _ => (fX12_isCounted N h q0 v_6426).bind fun h_6431 => ((gI h_6431 12 29 q0).bind fun v_6432 => ((pV h_6431 12 29 q0 (.int (v_6432 + (1 : Int32)))).bind fun h_6434 => (if x1 = (61 : Int32) then (fX12_compared_b74 N h_6434 q0 x1) else ((cko h_6434 q0 12).bind fun _ => (fX12_sign N h_6434 q0).bind fun v_6439 => (if v_6439 = (61 : Int32) then (fX12_compared_b75 N h_6434 q0 x1 (1 : Int32)) else (fX12_compared_b74 N h_6434 q0 x1))))))))
set_option maxRecDepth 10000 in
set_option maxHeartbeats 4000000 in
theorem rX12_compared_b37 {d N : Nat} (hd : 14 ≤ d) {h : iv_H} {q0 : Nat} {x1 : Int32}  {r : iv_H} {Q : Option Value → iv_H → Prop} (hq : Q none r) (e : fX12_compared_b37 N h q0 x1  = some r) : Rn d 222 none 37 [some (.ref q0), some (.int x1), none] [] h Q := by
  have hT := hX12_compared
  unfold fX12_compared_b37 at e
  refine Rn.n hT 2 (pc' := 39) (L' := [some (.ref q0), some (.int x1), none]) (st' := [.ref q0, .ref q0]) rfl ?_
  obtain ⟨v_6426, e_6427, e⟩ := Option.bind_eq_some_iff.mp e
  refine Rn.hp hT rfl rfl (gI_hp e_6427) ?_
  obtain ⟨_, e_6429, e⟩ := Option.bind_eq_some_iff.mp e
  obtain ⟨h_6431, e_6428, e⟩ := Option.bind_eq_some_iff.mp e
  refine Rn.call hT rfl rfl rfl (Nat.le_of_ble_eq_true rfl) (rcv_v gX12_isCounted (by omega) e_6429) (rX12_isCounted (by omega) e_6428 ?_)
  show Rn d _ _ 45 [some (.ref q0), some (.int x1), none] [] h_6431 Q
  refine Rn.n hT 2 (pc' := 47) (L' := [some (.ref q0), some (.int x1), none]) (st' := [.ref q0, .ref q0]) rfl ?_
  obtain ⟨v_6432, e_6433, e⟩ := Option.bind_eq_some_iff.mp e
  refine Rn.hp hT rfl rfl (gI_hp e_6433) ?_
  refine Rn.n hT 2 (pc' := 52) (L' := [some (.ref q0), some (.int x1), none]) (st' := [.int (v_6432 + (1 : Int32)), .ref q0]) rfl ?_
  obtain ⟨h_6434, e_6435, e⟩ := Option.bind_eq_some_iff.mp e
  refine Rn.hp hT rfl rfl (pV_hp rfl e_6435) ?_
  refine Rn.n hT 2 (pc' := 58) (L' := [some (.ref q0), some (.int x1), none]) (st' := [.int (61 : Int32), .int x1]) rfl ?_
  by_cases c_6436 : x1 = (61 : Int32)
  · rw [if_pos c_6436] at e
    refine Rn.bt hT rfl rfl rfl (decide_eq_true c_6436) ?_
    exact Rn.weak (ll_s (ll_s (ll_n ll_e))) (rX12_compared_b74 hd hq e)
  · rw [if_neg c_6436] at e
    refine Rn.bf hT rfl rfl rfl (decide_eq_false c_6436) ?_
    refine Rn.n hT 1 (pc' := 62) (L' := [some (.ref q0), some (.int x1), none]) (st' := [.ref q0]) rfl ?_
    obtain ⟨_, e_6438, e⟩ := Option.bind_eq_some_iff.mp e
    obtain ⟨v_6439, e_6437, e⟩ := Option.bind_eq_some_iff.mp e
    refine Rn.call hT rfl rfl rfl (Nat.le_of_ble_eq_true rfl) (rcv_v gX12_sign (by omega) e_6438) (rX12_sign (by omega) e_6437 ?_)
    show Rn d _ _ 65 [some (.ref q0), some (.int x1), none] [.int v_6439] h_6434 Q
    refine Rn.n hT 1 (pc' := 67) (L' := [some (.ref q0), some (.int x1), none]) (st' := [.int (61 : Int32), .int v_6439]) rfl ?_
    by_cases c_6440 : v_6439 = (61 : Int32)
    · rw [if_pos c_6440] at e
      refine Rn.bf hT rfl rfl rfl (decide_eq_false (fun z => z c_6440)) ?_
      refine Rn.n hT 2 (pc' := 75) (L' := [some (.ref q0), some (.int x1), none]) (st' := [.int (1 : Int32)]) rfl ?_
      exact Rn.weak (ll_s (ll_s (ll_n ll_e))) (rX12_compared_b75 hd hq e)
    · rw [if_neg c_6440] at e
      refine Rn.bt hT rfl rfl rfl (decide_eq_true c_6440) ?_
      exact Rn.weak (ll_s (ll_s (ll_n ll_e))) (rX12_compared_b74 hd hq e)
def fX12_compared (N : Nat) (h : iv_H) (q0 : Nat) : Option (iv_H) := ((cko h q0 12).bind fun _ => (fX12_sum N h q0).bind fun h_6413 => ((cko h_6413 q0 12).bind fun _ => (fX12_sign N h_6413 q0).bind fun v_6416 => (if v_6416 = (60 : Int32) then (fX12_compared_b37 N h_6413 q0 v_6416) else (if v_6416 = (61 : Int32) then (fX12_compared_b37 N h_6413 q0 v_6416) else (if v_6416 = (62 : Int32) then (fX12_compared_b37 N h_6413 q0 v_6416) else ((gI h_6413 12 29 q0).bind fun v_6420 => ((cko h_6413 q0 12).bind fun _ => (fX12_fails N h_6413 q0 (0 : Int32) v_6420).bind fun h_6425 => some h_6425)))))))
set_option maxRecDepth 10000 in
set_option maxHeartbeats 4000000 in
theorem rX12_compared {d N : Nat} (hd : 15 ≤ d) {h : iv_H} {q0 : Nat} {r : iv_H} {Q : Option Value → iv_H → Prop} (e : fX12_compared N h q0 = some r) (hq : Q none r) : Cl d 222 [.ref q0] h Q := by
  obtain ⟨d, rfl⟩ : ∃ k, d = k + 1 := ⟨d - 1, by omega⟩
  have hd : 14 ≤ d := by omega
  have hT := hX12_compared
  unfold fX12_compared at e
  refine Cl.into (by decide) gX12_compared rfl ?_
  show Rn d 222 none 0 [some (.ref q0), none, none] [] h Q
  refine Rn.n hT 1 (pc' := 1) (L' := [some (.ref q0), none, none]) (st' := [.ref q0]) rfl ?_
  obtain ⟨_, e_6411, e⟩ := Option.bind_eq_some_iff.mp e
  obtain ⟨h_6413, e_6410, e⟩ := Option.bind_eq_some_iff.mp e
  refine Rn.call hT rfl rfl rfl (Nat.le_of_ble_eq_true rfl) (rcv_v gX12_sum (by omega) e_6411) (rX12_sum (by omega) e_6410 ?_)
  show Rn d _ _ 4 [some (.ref q0), none, none] [] h_6413 Q
  refine Rn.n hT 1 (pc' := 5) (L' := [some (.ref q0), none, none]) (st' := [.ref q0]) rfl ?_
  obtain ⟨_, e_6415, e⟩ := Option.bind_eq_some_iff.mp e
  obtain ⟨v_6416, e_6414, e⟩ := Option.bind_eq_some_iff.mp e
  refine Rn.call hT rfl rfl rfl (Nat.le_of_ble_eq_true rfl) (rcv_v gX12_sign (by omega) e_6415) (rX12_sign (by omega) e_6414 ?_)
  show Rn d _ _ 8 [some (.ref q0), none, none] [.int v_6416] h_6413 Q
  refine Rn.n hT 3 (pc' := 12) (L' := [some (.ref q0), some (.int v_6416), none]) (st' := [.int (60 : Int32), .int v_6416]) rfl ?_
  by_cases c_6417 : v_6416 = (60 : Int32)
  · rw [if_pos c_6417] at e
    refine Rn.bt hT rfl rfl rfl (decide_eq_true c_6417) ?_
    exact Rn.weak (ll_s (ll_s (ll_n ll_e))) (rX12_compared_b37 hd hq e)
  · rw [if_neg c_6417] at e
    refine Rn.bf hT rfl rfl rfl (decide_eq_false c_6417) ?_
    refine Rn.n hT 2 (pc' := 18) (L' := [some (.ref q0), some (.int v_6416), none]) (st' := [.int (61 : Int32), .int v_6416]) rfl ?_
    by_cases c_6418 : v_6416 = (61 : Int32)
    · rw [if_pos c_6418] at e
      refine Rn.bt hT rfl rfl rfl (decide_eq_true c_6418) ?_
      exact Rn.weak (ll_s (ll_s (ll_n ll_e))) (rX12_compared_b37 hd hq e)
    · rw [if_neg c_6418] at e
      refine Rn.bf hT rfl rfl rfl (decide_eq_false c_6418) ?_
      refine Rn.n hT 2 (pc' := 24) (L' := [some (.ref q0), some (.int v_6416), none]) (st' := [.int (62 : Int32), .int v_6416]) rfl ?_
      by_cases c_6419 : v_6416 = (62 : Int32)
      · rw [if_pos c_6419] at e
        refine Rn.bt hT rfl rfl rfl (decide_eq_true c_6419) ?_
        exact Rn.weak (ll_s (ll_s (ll_n ll_e))) (rX12_compared_b37 hd hq e)
      · rw [if_neg c_6419] at e
        refine Rn.bf hT rfl rfl rfl (decide_eq_false c_6419) ?_
        refine Rn.n hT 3 (pc' := 30) (L' := [some (.ref q0), some (.int v_6416), none]) (st' := [.ref q0, .int (0 : Int32), .ref q0]) rfl ?_
        obtain ⟨v_6420, e_6421, e⟩ := Option.bind_eq_some_iff.mp e
        refine Rn.hp hT rfl rfl (gI_hp e_6421) ?_
        obtain ⟨_, e_6423, e⟩ := Option.bind_eq_some_iff.mp e
        obtain ⟨h_6425, e_6422, e⟩ := Option.bind_eq_some_iff.mp e
        refine Rn.call hT rfl rfl rfl (Nat.le_of_ble_eq_true rfl) (rcv_v gX12_fails (by omega) e_6423) (rX12_fails (by omega) e_6422 ?_)
        show Rn d _ _ 36 [some (.ref q0), some (.int v_6416), none] [] h_6425 Q
        obtain rfl := Option.some.inj e
        exact Rn.ret hT rfl rfl rfl hq
set_option maxRecDepth 10000 in
theorem hX12_top : iv_Tb 223 tX12_top := iv_tb_of (m := mX12_top) rfl
set_option maxRecDepth 10000 in
theorem gX12_top : PG.2 223 = some mX12_top := iv_pi_of (t := tX12_top) rfl (by decide)
def fX12_top_b22 (N : Nat) (h : iv_H)  (s0 : Int32) : Option (Int32) := (some s0)
set_option maxRecDepth 10000 in
set_option maxHeartbeats 4000000 in
theorem rX12_top_b22 {d N : Nat} (hd : 0 ≤ d) {h : iv_H}  {s0 : Int32} {r : Int32} {Q : Option Value → iv_H → Prop} (hq : Q (some (.int r)) h) (e : fX12_top_b22 N h  s0 = some r) : Rn d 223 (some .int) 22 [none] [.int s0] h Q := by
  have hT := hX12_top
  unfold fX12_top_b22 at e
  obtain rfl := Option.some.inj e
  exact Rn.ret hT rfl rfl rfl hq
def fX12_top (N : Nat) (h : iv_H) (q0 : Nat) : Option (Int32) := ((gI h 12 36 q0).bind fun v_6458 => (if v_6458 = 0 then (fX12_top_b22 N h (-1 : Int32)) else ((gR h 12 45 q0).bind fun v_6461 => ((gI h 12 36 q0).bind fun v_6463 => ((aI h v_6461 (v_6463 - (1 : Int32))).bind fun v_6465 => (fX12_top_b22 N h v_6465))))))
set_option maxRecDepth 10000 in
set_option maxHeartbeats 4000000 in
theorem rX12_top {d N : Nat} (hd : 1 ≤ d) {h : iv_H} {q0 : Nat} {r : Int32} {Q : Option Value → iv_H → Prop} (e : fX12_top N h q0 = some r) (hq : Q (some (.int r)) h) : Cl d 223 [.ref q0] h Q := by
  obtain ⟨d, rfl⟩ : ∃ k, d = k + 1 := ⟨d - 1, by omega⟩
  have hd : 0 ≤ d := by omega
  have hT := hX12_top
  unfold fX12_top at e
  refine Cl.into (by decide) gX12_top rfl ?_
  show Rn d 223 (some .int) 0 [some (.ref q0)] [] h Q
  refine Rn.n hT 1 (pc' := 1) (L' := [some (.ref q0)]) (st' := [.ref q0]) rfl ?_
  obtain ⟨v_6458, e_6459, e⟩ := Option.bind_eq_some_iff.mp e
  refine Rn.hp hT rfl rfl (gI_hp e_6459) ?_
  by_cases c_6460 : v_6458 = 0
  · rw [if_pos c_6460] at e
    refine Rn.bf hT rfl rfl rfl (decide_eq_false (fun z => z c_6460)) ?_
    refine Rn.n hT 2 (pc' := 22) (L' := [some (.ref q0)]) (st' := [.int (-1 : Int32)]) rfl ?_
    exact Rn.weak (ll_n ll_e) (rX12_top_b22 hd hq e)
  · rw [if_neg c_6460] at e
    refine Rn.bt hT rfl rfl rfl (decide_eq_true c_6460) ?_
    refine Rn.n hT 1 (pc' := 12) (L' := [some (.ref q0)]) (st' := [.ref q0]) rfl ?_
    obtain ⟨v_6461, e_6462, e⟩ := Option.bind_eq_some_iff.mp e
    refine Rn.hp hT rfl rfl (gR_hp e_6462) ?_
    refine Rn.n hT 1 (pc' := 16) (L' := [some (.ref q0)]) (st' := [.ref q0, .ref v_6461]) rfl ?_
    obtain ⟨v_6463, e_6464, e⟩ := Option.bind_eq_some_iff.mp e
    refine Rn.hp hT rfl rfl (gI_hp e_6464) ?_
    refine Rn.n hT 2 (pc' := 21) (L' := [some (.ref q0)]) (st' := [.int (v_6463 - (1 : Int32)), .ref v_6461]) rfl ?_
    obtain ⟨v_6465, e_6466, e⟩ := Option.bind_eq_some_iff.mp e
    refine Rn.hp hT rfl rfl (aI_hp e_6466) ?_
    exact Rn.weak (ll_n ll_e) (rX12_top_b22 hd hq e)
set_option maxRecDepth 10000 in
theorem hX12_opens : iv_Tb 224 tX12_opens := iv_tb_of (m := mX12_opens) rfl
set_option maxRecDepth 10000 in
theorem gX12_opens : PG.2 224 = some mX12_opens := iv_pi_of (t := tX12_opens) rfl (by decide)
def fX12_opens_b40 (N : Nat) (h : iv_H) (q0 : Nat) (x1 : Int32)  : Option (iv_H) := ((gR h 12 45 q0).bind fun v_6482 => ((gI h 12 36 q0).bind fun v_6484 => ((wI h v_6482 v_6484 x1).bind fun h_6486 => ((gI h_6486 12 36 q0).bind fun v_6488 => ((pV h_6486 12 36 q0 (.int (v_6488 + (1 : Int32)))).bind fun h_6490 => some h_6490)))))
set_option maxRecDepth 10000 in
set_option maxHeartbeats 4000000 in
theorem rX12_opens_b40 {d N : Nat} (hd : 1 ≤ d) {h : iv_H} {q0 : Nat} {x1 : Int32}  {r : iv_H} {Q : Option Value → iv_H → Prop} (hq : Q none r) (e : fX12_opens_b40 N h q0 x1  = some r) : Rn d 224 none 40 [some (.ref q0), some (.int x1)] [] h Q := by
  have hT := hX12_opens
  unfold fX12_opens_b40 at e
  refine Rn.n hT 1 (pc' := 41) (L' := [some (.ref q0), some (.int x1)]) (st' := [.ref q0]) rfl ?_
  obtain ⟨v_6482, e_6483, e⟩ := Option.bind_eq_some_iff.mp e
  refine Rn.hp hT rfl rfl (gR_hp e_6483) ?_
  refine Rn.n hT 1 (pc' := 45) (L' := [some (.ref q0), some (.int x1)]) (st' := [.ref q0, .ref v_6482]) rfl ?_
  obtain ⟨v_6484, e_6485, e⟩ := Option.bind_eq_some_iff.mp e
  refine Rn.hp hT rfl rfl (gI_hp e_6485) ?_
  refine Rn.n hT 1 (pc' := 49) (L' := [some (.ref q0), some (.int x1)]) (st' := [.int x1, .int v_6484, .ref v_6482]) rfl ?_
  obtain ⟨h_6486, e_6487, e⟩ := Option.bind_eq_some_iff.mp e
  refine Rn.hp hT rfl rfl (wI_hp e_6487) ?_
  refine Rn.n hT 2 (pc' := 52) (L' := [some (.ref q0), some (.int x1)]) (st' := [.ref q0, .ref q0]) rfl ?_
  obtain ⟨v_6488, e_6489, e⟩ := Option.bind_eq_some_iff.mp e
  refine Rn.hp hT rfl rfl (gI_hp e_6489) ?_
  refine Rn.n hT 2 (pc' := 57) (L' := [some (.ref q0), some (.int x1)]) (st' := [.int (v_6488 + (1 : Int32)), .ref q0]) rfl ?_
  obtain ⟨h_6490, e_6491, e⟩ := Option.bind_eq_some_iff.mp e
  refine Rn.hp hT rfl rfl (pV_hp rfl e_6491) ?_
  obtain rfl := Option.some.inj e
  exact Rn.ret hT rfl rfl rfl hq
def fX12_opens_b30 (N : Nat) (h : iv_H) (q0 : Nat) (x1 : Int32)  : Option (iv_H) := ((gI h 12 34 q0).bind fun v_6478 => ((pV h 12 34 q0 (.int (v_6478 + (1 : Int32)))).bind fun h_6480 => (fX12_opens_b40 N h_6480 q0 x1)))
set_option maxRecDepth 10000 in
set_option maxHeartbeats 4000000 in
theorem rX12_opens_b30 {d N : Nat} (hd : 1 ≤ d) {h : iv_H} {q0 : Nat} {x1 : Int32}  {r : iv_H} {Q : Option Value → iv_H → Prop} (hq : Q none r) (e : fX12_opens_b30 N h q0 x1  = some r) : Rn d 224 none 30 [some (.ref q0), some (.int x1)] [] h Q := by
  have hT := hX12_opens
  unfold fX12_opens_b30 at e
  refine Rn.n hT 2 (pc' := 32) (L' := [some (.ref q0), some (.int x1)]) (st' := [.ref q0, .ref q0]) rfl ?_
  obtain ⟨v_6478, e_6479, e⟩ := Option.bind_eq_some_iff.mp e
  refine Rn.hp hT rfl rfl (gI_hp e_6479) ?_
  refine Rn.n hT 2 (pc' := 37) (L' := [some (.ref q0), some (.int x1)]) (st' := [.int (v_6478 + (1 : Int32)), .ref q0]) rfl ?_
  obtain ⟨h_6480, e_6481, e⟩ := Option.bind_eq_some_iff.mp e
  refine Rn.hp hT rfl rfl (pV_hp rfl e_6481) ?_
  exact Rn.weak (ll_s (ll_s ll_e)) (rX12_opens_b40 hd hq e)
def fX12_opens_b12 (N : Nat) (h : iv_H) (q0 : Nat) (x1 : Int32)  : Option (iv_H) := ((gI h 12 34 q0).bind fun v_6469 => (if v_6469 = (10 : Int32) then ((gI h 12 29 q0).bind fun v_6472 => ((cko h q0 12).bind fun _ => (fX12_fails N h q0 (2 : Int32) v_6472).bind fun h_6477 => (fX12_opens_b30 N h_6477 q0 x1))) else (fX12_opens_b30 N h q0 x1)))
set_option maxRecDepth 10000 in
set_option maxHeartbeats 4000000 in
theorem rX12_opens_b12 {d N : Nat} (hd : 1 ≤ d) {h : iv_H} {q0 : Nat} {x1 : Int32}  {r : iv_H} {Q : Option Value → iv_H → Prop} (hq : Q none r) (e : fX12_opens_b12 N h q0 x1  = some r) : Rn d 224 none 12 [some (.ref q0), some (.int x1)] [] h Q := by
  have hT := hX12_opens
  unfold fX12_opens_b12 at e
  refine Rn.n hT 1 (pc' := 13) (L' := [some (.ref q0), some (.int x1)]) (st' := [.ref q0]) rfl ?_
  obtain ⟨v_6469, e_6470, e⟩ := Option.bind_eq_some_iff.mp e
  refine Rn.hp hT rfl rfl (gI_hp e_6470) ?_
  refine Rn.n hT 1 (pc' := 18) (L' := [some (.ref q0), some (.int x1)]) (st' := [.int (10 : Int32), .int v_6469]) rfl ?_
  by_cases c_6471 : v_6469 = (10 : Int32)
  · rw [if_pos c_6471] at e
    refine Rn.bf hT rfl rfl rfl (decide_eq_false (fun z => z c_6471)) ?_
    refine Rn.n hT 3 (pc' := 24) (L' := [some (.ref q0), some (.int x1)]) (st' := [.ref q0, .int (2 : Int32), .ref q0]) rfl ?_
    obtain ⟨v_6472, e_6473, e⟩ := Option.bind_eq_some_iff.mp e
    refine Rn.hp hT rfl rfl (gI_hp e_6473) ?_
    obtain ⟨_, e_6475, e⟩ := Option.bind_eq_some_iff.mp e
    obtain ⟨h_6477, e_6474, e⟩ := Option.bind_eq_some_iff.mp e
    refine Rn.call hT rfl rfl rfl (Nat.le_of_ble_eq_true rfl) (rcv_v gX12_fails (by omega) e_6475) (rX12_fails (by omega) e_6474 ?_)
    show Rn d _ _ 30 [some (.ref q0), some (.int x1)] [] h_6477 Q
    exact Rn.weak (ll_s (ll_s ll_e)) (rX12_opens_b30 hd hq e)
  · rw [if_neg c_6471] at e
    refine Rn.bt hT rfl rfl rfl (decide_eq_true c_6471) ?_
    exact Rn.weak (ll_s (ll_s ll_e)) (rX12_opens_b30 hd hq e)
def fX12_opens (N : Nat) (h : iv_H) (q0 : Nat) (x1 : Int32) : Option (iv_H) := (if x1 = (9 : Int32) then (fX12_opens_b12 N h q0 x1) else (if x1 = (12 : Int32) then (fX12_opens_b12 N h q0 x1) else (fX12_opens_b40 N h q0 x1)))
set_option maxRecDepth 10000 in
set_option maxHeartbeats 4000000 in
theorem rX12_opens {d N : Nat} (hd : 2 ≤ d) {h : iv_H} {q0 : Nat} {x1 : Int32} {r : iv_H} {Q : Option Value → iv_H → Prop} (e : fX12_opens N h q0 x1 = some r) (hq : Q none r) : Cl d 224 [.ref q0, .int x1] h Q := by
  obtain ⟨d, rfl⟩ : ∃ k, d = k + 1 := ⟨d - 1, by omega⟩
  have hd : 1 ≤ d := by omega
  have hT := hX12_opens
  unfold fX12_opens at e
  refine Cl.into (by decide) gX12_opens rfl ?_
  show Rn d 224 none 0 [some (.ref q0), some (.int x1)] [] h Q
  refine Rn.n hT 2 (pc' := 3) (L' := [some (.ref q0), some (.int x1)]) (st' := [.int (9 : Int32), .int x1]) rfl ?_
  by_cases c_6467 : x1 = (9 : Int32)
  · rw [if_pos c_6467] at e
    refine Rn.bt hT rfl rfl rfl (decide_eq_true c_6467) ?_
    exact Rn.weak (ll_s (ll_s ll_e)) (rX12_opens_b12 hd hq e)
  · rw [if_neg c_6467] at e
    refine Rn.bf hT rfl rfl rfl (decide_eq_false c_6467) ?_
    refine Rn.n hT 2 (pc' := 9) (L' := [some (.ref q0), some (.int x1)]) (st' := [.int (12 : Int32), .int x1]) rfl ?_
    by_cases c_6468 : x1 = (12 : Int32)
    · rw [if_pos c_6468] at e
      refine Rn.bf hT rfl rfl rfl (decide_eq_false (fun z => z c_6468)) ?_
      exact Rn.weak (ll_s (ll_s ll_e)) (rX12_opens_b12 hd hq e)
    · rw [if_neg c_6468] at e
      refine Rn.bt hT rfl rfl rfl (decide_eq_true c_6468) ?_
      exact Rn.weak (ll_s (ll_s ll_e)) (rX12_opens_b40 hd hq e)
set_option maxRecDepth 10000 in
theorem hX12_answers : iv_Tb 225 tX12_answers := iv_tb_of (m := mX12_answers) rfl
set_option maxRecDepth 10000 in
theorem gX12_answers : PG.2 225 = some mX12_answers := iv_pi_of (t := tX12_answers) rfl (by decide)
def fX12_answers_b47 (N : Nat) (h : iv_H) (q0 : Nat) (x1 : Int32) (s0 : Int32) (s1 : Int32) (sq2 : Nat) (kb : iv_H → Option (iv_H)) (kx : iv_H → Option (iv_H)) : Option (iv_H) := ((pV h 12 34 sq2 (.int (s1 - s0))).bind fun h_6511 => (kb h_6511))
set_option maxRecDepth 10000 in
set_option maxHeartbeats 4000000 in
theorem rX12_answers_b47 {d N : Nat} (hd : 1 ≤ d) {h : iv_H} {q0 : Nat} {x1 : Int32} {s0 : Int32} {s1 : Int32} {sq2 : Nat} {kb : iv_H → Option (iv_H)} {kx : iv_H → Option (iv_H)} {r : iv_H} {Q : Option Value → iv_H → Prop} (hb : ∀ (h : iv_H), kb h = some r → Rn d 225 none 0 [some (.ref q0), some (.int x1)] [] h Q) (hk : ∀ (h : iv_H), kx h = some r → Rn d 225 none 54 [none, none] [] h Q) (hq : Q none r) (e : fX12_answers_b47 N h q0 x1 s0 s1 sq2 kb kx = some r) : Rn d 225 none 47 [some (.ref q0), some (.int x1)] [.int s0, .int s1, .ref sq2] h Q := by
  have hT := hX12_answers
  unfold fX12_answers_b47 at e
  refine Rn.n hT 1 (pc' := 48) (L' := [some (.ref q0), some (.int x1)]) (st' := [.int (s1 - s0), .ref sq2]) rfl ?_
  obtain ⟨h_6511, e_6512, e⟩ := Option.bind_eq_some_iff.mp e
  refine Rn.hp hT rfl rfl (pV_hp rfl e_6512) ?_
  refine Rn.n hT 1 (pc' := 0) (L' := [some (.ref q0), some (.int x1)]) (st' := []) rfl ?_
  exact Rn.weak (ll_s (ll_s ll_e)) (hb h_6511 e)
def fX12_answers_l0 (N : Nat) (q0 : Nat) (x1 : Int32) (kx : iv_H → Option (iv_H)) : Nat → iv_H → Option (iv_H)
  | 0, _ => none
  | n + 1, h => ((cko h q0 12).bind fun _ => (fX12_top N h q0).bind fun v_6495 => (if v_6495 = x1 then ((gI h 12 30 q0).bind fun v_6497 => (if v_6497 = 0 then ((cko h q0 12).bind fun _ => (fX12_entry N h q0 x1 (0 : Int32)).bind fun h_6503 => ((gI h_6503 12 36 q0).bind fun v_6504 => ((pV h_6503 12 36 q0 (.int (v_6504 - (1 : Int32)))).bind fun h_6506 => ((gI h_6506 12 34 q0).bind fun v_6508 => (if x1 = (9 : Int32) then (fX12_answers_b47 N h_6506 q0 x1 (1 : Int32) v_6508 q0 (fX12_answers_l0 N q0 x1 kx n) kx) else (fX12_answers_b47 N h_6506 q0 x1 (0 : Int32) v_6508 q0 (fX12_answers_l0 N q0 x1 kx n) kx)))))) else (kx h))) else (kx h)))
set_option maxRecDepth 10000 in
set_option maxHeartbeats 4000000 in
theorem rX12_answers_l0 {d N : Nat} (hd : 1 ≤ d) {q0 : Nat} {x1 : Int32} {kx : iv_H → Option (iv_H)} {r : iv_H} {Q : Option Value → iv_H → Prop} (hk : ∀ (h : iv_H), kx h = some r → Rn d 225 none 54 [none, none] [] h Q) (hq : Q none r) : ∀ (n : Nat) (h : iv_H), fX12_answers_l0 N q0 x1 kx n h = some r → Rn d 225 none 0 [some (.ref q0), some (.int x1)] [] h Q := by
  have hT := hX12_answers
  intro n
  induction n with
  | zero =>
    intro h e
    rw [fX12_answers_l0] at e
    cases e
  | succ n ih =>
    intro h e
    rw [fX12_answers_l0] at e
    refine Rn.n hT 1 (pc' := 1) (L' := [some (.ref q0), some (.int x1)]) (st' := [.ref q0]) rfl ?_
    obtain ⟨_, e_6494, e⟩ := Option.bind_eq_some_iff.mp e
    obtain ⟨v_6495, e_6493, e⟩ := Option.bind_eq_some_iff.mp e
    refine Rn.call hT rfl rfl rfl (Nat.le_of_ble_eq_true rfl) (rcv_v gX12_top (by omega) e_6494) (rX12_top (by omega) e_6493 ?_)
    show Rn d _ _ 4 [some (.ref q0), some (.int x1)] [.int v_6495] h Q
    refine Rn.n hT 1 (pc' := 5) (L' := [some (.ref q0), some (.int x1)]) (st' := [.int x1, .int v_6495]) rfl ?_
    by_cases c_6496 : v_6495 = x1
    · rw [if_pos c_6496] at e
      refine Rn.bf hT rfl rfl rfl (decide_eq_false (fun z => z c_6496)) ?_
      refine Rn.n hT 1 (pc' := 9) (L' := [some (.ref q0), some (.int x1)]) (st' := [.ref q0]) rfl ?_
      obtain ⟨v_6497, e_6498, e⟩ := Option.bind_eq_some_iff.mp e
      refine Rn.hp hT rfl rfl (gI_hp e_6498) ?_
      by_cases c_6499 : v_6497 = 0
      · rw [if_pos c_6499] at e
        refine Rn.bf hT rfl rfl rfl (decide_eq_false (fun z => z c_6499)) ?_
        refine Rn.n hT 3 (pc' := 18) (L' := [some (.ref q0), some (.int x1)]) (st' := [.int (0 : Int32), .int x1, .ref q0]) rfl ?_
        obtain ⟨_, e_6501, e⟩ := Option.bind_eq_some_iff.mp e
        obtain ⟨h_6503, e_6500, e⟩ := Option.bind_eq_some_iff.mp e
        refine Rn.call hT rfl rfl rfl (Nat.le_of_ble_eq_true rfl) (rcv_v gX12_entry (by omega) e_6501) (rX12_entry (by omega) e_6500 ?_)
        show Rn d _ _ 21 [some (.ref q0), some (.int x1)] [] h_6503 Q
        refine Rn.n hT 2 (pc' := 23) (L' := [some (.ref q0), some (.int x1)]) (st' := [.ref q0, .ref q0]) rfl ?_
        obtain ⟨v_6504, e_6505, e⟩ := Option.bind_eq_some_iff.mp e
        refine Rn.hp hT rfl rfl (gI_hp e_6505) ?_
        refine Rn.n hT 2 (pc' := 28) (L' := [some (.ref q0), some (.int x1)]) (st' := [.int (v_6504 - (1 : Int32)), .ref q0]) rfl ?_
        obtain ⟨h_6506, e_6507, e⟩ := Option.bind_eq_some_iff.mp e
        refine Rn.hp hT rfl rfl (pV_hp rfl e_6507) ?_
        refine Rn.n hT 2 (pc' := 33) (L' := [some (.ref q0), some (.int x1)]) (st' := [.ref q0, .ref q0]) rfl ?_
        obtain ⟨v_6508, e_6509, e⟩ := Option.bind_eq_some_iff.mp e
        refine Rn.hp hT rfl rfl (gI_hp e_6509) ?_
        refine Rn.n hT 2 (pc' := 39) (L' := [some (.ref q0), some (.int x1)]) (st' := [.int (9 : Int32), .int x1, .int v_6508, .ref q0]) rfl ?_
        by_cases c_6510 : x1 = (9 : Int32)
        · rw [if_pos c_6510] at e
          refine Rn.bf hT rfl rfl rfl (decide_eq_false (fun z => z c_6510)) ?_
          refine Rn.n hT 2 (pc' := 47) (L' := [some (.ref q0), some (.int x1)]) (st' := [.int (1 : Int32), .int v_6508, .ref q0]) rfl ?_
          exact Rn.weak (ll_s (ll_s ll_e)) (rX12_answers_b47 hd ih hk hq e)
        · rw [if_neg c_6510] at e
          refine Rn.bt hT rfl rfl rfl (decide_eq_true c_6510) ?_
          refine Rn.n hT 1 (pc' := 47) (L' := [some (.ref q0), some (.int x1)]) (st' := [.int (0 : Int32), .int v_6508, .ref q0]) rfl ?_
          exact Rn.weak (ll_s (ll_s ll_e)) (rX12_answers_b47 hd ih hk hq e)
      · rw [if_neg c_6499] at e
        refine Rn.bt hT rfl rfl rfl (decide_eq_true c_6499) ?_
        exact Rn.weak (ll_n (ll_n ll_e)) (hk h e)
    · rw [if_neg c_6496] at e
      refine Rn.bt hT rfl rfl rfl (decide_eq_true c_6496) ?_
      exact Rn.weak (ll_n (ll_n ll_e)) (hk h e)
def fX12_answers_b54 (N : Nat) (h : iv_H)   : Option (iv_H) := some h
set_option maxRecDepth 10000 in
set_option maxHeartbeats 4000000 in
theorem rX12_answers_b54 {d N : Nat} (hd : 1 ≤ d) {h : iv_H}   {r : iv_H} {Q : Option Value → iv_H → Prop} (hq : Q none r) (e : fX12_answers_b54 N h   = some r) : Rn d 225 none 54 [none, none] [] h Q := by
  have hT := hX12_answers
  unfold fX12_answers_b54 at e
  obtain rfl := Option.some.inj e
  exact Rn.ret hT rfl rfl rfl hq
def fX12_answers (N : Nat) (h : iv_H) (q0 : Nat) (x1 : Int32) : Option (iv_H) := (fX12_answers_l0 N q0 x1 (fun (h_6492 : iv_H) => (fX12_answers_b54 N h_6492)) N h)
set_option maxRecDepth 10000 in
set_option maxHeartbeats 4000000 in
theorem rX12_answers {d N : Nat} (hd : 2 ≤ d) {h : iv_H} {q0 : Nat} {x1 : Int32} {r : iv_H} {Q : Option Value → iv_H → Prop} (e : fX12_answers N h q0 x1 = some r) (hq : Q none r) : Cl d 225 [.ref q0, .int x1] h Q := by
  obtain ⟨d, rfl⟩ : ∃ k, d = k + 1 := ⟨d - 1, by omega⟩
  have hd : 1 ≤ d := by omega
  have hT := hX12_answers
  unfold fX12_answers at e
  refine Cl.into (by decide) gX12_answers rfl ?_
  show Rn d 225 none 0 [some (.ref q0), some (.int x1)] [] h Q
  refine Rn.weak (ll_s (ll_s ll_e)) (rX12_answers_l0 hd (fun h_6492 e => ?_) hq N h e)
  try dsimp only at e
  exact Rn.weak (ll_n (ll_n ll_e)) (rX12_answers_b54 hd hq e)
set_option maxRecDepth 10000 in
theorem hX12_fact : iv_Tb 226 tX12_fact := iv_tb_of (m := mX12_fact) rfl
set_option maxRecDepth 10000 in
theorem gX12_fact : PG.2 226 = some mX12_fact := iv_pi_of (t := tX12_fact) rfl (by decide)
def fX12_fact (N : Nat) (h : iv_H) (q0 : Nat) : Option (Int32 × iv_H) := ((cko h q0 12).bind fun _ => (fX12_blanks N h q0).bind fun h_6516 => ((cko h_6516 q0 12).bind fun _ => (fX12_stood N h_6516 q0 1000028).bind fun v_6519 => (if v_6519 = 0 then ((cko h_6516 q0 12).bind fun _ => (fX12_sign N h_6516 q0).bind fun v_6523 => (if v_6523 = (91 : Int32) then ((cko h_6516 q0 12).bind fun _ => (fX12_opens N h_6516 q0 (12 : Int32)).bind fun h_6532 => ((gI h_6532 12 29 q0).bind fun v_6533 => ((pV h_6532 12 29 q0 (.int (v_6533 + (1 : Int32)))).bind fun h_6535 => (some ((0 : Int32), h_6535))))) else ((cko h_6516 q0 12).bind fun _ => (fX12_compared N h_6516 q0).bind fun h_6528 => (some ((1 : Int32), h_6528))))) else ((cko h_6516 q0 12).bind fun _ => (fX12_opens N h_6516 q0 (9 : Int32)).bind fun h_6540 => ((gI h_6540 12 29 q0).bind fun v_6541 => ((pV h_6540 12 29 q0 (.int (v_6541 + (3 : Int32)))).bind fun h_6543 => (some ((0 : Int32), h_6543))))))))
set_option maxRecDepth 10000 in
set_option maxHeartbeats 4000000 in
theorem rX12_fact {d N : Nat} (hd : 16 ≤ d) {h : iv_H} {q0 : Nat} {r : Int32 × iv_H} {Q : Option Value → iv_H → Prop} (e : fX12_fact N h q0 = some r) (hq : Q (some (.int r.1)) r.2) : Cl d 226 [.ref q0] h Q := by
  obtain ⟨d, rfl⟩ : ∃ k, d = k + 1 := ⟨d - 1, by omega⟩
  have hd : 15 ≤ d := by omega
  have hT := hX12_fact
  unfold fX12_fact at e
  refine Cl.into (by decide) gX12_fact rfl ?_
  show Rn d 226 (some .boolean) 0 [some (.ref q0)] [] h Q
  refine Rn.n hT 1 (pc' := 1) (L' := [some (.ref q0)]) (st' := [.ref q0]) rfl ?_
  obtain ⟨_, e_6514, e⟩ := Option.bind_eq_some_iff.mp e
  obtain ⟨h_6516, e_6513, e⟩ := Option.bind_eq_some_iff.mp e
  refine Rn.call hT rfl rfl rfl (Nat.le_of_ble_eq_true rfl) (rcv_v gX12_blanks (by omega) e_6514) (rX12_blanks (by omega) e_6513 ?_)
  show Rn d _ _ 4 [some (.ref q0)] [] h_6516 Q
  refine Rn.n hT 2 (pc' := 8) (L' := [some (.ref q0)]) (st' := [.ref 1000028, .ref q0]) rfl ?_
  obtain ⟨_, e_6518, e⟩ := Option.bind_eq_some_iff.mp e
  obtain ⟨v_6519, e_6517, e⟩ := Option.bind_eq_some_iff.mp e
  refine Rn.call hT rfl rfl rfl (Nat.le_of_ble_eq_true rfl) (rcv_v gX12_stood (by omega) e_6518) (rX12_stood (by omega) e_6517 ?_)
  show Rn d _ _ 11 [some (.ref q0)] [.int v_6519] h_6516 Q
  by_cases c_6520 : v_6519 = 0
  · rw [if_pos c_6520] at e
    refine Rn.bt hT rfl rfl rfl (decide_eq_true c_6520) ?_
    refine Rn.n hT 1 (pc' := 33) (L' := [some (.ref q0)]) (st' := [.ref q0]) rfl ?_
    obtain ⟨_, e_6522, e⟩ := Option.bind_eq_some_iff.mp e
    obtain ⟨v_6523, e_6521, e⟩ := Option.bind_eq_some_iff.mp e
    refine Rn.call hT rfl rfl rfl (Nat.le_of_ble_eq_true rfl) (rcv_v gX12_sign (by omega) e_6522) (rX12_sign (by omega) e_6521 ?_)
    show Rn d _ _ 36 [some (.ref q0)] [.int v_6523] h_6516 Q
    refine Rn.n hT 1 (pc' := 38) (L' := [some (.ref q0)]) (st' := [.int (91 : Int32), .int v_6523]) rfl ?_
    by_cases c_6524 : v_6523 = (91 : Int32)
    · rw [if_pos c_6524] at e
      refine Rn.bf hT rfl rfl rfl (decide_eq_false (fun z => z c_6524)) ?_
      refine Rn.n hT 2 (pc' := 44) (L' := [some (.ref q0)]) (st' := [.int (12 : Int32), .ref q0]) rfl ?_
      obtain ⟨_, e_6530, e⟩ := Option.bind_eq_some_iff.mp e
      obtain ⟨h_6532, e_6529, e⟩ := Option.bind_eq_some_iff.mp e
      refine Rn.call hT rfl rfl rfl (Nat.le_of_ble_eq_true rfl) (rcv_v gX12_opens (by omega) e_6530) (rX12_opens (by omega) e_6529 ?_)
      show Rn d _ _ 47 [some (.ref q0)] [] h_6532 Q
      refine Rn.n hT 2 (pc' := 49) (L' := [some (.ref q0)]) (st' := [.ref q0, .ref q0]) rfl ?_
      obtain ⟨v_6533, e_6534, e⟩ := Option.bind_eq_some_iff.mp e
      refine Rn.hp hT rfl rfl (gI_hp e_6534) ?_
      refine Rn.n hT 2 (pc' := 54) (L' := [some (.ref q0)]) (st' := [.int (v_6533 + (1 : Int32)), .ref q0]) rfl ?_
      obtain ⟨h_6535, e_6536, e⟩ := Option.bind_eq_some_iff.mp e
      refine Rn.hp hT rfl rfl (pV_hp rfl e_6536) ?_
      refine Rn.n hT 1 (pc' := 58) (L' := [some (.ref q0)]) (st' := [.int (0 : Int32)]) rfl ?_
      obtain rfl := Option.some.inj e
      exact Rn.ret hT rfl rfl rfl hq
    · rw [if_neg c_6524] at e
      refine Rn.bt hT rfl rfl rfl (decide_eq_true c_6524) ?_
      refine Rn.n hT 1 (pc' := 60) (L' := [some (.ref q0)]) (st' := [.ref q0]) rfl ?_
      obtain ⟨_, e_6526, e⟩ := Option.bind_eq_some_iff.mp e
      obtain ⟨h_6528, e_6525, e⟩ := Option.bind_eq_some_iff.mp e
      refine Rn.call hT rfl rfl rfl (Nat.le_of_ble_eq_true rfl) (rcv_v gX12_compared (by omega) e_6526) (rX12_compared (by omega) e_6525 ?_)
      show Rn d _ _ 63 [some (.ref q0)] [] h_6528 Q
      refine Rn.n hT 1 (pc' := 64) (L' := [some (.ref q0)]) (st' := [.int (1 : Int32)]) rfl ?_
      obtain rfl := Option.some.inj e
      exact Rn.ret hT rfl rfl rfl hq
  · rw [if_neg c_6520] at e
    refine Rn.bf hT rfl rfl rfl (decide_eq_false c_6520) ?_
    refine Rn.n hT 2 (pc' := 17) (L' := [some (.ref q0)]) (st' := [.int (9 : Int32), .ref q0]) rfl ?_
    obtain ⟨_, e_6538, e⟩ := Option.bind_eq_some_iff.mp e
    obtain ⟨h_6540, e_6537, e⟩ := Option.bind_eq_some_iff.mp e
    refine Rn.call hT rfl rfl rfl (Nat.le_of_ble_eq_true rfl) (rcv_v gX12_opens (by omega) e_6538) (rX12_opens (by omega) e_6537 ?_)
    show Rn d _ _ 20 [some (.ref q0)] [] h_6540 Q
    refine Rn.n hT 2 (pc' := 22) (L' := [some (.ref q0)]) (st' := [.ref q0, .ref q0]) rfl ?_
    obtain ⟨v_6541, e_6542, e⟩ := Option.bind_eq_some_iff.mp e
    refine Rn.hp hT rfl rfl (gI_hp e_6542) ?_
    refine Rn.n hT 2 (pc' := 27) (L' := [some (.ref q0)]) (st' := [.int (v_6541 + (3 : Int32)), .ref q0]) rfl ?_
    obtain ⟨h_6543, e_6544, e⟩ := Option.bind_eq_some_iff.mp e
    refine Rn.hp hT rfl rfl (pV_hp rfl e_6544) ?_
    refine Rn.n hT 1 (pc' := 31) (L' := [some (.ref q0)]) (st' := [.int (0 : Int32)]) rfl ?_
    obtain rfl := Option.some.inj e
    exact Rn.ret hT rfl rfl rfl hq
set_option maxRecDepth 10000 in
theorem hX12_test : iv_Tb 227 tX12_test := iv_tb_of (m := mX12_test) rfl
set_option maxRecDepth 10000 in
theorem gX12_test : PG.2 227 = some mX12_test := iv_pi_of (t := tX12_test) rfl (by decide)
def fX12_test_b36 (N : Nat) (h : iv_H) (q0 : Nat) (x2 : Int32) (s0 : Int32) (kb : iv_H → Int32 → Int32 → Option (iv_H)) (kx : iv_H → Option (iv_H)) : Option (iv_H) := (kb h s0 x2)
set_option maxRecDepth 10000 in
set_option maxHeartbeats 4000000 in
theorem rX12_test_b36 {d N : Nat} (hd : 16 ≤ d) {h : iv_H} {q0 : Nat} {x2 : Int32} {s0 : Int32} {kb : iv_H → Int32 → Int32 → Option (iv_H)} {kx : iv_H → Option (iv_H)} {r : iv_H} {Q : Option Value → iv_H → Prop} (hb : ∀ (h : iv_H) (w1 : Int32) (w2 : Int32), kb h w1 w2 = some r → Rn d 227 none 9 [some (.ref q0), some (.int w1), some (.int w2), none, none] [] h Q) (hk : ∀ (h : iv_H), kx h = some r → Rn d 227 none 202 [none, none, none, none, none] [] h Q) (hq : Q none r) (e : fX12_test_b36 N h q0 x2 s0 kb kx = some r) : Rn d 227 none 36 [some (.ref q0), none, some (.int x2), none, none] [.int s0] h Q := by
  have hT := hX12_test
  unfold fX12_test_b36 at e
  refine Rn.n hT 2 (pc' := 9) (L' := [some (.ref q0), some (.int s0), some (.int x2), none, none]) (st' := []) rfl ?_
  exact Rn.weak (ll_s (ll_s (ll_s (ll_n (ll_n ll_e))))) (hb h s0 x2 e)
def fX12_test_b199 (N : Nat) (h : iv_H) (q0 : Nat) (x1 : Int32) (x2 : Int32)  (kb : iv_H → Int32 → Int32 → Option (iv_H)) (kx : iv_H → Option (iv_H)) : Option (iv_H) := (kb h x1 x2)
set_option maxRecDepth 10000 in
set_option maxHeartbeats 4000000 in
theorem rX12_test_b199 {d N : Nat} (hd : 16 ≤ d) {h : iv_H} {q0 : Nat} {x1 : Int32} {x2 : Int32}  {kb : iv_H → Int32 → Int32 → Option (iv_H)} {kx : iv_H → Option (iv_H)} {r : iv_H} {Q : Option Value → iv_H → Prop} (hb : ∀ (h : iv_H) (w1 : Int32) (w2 : Int32), kb h w1 w2 = some r → Rn d 227 none 9 [some (.ref q0), some (.int w1), some (.int w2), none, none] [] h Q) (hk : ∀ (h : iv_H), kx h = some r → Rn d 227 none 202 [none, none, none, none, none] [] h Q) (hq : Q none r) (e : fX12_test_b199 N h q0 x1 x2  kb kx = some r) : Rn d 227 none 199 [some (.ref q0), some (.int x1), some (.int x2), none, none] [] h Q := by
  have hT := hX12_test
  unfold fX12_test_b199 at e
  refine Rn.n hT 1 (pc' := 9) (L' := [some (.ref q0), some (.int x1), some (.int x2), none, none]) (st' := []) rfl ?_
  exact Rn.weak (ll_s (ll_s (ll_s (ll_n (ll_n ll_e))))) (hb h x1 x2 e)
def fX12_test_b122 (N : Nat) (h : iv_H) (q0 : Nat) (x2 : Int32) (s0 : Int32) (s1 : Int32) (sq2 : Nat) (kb : iv_H → Int32 → Int32 → Option (iv_H)) (kx : iv_H → Option (iv_H)) : Option (iv_H) := ((pV h 12 29 sq2 (.int (s1 + s0))).bind fun h_6610 => (fX12_test_b199 N h_6610 q0 (1 : Int32) x2 kb kx))
set_option maxRecDepth 10000 in
set_option maxHeartbeats 4000000 in
theorem rX12_test_b122 {d N : Nat} (hd : 16 ≤ d) {h : iv_H} {q0 : Nat} {x2 : Int32} {s0 : Int32} {s1 : Int32} {sq2 : Nat} {kb : iv_H → Int32 → Int32 → Option (iv_H)} {kx : iv_H → Option (iv_H)} {r : iv_H} {Q : Option Value → iv_H → Prop} (hb : ∀ (h : iv_H) (w1 : Int32) (w2 : Int32), kb h w1 w2 = some r → Rn d 227 none 9 [some (.ref q0), some (.int w1), some (.int w2), none, none] [] h Q) (hk : ∀ (h : iv_H), kx h = some r → Rn d 227 none 202 [none, none, none, none, none] [] h Q) (hq : Q none r) (e : fX12_test_b122 N h q0 x2 s0 s1 sq2 kb kx = some r) : Rn d 227 none 122 [some (.ref q0), none, some (.int x2), none, none] [.int s0, .int s1, .ref sq2] h Q := by
  have hT := hX12_test
  unfold fX12_test_b122 at e
  refine Rn.n hT 1 (pc' := 123) (L' := [some (.ref q0), none, some (.int x2), none, none]) (st' := [.int (s1 + s0), .ref sq2]) rfl ?_
  obtain ⟨h_6610, e_6611, e⟩ := Option.bind_eq_some_iff.mp e
  refine Rn.hp hT rfl rfl (pV_hp rfl e_6611) ?_
  refine Rn.n hT 3 (pc' := 199) (L' := [some (.ref q0), some (.int (1 : Int32)), some (.int x2), none, none]) (st' := []) rfl ?_
  exact Rn.weak (ll_s (ll_s (ll_s (ll_n (ll_n ll_e))))) (rX12_test_b199 hd hb hk hq e)
def fX12_test_b105 (N : Nat) (h : iv_H) (q0 : Nat) (x2 : Int32) (x3 : Int32) (s0 : Int32) (sq1 : Nat) (kb : iv_H → Int32 → Int32 → Option (iv_H)) (kx : iv_H → Option (iv_H)) : Option (iv_H) := ((cko h sq1 12).bind fun _ => (fX12_opens N h sq1 s0).bind fun h_6606 => ((gI h_6606 12 29 q0).bind fun v_6607 => (if x3 = 0 then (fX12_test_b122 N h_6606 q0 x2 (2 : Int32) v_6607 q0 kb kx) else (fX12_test_b122 N h_6606 q0 x2 (3 : Int32) v_6607 q0 kb kx))))
set_option maxRecDepth 10000 in
set_option maxHeartbeats 4000000 in
theorem rX12_test_b105 {d N : Nat} (hd : 16 ≤ d) {h : iv_H} {q0 : Nat} {x2 : Int32} {x3 : Int32} {s0 : Int32} {sq1 : Nat} {kb : iv_H → Int32 → Int32 → Option (iv_H)} {kx : iv_H → Option (iv_H)} {r : iv_H} {Q : Option Value → iv_H → Prop} (hb : ∀ (h : iv_H) (w1 : Int32) (w2 : Int32), kb h w1 w2 = some r → Rn d 227 none 9 [some (.ref q0), some (.int w1), some (.int w2), none, none] [] h Q) (hk : ∀ (h : iv_H), kx h = some r → Rn d 227 none 202 [none, none, none, none, none] [] h Q) (hq : Q none r) (e : fX12_test_b105 N h q0 x2 x3 s0 sq1 kb kx = some r) : Rn d 227 none 105 [some (.ref q0), none, some (.int x2), some (.int x3), none] [.int s0, .ref sq1] h Q := by
  have hT := hX12_test
  unfold fX12_test_b105 at e
  obtain ⟨_, e_6604, e⟩ := Option.bind_eq_some_iff.mp e
  obtain ⟨h_6606, e_6603, e⟩ := Option.bind_eq_some_iff.mp e
  refine Rn.call hT rfl rfl rfl (Nat.le_of_ble_eq_true rfl) (rcv_v gX12_opens (by omega) e_6604) (rX12_opens (by omega) e_6603 ?_)
  show Rn d _ _ 108 [some (.ref q0), none, some (.int x2), some (.int x3), none] [] h_6606 Q
  refine Rn.n hT 2 (pc' := 110) (L' := [some (.ref q0), none, some (.int x2), some (.int x3), none]) (st' := [.ref q0, .ref q0]) rfl ?_
  obtain ⟨v_6607, e_6608, e⟩ := Option.bind_eq_some_iff.mp e
  refine Rn.hp hT rfl rfl (gI_hp e_6608) ?_
  refine Rn.n hT 1 (pc' := 114) (L' := [some (.ref q0), none, some (.int x2), some (.int x3), none]) (st' := [.int x3, .int v_6607, .ref q0]) rfl ?_
  by_cases c_6609 : x3 = 0
  · rw [if_pos c_6609] at e
    refine Rn.bt hT rfl rfl rfl (decide_eq_true c_6609) ?_
    refine Rn.n hT 1 (pc' := 122) (L' := [some (.ref q0), none, some (.int x2), some (.int x3), none]) (st' := [.int (2 : Int32), .int v_6607, .ref q0]) rfl ?_
    exact Rn.weak (ll_s (ll_n (ll_s (ll_n (ll_n ll_e))))) (rX12_test_b122 hd hb hk hq e)
  · rw [if_neg c_6609] at e
    refine Rn.bf hT rfl rfl rfl (decide_eq_false c_6609) ?_
    refine Rn.n hT 2 (pc' := 122) (L' := [some (.ref q0), none, some (.int x2), some (.int x3), none]) (st' := [.int (3 : Int32), .int v_6607, .ref q0]) rfl ?_
    exact Rn.weak (ll_s (ll_n (ll_s (ll_n (ll_n ll_e))))) (rX12_test_b122 hd hb hk hq e)
def fX12_test_b93 (N : Nat) (h : iv_H) (q0 : Nat) (x2 : Int32) (x3 : Int32)  (kb : iv_H → Int32 → Int32 → Option (iv_H)) (kx : iv_H → Option (iv_H)) : Option (iv_H) := (if x3 = 0 then (fX12_test_b105 N h q0 x2 x3 (11 : Int32) q0 kb kx) else (fX12_test_b105 N h q0 x2 x3 (10 : Int32) q0 kb kx))
set_option maxRecDepth 10000 in
set_option maxHeartbeats 4000000 in
theorem rX12_test_b93 {d N : Nat} (hd : 16 ≤ d) {h : iv_H} {q0 : Nat} {x2 : Int32} {x3 : Int32}  {kb : iv_H → Int32 → Int32 → Option (iv_H)} {kx : iv_H → Option (iv_H)} {r : iv_H} {Q : Option Value → iv_H → Prop} (hb : ∀ (h : iv_H) (w1 : Int32) (w2 : Int32), kb h w1 w2 = some r → Rn d 227 none 9 [some (.ref q0), some (.int w1), some (.int w2), none, none] [] h Q) (hk : ∀ (h : iv_H), kx h = some r → Rn d 227 none 202 [none, none, none, none, none] [] h Q) (hq : Q none r) (e : fX12_test_b93 N h q0 x2 x3  kb kx = some r) : Rn d 227 none 93 [some (.ref q0), none, some (.int x2), some (.int x3), none] [] h Q := by
  have hT := hX12_test
  unfold fX12_test_b93 at e
  refine Rn.n hT 2 (pc' := 95) (L' := [some (.ref q0), none, some (.int x2), some (.int x3), none]) (st' := [.int x3, .ref q0]) rfl ?_
  by_cases c_6602 : x3 = 0
  · rw [if_pos c_6602] at e
    refine Rn.bt hT rfl rfl rfl (decide_eq_true c_6602) ?_
    refine Rn.n hT 1 (pc' := 105) (L' := [some (.ref q0), none, some (.int x2), some (.int x3), none]) (st' := [.int (11 : Int32), .ref q0]) rfl ?_
    exact Rn.weak (ll_s (ll_n (ll_s (ll_s (ll_n ll_e))))) (rX12_test_b105 hd hb hk hq e)
  · rw [if_neg c_6602] at e
    refine Rn.bf hT rfl rfl rfl (decide_eq_false c_6602) ?_
    refine Rn.n hT 2 (pc' := 105) (L' := [some (.ref q0), none, some (.int x2), some (.int x3), none]) (st' := [.int (10 : Int32), .ref q0]) rfl ?_
    exact Rn.weak (ll_s (ll_n (ll_s (ll_s (ll_n ll_e))))) (rX12_test_b105 hd hb hk hq e)
def fX12_test_b82 (N : Nat) (h : iv_H) (q0 : Nat) (x2 : Int32) (x3 : Int32) (x4 : Int32)  (kb : iv_H → Int32 → Int32 → Option (iv_H)) (kx : iv_H → Option (iv_H)) : Option (iv_H) := (if x4 = 0 then (fX12_test_b93 N h q0 x2 x3 kb kx) else ((cko h q0 12).bind fun _ => (fX12_answers N h q0 (11 : Int32)).bind fun h_6601 => (fX12_test_b93 N h_6601 q0 x2 x3 kb kx)))
set_option maxRecDepth 10000 in
set_option maxHeartbeats 4000000 in
theorem rX12_test_b82 {d N : Nat} (hd : 16 ≤ d) {h : iv_H} {q0 : Nat} {x2 : Int32} {x3 : Int32} {x4 : Int32}  {kb : iv_H → Int32 → Int32 → Option (iv_H)} {kx : iv_H → Option (iv_H)} {r : iv_H} {Q : Option Value → iv_H → Prop} (hb : ∀ (h : iv_H) (w1 : Int32) (w2 : Int32), kb h w1 w2 = some r → Rn d 227 none 9 [some (.ref q0), some (.int w1), some (.int w2), none, none] [] h Q) (hk : ∀ (h : iv_H), kx h = some r → Rn d 227 none 202 [none, none, none, none, none] [] h Q) (hq : Q none r) (e : fX12_test_b82 N h q0 x2 x3 x4  kb kx = some r) : Rn d 227 none 82 [some (.ref q0), none, some (.int x2), some (.int x3), some (.int x4)] [] h Q := by
  have hT := hX12_test
  unfold fX12_test_b82 at e
  refine Rn.n hT 1 (pc' := 84) (L' := [some (.ref q0), none, some (.int x2), some (.int x3), some (.int x4)]) (st' := [.int x4]) rfl ?_
  by_cases c_6597 : x4 = 0
  · rw [if_pos c_6597] at e
    refine Rn.bt hT rfl rfl rfl (decide_eq_true c_6597) ?_
    exact Rn.weak (ll_s (ll_n (ll_s (ll_s (ll_n ll_e))))) (rX12_test_b93 hd hb hk hq e)
  · rw [if_neg c_6597] at e
    refine Rn.bf hT rfl rfl rfl (decide_eq_false c_6597) ?_
    refine Rn.n hT 2 (pc' := 90) (L' := [some (.ref q0), none, some (.int x2), some (.int x3), some (.int x4)]) (st' := [.int (11 : Int32), .ref q0]) rfl ?_
    obtain ⟨_, e_6599, e⟩ := Option.bind_eq_some_iff.mp e
    obtain ⟨h_6601, e_6598, e⟩ := Option.bind_eq_some_iff.mp e
    refine Rn.call hT rfl rfl rfl (Nat.le_of_ble_eq_true rfl) (rcv_v gX12_answers (by omega) e_6599) (rX12_answers (by omega) e_6598 ?_)
    show Rn d _ _ 93 [some (.ref q0), none, some (.int x2), some (.int x3), some (.int x4)] [] h_6601 Q
    exact Rn.weak (ll_s (ll_n (ll_s (ll_s (ll_n ll_e))))) (rX12_test_b93 hd hb hk hq e)
def fX12_test_b164 (N : Nat) (h : iv_H) (q0 : Nat) (x1 : Int32) (x2 : Int32)  (kb : iv_H → Int32 → Int32 → Option (iv_H)) (kx : iv_H → Option (iv_H)) : Option (iv_H) := ((gI h 12 29 q0).bind fun v_6612 => ((pV h 12 29 q0 (.int (v_6612 + (1 : Int32)))).bind fun h_6614 => ((gI h_6614 12 36 q0).bind fun v_6616 => ((pV h_6614 12 36 q0 (.int (v_6616 - (1 : Int32)))).bind fun h_6618 => ((gI h_6618 12 34 q0).bind fun v_6620 => ((pV h_6618 12 34 q0 (.int (v_6620 - (1 : Int32)))).bind fun h_6622 => (fX12_test_b199 N h_6622 q0 x1 x2 kb kx)))))))
set_option maxRecDepth 10000 in
set_option maxHeartbeats 4000000 in
theorem rX12_test_b164 {d N : Nat} (hd : 16 ≤ d) {h : iv_H} {q0 : Nat} {x1 : Int32} {x2 : Int32}  {kb : iv_H → Int32 → Int32 → Option (iv_H)} {kx : iv_H → Option (iv_H)} {r : iv_H} {Q : Option Value → iv_H → Prop} (hb : ∀ (h : iv_H) (w1 : Int32) (w2 : Int32), kb h w1 w2 = some r → Rn d 227 none 9 [some (.ref q0), some (.int w1), some (.int w2), none, none] [] h Q) (hk : ∀ (h : iv_H), kx h = some r → Rn d 227 none 202 [none, none, none, none, none] [] h Q) (hq : Q none r) (e : fX12_test_b164 N h q0 x1 x2  kb kx = some r) : Rn d 227 none 164 [some (.ref q0), some (.int x1), some (.int x2), none, none] [] h Q := by
  have hT := hX12_test
  unfold fX12_test_b164 at e
  refine Rn.n hT 2 (pc' := 166) (L' := [some (.ref q0), some (.int x1), some (.int x2), none, none]) (st' := [.ref q0, .ref q0]) rfl ?_
  obtain ⟨v_6612, e_6613, e⟩ := Option.bind_eq_some_iff.mp e
  refine Rn.hp hT rfl rfl (gI_hp e_6613) ?_
  refine Rn.n hT 2 (pc' := 171) (L' := [some (.ref q0), some (.int x1), some (.int x2), none, none]) (st' := [.int (v_6612 + (1 : Int32)), .ref q0]) rfl ?_
  obtain ⟨h_6614, e_6615, e⟩ := Option.bind_eq_some_iff.mp e
  refine Rn.hp hT rfl rfl (pV_hp rfl e_6615) ?_
  refine Rn.n hT 2 (pc' := 176) (L' := [some (.ref q0), some (.int x1), some (.int x2), none, none]) (st' := [.ref q0, .ref q0]) rfl ?_
  obtain ⟨v_6616, e_6617, e⟩ := Option.bind_eq_some_iff.mp e
  refine Rn.hp hT rfl rfl (gI_hp e_6617) ?_
  refine Rn.n hT 2 (pc' := 181) (L' := [some (.ref q0), some (.int x1), some (.int x2), none, none]) (st' := [.int (v_6616 - (1 : Int32)), .ref q0]) rfl ?_
  obtain ⟨h_6618, e_6619, e⟩ := Option.bind_eq_some_iff.mp e
  refine Rn.hp hT rfl rfl (pV_hp rfl e_6619) ?_
  refine Rn.n hT 2 (pc' := 186) (L' := [some (.ref q0), some (.int x1), some (.int x2), none, none]) (st' := [.ref q0, .ref q0]) rfl ?_
  obtain ⟨v_6620, e_6621, e⟩ := Option.bind_eq_some_iff.mp e
  refine Rn.hp hT rfl rfl (gI_hp e_6621) ?_
  refine Rn.n hT 2 (pc' := 191) (L' := [some (.ref q0), some (.int x1), some (.int x2), none, none]) (st' := [.int (v_6620 - (1 : Int32)), .ref q0]) rfl ?_
  obtain ⟨h_6622, e_6623, e⟩ := Option.bind_eq_some_iff.mp e
  refine Rn.hp hT rfl rfl (pV_hp rfl e_6623) ?_
  refine Rn.n hT 1 (pc' := 199) (L' := [some (.ref q0), some (.int x1), some (.int x2), none, none]) (st' := []) rfl ?_
  exact Rn.weak (ll_s (ll_s (ll_s (ll_n (ll_n ll_e))))) (rX12_test_b199 hd hb hk hq e)
def fX12_test_l9 (N : Nat) (q0 : Nat) (kx : iv_H → Option (iv_H)) : Nat → iv_H → Int32 → Int32 → Option (iv_H)
  | 0, _, _, _ => none
  | n + 1, h, x1, x2 => (if x2 = 0 then (kx h) else ((gI h 12 30 q0).bind fun v_6549 => (if v_6549 = 0 then (if x1 = 0 then ((cko h q0 12).bind fun _ => (fX12_answers N h q0 (9 : Int32)).bind fun h_6556 => ((cko h_6556 q0 12).bind fun _ => (fX12_blanks N h_6556 q0).bind fun h_6560 => ((cko h_6560 q0 12).bind fun _ => (fX12_stood N h_6560 q0 1000029).bind fun v_6563 => ((cko h_6560 q0 12).bind fun _ => (fX12_stood N h_6560 q0 1000030).bind fun v_6566 => ((cko h_6560 q0 12).bind fun _ => (fX12_answers N h_6560 q0 (10 : Int32)).bind fun h_6570 => (if v_6563 = 0 then (if v_6566 = 0 then ((cko h_6570 q0 12).bind fun _ => (fX12_answers N h_6570 q0 (11 : Int32)).bind fun h_6576 => ((cko h_6576 q0 12).bind fun _ => (fX12_top N h_6576 q0).bind fun v_6579 => (if v_6579 = (12 : Int32) then ((cko h_6576 q0 12).bind fun _ => (fX12_sign N h_6576 q0).bind fun v_6583 => (if v_6583 = (93 : Int32) then (fX12_test_b164 N h_6576 q0 x1 x2 (fX12_test_l9 N q0 kx n) kx) else ((gI h_6576 12 29 q0).bind fun v_6585 => ((cko h_6576 q0 12).bind fun _ => (fX12_fails N h_6576 q0 (0 : Int32) v_6585).bind fun h_6590 => (fX12_test_b164 N h_6590 q0 x1 x2 (fX12_test_l9 N q0 kx n) kx))))) else (fX12_test_b199 N h_6576 q0 x1 (0 : Int32) (fX12_test_l9 N q0 kx n) kx)))) else (fX12_test_b82 N h_6570 q0 x2 v_6563 v_6566 (fX12_test_l9 N q0 kx n) kx)) else (fX12_test_b82 N h_6570 q0 x2 v_6563 v_6566 (fX12_test_l9 N q0 kx n) kx))))))) else ((cko h q0 12).bind fun _ => (fX12_fact N h q0).bind fun p_6596 => (fun (v_6593 : Int32) (h_6594 : iv_H) => (if v_6593 = 0 then (fX12_test_b36 N h_6594 q0 x2 (1 : Int32) (fX12_test_l9 N q0 kx n) kx) else (fX12_test_b36 N h_6594 q0 x2 (0 : Int32) (fX12_test_l9 N q0 kx n) kx))) p_6596.1 p_6596.2)) else (kx h))))
set_option maxRecDepth 10000 in
set_option maxHeartbeats 4000000 in
theorem rX12_test_l9 {d N : Nat} (hd : 16 ≤ d) {q0 : Nat} {kx : iv_H → Option (iv_H)} {r : iv_H} {Q : Option Value → iv_H → Prop} (hk : ∀ (h : iv_H), kx h = some r → Rn d 227 none 202 [none, none, none, none, none] [] h Q) (hq : Q none r) : ∀ (n : Nat) (h : iv_H) (x1 : Int32) (x2 : Int32), fX12_test_l9 N q0 kx n h x1 x2 = some r → Rn d 227 none 9 [some (.ref q0), some (.int x1), some (.int x2), none, none] [] h Q := by
  have hT := hX12_test
  intro n
  induction n with
  | zero =>
    intro h x1 x2 e
    rw [fX12_test_l9] at e
    cases e
  | succ n ih =>
    intro h x1 x2 e
    rw [fX12_test_l9] at e
    refine Rn.n hT 1 (pc' := 10) (L' := [some (.ref q0), some (.int x1), some (.int x2), none, none]) (st' := [.int x2]) rfl ?_
    by_cases c_6548 : x2 = 0
    · rw [if_pos c_6548] at e
      refine Rn.bt hT rfl rfl rfl (decide_eq_true c_6548) ?_
      exact Rn.weak (ll_n (ll_n (ll_n (ll_n (ll_n ll_e))))) (hk h e)
    · rw [if_neg c_6548] at e
      refine Rn.bf hT rfl rfl rfl (decide_eq_false c_6548) ?_
      refine Rn.n hT 1 (pc' := 14) (L' := [some (.ref q0), some (.int x1), some (.int x2), none, none]) (st' := [.ref q0]) rfl ?_
      obtain ⟨v_6549, e_6550, e⟩ := Option.bind_eq_some_iff.mp e
      refine Rn.hp hT rfl rfl (gI_hp e_6550) ?_
      by_cases c_6551 : v_6549 = 0
      · rw [if_pos c_6551] at e
        refine Rn.bf hT rfl rfl rfl (decide_eq_false (fun z => z c_6551)) ?_
        refine Rn.n hT 1 (pc' := 21) (L' := [some (.ref q0), some (.int x1), some (.int x2), none, none]) (st' := [.int x1]) rfl ?_
        by_cases c_6552 : x1 = 0
        · rw [if_pos c_6552] at e
          refine Rn.bt hT rfl rfl rfl (decide_eq_true c_6552) ?_
          refine Rn.n hT 2 (pc' := 43) (L' := [some (.ref q0), some (.int x1), some (.int x2), none, none]) (st' := [.int (9 : Int32), .ref q0]) rfl ?_
          obtain ⟨_, e_6554, e⟩ := Option.bind_eq_some_iff.mp e
          obtain ⟨h_6556, e_6553, e⟩ := Option.bind_eq_some_iff.mp e
          refine Rn.call hT rfl rfl rfl (Nat.le_of_ble_eq_true rfl) (rcv_v gX12_answers (by omega) e_6554) (rX12_answers (by omega) e_6553 ?_)
          show Rn d _ _ 46 [some (.ref q0), some (.int x1), some (.int x2), none, none] [] h_6556 Q
          refine Rn.n hT 1 (pc' := 47) (L' := [some (.ref q0), some (.int x1), some (.int x2), none, none]) (st' := [.ref q0]) rfl ?_
          obtain ⟨_, e_6558, e⟩ := Option.bind_eq_some_iff.mp e
          obtain ⟨h_6560, e_6557, e⟩ := Option.bind_eq_some_iff.mp e
          refine Rn.call hT rfl rfl rfl (Nat.le_of_ble_eq_true rfl) (rcv_v gX12_blanks (by omega) e_6558) (rX12_blanks (by omega) e_6557 ?_)
          show Rn d _ _ 50 [some (.ref q0), some (.int x1), some (.int x2), none, none] [] h_6560 Q
          refine Rn.n hT 2 (pc' := 54) (L' := [some (.ref q0), some (.int x1), some (.int x2), none, none]) (st' := [.ref 1000029, .ref q0]) rfl ?_
          obtain ⟨_, e_6562, e⟩ := Option.bind_eq_some_iff.mp e
          obtain ⟨v_6563, e_6561, e⟩ := Option.bind_eq_some_iff.mp e
          refine Rn.call hT rfl rfl rfl (Nat.le_of_ble_eq_true rfl) (rcv_v gX12_stood (by omega) e_6562) (rX12_stood (by omega) e_6561 ?_)
          show Rn d _ _ 57 [some (.ref q0), some (.int x1), some (.int x2), none, none] [.int v_6563] h_6560 Q
          refine Rn.n hT 3 (pc' := 62) (L' := [some (.ref q0), some (.int x1), some (.int x2), some (.int v_6563), none]) (st' := [.ref 1000030, .ref q0]) rfl ?_
          obtain ⟨_, e_6565, e⟩ := Option.bind_eq_some_iff.mp e
          obtain ⟨v_6566, e_6564, e⟩ := Option.bind_eq_some_iff.mp e
          refine Rn.call hT rfl rfl rfl (Nat.le_of_ble_eq_true rfl) (rcv_v gX12_stood (by omega) e_6565) (rX12_stood (by omega) e_6564 ?_)
          show Rn d _ _ 65 [some (.ref q0), some (.int x1), some (.int x2), some (.int v_6563), none] [.int v_6566] h_6560 Q
          refine Rn.n hT 3 (pc' := 70) (L' := [some (.ref q0), some (.int x1), some (.int x2), some (.int v_6563), some (.int v_6566)]) (st' := [.int (10 : Int32), .ref q0]) rfl ?_
          obtain ⟨_, e_6568, e⟩ := Option.bind_eq_some_iff.mp e
          obtain ⟨h_6570, e_6567, e⟩ := Option.bind_eq_some_iff.mp e
          refine Rn.call hT rfl rfl rfl (Nat.le_of_ble_eq_true rfl) (rcv_v gX12_answers (by omega) e_6568) (rX12_answers (by omega) e_6567 ?_)
          show Rn d _ _ 73 [some (.ref q0), some (.int x1), some (.int x2), some (.int v_6563), some (.int v_6566)] [] h_6570 Q
          refine Rn.n hT 1 (pc' := 74) (L' := [some (.ref q0), some (.int x1), some (.int x2), some (.int v_6563), some (.int v_6566)]) (st' := [.int v_6563]) rfl ?_
          by_cases c_6571 : v_6563 = 0
          · rw [if_pos c_6571] at e
            refine Rn.bf hT rfl rfl rfl (decide_eq_false (fun z => z c_6571)) ?_
            refine Rn.n hT 1 (pc' := 79) (L' := [some (.ref q0), some (.int x1), some (.int x2), some (.int v_6563), some (.int v_6566)]) (st' := [.int v_6566]) rfl ?_
            by_cases c_6572 : v_6566 = 0
            · rw [if_pos c_6572] at e
              refine Rn.bt hT rfl rfl rfl (decide_eq_true c_6572) ?_
              refine Rn.n hT 2 (pc' := 134) (L' := [some (.ref q0), some (.int x1), some (.int x2), some (.int v_6563), some (.int v_6566)]) (st' := [.int (11 : Int32), .ref q0]) rfl ?_
              obtain ⟨_, e_6574, e⟩ := Option.bind_eq_some_iff.mp e
              obtain ⟨h_6576, e_6573, e⟩ := Option.bind_eq_some_iff.mp e
              refine Rn.call hT rfl rfl rfl (Nat.le_of_ble_eq_true rfl) (rcv_v gX12_answers (by omega) e_6574) (rX12_answers (by omega) e_6573 ?_)
              show Rn d _ _ 137 [some (.ref q0), some (.int x1), some (.int x2), some (.int v_6563), some (.int v_6566)] [] h_6576 Q
              refine Rn.n hT 1 (pc' := 138) (L' := [some (.ref q0), some (.int x1), some (.int x2), some (.int v_6563), some (.int v_6566)]) (st' := [.ref q0]) rfl ?_
              obtain ⟨_, e_6578, e⟩ := Option.bind_eq_some_iff.mp e
              obtain ⟨v_6579, e_6577, e⟩ := Option.bind_eq_some_iff.mp e
              refine Rn.call hT rfl rfl rfl (Nat.le_of_ble_eq_true rfl) (rcv_v gX12_top (by omega) e_6578) (rX12_top (by omega) e_6577 ?_)
              show Rn d _ _ 141 [some (.ref q0), some (.int x1), some (.int x2), some (.int v_6563), some (.int v_6566)] [.int v_6579] h_6576 Q
              refine Rn.n hT 1 (pc' := 143) (L' := [some (.ref q0), some (.int x1), some (.int x2), some (.int v_6563), some (.int v_6566)]) (st' := [.int (12 : Int32), .int v_6579]) rfl ?_
              by_cases c_6580 : v_6579 = (12 : Int32)
              · rw [if_pos c_6580] at e
                refine Rn.bf hT rfl rfl rfl (decide_eq_false (fun z => z c_6580)) ?_
                refine Rn.n hT 1 (pc' := 147) (L' := [some (.ref q0), some (.int x1), some (.int x2), some (.int v_6563), some (.int v_6566)]) (st' := [.ref q0]) rfl ?_
                obtain ⟨_, e_6582, e⟩ := Option.bind_eq_some_iff.mp e
                obtain ⟨v_6583, e_6581, e⟩ := Option.bind_eq_some_iff.mp e
                refine Rn.call hT rfl rfl rfl (Nat.le_of_ble_eq_true rfl) (rcv_v gX12_sign (by omega) e_6582) (rX12_sign (by omega) e_6581 ?_)
                show Rn d _ _ 150 [some (.ref q0), some (.int x1), some (.int x2), some (.int v_6563), some (.int v_6566)] [.int v_6583] h_6576 Q
                refine Rn.n hT 1 (pc' := 152) (L' := [some (.ref q0), some (.int x1), some (.int x2), some (.int v_6563), some (.int v_6566)]) (st' := [.int (93 : Int32), .int v_6583]) rfl ?_
                by_cases c_6584 : v_6583 = (93 : Int32)
                · rw [if_pos c_6584] at e
                  refine Rn.bt hT rfl rfl rfl (decide_eq_true c_6584) ?_
                  exact Rn.weak (ll_s (ll_s (ll_s (ll_n (ll_n ll_e))))) (rX12_test_b164 hd ih hk hq e)
                · rw [if_neg c_6584] at e
                  refine Rn.bf hT rfl rfl rfl (decide_eq_false c_6584) ?_
                  refine Rn.n hT 3 (pc' := 158) (L' := [some (.ref q0), some (.int x1), some (.int x2), some (.int v_6563), some (.int v_6566)]) (st' := [.ref q0, .int (0 : Int32), .ref q0]) rfl ?_
                  obtain ⟨v_6585, e_6586, e⟩ := Option.bind_eq_some_iff.mp e
                  refine Rn.hp hT rfl rfl (gI_hp e_6586) ?_
                  obtain ⟨_, e_6588, e⟩ := Option.bind_eq_some_iff.mp e
                  obtain ⟨h_6590, e_6587, e⟩ := Option.bind_eq_some_iff.mp e
                  refine Rn.call hT rfl rfl rfl (Nat.le_of_ble_eq_true rfl) (rcv_v gX12_fails (by omega) e_6588) (rX12_fails (by omega) e_6587 ?_)
                  show Rn d _ _ 164 [some (.ref q0), some (.int x1), some (.int x2), some (.int v_6563), some (.int v_6566)] [] h_6590 Q
                  exact Rn.weak (ll_s (ll_s (ll_s (ll_n (ll_n ll_e))))) (rX12_test_b164 hd ih hk hq e)
              · rw [if_neg c_6580] at e
                refine Rn.bt hT rfl rfl rfl (decide_eq_true c_6580) ?_
                refine Rn.n hT 2 (pc' := 199) (L' := [some (.ref q0), some (.int x1), some (.int (0 : Int32)), some (.int v_6563), some (.int v_6566)]) (st' := []) rfl ?_
                exact Rn.weak (ll_s (ll_s (ll_s (ll_n (ll_n ll_e))))) (rX12_test_b199 hd ih hk hq e)
            · rw [if_neg c_6572] at e
              refine Rn.bf hT rfl rfl rfl (decide_eq_false c_6572) ?_
              exact Rn.weak (ll_s (ll_n (ll_s (ll_s (ll_s ll_e))))) (rX12_test_b82 hd ih hk hq e)
          · rw [if_neg c_6571] at e
            refine Rn.bt hT rfl rfl rfl (decide_eq_true c_6571) ?_
            exact Rn.weak (ll_s (ll_n (ll_s (ll_s (ll_s ll_e))))) (rX12_test_b82 hd ih hk hq e)
        · rw [if_neg c_6552] at e
          refine Rn.bf hT rfl rfl rfl (decide_eq_false c_6552) ?_
          refine Rn.n hT 1 (pc' := 25) (L' := [some (.ref q0), some (.int x1), some (.int x2), none, none]) (st' := [.ref q0]) rfl ?_
          obtain ⟨_, e_6592, e⟩ := Option.bind_eq_some_iff.mp e
          obtain ⟨⟨v_6593, h_6594⟩, e_6591, e⟩ := Option.bind_eq_some_iff.mp e
          try dsimp only at e
          try dsimp only at e
          refine Rn.call hT rfl rfl rfl (Nat.le_of_ble_eq_true rfl) (rcv_v gX12_fact (by omega) e_6592) (rX12_fact (by omega) e_6591 ?_)
          show Rn d _ _ 28 [some (.ref q0), some (.int x1), some (.int x2), none, none] [.int v_6593] h_6594 Q
          by_cases c_6595 : v_6593 = 0
          · rw [if_pos c_6595] at e
            refine Rn.bf hT rfl rfl rfl (decide_eq_false (fun z => z c_6595)) ?_
            refine Rn.n hT 2 (pc' := 36) (L' := [some (.ref q0), some (.int x1), some (.int x2), none, none]) (st' := [.int (1 : Int32)]) rfl ?_
            exact Rn.weak (ll_s (ll_n (ll_s (ll_n (ll_n ll_e))))) (rX12_test_b36 hd ih hk hq e)
          · rw [if_neg c_6595] at e
            refine Rn.bt hT rfl rfl rfl (decide_eq_true c_6595) ?_
            refine Rn.n hT 1 (pc' := 36) (L' := [some (.ref q0), some (.int x1), some (.int x2), none, none]) (st' := [.int (0 : Int32)]) rfl ?_
            exact Rn.weak (ll_s (ll_n (ll_s (ll_n (ll_n ll_e))))) (rX12_test_b36 hd ih hk hq e)
      · rw [if_neg c_6551] at e
        refine Rn.bt hT rfl rfl rfl (decide_eq_true c_6551) ?_
        exact Rn.weak (ll_n (ll_n (ll_n (ll_n (ll_n ll_e))))) (hk h e)
def fX12_test_b202 (N : Nat) (h : iv_H)   : Option (iv_H) := some h
set_option maxRecDepth 10000 in
set_option maxHeartbeats 4000000 in
theorem rX12_test_b202 {d N : Nat} (hd : 16 ≤ d) {h : iv_H}   {r : iv_H} {Q : Option Value → iv_H → Prop} (hq : Q none r) (e : fX12_test_b202 N h   = some r) : Rn d 227 none 202 [none, none, none, none, none] [] h Q := by
  have hT := hX12_test
  unfold fX12_test_b202 at e
  obtain rfl := Option.some.inj e
  exact Rn.ret hT rfl rfl rfl hq
def fX12_test (N : Nat) (h : iv_H) (q0 : Nat) : Option (iv_H) := ((pV h 12 36 q0 (.int (0 : Int32))).bind fun h_6545 => (fX12_test_l9 N q0 (fun (h_6547 : iv_H) => (fX12_test_b202 N h_6547)) N h_6545 (1 : Int32) (1 : Int32)))
set_option maxRecDepth 10000 in
set_option maxHeartbeats 4000000 in
theorem rX12_test {d N : Nat} (hd : 17 ≤ d) {h : iv_H} {q0 : Nat} {r : iv_H} {Q : Option Value → iv_H → Prop} (e : fX12_test N h q0 = some r) (hq : Q none r) : Cl d 227 [.ref q0] h Q := by
  obtain ⟨d, rfl⟩ : ∃ k, d = k + 1 := ⟨d - 1, by omega⟩
  have hd : 16 ≤ d := by omega
  have hT := hX12_test
  unfold fX12_test at e
  refine Cl.into (by decide) gX12_test rfl ?_
  show Rn d 227 none 0 [some (.ref q0), none, none, none, none] [] h Q
  refine Rn.n hT 2 (pc' := 2) (L' := [some (.ref q0), none, none, none, none]) (st' := [.int (0 : Int32), .ref q0]) rfl ?_
  obtain ⟨h_6545, e_6546, e⟩ := Option.bind_eq_some_iff.mp e
  refine Rn.hp hT rfl rfl (pV_hp rfl e_6546) ?_
  refine Rn.n hT 4 (pc' := 9) (L' := [some (.ref q0), some (.int (1 : Int32)), some (.int (1 : Int32)), none, none]) (st' := []) rfl ?_
  refine Rn.weak (ll_s (ll_s (ll_s (ll_n (ll_n ll_e))))) (rX12_test_l9 hd (fun h_6547 e => ?_) hq N h_6545 (1 : Int32) (1 : Int32) e)
  try dsimp only at e
  exact Rn.weak (ll_n (ll_n (ll_n (ll_n (ll_n ll_e))))) (rX12_test_b202 hd hq e)
set_option maxRecDepth 10000 in
theorem hX12_amount : iv_Tb 228 tX12_amount := iv_tb_of (m := mX12_amount) rfl
set_option maxRecDepth 10000 in
theorem gX12_amount : PG.2 228 = some mX12_amount := iv_pi_of (t := tX12_amount) rfl (by decide)
def fX12_amount_b55 (N : Nat) (h : iv_H) (x4 : Int32)  : Option (Int32 × iv_H) := (some (x4, h))
set_option maxRecDepth 10000 in
set_option maxHeartbeats 4000000 in
theorem rX12_amount_b55 {d N : Nat} (hd : 3 ≤ d) {h : iv_H} {x4 : Int32}  {r : Int32 × iv_H} {Q : Option Value → iv_H → Prop} (hq : Q (some (.int r.1)) r.2) (e : fX12_amount_b55 N h x4  = some r) : Rn d 228 (some .int) 55 [none, none, none, none, some (.int x4)] [] h Q := by
  have hT := hX12_amount
  unfold fX12_amount_b55 at e
  refine Rn.n hT 1 (pc' := 57) (L' := [none, none, none, none, some (.int x4)]) (st' := [.int x4]) rfl ?_
  obtain rfl := Option.some.inj e
  exact Rn.ret hT rfl rfl rfl hq
def fX12_amount_b27 (N : Nat) (h : iv_H) (q0 : Nat) (x1 : Int32) (x2 : Int32) (x3 : Int32) (s0 : Int32) : Option (Int32 × iv_H) := ((gI h 12 30 q0).bind fun v_6638 => (if v_6638 = 0 then ((fX12_in N h ((s0).toInt64) ((x1).toInt64) ((x2).toInt64)).bind fun v_6642 => (if v_6642 = 0 then ((cko h q0 12).bind fun _ => (fX12_fails N h q0 (1 : Int32) x3).bind fun h_6647 => (fX12_amount_b55 N h_6647 s0)) else (fX12_amount_b55 N h s0))) else (fX12_amount_b55 N h s0)))
set_option maxRecDepth 10000 in
set_option maxHeartbeats 4000000 in
theorem rX12_amount_b27 {d N : Nat} (hd : 3 ≤ d) {h : iv_H} {q0 : Nat} {x1 : Int32} {x2 : Int32} {x3 : Int32} {s0 : Int32} {r : Int32 × iv_H} {Q : Option Value → iv_H → Prop} (hq : Q (some (.int r.1)) r.2) (e : fX12_amount_b27 N h q0 x1 x2 x3 s0 = some r) : Rn d 228 (some .int) 27 [some (.ref q0), some (.int x1), some (.int x2), some (.int x3), none] [.int s0] h Q := by
  have hT := hX12_amount
  unfold fX12_amount_b27 at e
  refine Rn.n hT 2 (pc' := 30) (L' := [some (.ref q0), some (.int x1), some (.int x2), some (.int x3), some (.int s0)]) (st' := [.ref q0]) rfl ?_
  obtain ⟨v_6638, e_6639, e⟩ := Option.bind_eq_some_iff.mp e
  refine Rn.hp hT rfl rfl (gI_hp e_6639) ?_
  by_cases c_6640 : v_6638 = 0
  · rw [if_pos c_6640] at e
    refine Rn.bf hT rfl rfl rfl (decide_eq_false (fun z => z c_6640)) ?_
    refine Rn.n hT 6 (pc' := 43) (L' := [some (.ref q0), some (.int x1), some (.int x2), some (.int x3), some (.int s0)]) (st' := [.long ((x2).toInt64), .long ((x1).toInt64), .long ((s0).toInt64)]) rfl ?_
    obtain ⟨v_6642, e_6641, e⟩ := Option.bind_eq_some_iff.mp e
    refine Rn.call hT rfl rfl rfl (Nat.le_of_ble_eq_true rfl) rfl (rX12_in (by omega) e_6641 ?_)
    show Rn d _ _ 46 [some (.ref q0), some (.int x1), some (.int x2), some (.int x3), some (.int s0)] [.int v_6642] h Q
    by_cases c_6643 : v_6642 = 0
    · rw [if_pos c_6643] at e
      refine Rn.bf hT rfl rfl rfl (decide_eq_false (fun z => z c_6643)) ?_
      refine Rn.n hT 3 (pc' := 52) (L' := [some (.ref q0), some (.int x1), some (.int x2), some (.int x3), some (.int s0)]) (st' := [.int x3, .int (1 : Int32), .ref q0]) rfl ?_
      obtain ⟨_, e_6645, e⟩ := Option.bind_eq_some_iff.mp e
      obtain ⟨h_6647, e_6644, e⟩ := Option.bind_eq_some_iff.mp e
      refine Rn.call hT rfl rfl rfl (Nat.le_of_ble_eq_true rfl) (rcv_v gX12_fails (by omega) e_6645) (rX12_fails (by omega) e_6644 ?_)
      show Rn d _ _ 55 [some (.ref q0), some (.int x1), some (.int x2), some (.int x3), some (.int s0)] [] h_6647 Q
      exact Rn.weak (ll_n (ll_n (ll_n (ll_n (ll_s ll_e))))) (rX12_amount_b55 hd hq e)
    · rw [if_neg c_6643] at e
      refine Rn.bt hT rfl rfl rfl (decide_eq_true c_6643) ?_
      exact Rn.weak (ll_n (ll_n (ll_n (ll_n (ll_s ll_e))))) (rX12_amount_b55 hd hq e)
  · rw [if_neg c_6640] at e
    refine Rn.bt hT rfl rfl rfl (decide_eq_true c_6640) ?_
    exact Rn.weak (ll_n (ll_n (ll_n (ll_n (ll_s ll_e))))) (rX12_amount_b55 hd hq e)
def fX12_amount (N : Nat) (h : iv_H) (q0 : Nat) (x1 : Int32) (x2 : Int32) : Option (Int32 × iv_H) := ((cko h q0 12).bind fun _ => (fX12_blanks N h q0).bind fun h_6627 => ((gI h_6627 12 29 q0).bind fun v_6628 => ((gI h_6627 12 30 q0).bind fun v_6630 => (if v_6630 = 0 then ((cko h_6627 q0 12).bind fun _ => (fX12_digits N h_6627 q0 (99999 : Int32)).bind fun p_6637 => (fun (v_6635 : Int32) (h_6636 : iv_H) => (fX12_amount_b27 N h_6636 q0 x1 x2 v_6628 v_6635)) p_6637.1 p_6637.2) else (fX12_amount_b27 N h_6627 q0 x1 x2 v_6628 (0 : Int32))))))
set_option maxRecDepth 10000 in
set_option maxHeartbeats 4000000 in
theorem rX12_amount {d N : Nat} (hd : 4 ≤ d) {h : iv_H} {q0 : Nat} {x1 : Int32} {x2 : Int32} {r : Int32 × iv_H} {Q : Option Value → iv_H → Prop} (e : fX12_amount N h q0 x1 x2 = some r) (hq : Q (some (.int r.1)) r.2) : Cl d 228 [.ref q0, .int x1, .int x2] h Q := by
  obtain ⟨d, rfl⟩ : ∃ k, d = k + 1 := ⟨d - 1, by omega⟩
  have hd : 3 ≤ d := by omega
  have hT := hX12_amount
  unfold fX12_amount at e
  refine Cl.into (by decide) gX12_amount rfl ?_
  show Rn d 228 (some .int) 0 [some (.ref q0), some (.int x1), some (.int x2), none, none] [] h Q
  refine Rn.n hT 1 (pc' := 1) (L' := [some (.ref q0), some (.int x1), some (.int x2), none, none]) (st' := [.ref q0]) rfl ?_
  obtain ⟨_, e_6625, e⟩ := Option.bind_eq_some_iff.mp e
  obtain ⟨h_6627, e_6624, e⟩ := Option.bind_eq_some_iff.mp e
  refine Rn.call hT rfl rfl rfl (Nat.le_of_ble_eq_true rfl) (rcv_v gX12_blanks (by omega) e_6625) (rX12_blanks (by omega) e_6624 ?_)
  show Rn d _ _ 4 [some (.ref q0), some (.int x1), some (.int x2), none, none] [] h_6627 Q
  refine Rn.n hT 1 (pc' := 5) (L' := [some (.ref q0), some (.int x1), some (.int x2), none, none]) (st' := [.ref q0]) rfl ?_
  obtain ⟨v_6628, e_6629, e⟩ := Option.bind_eq_some_iff.mp e
  refine Rn.hp hT rfl rfl (gI_hp e_6629) ?_
  refine Rn.n hT 2 (pc' := 10) (L' := [some (.ref q0), some (.int x1), some (.int x2), some (.int v_6628), none]) (st' := [.ref q0]) rfl ?_
  obtain ⟨v_6630, e_6631, e⟩ := Option.bind_eq_some_iff.mp e
  refine Rn.hp hT rfl rfl (gI_hp e_6631) ?_
  by_cases c_6632 : v_6630 = 0
  · rw [if_pos c_6632] at e
    refine Rn.bf hT rfl rfl rfl (decide_eq_false (fun z => z c_6632)) ?_
    refine Rn.n hT 2 (pc' := 20) (L' := [some (.ref q0), some (.int x1), some (.int x2), some (.int v_6628), none]) (st' := [.int (99999 : Int32), .ref q0]) rfl ?_
    obtain ⟨_, e_6634, e⟩ := Option.bind_eq_some_iff.mp e
    obtain ⟨⟨v_6635, h_6636⟩, e_6633, e⟩ := Option.bind_eq_some_iff.mp e
    try dsimp only at e
    try dsimp only at e
    refine Rn.call hT rfl rfl rfl (Nat.le_of_ble_eq_true rfl) (rcv_v gX12_digits (by omega) e_6634) (rX12_digits (by omega) e_6633 ?_)
    show Rn d _ _ 23 [some (.ref q0), some (.int x1), some (.int x2), some (.int v_6628), none] [.int v_6635] h_6636 Q
    refine Rn.n hT 1 (pc' := 27) (L' := [some (.ref q0), some (.int x1), some (.int x2), some (.int v_6628), none]) (st' := [.int v_6635]) rfl ?_
    exact Rn.weak (ll_s (ll_s (ll_s (ll_s (ll_n ll_e))))) (rX12_amount_b27 hd hq e)
  · rw [if_neg c_6632] at e
    refine Rn.bt hT rfl rfl rfl (decide_eq_true c_6632) ?_
    refine Rn.n hT 1 (pc' := 27) (L' := [some (.ref q0), some (.int x1), some (.int x2), some (.int v_6628), none]) (st' := [.int (0 : Int32)]) rfl ?_
    exact Rn.weak (ll_s (ll_s (ll_s (ll_s (ll_n ll_e))))) (rX12_amount_b27 hd hq e)
set_option maxRecDepth 10000 in
theorem hX12_palaceWord : iv_Tb 229 tX12_palaceWord := iv_tb_of (m := mX12_palaceWord) rfl
set_option maxRecDepth 10000 in
theorem gX12_palaceWord : PG.2 229 = some mX12_palaceWord := iv_pi_of (t := tX12_palaceWord) rfl (by decide)
def fX12_palaceWord (N : Nat) (h : iv_H) (x0 : Int32) : Option (Nat) := (if x0 = (0 : Int32) then (some 1000031) else (if x0 = (1 : Int32) then (some 1000016) else (if x0 = (2 : Int32) then (some 1000032) else (if x0 = (3 : Int32) then (some 1000033) else (if x0 = (4 : Int32) then (some 1000034) else (some 1000035))))))
set_option maxRecDepth 10000 in
set_option maxHeartbeats 4000000 in
theorem rX12_palaceWord {d N : Nat} (hd : 1 ≤ d) {h : iv_H} {x0 : Int32} {r : Nat} {Q : Option Value → iv_H → Prop} (e : fX12_palaceWord N h x0 = some r) (hq : Q (some (.ref r)) h) : Cl d 229 [.int x0] h Q := by
  obtain ⟨d, rfl⟩ : ∃ k, d = k + 1 := ⟨d - 1, by omega⟩
  have hd : 0 ≤ d := by omega
  have hT := hX12_palaceWord
  unfold fX12_palaceWord at e
  refine Cl.into (by decide) gX12_palaceWord rfl ?_
  show Rn d 229 (some (.object "java/lang/String")) 0 [some (.int x0)] [] h Q
  refine Rn.n hT 1 (pc' := 1) (L' := [some (.int x0)]) (st' := [.int x0]) rfl ?_
  by_cases c_6648 : x0 = (0 : Int32)
  · rw [if_pos c_6648] at e
    refine Rn.sw2 hT rfl rfl rfl (if_pos c_6648) ?_
    refine Rn.n hT 1 (pc' := 39) (L' := [some (.int x0)]) (st' := [.ref 1000031]) rfl ?_
    obtain rfl := Option.some.inj e
    exact Rn.ret hT rfl rfl rfl hq
  · rw [if_neg c_6648] at e
    by_cases c_6649 : x0 = (1 : Int32)
    · rw [if_pos c_6649] at e
      refine Rn.sw2 hT rfl rfl rfl ((if_neg c_6648).trans (if_pos c_6649)) ?_
      refine Rn.n hT 1 (pc' := 42) (L' := [some (.int x0)]) (st' := [.ref 1000016]) rfl ?_
      obtain rfl := Option.some.inj e
      exact Rn.ret hT rfl rfl rfl hq
    · rw [if_neg c_6649] at e
      by_cases c_6650 : x0 = (2 : Int32)
      · rw [if_pos c_6650] at e
        refine Rn.sw2 hT rfl rfl rfl ((if_neg c_6648).trans ((if_neg c_6649).trans (if_pos c_6650))) ?_
        refine Rn.n hT 1 (pc' := 46) (L' := [some (.int x0)]) (st' := [.ref 1000032]) rfl ?_
        obtain rfl := Option.some.inj e
        exact Rn.ret hT rfl rfl rfl hq
      · rw [if_neg c_6650] at e
        by_cases c_6651 : x0 = (3 : Int32)
        · rw [if_pos c_6651] at e
          refine Rn.sw2 hT rfl rfl rfl ((if_neg c_6648).trans ((if_neg c_6649).trans ((if_neg c_6650).trans (if_pos c_6651)))) ?_
          refine Rn.n hT 1 (pc' := 50) (L' := [some (.int x0)]) (st' := [.ref 1000033]) rfl ?_
          obtain rfl := Option.some.inj e
          exact Rn.ret hT rfl rfl rfl hq
        · rw [if_neg c_6651] at e
          by_cases c_6652 : x0 = (4 : Int32)
          · rw [if_pos c_6652] at e
            refine Rn.sw2 hT rfl rfl rfl ((if_neg c_6648).trans ((if_neg c_6649).trans ((if_neg c_6650).trans ((if_neg c_6651).trans (if_pos c_6652))))) ?_
            refine Rn.n hT 1 (pc' := 54) (L' := [some (.int x0)]) (st' := [.ref 1000034]) rfl ?_
            obtain rfl := Option.some.inj e
            exact Rn.ret hT rfl rfl rfl hq
          · rw [if_neg c_6652] at e
            refine Rn.sw2 hT rfl rfl rfl ((if_neg c_6648).trans ((if_neg c_6649).trans ((if_neg c_6650).trans ((if_neg c_6651).trans ((if_neg c_6652).trans rfl))))) ?_
            refine Rn.n hT 1 (pc' := 58) (L' := [some (.int x0)]) (st' := [.ref 1000035]) rfl ?_
            obtain rfl := Option.some.inj e
            exact Rn.ret hT rfl rfl rfl hq
set_option maxRecDepth 10000 in
theorem hX12_signAt : iv_Tb 230 tX12_signAt := iv_tb_of (m := mX12_signAt) rfl
set_option maxRecDepth 10000 in
theorem gX12_signAt : PG.2 230 = some mX12_signAt := iv_pi_of (t := tX12_signAt) rfl (by decide)
def fX12_signAt (N : Nat) (h : iv_H) (q0 : Nat) : Option (Int32) := ((gI h 12 29 q0).bind fun v_6653 => ((gI h 12 28 q0).bind fun v_6655 => (if v_6653 < v_6655 then ((gR h 12 39 q0).bind fun v_6658 => ((gI h 12 29 q0).bind fun v_6660 => ((aB h v_6658 v_6660).bind fun v_6662 => (if v_6662 = (46 : Int32) then (some (0 : Int32)) else (if v_6662 = (49 : Int32) then (some (3 : Int32)) else (if v_6662 = (50 : Int32) then (some (4 : Int32)) else (if v_6662 = (51 : Int32) then (some (5 : Int32)) else (if v_6662 = (52 : Int32) then (some (6 : Int32)) else (if v_6662 = (100 : Int32) then (some (1 : Int32)) else (if v_6662 = (119 : Int32) then (some (2 : Int32)) else (some (-1 : Int32)))))))))))) else (some (-1 : Int32)))))
set_option maxRecDepth 10000 in
set_option maxHeartbeats 4000000 in
theorem rX12_signAt {d N : Nat} (hd : 1 ≤ d) {h : iv_H} {q0 : Nat} {r : Int32} {Q : Option Value → iv_H → Prop} (e : fX12_signAt N h q0 = some r) (hq : Q (some (.int r)) h) : Cl d 230 [.ref q0] h Q := by
  obtain ⟨d, rfl⟩ : ∃ k, d = k + 1 := ⟨d - 1, by omega⟩
  have hd : 0 ≤ d := by omega
  have hT := hX12_signAt
  unfold fX12_signAt at e
  refine Cl.into (by decide) gX12_signAt rfl ?_
  show Rn d 230 (some .int) 0 [some (.ref q0)] [] h Q
  refine Rn.n hT 1 (pc' := 1) (L' := [some (.ref q0)]) (st' := [.ref q0]) rfl ?_
  obtain ⟨v_6653, e_6654, e⟩ := Option.bind_eq_some_iff.mp e
  refine Rn.hp hT rfl rfl (gI_hp e_6654) ?_
  refine Rn.n hT 1 (pc' := 5) (L' := [some (.ref q0)]) (st' := [.ref q0, .int v_6653]) rfl ?_
  obtain ⟨v_6655, e_6656, e⟩ := Option.bind_eq_some_iff.mp e
  refine Rn.hp hT rfl rfl (gI_hp e_6656) ?_
  by_cases c_6657 : v_6653 < v_6655
  · rw [if_pos c_6657] at e
    refine Rn.bt hT rfl rfl rfl (decide_eq_true c_6657) ?_
    refine Rn.n hT 1 (pc' := 14) (L' := [some (.ref q0)]) (st' := [.ref q0]) rfl ?_
    obtain ⟨v_6658, e_6659, e⟩ := Option.bind_eq_some_iff.mp e
    refine Rn.hp hT rfl rfl (gR_hp e_6659) ?_
    refine Rn.n hT 1 (pc' := 18) (L' := [some (.ref q0)]) (st' := [.ref q0, .ref v_6658]) rfl ?_
    obtain ⟨v_6660, e_6661, e⟩ := Option.bind_eq_some_iff.mp e
    refine Rn.hp hT rfl rfl (gI_hp e_6661) ?_
    obtain ⟨v_6662, e_6663, e⟩ := Option.bind_eq_some_iff.mp e
    refine Rn.hp hT rfl rfl (aB_hp e_6663) ?_
    by_cases c_6664 : v_6662 = (46 : Int32)
    · rw [if_pos c_6664] at e
      refine Rn.sw2 hT rfl rfl rfl (if_pos c_6664) ?_
      refine Rn.n hT 1 (pc' := 89) (L' := [some (.ref q0)]) (st' := [.int (0 : Int32)]) rfl ?_
      obtain rfl := Option.some.inj e
      exact Rn.ret hT rfl rfl rfl hq
    · rw [if_neg c_6664] at e
      by_cases c_6665 : v_6662 = (49 : Int32)
      · rw [if_pos c_6665] at e
        refine Rn.sw2 hT rfl rfl rfl ((if_neg c_6664).trans (if_pos c_6665)) ?_
        refine Rn.n hT 1 (pc' := 95) (L' := [some (.ref q0)]) (st' := [.int (3 : Int32)]) rfl ?_
        obtain rfl := Option.some.inj e
        exact Rn.ret hT rfl rfl rfl hq
      · rw [if_neg c_6665] at e
        by_cases c_6666 : v_6662 = (50 : Int32)
        · rw [if_pos c_6666] at e
          refine Rn.sw2 hT rfl rfl rfl ((if_neg c_6664).trans ((if_neg c_6665).trans (if_pos c_6666))) ?_
          refine Rn.n hT 1 (pc' := 97) (L' := [some (.ref q0)]) (st' := [.int (4 : Int32)]) rfl ?_
          obtain rfl := Option.some.inj e
          exact Rn.ret hT rfl rfl rfl hq
        · rw [if_neg c_6666] at e
          by_cases c_6667 : v_6662 = (51 : Int32)
          · rw [if_pos c_6667] at e
            refine Rn.sw2 hT rfl rfl rfl ((if_neg c_6664).trans ((if_neg c_6665).trans ((if_neg c_6666).trans (if_pos c_6667)))) ?_
            refine Rn.n hT 1 (pc' := 99) (L' := [some (.ref q0)]) (st' := [.int (5 : Int32)]) rfl ?_
            obtain rfl := Option.some.inj e
            exact Rn.ret hT rfl rfl rfl hq
          · rw [if_neg c_6667] at e
            by_cases c_6668 : v_6662 = (52 : Int32)
            · rw [if_pos c_6668] at e
              refine Rn.sw2 hT rfl rfl rfl ((if_neg c_6664).trans ((if_neg c_6665).trans ((if_neg c_6666).trans ((if_neg c_6667).trans (if_pos c_6668))))) ?_
              refine Rn.n hT 1 (pc' := 102) (L' := [some (.ref q0)]) (st' := [.int (6 : Int32)]) rfl ?_
              obtain rfl := Option.some.inj e
              exact Rn.ret hT rfl rfl rfl hq
            · rw [if_neg c_6668] at e
              by_cases c_6669 : v_6662 = (100 : Int32)
              · rw [if_pos c_6669] at e
                refine Rn.sw2 hT rfl rfl rfl ((if_neg c_6664).trans ((if_neg c_6665).trans ((if_neg c_6666).trans ((if_neg c_6667).trans ((if_neg c_6668).trans (if_pos c_6669)))))) ?_
                refine Rn.n hT 1 (pc' := 91) (L' := [some (.ref q0)]) (st' := [.int (1 : Int32)]) rfl ?_
                obtain rfl := Option.some.inj e
                exact Rn.ret hT rfl rfl rfl hq
              · rw [if_neg c_6669] at e
                by_cases c_6670 : v_6662 = (119 : Int32)
                · rw [if_pos c_6670] at e
                  refine Rn.sw2 hT rfl rfl rfl ((if_neg c_6664).trans ((if_neg c_6665).trans ((if_neg c_6666).trans ((if_neg c_6667).trans ((if_neg c_6668).trans ((if_neg c_6669).trans (if_pos c_6670))))))) ?_
                  refine Rn.n hT 1 (pc' := 93) (L' := [some (.ref q0)]) (st' := [.int (2 : Int32)]) rfl ?_
                  obtain rfl := Option.some.inj e
                  exact Rn.ret hT rfl rfl rfl hq
                · rw [if_neg c_6670] at e
                  refine Rn.sw2 hT rfl rfl rfl ((if_neg c_6664).trans ((if_neg c_6665).trans ((if_neg c_6666).trans ((if_neg c_6667).trans ((if_neg c_6668).trans ((if_neg c_6669).trans ((if_neg c_6670).trans rfl))))))) ?_
                  refine Rn.n hT 1 (pc' := 104) (L' := [some (.ref q0)]) (st' := [.int (-1 : Int32)]) rfl ?_
                  obtain rfl := Option.some.inj e
                  exact Rn.ret hT rfl rfl rfl hq
  · rw [if_neg c_6657] at e
    refine Rn.bf hT rfl rfl rfl (decide_eq_false c_6657) ?_
    refine Rn.n hT 1 (pc' := 12) (L' := [some (.ref q0)]) (st' := [.int (-1 : Int32)]) rfl ?_
    obtain rfl := Option.some.inj e
    exact Rn.ret hT rfl rfl rfl hq
set_option maxRecDepth 10000 in
theorem hX12_readsRoom : iv_Tb 231 tX12_readsRoom := iv_tb_of (m := mX12_readsRoom) rfl
set_option maxRecDepth 10000 in
theorem gX12_readsRoom : PG.2 231 = some mX12_readsRoom := iv_pi_of (t := tX12_readsRoom) rfl (by decide)
def fX12_readsRoom_b68 (N : Nat) (h : iv_H) (q0 : Nat) (x1 : Int32) (x2 : Int32)  (kb : iv_H → Int32 → Option (iv_H)) (kx : iv_H → Option (iv_H)) : Option (iv_H) := (kb h (x2 + (1 : Int32)))
set_option maxRecDepth 10000 in
set_option maxHeartbeats 4000000 in
theorem rX12_readsRoom_b68 {d N : Nat} (hd : 4 ≤ d) {h : iv_H} {q0 : Nat} {x1 : Int32} {x2 : Int32}  {kb : iv_H → Int32 → Option (iv_H)} {kx : iv_H → Option (iv_H)} {r : iv_H} {Q : Option Value → iv_H → Prop} (hb : ∀ (h : iv_H) (w2 : Int32), kb h w2 = some r → Rn d 231 none 13 [some (.ref q0), some (.int x1), some (.int w2), none, none] [] h Q) (hk : ∀ (h : iv_H), kx h = some r → Rn d 231 none 74 [some (.ref q0), some (.int x1), none, none, none] [] h Q) (hq : Q none r) (e : fX12_readsRoom_b68 N h q0 x1 x2  kb kx = some r) : Rn d 231 none 68 [some (.ref q0), some (.int x1), some (.int x2), none, none] [] h Q := by
  have hT := hX12_readsRoom
  unfold fX12_readsRoom_b68 at e
  refine Rn.n hT 2 (pc' := 13) (L' := [some (.ref q0), some (.int x1), some (.int (x2 + (1 : Int32))), none, none]) (st' := []) rfl ?_
  exact Rn.weak (ll_s (ll_s (ll_s (ll_n (ll_n ll_e))))) (hb h (x2 + (1 : Int32)) e)
def fX12_readsRoom_l13 (N : Nat) (q0 : Nat) (x1 : Int32) (kx : iv_H → Option (iv_H)) : Nat → iv_H → Int32 → Option (iv_H)
  | 0, _, _ => none
  | n + 1, h, x2 => (if (4 : Int32) ≤ x2 then (kx h) else ((gI h 12 30 q0).bind fun v_6681 => (if v_6681 = 0 then ((cko h q0 12).bind fun _ => (fX12_signAt N h q0).bind fun v_6686 => (if v_6686 = (-1 : Int32) then ((gI h 12 29 q0).bind fun v_6696 => ((cko h q0 12).bind fun _ => (fX12_fails N h q0 (0 : Int32) v_6696).bind fun h_6701 => (fX12_readsRoom_b68 N h_6701 q0 x1 x2 (fX12_readsRoom_l13 N q0 x1 kx n) kx))) else ((gR h 12 20 q0).bind fun v_6688 => ((wI h v_6688 (((4 : Int32) * x1) + x2) v_6686).bind fun h_6690 => ((gI h_6690 12 29 q0).bind fun v_6692 => ((pV h_6690 12 29 q0 (.int (v_6692 + (1 : Int32)))).bind fun h_6694 => (fX12_readsRoom_b68 N h_6694 q0 x1 x2 (fX12_readsRoom_l13 N q0 x1 kx n) kx))))))) else (kx h))))
set_option maxRecDepth 10000 in
set_option maxHeartbeats 4000000 in
theorem rX12_readsRoom_l13 {d N : Nat} (hd : 4 ≤ d) {q0 : Nat} {x1 : Int32} {kx : iv_H → Option (iv_H)} {r : iv_H} {Q : Option Value → iv_H → Prop} (hk : ∀ (h : iv_H), kx h = some r → Rn d 231 none 74 [some (.ref q0), some (.int x1), none, none, none] [] h Q) (hq : Q none r) : ∀ (n : Nat) (h : iv_H) (x2 : Int32), fX12_readsRoom_l13 N q0 x1 kx n h x2 = some r → Rn d 231 none 13 [some (.ref q0), some (.int x1), some (.int x2), none, none] [] h Q := by
  have hT := hX12_readsRoom
  intro n
  induction n with
  | zero =>
    intro h x2 e
    rw [fX12_readsRoom_l13] at e
    cases e
  | succ n ih =>
    intro h x2 e
    rw [fX12_readsRoom_l13] at e
    refine Rn.n hT 2 (pc' := 15) (L' := [some (.ref q0), some (.int x1), some (.int x2), none, none]) (st' := [.int (4 : Int32), .int x2]) rfl ?_
    by_cases c_6680 : (4 : Int32) ≤ x2
    · rw [if_pos c_6680] at e
      refine Rn.bt hT rfl rfl rfl (decide_eq_true c_6680) ?_
      exact Rn.weak (ll_s (ll_s (ll_n (ll_n (ll_n ll_e))))) (hk h e)
    · rw [if_neg c_6680] at e
      refine Rn.bf hT rfl rfl rfl (decide_eq_false c_6680) ?_
      refine Rn.n hT 1 (pc' := 19) (L' := [some (.ref q0), some (.int x1), some (.int x2), none, none]) (st' := [.ref q0]) rfl ?_
      obtain ⟨v_6681, e_6682, e⟩ := Option.bind_eq_some_iff.mp e
      refine Rn.hp hT rfl rfl (gI_hp e_6682) ?_
      by_cases c_6683 : v_6681 = 0
      · rw [if_pos c_6683] at e
        refine Rn.bf hT rfl rfl rfl (decide_eq_false (fun z => z c_6683)) ?_
        refine Rn.n hT 1 (pc' := 26) (L' := [some (.ref q0), some (.int x1), some (.int x2), none, none]) (st' := [.ref q0]) rfl ?_
        obtain ⟨_, e_6685, e⟩ := Option.bind_eq_some_iff.mp e
        obtain ⟨v_6686, e_6684, e⟩ := Option.bind_eq_some_iff.mp e
        refine Rn.call hT rfl rfl rfl (Nat.le_of_ble_eq_true rfl) (rcv_v gX12_signAt (by omega) e_6685) (rX12_signAt (by omega) e_6684 ?_)
        show Rn d _ _ 29 [some (.ref q0), some (.int x1), some (.int x2), none, none] [.int v_6686] h Q
        refine Rn.n hT 3 (pc' := 32) (L' := [some (.ref q0), some (.int x1), some (.int x2), some (.int v_6686), none]) (st' := [.int (-1 : Int32), .int v_6686]) rfl ?_
        by_cases c_6687 : v_6686 = (-1 : Int32)
        · rw [if_pos c_6687] at e
          refine Rn.bf hT rfl rfl rfl (decide_eq_false (fun z => z c_6687)) ?_
          refine Rn.n hT 3 (pc' := 38) (L' := [some (.ref q0), some (.int x1), some (.int x2), some (.int v_6686), none]) (st' := [.ref q0, .int (0 : Int32), .ref q0]) rfl ?_
          obtain ⟨v_6696, e_6697, e⟩ := Option.bind_eq_some_iff.mp e
          refine Rn.hp hT rfl rfl (gI_hp e_6697) ?_
          obtain ⟨_, e_6699, e⟩ := Option.bind_eq_some_iff.mp e
          obtain ⟨h_6701, e_6698, e⟩ := Option.bind_eq_some_iff.mp e
          refine Rn.call hT rfl rfl rfl (Nat.le_of_ble_eq_true rfl) (rcv_v gX12_fails (by omega) e_6699) (rX12_fails (by omega) e_6698 ?_)
          show Rn d _ _ 44 [some (.ref q0), some (.int x1), some (.int x2), some (.int v_6686), none] [] h_6701 Q
          refine Rn.n hT 1 (pc' := 68) (L' := [some (.ref q0), some (.int x1), some (.int x2), some (.int v_6686), none]) (st' := []) rfl ?_
          exact Rn.weak (ll_s (ll_s (ll_s (ll_n (ll_n ll_e))))) (rX12_readsRoom_b68 hd ih hk hq e)
        · rw [if_neg c_6687] at e
          refine Rn.bt hT rfl rfl rfl (decide_eq_true c_6687) ?_
          refine Rn.n hT 1 (pc' := 48) (L' := [some (.ref q0), some (.int x1), some (.int x2), some (.int v_6686), none]) (st' := [.ref q0]) rfl ?_
          obtain ⟨v_6688, e_6689, e⟩ := Option.bind_eq_some_iff.mp e
          refine Rn.hp hT rfl rfl (gR_hp e_6689) ?_
          refine Rn.n hT 6 (pc' := 57) (L' := [some (.ref q0), some (.int x1), some (.int x2), some (.int v_6686), none]) (st' := [.int v_6686, .int (((4 : Int32) * x1) + x2), .ref v_6688]) rfl ?_
          obtain ⟨h_6690, e_6691, e⟩ := Option.bind_eq_some_iff.mp e
          refine Rn.hp hT rfl rfl (wI_hp e_6691) ?_
          refine Rn.n hT 2 (pc' := 60) (L' := [some (.ref q0), some (.int x1), some (.int x2), some (.int v_6686), none]) (st' := [.ref q0, .ref q0]) rfl ?_
          obtain ⟨v_6692, e_6693, e⟩ := Option.bind_eq_some_iff.mp e
          refine Rn.hp hT rfl rfl (gI_hp e_6693) ?_
          refine Rn.n hT 2 (pc' := 65) (L' := [some (.ref q0), some (.int x1), some (.int x2), some (.int v_6686), none]) (st' := [.int (v_6692 + (1 : Int32)), .ref q0]) rfl ?_
          obtain ⟨h_6694, e_6695, e⟩ := Option.bind_eq_some_iff.mp e
          refine Rn.hp hT rfl rfl (pV_hp rfl e_6695) ?_
          exact Rn.weak (ll_s (ll_s (ll_s (ll_n (ll_n ll_e))))) (rX12_readsRoom_b68 hd ih hk hq e)
      · rw [if_neg c_6683] at e
        refine Rn.bt hT rfl rfl rfl (decide_eq_true c_6683) ?_
        exact Rn.weak (ll_s (ll_s (ll_n (ll_n (ll_n ll_e))))) (hk h e)
def fX12_readsRoom_b195 (N : Nat) (h : iv_H)   : Option (iv_H) := some h
set_option maxRecDepth 10000 in
set_option maxHeartbeats 4000000 in
theorem rX12_readsRoom_b195 {d N : Nat} (hd : 4 ≤ d) {h : iv_H}   {r : iv_H} {Q : Option Value → iv_H → Prop} (hq : Q none r) (e : fX12_readsRoom_b195 N h   = some r) : Rn d 231 none 195 [none, none, none, none, none] [] h Q := by
  have hT := hX12_readsRoom
  unfold fX12_readsRoom_b195 at e
  obtain rfl := Option.some.inj e
  exact Rn.ret hT rfl rfl rfl hq
def fX12_readsRoom_b147 (N : Nat) (h : iv_H) (q0 : Nat) (x1 : Int32) (x3 : Int32) (x4 : Int32)  : Option (iv_H) := ((gI h 12 30 q0).bind fun v_6740 => (if v_6740 = 0 then ((gR h 12 25 q0).bind fun v_6743 => ((wI h v_6743 (((4 : Int32) * x4) + x3) x1).bind fun h_6745 => ((gR h_6745 12 21 q0).bind fun v_6747 => ((wI h_6745 v_6747 x1 (((4 : Int32) * x4) + x3)).bind fun h_6749 => ((gR h_6749 12 22 q0).bind fun v_6751 => ((wI h_6749 v_6751 x1 (0 : Int32)).bind fun h_6753 => ((gR h_6753 12 19 q0).bind fun v_6755 => ((aI h_6753 v_6755 (2 : Int32)).bind fun v_6757 => ((wI h_6753 v_6755 (2 : Int32) (v_6757 + (1 : Int32))).bind fun h_6759 => (fX12_readsRoom_b195 N h_6759)))))))))) else (fX12_readsRoom_b195 N h)))
set_option maxRecDepth 10000 in
set_option maxHeartbeats 4000000 in
theorem rX12_readsRoom_b147 {d N : Nat} (hd : 4 ≤ d) {h : iv_H} {q0 : Nat} {x1 : Int32} {x3 : Int32} {x4 : Int32}  {r : iv_H} {Q : Option Value → iv_H → Prop} (hq : Q none r) (e : fX12_readsRoom_b147 N h q0 x1 x3 x4  = some r) : Rn d 231 none 147 [some (.ref q0), some (.int x1), none, some (.int x3), some (.int x4)] [] h Q := by
  have hT := hX12_readsRoom
  unfold fX12_readsRoom_b147 at e
  refine Rn.n hT 1 (pc' := 148) (L' := [some (.ref q0), some (.int x1), none, some (.int x3), some (.int x4)]) (st' := [.ref q0]) rfl ?_
  obtain ⟨v_6740, e_6741, e⟩ := Option.bind_eq_some_iff.mp e
  refine Rn.hp hT rfl rfl (gI_hp e_6741) ?_
  by_cases c_6742 : v_6740 = 0
  · rw [if_pos c_6742] at e
    refine Rn.bf hT rfl rfl rfl (decide_eq_false (fun z => z c_6742)) ?_
    refine Rn.n hT 1 (pc' := 155) (L' := [some (.ref q0), some (.int x1), none, some (.int x3), some (.int x4)]) (st' := [.ref q0]) rfl ?_
    obtain ⟨v_6743, e_6744, e⟩ := Option.bind_eq_some_iff.mp e
    refine Rn.hp hT rfl rfl (gR_hp e_6744) ?_
    refine Rn.n hT 6 (pc' := 165) (L' := [some (.ref q0), some (.int x1), none, some (.int x3), some (.int x4)]) (st' := [.int x1, .int (((4 : Int32) * x4) + x3), .ref v_6743]) rfl ?_
    obtain ⟨h_6745, e_6746, e⟩ := Option.bind_eq_some_iff.mp e
    refine Rn.hp hT rfl rfl (wI_hp e_6746) ?_
    refine Rn.n hT 1 (pc' := 167) (L' := [some (.ref q0), some (.int x1), none, some (.int x3), some (.int x4)]) (st' := [.ref q0]) rfl ?_
    obtain ⟨v_6747, e_6748, e⟩ := Option.bind_eq_some_iff.mp e
    refine Rn.hp hT rfl rfl (gR_hp e_6748) ?_
    refine Rn.n hT 6 (pc' := 177) (L' := [some (.ref q0), some (.int x1), none, some (.int x3), some (.int x4)]) (st' := [.int (((4 : Int32) * x4) + x3), .int x1, .ref v_6747]) rfl ?_
    obtain ⟨h_6749, e_6750, e⟩ := Option.bind_eq_some_iff.mp e
    refine Rn.hp hT rfl rfl (wI_hp e_6750) ?_
    refine Rn.n hT 1 (pc' := 179) (L' := [some (.ref q0), some (.int x1), none, some (.int x3), some (.int x4)]) (st' := [.ref q0]) rfl ?_
    obtain ⟨v_6751, e_6752, e⟩ := Option.bind_eq_some_iff.mp e
    refine Rn.hp hT rfl rfl (gR_hp e_6752) ?_
    refine Rn.n hT 2 (pc' := 184) (L' := [some (.ref q0), some (.int x1), none, some (.int x3), some (.int x4)]) (st' := [.int (0 : Int32), .int x1, .ref v_6751]) rfl ?_
    obtain ⟨h_6753, e_6754, e⟩ := Option.bind_eq_some_iff.mp e
    refine Rn.hp hT rfl rfl (wI_hp e_6754) ?_
    refine Rn.n hT 1 (pc' := 186) (L' := [some (.ref q0), some (.int x1), none, some (.int x3), some (.int x4)]) (st' := [.ref q0]) rfl ?_
    obtain ⟨v_6755, e_6756, e⟩ := Option.bind_eq_some_iff.mp e
    refine Rn.hp hT rfl rfl (gR_hp e_6756) ?_
    refine Rn.n hT 2 (pc' := 191) (L' := [some (.ref q0), some (.int x1), none, some (.int x3), some (.int x4)]) (st' := [.int (2 : Int32), .ref v_6755, .int (2 : Int32), .ref v_6755]) rfl ?_
    obtain ⟨v_6757, e_6758, e⟩ := Option.bind_eq_some_iff.mp e
    refine Rn.hp hT rfl rfl (aI_hp e_6758) ?_
    refine Rn.n hT 2 (pc' := 194) (L' := [some (.ref q0), some (.int x1), none, some (.int x3), some (.int x4)]) (st' := [.int (v_6757 + (1 : Int32)), .int (2 : Int32), .ref v_6755]) rfl ?_
    obtain ⟨h_6759, e_6760, e⟩ := Option.bind_eq_some_iff.mp e
    refine Rn.hp hT rfl rfl (wI_hp e_6760) ?_
    exact Rn.weak (ll_n (ll_n (ll_n (ll_n (ll_n ll_e))))) (rX12_readsRoom_b195 hd hq e)
  · rw [if_neg c_6742] at e
    refine Rn.bt hT rfl rfl rfl (decide_eq_true c_6742) ?_
    exact Rn.weak (ll_n (ll_n (ll_n (ll_n (ll_n ll_e))))) (rX12_readsRoom_b195 hd hq e)
def fX12_readsRoom_b141 (N : Nat) (h : iv_H) (q0 : Nat) (x1 : Int32) (x2 : Int32) (x3 : Int32) (x4 : Int32)  : Option (iv_H) := ((cko h q0 12).bind fun _ => (fX12_fails N h q0 (5 : Int32) x2).bind fun h_6739 => (fX12_readsRoom_b147 N h_6739 q0 x1 x3 x4))
set_option maxRecDepth 10000 in
set_option maxHeartbeats 4000000 in
theorem rX12_readsRoom_b141 {d N : Nat} (hd : 4 ≤ d) {h : iv_H} {q0 : Nat} {x1 : Int32} {x2 : Int32} {x3 : Int32} {x4 : Int32}  {r : iv_H} {Q : Option Value → iv_H → Prop} (hq : Q none r) (e : fX12_readsRoom_b141 N h q0 x1 x2 x3 x4  = some r) : Rn d 231 none 141 [some (.ref q0), some (.int x1), some (.int x2), some (.int x3), some (.int x4)] [] h Q := by
  have hT := hX12_readsRoom
  unfold fX12_readsRoom_b141 at e
  refine Rn.n hT 3 (pc' := 144) (L' := [some (.ref q0), some (.int x1), some (.int x2), some (.int x3), some (.int x4)]) (st' := [.int x2, .int (5 : Int32), .ref q0]) rfl ?_
  obtain ⟨_, e_6737, e⟩ := Option.bind_eq_some_iff.mp e
  obtain ⟨h_6739, e_6736, e⟩ := Option.bind_eq_some_iff.mp e
  refine Rn.call hT rfl rfl rfl (Nat.le_of_ble_eq_true rfl) (rcv_v gX12_fails (by omega) e_6737) (rX12_fails (by omega) e_6736 ?_)
  show Rn d _ _ 147 [some (.ref q0), some (.int x1), some (.int x2), some (.int x3), some (.int x4)] [] h_6739 Q
  exact Rn.weak (ll_s (ll_s (ll_n (ll_s (ll_s ll_e))))) (rX12_readsRoom_b147 hd hq e)
def fX12_readsRoom_b74 (N : Nat) (h : iv_H) (q0 : Nat) (x1 : Int32)  : Option (iv_H) := ((cko h q0 12).bind fun _ => (fX12_blanks N h q0).bind fun h_6705 => ((gI h_6705 12 29 q0).bind fun v_6706 => ((cko h_6705 q0 12).bind fun _ => (fX12_amount N h_6705 q0 (0 : Int32) (3 : Int32)).bind fun p_6735 => (fun (v_6710 : Int32) (h_6711 : iv_H) => ((cko h_6711 q0 12).bind fun _ => (fX12_amount N h_6711 q0 (0 : Int32) (3 : Int32)).bind fun p_6734 => (fun (v_6714 : Int32) (h_6715 : iv_H) => ((gI h_6715 12 30 q0).bind fun v_6716 => (if v_6716 = 0 then ((gR h_6715 12 19 q0).bind fun v_6719 => ((aI h_6715 v_6719 (0 : Int32)).bind fun v_6721 => (if v_6721 ≤ v_6710 then (fX12_readsRoom_b141 N h_6715 q0 x1 v_6706 v_6710 v_6714) else ((gR h_6715 12 19 q0).bind fun v_6724 => ((aI h_6715 v_6724 (1 : Int32)).bind fun v_6726 => (if v_6726 ≤ v_6714 then (fX12_readsRoom_b141 N h_6715 q0 x1 v_6706 v_6710 v_6714) else ((gR h_6715 12 25 q0).bind fun v_6729 => ((aI h_6715 v_6729 (((4 : Int32) * v_6714) + v_6710)).bind fun v_6731 => (if v_6731 = (-1 : Int32) then (fX12_readsRoom_b147 N h_6715 q0 x1 v_6710 v_6714) else (fX12_readsRoom_b141 N h_6715 q0 x1 v_6706 v_6710 v_6714)))))))))) else (fX12_readsRoom_b147 N h_6715 q0 x1 v_6710 v_6714)))) p_6734.1 p_6734.2)) p_6735.1 p_6735.2)))
set_option maxRecDepth 10000 in
set_option maxHeartbeats 4000000 in
theorem rX12_readsRoom_b74 {d N : Nat} (hd : 4 ≤ d) {h : iv_H} {q0 : Nat} {x1 : Int32}  {r : iv_H} {Q : Option Value → iv_H → Prop} (hq : Q none r) (e : fX12_readsRoom_b74 N h q0 x1  = some r) : Rn d 231 none 74 [some (.ref q0), some (.int x1), none, none, none] [] h Q := by
  have hT := hX12_readsRoom
  unfold fX12_readsRoom_b74 at e
  refine Rn.n hT 1 (pc' := 75) (L' := [some (.ref q0), some (.int x1), none, none, none]) (st' := [.ref q0]) rfl ?_
  obtain ⟨_, e_6703, e⟩ := Option.bind_eq_some_iff.mp e
  obtain ⟨h_6705, e_6702, e⟩ := Option.bind_eq_some_iff.mp e
  refine Rn.call hT rfl rfl rfl (Nat.le_of_ble_eq_true rfl) (rcv_v gX12_blanks (by omega) e_6703) (rX12_blanks (by omega) e_6702 ?_)
  show Rn d _ _ 78 [some (.ref q0), some (.int x1), none, none, none] [] h_6705 Q
  refine Rn.n hT 1 (pc' := 79) (L' := [some (.ref q0), some (.int x1), none, none, none]) (st' := [.ref q0]) rfl ?_
  obtain ⟨v_6706, e_6707, e⟩ := Option.bind_eq_some_iff.mp e
  refine Rn.hp hT rfl rfl (gI_hp e_6707) ?_
  refine Rn.n hT 4 (pc' := 86) (L' := [some (.ref q0), some (.int x1), some (.int v_6706), none, none]) (st' := [.int (3 : Int32), .int (0 : Int32), .ref q0]) rfl ?_
  obtain ⟨_, e_6709, e⟩ := Option.bind_eq_some_iff.mp e
  obtain ⟨⟨v_6710, h_6711⟩, e_6708, e⟩ := Option.bind_eq_some_iff.mp e
  try dsimp only at e
  try dsimp only at e
  refine Rn.call hT rfl rfl rfl (Nat.le_of_ble_eq_true rfl) (rcv_v gX12_amount (by omega) e_6709) (rX12_amount (by omega) e_6708 ?_)
  show Rn d _ _ 89 [some (.ref q0), some (.int x1), some (.int v_6706), none, none] [.int v_6710] h_6711 Q
  refine Rn.n hT 4 (pc' := 93) (L' := [some (.ref q0), some (.int x1), some (.int v_6706), some (.int v_6710), none]) (st' := [.int (3 : Int32), .int (0 : Int32), .ref q0]) rfl ?_
  obtain ⟨_, e_6713, e⟩ := Option.bind_eq_some_iff.mp e
  obtain ⟨⟨v_6714, h_6715⟩, e_6712, e⟩ := Option.bind_eq_some_iff.mp e
  try dsimp only at e
  try dsimp only at e
  refine Rn.call hT rfl rfl rfl (Nat.le_of_ble_eq_true rfl) (rcv_v gX12_amount (by omega) e_6713) (rX12_amount (by omega) e_6712 ?_)
  show Rn d _ _ 96 [some (.ref q0), some (.int x1), some (.int v_6706), some (.int v_6710), none] [.int v_6714] h_6715 Q
  refine Rn.n hT 2 (pc' := 99) (L' := [some (.ref q0), some (.int x1), some (.int v_6706), some (.int v_6710), some (.int v_6714)]) (st' := [.ref q0]) rfl ?_
  obtain ⟨v_6716, e_6717, e⟩ := Option.bind_eq_some_iff.mp e
  refine Rn.hp hT rfl rfl (gI_hp e_6717) ?_
  by_cases c_6718 : v_6716 = 0
  · rw [if_pos c_6718] at e
    refine Rn.bf hT rfl rfl rfl (decide_eq_false (fun z => z c_6718)) ?_
    refine Rn.n hT 2 (pc' := 107) (L' := [some (.ref q0), some (.int x1), some (.int v_6706), some (.int v_6710), some (.int v_6714)]) (st' := [.ref q0, .int v_6710]) rfl ?_
    obtain ⟨v_6719, e_6720, e⟩ := Option.bind_eq_some_iff.mp e
    refine Rn.hp hT rfl rfl (gR_hp e_6720) ?_
    refine Rn.n hT 1 (pc' := 111) (L' := [some (.ref q0), some (.int x1), some (.int v_6706), some (.int v_6710), some (.int v_6714)]) (st' := [.int (0 : Int32), .ref v_6719, .int v_6710]) rfl ?_
    obtain ⟨v_6721, e_6722, e⟩ := Option.bind_eq_some_iff.mp e
    refine Rn.hp hT rfl rfl (aI_hp e_6722) ?_
    by_cases c_6723 : v_6721 ≤ v_6710
    · rw [if_pos c_6723] at e
      refine Rn.bt hT rfl rfl rfl (decide_eq_true c_6723) ?_
      exact Rn.weak (ll_s (ll_s (ll_s (ll_s (ll_s ll_e))))) (rX12_readsRoom_b141 hd hq e)
    · rw [if_neg c_6723] at e
      refine Rn.bf hT rfl rfl rfl (decide_eq_false c_6723) ?_
      refine Rn.n hT 2 (pc' := 118) (L' := [some (.ref q0), some (.int x1), some (.int v_6706), some (.int v_6710), some (.int v_6714)]) (st' := [.ref q0, .int v_6714]) rfl ?_
      obtain ⟨v_6724, e_6725, e⟩ := Option.bind_eq_some_iff.mp e
      refine Rn.hp hT rfl rfl (gR_hp e_6725) ?_
      refine Rn.n hT 1 (pc' := 122) (L' := [some (.ref q0), some (.int x1), some (.int v_6706), some (.int v_6710), some (.int v_6714)]) (st' := [.int (1 : Int32), .ref v_6724, .int v_6714]) rfl ?_
      obtain ⟨v_6726, e_6727, e⟩ := Option.bind_eq_some_iff.mp e
      refine Rn.hp hT rfl rfl (aI_hp e_6727) ?_
      by_cases c_6728 : v_6726 ≤ v_6714
      · rw [if_pos c_6728] at e
        refine Rn.bt hT rfl rfl rfl (decide_eq_true c_6728) ?_
        exact Rn.weak (ll_s (ll_s (ll_s (ll_s (ll_s ll_e))))) (rX12_readsRoom_b141 hd hq e)
      · rw [if_neg c_6728] at e
        refine Rn.bf hT rfl rfl rfl (decide_eq_false c_6728) ?_
        refine Rn.n hT 1 (pc' := 127) (L' := [some (.ref q0), some (.int x1), some (.int v_6706), some (.int v_6710), some (.int v_6714)]) (st' := [.ref q0]) rfl ?_
        obtain ⟨v_6729, e_6730, e⟩ := Option.bind_eq_some_iff.mp e
        refine Rn.hp hT rfl rfl (gR_hp e_6730) ?_
        refine Rn.n hT 5 (pc' := 136) (L' := [some (.ref q0), some (.int x1), some (.int v_6706), some (.int v_6710), some (.int v_6714)]) (st' := [.int (((4 : Int32) * v_6714) + v_6710), .ref v_6729]) rfl ?_
        obtain ⟨v_6731, e_6732, e⟩ := Option.bind_eq_some_iff.mp e
        refine Rn.hp hT rfl rfl (aI_hp e_6732) ?_
        refine Rn.n hT 1 (pc' := 138) (L' := [some (.ref q0), some (.int x1), some (.int v_6706), some (.int v_6710), some (.int v_6714)]) (st' := [.int (-1 : Int32), .int v_6731]) rfl ?_
        by_cases c_6733 : v_6731 = (-1 : Int32)
        · rw [if_pos c_6733] at e
          refine Rn.bt hT rfl rfl rfl (decide_eq_true c_6733) ?_
          exact Rn.weak (ll_s (ll_s (ll_n (ll_s (ll_s ll_e))))) (rX12_readsRoom_b147 hd hq e)
        · rw [if_neg c_6733] at e
          refine Rn.bf hT rfl rfl rfl (decide_eq_false c_6733) ?_
          exact Rn.weak (ll_s (ll_s (ll_s (ll_s (ll_s ll_e))))) (rX12_readsRoom_b141 hd hq e)
  · rw [if_neg c_6718] at e
    refine Rn.bt hT rfl rfl rfl (decide_eq_true c_6718) ?_
    exact Rn.weak (ll_s (ll_s (ll_n (ll_s (ll_s ll_e))))) (rX12_readsRoom_b147 hd hq e)
def fX12_readsRoom (N : Nat) (h : iv_H) (q0 : Nat) : Option (iv_H) := ((gR h 12 19 q0).bind fun v_6671 => ((aI h v_6671 (2 : Int32)).bind fun v_6673 => ((cko h q0 12).bind fun _ => (fX12_blanks N h q0).bind fun h_6678 => (fX12_readsRoom_l13 N q0 v_6673 (fun (h_6679 : iv_H) => (fX12_readsRoom_b74 N h_6679 q0 v_6673)) N h_6678 (0 : Int32)))))
set_option maxRecDepth 10000 in
set_option maxHeartbeats 4000000 in
theorem rX12_readsRoom {d N : Nat} (hd : 5 ≤ d) {h : iv_H} {q0 : Nat} {r : iv_H} {Q : Option Value → iv_H → Prop} (e : fX12_readsRoom N h q0 = some r) (hq : Q none r) : Cl d 231 [.ref q0] h Q := by
  obtain ⟨d, rfl⟩ : ∃ k, d = k + 1 := ⟨d - 1, by omega⟩
  have hd : 4 ≤ d := by omega
  have hT := hX12_readsRoom
  unfold fX12_readsRoom at e
  refine Cl.into (by decide) gX12_readsRoom rfl ?_
  show Rn d 231 none 0 [some (.ref q0), none, none, none, none] [] h Q
  refine Rn.n hT 1 (pc' := 1) (L' := [some (.ref q0), none, none, none, none]) (st' := [.ref q0]) rfl ?_
  obtain ⟨v_6671, e_6672, e⟩ := Option.bind_eq_some_iff.mp e
  refine Rn.hp hT rfl rfl (gR_hp e_6672) ?_
  refine Rn.n hT 1 (pc' := 5) (L' := [some (.ref q0), none, none, none, none]) (st' := [.int (2 : Int32), .ref v_6671]) rfl ?_
  obtain ⟨v_6673, e_6674, e⟩ := Option.bind_eq_some_iff.mp e
  refine Rn.hp hT rfl rfl (aI_hp e_6674) ?_
  refine Rn.n hT 2 (pc' := 8) (L' := [some (.ref q0), some (.int v_6673), none, none, none]) (st' := [.ref q0]) rfl ?_
  obtain ⟨_, e_6676, e⟩ := Option.bind_eq_some_iff.mp e
  obtain ⟨h_6678, e_6675, e⟩ := Option.bind_eq_some_iff.mp e
  refine Rn.call hT rfl rfl rfl (Nat.le_of_ble_eq_true rfl) (rcv_v gX12_blanks (by omega) e_6676) (rX12_blanks (by omega) e_6675 ?_)
  show Rn d _ _ 11 [some (.ref q0), some (.int v_6673), none, none, none] [] h_6678 Q
  refine Rn.n hT 2 (pc' := 13) (L' := [some (.ref q0), some (.int v_6673), some (.int (0 : Int32)), none, none]) (st' := []) rfl ?_
  refine Rn.weak (ll_s (ll_s (ll_s (ll_n (ll_n ll_e))))) (rX12_readsRoom_l13 hd (fun h_6679 e => ?_) hq N h_6678 (0 : Int32) e)
  try dsimp only at e
  exact Rn.weak (ll_s (ll_s (ll_n (ll_n (ll_n ll_e))))) (rX12_readsRoom_b74 hd hq e)
set_option maxRecDepth 10000 in
theorem hX12_palacePart : iv_Tb 232 tX12_palacePart := iv_tb_of (m := mX12_palacePart) rfl
set_option maxRecDepth 10000 in
theorem gX12_palacePart : PG.2 232 = some mX12_palacePart := iv_pi_of (t := tX12_palacePart) rfl (by decide)
def fX12_palacePart_b185 (N : Nat) (h : iv_H)   : Option (iv_H) := some h
set_option maxRecDepth 10000 in
set_option maxHeartbeats 4000000 in
theorem rX12_palacePart_b185 {d N : Nat} (hd : 5 ≤ d) {h : iv_H}   {r : iv_H} {Q : Option Value → iv_H → Prop} (hq : Q none r) (e : fX12_palacePart_b185 N h   = some r) : Rn d 232 none 185 [none, none, none, none, none] [] h Q := by
  have hT := hX12_palacePart
  unfold fX12_palacePart_b185 at e
  obtain rfl := Option.some.inj e
  exact Rn.ret hT rfl rfl rfl hq
def fX12_palacePart (N : Nat) (h : iv_H) (q0 : Nat) (x1 : Int32) : Option (iv_H) := ((gR h 12 19 q0).bind fun v_6761 => ((aI h v_6761 (2 : Int32)).bind fun v_6763 => (if x1 = (0 : Int32) then ((gR h 12 19 q0).bind fun v_6766 => ((cko h q0 12).bind fun _ => (fX12_amount N h q0 (1 : Int32) (4 : Int32)).bind fun p_6783 => (fun (v_6770 : Int32) (h_6771 : iv_H) => ((wI h_6771 v_6766 (0 : Int32) v_6770).bind fun h_6772 => ((gR h_6772 12 19 q0).bind fun v_6774 => ((cko h_6772 q0 12).bind fun _ => (fX12_amount N h_6772 q0 (1 : Int32) (4 : Int32)).bind fun p_6782 => (fun (v_6778 : Int32) (h_6779 : iv_H) => ((wI h_6779 v_6774 (1 : Int32) v_6778).bind fun h_6780 => (fX12_palacePart_b185 N h_6780))) p_6782.1 p_6782.2)))) p_6783.1 p_6783.2)) else (if x1 = (1 : Int32) then ((cko h q0 12).bind fun _ => (fX12_readsRoom N h q0).bind fun h_6788 => (fX12_palacePart_b185 N h_6788)) else (if x1 = (2 : Int32) then ((cko h q0 12).bind fun _ => (fX12_amount N h q0 (0 : Int32) (v_6763 - (1 : Int32))).bind fun p_6801 => (fun (v_6792 : Int32) (h_6793 : iv_H) => ((gI h_6793 12 30 q0).bind fun v_6794 => (if v_6794 = 0 then ((gR h_6793 12 22 q0).bind fun v_6797 => ((wI h_6793 v_6797 v_6792 (1 : Int32)).bind fun h_6799 => (fX12_palacePart_b185 N h_6799))) else (fX12_palacePart_b185 N h_6793)))) p_6801.1 p_6801.2) else (if x1 = (3 : Int32) then ((cko h q0 12).bind fun _ => (fX12_amount N h q0 (1 : Int32) (4 : Int32)).bind fun p_6819 => (fun (v_6805 : Int32) (h_6806 : iv_H) => ((cko h_6806 q0 12).bind fun _ => (fX12_amount N h_6806 q0 (0 : Int32) (v_6763 - (1 : Int32))).bind fun p_6818 => (fun (v_6809 : Int32) (h_6810 : iv_H) => ((gI h_6810 12 30 q0).bind fun v_6811 => (if v_6811 = 0 then ((gR h_6810 12 23 q0).bind fun v_6814 => ((wI h_6810 v_6814 (v_6805 - (1 : Int32)) v_6809).bind fun h_6816 => (fX12_palacePart_b185 N h_6816))) else (fX12_palacePart_b185 N h_6810)))) p_6818.1 p_6818.2)) p_6819.1 p_6819.2) else (if x1 = (4 : Int32) then ((gR h 12 24 q0).bind fun v_6821 => ((gR h 12 19 q0).bind fun v_6823 => ((aI h v_6823 (3 : Int32)).bind fun v_6825 => ((cko h q0 12).bind fun _ => (fX12_amount N h q0 (0 : Int32) (v_6763 - (1 : Int32))).bind fun p_6839 => (fun (v_6829 : Int32) (h_6830 : iv_H) => ((wI h_6830 v_6821 v_6825 v_6829).bind fun h_6831 => ((gR h_6831 12 19 q0).bind fun v_6833 => ((aI h_6831 v_6833 (3 : Int32)).bind fun v_6835 => ((wI h_6831 v_6833 (3 : Int32) (v_6835 + (1 : Int32))).bind fun h_6837 => (fX12_palacePart_b185 N h_6837)))))) p_6839.1 p_6839.2)))) else ((gR h 12 19 q0).bind fun v_6840 => ((cko h q0 12).bind fun _ => (fX12_amount N h q0 (1 : Int32) (7 : Int32)).bind fun p_6850 => (fun (v_6844 : Int32) (h_6845 : iv_H) => ((wI h_6845 v_6840 (4 : Int32) v_6844).bind fun h_6846 => ((pV h_6846 12 38 q0 (.int (1 : Int32))).bind fun h_6848 => (fX12_palacePart_b185 N h_6848)))) p_6850.1 p_6850.2)))))))))
set_option maxRecDepth 10000 in
set_option maxHeartbeats 4000000 in
theorem rX12_palacePart {d N : Nat} (hd : 6 ≤ d) {h : iv_H} {q0 : Nat} {x1 : Int32} {r : iv_H} {Q : Option Value → iv_H → Prop} (e : fX12_palacePart N h q0 x1 = some r) (hq : Q none r) : Cl d 232 [.ref q0, .int x1] h Q := by
  obtain ⟨d, rfl⟩ : ∃ k, d = k + 1 := ⟨d - 1, by omega⟩
  have hd : 5 ≤ d := by omega
  have hT := hX12_palacePart
  unfold fX12_palacePart at e
  refine Cl.into (by decide) gX12_palacePart rfl ?_
  show Rn d 232 none 0 [some (.ref q0), some (.int x1), none, none, none] [] h Q
  refine Rn.n hT 1 (pc' := 1) (L' := [some (.ref q0), some (.int x1), none, none, none]) (st' := [.ref q0]) rfl ?_
  obtain ⟨v_6761, e_6762, e⟩ := Option.bind_eq_some_iff.mp e
  refine Rn.hp hT rfl rfl (gR_hp e_6762) ?_
  refine Rn.n hT 1 (pc' := 5) (L' := [some (.ref q0), some (.int x1), none, none, none]) (st' := [.int (2 : Int32), .ref v_6761]) rfl ?_
  obtain ⟨v_6763, e_6764, e⟩ := Option.bind_eq_some_iff.mp e
  refine Rn.hp hT rfl rfl (aI_hp e_6764) ?_
  refine Rn.n hT 4 (pc' := 10) (L' := [some (.ref q0), some (.int x1), some (.int (v_6763 - (1 : Int32))), none, none]) (st' := [.int x1]) rfl ?_
  by_cases c_6765 : x1 = (0 : Int32)
  · rw [if_pos c_6765] at e
    refine Rn.sw2 hT rfl rfl rfl (if_pos c_6765) ?_
    refine Rn.n hT 1 (pc' := 45) (L' := [some (.ref q0), some (.int x1), some (.int (v_6763 - (1 : Int32))), none, none]) (st' := [.ref q0]) rfl ?_
    obtain ⟨v_6766, e_6767, e⟩ := Option.bind_eq_some_iff.mp e
    refine Rn.hp hT rfl rfl (gR_hp e_6767) ?_
    refine Rn.n hT 4 (pc' := 52) (L' := [some (.ref q0), some (.int x1), some (.int (v_6763 - (1 : Int32))), none, none]) (st' := [.int (4 : Int32), .int (1 : Int32), .ref q0, .int (0 : Int32), .ref v_6766]) rfl ?_
    obtain ⟨_, e_6769, e⟩ := Option.bind_eq_some_iff.mp e
    obtain ⟨⟨v_6770, h_6771⟩, e_6768, e⟩ := Option.bind_eq_some_iff.mp e
    try dsimp only at e
    try dsimp only at e
    refine Rn.call hT rfl rfl rfl (Nat.le_of_ble_eq_true rfl) (rcv_v gX12_amount (by omega) e_6769) (rX12_amount (by omega) e_6768 ?_)
    show Rn d _ _ 55 [some (.ref q0), some (.int x1), some (.int (v_6763 - (1 : Int32))), none, none] [.int v_6770, .int (0 : Int32), .ref v_6766] h_6771 Q
    obtain ⟨h_6772, e_6773, e⟩ := Option.bind_eq_some_iff.mp e
    refine Rn.hp hT rfl rfl (wI_hp e_6773) ?_
    refine Rn.n hT 1 (pc' := 57) (L' := [some (.ref q0), some (.int x1), some (.int (v_6763 - (1 : Int32))), none, none]) (st' := [.ref q0]) rfl ?_
    obtain ⟨v_6774, e_6775, e⟩ := Option.bind_eq_some_iff.mp e
    refine Rn.hp hT rfl rfl (gR_hp e_6775) ?_
    refine Rn.n hT 4 (pc' := 64) (L' := [some (.ref q0), some (.int x1), some (.int (v_6763 - (1 : Int32))), none, none]) (st' := [.int (4 : Int32), .int (1 : Int32), .ref q0, .int (1 : Int32), .ref v_6774]) rfl ?_
    obtain ⟨_, e_6777, e⟩ := Option.bind_eq_some_iff.mp e
    obtain ⟨⟨v_6778, h_6779⟩, e_6776, e⟩ := Option.bind_eq_some_iff.mp e
    try dsimp only at e
    try dsimp only at e
    refine Rn.call hT rfl rfl rfl (Nat.le_of_ble_eq_true rfl) (rcv_v gX12_amount (by omega) e_6777) (rX12_amount (by omega) e_6776 ?_)
    show Rn d _ _ 67 [some (.ref q0), some (.int x1), some (.int (v_6763 - (1 : Int32))), none, none] [.int v_6778, .int (1 : Int32), .ref v_6774] h_6779 Q
    obtain ⟨h_6780, e_6781, e⟩ := Option.bind_eq_some_iff.mp e
    refine Rn.hp hT rfl rfl (wI_hp e_6781) ?_
    refine Rn.n hT 1 (pc' := 185) (L' := [some (.ref q0), some (.int x1), some (.int (v_6763 - (1 : Int32))), none, none]) (st' := []) rfl ?_
    exact Rn.weak (ll_n (ll_n (ll_n (ll_n (ll_n ll_e))))) (rX12_palacePart_b185 hd hq e)
  · rw [if_neg c_6765] at e
    by_cases c_6784 : x1 = (1 : Int32)
    · rw [if_pos c_6784] at e
      refine Rn.sw2 hT rfl rfl rfl ((if_neg c_6765).trans (if_pos c_6784)) ?_
      refine Rn.n hT 1 (pc' := 72) (L' := [some (.ref q0), some (.int x1), some (.int (v_6763 - (1 : Int32))), none, none]) (st' := [.ref q0]) rfl ?_
      obtain ⟨_, e_6786, e⟩ := Option.bind_eq_some_iff.mp e
      obtain ⟨h_6788, e_6785, e⟩ := Option.bind_eq_some_iff.mp e
      refine Rn.call hT rfl rfl rfl (Nat.le_of_ble_eq_true rfl) (rcv_v gX12_readsRoom (by omega) e_6786) (rX12_readsRoom (by omega) e_6785 ?_)
      show Rn d _ _ 75 [some (.ref q0), some (.int x1), some (.int (v_6763 - (1 : Int32))), none, none] [] h_6788 Q
      refine Rn.n hT 1 (pc' := 185) (L' := [some (.ref q0), some (.int x1), some (.int (v_6763 - (1 : Int32))), none, none]) (st' := []) rfl ?_
      exact Rn.weak (ll_n (ll_n (ll_n (ll_n (ll_n ll_e))))) (rX12_palacePart_b185 hd hq e)
    · rw [if_neg c_6784] at e
      by_cases c_6789 : x1 = (2 : Int32)
      · rw [if_pos c_6789] at e
        refine Rn.sw2 hT rfl rfl rfl ((if_neg c_6765).trans ((if_neg c_6784).trans (if_pos c_6789))) ?_
        refine Rn.n hT 3 (pc' := 81) (L' := [some (.ref q0), some (.int x1), some (.int (v_6763 - (1 : Int32))), none, none]) (st' := [.int (v_6763 - (1 : Int32)), .int (0 : Int32), .ref q0]) rfl ?_
        obtain ⟨_, e_6791, e⟩ := Option.bind_eq_some_iff.mp e
        obtain ⟨⟨v_6792, h_6793⟩, e_6790, e⟩ := Option.bind_eq_some_iff.mp e
        try dsimp only at e
        try dsimp only at e
        refine Rn.call hT rfl rfl rfl (Nat.le_of_ble_eq_true rfl) (rcv_v gX12_amount (by omega) e_6791) (rX12_amount (by omega) e_6790 ?_)
        show Rn d _ _ 84 [some (.ref q0), some (.int x1), some (.int (v_6763 - (1 : Int32))), none, none] [.int v_6792] h_6793 Q
        refine Rn.n hT 2 (pc' := 86) (L' := [some (.ref q0), some (.int x1), some (.int (v_6763 - (1 : Int32))), some (.int v_6792), none]) (st' := [.ref q0]) rfl ?_
        obtain ⟨v_6794, e_6795, e⟩ := Option.bind_eq_some_iff.mp e
        refine Rn.hp hT rfl rfl (gI_hp e_6795) ?_
        by_cases c_6796 : v_6794 = 0
        · rw [if_pos c_6796] at e
          refine Rn.bf hT rfl rfl rfl (decide_eq_false (fun z => z c_6796)) ?_
          refine Rn.n hT 1 (pc' := 93) (L' := [some (.ref q0), some (.int x1), some (.int (v_6763 - (1 : Int32))), some (.int v_6792), none]) (st' := [.ref q0]) rfl ?_
          obtain ⟨v_6797, e_6798, e⟩ := Option.bind_eq_some_iff.mp e
          refine Rn.hp hT rfl rfl (gR_hp e_6798) ?_
          refine Rn.n hT 2 (pc' := 98) (L' := [some (.ref q0), some (.int x1), some (.int (v_6763 - (1 : Int32))), some (.int v_6792), none]) (st' := [.int (1 : Int32), .int v_6792, .ref v_6797]) rfl ?_
          obtain ⟨h_6799, e_6800, e⟩ := Option.bind_eq_some_iff.mp e
          refine Rn.hp hT rfl rfl (wI_hp e_6800) ?_
          refine Rn.n hT 1 (pc' := 185) (L' := [some (.ref q0), some (.int x1), some (.int (v_6763 - (1 : Int32))), some (.int v_6792), none]) (st' := []) rfl ?_
          exact Rn.weak (ll_n (ll_n (ll_n (ll_n (ll_n ll_e))))) (rX12_palacePart_b185 hd hq e)
        · rw [if_neg c_6796] at e
          refine Rn.bt hT rfl rfl rfl (decide_eq_true c_6796) ?_
          exact Rn.weak (ll_n (ll_n (ll_n (ll_n (ll_n ll_e))))) (rX12_palacePart_b185 hd hq e)
      · rw [if_neg c_6789] at e
        by_cases c_6802 : x1 = (3 : Int32)
        · rw [if_pos c_6802] at e
          refine Rn.sw2 hT rfl rfl rfl ((if_neg c_6765).trans ((if_neg c_6784).trans ((if_neg c_6789).trans (if_pos c_6802)))) ?_
          refine Rn.n hT 3 (pc' := 105) (L' := [some (.ref q0), some (.int x1), some (.int (v_6763 - (1 : Int32))), none, none]) (st' := [.int (4 : Int32), .int (1 : Int32), .ref q0]) rfl ?_
          obtain ⟨_, e_6804, e⟩ := Option.bind_eq_some_iff.mp e
          obtain ⟨⟨v_6805, h_6806⟩, e_6803, e⟩ := Option.bind_eq_some_iff.mp e
          try dsimp only at e
          try dsimp only at e
          refine Rn.call hT rfl rfl rfl (Nat.le_of_ble_eq_true rfl) (rcv_v gX12_amount (by omega) e_6804) (rX12_amount (by omega) e_6803 ?_)
          show Rn d _ _ 108 [some (.ref q0), some (.int x1), some (.int (v_6763 - (1 : Int32))), none, none] [.int v_6805] h_6806 Q
          refine Rn.n hT 4 (pc' := 112) (L' := [some (.ref q0), some (.int x1), some (.int (v_6763 - (1 : Int32))), some (.int v_6805), none]) (st' := [.int (v_6763 - (1 : Int32)), .int (0 : Int32), .ref q0]) rfl ?_
          obtain ⟨_, e_6808, e⟩ := Option.bind_eq_some_iff.mp e
          obtain ⟨⟨v_6809, h_6810⟩, e_6807, e⟩ := Option.bind_eq_some_iff.mp e
          try dsimp only at e
          try dsimp only at e
          refine Rn.call hT rfl rfl rfl (Nat.le_of_ble_eq_true rfl) (rcv_v gX12_amount (by omega) e_6808) (rX12_amount (by omega) e_6807 ?_)
          show Rn d _ _ 115 [some (.ref q0), some (.int x1), some (.int (v_6763 - (1 : Int32))), some (.int v_6805), none] [.int v_6809] h_6810 Q
          refine Rn.n hT 2 (pc' := 118) (L' := [some (.ref q0), some (.int x1), some (.int (v_6763 - (1 : Int32))), some (.int v_6805), some (.int v_6809)]) (st' := [.ref q0]) rfl ?_
          obtain ⟨v_6811, e_6812, e⟩ := Option.bind_eq_some_iff.mp e
          refine Rn.hp hT rfl rfl (gI_hp e_6812) ?_
          by_cases c_6813 : v_6811 = 0
          · rw [if_pos c_6813] at e
            refine Rn.bf hT rfl rfl rfl (decide_eq_false (fun z => z c_6813)) ?_
            refine Rn.n hT 1 (pc' := 125) (L' := [some (.ref q0), some (.int x1), some (.int (v_6763 - (1 : Int32))), some (.int v_6805), some (.int v_6809)]) (st' := [.ref q0]) rfl ?_
            obtain ⟨v_6814, e_6815, e⟩ := Option.bind_eq_some_iff.mp e
            refine Rn.hp hT rfl rfl (gR_hp e_6815) ?_
            refine Rn.n hT 4 (pc' := 133) (L' := [some (.ref q0), some (.int x1), some (.int (v_6763 - (1 : Int32))), some (.int v_6805), some (.int v_6809)]) (st' := [.int v_6809, .int (v_6805 - (1 : Int32)), .ref v_6814]) rfl ?_
            obtain ⟨h_6816, e_6817, e⟩ := Option.bind_eq_some_iff.mp e
            refine Rn.hp hT rfl rfl (wI_hp e_6817) ?_
            refine Rn.n hT 1 (pc' := 185) (L' := [some (.ref q0), some (.int x1), some (.int (v_6763 - (1 : Int32))), some (.int v_6805), some (.int v_6809)]) (st' := []) rfl ?_
            exact Rn.weak (ll_n (ll_n (ll_n (ll_n (ll_n ll_e))))) (rX12_palacePart_b185 hd hq e)
          · rw [if_neg c_6813] at e
            refine Rn.bt hT rfl rfl rfl (decide_eq_true c_6813) ?_
            exact Rn.weak (ll_n (ll_n (ll_n (ll_n (ll_n ll_e))))) (rX12_palacePart_b185 hd hq e)
        · rw [if_neg c_6802] at e
          by_cases c_6820 : x1 = (4 : Int32)
          · rw [if_pos c_6820] at e
            refine Rn.sw2 hT rfl rfl rfl ((if_neg c_6765).trans ((if_neg c_6784).trans ((if_neg c_6789).trans ((if_neg c_6802).trans (if_pos c_6820))))) ?_
            refine Rn.n hT 1 (pc' := 138) (L' := [some (.ref q0), some (.int x1), some (.int (v_6763 - (1 : Int32))), none, none]) (st' := [.ref q0]) rfl ?_
            obtain ⟨v_6821, e_6822, e⟩ := Option.bind_eq_some_iff.mp e
            refine Rn.hp hT rfl rfl (gR_hp e_6822) ?_
            refine Rn.n hT 1 (pc' := 142) (L' := [some (.ref q0), some (.int x1), some (.int (v_6763 - (1 : Int32))), none, none]) (st' := [.ref q0, .ref v_6821]) rfl ?_
            obtain ⟨v_6823, e_6824, e⟩ := Option.bind_eq_some_iff.mp e
            refine Rn.hp hT rfl rfl (gR_hp e_6824) ?_
            refine Rn.n hT 1 (pc' := 146) (L' := [some (.ref q0), some (.int x1), some (.int (v_6763 - (1 : Int32))), none, none]) (st' := [.int (3 : Int32), .ref v_6823, .ref v_6821]) rfl ?_
            obtain ⟨v_6825, e_6826, e⟩ := Option.bind_eq_some_iff.mp e
            refine Rn.hp hT rfl rfl (aI_hp e_6826) ?_
            refine Rn.n hT 3 (pc' := 150) (L' := [some (.ref q0), some (.int x1), some (.int (v_6763 - (1 : Int32))), none, none]) (st' := [.int (v_6763 - (1 : Int32)), .int (0 : Int32), .ref q0, .int v_6825, .ref v_6821]) rfl ?_
            obtain ⟨_, e_6828, e⟩ := Option.bind_eq_some_iff.mp e
            obtain ⟨⟨v_6829, h_6830⟩, e_6827, e⟩ := Option.bind_eq_some_iff.mp e
            try dsimp only at e
            try dsimp only at e
            refine Rn.call hT rfl rfl rfl (Nat.le_of_ble_eq_true rfl) (rcv_v gX12_amount (by omega) e_6828) (rX12_amount (by omega) e_6827 ?_)
            show Rn d _ _ 153 [some (.ref q0), some (.int x1), some (.int (v_6763 - (1 : Int32))), none, none] [.int v_6829, .int v_6825, .ref v_6821] h_6830 Q
            obtain ⟨h_6831, e_6832, e⟩ := Option.bind_eq_some_iff.mp e
            refine Rn.hp hT rfl rfl (wI_hp e_6832) ?_
            refine Rn.n hT 1 (pc' := 155) (L' := [some (.ref q0), some (.int x1), some (.int (v_6763 - (1 : Int32))), none, none]) (st' := [.ref q0]) rfl ?_
            obtain ⟨v_6833, e_6834, e⟩ := Option.bind_eq_some_iff.mp e
            refine Rn.hp hT rfl rfl (gR_hp e_6834) ?_
            refine Rn.n hT 2 (pc' := 160) (L' := [some (.ref q0), some (.int x1), some (.int (v_6763 - (1 : Int32))), none, none]) (st' := [.int (3 : Int32), .ref v_6833, .int (3 : Int32), .ref v_6833]) rfl ?_
            obtain ⟨v_6835, e_6836, e⟩ := Option.bind_eq_some_iff.mp e
            refine Rn.hp hT rfl rfl (aI_hp e_6836) ?_
            refine Rn.n hT 2 (pc' := 163) (L' := [some (.ref q0), some (.int x1), some (.int (v_6763 - (1 : Int32))), none, none]) (st' := [.int (v_6835 + (1 : Int32)), .int (3 : Int32), .ref v_6833]) rfl ?_
            obtain ⟨h_6837, e_6838, e⟩ := Option.bind_eq_some_iff.mp e
            refine Rn.hp hT rfl rfl (wI_hp e_6838) ?_
            refine Rn.n hT 1 (pc' := 185) (L' := [some (.ref q0), some (.int x1), some (.int (v_6763 - (1 : Int32))), none, none]) (st' := []) rfl ?_
            exact Rn.weak (ll_n (ll_n (ll_n (ll_n (ll_n ll_e))))) (rX12_palacePart_b185 hd hq e)
          · rw [if_neg c_6820] at e
            refine Rn.sw2 hT rfl rfl rfl ((if_neg c_6765).trans ((if_neg c_6784).trans ((if_neg c_6789).trans ((if_neg c_6802).trans ((if_neg c_6820).trans rfl))))) ?_
            refine Rn.n hT 1 (pc' := 168) (L' := [some (.ref q0), some (.int x1), some (.int (v_6763 - (1 : Int32))), none, none]) (st' := [.ref q0]) rfl ?_
            obtain ⟨v_6840, e_6841, e⟩ := Option.bind_eq_some_iff.mp e
            refine Rn.hp hT rfl rfl (gR_hp e_6841) ?_
            refine Rn.n hT 4 (pc' := 176) (L' := [some (.ref q0), some (.int x1), some (.int (v_6763 - (1 : Int32))), none, none]) (st' := [.int (7 : Int32), .int (1 : Int32), .ref q0, .int (4 : Int32), .ref v_6840]) rfl ?_
            obtain ⟨_, e_6843, e⟩ := Option.bind_eq_some_iff.mp e
            obtain ⟨⟨v_6844, h_6845⟩, e_6842, e⟩ := Option.bind_eq_some_iff.mp e
            try dsimp only at e
            try dsimp only at e
            refine Rn.call hT rfl rfl rfl (Nat.le_of_ble_eq_true rfl) (rcv_v gX12_amount (by omega) e_6843) (rX12_amount (by omega) e_6842 ?_)
            show Rn d _ _ 179 [some (.ref q0), some (.int x1), some (.int (v_6763 - (1 : Int32))), none, none] [.int v_6844, .int (4 : Int32), .ref v_6840] h_6845 Q
            obtain ⟨h_6846, e_6847, e⟩ := Option.bind_eq_some_iff.mp e
            refine Rn.hp hT rfl rfl (wI_hp e_6847) ?_
            refine Rn.n hT 2 (pc' := 182) (L' := [some (.ref q0), some (.int x1), some (.int (v_6763 - (1 : Int32))), none, none]) (st' := [.int (1 : Int32), .ref q0]) rfl ?_
            obtain ⟨h_6848, e_6849, e⟩ := Option.bind_eq_some_iff.mp e
            refine Rn.hp hT rfl rfl (pV_hp (by decide) e_6849) ?_
            exact Rn.weak (ll_n (ll_n (ll_n (ll_n (ll_n ll_e))))) (rX12_palacePart_b185 hd hq e)
set_option maxRecDepth 10000 in
theorem hX12_isFull : iv_Tb 233 tX12_isFull := iv_tb_of (m := mX12_isFull) rfl
set_option maxRecDepth 10000 in
theorem gX12_isFull : PG.2 233 = some mX12_isFull := iv_pi_of (t := tX12_isFull) rfl (by decide)
def fX12_isFull_b27 (N : Nat) (h : iv_H)   : Option (Int32) := (some (1 : Int32))
set_option maxRecDepth 10000 in
set_option maxHeartbeats 4000000 in
theorem rX12_isFull_b27 {d N : Nat} (hd : 0 ≤ d) {h : iv_H}   {r : Int32} {Q : Option Value → iv_H → Prop} (hq : Q (some (.int r)) h) (e : fX12_isFull_b27 N h   = some r) : Rn d 233 (some .boolean) 27 [none, none, none] [] h Q := by
  have hT := hX12_isFull
  unfold fX12_isFull_b27 at e
  refine Rn.n hT 1 (pc' := 28) (L' := [none, none, none]) (st' := [.int (1 : Int32)]) rfl ?_
  obtain rfl := Option.some.inj e
  exact Rn.ret hT rfl rfl rfl hq
def fX12_isFull_b80 (N : Nat) (h : iv_H)  (s0 : Int32) : Option (Int32) := (if s0 = 0 ∨ s0 = 1 then some s0 else none)
set_option maxRecDepth 10000 in
set_option maxHeartbeats 4000000 in
theorem rX12_isFull_b80 {d N : Nat} (hd : 0 ≤ d) {h : iv_H}  {s0 : Int32} {r : Int32} {Q : Option Value → iv_H → Prop} (hq : Q (some (.int r)) h) (e : fX12_isFull_b80 N h  s0 = some r) : Rn d 233 (some .boolean) 80 [none, none, none] [.int s0] h Q := by
  have hT := hX12_isFull
  unfold fX12_isFull_b80 at e
  by_cases c_6873 : s0 = 0 ∨ s0 = 1
  · rw [if_pos c_6873] at e
    obtain rfl := Option.some.inj e
    exact Rn.ret hT rfl rfl (if_pos c_6873) hq
  · rw [if_neg c_6873] at e
    cases e
def fX12_isFull_b97 (N : Nat) (h : iv_H)  (s0 : Int32) : Option (Int32) := (if s0 = 0 ∨ s0 = 1 then some s0 else none)
set_option maxRecDepth 10000 in
set_option maxHeartbeats 4000000 in
theorem rX12_isFull_b97 {d N : Nat} (hd : 0 ≤ d) {h : iv_H}  {s0 : Int32} {r : Int32} {Q : Option Value → iv_H → Prop} (hq : Q (some (.int r)) h) (e : fX12_isFull_b97 N h  s0 = some r) : Rn d 233 (some .boolean) 97 [none, none, none] [.int s0] h Q := by
  have hT := hX12_isFull
  unfold fX12_isFull_b97 at e
  by_cases c_6874 : s0 = 0 ∨ s0 = 1
  · rw [if_pos c_6874] at e
    obtain rfl := Option.some.inj e
    exact Rn.ret hT rfl rfl (if_pos c_6874) hq
  · rw [if_neg c_6874] at e
    cases e
def fX12_isFull_b24 (N : Nat) (h : iv_H) (q0 : Nat) (x1 : Int32) (s0 : Int32) (s1 : Int32) : Option (Int32) := (if s1 = s0 then (if x1 = (1 : Int32) then ((gR h 12 19 q0).bind fun v_6856 => ((aI h v_6856 (2 : Int32)).bind fun v_6858 => (if v_6858 = (12 : Int32) then (fX12_isFull_b80 N h (1 : Int32)) else (fX12_isFull_b80 N h (0 : Int32))))) else (if x1 = (2 : Int32) then (some (0 : Int32)) else (if x1 = (3 : Int32) then (some (0 : Int32)) else (if x1 = (4 : Int32) then ((gR h 12 19 q0).bind fun v_6864 => ((aI h v_6864 (3 : Int32)).bind fun v_6866 => (if v_6866 = (6 : Int32) then (fX12_isFull_b97 N h (1 : Int32)) else (fX12_isFull_b97 N h (0 : Int32))))) else (if x1 = (5 : Int32) then ((gI h 12 38 q0).bind fun v_6870 => (if v_6870 = 0 ∨ v_6870 = 1 then some v_6870 else none)) else (some (0 : Int32))))))) else (fX12_isFull_b27 N h))
set_option maxRecDepth 10000 in
set_option maxHeartbeats 4000000 in
theorem rX12_isFull_b24 {d N : Nat} (hd : 0 ≤ d) {h : iv_H} {q0 : Nat} {x1 : Int32} {s0 : Int32} {s1 : Int32} {r : Int32} {Q : Option Value → iv_H → Prop} (hq : Q (some (.int r)) h) (e : fX12_isFull_b24 N h q0 x1 s0 s1 = some r) : Rn d 233 (some .boolean) 24 [some (.ref q0), some (.int x1), none] [.int s0, .int s1] h Q := by
  have hT := hX12_isFull
  unfold fX12_isFull_b24 at e
  by_cases c_6854 : s1 = s0
  · rw [if_pos c_6854] at e
    refine Rn.bt hT rfl rfl rfl (decide_eq_true c_6854) ?_
    refine Rn.n hT 1 (pc' := 30) (L' := [some (.ref q0), some (.int x1), none]) (st' := [.int x1]) rfl ?_
    by_cases c_6855 : x1 = (1 : Int32)
    · rw [if_pos c_6855] at e
      refine Rn.sw2 hT rfl rfl rfl (if_pos c_6855) ?_
      refine Rn.n hT 1 (pc' := 65) (L' := [some (.ref q0), some (.int x1), none]) (st' := [.ref q0]) rfl ?_
      obtain ⟨v_6856, e_6857, e⟩ := Option.bind_eq_some_iff.mp e
      refine Rn.hp hT rfl rfl (gR_hp e_6857) ?_
      refine Rn.n hT 1 (pc' := 69) (L' := [some (.ref q0), some (.int x1), none]) (st' := [.int (2 : Int32), .ref v_6856]) rfl ?_
      obtain ⟨v_6858, e_6859, e⟩ := Option.bind_eq_some_iff.mp e
      refine Rn.hp hT rfl rfl (aI_hp e_6859) ?_
      refine Rn.n hT 1 (pc' := 72) (L' := [some (.ref q0), some (.int x1), none]) (st' := [.int (12 : Int32), .int v_6858]) rfl ?_
      by_cases c_6860 : v_6858 = (12 : Int32)
      · rw [if_pos c_6860] at e
        refine Rn.bf hT rfl rfl rfl (decide_eq_false (fun z => z c_6860)) ?_
        refine Rn.n hT 2 (pc' := 80) (L' := [some (.ref q0), some (.int x1), none]) (st' := [.int (1 : Int32)]) rfl ?_
        exact Rn.weak (ll_n (ll_n (ll_n ll_e))) (rX12_isFull_b80 hd hq e)
      · rw [if_neg c_6860] at e
        refine Rn.bt hT rfl rfl rfl (decide_eq_true c_6860) ?_
        refine Rn.n hT 1 (pc' := 80) (L' := [some (.ref q0), some (.int x1), none]) (st' := [.int (0 : Int32)]) rfl ?_
        exact Rn.weak (ll_n (ll_n (ll_n ll_e))) (rX12_isFull_b80 hd hq e)
    · rw [if_neg c_6855] at e
      by_cases c_6861 : x1 = (2 : Int32)
      · rw [if_pos c_6861] at e
        refine Rn.sw2 hT rfl rfl rfl ((if_neg c_6855).trans (if_pos c_6861)) ?_
        refine Rn.n hT 1 (pc' := 104) (L' := [some (.ref q0), some (.int x1), none]) (st' := [.int (0 : Int32)]) rfl ?_
        obtain rfl := Option.some.inj e
        exact Rn.ret hT rfl rfl rfl hq
      · rw [if_neg c_6861] at e
        by_cases c_6862 : x1 = (3 : Int32)
        · rw [if_pos c_6862] at e
          refine Rn.sw2 hT rfl rfl rfl ((if_neg c_6855).trans ((if_neg c_6861).trans (if_pos c_6862))) ?_
          refine Rn.n hT 1 (pc' := 104) (L' := [some (.ref q0), some (.int x1), none]) (st' := [.int (0 : Int32)]) rfl ?_
          obtain rfl := Option.some.inj e
          exact Rn.ret hT rfl rfl rfl hq
        · rw [if_neg c_6862] at e
          by_cases c_6863 : x1 = (4 : Int32)
          · rw [if_pos c_6863] at e
            refine Rn.sw2 hT rfl rfl rfl ((if_neg c_6855).trans ((if_neg c_6861).trans ((if_neg c_6862).trans (if_pos c_6863)))) ?_
            refine Rn.n hT 1 (pc' := 82) (L' := [some (.ref q0), some (.int x1), none]) (st' := [.ref q0]) rfl ?_
            obtain ⟨v_6864, e_6865, e⟩ := Option.bind_eq_some_iff.mp e
            refine Rn.hp hT rfl rfl (gR_hp e_6865) ?_
            refine Rn.n hT 1 (pc' := 86) (L' := [some (.ref q0), some (.int x1), none]) (st' := [.int (3 : Int32), .ref v_6864]) rfl ?_
            obtain ⟨v_6866, e_6867, e⟩ := Option.bind_eq_some_iff.mp e
            refine Rn.hp hT rfl rfl (aI_hp e_6867) ?_
            refine Rn.n hT 1 (pc' := 89) (L' := [some (.ref q0), some (.int x1), none]) (st' := [.int (6 : Int32), .int v_6866]) rfl ?_
            by_cases c_6868 : v_6866 = (6 : Int32)
            · rw [if_pos c_6868] at e
              refine Rn.bf hT rfl rfl rfl (decide_eq_false (fun z => z c_6868)) ?_
              refine Rn.n hT 2 (pc' := 97) (L' := [some (.ref q0), some (.int x1), none]) (st' := [.int (1 : Int32)]) rfl ?_
              exact Rn.weak (ll_n (ll_n (ll_n ll_e))) (rX12_isFull_b97 hd hq e)
            · rw [if_neg c_6868] at e
              refine Rn.bt hT rfl rfl rfl (decide_eq_true c_6868) ?_
              refine Rn.n hT 1 (pc' := 97) (L' := [some (.ref q0), some (.int x1), none]) (st' := [.int (0 : Int32)]) rfl ?_
              exact Rn.weak (ll_n (ll_n (ll_n ll_e))) (rX12_isFull_b97 hd hq e)
          · rw [if_neg c_6863] at e
            by_cases c_6869 : x1 = (5 : Int32)
            · rw [if_pos c_6869] at e
              refine Rn.sw2 hT rfl rfl rfl ((if_neg c_6855).trans ((if_neg c_6861).trans ((if_neg c_6862).trans ((if_neg c_6863).trans (if_pos c_6869))))) ?_
              refine Rn.n hT 1 (pc' := 99) (L' := [some (.ref q0), some (.int x1), none]) (st' := [.ref q0]) rfl ?_
              obtain ⟨v_6870, e_6871, e⟩ := Option.bind_eq_some_iff.mp e
              refine Rn.hp hT rfl rfl (gI_hp e_6871) ?_
              by_cases c_6872 : v_6870 = 0 ∨ v_6870 = 1
              · rw [if_pos c_6872] at e
                obtain rfl := Option.some.inj e
                exact Rn.ret hT rfl rfl (if_pos c_6872) hq
              · rw [if_neg c_6872] at e
                cases e
            · rw [if_neg c_6869] at e
              refine Rn.sw2 hT rfl rfl rfl ((if_neg c_6855).trans ((if_neg c_6861).trans ((if_neg c_6862).trans ((if_neg c_6863).trans ((if_neg c_6869).trans rfl))))) ?_
              refine Rn.n hT 1 (pc' := 104) (L' := [some (.ref q0), some (.int x1), none]) (st' := [.int (0 : Int32)]) rfl ?_
              obtain rfl := Option.some.inj e
              exact Rn.ret hT rfl rfl rfl hq
  · rw [if_neg c_6854] at e
    refine Rn.bf hT rfl rfl rfl (decide_eq_false c_6854) ?_
    exact Rn.weak (ll_n (ll_n (ll_n ll_e))) (rX12_isFull_b27 hd hq e)
def fX12_isFull_b15 (N : Nat) (h : iv_H) (q0 : Nat) (x1 : Int32) (x2 : Int32) (s0 : Int32) : Option (Int32) := (if x2 = 0 then (fX12_isFull_b24 N h q0 x1 (1 : Int32) s0) else (fX12_isFull_b24 N h q0 x1 (0 : Int32) s0))
set_option maxRecDepth 10000 in
set_option maxHeartbeats 4000000 in
theorem rX12_isFull_b15 {d N : Nat} (hd : 0 ≤ d) {h : iv_H} {q0 : Nat} {x1 : Int32} {x2 : Int32} {s0 : Int32} {r : Int32} {Q : Option Value → iv_H → Prop} (hq : Q (some (.int r)) h) (e : fX12_isFull_b15 N h q0 x1 x2 s0 = some r) : Rn d 233 (some .boolean) 15 [some (.ref q0), some (.int x1), some (.int x2)] [.int s0] h Q := by
  have hT := hX12_isFull
  unfold fX12_isFull_b15 at e
  refine Rn.n hT 1 (pc' := 16) (L' := [some (.ref q0), some (.int x1), some (.int x2)]) (st' := [.int x2, .int s0]) rfl ?_
  by_cases c_6853 : x2 = 0
  · rw [if_pos c_6853] at e
    refine Rn.bf hT rfl rfl rfl (decide_eq_false (fun z => z c_6853)) ?_
    refine Rn.n hT 2 (pc' := 24) (L' := [some (.ref q0), some (.int x1), some (.int x2)]) (st' := [.int (1 : Int32), .int s0]) rfl ?_
    exact Rn.weak (ll_s (ll_s (ll_n ll_e))) (rX12_isFull_b24 hd hq e)
  · rw [if_neg c_6853] at e
    refine Rn.bt hT rfl rfl rfl (decide_eq_true c_6853) ?_
    refine Rn.n hT 1 (pc' := 24) (L' := [some (.ref q0), some (.int x1), some (.int x2)]) (st' := [.int (0 : Int32), .int s0]) rfl ?_
    exact Rn.weak (ll_s (ll_s (ll_n ll_e))) (rX12_isFull_b24 hd hq e)
def fX12_isFull (N : Nat) (h : iv_H) (q0 : Nat) (x1 : Int32) (x2 : Int32) : Option (Int32) := (if x2 = (40 : Int32) then (fX12_isFull_b27 N h) else (if x1 = 0 then (fX12_isFull_b15 N h q0 x1 x2 (1 : Int32)) else (fX12_isFull_b15 N h q0 x1 x2 (0 : Int32))))
set_option maxRecDepth 10000 in
set_option maxHeartbeats 4000000 in
theorem rX12_isFull {d N : Nat} (hd : 1 ≤ d) {h : iv_H} {q0 : Nat} {x1 : Int32} {x2 : Int32} {r : Int32} {Q : Option Value → iv_H → Prop} (e : fX12_isFull N h q0 x1 x2 = some r) (hq : Q (some (.int r)) h) : Cl d 233 [.ref q0, .int x1, .int x2] h Q := by
  obtain ⟨d, rfl⟩ : ∃ k, d = k + 1 := ⟨d - 1, by omega⟩
  have hd : 0 ≤ d := by omega
  have hT := hX12_isFull
  unfold fX12_isFull at e
  refine Cl.into (by decide) gX12_isFull rfl ?_
  show Rn d 233 (some .boolean) 0 [some (.ref q0), some (.int x1), some (.int x2)] [] h Q
  refine Rn.n hT 2 (pc' := 3) (L' := [some (.ref q0), some (.int x1), some (.int x2)]) (st' := [.int (40 : Int32), .int x2]) rfl ?_
  by_cases c_6851 : x2 = (40 : Int32)
  · rw [if_pos c_6851] at e
    refine Rn.bt hT rfl rfl rfl (decide_eq_true c_6851) ?_
    exact Rn.weak (ll_n (ll_n (ll_n ll_e))) (rX12_isFull_b27 hd hq e)
  · rw [if_neg c_6851] at e
    refine Rn.bf hT rfl rfl rfl (decide_eq_false c_6851) ?_
    refine Rn.n hT 1 (pc' := 7) (L' := [some (.ref q0), some (.int x1), some (.int x2)]) (st' := [.int x1]) rfl ?_
    by_cases c_6852 : x1 = 0
    · rw [if_pos c_6852] at e
      refine Rn.bf hT rfl rfl rfl (decide_eq_false (fun z => z c_6852)) ?_
      refine Rn.n hT 2 (pc' := 15) (L' := [some (.ref q0), some (.int x1), some (.int x2)]) (st' := [.int (1 : Int32)]) rfl ?_
      exact Rn.weak (ll_s (ll_s (ll_s ll_e))) (rX12_isFull_b15 hd hq e)
    · rw [if_neg c_6852] at e
      refine Rn.bt hT rfl rfl rfl (decide_eq_true c_6852) ?_
      refine Rn.n hT 1 (pc' := 15) (L' := [some (.ref q0), some (.int x1), some (.int x2)]) (st' := [.int (0 : Int32)]) rfl ?_
      exact Rn.weak (ll_s (ll_s (ll_s ll_e))) (rX12_isFull_b15 hd hq e)
set_option maxRecDepth 10000 in
theorem hX12_palaceClause : iv_Tb 234 tX12_palaceClause := iv_tb_of (m := mX12_palaceClause) rfl
set_option maxRecDepth 10000 in
theorem gX12_palaceClause : PG.2 234 = some mX12_palaceClause := iv_pi_of (t := tX12_palaceClause) rfl (by decide)
def fX12_palaceClause_l11 (N : Nat) (q0 : Nat) (x1 : Int32) (x2 : Int32) (kx : iv_H → Int32 → Option (iv_H)) : Nat → iv_H → Int32 → Option (iv_H)
  | 0, _, _ => none
  | n + 1, h, x3 => (if (6 : Int32) ≤ x3 then (kx h x3) else ((fX12_palaceWord N h x3).bind fun v_6885 => ((cko h q0 12).bind fun _ => (fX12_stood N h q0 v_6885).bind fun v_6888 => (if v_6888 = 0 then (fX12_palaceClause_l11 N q0 x1 x2 kx n h (x3 + (1 : Int32))) else (kx h x3)))))
set_option maxRecDepth 10000 in
set_option maxHeartbeats 4000000 in
theorem rX12_palaceClause_l11 {d N : Nat} (hd : 11 ≤ d) {q0 : Nat} {x1 : Int32} {x2 : Int32} {kx : iv_H → Int32 → Option (iv_H)} {r : iv_H} {Q : Option Value → iv_H → Prop} (hk : ∀ (h : iv_H) (x3 : Int32), kx h x3 = some r → Rn d 234 none 34 [some (.ref q0), some (.int x1), some (.int x2), some (.int x3)] [] h Q) (hq : Q none r) : ∀ (n : Nat) (h : iv_H) (x3 : Int32), fX12_palaceClause_l11 N q0 x1 x2 kx n h x3 = some r → Rn d 234 none 11 [some (.ref q0), some (.int x1), some (.int x2), some (.int x3)] [] h Q := by
  have hT := hX12_palaceClause
  intro n
  induction n with
  | zero =>
    intro h x3 e
    rw [fX12_palaceClause_l11] at e
    cases e
  | succ n ih =>
    intro h x3 e
    rw [fX12_palaceClause_l11] at e
    refine Rn.n hT 2 (pc' := 14) (L' := [some (.ref q0), some (.int x1), some (.int x2), some (.int x3)]) (st' := [.int (6 : Int32), .int x3]) rfl ?_
    by_cases c_6883 : (6 : Int32) ≤ x3
    · rw [if_pos c_6883] at e
      refine Rn.bt hT rfl rfl rfl (decide_eq_true c_6883) ?_
      exact Rn.weak (ll_s (ll_s (ll_s (ll_s ll_e)))) (hk h x3 e)
    · rw [if_neg c_6883] at e
      refine Rn.bf hT rfl rfl rfl (decide_eq_false c_6883) ?_
      refine Rn.n hT 2 (pc' := 19) (L' := [some (.ref q0), some (.int x1), some (.int x2), some (.int x3)]) (st' := [.int x3, .ref q0]) rfl ?_
      obtain ⟨v_6885, e_6884, e⟩ := Option.bind_eq_some_iff.mp e
      refine Rn.call hT rfl rfl rfl (Nat.le_of_ble_eq_true rfl) rfl (rX12_palaceWord (by omega) e_6884 ?_)
      show Rn d _ _ 22 [some (.ref q0), some (.int x1), some (.int x2), some (.int x3)] [.ref v_6885, .ref q0] h Q
      obtain ⟨_, e_6887, e⟩ := Option.bind_eq_some_iff.mp e
      obtain ⟨v_6888, e_6886, e⟩ := Option.bind_eq_some_iff.mp e
      refine Rn.call hT rfl rfl rfl (Nat.le_of_ble_eq_true rfl) (rcv_v gX12_stood (by omega) e_6887) (rX12_stood (by omega) e_6886 ?_)
      show Rn d _ _ 25 [some (.ref q0), some (.int x1), some (.int x2), some (.int x3)] [.int v_6888] h Q
      by_cases c_6889 : v_6888 = 0
      · rw [if_pos c_6889] at e
        refine Rn.bf hT rfl rfl rfl (decide_eq_false (fun z => z c_6889)) ?_
        refine Rn.n hT 2 (pc' := 11) (L' := [some (.ref q0), some (.int x1), some (.int x2), some (.int (x3 + (1 : Int32)))]) (st' := []) rfl ?_
        exact Rn.weak (ll_s (ll_s (ll_s (ll_s ll_e)))) (ih h (x3 + (1 : Int32)) e)
      · rw [if_neg c_6889] at e
        refine Rn.bt hT rfl rfl rfl (decide_eq_true c_6889) ?_
        exact Rn.weak (ll_s (ll_s (ll_s (ll_s ll_e)))) (hk h x3 e)
def fX12_palaceClause_b34 (N : Nat) (h : iv_H) (q0 : Nat) (x1 : Int32) (x2 : Int32) (x3 : Int32)  : Option (iv_H) := (if x3 = (6 : Int32) then ((cko h q0 12).bind fun _ => (fX12_fails N h q0 (0 : Int32) x2).bind fun h_6914 => some h_6914) else ((cko h q0 12).bind fun _ => (fX12_isFull N h q0 x3 x1).bind fun v_6893 => (if v_6893 = 0 then ((gI h 12 29 q0).bind fun v_6895 => ((fX12_palaceWord N h x3).bind fun v_6898 => ((sL h v_6898).bind fun v_6900 => ((pV h 12 29 q0 (.int (v_6895 + v_6900))).bind fun h_6901 => ((cko h_6901 q0 12).bind fun _ => (fX12_palacePart N h_6901 q0 x3).bind fun h_6906 => some h_6906))))) else ((cko h q0 12).bind fun _ => (fX12_fails N h q0 (4 : Int32) x2).bind fun h_6910 => some h_6910))))
set_option maxRecDepth 10000 in
set_option maxHeartbeats 4000000 in
theorem rX12_palaceClause_b34 {d N : Nat} (hd : 11 ≤ d) {h : iv_H} {q0 : Nat} {x1 : Int32} {x2 : Int32} {x3 : Int32}  {r : iv_H} {Q : Option Value → iv_H → Prop} (hq : Q none r) (e : fX12_palaceClause_b34 N h q0 x1 x2 x3  = some r) : Rn d 234 none 34 [some (.ref q0), some (.int x1), some (.int x2), some (.int x3)] [] h Q := by
  have hT := hX12_palaceClause
  unfold fX12_palaceClause_b34 at e
  refine Rn.n hT 2 (pc' := 37) (L' := [some (.ref q0), some (.int x1), some (.int x2), some (.int x3)]) (st' := [.int (6 : Int32), .int x3]) rfl ?_
  by_cases c_6890 : x3 = (6 : Int32)
  · rw [if_pos c_6890] at e
    refine Rn.bf hT rfl rfl rfl (decide_eq_false (fun z => z c_6890)) ?_
    refine Rn.n hT 3 (pc' := 43) (L' := [some (.ref q0), some (.int x1), some (.int x2), some (.int x3)]) (st' := [.int x2, .int (0 : Int32), .ref q0]) rfl ?_
    obtain ⟨_, e_6912, e⟩ := Option.bind_eq_some_iff.mp e
    obtain ⟨h_6914, e_6911, e⟩ := Option.bind_eq_some_iff.mp e
    refine Rn.call hT rfl rfl rfl (Nat.le_of_ble_eq_true rfl) (rcv_v gX12_fails (by omega) e_6912) (rX12_fails (by omega) e_6911 ?_)
    show Rn d _ _ 46 [some (.ref q0), some (.int x1), some (.int x2), some (.int x3)] [] h_6914 Q
    obtain rfl := Option.some.inj e
    exact Rn.ret hT rfl rfl rfl hq
  · rw [if_neg c_6890] at e
    refine Rn.bt hT rfl rfl rfl (decide_eq_true c_6890) ?_
    refine Rn.n hT 3 (pc' := 50) (L' := [some (.ref q0), some (.int x1), some (.int x2), some (.int x3)]) (st' := [.int x1, .int x3, .ref q0]) rfl ?_
    obtain ⟨_, e_6892, e⟩ := Option.bind_eq_some_iff.mp e
    obtain ⟨v_6893, e_6891, e⟩ := Option.bind_eq_some_iff.mp e
    refine Rn.call hT rfl rfl rfl (Nat.le_of_ble_eq_true rfl) (rcv_v gX12_isFull (by omega) e_6892) (rX12_isFull (by omega) e_6891 ?_)
    show Rn d _ _ 53 [some (.ref q0), some (.int x1), some (.int x2), some (.int x3)] [.int v_6893] h Q
    by_cases c_6894 : v_6893 = 0
    · rw [if_pos c_6894] at e
      refine Rn.bt hT rfl rfl rfl (decide_eq_true c_6894) ?_
      refine Rn.n hT 2 (pc' := 65) (L' := [some (.ref q0), some (.int x1), some (.int x2), some (.int x3)]) (st' := [.ref q0, .ref q0]) rfl ?_
      obtain ⟨v_6895, e_6896, e⟩ := Option.bind_eq_some_iff.mp e
      refine Rn.hp hT rfl rfl (gI_hp e_6896) ?_
      refine Rn.n hT 1 (pc' := 69) (L' := [some (.ref q0), some (.int x1), some (.int x2), some (.int x3)]) (st' := [.int x3, .int v_6895, .ref q0]) rfl ?_
      obtain ⟨v_6898, e_6897, e⟩ := Option.bind_eq_some_iff.mp e
      refine Rn.call hT rfl rfl rfl (Nat.le_of_ble_eq_true rfl) rfl (rX12_palaceWord (by omega) e_6897 ?_)
      show Rn d _ _ 72 [some (.ref q0), some (.int x1), some (.int x2), some (.int x3)] [.ref v_6898, .int v_6895, .ref q0] h Q
      obtain ⟨v_6900, e_6899, e⟩ := Option.bind_eq_some_iff.mp e
      refine Rn.call hT rfl rfl rfl (Nat.le_of_ble_eq_true rfl) rfl (sL_cl (by omega) e_6899 ?_)
      show Rn d _ _ 75 [some (.ref q0), some (.int x1), some (.int x2), some (.int x3)] [.int v_6900, .int v_6895, .ref q0] h Q
      refine Rn.n hT 1 (pc' := 76) (L' := [some (.ref q0), some (.int x1), some (.int x2), some (.int x3)]) (st' := [.int (v_6895 + v_6900), .ref q0]) rfl ?_
      obtain ⟨h_6901, e_6902, e⟩ := Option.bind_eq_some_iff.mp e
      refine Rn.hp hT rfl rfl (pV_hp rfl e_6902) ?_
      refine Rn.n hT 2 (pc' := 81) (L' := [some (.ref q0), some (.int x1), some (.int x2), some (.int x3)]) (st' := [.int x3, .ref q0]) rfl ?_
      obtain ⟨_, e_6904, e⟩ := Option.bind_eq_some_iff.mp e
      obtain ⟨h_6906, e_6903, e⟩ := Option.bind_eq_some_iff.mp e
      refine Rn.call hT rfl rfl rfl (Nat.le_of_ble_eq_true rfl) (rcv_v gX12_palacePart (by omega) e_6904) (rX12_palacePart (by omega) e_6903 ?_)
      show Rn d _ _ 84 [some (.ref q0), some (.int x1), some (.int x2), some (.int x3)] [] h_6906 Q
      obtain rfl := Option.some.inj e
      exact Rn.ret hT rfl rfl rfl hq
    · rw [if_neg c_6894] at e
      refine Rn.bf hT rfl rfl rfl (decide_eq_false c_6894) ?_
      refine Rn.n hT 3 (pc' := 59) (L' := [some (.ref q0), some (.int x1), some (.int x2), some (.int x3)]) (st' := [.int x2, .int (4 : Int32), .ref q0]) rfl ?_
      obtain ⟨_, e_6908, e⟩ := Option.bind_eq_some_iff.mp e
      obtain ⟨h_6910, e_6907, e⟩ := Option.bind_eq_some_iff.mp e
      refine Rn.call hT rfl rfl rfl (Nat.le_of_ble_eq_true rfl) (rcv_v gX12_fails (by omega) e_6908) (rX12_fails (by omega) e_6907 ?_)
      show Rn d _ _ 62 [some (.ref q0), some (.int x1), some (.int x2), some (.int x3)] [] h_6910 Q
      obtain rfl := Option.some.inj e
      exact Rn.ret hT rfl rfl rfl hq
def fX12_palaceClause (N : Nat) (h : iv_H) (q0 : Nat) (x1 : Int32) : Option (iv_H) := ((cko h q0 12).bind fun _ => (fX12_blanks N h q0).bind fun h_6878 => ((gI h_6878 12 29 q0).bind fun v_6879 => (fX12_palaceClause_l11 N q0 x1 v_6879 (fun (h_6881 : iv_H) (z_6882 : Int32) => (fX12_palaceClause_b34 N h_6881 q0 x1 v_6879 z_6882)) N h_6878 (0 : Int32))))
set_option maxRecDepth 10000 in
set_option maxHeartbeats 4000000 in
theorem rX12_palaceClause {d N : Nat} (hd : 12 ≤ d) {h : iv_H} {q0 : Nat} {x1 : Int32} {r : iv_H} {Q : Option Value → iv_H → Prop} (e : fX12_palaceClause N h q0 x1 = some r) (hq : Q none r) : Cl d 234 [.ref q0, .int x1] h Q := by
  obtain ⟨d, rfl⟩ : ∃ k, d = k + 1 := ⟨d - 1, by omega⟩
  have hd : 11 ≤ d := by omega
  have hT := hX12_palaceClause
  unfold fX12_palaceClause at e
  refine Cl.into (by decide) gX12_palaceClause rfl ?_
  show Rn d 234 none 0 [some (.ref q0), some (.int x1), none, none] [] h Q
  refine Rn.n hT 1 (pc' := 1) (L' := [some (.ref q0), some (.int x1), none, none]) (st' := [.ref q0]) rfl ?_
  obtain ⟨_, e_6876, e⟩ := Option.bind_eq_some_iff.mp e
  obtain ⟨h_6878, e_6875, e⟩ := Option.bind_eq_some_iff.mp e
  refine Rn.call hT rfl rfl rfl (Nat.le_of_ble_eq_true rfl) (rcv_v gX12_blanks (by omega) e_6876) (rX12_blanks (by omega) e_6875 ?_)
  show Rn d _ _ 4 [some (.ref q0), some (.int x1), none, none] [] h_6878 Q
  refine Rn.n hT 1 (pc' := 5) (L' := [some (.ref q0), some (.int x1), none, none]) (st' := [.ref q0]) rfl ?_
  obtain ⟨v_6879, e_6880, e⟩ := Option.bind_eq_some_iff.mp e
  refine Rn.hp hT rfl rfl (gI_hp e_6880) ?_
  refine Rn.n hT 3 (pc' := 11) (L' := [some (.ref q0), some (.int x1), some (.int v_6879), some (.int (0 : Int32))]) (st' := []) rfl ?_
  refine Rn.weak (ll_s (ll_s (ll_s (ll_s ll_e)))) (rX12_palaceClause_l11 hd (fun h_6881 z_6882 e => ?_) hq N h_6878 (0 : Int32) e)
  try dsimp only at e
  exact Rn.weak (ll_s (ll_s (ll_s (ll_s ll_e)))) (rX12_palaceClause_b34 hd hq e)
set_option maxRecDepth 10000 in
theorem hX12_copies : iv_Tb 235 tX12_copies := iv_tb_of (m := mX12_copies) rfl
set_option maxRecDepth 10000 in
theorem gX12_copies : PG.2 235 = some mX12_copies := iv_pi_of (t := tX12_copies) rfl (by decide)
def fX12_copies_l2 (N : Nat) (q0 : Nat) (q1 : Nat) (kx : iv_H → Option (iv_H)) : Nat → iv_H → Int32 → Option (iv_H)
  | 0, _, _ => none
  | n + 1, h, x2 => ((aL h q0).bind fun v_6916 => (if v_6916 ≤ x2 then (kx h) else ((aI h q0 x2).bind fun v_6919 => ((wI h q1 x2 v_6919).bind fun h_6921 => (fX12_copies_l2 N q0 q1 kx n h_6921 (x2 + (1 : Int32)))))))
set_option maxRecDepth 10000 in
set_option maxHeartbeats 4000000 in
theorem rX12_copies_l2 {d N : Nat} (hd : 0 ≤ d) {q0 : Nat} {q1 : Nat} {kx : iv_H → Option (iv_H)} {r : iv_H} {Q : Option Value → iv_H → Prop} (hk : ∀ (h : iv_H), kx h = some r → Rn d 235 none 20 [none, none, none] [] h Q) (hq : Q none r) : ∀ (n : Nat) (h : iv_H) (x2 : Int32), fX12_copies_l2 N q0 q1 kx n h x2 = some r → Rn d 235 none 2 [some (.ref q0), some (.ref q1), some (.int x2)] [] h Q := by
  have hT := hX12_copies
  intro n
  induction n with
  | zero =>
    intro h x2 e
    rw [fX12_copies_l2] at e
    cases e
  | succ n ih =>
    intro h x2 e
    rw [fX12_copies_l2] at e
    refine Rn.n hT 2 (pc' := 4) (L' := [some (.ref q0), some (.ref q1), some (.int x2)]) (st' := [.ref q0, .int x2]) rfl ?_
    obtain ⟨v_6916, e_6917, e⟩ := Option.bind_eq_some_iff.mp e
    refine Rn.hp hT rfl rfl (aL_hp e_6917) ?_
    by_cases c_6918 : v_6916 ≤ x2
    · rw [if_pos c_6918] at e
      refine Rn.bt hT rfl rfl rfl (decide_eq_true c_6918) ?_
      exact Rn.weak (ll_n (ll_n (ll_n ll_e))) (hk h e)
    · rw [if_neg c_6918] at e
      refine Rn.bf hT rfl rfl rfl (decide_eq_false c_6918) ?_
      refine Rn.n hT 4 (pc' := 12) (L' := [some (.ref q0), some (.ref q1), some (.int x2)]) (st' := [.int x2, .ref q0, .int x2, .ref q1]) rfl ?_
      obtain ⟨v_6919, e_6920, e⟩ := Option.bind_eq_some_iff.mp e
      refine Rn.hp hT rfl rfl (aI_hp e_6920) ?_
      obtain ⟨h_6921, e_6922, e⟩ := Option.bind_eq_some_iff.mp e
      refine Rn.hp hT rfl rfl (wI_hp e_6922) ?_
      refine Rn.n hT 2 (pc' := 2) (L' := [some (.ref q0), some (.ref q1), some (.int (x2 + (1 : Int32)))]) (st' := []) rfl ?_
      exact Rn.weak (ll_s (ll_s (ll_s ll_e))) (ih h_6921 (x2 + (1 : Int32)) e)
def fX12_copies (N : Nat) (h : iv_H) (q0 : Nat) (q1 : Nat) : Option (iv_H) := (fX12_copies_l2 N q0 q1 (fun (h_6915 : iv_H) => some h_6915) N h (0 : Int32))
set_option maxRecDepth 10000 in
set_option maxHeartbeats 4000000 in
theorem rX12_copies {d N : Nat} (hd : 1 ≤ d) {h : iv_H} {q0 : Nat} {q1 : Nat} {r : iv_H} {Q : Option Value → iv_H → Prop} (e : fX12_copies N h q0 q1 = some r) (hq : Q none r) : Cl d 235 [.ref q0, .ref q1] h Q := by
  obtain ⟨d, rfl⟩ : ∃ k, d = k + 1 := ⟨d - 1, by omega⟩
  have hd : 0 ≤ d := by omega
  have hT := hX12_copies
  unfold fX12_copies at e
  refine Cl.into (by decide) gX12_copies rfl ?_
  show Rn d 235 none 0 [some (.ref q0), some (.ref q1), none] [] h Q
  refine Rn.n hT 2 (pc' := 2) (L' := [some (.ref q0), some (.ref q1), some (.int (0 : Int32))]) (st' := []) rfl ?_
  refine Rn.weak (ll_s (ll_s (ll_s ll_e))) (rX12_copies_l2 hd (fun h_6915 e => ?_) hq N h (0 : Int32) e)
  try dsimp only at e
  obtain rfl := Option.some.inj e
  exact Rn.ret hT rfl rfl rfl hq
set_option maxRecDepth 10000 in
theorem hX12_goesOn : iv_Tb 236 tX12_goesOn := iv_tb_of (m := mX12_goesOn) rfl
set_option maxRecDepth 10000 in
theorem gX12_goesOn : PG.2 236 = some mX12_goesOn := iv_pi_of (t := tX12_goesOn) rfl (by decide)
def fX12_goesOn_b63 (N : Nat) (h : iv_H) (q0 : Nat) (s0 : Int32) : Option (Int32 × iv_H) := ((gI h 12 29 q0).bind fun v_6953 => ((pV h 12 29 q0 (.int (v_6953 + (1 : Int32)))).bind fun h_6955 => (if s0 = 0 ∨ s0 = 1 then some (s0, h_6955) else none)))
set_option maxRecDepth 10000 in
set_option maxHeartbeats 4000000 in
theorem rX12_goesOn_b63 {d N : Nat} (hd : 2 ≤ d) {h : iv_H} {q0 : Nat} {s0 : Int32} {r : Int32 × iv_H} {Q : Option Value → iv_H → Prop} (hq : Q (some (.int r.1)) r.2) (e : fX12_goesOn_b63 N h q0 s0 = some r) : Rn d 236 (some .boolean) 63 [some (.ref q0), none] [.int s0] h Q := by
  have hT := hX12_goesOn
  unfold fX12_goesOn_b63 at e
  refine Rn.n hT 3 (pc' := 66) (L' := [some (.ref q0), some (.int s0)]) (st' := [.ref q0, .ref q0]) rfl ?_
  obtain ⟨v_6953, e_6954, e⟩ := Option.bind_eq_some_iff.mp e
  refine Rn.hp hT rfl rfl (gI_hp e_6954) ?_
  refine Rn.n hT 2 (pc' := 71) (L' := [some (.ref q0), some (.int s0)]) (st' := [.int (v_6953 + (1 : Int32)), .ref q0]) rfl ?_
  obtain ⟨h_6955, e_6956, e⟩ := Option.bind_eq_some_iff.mp e
  refine Rn.hp hT rfl rfl (pV_hp rfl e_6956) ?_
  refine Rn.n hT 1 (pc' := 75) (L' := [some (.ref q0), some (.int s0)]) (st' := [.int s0]) rfl ?_
  by_cases c_6957 : s0 = 0 ∨ s0 = 1
  · rw [if_pos c_6957] at e
    obtain rfl := Option.some.inj e
    exact Rn.ret hT rfl rfl (if_pos c_6957) hq
  · rw [if_neg c_6957] at e
    cases e
def fX12_goesOn_b62 (N : Nat) (h : iv_H) (q0 : Nat)  : Option (Int32 × iv_H) := (fX12_goesOn_b63 N h q0 (0 : Int32))
set_option maxRecDepth 10000 in
set_option maxHeartbeats 4000000 in
theorem rX12_goesOn_b62 {d N : Nat} (hd : 2 ≤ d) {h : iv_H} {q0 : Nat}  {r : Int32 × iv_H} {Q : Option Value → iv_H → Prop} (hq : Q (some (.int r.1)) r.2) (e : fX12_goesOn_b62 N h q0  = some r) : Rn d 236 (some .boolean) 62 [some (.ref q0), none] [] h Q := by
  have hT := hX12_goesOn
  unfold fX12_goesOn_b62 at e
  refine Rn.n hT 1 (pc' := 63) (L' := [some (.ref q0), none]) (st' := [.int (0 : Int32)]) rfl ?_
  exact Rn.weak (ll_s (ll_n ll_e)) (rX12_goesOn_b63 hd hq e)
def fX12_goesOn_b40 (N : Nat) (h : iv_H) (q0 : Nat)  : Option (Int32 × iv_H) := ((gI h 12 30 q0).bind fun v_6945 => (if v_6945 = 0 then ((gI h 12 29 q0).bind fun v_6948 => ((gI h 12 28 q0).bind fun v_6950 => (if v_6950 ≤ v_6948 then (fX12_goesOn_b62 N h q0) else (fX12_goesOn_b63 N h q0 (1 : Int32))))) else (fX12_goesOn_b62 N h q0)))
set_option maxRecDepth 10000 in
set_option maxHeartbeats 4000000 in
theorem rX12_goesOn_b40 {d N : Nat} (hd : 2 ≤ d) {h : iv_H} {q0 : Nat}  {r : Int32 × iv_H} {Q : Option Value → iv_H → Prop} (hq : Q (some (.int r.1)) r.2) (e : fX12_goesOn_b40 N h q0  = some r) : Rn d 236 (some .boolean) 40 [some (.ref q0), none] [] h Q := by
  have hT := hX12_goesOn
  unfold fX12_goesOn_b40 at e
  refine Rn.n hT 1 (pc' := 41) (L' := [some (.ref q0), none]) (st' := [.ref q0]) rfl ?_
  obtain ⟨v_6945, e_6946, e⟩ := Option.bind_eq_some_iff.mp e
  refine Rn.hp hT rfl rfl (gI_hp e_6946) ?_
  by_cases c_6947 : v_6945 = 0
  · rw [if_pos c_6947] at e
    refine Rn.bf hT rfl rfl rfl (decide_eq_false (fun z => z c_6947)) ?_
    refine Rn.n hT 1 (pc' := 48) (L' := [some (.ref q0), none]) (st' := [.ref q0]) rfl ?_
    obtain ⟨v_6948, e_6949, e⟩ := Option.bind_eq_some_iff.mp e
    refine Rn.hp hT rfl rfl (gI_hp e_6949) ?_
    refine Rn.n hT 1 (pc' := 52) (L' := [some (.ref q0), none]) (st' := [.ref q0, .int v_6948]) rfl ?_
    obtain ⟨v_6950, e_6951, e⟩ := Option.bind_eq_some_iff.mp e
    refine Rn.hp hT rfl rfl (gI_hp e_6951) ?_
    by_cases c_6952 : v_6950 ≤ v_6948
    · rw [if_pos c_6952] at e
      refine Rn.bt hT rfl rfl rfl (decide_eq_true c_6952) ?_
      exact Rn.weak (ll_s (ll_n ll_e)) (rX12_goesOn_b62 hd hq e)
    · rw [if_neg c_6952] at e
      refine Rn.bf hT rfl rfl rfl (decide_eq_false c_6952) ?_
      refine Rn.n hT 2 (pc' := 63) (L' := [some (.ref q0), none]) (st' := [.int (1 : Int32)]) rfl ?_
      exact Rn.weak (ll_s (ll_n ll_e)) (rX12_goesOn_b63 hd hq e)
  · rw [if_neg c_6947] at e
    refine Rn.bt hT rfl rfl rfl (decide_eq_true c_6947) ?_
    exact Rn.weak (ll_s (ll_n ll_e)) (rX12_goesOn_b62 hd hq e)
def fX12_goesOn (N : Nat) (h : iv_H) (q0 : Nat) : Option (Int32 × iv_H) := ((cko h q0 12).bind fun _ => (fX12_blanks N h q0).bind fun h_6926 => ((gI h_6926 12 30 q0).bind fun v_6927 => (if v_6927 = 0 then ((gI h_6926 12 29 q0).bind fun v_6930 => ((gI h_6926 12 28 q0).bind fun v_6932 => (if v_6932 ≤ v_6930 then (fX12_goesOn_b40 N h_6926 q0) else ((cko h_6926 q0 12).bind fun _ => (fX12_sign N h_6926 q0).bind fun v_6937 => (if v_6937 = (59 : Int32) then (fX12_goesOn_b40 N h_6926 q0) else ((gI h_6926 12 29 q0).bind fun v_6939 => ((cko h_6926 q0 12).bind fun _ => (fX12_fails N h_6926 q0 (0 : Int32) v_6939).bind fun h_6944 => (fX12_goesOn_b40 N h_6944 q0)))))))) else (fX12_goesOn_b40 N h_6926 q0))))
set_option maxRecDepth 10000 in
set_option maxHeartbeats 4000000 in
theorem rX12_goesOn {d N : Nat} (hd : 3 ≤ d) {h : iv_H} {q0 : Nat} {r : Int32 × iv_H} {Q : Option Value → iv_H → Prop} (e : fX12_goesOn N h q0 = some r) (hq : Q (some (.int r.1)) r.2) : Cl d 236 [.ref q0] h Q := by
  obtain ⟨d, rfl⟩ : ∃ k, d = k + 1 := ⟨d - 1, by omega⟩
  have hd : 2 ≤ d := by omega
  have hT := hX12_goesOn
  unfold fX12_goesOn at e
  refine Cl.into (by decide) gX12_goesOn rfl ?_
  show Rn d 236 (some .boolean) 0 [some (.ref q0), none] [] h Q
  refine Rn.n hT 1 (pc' := 1) (L' := [some (.ref q0), none]) (st' := [.ref q0]) rfl ?_
  obtain ⟨_, e_6924, e⟩ := Option.bind_eq_some_iff.mp e
  obtain ⟨h_6926, e_6923, e⟩ := Option.bind_eq_some_iff.mp e
  refine Rn.call hT rfl rfl rfl (Nat.le_of_ble_eq_true rfl) (rcv_v gX12_blanks (by omega) e_6924) (rX12_blanks (by omega) e_6923 ?_)
  show Rn d _ _ 4 [some (.ref q0), none] [] h_6926 Q
  refine Rn.n hT 1 (pc' := 5) (L' := [some (.ref q0), none]) (st' := [.ref q0]) rfl ?_
  obtain ⟨v_6927, e_6928, e⟩ := Option.bind_eq_some_iff.mp e
  refine Rn.hp hT rfl rfl (gI_hp e_6928) ?_
  by_cases c_6929 : v_6927 = 0
  · rw [if_pos c_6929] at e
    refine Rn.bf hT rfl rfl rfl (decide_eq_false (fun z => z c_6929)) ?_
    refine Rn.n hT 1 (pc' := 12) (L' := [some (.ref q0), none]) (st' := [.ref q0]) rfl ?_
    obtain ⟨v_6930, e_6931, e⟩ := Option.bind_eq_some_iff.mp e
    refine Rn.hp hT rfl rfl (gI_hp e_6931) ?_
    refine Rn.n hT 1 (pc' := 16) (L' := [some (.ref q0), none]) (st' := [.ref q0, .int v_6930]) rfl ?_
    obtain ⟨v_6932, e_6933, e⟩ := Option.bind_eq_some_iff.mp e
    refine Rn.hp hT rfl rfl (gI_hp e_6933) ?_
    by_cases c_6934 : v_6932 ≤ v_6930
    · rw [if_pos c_6934] at e
      refine Rn.bt hT rfl rfl rfl (decide_eq_true c_6934) ?_
      exact Rn.weak (ll_s (ll_n ll_e)) (rX12_goesOn_b40 hd hq e)
    · rw [if_neg c_6934] at e
      refine Rn.bf hT rfl rfl rfl (decide_eq_false c_6934) ?_
      refine Rn.n hT 1 (pc' := 23) (L' := [some (.ref q0), none]) (st' := [.ref q0]) rfl ?_
      obtain ⟨_, e_6936, e⟩ := Option.bind_eq_some_iff.mp e
      obtain ⟨v_6937, e_6935, e⟩ := Option.bind_eq_some_iff.mp e
      refine Rn.call hT rfl rfl rfl (Nat.le_of_ble_eq_true rfl) (rcv_v gX12_sign (by omega) e_6936) (rX12_sign (by omega) e_6935 ?_)
      show Rn d _ _ 26 [some (.ref q0), none] [.int v_6937] h_6926 Q
      refine Rn.n hT 1 (pc' := 28) (L' := [some (.ref q0), none]) (st' := [.int (59 : Int32), .int v_6937]) rfl ?_
      by_cases c_6938 : v_6937 = (59 : Int32)
      · rw [if_pos c_6938] at e
        refine Rn.bt hT rfl rfl rfl (decide_eq_true c_6938) ?_
        exact Rn.weak (ll_s (ll_n ll_e)) (rX12_goesOn_b40 hd hq e)
      · rw [if_neg c_6938] at e
        refine Rn.bf hT rfl rfl rfl (decide_eq_false c_6938) ?_
        refine Rn.n hT 3 (pc' := 34) (L' := [some (.ref q0), none]) (st' := [.ref q0, .int (0 : Int32), .ref q0]) rfl ?_
        obtain ⟨v_6939, e_6940, e⟩ := Option.bind_eq_some_iff.mp e
        refine Rn.hp hT rfl rfl (gI_hp e_6940) ?_
        obtain ⟨_, e_6942, e⟩ := Option.bind_eq_some_iff.mp e
        obtain ⟨h_6944, e_6941, e⟩ := Option.bind_eq_some_iff.mp e
        refine Rn.call hT rfl rfl rfl (Nat.le_of_ble_eq_true rfl) (rcv_v gX12_fails (by omega) e_6942) (rX12_fails (by omega) e_6941 ?_)
        show Rn d _ _ 40 [some (.ref q0), none] [] h_6944 Q
        exact Rn.weak (ll_s (ll_n ll_e)) (rX12_goesOn_b40 hd hq e)
  · rw [if_neg c_6929] at e
    refine Rn.bt hT rfl rfl rfl (decide_eq_true c_6929) ?_
    exact Rn.weak (ll_s (ll_n ll_e)) (rX12_goesOn_b40 hd hq e)
set_option maxRecDepth 10000 in
theorem hX12_starts : iv_Tb 237 tX12_starts := iv_tb_of (m := mX12_starts) rfl
set_option maxRecDepth 10000 in
theorem gX12_starts : PG.2 237 = some mX12_starts := iv_pi_of (t := tX12_starts) rfl (by decide)
def fX12_starts (N : Nat) (h : iv_H) (q0 : Nat) : Option (iv_H) := ((pV h 12 29 q0 (.int (0 : Int32))).bind fun h_6958 => ((pV h_6958 12 30 q0 (.int (0 : Int32))).bind fun h_6960 => ((pV h_6960 12 33 q0 (.int (0 : Int32))).bind fun h_6962 => ((pV h_6962 12 34 q0 (.int (0 : Int32))).bind fun h_6964 => ((pV h_6964 12 35 q0 (.int (0 : Int32))).bind fun h_6966 => some h_6966)))))
set_option maxRecDepth 10000 in
set_option maxHeartbeats 4000000 in
theorem rX12_starts {d N : Nat} (hd : 1 ≤ d) {h : iv_H} {q0 : Nat} {r : iv_H} {Q : Option Value → iv_H → Prop} (e : fX12_starts N h q0 = some r) (hq : Q none r) : Cl d 237 [.ref q0] h Q := by
  obtain ⟨d, rfl⟩ : ∃ k, d = k + 1 := ⟨d - 1, by omega⟩
  have hd : 0 ≤ d := by omega
  have hT := hX12_starts
  unfold fX12_starts at e
  refine Cl.into (by decide) gX12_starts rfl ?_
  show Rn d 237 none 0 [some (.ref q0)] [] h Q
  refine Rn.n hT 2 (pc' := 2) (L' := [some (.ref q0)]) (st' := [.int (0 : Int32), .ref q0]) rfl ?_
  obtain ⟨h_6958, e_6959, e⟩ := Option.bind_eq_some_iff.mp e
  refine Rn.hp hT rfl rfl (pV_hp rfl e_6959) ?_
  refine Rn.n hT 2 (pc' := 7) (L' := [some (.ref q0)]) (st' := [.int (0 : Int32), .ref q0]) rfl ?_
  obtain ⟨h_6960, e_6961, e⟩ := Option.bind_eq_some_iff.mp e
  refine Rn.hp hT rfl rfl (pV_hp rfl e_6961) ?_
  refine Rn.n hT 2 (pc' := 12) (L' := [some (.ref q0)]) (st' := [.int (0 : Int32), .ref q0]) rfl ?_
  obtain ⟨h_6962, e_6963, e⟩ := Option.bind_eq_some_iff.mp e
  refine Rn.hp hT rfl rfl (pV_hp rfl e_6963) ?_
  refine Rn.n hT 2 (pc' := 17) (L' := [some (.ref q0)]) (st' := [.int (0 : Int32), .ref q0]) rfl ?_
  obtain ⟨h_6964, e_6965, e⟩ := Option.bind_eq_some_iff.mp e
  refine Rn.hp hT rfl rfl (pV_hp rfl e_6965) ?_
  refine Rn.n hT 2 (pc' := 22) (L' := [some (.ref q0)]) (st' := [.int (0 : Int32), .ref q0]) rfl ?_
  obtain ⟨h_6966, e_6967, e⟩ := Option.bind_eq_some_iff.mp e
  refine Rn.hp hT rfl rfl (pV_hp rfl e_6967) ?_
  obtain rfl := Option.some.inj e
  exact Rn.ret hT rfl rfl rfl hq
set_option maxRecDepth 10000 in
theorem hX12_readsAll : iv_Tb 238 tX12_readsAll := iv_tb_of (m := mX12_readsAll) rfl
set_option maxRecDepth 10000 in
theorem gX12_readsAll : PG.2 238 = some mX12_readsAll := iv_pi_of (t := tX12_readsAll) rfl (by decide)
def fX12_readsAll_l11 (N : Nat) (q0 : Nat) (kx : iv_H → Option (iv_H)) : Nat → iv_H → Int32 → Option (iv_H)
  | 0, _, _ => none
  | n + 1, h, x1 => (if (5 : Int32) ≤ x1 then (kx h) else ((gR h 12 19 q0).bind fun v_6985 => ((wI h v_6985 x1 (0 : Int32)).bind fun h_6987 => (fX12_readsAll_l11 N q0 kx n h_6987 (x1 + (1 : Int32))))))
set_option maxRecDepth 10000 in
set_option maxHeartbeats 4000000 in
theorem rX12_readsAll_l11 {d N : Nat} (hd : 12 ≤ d) {q0 : Nat} {kx : iv_H → Option (iv_H)} {r : iv_H} {Q : Option Value → iv_H → Prop} (hk : ∀ (h : iv_H), kx h = some r → Rn d 238 none 29 [some (.ref q0), none, none] [] h Q) (hq : Q none r) : ∀ (n : Nat) (h : iv_H) (x1 : Int32), fX12_readsAll_l11 N q0 kx n h x1 = some r → Rn d 238 none 11 [some (.ref q0), some (.int x1), none] [] h Q := by
  have hT := hX12_readsAll
  intro n
  induction n with
  | zero =>
    intro h x1 e
    rw [fX12_readsAll_l11] at e
    cases e
  | succ n ih =>
    intro h x1 e
    rw [fX12_readsAll_l11] at e
    refine Rn.n hT 2 (pc' := 13) (L' := [some (.ref q0), some (.int x1), none]) (st' := [.int (5 : Int32), .int x1]) rfl ?_
    by_cases c_6984 : (5 : Int32) ≤ x1
    · rw [if_pos c_6984] at e
      refine Rn.bt hT rfl rfl rfl (decide_eq_true c_6984) ?_
      exact Rn.weak (ll_s (ll_n (ll_n ll_e))) (hk h e)
    · rw [if_neg c_6984] at e
      refine Rn.bf hT rfl rfl rfl (decide_eq_false c_6984) ?_
      refine Rn.n hT 1 (pc' := 17) (L' := [some (.ref q0), some (.int x1), none]) (st' := [.ref q0]) rfl ?_
      obtain ⟨v_6985, e_6986, e⟩ := Option.bind_eq_some_iff.mp e
      refine Rn.hp hT rfl rfl (gR_hp e_6986) ?_
      refine Rn.n hT 2 (pc' := 22) (L' := [some (.ref q0), some (.int x1), none]) (st' := [.int (0 : Int32), .int x1, .ref v_6985]) rfl ?_
      obtain ⟨h_6987, e_6988, e⟩ := Option.bind_eq_some_iff.mp e
      refine Rn.hp hT rfl rfl (wI_hp e_6988) ?_
      refine Rn.n hT 2 (pc' := 11) (L' := [some (.ref q0), some (.int (x1 + (1 : Int32))), none]) (st' := []) rfl ?_
      exact Rn.weak (ll_s (ll_s (ll_n ll_e))) (ih h_6987 (x1 + (1 : Int32)) e)
def fX12_readsAll_l39 (N : Nat) (q0 : Nat) (kx : iv_H → Option (iv_H)) : Nat → iv_H → Int32 → Option (iv_H)
  | 0, _, _ => none
  | n + 1, h, x1 => (if (4 : Int32) ≤ x1 then (kx h) else ((gR h 12 23 q0).bind fun v_6990 => ((wI h v_6990 x1 (-1 : Int32)).bind fun h_6992 => (fX12_readsAll_l39 N q0 kx n h_6992 (x1 + (1 : Int32))))))
set_option maxRecDepth 10000 in
set_option maxHeartbeats 4000000 in
theorem rX12_readsAll_l39 {d N : Nat} (hd : 12 ≤ d) {q0 : Nat} {kx : iv_H → Option (iv_H)} {r : iv_H} {Q : Option Value → iv_H → Prop} (hk : ∀ (h : iv_H), kx h = some r → Rn d 238 none 57 [some (.ref q0), none, none] [] h Q) (hq : Q none r) : ∀ (n : Nat) (h : iv_H) (x1 : Int32), fX12_readsAll_l39 N q0 kx n h x1 = some r → Rn d 238 none 39 [some (.ref q0), some (.int x1), none] [] h Q := by
  have hT := hX12_readsAll
  intro n
  induction n with
  | zero =>
    intro h x1 e
    rw [fX12_readsAll_l39] at e
    cases e
  | succ n ih =>
    intro h x1 e
    rw [fX12_readsAll_l39] at e
    refine Rn.n hT 2 (pc' := 41) (L' := [some (.ref q0), some (.int x1), none]) (st' := [.int (4 : Int32), .int x1]) rfl ?_
    by_cases c_6989 : (4 : Int32) ≤ x1
    · rw [if_pos c_6989] at e
      refine Rn.bt hT rfl rfl rfl (decide_eq_true c_6989) ?_
      exact Rn.weak (ll_s (ll_n (ll_n ll_e))) (hk h e)
    · rw [if_neg c_6989] at e
      refine Rn.bf hT rfl rfl rfl (decide_eq_false c_6989) ?_
      refine Rn.n hT 1 (pc' := 45) (L' := [some (.ref q0), some (.int x1), none]) (st' := [.ref q0]) rfl ?_
      obtain ⟨v_6990, e_6991, e⟩ := Option.bind_eq_some_iff.mp e
      refine Rn.hp hT rfl rfl (gR_hp e_6991) ?_
      refine Rn.n hT 2 (pc' := 50) (L' := [some (.ref q0), some (.int x1), none]) (st' := [.int (-1 : Int32), .int x1, .ref v_6990]) rfl ?_
      obtain ⟨h_6992, e_6993, e⟩ := Option.bind_eq_some_iff.mp e
      refine Rn.hp hT rfl rfl (wI_hp e_6993) ?_
      refine Rn.n hT 2 (pc' := 39) (L' := [some (.ref q0), some (.int (x1 + (1 : Int32))), none]) (st' := []) rfl ?_
      exact Rn.weak (ll_s (ll_s (ll_n ll_e))) (ih h_6992 (x1 + (1 : Int32)) e)
def fX12_readsAll_l59 (N : Nat) (q0 : Nat) (kx : iv_H → Option (iv_H)) : Nat → iv_H → Int32 → Option (iv_H)
  | 0, _, _ => none
  | n + 1, h, x1 => (if (16 : Int32) ≤ x1 then (kx h) else ((gR h 12 25 q0).bind fun v_6995 => ((wI h v_6995 x1 (-1 : Int32)).bind fun h_6997 => (fX12_readsAll_l59 N q0 kx n h_6997 (x1 + (1 : Int32))))))
set_option maxRecDepth 10000 in
set_option maxHeartbeats 4000000 in
theorem rX12_readsAll_l59 {d N : Nat} (hd : 12 ≤ d) {q0 : Nat} {kx : iv_H → Option (iv_H)} {r : iv_H} {Q : Option Value → iv_H → Prop} (hk : ∀ (h : iv_H), kx h = some r → Rn d 238 none 78 [some (.ref q0), none, none] [] h Q) (hq : Q none r) : ∀ (n : Nat) (h : iv_H) (x1 : Int32), fX12_readsAll_l59 N q0 kx n h x1 = some r → Rn d 238 none 59 [some (.ref q0), some (.int x1), none] [] h Q := by
  have hT := hX12_readsAll
  intro n
  induction n with
  | zero =>
    intro h x1 e
    rw [fX12_readsAll_l59] at e
    cases e
  | succ n ih =>
    intro h x1 e
    rw [fX12_readsAll_l59] at e
    refine Rn.n hT 2 (pc' := 62) (L' := [some (.ref q0), some (.int x1), none]) (st' := [.int (16 : Int32), .int x1]) rfl ?_
    by_cases c_6994 : (16 : Int32) ≤ x1
    · rw [if_pos c_6994] at e
      refine Rn.bt hT rfl rfl rfl (decide_eq_true c_6994) ?_
      exact Rn.weak (ll_s (ll_n (ll_n ll_e))) (hk h e)
    · rw [if_neg c_6994] at e
      refine Rn.bf hT rfl rfl rfl (decide_eq_false c_6994) ?_
      refine Rn.n hT 1 (pc' := 66) (L' := [some (.ref q0), some (.int x1), none]) (st' := [.ref q0]) rfl ?_
      obtain ⟨v_6995, e_6996, e⟩ := Option.bind_eq_some_iff.mp e
      refine Rn.hp hT rfl rfl (gR_hp e_6996) ?_
      refine Rn.n hT 2 (pc' := 71) (L' := [some (.ref q0), some (.int x1), none]) (st' := [.int (-1 : Int32), .int x1, .ref v_6995]) rfl ?_
      obtain ⟨h_6997, e_6998, e⟩ := Option.bind_eq_some_iff.mp e
      refine Rn.hp hT rfl rfl (wI_hp e_6998) ?_
      refine Rn.n hT 2 (pc' := 59) (L' := [some (.ref q0), some (.int (x1 + (1 : Int32))), none]) (st' := []) rfl ?_
      exact Rn.weak (ll_s (ll_s (ll_n ll_e))) (ih h_6997 (x1 + (1 : Int32)) e)
def fX12_readsAll_l82 (N : Nat) (q0 : Nat) (kx : iv_H → Option (iv_H)) : Nat → iv_H → Int32 → Int32 → Option (iv_H)
  | 0, _, _, _ => none
  | n + 1, h, x1, x2 => (if x2 = 0 then (kx h) else ((cko h q0 12).bind fun _ => (fX12_palaceClause N h q0 x1).bind fun h_7003 => ((cko h_7003 q0 12).bind fun _ => (fX12_goesOn N h_7003 q0).bind fun p_7008 => (fun (v_7006 : Int32) (h_7007 : iv_H) => (fX12_readsAll_l82 N q0 kx n h_7007 (x1 + (1 : Int32)) v_7006)) p_7008.1 p_7008.2)))
set_option maxRecDepth 10000 in
set_option maxHeartbeats 4000000 in
theorem rX12_readsAll_l82 {d N : Nat} (hd : 12 ≤ d) {q0 : Nat} {kx : iv_H → Option (iv_H)} {r : iv_H} {Q : Option Value → iv_H → Prop} (hk : ∀ (h : iv_H), kx h = some r → Rn d 238 none 102 [some (.ref q0), none, none] [] h Q) (hq : Q none r) : ∀ (n : Nat) (h : iv_H) (x1 : Int32) (x2 : Int32), fX12_readsAll_l82 N q0 kx n h x1 x2 = some r → Rn d 238 none 82 [some (.ref q0), some (.int x1), some (.int x2)] [] h Q := by
  have hT := hX12_readsAll
  intro n
  induction n with
  | zero =>
    intro h x1 x2 e
    rw [fX12_readsAll_l82] at e
    cases e
  | succ n ih =>
    intro h x1 x2 e
    rw [fX12_readsAll_l82] at e
    refine Rn.n hT 1 (pc' := 83) (L' := [some (.ref q0), some (.int x1), some (.int x2)]) (st' := [.int x2]) rfl ?_
    by_cases c_6999 : x2 = 0
    · rw [if_pos c_6999] at e
      refine Rn.bt hT rfl rfl rfl (decide_eq_true c_6999) ?_
      exact Rn.weak (ll_s (ll_n (ll_n ll_e))) (hk h e)
    · rw [if_neg c_6999] at e
      refine Rn.bf hT rfl rfl rfl (decide_eq_false c_6999) ?_
      refine Rn.n hT 2 (pc' := 88) (L' := [some (.ref q0), some (.int x1), some (.int x2)]) (st' := [.int x1, .ref q0]) rfl ?_
      obtain ⟨_, e_7001, e⟩ := Option.bind_eq_some_iff.mp e
      obtain ⟨h_7003, e_7000, e⟩ := Option.bind_eq_some_iff.mp e
      refine Rn.call hT rfl rfl rfl (Nat.le_of_ble_eq_true rfl) (rcv_v gX12_palaceClause (by omega) e_7001) (rX12_palaceClause (by omega) e_7000 ?_)
      show Rn d _ _ 91 [some (.ref q0), some (.int x1), some (.int x2)] [] h_7003 Q
      refine Rn.n hT 2 (pc' := 95) (L' := [some (.ref q0), some (.int (x1 + (1 : Int32))), some (.int x2)]) (st' := [.ref q0]) rfl ?_
      obtain ⟨_, e_7005, e⟩ := Option.bind_eq_some_iff.mp e
      obtain ⟨⟨v_7006, h_7007⟩, e_7004, e⟩ := Option.bind_eq_some_iff.mp e
      try dsimp only at e
      try dsimp only at e
      refine Rn.call hT rfl rfl rfl (Nat.le_of_ble_eq_true rfl) (rcv_v gX12_goesOn (by omega) e_7005) (rX12_goesOn (by omega) e_7004 ?_)
      show Rn d _ _ 98 [some (.ref q0), some (.int (x1 + (1 : Int32))), some (.int x2)] [.int v_7006] h_7007 Q
      refine Rn.n hT 2 (pc' := 82) (L' := [some (.ref q0), some (.int (x1 + (1 : Int32))), some (.int v_7006)]) (st' := []) rfl ?_
      exact Rn.weak (ll_s (ll_s (ll_s ll_e))) (ih h_7007 (x1 + (1 : Int32)) v_7006 e)
def fX12_readsAll (N : Nat) (h : iv_H) (q0 : Nat) : Option (iv_H) := ((cko h q0 12).bind fun _ => (fX12_starts N h q0).bind fun h_6971 => ((pV h_6971 12 38 q0 (.int (0 : Int32))).bind fun h_6972 => (fX12_readsAll_l11 N q0 (fun (h_6974 : iv_H) => ((gR h_6974 12 19 q0).bind fun v_6975 => ((wI h_6974 v_6975 (4 : Int32) (7 : Int32)).bind fun h_6977 => (fX12_readsAll_l39 N q0 (fun (h_6979 : iv_H) => (fX12_readsAll_l59 N q0 (fun (h_6980 : iv_H) => (fX12_readsAll_l82 N q0 (fun (h_6981 : iv_H) => ((pV h_6981 12 28 q0 (.int (0 : Int32))).bind fun h_6982 => some h_6982)) N h_6980 (0 : Int32) (1 : Int32))) N h_6979 (0 : Int32))) N h_6977 (0 : Int32))))) N h_6972 (0 : Int32))))
set_option maxRecDepth 10000 in
set_option maxHeartbeats 4000000 in
theorem rX12_readsAll {d N : Nat} (hd : 13 ≤ d) {h : iv_H} {q0 : Nat} {r : iv_H} {Q : Option Value → iv_H → Prop} (e : fX12_readsAll N h q0 = some r) (hq : Q none r) : Cl d 238 [.ref q0] h Q := by
  obtain ⟨d, rfl⟩ : ∃ k, d = k + 1 := ⟨d - 1, by omega⟩
  have hd : 12 ≤ d := by omega
  have hT := hX12_readsAll
  unfold fX12_readsAll at e
  refine Cl.into (by decide) gX12_readsAll rfl ?_
  show Rn d 238 none 0 [some (.ref q0), none, none] [] h Q
  refine Rn.n hT 1 (pc' := 1) (L' := [some (.ref q0), none, none]) (st' := [.ref q0]) rfl ?_
  obtain ⟨_, e_6969, e⟩ := Option.bind_eq_some_iff.mp e
  obtain ⟨h_6971, e_6968, e⟩ := Option.bind_eq_some_iff.mp e
  refine Rn.call hT rfl rfl rfl (Nat.le_of_ble_eq_true rfl) (rcv_v gX12_starts (by omega) e_6969) (rX12_starts (by omega) e_6968 ?_)
  show Rn d _ _ 4 [some (.ref q0), none, none] [] h_6971 Q
  refine Rn.n hT 2 (pc' := 6) (L' := [some (.ref q0), none, none]) (st' := [.int (0 : Int32), .ref q0]) rfl ?_
  obtain ⟨h_6972, e_6973, e⟩ := Option.bind_eq_some_iff.mp e
  refine Rn.hp hT rfl rfl (pV_hp (by decide) e_6973) ?_
  refine Rn.n hT 2 (pc' := 11) (L' := [some (.ref q0), some (.int (0 : Int32)), none]) (st' := []) rfl ?_
  refine Rn.weak (ll_s (ll_s (ll_n ll_e))) (rX12_readsAll_l11 hd (fun h_6974 e => ?_) hq N h_6972 (0 : Int32) e)
  try dsimp only at e
  refine Rn.n hT 1 (pc' := 30) (L' := [some (.ref q0), none, none]) (st' := [.ref q0]) rfl ?_
  obtain ⟨v_6975, e_6976, e⟩ := Option.bind_eq_some_iff.mp e
  refine Rn.hp hT rfl rfl (gR_hp e_6976) ?_
  refine Rn.n hT 2 (pc' := 36) (L' := [some (.ref q0), none, none]) (st' := [.int (7 : Int32), .int (4 : Int32), .ref v_6975]) rfl ?_
  obtain ⟨h_6977, e_6978, e⟩ := Option.bind_eq_some_iff.mp e
  refine Rn.hp hT rfl rfl (wI_hp e_6978) ?_
  refine Rn.n hT 2 (pc' := 39) (L' := [some (.ref q0), some (.int (0 : Int32)), none]) (st' := []) rfl ?_
  refine Rn.weak (ll_s (ll_s (ll_n ll_e))) (rX12_readsAll_l39 hd (fun h_6979 e => ?_) hq N h_6977 (0 : Int32) e)
  try dsimp only at e
  refine Rn.n hT 2 (pc' := 59) (L' := [some (.ref q0), some (.int (0 : Int32)), none]) (st' := []) rfl ?_
  refine Rn.weak (ll_s (ll_s (ll_n ll_e))) (rX12_readsAll_l59 hd (fun h_6980 e => ?_) hq N h_6979 (0 : Int32) e)
  try dsimp only at e
  refine Rn.n hT 4 (pc' := 82) (L' := [some (.ref q0), some (.int (0 : Int32)), some (.int (1 : Int32))]) (st' := []) rfl ?_
  refine Rn.weak (ll_s (ll_s (ll_s ll_e))) (rX12_readsAll_l82 hd (fun h_6981 e => ?_) hq N h_6980 (0 : Int32) (1 : Int32) e)
  try dsimp only at e
  refine Rn.n hT 2 (pc' := 104) (L' := [some (.ref q0), none, none]) (st' := [.int (0 : Int32), .ref q0]) rfl ?_
  obtain ⟨h_6982, e_6983, e⟩ := Option.bind_eq_some_iff.mp e
  refine Rn.hp hT rfl rfl (pV_hp rfl e_6983) ?_
  obtain rfl := Option.some.inj e
  exact Rn.ret hT rfl rfl rfl hq
set_option maxRecDepth 10000 in
theorem hX12_palace : iv_Tb 239 tX12_palace := iv_tb_of (m := mX12_palace) rfl
set_option maxRecDepth 10000 in
theorem gX12_palace : PG.2 239 = some mX12_palace := iv_pi_of (t := tX12_palace) rfl (by decide)
def fX12_palace_b47 (N : Nat) (h : iv_H) (q0 : Nat) (x1 : Int32) (s0 : Int32) (s1 : Int32) (sq2 : Nat) (kb : iv_H → Int32 → Option (Int32 × iv_H)) (kx : iv_H → Option (Int32 × iv_H)) : Option (Int32 × iv_H) := ((wI h sq2 s1 s0).bind fun h_7078 => (kb h_7078 (x1 + (1 : Int32))))
set_option maxRecDepth 10000 in
set_option maxHeartbeats 4000000 in
theorem rX12_palace_b47 {d N : Nat} (hd : 13 ≤ d) {h : iv_H} {q0 : Nat} {x1 : Int32} {s0 : Int32} {s1 : Int32} {sq2 : Nat} {kb : iv_H → Int32 → Option (Int32 × iv_H)} {kx : iv_H → Option (Int32 × iv_H)} {r : Int32 × iv_H} {Q : Option Value → iv_H → Prop} (hb : ∀ (h : iv_H) (w1 : Int32), kb h w1 = some r → Rn d 239 (some .int) 21 [some (.ref q0), some (.int w1)] [] h Q) (hk : ∀ (h : iv_H), kx h = some r → Rn d 239 (some .int) 54 [some (.ref q0), none] [] h Q) (hq : Q (some (.int r.1)) r.2) (e : fX12_palace_b47 N h q0 x1 s0 s1 sq2 kb kx = some r) : Rn d 239 (some .int) 47 [some (.ref q0), some (.int x1)] [.int s0, .int s1, .ref sq2] h Q := by
  have hT := hX12_palace
  unfold fX12_palace_b47 at e
  obtain ⟨h_7078, e_7079, e⟩ := Option.bind_eq_some_iff.mp e
  refine Rn.hp hT rfl rfl (wI_hp e_7079) ?_
  refine Rn.n hT 2 (pc' := 21) (L' := [some (.ref q0), some (.int (x1 + (1 : Int32)))]) (st' := []) rfl ?_
  exact Rn.weak (ll_s (ll_s ll_e)) (hb h_7078 (x1 + (1 : Int32)) e)
def fX12_palace_l21 (N : Nat) (q0 : Nat) (kx : iv_H → Option (Int32 × iv_H)) : Nat → iv_H → Int32 → Option (Int32 × iv_H)
  | 0, _, _ => none
  | n + 1, h, x1 => (if (12 : Int32) ≤ x1 then (kx h) else ((gR h 12 1 q0).bind fun v_7071 => (if (5 : Int32) ≤ x1 then (fX12_palace_b47 N h q0 x1 (0 : Int32) x1 v_7071 (fX12_palace_l21 N q0 kx n) kx) else ((gR h 12 19 q0).bind fun v_7074 => ((aI h v_7074 x1).bind fun v_7076 => (fX12_palace_b47 N h q0 x1 v_7076 x1 v_7071 (fX12_palace_l21 N q0 kx n) kx))))))
set_option maxRecDepth 10000 in
set_option maxHeartbeats 4000000 in
theorem rX12_palace_l21 {d N : Nat} (hd : 13 ≤ d) {q0 : Nat} {kx : iv_H → Option (Int32 × iv_H)} {r : Int32 × iv_H} {Q : Option Value → iv_H → Prop} (hk : ∀ (h : iv_H), kx h = some r → Rn d 239 (some .int) 54 [some (.ref q0), none] [] h Q) (hq : Q (some (.int r.1)) r.2) : ∀ (n : Nat) (h : iv_H) (x1 : Int32), fX12_palace_l21 N q0 kx n h x1 = some r → Rn d 239 (some .int) 21 [some (.ref q0), some (.int x1)] [] h Q := by
  have hT := hX12_palace
  intro n
  induction n with
  | zero =>
    intro h x1 e
    rw [fX12_palace_l21] at e
    cases e
  | succ n ih =>
    intro h x1 e
    rw [fX12_palace_l21] at e
    refine Rn.n hT 2 (pc' := 24) (L' := [some (.ref q0), some (.int x1)]) (st' := [.int (12 : Int32), .int x1]) rfl ?_
    by_cases c_7070 : (12 : Int32) ≤ x1
    · rw [if_pos c_7070] at e
      refine Rn.bt hT rfl rfl rfl (decide_eq_true c_7070) ?_
      exact Rn.weak (ll_s (ll_n ll_e)) (hk h e)
    · rw [if_neg c_7070] at e
      refine Rn.bf hT rfl rfl rfl (decide_eq_false c_7070) ?_
      refine Rn.n hT 1 (pc' := 28) (L' := [some (.ref q0), some (.int x1)]) (st' := [.ref q0]) rfl ?_
      obtain ⟨v_7071, e_7072, e⟩ := Option.bind_eq_some_iff.mp e
      refine Rn.hp hT rfl rfl (gR_hp e_7072) ?_
      refine Rn.n hT 3 (pc' := 34) (L' := [some (.ref q0), some (.int x1)]) (st' := [.int (5 : Int32), .int x1, .int x1, .ref v_7071]) rfl ?_
      by_cases c_7073 : (5 : Int32) ≤ x1
      · rw [if_pos c_7073] at e
        refine Rn.bt hT rfl rfl rfl (decide_eq_true c_7073) ?_
        refine Rn.n hT 1 (pc' := 47) (L' := [some (.ref q0), some (.int x1)]) (st' := [.int (0 : Int32), .int x1, .ref v_7071]) rfl ?_
        exact Rn.weak (ll_s (ll_s ll_e)) (rX12_palace_b47 hd ih hk hq e)
      · rw [if_neg c_7073] at e
        refine Rn.bf hT rfl rfl rfl (decide_eq_false c_7073) ?_
        refine Rn.n hT 1 (pc' := 38) (L' := [some (.ref q0), some (.int x1)]) (st' := [.ref q0, .int x1, .ref v_7071]) rfl ?_
        obtain ⟨v_7074, e_7075, e⟩ := Option.bind_eq_some_iff.mp e
        refine Rn.hp hT rfl rfl (gR_hp e_7075) ?_
        refine Rn.n hT 1 (pc' := 42) (L' := [some (.ref q0), some (.int x1)]) (st' := [.int x1, .ref v_7074, .int x1, .ref v_7071]) rfl ?_
        obtain ⟨v_7076, e_7077, e⟩ := Option.bind_eq_some_iff.mp e
        refine Rn.hp hT rfl rfl (aI_hp e_7077) ?_
        refine Rn.n hT 1 (pc' := 47) (L' := [some (.ref q0), some (.int x1)]) (st' := [.int v_7076, .int x1, .ref v_7071]) rfl ?_
        exact Rn.weak (ll_s (ll_s ll_e)) (rX12_palace_b47 hd ih hk hq e)
def fX12_palace_l130 (N : Nat) (q0 : Nat) (kx : iv_H → Option (Int32 × iv_H)) : Nat → iv_H → Int32 → Option (Int32 × iv_H)
  | 0, _, _ => none
  | n + 1, h, x1 => (if (12 : Int32) ≤ x1 then (kx h) else ((gR h 12 4 q0).bind fun v_7081 => ((wI h v_7081 x1 (0 : Int32)).bind fun h_7083 => (fX12_palace_l130 N q0 kx n h_7083 (x1 + (1 : Int32))))))
set_option maxRecDepth 10000 in
set_option maxHeartbeats 4000000 in
theorem rX12_palace_l130 {d N : Nat} (hd : 13 ≤ d) {q0 : Nat} {kx : iv_H → Option (Int32 × iv_H)} {r : Int32 × iv_H} {Q : Option Value → iv_H → Prop} (hk : ∀ (h : iv_H), kx h = some r → Rn d 239 (some .int) 149 [some (.ref q0), none] [] h Q) (hq : Q (some (.int r.1)) r.2) : ∀ (n : Nat) (h : iv_H) (x1 : Int32), fX12_palace_l130 N q0 kx n h x1 = some r → Rn d 239 (some .int) 130 [some (.ref q0), some (.int x1)] [] h Q := by
  have hT := hX12_palace
  intro n
  induction n with
  | zero =>
    intro h x1 e
    rw [fX12_palace_l130] at e
    cases e
  | succ n ih =>
    intro h x1 e
    rw [fX12_palace_l130] at e
    refine Rn.n hT 2 (pc' := 133) (L' := [some (.ref q0), some (.int x1)]) (st' := [.int (12 : Int32), .int x1]) rfl ?_
    by_cases c_7080 : (12 : Int32) ≤ x1
    · rw [if_pos c_7080] at e
      refine Rn.bt hT rfl rfl rfl (decide_eq_true c_7080) ?_
      exact Rn.weak (ll_s (ll_n ll_e)) (hk h e)
    · rw [if_neg c_7080] at e
      refine Rn.bf hT rfl rfl rfl (decide_eq_false c_7080) ?_
      refine Rn.n hT 1 (pc' := 137) (L' := [some (.ref q0), some (.int x1)]) (st' := [.ref q0]) rfl ?_
      obtain ⟨v_7081, e_7082, e⟩ := Option.bind_eq_some_iff.mp e
      refine Rn.hp hT rfl rfl (gR_hp e_7082) ?_
      refine Rn.n hT 2 (pc' := 142) (L' := [some (.ref q0), some (.int x1)]) (st' := [.int (0 : Int32), .int x1, .ref v_7081]) rfl ?_
      obtain ⟨h_7083, e_7084, e⟩ := Option.bind_eq_some_iff.mp e
      refine Rn.hp hT rfl rfl (wI_hp e_7084) ?_
      refine Rn.n hT 2 (pc' := 130) (L' := [some (.ref q0), some (.int (x1 + (1 : Int32)))]) (st' := []) rfl ?_
      exact Rn.weak (ll_s (ll_s ll_e)) (ih h_7083 (x1 + (1 : Int32)) e)
def fX12_palace (N : Nat) (h : iv_H) (q0 : Nat) : Option (Int32 × iv_H) := ((cko h q0 12).bind fun _ => (fX12_readsAll N h q0).bind fun h_7012 => ((gI h_7012 12 30 q0).bind fun v_7013 => (if v_7013 ≤ 0 then (fX12_palace_l21 N q0 (fun (h_7016 : iv_H) => ((gR h_7016 12 1 q0).bind fun v_7017 => ((wI h_7016 v_7017 (12 : Int32) (-1 : Int32)).bind fun h_7019 => ((gR h_7019 12 20 q0).bind fun v_7021 => ((gR h_7019 12 2 q0).bind fun v_7023 => ((fX12_copies N h_7019 v_7021 v_7023).bind fun h_7027 => ((gR h_7027 12 21 q0).bind fun v_7028 => ((gR h_7027 12 3 q0).bind fun v_7030 => ((fX12_copies N h_7027 v_7028 v_7030).bind fun h_7034 => ((gR h_7034 12 22 q0).bind fun v_7035 => ((gR h_7034 12 5 q0).bind fun v_7037 => ((fX12_copies N h_7034 v_7035 v_7037).bind fun h_7041 => ((gR h_7041 12 23 q0).bind fun v_7042 => ((gR h_7041 12 6 q0).bind fun v_7044 => ((fX12_copies N h_7041 v_7042 v_7044).bind fun h_7048 => ((gR h_7048 12 24 q0).bind fun v_7049 => ((gR h_7048 12 7 q0).bind fun v_7051 => ((fX12_copies N h_7048 v_7049 v_7051).bind fun h_7055 => ((gR h_7055 12 25 q0).bind fun v_7056 => ((gR h_7055 12 8 q0).bind fun v_7058 => ((fX12_copies N h_7055 v_7056 v_7058).bind fun h_7062 => (fX12_palace_l130 N q0 (fun (h_7063 : iv_H) => ((gR h_7063 12 1 q0).bind fun v_7064 => ((aI h_7063 v_7064 (2 : Int32)).bind fun v_7066 => (some (v_7066, h_7063))))) N h_7062 (0 : Int32))))))))))))))))))))))) N h_7012 (0 : Int32)) else ((gI h_7012 12 30 q0).bind fun v_7068 => (some (((-2 : Int32) - v_7068), h_7012))))))
set_option maxRecDepth 10000 in
set_option maxHeartbeats 4000000 in
theorem rX12_palace {d N : Nat} (hd : 14 ≤ d) {h : iv_H} {q0 : Nat} {r : Int32 × iv_H} {Q : Option Value → iv_H → Prop} (e : fX12_palace N h q0 = some r) (hq : Q (some (.int r.1)) r.2) : Cl d 239 [.ref q0] h Q := by
  obtain ⟨d, rfl⟩ : ∃ k, d = k + 1 := ⟨d - 1, by omega⟩
  have hd : 13 ≤ d := by omega
  have hT := hX12_palace
  unfold fX12_palace at e
  refine Cl.into (by decide) gX12_palace rfl ?_
  show Rn d 239 (some .int) 0 [some (.ref q0), none] [] h Q
  refine Rn.n hT 1 (pc' := 1) (L' := [some (.ref q0), none]) (st' := [.ref q0]) rfl ?_
  obtain ⟨_, e_7010, e⟩ := Option.bind_eq_some_iff.mp e
  obtain ⟨h_7012, e_7009, e⟩ := Option.bind_eq_some_iff.mp e
  refine Rn.call hT rfl rfl rfl (Nat.le_of_ble_eq_true rfl) (rcv_v gX12_readsAll (by omega) e_7010) (rX12_readsAll (by omega) e_7009 ?_)
  show Rn d _ _ 4 [some (.ref q0), none] [] h_7012 Q
  refine Rn.n hT 1 (pc' := 5) (L' := [some (.ref q0), none]) (st' := [.ref q0]) rfl ?_
  obtain ⟨v_7013, e_7014, e⟩ := Option.bind_eq_some_iff.mp e
  refine Rn.hp hT rfl rfl (gI_hp e_7014) ?_
  by_cases c_7015 : v_7013 ≤ 0
  · rw [if_pos c_7015] at e
    refine Rn.bt hT rfl rfl rfl (decide_eq_true c_7015) ?_
    refine Rn.n hT 2 (pc' := 21) (L' := [some (.ref q0), some (.int (0 : Int32))]) (st' := []) rfl ?_
    refine Rn.weak (ll_s (ll_s ll_e)) (rX12_palace_l21 hd (fun h_7016 e => ?_) hq N h_7012 (0 : Int32) e)
    try dsimp only at e
    refine Rn.n hT 1 (pc' := 55) (L' := [some (.ref q0), none]) (st' := [.ref q0]) rfl ?_
    obtain ⟨v_7017, e_7018, e⟩ := Option.bind_eq_some_iff.mp e
    refine Rn.hp hT rfl rfl (gR_hp e_7018) ?_
    refine Rn.n hT 2 (pc' := 61) (L' := [some (.ref q0), none]) (st' := [.int (-1 : Int32), .int (12 : Int32), .ref v_7017]) rfl ?_
    obtain ⟨h_7019, e_7020, e⟩ := Option.bind_eq_some_iff.mp e
    refine Rn.hp hT rfl rfl (wI_hp e_7020) ?_
    refine Rn.n hT 1 (pc' := 63) (L' := [some (.ref q0), none]) (st' := [.ref q0]) rfl ?_
    obtain ⟨v_7021, e_7022, e⟩ := Option.bind_eq_some_iff.mp e
    refine Rn.hp hT rfl rfl (gR_hp e_7022) ?_
    refine Rn.n hT 1 (pc' := 67) (L' := [some (.ref q0), none]) (st' := [.ref q0, .ref v_7021]) rfl ?_
    obtain ⟨v_7023, e_7024, e⟩ := Option.bind_eq_some_iff.mp e
    refine Rn.hp hT rfl rfl (gR_hp e_7024) ?_
    obtain ⟨h_7027, e_7025, e⟩ := Option.bind_eq_some_iff.mp e
    refine Rn.call hT rfl rfl rfl (Nat.le_of_ble_eq_true rfl) rfl (rX12_copies (by omega) e_7025 ?_)
    show Rn d _ _ 73 [some (.ref q0), none] [] h_7027 Q
    refine Rn.n hT 1 (pc' := 74) (L' := [some (.ref q0), none]) (st' := [.ref q0]) rfl ?_
    obtain ⟨v_7028, e_7029, e⟩ := Option.bind_eq_some_iff.mp e
    refine Rn.hp hT rfl rfl (gR_hp e_7029) ?_
    refine Rn.n hT 1 (pc' := 78) (L' := [some (.ref q0), none]) (st' := [.ref q0, .ref v_7028]) rfl ?_
    obtain ⟨v_7030, e_7031, e⟩ := Option.bind_eq_some_iff.mp e
    refine Rn.hp hT rfl rfl (gR_hp e_7031) ?_
    obtain ⟨h_7034, e_7032, e⟩ := Option.bind_eq_some_iff.mp e
    refine Rn.call hT rfl rfl rfl (Nat.le_of_ble_eq_true rfl) rfl (rX12_copies (by omega) e_7032 ?_)
    show Rn d _ _ 84 [some (.ref q0), none] [] h_7034 Q
    refine Rn.n hT 1 (pc' := 85) (L' := [some (.ref q0), none]) (st' := [.ref q0]) rfl ?_
    obtain ⟨v_7035, e_7036, e⟩ := Option.bind_eq_some_iff.mp e
    refine Rn.hp hT rfl rfl (gR_hp e_7036) ?_
    refine Rn.n hT 1 (pc' := 89) (L' := [some (.ref q0), none]) (st' := [.ref q0, .ref v_7035]) rfl ?_
    obtain ⟨v_7037, e_7038, e⟩ := Option.bind_eq_some_iff.mp e
    refine Rn.hp hT rfl rfl (gR_hp e_7038) ?_
    obtain ⟨h_7041, e_7039, e⟩ := Option.bind_eq_some_iff.mp e
    refine Rn.call hT rfl rfl rfl (Nat.le_of_ble_eq_true rfl) rfl (rX12_copies (by omega) e_7039 ?_)
    show Rn d _ _ 95 [some (.ref q0), none] [] h_7041 Q
    refine Rn.n hT 1 (pc' := 96) (L' := [some (.ref q0), none]) (st' := [.ref q0]) rfl ?_
    obtain ⟨v_7042, e_7043, e⟩ := Option.bind_eq_some_iff.mp e
    refine Rn.hp hT rfl rfl (gR_hp e_7043) ?_
    refine Rn.n hT 1 (pc' := 100) (L' := [some (.ref q0), none]) (st' := [.ref q0, .ref v_7042]) rfl ?_
    obtain ⟨v_7044, e_7045, e⟩ := Option.bind_eq_some_iff.mp e
    refine Rn.hp hT rfl rfl (gR_hp e_7045) ?_
    obtain ⟨h_7048, e_7046, e⟩ := Option.bind_eq_some_iff.mp e
    refine Rn.call hT rfl rfl rfl (Nat.le_of_ble_eq_true rfl) rfl (rX12_copies (by omega) e_7046 ?_)
    show Rn d _ _ 106 [some (.ref q0), none] [] h_7048 Q
    refine Rn.n hT 1 (pc' := 107) (L' := [some (.ref q0), none]) (st' := [.ref q0]) rfl ?_
    obtain ⟨v_7049, e_7050, e⟩ := Option.bind_eq_some_iff.mp e
    refine Rn.hp hT rfl rfl (gR_hp e_7050) ?_
    refine Rn.n hT 1 (pc' := 111) (L' := [some (.ref q0), none]) (st' := [.ref q0, .ref v_7049]) rfl ?_
    obtain ⟨v_7051, e_7052, e⟩ := Option.bind_eq_some_iff.mp e
    refine Rn.hp hT rfl rfl (gR_hp e_7052) ?_
    obtain ⟨h_7055, e_7053, e⟩ := Option.bind_eq_some_iff.mp e
    refine Rn.call hT rfl rfl rfl (Nat.le_of_ble_eq_true rfl) rfl (rX12_copies (by omega) e_7053 ?_)
    show Rn d _ _ 117 [some (.ref q0), none] [] h_7055 Q
    refine Rn.n hT 1 (pc' := 118) (L' := [some (.ref q0), none]) (st' := [.ref q0]) rfl ?_
    obtain ⟨v_7056, e_7057, e⟩ := Option.bind_eq_some_iff.mp e
    refine Rn.hp hT rfl rfl (gR_hp e_7057) ?_
    refine Rn.n hT 1 (pc' := 122) (L' := [some (.ref q0), none]) (st' := [.ref q0, .ref v_7056]) rfl ?_
    obtain ⟨v_7058, e_7059, e⟩ := Option.bind_eq_some_iff.mp e
    refine Rn.hp hT rfl rfl (gR_hp e_7059) ?_
    obtain ⟨h_7062, e_7060, e⟩ := Option.bind_eq_some_iff.mp e
    refine Rn.call hT rfl rfl rfl (Nat.le_of_ble_eq_true rfl) rfl (rX12_copies (by omega) e_7060 ?_)
    show Rn d _ _ 128 [some (.ref q0), none] [] h_7062 Q
    refine Rn.n hT 2 (pc' := 130) (L' := [some (.ref q0), some (.int (0 : Int32))]) (st' := []) rfl ?_
    refine Rn.weak (ll_s (ll_s ll_e)) (rX12_palace_l130 hd (fun h_7063 e => ?_) hq N h_7062 (0 : Int32) e)
    try dsimp only at e
    refine Rn.n hT 1 (pc' := 150) (L' := [some (.ref q0), none]) (st' := [.ref q0]) rfl ?_
    obtain ⟨v_7064, e_7065, e⟩ := Option.bind_eq_some_iff.mp e
    refine Rn.hp hT rfl rfl (gR_hp e_7065) ?_
    refine Rn.n hT 1 (pc' := 154) (L' := [some (.ref q0), none]) (st' := [.int (2 : Int32), .ref v_7064]) rfl ?_
    obtain ⟨v_7066, e_7067, e⟩ := Option.bind_eq_some_iff.mp e
    refine Rn.hp hT rfl rfl (aI_hp e_7067) ?_
    obtain rfl := Option.some.inj e
    exact Rn.ret hT rfl rfl rfl hq
  · rw [if_neg c_7015] at e
    refine Rn.bf hT rfl rfl rfl (decide_eq_false c_7015) ?_
    refine Rn.n hT 2 (pc' := 14) (L' := [some (.ref q0), none]) (st' := [.ref q0, .int (-2 : Int32)]) rfl ?_
    obtain ⟨v_7068, e_7069, e⟩ := Option.bind_eq_some_iff.mp e
    refine Rn.hp hT rfl rfl (gI_hp e_7069) ?_
    refine Rn.n hT 1 (pc' := 18) (L' := [some (.ref q0), none]) (st' := [.int ((-2 : Int32) - v_7068)]) rfl ?_
    obtain rfl := Option.some.inj e
    exact Rn.ret hT rfl rfl rfl hq
set_option maxRecDepth 10000 in
theorem hX12_ruleClause : iv_Tb 240 tX12_ruleClause := iv_tb_of (m := mX12_ruleClause) rfl
set_option maxRecDepth 10000 in
theorem gX12_ruleClause : PG.2 240 = some mX12_ruleClause := iv_pi_of (t := tX12_ruleClause) rfl (by decide)
def fX12_ruleClause (N : Nat) (h : iv_H) (q0 : Nat) (x1 : Int32) : Option (iv_H) := ((cko h q0 12).bind fun _ => (fX12_blanks N h q0).bind fun h_7088 => ((gI h_7088 12 29 q0).bind fun v_7089 => ((cko h_7088 q0 12).bind fun _ => (fX12_stood N h_7088 q0 1000036).bind fun v_7093 => (if v_7093 = 0 then ((cko h_7088 q0 12).bind fun _ => (fX12_fails N h_7088 q0 (0 : Int32) v_7089).bind fun h_7125 => some h_7125) else (if x1 = (12 : Int32) then ((cko h_7088 q0 12).bind fun _ => (fX12_fails N h_7088 q0 (4 : Int32) v_7089).bind fun h_7121 => some h_7121) else ((gI h_7088 12 29 q0).bind fun v_7096 => ((pV h_7088 12 29 q0 (.int (v_7096 + (3 : Int32)))).bind fun h_7098 => ((gI h_7098 12 31 q0).bind fun v_7100 => ((gR h_7098 12 43 q0).bind fun v_7102 => ((gI h_7098 12 33 q0).bind fun v_7104 => ((wI h_7098 v_7102 (((12 : Int32) * v_7100) + x1) v_7104).bind fun h_7106 => ((cko h_7106 q0 12).bind fun _ => (fX12_test N h_7106 q0).bind fun h_7111 => ((gR h_7111 12 44 q0).bind fun v_7112 => ((gI h_7111 12 33 q0).bind fun v_7114 => ((wI h_7111 v_7112 (((12 : Int32) * v_7100) + x1) v_7114).bind fun h_7116 => some h_7116)))))))))))))))
set_option maxRecDepth 10000 in
set_option maxHeartbeats 4000000 in
theorem rX12_ruleClause {d N : Nat} (hd : 18 ≤ d) {h : iv_H} {q0 : Nat} {x1 : Int32} {r : iv_H} {Q : Option Value → iv_H → Prop} (e : fX12_ruleClause N h q0 x1 = some r) (hq : Q none r) : Cl d 240 [.ref q0, .int x1] h Q := by
  obtain ⟨d, rfl⟩ : ∃ k, d = k + 1 := ⟨d - 1, by omega⟩
  have hd : 17 ≤ d := by omega
  have hT := hX12_ruleClause
  unfold fX12_ruleClause at e
  refine Cl.into (by decide) gX12_ruleClause rfl ?_
  show Rn d 240 none 0 [some (.ref q0), some (.int x1), none, none] [] h Q
  refine Rn.n hT 1 (pc' := 1) (L' := [some (.ref q0), some (.int x1), none, none]) (st' := [.ref q0]) rfl ?_
  obtain ⟨_, e_7086, e⟩ := Option.bind_eq_some_iff.mp e
  obtain ⟨h_7088, e_7085, e⟩ := Option.bind_eq_some_iff.mp e
  refine Rn.call hT rfl rfl rfl (Nat.le_of_ble_eq_true rfl) (rcv_v gX12_blanks (by omega) e_7086) (rX12_blanks (by omega) e_7085 ?_)
  show Rn d _ _ 4 [some (.ref q0), some (.int x1), none, none] [] h_7088 Q
  refine Rn.n hT 1 (pc' := 5) (L' := [some (.ref q0), some (.int x1), none, none]) (st' := [.ref q0]) rfl ?_
  obtain ⟨v_7089, e_7090, e⟩ := Option.bind_eq_some_iff.mp e
  refine Rn.hp hT rfl rfl (gI_hp e_7090) ?_
  refine Rn.n hT 3 (pc' := 13) (L' := [some (.ref q0), some (.int x1), some (.int v_7089), none]) (st' := [.ref 1000036, .ref q0]) rfl ?_
  obtain ⟨_, e_7092, e⟩ := Option.bind_eq_some_iff.mp e
  obtain ⟨v_7093, e_7091, e⟩ := Option.bind_eq_some_iff.mp e
  refine Rn.call hT rfl rfl rfl (Nat.le_of_ble_eq_true rfl) (rcv_v gX12_stood (by omega) e_7092) (rX12_stood (by omega) e_7091 ?_)
  show Rn d _ _ 16 [some (.ref q0), some (.int x1), some (.int v_7089), none] [.int v_7093] h_7088 Q
  by_cases c_7094 : v_7093 = 0
  · rw [if_pos c_7094] at e
    refine Rn.bf hT rfl rfl rfl (decide_eq_false (fun z => z c_7094)) ?_
    refine Rn.n hT 3 (pc' := 22) (L' := [some (.ref q0), some (.int x1), some (.int v_7089), none]) (st' := [.int v_7089, .int (0 : Int32), .ref q0]) rfl ?_
    obtain ⟨_, e_7123, e⟩ := Option.bind_eq_some_iff.mp e
    obtain ⟨h_7125, e_7122, e⟩ := Option.bind_eq_some_iff.mp e
    refine Rn.call hT rfl rfl rfl (Nat.le_of_ble_eq_true rfl) (rcv_v gX12_fails (by omega) e_7123) (rX12_fails (by omega) e_7122 ?_)
    show Rn d _ _ 25 [some (.ref q0), some (.int x1), some (.int v_7089), none] [] h_7125 Q
    obtain rfl := Option.some.inj e
    exact Rn.ret hT rfl rfl rfl hq
  · rw [if_neg c_7094] at e
    refine Rn.bt hT rfl rfl rfl (decide_eq_true c_7094) ?_
    refine Rn.n hT 2 (pc' := 29) (L' := [some (.ref q0), some (.int x1), some (.int v_7089), none]) (st' := [.int (12 : Int32), .int x1]) rfl ?_
    by_cases c_7095 : x1 = (12 : Int32)
    · rw [if_pos c_7095] at e
      refine Rn.bf hT rfl rfl rfl (decide_eq_false (fun z => z c_7095)) ?_
      refine Rn.n hT 3 (pc' := 35) (L' := [some (.ref q0), some (.int x1), some (.int v_7089), none]) (st' := [.int v_7089, .int (4 : Int32), .ref q0]) rfl ?_
      obtain ⟨_, e_7119, e⟩ := Option.bind_eq_some_iff.mp e
      obtain ⟨h_7121, e_7118, e⟩ := Option.bind_eq_some_iff.mp e
      refine Rn.call hT rfl rfl rfl (Nat.le_of_ble_eq_true rfl) (rcv_v gX12_fails (by omega) e_7119) (rX12_fails (by omega) e_7118 ?_)
      show Rn d _ _ 38 [some (.ref q0), some (.int x1), some (.int v_7089), none] [] h_7121 Q
      obtain rfl := Option.some.inj e
      exact Rn.ret hT rfl rfl rfl hq
    · rw [if_neg c_7095] at e
      refine Rn.bt hT rfl rfl rfl (decide_eq_true c_7095) ?_
      refine Rn.n hT 2 (pc' := 41) (L' := [some (.ref q0), some (.int x1), some (.int v_7089), none]) (st' := [.ref q0, .ref q0]) rfl ?_
      obtain ⟨v_7096, e_7097, e⟩ := Option.bind_eq_some_iff.mp e
      refine Rn.hp hT rfl rfl (gI_hp e_7097) ?_
      refine Rn.n hT 2 (pc' := 46) (L' := [some (.ref q0), some (.int x1), some (.int v_7089), none]) (st' := [.int (v_7096 + (3 : Int32)), .ref q0]) rfl ?_
      obtain ⟨h_7098, e_7099, e⟩ := Option.bind_eq_some_iff.mp e
      refine Rn.hp hT rfl rfl (pV_hp rfl e_7099) ?_
      refine Rn.n hT 2 (pc' := 52) (L' := [some (.ref q0), some (.int x1), some (.int v_7089), none]) (st' := [.ref q0, .int (12 : Int32)]) rfl ?_
      obtain ⟨v_7100, e_7101, e⟩ := Option.bind_eq_some_iff.mp e
      refine Rn.hp hT rfl rfl (gI_hp e_7101) ?_
      refine Rn.n hT 5 (pc' := 60) (L' := [some (.ref q0), some (.int x1), some (.int v_7089), some (.int (((12 : Int32) * v_7100) + x1))]) (st' := [.ref q0]) rfl ?_
      obtain ⟨v_7102, e_7103, e⟩ := Option.bind_eq_some_iff.mp e
      refine Rn.hp hT rfl rfl (gR_hp e_7103) ?_
      refine Rn.n hT 2 (pc' := 65) (L' := [some (.ref q0), some (.int x1), some (.int v_7089), some (.int (((12 : Int32) * v_7100) + x1))]) (st' := [.ref q0, .int (((12 : Int32) * v_7100) + x1), .ref v_7102]) rfl ?_
      obtain ⟨v_7104, e_7105, e⟩ := Option.bind_eq_some_iff.mp e
      refine Rn.hp hT rfl rfl (gI_hp e_7105) ?_
      obtain ⟨h_7106, e_7107, e⟩ := Option.bind_eq_some_iff.mp e
      refine Rn.hp hT rfl rfl (wI_hp e_7107) ?_
      refine Rn.n hT 1 (pc' := 70) (L' := [some (.ref q0), some (.int x1), some (.int v_7089), some (.int (((12 : Int32) * v_7100) + x1))]) (st' := [.ref q0]) rfl ?_
      obtain ⟨_, e_7109, e⟩ := Option.bind_eq_some_iff.mp e
      obtain ⟨h_7111, e_7108, e⟩ := Option.bind_eq_some_iff.mp e
      refine Rn.call hT rfl rfl rfl (Nat.le_of_ble_eq_true rfl) (rcv_v gX12_test (by omega) e_7109) (rX12_test (by omega) e_7108 ?_)
      show Rn d _ _ 73 [some (.ref q0), some (.int x1), some (.int v_7089), some (.int (((12 : Int32) * v_7100) + x1))] [] h_7111 Q
      refine Rn.n hT 1 (pc' := 74) (L' := [some (.ref q0), some (.int x1), some (.int v_7089), some (.int (((12 : Int32) * v_7100) + x1))]) (st' := [.ref q0]) rfl ?_
      obtain ⟨v_7112, e_7113, e⟩ := Option.bind_eq_some_iff.mp e
      refine Rn.hp hT rfl rfl (gR_hp e_7113) ?_
      refine Rn.n hT 2 (pc' := 79) (L' := [some (.ref q0), some (.int x1), some (.int v_7089), some (.int (((12 : Int32) * v_7100) + x1))]) (st' := [.ref q0, .int (((12 : Int32) * v_7100) + x1), .ref v_7112]) rfl ?_
      obtain ⟨v_7114, e_7115, e⟩ := Option.bind_eq_some_iff.mp e
      refine Rn.hp hT rfl rfl (gI_hp e_7115) ?_
      obtain ⟨h_7116, e_7117, e⟩ := Option.bind_eq_some_iff.mp e
      refine Rn.hp hT rfl rfl (wI_hp e_7117) ?_
      obtain rfl := Option.some.inj e
      exact Rn.ret hT rfl rfl rfl hq
