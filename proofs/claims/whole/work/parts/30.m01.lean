-- MIRRORS, 1 (written by wip/whole/mir.py)
set_option maxRecDepth 10000 in
theorem hX1_stir : iv_Tb 26 tX1_stir := iv_tb_of (m := mX1_stir) rfl
set_option maxRecDepth 10000 in
theorem gX1_stir : PG.2 26 = some mX1_stir := iv_pi_of (t := tX1_stir) rfl (by decide)
def fX1_stir_b154 (N : Nat) (h : iv_H)   : Option (iv_H) := some h
set_option maxRecDepth 10000 in
set_option maxHeartbeats 4000000 in
theorem rX1_stir_b154 {d N : Nat} (hd : 1 ≤ d) {h : iv_H}   {r : iv_H} {Q : Option Value → iv_H → Prop} (hq : Q none r) (e : fX1_stir_b154 N h   = some r) : Rn d 26 none 154 [none, none, none, none, none, none, none] [] h Q := by
  have hT := hX1_stir
  unfold fX1_stir_b154 at e
  obtain rfl := Option.some.inj e
  exact Rn.ret hT rfl rfl rfl hq
def fX1_stir_b48 (N : Nat) (h : iv_H)  (s0 : Int32) (s1 : Int32) (s2 : Int32) (s3 : Int32) (sq4 : Nat) : Option (iv_H) := ((cko h sq4 1).bind fun _ => (fX1_put N h sq4 s3 s2 ((s1 + s0) &&& (3 : Int32))).bind fun h_588 => (fX1_stir_b154 N h_588))
set_option maxRecDepth 10000 in
set_option maxHeartbeats 4000000 in
theorem rX1_stir_b48 {d N : Nat} (hd : 1 ≤ d) {h : iv_H}  {s0 : Int32} {s1 : Int32} {s2 : Int32} {s3 : Int32} {sq4 : Nat} {r : iv_H} {Q : Option Value → iv_H → Prop} (hq : Q none r) (e : fX1_stir_b48 N h  s0 s1 s2 s3 sq4 = some r) : Rn d 26 none 48 [none, none, none, none, none, none, none] [.int s0, .int s1, .int s2, .int s3, .ref sq4] h Q := by
  have hT := hX1_stir
  unfold fX1_stir_b48 at e
  refine Rn.n hT 3 (pc' := 51) (L' := [none, none, none, none, none, none, none]) (st' := [.int ((s1 + s0) &&& (3 : Int32)), .int s2, .int s3, .ref sq4]) rfl ?_
  obtain ⟨_, e_586, e⟩ := Option.bind_eq_some_iff.mp e
  obtain ⟨h_588, e_585, e⟩ := Option.bind_eq_some_iff.mp e
  refine Rn.call hT rfl rfl rfl (Nat.le_of_ble_eq_true rfl) (rcv_v gX1_put (by omega) e_586) (rX1_put (by omega) e_585 ?_)
  show Rn d _ _ 54 [none, none, none, none, none, none, none] [] h_588 Q
  refine Rn.n hT 1 (pc' := 154) (L' := [none, none, none, none, none, none, none]) (st' := []) rfl ?_
  exact Rn.weak (ll_n (ll_n (ll_n (ll_n (ll_n (ll_n (ll_n ll_e))))))) (rX1_stir_b154 hd hq e)
def fX1_stir_b126 (N : Nat) (h : iv_H) (q0 : Nat) (x3 : Int32) (s0 : Int32) (s1 : Int32) (sq2 : Nat) : Option (iv_H) := ((aI h sq2 (s1 + s0)).bind fun v_589 => (if v_589 = (-1 : Int32) then (fX1_stir_b154 N h) else ((cko h q0 1).bind fun _ => (fX1_take N h q0 x3).bind fun h_595 => ((gR h_595 1 6 q0).bind fun v_596 => ((aI h_595 v_596 x3).bind fun v_598 => ((cko h_595 q0 1).bind fun _ => (fX1_put N h_595 q0 x3 v_589 v_598).bind fun h_603 => (fX1_stir_b154 N h_603)))))))
set_option maxRecDepth 10000 in
set_option maxHeartbeats 4000000 in
theorem rX1_stir_b126 {d N : Nat} (hd : 1 ≤ d) {h : iv_H} {q0 : Nat} {x3 : Int32} {s0 : Int32} {s1 : Int32} {sq2 : Nat} {r : iv_H} {Q : Option Value → iv_H → Prop} (hq : Q none r) (e : fX1_stir_b126 N h q0 x3 s0 s1 sq2 = some r) : Rn d 26 none 126 [some (.ref q0), none, none, some (.int x3), none, none, none] [.int s0, .int s1, .ref sq2] h Q := by
  have hT := hX1_stir
  unfold fX1_stir_b126 at e
  refine Rn.n hT 1 (pc' := 127) (L' := [some (.ref q0), none, none, some (.int x3), none, none, none]) (st' := [.int (s1 + s0), .ref sq2]) rfl ?_
  obtain ⟨v_589, e_590, e⟩ := Option.bind_eq_some_iff.mp e
  refine Rn.hp hT rfl rfl (aI_hp e_590) ?_
  refine Rn.n hT 3 (pc' := 133) (L' := [some (.ref q0), none, none, some (.int x3), none, none, some (.int v_589)]) (st' := [.int (-1 : Int32), .int v_589]) rfl ?_
  by_cases c_591 : v_589 = (-1 : Int32)
  · rw [if_pos c_591] at e
    refine Rn.bt hT rfl rfl rfl (decide_eq_true c_591) ?_
    exact Rn.weak (ll_n (ll_n (ll_n (ll_n (ll_n (ll_n (ll_n ll_e))))))) (rX1_stir_b154 hd hq e)
  · rw [if_neg c_591] at e
    refine Rn.bf hT rfl rfl rfl (decide_eq_false c_591) ?_
    refine Rn.n hT 2 (pc' := 138) (L' := [some (.ref q0), none, none, some (.int x3), none, none, some (.int v_589)]) (st' := [.int x3, .ref q0]) rfl ?_
    obtain ⟨_, e_593, e⟩ := Option.bind_eq_some_iff.mp e
    obtain ⟨h_595, e_592, e⟩ := Option.bind_eq_some_iff.mp e
    refine Rn.call hT rfl rfl rfl (Nat.le_of_ble_eq_true rfl) (rcv_v gX1_take (by omega) e_593) (rX1_take (by omega) e_592 ?_)
    show Rn d _ _ 141 [some (.ref q0), none, none, some (.int x3), none, none, some (.int v_589)] [] h_595 Q
    refine Rn.n hT 4 (pc' := 146) (L' := [some (.ref q0), none, none, some (.int x3), none, none, some (.int v_589)]) (st' := [.ref q0, .int v_589, .int x3, .ref q0]) rfl ?_
    obtain ⟨v_596, e_597, e⟩ := Option.bind_eq_some_iff.mp e
    refine Rn.hp hT rfl rfl (gR_hp e_597) ?_
    refine Rn.n hT 1 (pc' := 150) (L' := [some (.ref q0), none, none, some (.int x3), none, none, some (.int v_589)]) (st' := [.int x3, .ref v_596, .int v_589, .int x3, .ref q0]) rfl ?_
    obtain ⟨v_598, e_599, e⟩ := Option.bind_eq_some_iff.mp e
    refine Rn.hp hT rfl rfl (aI_hp e_599) ?_
    obtain ⟨_, e_601, e⟩ := Option.bind_eq_some_iff.mp e
    obtain ⟨h_603, e_600, e⟩ := Option.bind_eq_some_iff.mp e
    refine Rn.call hT rfl rfl rfl (Nat.le_of_ble_eq_true rfl) (rcv_v gX1_put (by omega) e_601) (rX1_put (by omega) e_600 ?_)
    show Rn d _ _ 154 [some (.ref q0), none, none, some (.int x3), none, none, some (.int v_589)] [] h_603 Q
    exact Rn.weak (ll_n (ll_n (ll_n (ll_n (ll_n (ll_n (ll_n ll_e))))))) (rX1_stir_b154 hd hq e)
def fX1_stir (N : Nat) (h : iv_H) (q0 : Nat) (x1 : Int32) (x2 : Int32) : Option (iv_H) := ((gR h 1 5 q0).bind fun v_551 => ((aI h v_551 ((x1 >>> ((4 : Int32) &&& 31)) &&& (15 : Int32))).bind fun v_553 => (if (x1 >>> ((8 : Int32) &&& 31)) = (3 : Int32) then ((gR h 1 6 q0).bind fun v_580 => ((aI h v_580 ((x1 >>> ((4 : Int32) &&& 31)) &&& (15 : Int32))).bind fun v_582 => (if x2 = 0 then (fX1_stir_b48 N h (3 : Int32) v_582 v_553 ((x1 >>> ((4 : Int32) &&& 31)) &&& (15 : Int32)) q0) else (fX1_stir_b48 N h (1 : Int32) v_582 v_553 ((x1 >>> ((4 : Int32) &&& 31)) &&& (15 : Int32)) q0)))) else (if (x1 >>> ((8 : Int32) &&& 31)) = (2 : Int32) then ((gR h 1 5 q0).bind fun v_560 => ((aI h v_560 (x1 &&& (15 : Int32))).bind fun v_562 => ((gR h 1 6 q0).bind fun v_564 => ((aI h v_564 ((x1 >>> ((4 : Int32) &&& 31)) &&& (15 : Int32))).bind fun v_566 => ((cko h q0 1).bind fun _ => (fX1_put N h q0 ((x1 >>> ((4 : Int32) &&& 31)) &&& (15 : Int32)) v_562 v_566).bind fun h_571 => ((gR h_571 1 6 q0).bind fun v_572 => ((aI h_571 v_572 (x1 &&& (15 : Int32))).bind fun v_574 => ((cko h_571 q0 1).bind fun _ => (fX1_put N h_571 q0 (x1 &&& (15 : Int32)) v_553 v_574).bind fun h_579 => (fX1_stir_b154 N h_579))))))))) else ((gR h 1 10 q0).bind fun v_557 => (if x2 = 0 then (fX1_stir_b126 N h q0 ((x1 >>> ((4 : Int32) &&& 31)) &&& (15 : Int32)) ((x1 &&& (15 : Int32)) ^^^ (2 : Int32)) ((4 : Int32) * v_553) v_557) else (fX1_stir_b126 N h q0 ((x1 >>> ((4 : Int32) &&& 31)) &&& (15 : Int32)) (x1 &&& (15 : Int32)) ((4 : Int32) * v_553) v_557)))))))
set_option maxRecDepth 10000 in
set_option maxHeartbeats 4000000 in
theorem rX1_stir {d N : Nat} (hd : 2 ≤ d) {h : iv_H} {q0 : Nat} {x1 : Int32} {x2 : Int32} {r : iv_H} {Q : Option Value → iv_H → Prop} (e : fX1_stir N h q0 x1 x2 = some r) (hq : Q none r) : Cl d 26 [.ref q0, .int x1, .int x2] h Q := by
  obtain ⟨d, rfl⟩ : ∃ k, d = k + 1 := ⟨d - 1, by omega⟩
  have hd : 1 ≤ d := by omega
  have hT := hX1_stir
  unfold fX1_stir at e
  refine Cl.into (by decide) gX1_stir rfl ?_
  show Rn d 26 none 0 [some (.ref q0), some (.int x1), some (.int x2), none, none, none, none] [] h Q
  refine Rn.n hT 11 (pc' := 14) (L' := [some (.ref q0), some (.int x1), some (.int x2), some (.int ((x1 >>> ((4 : Int32) &&& 31)) &&& (15 : Int32))), some (.int (x1 &&& (15 : Int32))), none, none]) (st' := [.ref q0]) rfl ?_
  obtain ⟨v_551, e_552, e⟩ := Option.bind_eq_some_iff.mp e
  refine Rn.hp hT rfl rfl (gR_hp e_552) ?_
  refine Rn.n hT 1 (pc' := 18) (L' := [some (.ref q0), some (.int x1), some (.int x2), some (.int ((x1 >>> ((4 : Int32) &&& 31)) &&& (15 : Int32))), some (.int (x1 &&& (15 : Int32))), none, none]) (st' := [.int ((x1 >>> ((4 : Int32) &&& 31)) &&& (15 : Int32)), .ref v_551]) rfl ?_
  obtain ⟨v_553, e_554, e⟩ := Option.bind_eq_some_iff.mp e
  refine Rn.hp hT rfl rfl (aI_hp e_554) ?_
  refine Rn.n hT 5 (pc' := 26) (L' := [some (.ref q0), some (.int x1), some (.int x2), some (.int ((x1 >>> ((4 : Int32) &&& 31)) &&& (15 : Int32))), some (.int (x1 &&& (15 : Int32))), some (.int v_553), none]) (st' := [.int (3 : Int32), .int (x1 >>> ((8 : Int32) &&& 31))]) rfl ?_
  by_cases c_555 : (x1 >>> ((8 : Int32) &&& 31)) = (3 : Int32)
  · rw [if_pos c_555] at e
    refine Rn.bf hT rfl rfl rfl (decide_eq_false (fun z => z c_555)) ?_
    refine Rn.n hT 4 (pc' := 34) (L' := [some (.ref q0), some (.int x1), some (.int x2), some (.int ((x1 >>> ((4 : Int32) &&& 31)) &&& (15 : Int32))), some (.int (x1 &&& (15 : Int32))), some (.int v_553), none]) (st' := [.ref q0, .int v_553, .int ((x1 >>> ((4 : Int32) &&& 31)) &&& (15 : Int32)), .ref q0]) rfl ?_
    obtain ⟨v_580, e_581, e⟩ := Option.bind_eq_some_iff.mp e
    refine Rn.hp hT rfl rfl (gR_hp e_581) ?_
    refine Rn.n hT 1 (pc' := 38) (L' := [some (.ref q0), some (.int x1), some (.int x2), some (.int ((x1 >>> ((4 : Int32) &&& 31)) &&& (15 : Int32))), some (.int (x1 &&& (15 : Int32))), some (.int v_553), none]) (st' := [.int ((x1 >>> ((4 : Int32) &&& 31)) &&& (15 : Int32)), .ref v_580, .int v_553, .int ((x1 >>> ((4 : Int32) &&& 31)) &&& (15 : Int32)), .ref q0]) rfl ?_
    obtain ⟨v_582, e_583, e⟩ := Option.bind_eq_some_iff.mp e
    refine Rn.hp hT rfl rfl (aI_hp e_583) ?_
    refine Rn.n hT 1 (pc' := 40) (L' := [some (.ref q0), some (.int x1), some (.int x2), some (.int ((x1 >>> ((4 : Int32) &&& 31)) &&& (15 : Int32))), some (.int (x1 &&& (15 : Int32))), some (.int v_553), none]) (st' := [.int x2, .int v_582, .int v_553, .int ((x1 >>> ((4 : Int32) &&& 31)) &&& (15 : Int32)), .ref q0]) rfl ?_
    by_cases c_584 : x2 = 0
    · rw [if_pos c_584] at e
      refine Rn.bt hT rfl rfl rfl (decide_eq_true c_584) ?_
      refine Rn.n hT 1 (pc' := 48) (L' := [some (.ref q0), some (.int x1), some (.int x2), some (.int ((x1 >>> ((4 : Int32) &&& 31)) &&& (15 : Int32))), some (.int (x1 &&& (15 : Int32))), some (.int v_553), none]) (st' := [.int (3 : Int32), .int v_582, .int v_553, .int ((x1 >>> ((4 : Int32) &&& 31)) &&& (15 : Int32)), .ref q0]) rfl ?_
      exact Rn.weak (ll_n (ll_n (ll_n (ll_n (ll_n (ll_n (ll_n ll_e))))))) (rX1_stir_b48 hd hq e)
    · rw [if_neg c_584] at e
      refine Rn.bf hT rfl rfl rfl (decide_eq_false c_584) ?_
      refine Rn.n hT 2 (pc' := 48) (L' := [some (.ref q0), some (.int x1), some (.int x2), some (.int ((x1 >>> ((4 : Int32) &&& 31)) &&& (15 : Int32))), some (.int (x1 &&& (15 : Int32))), some (.int v_553), none]) (st' := [.int (1 : Int32), .int v_582, .int v_553, .int ((x1 >>> ((4 : Int32) &&& 31)) &&& (15 : Int32)), .ref q0]) rfl ?_
      exact Rn.weak (ll_n (ll_n (ll_n (ll_n (ll_n (ll_n (ll_n ll_e))))))) (rX1_stir_b48 hd hq e)
  · rw [if_neg c_555] at e
    refine Rn.bt hT rfl rfl rfl (decide_eq_true c_555) ?_
    refine Rn.n hT 4 (pc' := 62) (L' := [some (.ref q0), some (.int x1), some (.int x2), some (.int ((x1 >>> ((4 : Int32) &&& 31)) &&& (15 : Int32))), some (.int (x1 &&& (15 : Int32))), some (.int v_553), none]) (st' := [.int (2 : Int32), .int (x1 >>> ((8 : Int32) &&& 31))]) rfl ?_
    by_cases c_556 : (x1 >>> ((8 : Int32) &&& 31)) = (2 : Int32)
    · rw [if_pos c_556] at e
      refine Rn.bf hT rfl rfl rfl (decide_eq_false (fun z => z c_556)) ?_
      refine Rn.n hT 1 (pc' := 66) (L' := [some (.ref q0), some (.int x1), some (.int x2), some (.int ((x1 >>> ((4 : Int32) &&& 31)) &&& (15 : Int32))), some (.int (x1 &&& (15 : Int32))), some (.int v_553), none]) (st' := [.ref q0]) rfl ?_
      obtain ⟨v_560, e_561, e⟩ := Option.bind_eq_some_iff.mp e
      refine Rn.hp hT rfl rfl (gR_hp e_561) ?_
      refine Rn.n hT 1 (pc' := 71) (L' := [some (.ref q0), some (.int x1), some (.int x2), some (.int ((x1 >>> ((4 : Int32) &&& 31)) &&& (15 : Int32))), some (.int (x1 &&& (15 : Int32))), some (.int v_553), none]) (st' := [.int (x1 &&& (15 : Int32)), .ref v_560]) rfl ?_
      obtain ⟨v_562, e_563, e⟩ := Option.bind_eq_some_iff.mp e
      refine Rn.hp hT rfl rfl (aI_hp e_563) ?_
      refine Rn.n hT 5 (pc' := 79) (L' := [some (.ref q0), some (.int x1), some (.int x2), some (.int ((x1 >>> ((4 : Int32) &&& 31)) &&& (15 : Int32))), some (.int (x1 &&& (15 : Int32))), some (.int v_553), some (.int v_562)]) (st' := [.ref q0, .int v_562, .int ((x1 >>> ((4 : Int32) &&& 31)) &&& (15 : Int32)), .ref q0]) rfl ?_
      obtain ⟨v_564, e_565, e⟩ := Option.bind_eq_some_iff.mp e
      refine Rn.hp hT rfl rfl (gR_hp e_565) ?_
      refine Rn.n hT 1 (pc' := 83) (L' := [some (.ref q0), some (.int x1), some (.int x2), some (.int ((x1 >>> ((4 : Int32) &&& 31)) &&& (15 : Int32))), some (.int (x1 &&& (15 : Int32))), some (.int v_553), some (.int v_562)]) (st' := [.int ((x1 >>> ((4 : Int32) &&& 31)) &&& (15 : Int32)), .ref v_564, .int v_562, .int ((x1 >>> ((4 : Int32) &&& 31)) &&& (15 : Int32)), .ref q0]) rfl ?_
      obtain ⟨v_566, e_567, e⟩ := Option.bind_eq_some_iff.mp e
      refine Rn.hp hT rfl rfl (aI_hp e_567) ?_
      obtain ⟨_, e_569, e⟩ := Option.bind_eq_some_iff.mp e
      obtain ⟨h_571, e_568, e⟩ := Option.bind_eq_some_iff.mp e
      refine Rn.call hT rfl rfl rfl (Nat.le_of_ble_eq_true rfl) (rcv_v gX1_put (by omega) e_569) (rX1_put (by omega) e_568 ?_)
      show Rn d _ _ 87 [some (.ref q0), some (.int x1), some (.int x2), some (.int ((x1 >>> ((4 : Int32) &&& 31)) &&& (15 : Int32))), some (.int (x1 &&& (15 : Int32))), some (.int v_553), some (.int v_562)] [] h_571 Q
      refine Rn.n hT 4 (pc' := 93) (L' := [some (.ref q0), some (.int x1), some (.int x2), some (.int ((x1 >>> ((4 : Int32) &&& 31)) &&& (15 : Int32))), some (.int (x1 &&& (15 : Int32))), some (.int v_553), some (.int v_562)]) (st' := [.ref q0, .int v_553, .int (x1 &&& (15 : Int32)), .ref q0]) rfl ?_
      obtain ⟨v_572, e_573, e⟩ := Option.bind_eq_some_iff.mp e
      refine Rn.hp hT rfl rfl (gR_hp e_573) ?_
      refine Rn.n hT 1 (pc' := 98) (L' := [some (.ref q0), some (.int x1), some (.int x2), some (.int ((x1 >>> ((4 : Int32) &&& 31)) &&& (15 : Int32))), some (.int (x1 &&& (15 : Int32))), some (.int v_553), some (.int v_562)]) (st' := [.int (x1 &&& (15 : Int32)), .ref v_572, .int v_553, .int (x1 &&& (15 : Int32)), .ref q0]) rfl ?_
      obtain ⟨v_574, e_575, e⟩ := Option.bind_eq_some_iff.mp e
      refine Rn.hp hT rfl rfl (aI_hp e_575) ?_
      obtain ⟨_, e_577, e⟩ := Option.bind_eq_some_iff.mp e
      obtain ⟨h_579, e_576, e⟩ := Option.bind_eq_some_iff.mp e
      refine Rn.call hT rfl rfl rfl (Nat.le_of_ble_eq_true rfl) (rcv_v gX1_put (by omega) e_577) (rX1_put (by omega) e_576 ?_)
      show Rn d _ _ 102 [some (.ref q0), some (.int x1), some (.int x2), some (.int ((x1 >>> ((4 : Int32) &&& 31)) &&& (15 : Int32))), some (.int (x1 &&& (15 : Int32))), some (.int v_553), some (.int v_562)] [] h_579 Q
      refine Rn.n hT 1 (pc' := 154) (L' := [some (.ref q0), some (.int x1), some (.int x2), some (.int ((x1 >>> ((4 : Int32) &&& 31)) &&& (15 : Int32))), some (.int (x1 &&& (15 : Int32))), some (.int v_553), some (.int v_562)]) (st' := []) rfl ?_
      exact Rn.weak (ll_n (ll_n (ll_n (ll_n (ll_n (ll_n (ll_n ll_e))))))) (rX1_stir_b154 hd hq e)
    · rw [if_neg c_556] at e
      refine Rn.bt hT rfl rfl rfl (decide_eq_true c_556) ?_
      refine Rn.n hT 1 (pc' := 106) (L' := [some (.ref q0), some (.int x1), some (.int x2), some (.int ((x1 >>> ((4 : Int32) &&& 31)) &&& (15 : Int32))), some (.int (x1 &&& (15 : Int32))), some (.int v_553), none]) (st' := [.ref q0]) rfl ?_
      obtain ⟨v_557, e_558, e⟩ := Option.bind_eq_some_iff.mp e
      refine Rn.hp hT rfl rfl (gR_hp e_558) ?_
      refine Rn.n hT 4 (pc' := 114) (L' := [some (.ref q0), some (.int x1), some (.int x2), some (.int ((x1 >>> ((4 : Int32) &&& 31)) &&& (15 : Int32))), some (.int (x1 &&& (15 : Int32))), some (.int v_553), none]) (st' := [.int x2, .int ((4 : Int32) * v_553), .ref v_557]) rfl ?_
      by_cases c_559 : x2 = 0
      · rw [if_pos c_559] at e
        refine Rn.bt hT rfl rfl rfl (decide_eq_true c_559) ?_
        refine Rn.n hT 3 (pc' := 126) (L' := [some (.ref q0), some (.int x1), some (.int x2), some (.int ((x1 >>> ((4 : Int32) &&& 31)) &&& (15 : Int32))), some (.int (x1 &&& (15 : Int32))), some (.int v_553), none]) (st' := [.int ((x1 &&& (15 : Int32)) ^^^ (2 : Int32)), .int ((4 : Int32) * v_553), .ref v_557]) rfl ?_
        exact Rn.weak (ll_s (ll_n (ll_n (ll_s (ll_n (ll_n (ll_n ll_e))))))) (rX1_stir_b126 hd hq e)
      · rw [if_neg c_559] at e
        refine Rn.bf hT rfl rfl rfl (decide_eq_false c_559) ?_
        refine Rn.n hT 2 (pc' := 126) (L' := [some (.ref q0), some (.int x1), some (.int x2), some (.int ((x1 >>> ((4 : Int32) &&& 31)) &&& (15 : Int32))), some (.int (x1 &&& (15 : Int32))), some (.int v_553), none]) (st' := [.int (x1 &&& (15 : Int32)), .int ((4 : Int32) * v_553), .ref v_557]) rfl ?_
        exact Rn.weak (ll_s (ll_n (ll_n (ll_s (ll_n (ll_n (ll_n ll_e))))))) (rX1_stir_b126 hd hq e)
set_option maxRecDepth 10000 in
theorem hX1_go : iv_Tb 24 tX1_go := iv_tb_of (m := mX1_go) rfl
set_option maxRecDepth 10000 in
theorem gX1_go : PG.2 24 = some mX1_go := iv_pi_of (t := tX1_go) rfl (by decide)
def fX1_go (N : Nat) (h : iv_H) (q0 : Nat) (x1 : Int32) : Option (iv_H) := ((cko h q0 1).bind fun _ => (fX1_stir N h q0 x1 (1 : Int32)).bind fun h_607 => some h_607)
set_option maxRecDepth 10000 in
set_option maxHeartbeats 4000000 in
theorem rX1_go {d N : Nat} (hd : 3 ≤ d) {h : iv_H} {q0 : Nat} {x1 : Int32} {r : iv_H} {Q : Option Value → iv_H → Prop} (e : fX1_go N h q0 x1 = some r) (hq : Q none r) : Cl d 24 [.ref q0, .int x1] h Q := by
  obtain ⟨d, rfl⟩ : ∃ k, d = k + 1 := ⟨d - 1, by omega⟩
  have hd : 2 ≤ d := by omega
  have hT := hX1_go
  unfold fX1_go at e
  refine Cl.into (by decide) gX1_go rfl ?_
  show Rn d 24 none 0 [some (.ref q0), some (.int x1)] [] h Q
  refine Rn.n hT 3 (pc' := 3) (L' := [some (.ref q0), some (.int x1)]) (st' := [.int (1 : Int32), .int x1, .ref q0]) rfl ?_
  obtain ⟨_, e_605, e⟩ := Option.bind_eq_some_iff.mp e
  obtain ⟨h_607, e_604, e⟩ := Option.bind_eq_some_iff.mp e
  refine Rn.call hT rfl rfl rfl (Nat.le_of_ble_eq_true rfl) (rcv_v gX1_stir (by omega) e_605) (rX1_stir (by omega) e_604 ?_)
  show Rn d _ _ 6 [some (.ref q0), some (.int x1)] [] h_607 Q
  obtain rfl := Option.some.inj e
  exact Rn.ret hT rfl rfl rfl hq
set_option maxRecDepth 10000 in
theorem hX1_goBack : iv_Tb 25 tX1_goBack := iv_tb_of (m := mX1_goBack) rfl
set_option maxRecDepth 10000 in
theorem gX1_goBack : PG.2 25 = some mX1_goBack := iv_pi_of (t := tX1_goBack) rfl (by decide)
def fX1_goBack (N : Nat) (h : iv_H) (q0 : Nat) (x1 : Int32) : Option (iv_H) := ((cko h q0 1).bind fun _ => (fX1_stir N h q0 x1 (0 : Int32)).bind fun h_611 => some h_611)
set_option maxRecDepth 10000 in
set_option maxHeartbeats 4000000 in
theorem rX1_goBack {d N : Nat} (hd : 3 ≤ d) {h : iv_H} {q0 : Nat} {x1 : Int32} {r : iv_H} {Q : Option Value → iv_H → Prop} (e : fX1_goBack N h q0 x1 = some r) (hq : Q none r) : Cl d 25 [.ref q0, .int x1] h Q := by
  obtain ⟨d, rfl⟩ : ∃ k, d = k + 1 := ⟨d - 1, by omega⟩
  have hd : 2 ≤ d := by omega
  have hT := hX1_goBack
  unfold fX1_goBack at e
  refine Cl.into (by decide) gX1_goBack rfl ?_
  show Rn d 25 none 0 [some (.ref q0), some (.int x1)] [] h Q
  refine Rn.n hT 3 (pc' := 3) (L' := [some (.ref q0), some (.int x1)]) (st' := [.int (0 : Int32), .int x1, .ref q0]) rfl ?_
  obtain ⟨_, e_609, e⟩ := Option.bind_eq_some_iff.mp e
  obtain ⟨h_611, e_608, e⟩ := Option.bind_eq_some_iff.mp e
  refine Rn.call hT rfl rfl rfl (Nat.le_of_ble_eq_true rfl) (rcv_v gX1_stir (by omega) e_609) (rX1_stir (by omega) e_608 ?_)
  show Rn d _ _ 6 [some (.ref q0), some (.int x1)] [] h_611 Q
  obtain rfl := Option.some.inj e
  exact Rn.ret hT rfl rfl rfl hq
set_option maxRecDepth 10000 in
theorem hX1_border : iv_Tb 29 tX1_border := iv_tb_of (m := mX1_border) rfl
set_option maxRecDepth 10000 in
theorem gX1_border : PG.2 29 = some mX1_border := iv_pi_of (t := tX1_border) rfl (by decide)
def fX1_border_b83 (N : Nat) (h : iv_H)  (s0 : Int32) : Option (Int32) := (some s0)
set_option maxRecDepth 10000 in
set_option maxHeartbeats 4000000 in
theorem rX1_border_b83 {d N : Nat} (hd : 0 ≤ d) {h : iv_H}  {s0 : Int32} {r : Int32} {Q : Option Value → iv_H → Prop} (hq : Q (some (.int r)) h) (e : fX1_border_b83 N h  s0 = some r) : Rn d 29 (some .int) 83 [none, none, none, none, none, none] [.int s0] h Q := by
  have hT := hX1_border
  unfold fX1_border_b83 at e
  obtain rfl := Option.some.inj e
  exact Rn.ret hT rfl rfl rfl hq
def fX1_border_b78 (N : Nat) (h : iv_H)   : Option (Int32) := (fX1_border_b83 N h (1 : Int32))
set_option maxRecDepth 10000 in
set_option maxHeartbeats 4000000 in
theorem rX1_border_b78 {d N : Nat} (hd : 0 ≤ d) {h : iv_H}   {r : Int32} {Q : Option Value → iv_H → Prop} (hq : Q (some (.int r)) h) (e : fX1_border_b78 N h   = some r) : Rn d 29 (some .int) 78 [none, none, none, none, none, none] [] h Q := by
  have hT := hX1_border
  unfold fX1_border_b78 at e
  refine Rn.n hT 2 (pc' := 83) (L' := [none, none, none, none, none, none]) (st' := [.int (1 : Int32)]) rfl ?_
  exact Rn.weak (ll_n (ll_n (ll_n (ll_n (ll_n (ll_n ll_e)))))) (rX1_border_b83 hd hq e)
def fX1_border_b67 (N : Nat) (h : iv_H) (x3 : Int32) (x5 : Int32)  : Option (Int32) := (if x3 = (1 : Int32) then (fX1_border_b78 N h) else (if x5 = (1 : Int32) then (fX1_border_b78 N h) else (fX1_border_b83 N h (0 : Int32))))
set_option maxRecDepth 10000 in
set_option maxHeartbeats 4000000 in
theorem rX1_border_b67 {d N : Nat} (hd : 0 ≤ d) {h : iv_H} {x3 : Int32} {x5 : Int32}  {r : Int32} {Q : Option Value → iv_H → Prop} (hq : Q (some (.int r)) h) (e : fX1_border_b67 N h x3 x5  = some r) : Rn d 29 (some .int) 67 [none, none, none, some (.int x3), none, some (.int x5)] [] h Q := by
  have hT := hX1_border
  unfold fX1_border_b67 at e
  refine Rn.n hT 2 (pc' := 69) (L' := [none, none, none, some (.int x3), none, some (.int x5)]) (st' := [.int (1 : Int32), .int x3]) rfl ?_
  by_cases c_628 : x3 = (1 : Int32)
  · rw [if_pos c_628] at e
    refine Rn.bt hT rfl rfl rfl (decide_eq_true c_628) ?_
    exact Rn.weak (ll_n (ll_n (ll_n (ll_n (ll_n (ll_n ll_e)))))) (rX1_border_b78 hd hq e)
  · rw [if_neg c_628] at e
    refine Rn.bf hT rfl rfl rfl (decide_eq_false c_628) ?_
    refine Rn.n hT 2 (pc' := 75) (L' := [none, none, none, some (.int x3), none, some (.int x5)]) (st' := [.int (1 : Int32), .int x5]) rfl ?_
    by_cases c_629 : x5 = (1 : Int32)
    · rw [if_pos c_629] at e
      refine Rn.bf hT rfl rfl rfl (decide_eq_false (fun z => z c_629)) ?_
      exact Rn.weak (ll_n (ll_n (ll_n (ll_n (ll_n (ll_n ll_e)))))) (rX1_border_b78 hd hq e)
    · rw [if_neg c_629] at e
      refine Rn.bt hT rfl rfl rfl (decide_eq_true c_629) ?_
      refine Rn.n hT 1 (pc' := 83) (L' := [none, none, none, some (.int x3), none, some (.int x5)]) (st' := [.int (0 : Int32)]) rfl ?_
      exact Rn.weak (ll_n (ll_n (ll_n (ll_n (ll_n (ll_n ll_e)))))) (rX1_border_b83 hd hq e)
def fX1_border_b46 (N : Nat) (h : iv_H) (x3 : Int32) (s0 : Int32) : Option (Int32) := (if x3 = s0 then (some (0 : Int32)) else (if x3 = (3 : Int32) then (fX1_border_b67 N h x3 s0) else (if s0 = (3 : Int32) then (fX1_border_b67 N h x3 s0) else (some (1 : Int32)))))
set_option maxRecDepth 10000 in
set_option maxHeartbeats 4000000 in
theorem rX1_border_b46 {d N : Nat} (hd : 0 ≤ d) {h : iv_H} {x3 : Int32} {s0 : Int32} {r : Int32} {Q : Option Value → iv_H → Prop} (hq : Q (some (.int r)) h) (e : fX1_border_b46 N h x3 s0 = some r) : Rn d 29 (some .int) 46 [none, none, none, some (.int x3), none, none] [.int s0] h Q := by
  have hT := hX1_border
  unfold fX1_border_b46 at e
  refine Rn.n hT 3 (pc' := 51) (L' := [none, none, none, some (.int x3), none, some (.int s0)]) (st' := [.int s0, .int x3]) rfl ?_
  by_cases c_625 : x3 = s0
  · rw [if_pos c_625] at e
    refine Rn.bf hT rfl rfl rfl (decide_eq_false (fun z => z c_625)) ?_
    refine Rn.n hT 1 (pc' := 55) (L' := [none, none, none, some (.int x3), none, some (.int s0)]) (st' := [.int (0 : Int32)]) rfl ?_
    obtain rfl := Option.some.inj e
    exact Rn.ret hT rfl rfl rfl hq
  · rw [if_neg c_625] at e
    refine Rn.bt hT rfl rfl rfl (decide_eq_true c_625) ?_
    refine Rn.n hT 2 (pc' := 58) (L' := [none, none, none, some (.int x3), none, some (.int s0)]) (st' := [.int (3 : Int32), .int x3]) rfl ?_
    by_cases c_626 : x3 = (3 : Int32)
    · rw [if_pos c_626] at e
      refine Rn.bt hT rfl rfl rfl (decide_eq_true c_626) ?_
      exact Rn.weak (ll_n (ll_n (ll_n (ll_s (ll_n (ll_s ll_e)))))) (rX1_border_b67 hd hq e)
    · rw [if_neg c_626] at e
      refine Rn.bf hT rfl rfl rfl (decide_eq_false c_626) ?_
      refine Rn.n hT 2 (pc' := 64) (L' := [none, none, none, some (.int x3), none, some (.int s0)]) (st' := [.int (3 : Int32), .int s0]) rfl ?_
      by_cases c_627 : s0 = (3 : Int32)
      · rw [if_pos c_627] at e
        refine Rn.bf hT rfl rfl rfl (decide_eq_false (fun z => z c_627)) ?_
        exact Rn.weak (ll_n (ll_n (ll_n (ll_s (ll_n (ll_s ll_e)))))) (rX1_border_b67 hd hq e)
      · rw [if_neg c_627] at e
        refine Rn.bt hT rfl rfl rfl (decide_eq_true c_627) ?_
        refine Rn.n hT 1 (pc' := 85) (L' := [none, none, none, some (.int x3), none, some (.int s0)]) (st' := [.int (1 : Int32)]) rfl ?_
        obtain rfl := Option.some.inj e
        exact Rn.ret hT rfl rfl rfl hq
def fX1_border (N : Nat) (h : iv_H) (q0 : Nat) (x1 : Int32) (x2 : Int32) : Option (Int32) := ((gR h 1 9 q0).bind fun v_612 => ((aI h v_612 (((4 : Int32) * x1) + x2)).bind fun v_614 => ((gR h 1 10 q0).bind fun v_616 => ((aI h v_616 (((4 : Int32) * x1) + x2)).bind fun v_618 => (if v_618 = (-1 : Int32) then (fX1_border_b46 N h v_614 (3 : Int32)) else ((gR h 1 9 q0).bind fun v_621 => ((aI h v_621 (((4 : Int32) * v_618) + (x2 ^^^ (2 : Int32)))).bind fun v_623 => (fX1_border_b46 N h v_614 v_623))))))))
set_option maxRecDepth 10000 in
set_option maxHeartbeats 4000000 in
theorem rX1_border {d N : Nat} (hd : 1 ≤ d) {h : iv_H} {q0 : Nat} {x1 : Int32} {x2 : Int32} {r : Int32} {Q : Option Value → iv_H → Prop} (e : fX1_border N h q0 x1 x2 = some r) (hq : Q (some (.int r)) h) : Cl d 29 [.ref q0, .int x1, .int x2] h Q := by
  obtain ⟨d, rfl⟩ : ∃ k, d = k + 1 := ⟨d - 1, by omega⟩
  have hd : 0 ≤ d := by omega
  have hT := hX1_border
  unfold fX1_border at e
  refine Cl.into (by decide) gX1_border rfl ?_
  show Rn d 29 (some .int) 0 [some (.ref q0), some (.int x1), some (.int x2), none, none, none] [] h Q
  refine Rn.n hT 1 (pc' := 1) (L' := [some (.ref q0), some (.int x1), some (.int x2), none, none, none]) (st' := [.ref q0]) rfl ?_
  obtain ⟨v_612, e_613, e⟩ := Option.bind_eq_some_iff.mp e
  refine Rn.hp hT rfl rfl (gR_hp e_613) ?_
  refine Rn.n hT 5 (pc' := 9) (L' := [some (.ref q0), some (.int x1), some (.int x2), none, none, none]) (st' := [.int (((4 : Int32) * x1) + x2), .ref v_612]) rfl ?_
  obtain ⟨v_614, e_615, e⟩ := Option.bind_eq_some_iff.mp e
  refine Rn.hp hT rfl rfl (aI_hp e_615) ?_
  refine Rn.n hT 2 (pc' := 12) (L' := [some (.ref q0), some (.int x1), some (.int x2), some (.int v_614), none, none]) (st' := [.ref q0]) rfl ?_
  obtain ⟨v_616, e_617, e⟩ := Option.bind_eq_some_iff.mp e
  refine Rn.hp hT rfl rfl (gR_hp e_617) ?_
  refine Rn.n hT 5 (pc' := 20) (L' := [some (.ref q0), some (.int x1), some (.int x2), some (.int v_614), none, none]) (st' := [.int (((4 : Int32) * x1) + x2), .ref v_616]) rfl ?_
  obtain ⟨v_618, e_619, e⟩ := Option.bind_eq_some_iff.mp e
  refine Rn.hp hT rfl rfl (aI_hp e_619) ?_
  refine Rn.n hT 3 (pc' := 26) (L' := [some (.ref q0), some (.int x1), some (.int x2), some (.int v_614), some (.int v_618), none]) (st' := [.int (-1 : Int32), .int v_618]) rfl ?_
  by_cases c_620 : v_618 = (-1 : Int32)
  · rw [if_pos c_620] at e
    refine Rn.bf hT rfl rfl rfl (decide_eq_false (fun z => z c_620)) ?_
    refine Rn.n hT 2 (pc' := 46) (L' := [some (.ref q0), some (.int x1), some (.int x2), some (.int v_614), some (.int v_618), none]) (st' := [.int (3 : Int32)]) rfl ?_
    exact Rn.weak (ll_n (ll_n (ll_n (ll_s (ll_n (ll_n ll_e)))))) (rX1_border_b46 hd hq e)
  · rw [if_neg c_620] at e
    refine Rn.bt hT rfl rfl rfl (decide_eq_true c_620) ?_
    refine Rn.n hT 1 (pc' := 34) (L' := [some (.ref q0), some (.int x1), some (.int x2), some (.int v_614), some (.int v_618), none]) (st' := [.ref q0]) rfl ?_
    obtain ⟨v_621, e_622, e⟩ := Option.bind_eq_some_iff.mp e
    refine Rn.hp hT rfl rfl (gR_hp e_622) ?_
    refine Rn.n hT 7 (pc' := 45) (L' := [some (.ref q0), some (.int x1), some (.int x2), some (.int v_614), some (.int v_618), none]) (st' := [.int (((4 : Int32) * v_618) + (x2 ^^^ (2 : Int32))), .ref v_621]) rfl ?_
    obtain ⟨v_623, e_624, e⟩ := Option.bind_eq_some_iff.mp e
    refine Rn.hp hT rfl rfl (aI_hp e_624) ?_
    exact Rn.weak (ll_n (ll_n (ll_n (ll_s (ll_n (ll_n ll_e)))))) (rX1_border_b46 hd hq e)
set_option maxRecDepth 10000 in
theorem hX1_touching : iv_Tb 28 tX1_touching := iv_tb_of (m := mX1_touching) rfl
set_option maxRecDepth 10000 in
theorem gX1_touching : PG.2 28 = some mX1_touching := iv_pi_of (t := tX1_touching) rfl (by decide)
def fX1_touching_l5 (N : Nat) (h : iv_H) (q0 : Nat) (x1 : Int32) (x2 : Int32) (kx : Int32 → Option (Int32)) : Nat → Int32 → Int32 → Option (Int32)
  | 0, _, _ => none
  | n + 1, x3, x4 => (if (4 : Int32) ≤ x4 then (kx x3) else ((cko h q0 1).bind fun _ => (fX1_border N h q0 x1 x4).bind fun v_639 => (fX1_touching_l5 N h q0 x1 x2 kx n (x3 + v_639) (x4 + (1 : Int32)))))
set_option maxRecDepth 10000 in
set_option maxHeartbeats 4000000 in
theorem rX1_touching_l5 {d N : Nat} (hd : 1 ≤ d) {h : iv_H} {q0 : Nat} {x1 : Int32} {x2 : Int32} {kx : Int32 → Option (Int32)} {r : Int32} {Q : Option Value → iv_H → Prop} (hk : ∀ (x3 : Int32), kx x3 = some r → Rn d 28 (some .int) 27 [some (.ref q0), some (.int x1), some (.int x2), some (.int x3), none, none] [] h Q) (hq : Q (some (.int r)) h) : ∀ (n : Nat) (x3 : Int32) (x4 : Int32), fX1_touching_l5 N h q0 x1 x2 kx n x3 x4 = some r → Rn d 28 (some .int) 5 [some (.ref q0), some (.int x1), some (.int x2), some (.int x3), some (.int x4), none] [] h Q := by
  have hT := hX1_touching
  intro n
  induction n with
  | zero =>
    intro x3 x4 e
    rw [fX1_touching_l5] at e
    cases e
  | succ n ih =>
    intro x3 x4 e
    rw [fX1_touching_l5] at e
    refine Rn.n hT 2 (pc' := 8) (L' := [some (.ref q0), some (.int x1), some (.int x2), some (.int x3), some (.int x4), none]) (st' := [.int (4 : Int32), .int x4]) rfl ?_
    by_cases c_636 : (4 : Int32) ≤ x4
    · rw [if_pos c_636] at e
      refine Rn.bt hT rfl rfl rfl (decide_eq_true c_636) ?_
      exact Rn.weak (ll_s (ll_s (ll_s (ll_s (ll_n (ll_n ll_e)))))) (hk x3 e)
    · rw [if_neg c_636] at e
      refine Rn.bf hT rfl rfl rfl (decide_eq_false c_636) ?_
      refine Rn.n hT 4 (pc' := 16) (L' := [some (.ref q0), some (.int x1), some (.int x2), some (.int x3), some (.int x4), none]) (st' := [.int x4, .int x1, .ref q0, .int x3]) rfl ?_
      obtain ⟨_, e_638, e⟩ := Option.bind_eq_some_iff.mp e
      obtain ⟨v_639, e_637, e⟩ := Option.bind_eq_some_iff.mp e
      refine Rn.call hT rfl rfl rfl (Nat.le_of_ble_eq_true rfl) (rcv_v gX1_border (by omega) e_638) (rX1_border (by omega) e_637 ?_)
      show Rn d _ _ 19 [some (.ref q0), some (.int x1), some (.int x2), some (.int x3), some (.int x4), none] [.int v_639, .int x3] h Q
      refine Rn.n hT 4 (pc' := 5) (L' := [some (.ref q0), some (.int x1), some (.int x2), some (.int (x3 + v_639)), some (.int (x4 + (1 : Int32))), none]) (st' := []) rfl ?_
      exact Rn.weak (ll_s (ll_s (ll_s (ll_s (ll_s (ll_n ll_e)))))) (ih (x3 + v_639) (x4 + (1 : Int32)) e)
def fX1_touching_b84 (N : Nat) (h : iv_H) (q0 : Nat) (x2 : Int32) (x4 : Int32) (x5 : Int32) (s0 : Int32) (s1 : Int32) (kb : Int32 → Int32 → Option (Int32)) (kx : Int32 → Option (Int32)) : Option (Int32) := (kb (s1 + s0) (x5 + (1 : Int32)))
set_option maxRecDepth 10000 in
set_option maxHeartbeats 4000000 in
theorem rX1_touching_b84 {d N : Nat} (hd : 1 ≤ d) {h : iv_H} {q0 : Nat} {x2 : Int32} {x4 : Int32} {x5 : Int32} {s0 : Int32} {s1 : Int32} {kb : Int32 → Int32 → Option (Int32)} {kx : Int32 → Option (Int32)} {r : Int32} {Q : Option Value → iv_H → Prop} (hb : ∀ (w3 : Int32) (w5 : Int32), kb w3 w5 = some r → Rn d 28 (some .int) 51 [some (.ref q0), none, some (.int x2), some (.int w3), some (.int x4), some (.int w5)] [] h Q) (hk : ∀ (w3 : Int32), kx w3 = some r → Rn d 28 (some .int) 92 [none, none, none, some (.int w3), none, none] [] h Q) (hq : Q (some (.int r)) h) (e : fX1_touching_b84 N h q0 x2 x4 x5 s0 s1 kb kx = some r) : Rn d 28 (some .int) 84 [some (.ref q0), none, some (.int x2), none, some (.int x4), some (.int x5)] [.int s0, .int s1] h Q := by
  have hT := hX1_touching
  unfold fX1_touching_b84 at e
  refine Rn.n hT 4 (pc' := 51) (L' := [some (.ref q0), none, some (.int x2), some (.int (s1 + s0)), some (.int x4), some (.int (x5 + (1 : Int32)))]) (st' := []) rfl ?_
  exact Rn.weak (ll_s (ll_n (ll_s (ll_s (ll_s (ll_s ll_e)))))) (hb (s1 + s0) (x5 + (1 : Int32)) e)
def fX1_touching_l51 (N : Nat) (h : iv_H) (q0 : Nat) (x2 : Int32) (x4 : Int32) (kx : Int32 → Option (Int32)) : Nat → Int32 → Int32 → Option (Int32)
  | 0, _, _ => none
  | n + 1, x3, x5 => (if (4 : Int32) ≤ x5 then (kx x3) else (if x4 = (-1 : Int32) then (kx x3) else (if x5 = (x2 ^^^ (2 : Int32)) then (fX1_touching_b84 N h q0 x2 x4 x5 (0 : Int32) x3 (fX1_touching_l51 N h q0 x2 x4 kx n) kx) else ((cko h q0 1).bind fun _ => (fX1_border N h q0 x4 x5).bind fun v_646 => (fX1_touching_b84 N h q0 x2 x4 x5 v_646 x3 (fX1_touching_l51 N h q0 x2 x4 kx n) kx)))))
set_option maxRecDepth 10000 in
set_option maxHeartbeats 4000000 in
theorem rX1_touching_l51 {d N : Nat} (hd : 1 ≤ d) {h : iv_H} {q0 : Nat} {x2 : Int32} {x4 : Int32} {kx : Int32 → Option (Int32)} {r : Int32} {Q : Option Value → iv_H → Prop} (hk : ∀ (x3 : Int32), kx x3 = some r → Rn d 28 (some .int) 92 [none, none, none, some (.int x3), none, none] [] h Q) (hq : Q (some (.int r)) h) : ∀ (n : Nat) (x3 : Int32) (x5 : Int32), fX1_touching_l51 N h q0 x2 x4 kx n x3 x5 = some r → Rn d 28 (some .int) 51 [some (.ref q0), none, some (.int x2), some (.int x3), some (.int x4), some (.int x5)] [] h Q := by
  have hT := hX1_touching
  intro n
  induction n with
  | zero =>
    intro x3 x5 e
    rw [fX1_touching_l51] at e
    cases e
  | succ n ih =>
    intro x3 x5 e
    rw [fX1_touching_l51] at e
    refine Rn.n hT 2 (pc' := 54) (L' := [some (.ref q0), none, some (.int x2), some (.int x3), some (.int x4), some (.int x5)]) (st' := [.int (4 : Int32), .int x5]) rfl ?_
    by_cases c_641 : (4 : Int32) ≤ x5
    · rw [if_pos c_641] at e
      refine Rn.bt hT rfl rfl rfl (decide_eq_true c_641) ?_
      exact Rn.weak (ll_n (ll_n (ll_n (ll_s (ll_n (ll_n ll_e)))))) (hk x3 e)
    · rw [if_neg c_641] at e
      refine Rn.bf hT rfl rfl rfl (decide_eq_false c_641) ?_
      refine Rn.n hT 2 (pc' := 60) (L' := [some (.ref q0), none, some (.int x2), some (.int x3), some (.int x4), some (.int x5)]) (st' := [.int (-1 : Int32), .int x4]) rfl ?_
      by_cases c_642 : x4 = (-1 : Int32)
      · rw [if_pos c_642] at e
        refine Rn.bt hT rfl rfl rfl (decide_eq_true c_642) ?_
        exact Rn.weak (ll_n (ll_n (ll_n (ll_s (ll_n (ll_n ll_e)))))) (hk x3 e)
      · rw [if_neg c_642] at e
        refine Rn.bf hT rfl rfl rfl (decide_eq_false c_642) ?_
        refine Rn.n hT 5 (pc' := 69) (L' := [some (.ref q0), none, some (.int x2), some (.int x3), some (.int x4), some (.int x5)]) (st' := [.int (x2 ^^^ (2 : Int32)), .int x5, .int x3]) rfl ?_
        by_cases c_643 : x5 = (x2 ^^^ (2 : Int32))
        · rw [if_pos c_643] at e
          refine Rn.bf hT rfl rfl rfl (decide_eq_false (fun z => z c_643)) ?_
          refine Rn.n hT 2 (pc' := 84) (L' := [some (.ref q0), none, some (.int x2), some (.int x3), some (.int x4), some (.int x5)]) (st' := [.int (0 : Int32), .int x3]) rfl ?_
          exact Rn.weak (ll_s (ll_n (ll_s (ll_n (ll_s (ll_s ll_e)))))) (rX1_touching_b84 hd ih hk hq e)
        · rw [if_neg c_643] at e
          refine Rn.bt hT rfl rfl rfl (decide_eq_true c_643) ?_
          refine Rn.n hT 3 (pc' := 81) (L' := [some (.ref q0), none, some (.int x2), some (.int x3), some (.int x4), some (.int x5)]) (st' := [.int x5, .int x4, .ref q0, .int x3]) rfl ?_
          obtain ⟨_, e_645, e⟩ := Option.bind_eq_some_iff.mp e
          obtain ⟨v_646, e_644, e⟩ := Option.bind_eq_some_iff.mp e
          refine Rn.call hT rfl rfl rfl (Nat.le_of_ble_eq_true rfl) (rcv_v gX1_border (by omega) e_645) (rX1_border (by omega) e_644 ?_)
          show Rn d _ _ 84 [some (.ref q0), none, some (.int x2), some (.int x3), some (.int x4), some (.int x5)] [.int v_646, .int x3] h Q
          exact Rn.weak (ll_s (ll_n (ll_s (ll_n (ll_s (ll_s ll_e)))))) (rX1_touching_b84 hd ih hk hq e)
def fX1_touching_b92 (N : Nat) (h : iv_H) (x3 : Int32)  : Option (Int32) := (some x3)
set_option maxRecDepth 10000 in
set_option maxHeartbeats 4000000 in
theorem rX1_touching_b92 {d N : Nat} (hd : 1 ≤ d) {h : iv_H} {x3 : Int32}  {r : Int32} {Q : Option Value → iv_H → Prop} (hq : Q (some (.int r)) h) (e : fX1_touching_b92 N h x3  = some r) : Rn d 28 (some .int) 92 [none, none, none, some (.int x3), none, none] [] h Q := by
  have hT := hX1_touching
  unfold fX1_touching_b92 at e
  refine Rn.n hT 1 (pc' := 93) (L' := [none, none, none, some (.int x3), none, none]) (st' := [.int x3]) rfl ?_
  obtain rfl := Option.some.inj e
  exact Rn.ret hT rfl rfl rfl hq
def fX1_touching_b46 (N : Nat) (h : iv_H) (q0 : Nat) (x2 : Int32) (x3 : Int32) (s0 : Int32) : Option (Int32) := (fX1_touching_l51 N h q0 x2 s0 (fun (z_640 : Int32) => (fX1_touching_b92 N h z_640)) N x3 (0 : Int32))
set_option maxRecDepth 10000 in
set_option maxHeartbeats 4000000 in
theorem rX1_touching_b46 {d N : Nat} (hd : 1 ≤ d) {h : iv_H} {q0 : Nat} {x2 : Int32} {x3 : Int32} {s0 : Int32} {r : Int32} {Q : Option Value → iv_H → Prop} (hq : Q (some (.int r)) h) (e : fX1_touching_b46 N h q0 x2 x3 s0 = some r) : Rn d 28 (some .int) 46 [some (.ref q0), none, some (.int x2), some (.int x3), none, none] [.int s0] h Q := by
  have hT := hX1_touching
  unfold fX1_touching_b46 at e
  refine Rn.n hT 3 (pc' := 51) (L' := [some (.ref q0), none, some (.int x2), some (.int x3), some (.int s0), some (.int (0 : Int32))]) (st' := []) rfl ?_
  refine Rn.weak (ll_s (ll_n (ll_s (ll_s (ll_s (ll_s ll_e)))))) (rX1_touching_l51 hd (fun z_640 e => ?_) hq N x3 (0 : Int32) e)
  try dsimp only at e
  exact Rn.weak (ll_n (ll_n (ll_n (ll_s (ll_n (ll_n ll_e)))))) (rX1_touching_b92 hd hq e)
def fX1_touching (N : Nat) (h : iv_H) (q0 : Nat) (x1 : Int32) (x2 : Int32) : Option (Int32) := (fX1_touching_l5 N h q0 x1 x2 (fun (z_630 : Int32) => (if x2 = (-1 : Int32) then (fX1_touching_b46 N h q0 x2 z_630 (-1 : Int32)) else ((gR h 1 10 q0).bind fun v_632 => ((aI h v_632 (((4 : Int32) * x1) + x2)).bind fun v_634 => (fX1_touching_b46 N h q0 x2 z_630 v_634))))) N (0 : Int32) (0 : Int32))
set_option maxRecDepth 10000 in
set_option maxHeartbeats 4000000 in
theorem rX1_touching {d N : Nat} (hd : 2 ≤ d) {h : iv_H} {q0 : Nat} {x1 : Int32} {x2 : Int32} {r : Int32} {Q : Option Value → iv_H → Prop} (e : fX1_touching N h q0 x1 x2 = some r) (hq : Q (some (.int r)) h) : Cl d 28 [.ref q0, .int x1, .int x2] h Q := by
  obtain ⟨d, rfl⟩ : ∃ k, d = k + 1 := ⟨d - 1, by omega⟩
  have hd : 1 ≤ d := by omega
  have hT := hX1_touching
  unfold fX1_touching at e
  refine Cl.into (by decide) gX1_touching rfl ?_
  show Rn d 28 (some .int) 0 [some (.ref q0), some (.int x1), some (.int x2), none, none, none] [] h Q
  refine Rn.n hT 4 (pc' := 5) (L' := [some (.ref q0), some (.int x1), some (.int x2), some (.int (0 : Int32)), some (.int (0 : Int32)), none]) (st' := []) rfl ?_
  refine Rn.weak (ll_s (ll_s (ll_s (ll_s (ll_s (ll_n ll_e)))))) (rX1_touching_l5 hd (fun z_630 e => ?_) hq N (0 : Int32) (0 : Int32) e)
  try dsimp only at e
  refine Rn.n hT 2 (pc' := 29) (L' := [some (.ref q0), some (.int x1), some (.int x2), some (.int z_630), none, none]) (st' := [.int (-1 : Int32), .int x2]) rfl ?_
  by_cases c_631 : x2 = (-1 : Int32)
  · rw [if_pos c_631] at e
    refine Rn.bf hT rfl rfl rfl (decide_eq_false (fun z => z c_631)) ?_
    refine Rn.n hT 2 (pc' := 46) (L' := [some (.ref q0), some (.int x1), some (.int x2), some (.int z_630), none, none]) (st' := [.int (-1 : Int32)]) rfl ?_
    exact Rn.weak (ll_s (ll_n (ll_s (ll_s (ll_n (ll_n ll_e)))))) (rX1_touching_b46 hd hq e)
  · rw [if_neg c_631] at e
    refine Rn.bt hT rfl rfl rfl (decide_eq_true c_631) ?_
    refine Rn.n hT 1 (pc' := 37) (L' := [some (.ref q0), some (.int x1), some (.int x2), some (.int z_630), none, none]) (st' := [.ref q0]) rfl ?_
    obtain ⟨v_632, e_633, e⟩ := Option.bind_eq_some_iff.mp e
    refine Rn.hp hT rfl rfl (gR_hp e_633) ?_
    refine Rn.n hT 5 (pc' := 45) (L' := [some (.ref q0), some (.int x1), some (.int x2), some (.int z_630), none, none]) (st' := [.int (((4 : Int32) * x1) + x2), .ref v_632]) rfl ?_
    obtain ⟨v_634, e_635, e⟩ := Option.bind_eq_some_iff.mp e
    refine Rn.hp hT rfl rfl (aI_hp e_635) ?_
    exact Rn.weak (ll_s (ll_n (ll_s (ll_s (ll_n (ll_n ll_e)))))) (rX1_touching_b46 hd hq e)
set_option maxRecDepth 10000 in
theorem hX1_gain : iv_Tb 27 tX1_gain := iv_tb_of (m := mX1_gain) rfl
set_option maxRecDepth 10000 in
theorem gX1_gain : PG.2 27 = some mX1_gain := iv_pi_of (t := tX1_gain) rfl (by decide)
def fX1_gain_b53 (N : Nat) (h : iv_H) (q0 : Nat) (x1 : Int32) (x2 : Int32) (x3 : Int32)  : Option (Int32 × iv_H) := ((cko h q0 1).bind fun _ => (fX1_touching N h q0 x2 x3).bind fun v_662 => ((cko h q0 1).bind fun _ => (fX1_stir N h q0 x1 (1 : Int32)).bind fun h_666 => ((cko h_666 q0 1).bind fun _ => (fX1_touching N h_666 q0 x2 x3).bind fun v_669 => ((cko h_666 q0 1).bind fun _ => (fX1_stir N h_666 q0 x1 (0 : Int32)).bind fun h_673 => (some ((v_669 - v_662), h_673))))))
set_option maxRecDepth 10000 in
set_option maxHeartbeats 4000000 in
theorem rX1_gain_b53 {d N : Nat} (hd : 2 ≤ d) {h : iv_H} {q0 : Nat} {x1 : Int32} {x2 : Int32} {x3 : Int32}  {r : Int32 × iv_H} {Q : Option Value → iv_H → Prop} (hq : Q (some (.int r.1)) r.2) (e : fX1_gain_b53 N h q0 x1 x2 x3  = some r) : Rn d 27 (some .int) 53 [some (.ref q0), some (.int x1), some (.int x2), some (.int x3), none, none] [] h Q := by
  have hT := hX1_gain
  unfold fX1_gain_b53 at e
  refine Rn.n hT 3 (pc' := 56) (L' := [some (.ref q0), some (.int x1), some (.int x2), some (.int x3), none, none]) (st' := [.int x3, .int x2, .ref q0]) rfl ?_
  obtain ⟨_, e_661, e⟩ := Option.bind_eq_some_iff.mp e
  obtain ⟨v_662, e_660, e⟩ := Option.bind_eq_some_iff.mp e
  refine Rn.call hT rfl rfl rfl (Nat.le_of_ble_eq_true rfl) (rcv_v gX1_touching (by omega) e_661) (rX1_touching (by omega) e_660 ?_)
  show Rn d _ _ 59 [some (.ref q0), some (.int x1), some (.int x2), some (.int x3), none, none] [.int v_662] h Q
  refine Rn.n hT 4 (pc' := 64) (L' := [some (.ref q0), some (.int x1), some (.int x2), some (.int x3), some (.int v_662), none]) (st' := [.int (1 : Int32), .int x1, .ref q0]) rfl ?_
  obtain ⟨_, e_664, e⟩ := Option.bind_eq_some_iff.mp e
  obtain ⟨h_666, e_663, e⟩ := Option.bind_eq_some_iff.mp e
  refine Rn.call hT rfl rfl rfl (Nat.le_of_ble_eq_true rfl) (rcv_v gX1_stir (by omega) e_664) (rX1_stir (by omega) e_663 ?_)
  show Rn d _ _ 67 [some (.ref q0), some (.int x1), some (.int x2), some (.int x3), some (.int v_662), none] [] h_666 Q
  refine Rn.n hT 3 (pc' := 70) (L' := [some (.ref q0), some (.int x1), some (.int x2), some (.int x3), some (.int v_662), none]) (st' := [.int x3, .int x2, .ref q0]) rfl ?_
  obtain ⟨_, e_668, e⟩ := Option.bind_eq_some_iff.mp e
  obtain ⟨v_669, e_667, e⟩ := Option.bind_eq_some_iff.mp e
  refine Rn.call hT rfl rfl rfl (Nat.le_of_ble_eq_true rfl) (rcv_v gX1_touching (by omega) e_668) (rX1_touching (by omega) e_667 ?_)
  show Rn d _ _ 73 [some (.ref q0), some (.int x1), some (.int x2), some (.int x3), some (.int v_662), none] [.int v_669] h_666 Q
  refine Rn.n hT 4 (pc' := 78) (L' := [some (.ref q0), some (.int x1), some (.int x2), some (.int x3), some (.int v_662), some (.int v_669)]) (st' := [.int (0 : Int32), .int x1, .ref q0]) rfl ?_
  obtain ⟨_, e_671, e⟩ := Option.bind_eq_some_iff.mp e
  obtain ⟨h_673, e_670, e⟩ := Option.bind_eq_some_iff.mp e
  refine Rn.call hT rfl rfl rfl (Nat.le_of_ble_eq_true rfl) (rcv_v gX1_stir (by omega) e_671) (rX1_stir (by omega) e_670 ?_)
  show Rn d _ _ 81 [some (.ref q0), some (.int x1), some (.int x2), some (.int x3), some (.int v_662), some (.int v_669)] [] h_673 Q
  refine Rn.n hT 3 (pc' := 86) (L' := [some (.ref q0), some (.int x1), some (.int x2), some (.int x3), some (.int v_662), some (.int v_669)]) (st' := [.int (v_669 - v_662)]) rfl ?_
  obtain rfl := Option.some.inj e
  exact Rn.ret hT rfl rfl rfl hq
def fX1_gain (N : Nat) (h : iv_H) (q0 : Nat) (x1 : Int32) : Option (Int32 × iv_H) := ((gR h 1 5 q0).bind fun v_647 => ((aI h v_647 ((x1 >>> ((4 : Int32) &&& 31)) &&& (15 : Int32))).bind fun v_649 => (if (x1 >>> ((8 : Int32) &&& 31)) = (1 : Int32) then (fX1_gain_b53 N h q0 x1 v_649 (x1 &&& (15 : Int32))) else (if (x1 >>> ((8 : Int32) &&& 31)) = (2 : Int32) then ((gR h 1 5 q0).bind fun v_653 => ((aI h v_653 (x1 &&& (15 : Int32))).bind fun v_655 => ((cko h q0 1).bind fun _ => (fX1_sideTo N h q0 v_649 v_655).bind fun v_659 => (fX1_gain_b53 N h q0 x1 v_649 v_659)))) else (fX1_gain_b53 N h q0 x1 v_649 (-1 : Int32))))))
set_option maxRecDepth 10000 in
set_option maxHeartbeats 4000000 in
theorem rX1_gain {d N : Nat} (hd : 3 ≤ d) {h : iv_H} {q0 : Nat} {x1 : Int32} {r : Int32 × iv_H} {Q : Option Value → iv_H → Prop} (e : fX1_gain N h q0 x1 = some r) (hq : Q (some (.int r.1)) r.2) : Cl d 27 [.ref q0, .int x1] h Q := by
  obtain ⟨d, rfl⟩ : ∃ k, d = k + 1 := ⟨d - 1, by omega⟩
  have hd : 2 ≤ d := by omega
  have hT := hX1_gain
  unfold fX1_gain at e
  refine Cl.into (by decide) gX1_gain rfl ?_
  show Rn d 27 (some .int) 0 [some (.ref q0), some (.int x1), none, none, none, none] [] h Q
  refine Rn.n hT 1 (pc' := 1) (L' := [some (.ref q0), some (.int x1), none, none, none, none]) (st' := [.ref q0]) rfl ?_
  obtain ⟨v_647, e_648, e⟩ := Option.bind_eq_some_iff.mp e
  refine Rn.hp hT rfl rfl (gR_hp e_648) ?_
  refine Rn.n hT 5 (pc' := 10) (L' := [some (.ref q0), some (.int x1), none, none, none, none]) (st' := [.int ((x1 >>> ((4 : Int32) &&& 31)) &&& (15 : Int32)), .ref v_647]) rfl ?_
  obtain ⟨v_649, e_650, e⟩ := Option.bind_eq_some_iff.mp e
  refine Rn.hp hT rfl rfl (aI_hp e_650) ?_
  refine Rn.n hT 7 (pc' := 19) (L' := [some (.ref q0), some (.int x1), some (.int v_649), some (.int (-1 : Int32)), none, none]) (st' := [.int (1 : Int32), .int (x1 >>> ((8 : Int32) &&& 31))]) rfl ?_
  by_cases c_651 : (x1 >>> ((8 : Int32) &&& 31)) = (1 : Int32)
  · rw [if_pos c_651] at e
    refine Rn.bf hT rfl rfl rfl (decide_eq_false (fun z => z c_651)) ?_
    refine Rn.n hT 5 (pc' := 53) (L' := [some (.ref q0), some (.int x1), some (.int v_649), some (.int (x1 &&& (15 : Int32))), none, none]) (st' := []) rfl ?_
    exact Rn.weak (ll_s (ll_s (ll_s (ll_s (ll_n (ll_n ll_e)))))) (rX1_gain_b53 hd hq e)
  · rw [if_neg c_651] at e
    refine Rn.bt hT rfl rfl rfl (decide_eq_true c_651) ?_
    refine Rn.n hT 4 (pc' := 35) (L' := [some (.ref q0), some (.int x1), some (.int v_649), some (.int (-1 : Int32)), none, none]) (st' := [.int (2 : Int32), .int (x1 >>> ((8 : Int32) &&& 31))]) rfl ?_
    by_cases c_652 : (x1 >>> ((8 : Int32) &&& 31)) = (2 : Int32)
    · rw [if_pos c_652] at e
      refine Rn.bf hT rfl rfl rfl (decide_eq_false (fun z => z c_652)) ?_
      refine Rn.n hT 3 (pc' := 41) (L' := [some (.ref q0), some (.int x1), some (.int v_649), some (.int (-1 : Int32)), none, none]) (st' := [.ref q0, .int v_649, .ref q0]) rfl ?_
      obtain ⟨v_653, e_654, e⟩ := Option.bind_eq_some_iff.mp e
      refine Rn.hp hT rfl rfl (gR_hp e_654) ?_
      refine Rn.n hT 3 (pc' := 48) (L' := [some (.ref q0), some (.int x1), some (.int v_649), some (.int (-1 : Int32)), none, none]) (st' := [.int (x1 &&& (15 : Int32)), .ref v_653, .int v_649, .ref q0]) rfl ?_
      obtain ⟨v_655, e_656, e⟩ := Option.bind_eq_some_iff.mp e
      refine Rn.hp hT rfl rfl (aI_hp e_656) ?_
      obtain ⟨_, e_658, e⟩ := Option.bind_eq_some_iff.mp e
      obtain ⟨v_659, e_657, e⟩ := Option.bind_eq_some_iff.mp e
      refine Rn.call hT rfl rfl rfl (Nat.le_of_ble_eq_true rfl) (rcv_v gX1_sideTo (by omega) e_658) (rX1_sideTo (by omega) e_657 ?_)
      show Rn d _ _ 52 [some (.ref q0), some (.int x1), some (.int v_649), some (.int (-1 : Int32)), none, none] [.int v_659] h Q
      refine Rn.n hT 1 (pc' := 53) (L' := [some (.ref q0), some (.int x1), some (.int v_649), some (.int v_659), none, none]) (st' := []) rfl ?_
      exact Rn.weak (ll_s (ll_s (ll_s (ll_s (ll_n (ll_n ll_e)))))) (rX1_gain_b53 hd hq e)
    · rw [if_neg c_652] at e
      refine Rn.bt hT rfl rfl rfl (decide_eq_true c_652) ?_
      exact Rn.weak (ll_s (ll_s (ll_s (ll_s (ll_n (ll_n ll_e)))))) (rX1_gain_b53 hd hq e)
set_option maxRecDepth 10000 in
theorem hX1_mismatches : iv_Tb 30 tX1_mismatches := iv_tb_of (m := mX1_mismatches) rfl
set_option maxRecDepth 10000 in
theorem gX1_mismatches : PG.2 30 = some mX1_mismatches := iv_pi_of (t := tX1_mismatches) rfl (by decide)
def fX1_mismatches_b81 (N : Nat) (h : iv_H) (q0 : Nat) (x2 : Int32) (x3 : Int32) (s0 : Int32) (s1 : Int32) (kb : Int32 → Int32 → Option (Int32)) (kx : Int32 → Option (Int32)) : Option (Int32) := (kb (s1 + s0) (x3 + (1 : Int32)))
set_option maxRecDepth 10000 in
set_option maxHeartbeats 4000000 in
theorem rX1_mismatches_b81 {d N : Nat} (hd : 1 ≤ d) {h : iv_H} {q0 : Nat} {x2 : Int32} {x3 : Int32} {s0 : Int32} {s1 : Int32} {kb : Int32 → Int32 → Option (Int32)} {kx : Int32 → Option (Int32)} {r : Int32} {Q : Option Value → iv_H → Prop} (hb : ∀ (w1 : Int32) (w3 : Int32), kb w1 w3 = some r → Rn d 30 (some .int) 14 [some (.ref q0), some (.int w1), some (.int x2), some (.int w3), none] [] h Q) (hk : ∀ (w1 : Int32), kx w1 = some r → Rn d 30 (some .int) 89 [some (.ref q0), some (.int w1), some (.int x2), none, none] [] h Q) (hq : Q (some (.int r)) h) (e : fX1_mismatches_b81 N h q0 x2 x3 s0 s1 kb kx = some r) : Rn d 30 (some .int) 81 [some (.ref q0), none, some (.int x2), some (.int x3), none] [.int s0, .int s1] h Q := by
  have hT := hX1_mismatches
  unfold fX1_mismatches_b81 at e
  refine Rn.n hT 4 (pc' := 14) (L' := [some (.ref q0), some (.int (s1 + s0)), some (.int x2), some (.int (x3 + (1 : Int32))), none]) (st' := []) rfl ?_
  exact Rn.weak (ll_s (ll_s (ll_s (ll_s (ll_n ll_e))))) (hb (s1 + s0) (x3 + (1 : Int32)) e)
def fX1_mismatches_b63 (N : Nat) (h : iv_H) (q0 : Nat) (x2 : Int32) (x3 : Int32) (x4 : Int32) (s0 : Int32) (s1 : Int32) (kb : Int32 → Int32 → Option (Int32)) (kx : Int32 → Option (Int32)) : Option (Int32) := (if x3 = 0 then ((cko h q0 1).bind fun _ => (fX1_border N h q0 x4 (3 : Int32)).bind fun v_695 => (fX1_mismatches_b81 N h q0 x2 x3 v_695 (s1 + s0) kb kx)) else (fX1_mismatches_b81 N h q0 x2 x3 (0 : Int32) (s1 + s0) kb kx))
set_option maxRecDepth 10000 in
set_option maxHeartbeats 4000000 in
theorem rX1_mismatches_b63 {d N : Nat} (hd : 1 ≤ d) {h : iv_H} {q0 : Nat} {x2 : Int32} {x3 : Int32} {x4 : Int32} {s0 : Int32} {s1 : Int32} {kb : Int32 → Int32 → Option (Int32)} {kx : Int32 → Option (Int32)} {r : Int32} {Q : Option Value → iv_H → Prop} (hb : ∀ (w1 : Int32) (w3 : Int32), kb w1 w3 = some r → Rn d 30 (some .int) 14 [some (.ref q0), some (.int w1), some (.int x2), some (.int w3), none] [] h Q) (hk : ∀ (w1 : Int32), kx w1 = some r → Rn d 30 (some .int) 89 [some (.ref q0), some (.int w1), some (.int x2), none, none] [] h Q) (hq : Q (some (.int r)) h) (e : fX1_mismatches_b63 N h q0 x2 x3 x4 s0 s1 kb kx = some r) : Rn d 30 (some .int) 63 [some (.ref q0), none, some (.int x2), some (.int x3), some (.int x4)] [.int s0, .int s1] h Q := by
  have hT := hX1_mismatches
  unfold fX1_mismatches_b63 at e
  refine Rn.n hT 4 (pc' := 67) (L' := [some (.ref q0), some (.int (s1 + s0)), some (.int x2), some (.int x3), some (.int x4)]) (st' := [.int x3, .int (s1 + s0)]) rfl ?_
  by_cases c_692 : x3 = 0
  · rw [if_pos c_692] at e
    refine Rn.bf hT rfl rfl rfl (decide_eq_false (fun z => z c_692)) ?_
    refine Rn.n hT 3 (pc' := 74) (L' := [some (.ref q0), some (.int (s1 + s0)), some (.int x2), some (.int x3), some (.int x4)]) (st' := [.int (3 : Int32), .int x4, .ref q0, .int (s1 + s0)]) rfl ?_
    obtain ⟨_, e_694, e⟩ := Option.bind_eq_some_iff.mp e
    obtain ⟨v_695, e_693, e⟩ := Option.bind_eq_some_iff.mp e
    refine Rn.call hT rfl rfl rfl (Nat.le_of_ble_eq_true rfl) (rcv_v gX1_border (by omega) e_694) (rX1_border (by omega) e_693 ?_)
    show Rn d _ _ 77 [some (.ref q0), some (.int (s1 + s0)), some (.int x2), some (.int x3), some (.int x4)] [.int v_695, .int (s1 + s0)] h Q
    refine Rn.n hT 1 (pc' := 81) (L' := [some (.ref q0), some (.int (s1 + s0)), some (.int x2), some (.int x3), some (.int x4)]) (st' := [.int v_695, .int (s1 + s0)]) rfl ?_
    exact Rn.weak (ll_s (ll_n (ll_s (ll_s (ll_n ll_e))))) (rX1_mismatches_b81 hd hb hk hq e)
  · rw [if_neg c_692] at e
    refine Rn.bt hT rfl rfl rfl (decide_eq_true c_692) ?_
    refine Rn.n hT 1 (pc' := 81) (L' := [some (.ref q0), some (.int (s1 + s0)), some (.int x2), some (.int x3), some (.int x4)]) (st' := [.int (0 : Int32), .int (s1 + s0)]) rfl ?_
    exact Rn.weak (ll_s (ll_n (ll_s (ll_s (ll_n ll_e))))) (rX1_mismatches_b81 hd hb hk hq e)
def fX1_mismatches_l14 (N : Nat) (h : iv_H) (q0 : Nat) (x2 : Int32) (kx : Int32 → Option (Int32)) : Nat → Int32 → Int32 → Option (Int32)
  | 0, _, _ => none
  | n + 1, x1, x3 => ((gI h 1 0 q0).bind fun v_679 => (if v_679 ≤ x3 then (kx x1) else ((cko h q0 1).bind fun _ => (fX1_border N h q0 (((4 : Int32) * x2) + x3) (1 : Int32)).bind fun v_684 => ((cko h q0 1).bind fun _ => (fX1_border N h q0 (((4 : Int32) * x2) + x3) (2 : Int32)).bind fun v_687 => (if x2 = 0 then ((cko h q0 1).bind fun _ => (fX1_border N h q0 (((4 : Int32) * x2) + x3) (0 : Int32)).bind fun v_691 => (fX1_mismatches_b63 N h q0 x2 x3 (((4 : Int32) * x2) + x3) v_691 (x1 + (v_684 + v_687)) (fX1_mismatches_l14 N h q0 x2 kx n) kx)) else (fX1_mismatches_b63 N h q0 x2 x3 (((4 : Int32) * x2) + x3) (0 : Int32) (x1 + (v_684 + v_687)) (fX1_mismatches_l14 N h q0 x2 kx n) kx))))))
set_option maxRecDepth 10000 in
set_option maxHeartbeats 4000000 in
theorem rX1_mismatches_l14 {d N : Nat} (hd : 1 ≤ d) {h : iv_H} {q0 : Nat} {x2 : Int32} {kx : Int32 → Option (Int32)} {r : Int32} {Q : Option Value → iv_H → Prop} (hk : ∀ (x1 : Int32), kx x1 = some r → Rn d 30 (some .int) 89 [some (.ref q0), some (.int x1), some (.int x2), none, none] [] h Q) (hq : Q (some (.int r)) h) : ∀ (n : Nat) (x1 : Int32) (x3 : Int32), fX1_mismatches_l14 N h q0 x2 kx n x1 x3 = some r → Rn d 30 (some .int) 14 [some (.ref q0), some (.int x1), some (.int x2), some (.int x3), none] [] h Q := by
  have hT := hX1_mismatches
  intro n
  induction n with
  | zero =>
    intro x1 x3 e
    rw [fX1_mismatches_l14] at e
    cases e
  | succ n ih =>
    intro x1 x3 e
    rw [fX1_mismatches_l14] at e
    refine Rn.n hT 2 (pc' := 16) (L' := [some (.ref q0), some (.int x1), some (.int x2), some (.int x3), none]) (st' := [.ref q0, .int x3]) rfl ?_
    obtain ⟨v_679, e_680, e⟩ := Option.bind_eq_some_iff.mp e
    refine Rn.hp hT rfl rfl (gI_hp e_680) ?_
    by_cases c_681 : v_679 ≤ x3
    · rw [if_pos c_681] at e
      refine Rn.bt hT rfl rfl rfl (decide_eq_true c_681) ?_
      exact Rn.weak (ll_s (ll_s (ll_s (ll_n (ll_n ll_e))))) (hk x1 e)
    · rw [if_neg c_681] at e
      refine Rn.bf hT rfl rfl rfl (decide_eq_false c_681) ?_
      refine Rn.n hT 10 (pc' := 34) (L' := [some (.ref q0), some (.int x1), some (.int x2), some (.int x3), some (.int (((4 : Int32) * x2) + x3))]) (st' := [.int (1 : Int32), .int (((4 : Int32) * x2) + x3), .ref q0, .int x1]) rfl ?_
      obtain ⟨_, e_683, e⟩ := Option.bind_eq_some_iff.mp e
      obtain ⟨v_684, e_682, e⟩ := Option.bind_eq_some_iff.mp e
      refine Rn.call hT rfl rfl rfl (Nat.le_of_ble_eq_true rfl) (rcv_v gX1_border (by omega) e_683) (rX1_border (by omega) e_682 ?_)
      show Rn d _ _ 37 [some (.ref q0), some (.int x1), some (.int x2), some (.int x3), some (.int (((4 : Int32) * x2) + x3))] [.int v_684, .int x1] h Q
      refine Rn.n hT 3 (pc' := 41) (L' := [some (.ref q0), some (.int x1), some (.int x2), some (.int x3), some (.int (((4 : Int32) * x2) + x3))]) (st' := [.int (2 : Int32), .int (((4 : Int32) * x2) + x3), .ref q0, .int v_684, .int x1]) rfl ?_
      obtain ⟨_, e_686, e⟩ := Option.bind_eq_some_iff.mp e
      obtain ⟨v_687, e_685, e⟩ := Option.bind_eq_some_iff.mp e
      refine Rn.call hT rfl rfl rfl (Nat.le_of_ble_eq_true rfl) (rcv_v gX1_border (by omega) e_686) (rX1_border (by omega) e_685 ?_)
      show Rn d _ _ 44 [some (.ref q0), some (.int x1), some (.int x2), some (.int x3), some (.int (((4 : Int32) * x2) + x3))] [.int v_687, .int v_684, .int x1] h Q
      refine Rn.n hT 5 (pc' := 49) (L' := [some (.ref q0), some (.int (x1 + (v_684 + v_687))), some (.int x2), some (.int x3), some (.int (((4 : Int32) * x2) + x3))]) (st' := [.int x2, .int (x1 + (v_684 + v_687))]) rfl ?_
      by_cases c_688 : x2 = 0
      · rw [if_pos c_688] at e
        refine Rn.bf hT rfl rfl rfl (decide_eq_false (fun z => z c_688)) ?_
        refine Rn.n hT 3 (pc' := 56) (L' := [some (.ref q0), some (.int (x1 + (v_684 + v_687))), some (.int x2), some (.int x3), some (.int (((4 : Int32) * x2) + x3))]) (st' := [.int (0 : Int32), .int (((4 : Int32) * x2) + x3), .ref q0, .int (x1 + (v_684 + v_687))]) rfl ?_
        obtain ⟨_, e_690, e⟩ := Option.bind_eq_some_iff.mp e
        obtain ⟨v_691, e_689, e⟩ := Option.bind_eq_some_iff.mp e
        refine Rn.call hT rfl rfl rfl (Nat.le_of_ble_eq_true rfl) (rcv_v gX1_border (by omega) e_690) (rX1_border (by omega) e_689 ?_)
        show Rn d _ _ 59 [some (.ref q0), some (.int (x1 + (v_684 + v_687))), some (.int x2), some (.int x3), some (.int (((4 : Int32) * x2) + x3))] [.int v_691, .int (x1 + (v_684 + v_687))] h Q
        refine Rn.n hT 1 (pc' := 63) (L' := [some (.ref q0), some (.int (x1 + (v_684 + v_687))), some (.int x2), some (.int x3), some (.int (((4 : Int32) * x2) + x3))]) (st' := [.int v_691, .int (x1 + (v_684 + v_687))]) rfl ?_
        exact Rn.weak (ll_s (ll_n (ll_s (ll_s (ll_s ll_e))))) (rX1_mismatches_b63 hd ih hk hq e)
      · rw [if_neg c_688] at e
        refine Rn.bt hT rfl rfl rfl (decide_eq_true c_688) ?_
        refine Rn.n hT 1 (pc' := 63) (L' := [some (.ref q0), some (.int (x1 + (v_684 + v_687))), some (.int x2), some (.int x3), some (.int (((4 : Int32) * x2) + x3))]) (st' := [.int (0 : Int32), .int (x1 + (v_684 + v_687))]) rfl ?_
        exact Rn.weak (ll_s (ll_n (ll_s (ll_s (ll_s ll_e))))) (rX1_mismatches_b63 hd ih hk hq e)
def fX1_mismatches_l4 (N : Nat) (h : iv_H) (q0 : Nat) (kx : Int32 → Option (Int32)) : Nat → Int32 → Int32 → Option (Int32)
  | 0, _, _ => none
  | n + 1, x1, x2 => ((gI h 1 1 q0).bind fun v_675 => (if v_675 ≤ x2 then (kx x1) else (fX1_mismatches_l14 N h q0 x2 (fun (z_678 : Int32) => (fX1_mismatches_l4 N h q0 kx n z_678 (x2 + (1 : Int32)))) N x1 (0 : Int32))))
set_option maxRecDepth 10000 in
set_option maxHeartbeats 4000000 in
theorem rX1_mismatches_l4 {d N : Nat} (hd : 1 ≤ d) {h : iv_H} {q0 : Nat} {kx : Int32 → Option (Int32)} {r : Int32} {Q : Option Value → iv_H → Prop} (hk : ∀ (x1 : Int32), kx x1 = some r → Rn d 30 (some .int) 95 [none, some (.int x1), none, none, none] [] h Q) (hq : Q (some (.int r)) h) : ∀ (n : Nat) (x1 : Int32) (x2 : Int32), fX1_mismatches_l4 N h q0 kx n x1 x2 = some r → Rn d 30 (some .int) 4 [some (.ref q0), some (.int x1), some (.int x2), none, none] [] h Q := by
  have hT := hX1_mismatches
  intro n
  induction n with
  | zero =>
    intro x1 x2 e
    rw [fX1_mismatches_l4] at e
    cases e
  | succ n ih =>
    intro x1 x2 e
    rw [fX1_mismatches_l4] at e
    refine Rn.n hT 2 (pc' := 6) (L' := [some (.ref q0), some (.int x1), some (.int x2), none, none]) (st' := [.ref q0, .int x2]) rfl ?_
    obtain ⟨v_675, e_676, e⟩ := Option.bind_eq_some_iff.mp e
    refine Rn.hp hT rfl rfl (gI_hp e_676) ?_
    by_cases c_677 : v_675 ≤ x2
    · rw [if_pos c_677] at e
      refine Rn.bt hT rfl rfl rfl (decide_eq_true c_677) ?_
      exact Rn.weak (ll_n (ll_s (ll_n (ll_n (ll_n ll_e))))) (hk x1 e)
    · rw [if_neg c_677] at e
      refine Rn.bf hT rfl rfl rfl (decide_eq_false c_677) ?_
      refine Rn.n hT 2 (pc' := 14) (L' := [some (.ref q0), some (.int x1), some (.int x2), some (.int (0 : Int32)), none]) (st' := []) rfl ?_
      refine Rn.weak (ll_s (ll_s (ll_s (ll_s (ll_n ll_e))))) (rX1_mismatches_l14 hd (fun z_678 e => ?_) hq N x1 (0 : Int32) e)
      try dsimp only at e
      refine Rn.n hT 2 (pc' := 4) (L' := [some (.ref q0), some (.int z_678), some (.int (x2 + (1 : Int32))), none, none]) (st' := []) rfl ?_
      exact Rn.weak (ll_s (ll_s (ll_s (ll_n (ll_n ll_e))))) (ih z_678 (x2 + (1 : Int32)) e)
def fX1_mismatches (N : Nat) (h : iv_H) (q0 : Nat) : Option (Int32) := (fX1_mismatches_l4 N h q0 (fun (z_674 : Int32) => (some z_674)) N (0 : Int32) (0 : Int32))
set_option maxRecDepth 10000 in
set_option maxHeartbeats 4000000 in
theorem rX1_mismatches {d N : Nat} (hd : 2 ≤ d) {h : iv_H} {q0 : Nat} {r : Int32} {Q : Option Value → iv_H → Prop} (e : fX1_mismatches N h q0 = some r) (hq : Q (some (.int r)) h) : Cl d 30 [.ref q0] h Q := by
  obtain ⟨d, rfl⟩ : ∃ k, d = k + 1 := ⟨d - 1, by omega⟩
  have hd : 1 ≤ d := by omega
  have hT := hX1_mismatches
  unfold fX1_mismatches at e
  refine Cl.into (by decide) gX1_mismatches rfl ?_
  show Rn d 30 (some .int) 0 [some (.ref q0), none, none, none, none] [] h Q
  refine Rn.n hT 4 (pc' := 4) (L' := [some (.ref q0), some (.int (0 : Int32)), some (.int (0 : Int32)), none, none]) (st' := []) rfl ?_
  refine Rn.weak (ll_s (ll_s (ll_s (ll_n (ll_n ll_e))))) (rX1_mismatches_l4 hd (fun z_674 e => ?_) hq N (0 : Int32) (0 : Int32) e)
  try dsimp only at e
  refine Rn.n hT 1 (pc' := 96) (L' := [none, some (.int z_674), none, none, none]) (st' := [.int z_674]) rfl ?_
  obtain rfl := Option.some.inj e
  exact Rn.ret hT rfl rfl rfl hq
set_option maxRecDepth 10000 in
theorem hX1_firstMismatch : iv_Tb 31 tX1_firstMismatch := iv_tb_of (m := mX1_firstMismatch) rfl
set_option maxRecDepth 10000 in
theorem gX1_firstMismatch : PG.2 31 = some mX1_firstMismatch := iv_pi_of (t := tX1_firstMismatch) rfl (by decide)
def fX1_firstMismatch_b41 (N : Nat) (h : iv_H) (q0 : Nat) (x1 : Int32) (x2 : Int32)  (kb : Int32 → Option (Int32)) (kx : Unit → Option (Int32)) : Option (Int32) := (kb (x2 + (1 : Int32)))
set_option maxRecDepth 10000 in
set_option maxHeartbeats 4000000 in
theorem rX1_firstMismatch_b41 {d N : Nat} (hd : 1 ≤ d) {h : iv_H} {q0 : Nat} {x1 : Int32} {x2 : Int32}  {kb : Int32 → Option (Int32)} {kx : Unit → Option (Int32)} {r : Int32} {Q : Option Value → iv_H → Prop} (hb : ∀ (w2 : Int32), kb w2 = some r → Rn d 31 (some .int) 10 [some (.ref q0), some (.int x1), some (.int w2)] [] h Q) (hk : ∀ (u : Unit), kx u = some r → Rn d 31 (some .int) 47 [some (.ref q0), some (.int x1), none] [] h Q) (hq : Q (some (.int r)) h) (e : fX1_firstMismatch_b41 N h q0 x1 x2  kb kx = some r) : Rn d 31 (some .int) 41 [some (.ref q0), some (.int x1), some (.int x2)] [] h Q := by
  have hT := hX1_firstMismatch
  unfold fX1_firstMismatch_b41 at e
  refine Rn.n hT 2 (pc' := 10) (L' := [some (.ref q0), some (.int x1), some (.int (x2 + (1 : Int32)))]) (st' := []) rfl ?_
  exact Rn.weak (ll_s (ll_s (ll_s ll_e))) (hb (x2 + (1 : Int32)) e)
def fX1_firstMismatch_l10 (N : Nat) (h : iv_H) (q0 : Nat) (x1 : Int32) (kx : Unit → Option (Int32)) : Nat → Int32 → Option (Int32)
  | 0, _ => none
  | n + 1, x2 => (if (4 : Int32) ≤ x2 then (kx ()) else ((gR h 1 7 q0).bind fun v_698 => ((aI h v_698 x1).bind fun v_700 => (if v_700 = (-1 : Int32) then (fX1_firstMismatch_b41 N h q0 x1 x2 (fX1_firstMismatch_l10 N h q0 x1 kx n) kx) else ((cko h q0 1).bind fun _ => (fX1_border N h q0 x1 x2).bind fun v_705 => (if v_705 = (1 : Int32) then (some (((4 : Int32) * x1) + x2)) else (fX1_firstMismatch_b41 N h q0 x1 x2 (fX1_firstMismatch_l10 N h q0 x1 kx n) kx)))))))
set_option maxRecDepth 10000 in
set_option maxHeartbeats 4000000 in
theorem rX1_firstMismatch_l10 {d N : Nat} (hd : 1 ≤ d) {h : iv_H} {q0 : Nat} {x1 : Int32} {kx : Unit → Option (Int32)} {r : Int32} {Q : Option Value → iv_H → Prop} (hk : ∀ (u : Unit), kx u = some r → Rn d 31 (some .int) 47 [some (.ref q0), some (.int x1), none] [] h Q) (hq : Q (some (.int r)) h) : ∀ (n : Nat) (x2 : Int32), fX1_firstMismatch_l10 N h q0 x1 kx n x2 = some r → Rn d 31 (some .int) 10 [some (.ref q0), some (.int x1), some (.int x2)] [] h Q := by
  have hT := hX1_firstMismatch
  intro n
  induction n with
  | zero =>
    intro x2 e
    rw [fX1_firstMismatch_l10] at e
    cases e
  | succ n ih =>
    intro x2 e
    rw [fX1_firstMismatch_l10] at e
    refine Rn.n hT 2 (pc' := 12) (L' := [some (.ref q0), some (.int x1), some (.int x2)]) (st' := [.int (4 : Int32), .int x2]) rfl ?_
    by_cases c_697 : (4 : Int32) ≤ x2
    · rw [if_pos c_697] at e
      refine Rn.bt hT rfl rfl rfl (decide_eq_true c_697) ?_
      exact Rn.weak (ll_s (ll_s (ll_n ll_e))) (hk () e)
    · rw [if_neg c_697] at e
      refine Rn.bf hT rfl rfl rfl (decide_eq_false c_697) ?_
      refine Rn.n hT 1 (pc' := 16) (L' := [some (.ref q0), some (.int x1), some (.int x2)]) (st' := [.ref q0]) rfl ?_
      obtain ⟨v_698, e_699, e⟩ := Option.bind_eq_some_iff.mp e
      refine Rn.hp hT rfl rfl (gR_hp e_699) ?_
      refine Rn.n hT 1 (pc' := 20) (L' := [some (.ref q0), some (.int x1), some (.int x2)]) (st' := [.int x1, .ref v_698]) rfl ?_
      obtain ⟨v_700, e_701, e⟩ := Option.bind_eq_some_iff.mp e
      refine Rn.hp hT rfl rfl (aI_hp e_701) ?_
      refine Rn.n hT 1 (pc' := 22) (L' := [some (.ref q0), some (.int x1), some (.int x2)]) (st' := [.int (-1 : Int32), .int v_700]) rfl ?_
      by_cases c_702 : v_700 = (-1 : Int32)
      · rw [if_pos c_702] at e
        refine Rn.bt hT rfl rfl rfl (decide_eq_true c_702) ?_
        exact Rn.weak (ll_s (ll_s (ll_s ll_e))) (rX1_firstMismatch_b41 hd ih hk hq e)
      · rw [if_neg c_702] at e
        refine Rn.bf hT rfl rfl rfl (decide_eq_false c_702) ?_
        refine Rn.n hT 3 (pc' := 28) (L' := [some (.ref q0), some (.int x1), some (.int x2)]) (st' := [.int x2, .int x1, .ref q0]) rfl ?_
        obtain ⟨_, e_704, e⟩ := Option.bind_eq_some_iff.mp e
        obtain ⟨v_705, e_703, e⟩ := Option.bind_eq_some_iff.mp e
        refine Rn.call hT rfl rfl rfl (Nat.le_of_ble_eq_true rfl) (rcv_v gX1_border (by omega) e_704) (rX1_border (by omega) e_703 ?_)
        show Rn d _ _ 31 [some (.ref q0), some (.int x1), some (.int x2)] [.int v_705] h Q
        refine Rn.n hT 1 (pc' := 32) (L' := [some (.ref q0), some (.int x1), some (.int x2)]) (st' := [.int (1 : Int32), .int v_705]) rfl ?_
        by_cases c_706 : v_705 = (1 : Int32)
        · rw [if_pos c_706] at e
          refine Rn.bf hT rfl rfl rfl (decide_eq_false (fun z => z c_706)) ?_
          refine Rn.n hT 5 (pc' := 40) (L' := [some (.ref q0), some (.int x1), some (.int x2)]) (st' := [.int (((4 : Int32) * x1) + x2)]) rfl ?_
          obtain rfl := Option.some.inj e
          exact Rn.ret hT rfl rfl rfl hq
        · rw [if_neg c_706] at e
          refine Rn.bt hT rfl rfl rfl (decide_eq_true c_706) ?_
          exact Rn.weak (ll_s (ll_s (ll_s ll_e))) (rX1_firstMismatch_b41 hd ih hk hq e)
def fX1_firstMismatch_l2 (N : Nat) (h : iv_H) (q0 : Nat) (kx : Unit → Option (Int32)) : Nat → Int32 → Option (Int32)
  | 0, _ => none
  | n + 1, x1 => (if (16 : Int32) ≤ x1 then (kx ()) else (fX1_firstMismatch_l10 N h q0 x1 (fun (_ : Unit) => (fX1_firstMismatch_l2 N h q0 kx n (x1 + (1 : Int32)))) N (0 : Int32)))
set_option maxRecDepth 10000 in
set_option maxHeartbeats 4000000 in
theorem rX1_firstMismatch_l2 {d N : Nat} (hd : 1 ≤ d) {h : iv_H} {q0 : Nat} {kx : Unit → Option (Int32)} {r : Int32} {Q : Option Value → iv_H → Prop} (hk : ∀ (u : Unit), kx u = some r → Rn d 31 (some .int) 53 [none, none, none] [] h Q) (hq : Q (some (.int r)) h) : ∀ (n : Nat) (x1 : Int32), fX1_firstMismatch_l2 N h q0 kx n x1 = some r → Rn d 31 (some .int) 2 [some (.ref q0), some (.int x1), none] [] h Q := by
  have hT := hX1_firstMismatch
  intro n
  induction n with
  | zero =>
    intro x1 e
    rw [fX1_firstMismatch_l2] at e
    cases e
  | succ n ih =>
    intro x1 e
    rw [fX1_firstMismatch_l2] at e
    refine Rn.n hT 2 (pc' := 5) (L' := [some (.ref q0), some (.int x1), none]) (st' := [.int (16 : Int32), .int x1]) rfl ?_
    by_cases c_696 : (16 : Int32) ≤ x1
    · rw [if_pos c_696] at e
      refine Rn.bt hT rfl rfl rfl (decide_eq_true c_696) ?_
      exact Rn.weak (ll_n (ll_n (ll_n ll_e))) (hk () e)
    · rw [if_neg c_696] at e
      refine Rn.bf hT rfl rfl rfl (decide_eq_false c_696) ?_
      refine Rn.n hT 2 (pc' := 10) (L' := [some (.ref q0), some (.int x1), some (.int (0 : Int32))]) (st' := []) rfl ?_
      refine Rn.weak (ll_s (ll_s (ll_s ll_e))) (rX1_firstMismatch_l10 hd (fun _ e => ?_) hq N (0 : Int32) e)
      try dsimp only at e
      refine Rn.n hT 2 (pc' := 2) (L' := [some (.ref q0), some (.int (x1 + (1 : Int32))), none]) (st' := []) rfl ?_
      exact Rn.weak (ll_s (ll_s (ll_n ll_e))) (ih (x1 + (1 : Int32)) e)
def fX1_firstMismatch (N : Nat) (h : iv_H) (q0 : Nat) : Option (Int32) := (fX1_firstMismatch_l2 N h q0 (fun (_ : Unit) => (some (-1 : Int32))) N (0 : Int32))
set_option maxRecDepth 10000 in
set_option maxHeartbeats 4000000 in
theorem rX1_firstMismatch {d N : Nat} (hd : 2 ≤ d) {h : iv_H} {q0 : Nat} {r : Int32} {Q : Option Value → iv_H → Prop} (e : fX1_firstMismatch N h q0 = some r) (hq : Q (some (.int r)) h) : Cl d 31 [.ref q0] h Q := by
  obtain ⟨d, rfl⟩ : ∃ k, d = k + 1 := ⟨d - 1, by omega⟩
  have hd : 1 ≤ d := by omega
  have hT := hX1_firstMismatch
  unfold fX1_firstMismatch at e
  refine Cl.into (by decide) gX1_firstMismatch rfl ?_
  show Rn d 31 (some .int) 0 [some (.ref q0), none, none] [] h Q
  refine Rn.n hT 2 (pc' := 2) (L' := [some (.ref q0), some (.int (0 : Int32)), none]) (st' := []) rfl ?_
  refine Rn.weak (ll_s (ll_s (ll_n ll_e))) (rX1_firstMismatch_l2 hd (fun _ e => ?_) hq N (0 : Int32) e)
  try dsimp only at e
  refine Rn.n hT 1 (pc' := 54) (L' := [none, none, none]) (st' := [.int (-1 : Int32)]) rfl ?_
  obtain rfl := Option.some.inj e
  exact Rn.ret hT rfl rfl rfl hq
set_option maxRecDepth 10000 in
theorem hX1_fits : iv_Tb 32 tX1_fits := iv_tb_of (m := mX1_fits) rfl
set_option maxRecDepth 10000 in
theorem gX1_fits : PG.2 32 = some mX1_fits := iv_pi_of (t := tX1_fits) rfl (by decide)
def fX1_fits_b97 (N : Nat) (h : iv_H) (q0 : Nat) (x1 : Int32) (x2 : Int32)  (kb : Int32 → Option (Int32)) (kx : Unit → Option (Int32)) : Option (Int32) := (kb (x2 + (1 : Int32)))
set_option maxRecDepth 10000 in
set_option maxHeartbeats 4000000 in
theorem rX1_fits_b97 {d N : Nat} (hd : 0 ≤ d) {h : iv_H} {q0 : Nat} {x1 : Int32} {x2 : Int32}  {kb : Int32 → Option (Int32)} {kx : Unit → Option (Int32)} {r : Int32} {Q : Option Value → iv_H → Prop} (hb : ∀ (w2 : Int32), kb w2 = some r → Rn d 32 (some .boolean) 2 [some (.ref q0), some (.int x1), some (.int w2), none, none, none] [] h Q) (hk : ∀ (u : Unit), kx u = some r → Rn d 32 (some .boolean) 103 [none, none, none, none, none, none] [] h Q) (hq : Q (some (.int r)) h) (e : fX1_fits_b97 N h q0 x1 x2  kb kx = some r) : Rn d 32 (some .boolean) 97 [some (.ref q0), some (.int x1), some (.int x2), none, none, none] [] h Q := by
  have hT := hX1_fits
  unfold fX1_fits_b97 at e
  refine Rn.n hT 2 (pc' := 2) (L' := [some (.ref q0), some (.int x1), some (.int (x2 + (1 : Int32))), none, none, none]) (st' := []) rfl ?_
  exact Rn.weak (ll_s (ll_s (ll_s (ll_n (ll_n (ll_n ll_e)))))) (hb (x2 + (1 : Int32)) e)
def fX1_fits_b68 (N : Nat) (h : iv_H) (q0 : Nat) (x1 : Int32) (x2 : Int32) (x3 : Int32) (x4 : Int32) (x5 : Int32)  (kb : Int32 → Option (Int32)) (kx : Unit → Option (Int32)) : Option (Int32) := (if x5 = 0 then ((gR h 1 9 q0).bind fun v_729 => ((aI h v_729 x3).bind fun v_731 => ((gR h 1 9 q0).bind fun v_733 => ((aI h v_733 (((4 : Int32) * x4) + (x2 ^^^ (2 : Int32)))).bind fun v_735 => (if v_731 = v_735 then (fX1_fits_b97 N h q0 x1 x2 kb kx) else (some (0 : Int32))))))) else (fX1_fits_b97 N h q0 x1 x2 kb kx))
set_option maxRecDepth 10000 in
set_option maxHeartbeats 4000000 in
theorem rX1_fits_b68 {d N : Nat} (hd : 0 ≤ d) {h : iv_H} {q0 : Nat} {x1 : Int32} {x2 : Int32} {x3 : Int32} {x4 : Int32} {x5 : Int32}  {kb : Int32 → Option (Int32)} {kx : Unit → Option (Int32)} {r : Int32} {Q : Option Value → iv_H → Prop} (hb : ∀ (w2 : Int32), kb w2 = some r → Rn d 32 (some .boolean) 2 [some (.ref q0), some (.int x1), some (.int w2), none, none, none] [] h Q) (hk : ∀ (u : Unit), kx u = some r → Rn d 32 (some .boolean) 103 [none, none, none, none, none, none] [] h Q) (hq : Q (some (.int r)) h) (e : fX1_fits_b68 N h q0 x1 x2 x3 x4 x5  kb kx = some r) : Rn d 32 (some .boolean) 68 [some (.ref q0), some (.int x1), some (.int x2), some (.int x3), some (.int x4), some (.int x5)] [] h Q := by
  have hT := hX1_fits
  unfold fX1_fits_b68 at e
  refine Rn.n hT 1 (pc' := 70) (L' := [some (.ref q0), some (.int x1), some (.int x2), some (.int x3), some (.int x4), some (.int x5)]) (st' := [.int x5]) rfl ?_
  by_cases c_728 : x5 = 0
  · rw [if_pos c_728] at e
    refine Rn.bf hT rfl rfl rfl (decide_eq_false (fun z => z c_728)) ?_
    refine Rn.n hT 1 (pc' := 74) (L' := [some (.ref q0), some (.int x1), some (.int x2), some (.int x3), some (.int x4), some (.int x5)]) (st' := [.ref q0]) rfl ?_
    obtain ⟨v_729, e_730, e⟩ := Option.bind_eq_some_iff.mp e
    refine Rn.hp hT rfl rfl (gR_hp e_730) ?_
    refine Rn.n hT 1 (pc' := 78) (L' := [some (.ref q0), some (.int x1), some (.int x2), some (.int x3), some (.int x4), some (.int x5)]) (st' := [.int x3, .ref v_729]) rfl ?_
    obtain ⟨v_731, e_732, e⟩ := Option.bind_eq_some_iff.mp e
    refine Rn.hp hT rfl rfl (aI_hp e_732) ?_
    refine Rn.n hT 1 (pc' := 80) (L' := [some (.ref q0), some (.int x1), some (.int x2), some (.int x3), some (.int x4), some (.int x5)]) (st' := [.ref q0, .int v_731]) rfl ?_
    obtain ⟨v_733, e_734, e⟩ := Option.bind_eq_some_iff.mp e
    refine Rn.hp hT rfl rfl (gR_hp e_734) ?_
    refine Rn.n hT 7 (pc' := 91) (L' := [some (.ref q0), some (.int x1), some (.int x2), some (.int x3), some (.int x4), some (.int x5)]) (st' := [.int (((4 : Int32) * x4) + (x2 ^^^ (2 : Int32))), .ref v_733, .int v_731]) rfl ?_
    obtain ⟨v_735, e_736, e⟩ := Option.bind_eq_some_iff.mp e
    refine Rn.hp hT rfl rfl (aI_hp e_736) ?_
    by_cases c_737 : v_731 = v_735
    · rw [if_pos c_737] at e
      refine Rn.bt hT rfl rfl rfl (decide_eq_true c_737) ?_
      exact Rn.weak (ll_s (ll_s (ll_s (ll_n (ll_n (ll_n ll_e)))))) (rX1_fits_b97 hd hb hk hq e)
    · rw [if_neg c_737] at e
      refine Rn.bf hT rfl rfl rfl (decide_eq_false c_737) ?_
      refine Rn.n hT 1 (pc' := 96) (L' := [some (.ref q0), some (.int x1), some (.int x2), some (.int x3), some (.int x4), some (.int x5)]) (st' := [.int (0 : Int32)]) rfl ?_
      obtain rfl := Option.some.inj e
      exact Rn.ret hT rfl rfl rfl hq
  · rw [if_neg c_728] at e
    refine Rn.bt hT rfl rfl rfl (decide_eq_true c_728) ?_
    exact Rn.weak (ll_s (ll_s (ll_s (ll_n (ll_n (ll_n ll_e)))))) (rX1_fits_b97 hd hb hk hq e)
def fX1_fits_b48 (N : Nat) (h : iv_H) (q0 : Nat) (x1 : Int32) (x2 : Int32) (x3 : Int32) (x4 : Int32) (s0 : Int32) (kb : Int32 → Option (Int32)) (kx : Unit → Option (Int32)) : Option (Int32) := (if x4 = (-1 : Int32) then ((gR h 1 9 q0).bind fun v_723 => ((aI h v_723 x3).bind fun v_725 => (if v_725 = (1 : Int32) then (some (0 : Int32)) else (fX1_fits_b68 N h q0 x1 x2 x3 x4 s0 kb kx)))) else (fX1_fits_b68 N h q0 x1 x2 x3 x4 s0 kb kx))
set_option maxRecDepth 10000 in
set_option maxHeartbeats 4000000 in
theorem rX1_fits_b48 {d N : Nat} (hd : 0 ≤ d) {h : iv_H} {q0 : Nat} {x1 : Int32} {x2 : Int32} {x3 : Int32} {x4 : Int32} {s0 : Int32} {kb : Int32 → Option (Int32)} {kx : Unit → Option (Int32)} {r : Int32} {Q : Option Value → iv_H → Prop} (hb : ∀ (w2 : Int32), kb w2 = some r → Rn d 32 (some .boolean) 2 [some (.ref q0), some (.int x1), some (.int w2), none, none, none] [] h Q) (hk : ∀ (u : Unit), kx u = some r → Rn d 32 (some .boolean) 103 [none, none, none, none, none, none] [] h Q) (hq : Q (some (.int r)) h) (e : fX1_fits_b48 N h q0 x1 x2 x3 x4 s0 kb kx = some r) : Rn d 32 (some .boolean) 48 [some (.ref q0), some (.int x1), some (.int x2), some (.int x3), some (.int x4), none] [.int s0] h Q := by
  have hT := hX1_fits
  unfold fX1_fits_b48 at e
  refine Rn.n hT 3 (pc' := 53) (L' := [some (.ref q0), some (.int x1), some (.int x2), some (.int x3), some (.int x4), some (.int s0)]) (st' := [.int (-1 : Int32), .int x4]) rfl ?_
  by_cases c_722 : x4 = (-1 : Int32)
  · rw [if_pos c_722] at e
    refine Rn.bf hT rfl rfl rfl (decide_eq_false (fun z => z c_722)) ?_
    refine Rn.n hT 1 (pc' := 57) (L' := [some (.ref q0), some (.int x1), some (.int x2), some (.int x3), some (.int x4), some (.int s0)]) (st' := [.ref q0]) rfl ?_
    obtain ⟨v_723, e_724, e⟩ := Option.bind_eq_some_iff.mp e
    refine Rn.hp hT rfl rfl (gR_hp e_724) ?_
    refine Rn.n hT 1 (pc' := 61) (L' := [some (.ref q0), some (.int x1), some (.int x2), some (.int x3), some (.int x4), some (.int s0)]) (st' := [.int x3, .ref v_723]) rfl ?_
    obtain ⟨v_725, e_726, e⟩ := Option.bind_eq_some_iff.mp e
    refine Rn.hp hT rfl rfl (aI_hp e_726) ?_
    refine Rn.n hT 1 (pc' := 63) (L' := [some (.ref q0), some (.int x1), some (.int x2), some (.int x3), some (.int x4), some (.int s0)]) (st' := [.int (1 : Int32), .int v_725]) rfl ?_
    by_cases c_727 : v_725 = (1 : Int32)
    · rw [if_pos c_727] at e
      refine Rn.bf hT rfl rfl rfl (decide_eq_false (fun z => z c_727)) ?_
      refine Rn.n hT 1 (pc' := 67) (L' := [some (.ref q0), some (.int x1), some (.int x2), some (.int x3), some (.int x4), some (.int s0)]) (st' := [.int (0 : Int32)]) rfl ?_
      obtain rfl := Option.some.inj e
      exact Rn.ret hT rfl rfl rfl hq
    · rw [if_neg c_727] at e
      refine Rn.bt hT rfl rfl rfl (decide_eq_true c_727) ?_
      exact Rn.weak (ll_s (ll_s (ll_s (ll_s (ll_s (ll_s ll_e)))))) (rX1_fits_b68 hd hb hk hq e)
  · rw [if_neg c_722] at e
    refine Rn.bt hT rfl rfl rfl (decide_eq_true c_722) ?_
    exact Rn.weak (ll_s (ll_s (ll_s (ll_s (ll_s (ll_s ll_e)))))) (rX1_fits_b68 hd hb hk hq e)
def fX1_fits_b43 (N : Nat) (h : iv_H) (q0 : Nat) (x1 : Int32) (x2 : Int32) (x3 : Int32) (x4 : Int32)  (kb : Int32 → Option (Int32)) (kx : Unit → Option (Int32)) : Option (Int32) := (fX1_fits_b48 N h q0 x1 x2 x3 x4 (1 : Int32) kb kx)
set_option maxRecDepth 10000 in
set_option maxHeartbeats 4000000 in
theorem rX1_fits_b43 {d N : Nat} (hd : 0 ≤ d) {h : iv_H} {q0 : Nat} {x1 : Int32} {x2 : Int32} {x3 : Int32} {x4 : Int32}  {kb : Int32 → Option (Int32)} {kx : Unit → Option (Int32)} {r : Int32} {Q : Option Value → iv_H → Prop} (hb : ∀ (w2 : Int32), kb w2 = some r → Rn d 32 (some .boolean) 2 [some (.ref q0), some (.int x1), some (.int w2), none, none, none] [] h Q) (hk : ∀ (u : Unit), kx u = some r → Rn d 32 (some .boolean) 103 [none, none, none, none, none, none] [] h Q) (hq : Q (some (.int r)) h) (e : fX1_fits_b43 N h q0 x1 x2 x3 x4  kb kx = some r) : Rn d 32 (some .boolean) 43 [some (.ref q0), some (.int x1), some (.int x2), some (.int x3), some (.int x4), none] [] h Q := by
  have hT := hX1_fits
  unfold fX1_fits_b43 at e
  refine Rn.n hT 2 (pc' := 48) (L' := [some (.ref q0), some (.int x1), some (.int x2), some (.int x3), some (.int x4), none]) (st' := [.int (1 : Int32)]) rfl ?_
  exact Rn.weak (ll_s (ll_s (ll_s (ll_s (ll_s (ll_n ll_e)))))) (rX1_fits_b48 hd hb hk hq e)
def fX1_fits_l2 (N : Nat) (h : iv_H) (q0 : Nat) (x1 : Int32) (kx : Unit → Option (Int32)) : Nat → Int32 → Option (Int32)
  | 0, _ => none
  | n + 1, x2 => (if (4 : Int32) ≤ x2 then (kx ()) else ((gR h 1 5 q0).bind fun v_708 => ((aI h v_708 x1).bind fun v_710 => ((gR h 1 10 q0).bind fun v_712 => ((aI h v_712 (((4 : Int32) * v_710) + x2)).bind fun v_714 => (if v_714 = (-1 : Int32) then (fX1_fits_b43 N h q0 x1 x2 (((4 : Int32) * v_710) + x2) v_714 (fX1_fits_l2 N h q0 x1 kx n) kx) else ((gR h 1 7 q0).bind fun v_717 => ((aI h v_717 v_714).bind fun v_719 => (if v_719 = (-1 : Int32) then (fX1_fits_b43 N h q0 x1 x2 (((4 : Int32) * v_710) + x2) v_714 (fX1_fits_l2 N h q0 x1 kx n) kx) else (fX1_fits_b48 N h q0 x1 x2 (((4 : Int32) * v_710) + x2) v_714 (0 : Int32) (fX1_fits_l2 N h q0 x1 kx n) kx))))))))))
set_option maxRecDepth 10000 in
set_option maxHeartbeats 4000000 in
theorem rX1_fits_l2 {d N : Nat} (hd : 0 ≤ d) {h : iv_H} {q0 : Nat} {x1 : Int32} {kx : Unit → Option (Int32)} {r : Int32} {Q : Option Value → iv_H → Prop} (hk : ∀ (u : Unit), kx u = some r → Rn d 32 (some .boolean) 103 [none, none, none, none, none, none] [] h Q) (hq : Q (some (.int r)) h) : ∀ (n : Nat) (x2 : Int32), fX1_fits_l2 N h q0 x1 kx n x2 = some r → Rn d 32 (some .boolean) 2 [some (.ref q0), some (.int x1), some (.int x2), none, none, none] [] h Q := by
  have hT := hX1_fits
  intro n
  induction n with
  | zero =>
    intro x2 e
    rw [fX1_fits_l2] at e
    cases e
  | succ n ih =>
    intro x2 e
    rw [fX1_fits_l2] at e
    refine Rn.n hT 2 (pc' := 4) (L' := [some (.ref q0), some (.int x1), some (.int x2), none, none, none]) (st' := [.int (4 : Int32), .int x2]) rfl ?_
    by_cases c_707 : (4 : Int32) ≤ x2
    · rw [if_pos c_707] at e
      refine Rn.bt hT rfl rfl rfl (decide_eq_true c_707) ?_
      exact Rn.weak (ll_n (ll_n (ll_n (ll_n (ll_n (ll_n ll_e)))))) (hk () e)
    · rw [if_neg c_707] at e
      refine Rn.bf hT rfl rfl rfl (decide_eq_false c_707) ?_
      refine Rn.n hT 2 (pc' := 9) (L' := [some (.ref q0), some (.int x1), some (.int x2), none, none, none]) (st' := [.ref q0, .int (4 : Int32)]) rfl ?_
      obtain ⟨v_708, e_709, e⟩ := Option.bind_eq_some_iff.mp e
      refine Rn.hp hT rfl rfl (gR_hp e_709) ?_
      refine Rn.n hT 1 (pc' := 13) (L' := [some (.ref q0), some (.int x1), some (.int x2), none, none, none]) (st' := [.int x1, .ref v_708, .int (4 : Int32)]) rfl ?_
      obtain ⟨v_710, e_711, e⟩ := Option.bind_eq_some_iff.mp e
      refine Rn.hp hT rfl rfl (aI_hp e_711) ?_
      refine Rn.n hT 5 (pc' := 19) (L' := [some (.ref q0), some (.int x1), some (.int x2), some (.int (((4 : Int32) * v_710) + x2)), none, none]) (st' := [.ref q0]) rfl ?_
      obtain ⟨v_712, e_713, e⟩ := Option.bind_eq_some_iff.mp e
      refine Rn.hp hT rfl rfl (gR_hp e_713) ?_
      refine Rn.n hT 1 (pc' := 23) (L' := [some (.ref q0), some (.int x1), some (.int x2), some (.int (((4 : Int32) * v_710) + x2)), none, none]) (st' := [.int (((4 : Int32) * v_710) + x2), .ref v_712]) rfl ?_
      obtain ⟨v_714, e_715, e⟩ := Option.bind_eq_some_iff.mp e
      refine Rn.hp hT rfl rfl (aI_hp e_715) ?_
      refine Rn.n hT 3 (pc' := 29) (L' := [some (.ref q0), some (.int x1), some (.int x2), some (.int (((4 : Int32) * v_710) + x2)), some (.int v_714), none]) (st' := [.int (-1 : Int32), .int v_714]) rfl ?_
      by_cases c_716 : v_714 = (-1 : Int32)
      · rw [if_pos c_716] at e
        refine Rn.bt hT rfl rfl rfl (decide_eq_true c_716) ?_
        exact Rn.weak (ll_s (ll_s (ll_s (ll_s (ll_s (ll_n ll_e)))))) (rX1_fits_b43 hd ih hk hq e)
      · rw [if_neg c_716] at e
        refine Rn.bf hT rfl rfl rfl (decide_eq_false c_716) ?_
        refine Rn.n hT 1 (pc' := 33) (L' := [some (.ref q0), some (.int x1), some (.int x2), some (.int (((4 : Int32) * v_710) + x2)), some (.int v_714), none]) (st' := [.ref q0]) rfl ?_
        obtain ⟨v_717, e_718, e⟩ := Option.bind_eq_some_iff.mp e
        refine Rn.hp hT rfl rfl (gR_hp e_718) ?_
        refine Rn.n hT 1 (pc' := 38) (L' := [some (.ref q0), some (.int x1), some (.int x2), some (.int (((4 : Int32) * v_710) + x2)), some (.int v_714), none]) (st' := [.int v_714, .ref v_717]) rfl ?_
        obtain ⟨v_719, e_720, e⟩ := Option.bind_eq_some_iff.mp e
        refine Rn.hp hT rfl rfl (aI_hp e_720) ?_
        refine Rn.n hT 1 (pc' := 40) (L' := [some (.ref q0), some (.int x1), some (.int x2), some (.int (((4 : Int32) * v_710) + x2)), some (.int v_714), none]) (st' := [.int (-1 : Int32), .int v_719]) rfl ?_
        by_cases c_721 : v_719 = (-1 : Int32)
        · rw [if_pos c_721] at e
          refine Rn.bf hT rfl rfl rfl (decide_eq_false (fun z => z c_721)) ?_
          exact Rn.weak (ll_s (ll_s (ll_s (ll_s (ll_s (ll_n ll_e)))))) (rX1_fits_b43 hd ih hk hq e)
        · rw [if_neg c_721] at e
          refine Rn.bt hT rfl rfl rfl (decide_eq_true c_721) ?_
          refine Rn.n hT 1 (pc' := 48) (L' := [some (.ref q0), some (.int x1), some (.int x2), some (.int (((4 : Int32) * v_710) + x2)), some (.int v_714), none]) (st' := [.int (0 : Int32)]) rfl ?_
          exact Rn.weak (ll_s (ll_s (ll_s (ll_s (ll_s (ll_n ll_e)))))) (rX1_fits_b48 hd ih hk hq e)
def fX1_fits (N : Nat) (h : iv_H) (q0 : Nat) (x1 : Int32) : Option (Int32) := (fX1_fits_l2 N h q0 x1 (fun (_ : Unit) => (some (1 : Int32))) N (0 : Int32))
set_option maxRecDepth 10000 in
set_option maxHeartbeats 4000000 in
theorem rX1_fits {d N : Nat} (hd : 1 ≤ d) {h : iv_H} {q0 : Nat} {x1 : Int32} {r : Int32} {Q : Option Value → iv_H → Prop} (e : fX1_fits N h q0 x1 = some r) (hq : Q (some (.int r)) h) : Cl d 32 [.ref q0, .int x1] h Q := by
  obtain ⟨d, rfl⟩ : ∃ k, d = k + 1 := ⟨d - 1, by omega⟩
  have hd : 0 ≤ d := by omega
  have hT := hX1_fits
  unfold fX1_fits at e
  refine Cl.into (by decide) gX1_fits rfl ?_
  show Rn d 32 (some .boolean) 0 [some (.ref q0), some (.int x1), none, none, none, none] [] h Q
  refine Rn.n hT 2 (pc' := 2) (L' := [some (.ref q0), some (.int x1), some (.int (0 : Int32)), none, none, none]) (st' := []) rfl ?_
  refine Rn.weak (ll_s (ll_s (ll_s (ll_n (ll_n (ll_n ll_e)))))) (rX1_fits_l2 hd (fun _ e => ?_) hq N (0 : Int32) e)
  try dsimp only at e
  refine Rn.n hT 1 (pc' := 104) (L' := [none, none, none, none, none, none]) (st' := [.int (1 : Int32)]) rfl ?_
  obtain rfl := Option.some.inj e
  exact Rn.ret hT rfl rfl rfl hq
set_option maxRecDepth 10000 in
theorem hX1_doorsOf : iv_Tb 33 tX1_doorsOf := iv_tb_of (m := mX1_doorsOf) rfl
set_option maxRecDepth 10000 in
theorem gX1_doorsOf : PG.2 33 = some mX1_doorsOf := iv_pi_of (t := tX1_doorsOf) rfl (by decide)
def fX1_doorsOf_b39 (N : Nat) (h : iv_H) (q0 : Nat) (x1 : Int32) (x3 : Int32) (s0 : Int32) (s1 : Int32) (kb : Int32 → Int32 → Option (Int32)) (kx : Int32 → Option (Int32)) : Option (Int32) := (kb (s1 + s0) (x3 + (1 : Int32)))
set_option maxRecDepth 10000 in
set_option maxHeartbeats 4000000 in
theorem rX1_doorsOf_b39 {d N : Nat} (hd : 0 ≤ d) {h : iv_H} {q0 : Nat} {x1 : Int32} {x3 : Int32} {s0 : Int32} {s1 : Int32} {kb : Int32 → Int32 → Option (Int32)} {kx : Int32 → Option (Int32)} {r : Int32} {Q : Option Value → iv_H → Prop} (hb : ∀ (w2 : Int32) (w3 : Int32), kb w2 w3 = some r → Rn d 33 (some .int) 4 [some (.ref q0), some (.int x1), some (.int w2), some (.int w3), none] [] h Q) (hk : ∀ (w2 : Int32), kx w2 = some r → Rn d 33 (some .int) 47 [none, none, some (.int w2), none, none] [] h Q) (hq : Q (some (.int r)) h) (e : fX1_doorsOf_b39 N h q0 x1 x3 s0 s1 kb kx = some r) : Rn d 33 (some .int) 39 [some (.ref q0), some (.int x1), none, some (.int x3), none] [.int s0, .int s1] h Q := by
  have hT := hX1_doorsOf
  unfold fX1_doorsOf_b39 at e
  refine Rn.n hT 4 (pc' := 4) (L' := [some (.ref q0), some (.int x1), some (.int (s1 + s0)), some (.int (x3 + (1 : Int32))), none]) (st' := []) rfl ?_
  exact Rn.weak (ll_s (ll_s (ll_s (ll_s (ll_n ll_e))))) (hb (s1 + s0) (x3 + (1 : Int32)) e)
def fX1_doorsOf_b34 (N : Nat) (h : iv_H) (q0 : Nat) (x1 : Int32) (x3 : Int32) (s0 : Int32) (kb : Int32 → Int32 → Option (Int32)) (kx : Int32 → Option (Int32)) : Option (Int32) := (fX1_doorsOf_b39 N h q0 x1 x3 (1 : Int32) s0 kb kx)
set_option maxRecDepth 10000 in
set_option maxHeartbeats 4000000 in
theorem rX1_doorsOf_b34 {d N : Nat} (hd : 0 ≤ d) {h : iv_H} {q0 : Nat} {x1 : Int32} {x3 : Int32} {s0 : Int32} {kb : Int32 → Int32 → Option (Int32)} {kx : Int32 → Option (Int32)} {r : Int32} {Q : Option Value → iv_H → Prop} (hb : ∀ (w2 : Int32) (w3 : Int32), kb w2 w3 = some r → Rn d 33 (some .int) 4 [some (.ref q0), some (.int x1), some (.int w2), some (.int w3), none] [] h Q) (hk : ∀ (w2 : Int32), kx w2 = some r → Rn d 33 (some .int) 47 [none, none, some (.int w2), none, none] [] h Q) (hq : Q (some (.int r)) h) (e : fX1_doorsOf_b34 N h q0 x1 x3 s0 kb kx = some r) : Rn d 33 (some .int) 34 [some (.ref q0), some (.int x1), none, some (.int x3), none] [.int s0] h Q := by
  have hT := hX1_doorsOf
  unfold fX1_doorsOf_b34 at e
  refine Rn.n hT 2 (pc' := 39) (L' := [some (.ref q0), some (.int x1), none, some (.int x3), none]) (st' := [.int (1 : Int32), .int s0]) rfl ?_
  exact Rn.weak (ll_s (ll_s (ll_n (ll_s (ll_n ll_e))))) (rX1_doorsOf_b39 hd hb hk hq e)
def fX1_doorsOf_l4 (N : Nat) (h : iv_H) (q0 : Nat) (x1 : Int32) (kx : Int32 → Option (Int32)) : Nat → Int32 → Int32 → Option (Int32)
  | 0, _, _ => none
  | n + 1, x2, x3 => (if (4 : Int32) ≤ x3 then (kx x2) else ((gR h 1 8 q0).bind fun v_740 => ((aI h v_740 (((4 : Int32) * x1) + x3)).bind fun v_742 => (if v_742 = (1 : Int32) then (fX1_doorsOf_b34 N h q0 x1 x3 x2 (fX1_doorsOf_l4 N h q0 x1 kx n) kx) else (if v_742 < (3 : Int32) then (fX1_doorsOf_b39 N h q0 x1 x3 (0 : Int32) x2 (fX1_doorsOf_l4 N h q0 x1 kx n) kx) else (fX1_doorsOf_b34 N h q0 x1 x3 x2 (fX1_doorsOf_l4 N h q0 x1 kx n) kx))))))
set_option maxRecDepth 10000 in
set_option maxHeartbeats 4000000 in
theorem rX1_doorsOf_l4 {d N : Nat} (hd : 0 ≤ d) {h : iv_H} {q0 : Nat} {x1 : Int32} {kx : Int32 → Option (Int32)} {r : Int32} {Q : Option Value → iv_H → Prop} (hk : ∀ (x2 : Int32), kx x2 = some r → Rn d 33 (some .int) 47 [none, none, some (.int x2), none, none] [] h Q) (hq : Q (some (.int r)) h) : ∀ (n : Nat) (x2 : Int32) (x3 : Int32), fX1_doorsOf_l4 N h q0 x1 kx n x2 x3 = some r → Rn d 33 (some .int) 4 [some (.ref q0), some (.int x1), some (.int x2), some (.int x3), none] [] h Q := by
  have hT := hX1_doorsOf
  intro n
  induction n with
  | zero =>
    intro x2 x3 e
    rw [fX1_doorsOf_l4] at e
    cases e
  | succ n ih =>
    intro x2 x3 e
    rw [fX1_doorsOf_l4] at e
    refine Rn.n hT 2 (pc' := 6) (L' := [some (.ref q0), some (.int x1), some (.int x2), some (.int x3), none]) (st' := [.int (4 : Int32), .int x3]) rfl ?_
    by_cases c_739 : (4 : Int32) ≤ x3
    · rw [if_pos c_739] at e
      refine Rn.bt hT rfl rfl rfl (decide_eq_true c_739) ?_
      exact Rn.weak (ll_n (ll_n (ll_s (ll_n (ll_n ll_e))))) (hk x2 e)
    · rw [if_neg c_739] at e
      refine Rn.bf hT rfl rfl rfl (decide_eq_false c_739) ?_
      refine Rn.n hT 1 (pc' := 10) (L' := [some (.ref q0), some (.int x1), some (.int x2), some (.int x3), none]) (st' := [.ref q0]) rfl ?_
      obtain ⟨v_740, e_741, e⟩ := Option.bind_eq_some_iff.mp e
      refine Rn.hp hT rfl rfl (gR_hp e_741) ?_
      refine Rn.n hT 5 (pc' := 18) (L' := [some (.ref q0), some (.int x1), some (.int x2), some (.int x3), none]) (st' := [.int (((4 : Int32) * x1) + x3), .ref v_740]) rfl ?_
      obtain ⟨v_742, e_743, e⟩ := Option.bind_eq_some_iff.mp e
      refine Rn.hp hT rfl rfl (aI_hp e_743) ?_
      refine Rn.n hT 4 (pc' := 25) (L' := [some (.ref q0), some (.int x1), some (.int x2), some (.int x3), some (.int v_742)]) (st' := [.int (1 : Int32), .int v_742, .int x2]) rfl ?_
      by_cases c_744 : v_742 = (1 : Int32)
      · rw [if_pos c_744] at e
        refine Rn.bt hT rfl rfl rfl (decide_eq_true c_744) ?_
        exact Rn.weak (ll_s (ll_s (ll_n (ll_s (ll_n ll_e))))) (rX1_doorsOf_b34 hd ih hk hq e)
      · rw [if_neg c_744] at e
        refine Rn.bf hT rfl rfl rfl (decide_eq_false c_744) ?_
        refine Rn.n hT 2 (pc' := 31) (L' := [some (.ref q0), some (.int x1), some (.int x2), some (.int x3), some (.int v_742)]) (st' := [.int (3 : Int32), .int v_742, .int x2]) rfl ?_
        by_cases c_745 : v_742 < (3 : Int32)
        · rw [if_pos c_745] at e
          refine Rn.bt hT rfl rfl rfl (decide_eq_true c_745) ?_
          refine Rn.n hT 1 (pc' := 39) (L' := [some (.ref q0), some (.int x1), some (.int x2), some (.int x3), some (.int v_742)]) (st' := [.int (0 : Int32), .int x2]) rfl ?_
          exact Rn.weak (ll_s (ll_s (ll_n (ll_s (ll_n ll_e))))) (rX1_doorsOf_b39 hd ih hk hq e)
        · rw [if_neg c_745] at e
          refine Rn.bf hT rfl rfl rfl (decide_eq_false c_745) ?_
          exact Rn.weak (ll_s (ll_s (ll_n (ll_s (ll_n ll_e))))) (rX1_doorsOf_b34 hd ih hk hq e)
def fX1_doorsOf (N : Nat) (h : iv_H) (q0 : Nat) (x1 : Int32) : Option (Int32) := (fX1_doorsOf_l4 N h q0 x1 (fun (z_738 : Int32) => (some z_738)) N (0 : Int32) (0 : Int32))
set_option maxRecDepth 10000 in
set_option maxHeartbeats 4000000 in
theorem rX1_doorsOf {d N : Nat} (hd : 1 ≤ d) {h : iv_H} {q0 : Nat} {x1 : Int32} {r : Int32} {Q : Option Value → iv_H → Prop} (e : fX1_doorsOf N h q0 x1 = some r) (hq : Q (some (.int r)) h) : Cl d 33 [.ref q0, .int x1] h Q := by
  obtain ⟨d, rfl⟩ : ∃ k, d = k + 1 := ⟨d - 1, by omega⟩
  have hd : 0 ≤ d := by omega
  have hT := hX1_doorsOf
  unfold fX1_doorsOf at e
  refine Cl.into (by decide) gX1_doorsOf rfl ?_
  show Rn d 33 (some .int) 0 [some (.ref q0), some (.int x1), none, none, none] [] h Q
  refine Rn.n hT 4 (pc' := 4) (L' := [some (.ref q0), some (.int x1), some (.int (0 : Int32)), some (.int (0 : Int32)), none]) (st' := []) rfl ?_
  refine Rn.weak (ll_s (ll_s (ll_s (ll_s (ll_n ll_e))))) (rX1_doorsOf_l4 hd (fun z_738 e => ?_) hq N (0 : Int32) (0 : Int32) e)
  try dsimp only at e
  refine Rn.n hT 1 (pc' := 48) (L' := [none, none, some (.int z_738), none, none]) (st' := [.int z_738]) rfl ?_
  obtain rfl := Option.some.inj e
  exact Rn.ret hT rfl rfl rfl hq
set_option maxRecDepth 10000 in
theorem hX1_locksOf : iv_Tb 34 tX1_locksOf := iv_tb_of (m := mX1_locksOf) rfl
set_option maxRecDepth 10000 in
theorem gX1_locksOf : PG.2 34 = some mX1_locksOf := iv_pi_of (t := tX1_locksOf) rfl (by decide)
def fX1_locksOf_b29 (N : Nat) (h : iv_H) (q0 : Nat) (x1 : Int32) (x3 : Int32) (s0 : Int32) (s1 : Int32) (kb : Int32 → Int32 → Option (Int32)) (kx : Int32 → Option (Int32)) : Option (Int32) := (kb (s1 + s0) (x3 + (1 : Int32)))
set_option maxRecDepth 10000 in
set_option maxHeartbeats 4000000 in
theorem rX1_locksOf_b29 {d N : Nat} (hd : 0 ≤ d) {h : iv_H} {q0 : Nat} {x1 : Int32} {x3 : Int32} {s0 : Int32} {s1 : Int32} {kb : Int32 → Int32 → Option (Int32)} {kx : Int32 → Option (Int32)} {r : Int32} {Q : Option Value → iv_H → Prop} (hb : ∀ (w2 : Int32) (w3 : Int32), kb w2 w3 = some r → Rn d 34 (some .int) 4 [some (.ref q0), some (.int x1), some (.int w2), some (.int w3)] [] h Q) (hk : ∀ (w2 : Int32), kx w2 = some r → Rn d 34 (some .int) 37 [none, none, some (.int w2), none] [] h Q) (hq : Q (some (.int r)) h) (e : fX1_locksOf_b29 N h q0 x1 x3 s0 s1 kb kx = some r) : Rn d 34 (some .int) 29 [some (.ref q0), some (.int x1), none, some (.int x3)] [.int s0, .int s1] h Q := by
  have hT := hX1_locksOf
  unfold fX1_locksOf_b29 at e
  refine Rn.n hT 4 (pc' := 4) (L' := [some (.ref q0), some (.int x1), some (.int (s1 + s0)), some (.int (x3 + (1 : Int32)))]) (st' := []) rfl ?_
  exact Rn.weak (ll_s (ll_s (ll_s (ll_s ll_e)))) (hb (s1 + s0) (x3 + (1 : Int32)) e)
def fX1_locksOf_l4 (N : Nat) (h : iv_H) (q0 : Nat) (x1 : Int32) (kx : Int32 → Option (Int32)) : Nat → Int32 → Int32 → Option (Int32)
  | 0, _, _ => none
  | n + 1, x2, x3 => (if (4 : Int32) ≤ x3 then (kx x2) else ((gR h 1 8 q0).bind fun v_748 => ((aI h v_748 (((4 : Int32) * x1) + x3)).bind fun v_750 => (if v_750 < (3 : Int32) then (fX1_locksOf_b29 N h q0 x1 x3 (0 : Int32) x2 (fX1_locksOf_l4 N h q0 x1 kx n) kx) else (fX1_locksOf_b29 N h q0 x1 x3 (1 : Int32) x2 (fX1_locksOf_l4 N h q0 x1 kx n) kx)))))
set_option maxRecDepth 10000 in
set_option maxHeartbeats 4000000 in
theorem rX1_locksOf_l4 {d N : Nat} (hd : 0 ≤ d) {h : iv_H} {q0 : Nat} {x1 : Int32} {kx : Int32 → Option (Int32)} {r : Int32} {Q : Option Value → iv_H → Prop} (hk : ∀ (x2 : Int32), kx x2 = some r → Rn d 34 (some .int) 37 [none, none, some (.int x2), none] [] h Q) (hq : Q (some (.int r)) h) : ∀ (n : Nat) (x2 : Int32) (x3 : Int32), fX1_locksOf_l4 N h q0 x1 kx n x2 x3 = some r → Rn d 34 (some .int) 4 [some (.ref q0), some (.int x1), some (.int x2), some (.int x3)] [] h Q := by
  have hT := hX1_locksOf
  intro n
  induction n with
  | zero =>
    intro x2 x3 e
    rw [fX1_locksOf_l4] at e
    cases e
  | succ n ih =>
    intro x2 x3 e
    rw [fX1_locksOf_l4] at e
    refine Rn.n hT 2 (pc' := 6) (L' := [some (.ref q0), some (.int x1), some (.int x2), some (.int x3)]) (st' := [.int (4 : Int32), .int x3]) rfl ?_
    by_cases c_747 : (4 : Int32) ≤ x3
    · rw [if_pos c_747] at e
      refine Rn.bt hT rfl rfl rfl (decide_eq_true c_747) ?_
      exact Rn.weak (ll_n (ll_n (ll_s (ll_n ll_e)))) (hk x2 e)
    · rw [if_neg c_747] at e
      refine Rn.bf hT rfl rfl rfl (decide_eq_false c_747) ?_
      refine Rn.n hT 2 (pc' := 11) (L' := [some (.ref q0), some (.int x1), some (.int x2), some (.int x3)]) (st' := [.ref q0, .int x2]) rfl ?_
      obtain ⟨v_748, e_749, e⟩ := Option.bind_eq_some_iff.mp e
      refine Rn.hp hT rfl rfl (gR_hp e_749) ?_
      refine Rn.n hT 5 (pc' := 19) (L' := [some (.ref q0), some (.int x1), some (.int x2), some (.int x3)]) (st' := [.int (((4 : Int32) * x1) + x3), .ref v_748, .int x2]) rfl ?_
      obtain ⟨v_750, e_751, e⟩ := Option.bind_eq_some_iff.mp e
      refine Rn.hp hT rfl rfl (aI_hp e_751) ?_
      refine Rn.n hT 1 (pc' := 21) (L' := [some (.ref q0), some (.int x1), some (.int x2), some (.int x3)]) (st' := [.int (3 : Int32), .int v_750, .int x2]) rfl ?_
      by_cases c_752 : v_750 < (3 : Int32)
      · rw [if_pos c_752] at e
        refine Rn.bt hT rfl rfl rfl (decide_eq_true c_752) ?_
        refine Rn.n hT 1 (pc' := 29) (L' := [some (.ref q0), some (.int x1), some (.int x2), some (.int x3)]) (st' := [.int (0 : Int32), .int x2]) rfl ?_
        exact Rn.weak (ll_s (ll_s (ll_n (ll_s ll_e)))) (rX1_locksOf_b29 hd ih hk hq e)
      · rw [if_neg c_752] at e
        refine Rn.bf hT rfl rfl rfl (decide_eq_false c_752) ?_
        refine Rn.n hT 2 (pc' := 29) (L' := [some (.ref q0), some (.int x1), some (.int x2), some (.int x3)]) (st' := [.int (1 : Int32), .int x2]) rfl ?_
        exact Rn.weak (ll_s (ll_s (ll_n (ll_s ll_e)))) (rX1_locksOf_b29 hd ih hk hq e)
def fX1_locksOf (N : Nat) (h : iv_H) (q0 : Nat) (x1 : Int32) : Option (Int32) := (fX1_locksOf_l4 N h q0 x1 (fun (z_746 : Int32) => (some z_746)) N (0 : Int32) (0 : Int32))
set_option maxRecDepth 10000 in
set_option maxHeartbeats 4000000 in
theorem rX1_locksOf {d N : Nat} (hd : 1 ≤ d) {h : iv_H} {q0 : Nat} {x1 : Int32} {r : Int32} {Q : Option Value → iv_H → Prop} (e : fX1_locksOf N h q0 x1 = some r) (hq : Q (some (.int r)) h) : Cl d 34 [.ref q0, .int x1] h Q := by
  obtain ⟨d, rfl⟩ : ∃ k, d = k + 1 := ⟨d - 1, by omega⟩
  have hd : 0 ≤ d := by omega
  have hT := hX1_locksOf
  unfold fX1_locksOf at e
  refine Cl.into (by decide) gX1_locksOf rfl ?_
  show Rn d 34 (some .int) 0 [some (.ref q0), some (.int x1), none, none] [] h Q
  refine Rn.n hT 4 (pc' := 4) (L' := [some (.ref q0), some (.int x1), some (.int (0 : Int32)), some (.int (0 : Int32))]) (st' := []) rfl ?_
  refine Rn.weak (ll_s (ll_s (ll_s (ll_s ll_e)))) (rX1_locksOf_l4 hd (fun z_746 e => ?_) hq N (0 : Int32) (0 : Int32) e)
  try dsimp only at e
  refine Rn.n hT 1 (pc' := 38) (L' := [none, none, some (.int z_746), none]) (st' := [.int z_746]) rfl ?_
  obtain rfl := Option.some.inj e
  exact Rn.ret hT rfl rfl rfl hq
set_option maxRecDepth 10000 in
theorem hX1_doorToDoor : iv_Tb 37 tX1_doorToDoor := iv_tb_of (m := mX1_doorToDoor) rfl
set_option maxRecDepth 10000 in
theorem gX1_doorToDoor : PG.2 37 = some mX1_doorToDoor := iv_pi_of (t := tX1_doorToDoor) rfl (by decide)
def fX1_doorToDoor_l2 (N : Nat) (h : iv_H) (q0 : Nat) (x1 : Int32) (x2 : Int32) (kx : Unit → Option (Int32)) : Nat → Int32 → Option (Int32)
  | 0, _ => none
  | n + 1, x3 => (if (4 : Int32) ≤ x3 then (kx ()) else ((cko h q0 1).bind fun _ => (fX1_throughDoor N h q0 x1 x3).bind fun v_756 => (if v_756 = x2 then (some (1 : Int32)) else (fX1_doorToDoor_l2 N h q0 x1 x2 kx n (x3 + (1 : Int32))))))
set_option maxRecDepth 10000 in
set_option maxHeartbeats 4000000 in
theorem rX1_doorToDoor_l2 {d N : Nat} (hd : 1 ≤ d) {h : iv_H} {q0 : Nat} {x1 : Int32} {x2 : Int32} {kx : Unit → Option (Int32)} {r : Int32} {Q : Option Value → iv_H → Prop} (hk : ∀ (u : Unit), kx u = some r → Rn d 37 (some .boolean) 25 [none, none, none, none] [] h Q) (hq : Q (some (.int r)) h) : ∀ (n : Nat) (x3 : Int32), fX1_doorToDoor_l2 N h q0 x1 x2 kx n x3 = some r → Rn d 37 (some .boolean) 2 [some (.ref q0), some (.int x1), some (.int x2), some (.int x3)] [] h Q := by
  have hT := hX1_doorToDoor
  intro n
  induction n with
  | zero =>
    intro x3 e
    rw [fX1_doorToDoor_l2] at e
    cases e
  | succ n ih =>
    intro x3 e
    rw [fX1_doorToDoor_l2] at e
    refine Rn.n hT 2 (pc' := 4) (L' := [some (.ref q0), some (.int x1), some (.int x2), some (.int x3)]) (st' := [.int (4 : Int32), .int x3]) rfl ?_
    by_cases c_753 : (4 : Int32) ≤ x3
    · rw [if_pos c_753] at e
      refine Rn.bt hT rfl rfl rfl (decide_eq_true c_753) ?_
      exact Rn.weak (ll_n (ll_n (ll_n (ll_n ll_e)))) (hk () e)
    · rw [if_neg c_753] at e
      refine Rn.bf hT rfl rfl rfl (decide_eq_false c_753) ?_
      refine Rn.n hT 3 (pc' := 10) (L' := [some (.ref q0), some (.int x1), some (.int x2), some (.int x3)]) (st' := [.int x3, .int x1, .ref q0]) rfl ?_
      obtain ⟨_, e_755, e⟩ := Option.bind_eq_some_iff.mp e
      obtain ⟨v_756, e_754, e⟩ := Option.bind_eq_some_iff.mp e
      refine Rn.call hT rfl rfl rfl (Nat.le_of_ble_eq_true rfl) (rcv_v gX1_throughDoor (by omega) e_755) (rX1_throughDoor (by omega) e_754 ?_)
      show Rn d _ _ 13 [some (.ref q0), some (.int x1), some (.int x2), some (.int x3)] [.int v_756] h Q
      refine Rn.n hT 1 (pc' := 14) (L' := [some (.ref q0), some (.int x1), some (.int x2), some (.int x3)]) (st' := [.int x2, .int v_756]) rfl ?_
      by_cases c_757 : v_756 = x2
      · rw [if_pos c_757] at e
        refine Rn.bf hT rfl rfl rfl (decide_eq_false (fun z => z c_757)) ?_
        refine Rn.n hT 1 (pc' := 18) (L' := [some (.ref q0), some (.int x1), some (.int x2), some (.int x3)]) (st' := [.int (1 : Int32)]) rfl ?_
        obtain rfl := Option.some.inj e
        exact Rn.ret hT rfl rfl rfl hq
      · rw [if_neg c_757] at e
        refine Rn.bt hT rfl rfl rfl (decide_eq_true c_757) ?_
        refine Rn.n hT 2 (pc' := 2) (L' := [some (.ref q0), some (.int x1), some (.int x2), some (.int (x3 + (1 : Int32)))]) (st' := []) rfl ?_
        exact Rn.weak (ll_s (ll_s (ll_s (ll_s ll_e)))) (ih (x3 + (1 : Int32)) e)
def fX1_doorToDoor (N : Nat) (h : iv_H) (q0 : Nat) (x1 : Int32) (x2 : Int32) : Option (Int32) := (fX1_doorToDoor_l2 N h q0 x1 x2 (fun (_ : Unit) => (some (0 : Int32))) N (0 : Int32))
set_option maxRecDepth 10000 in
set_option maxHeartbeats 4000000 in
theorem rX1_doorToDoor {d N : Nat} (hd : 2 ≤ d) {h : iv_H} {q0 : Nat} {x1 : Int32} {x2 : Int32} {r : Int32} {Q : Option Value → iv_H → Prop} (e : fX1_doorToDoor N h q0 x1 x2 = some r) (hq : Q (some (.int r)) h) : Cl d 37 [.ref q0, .int x1, .int x2] h Q := by
  obtain ⟨d, rfl⟩ : ∃ k, d = k + 1 := ⟨d - 1, by omega⟩
  have hd : 1 ≤ d := by omega
  have hT := hX1_doorToDoor
  unfold fX1_doorToDoor at e
  refine Cl.into (by decide) gX1_doorToDoor rfl ?_
  show Rn d 37 (some .boolean) 0 [some (.ref q0), some (.int x1), some (.int x2), none] [] h Q
  refine Rn.n hT 2 (pc' := 2) (L' := [some (.ref q0), some (.int x1), some (.int x2), some (.int (0 : Int32))]) (st' := []) rfl ?_
  refine Rn.weak (ll_s (ll_s (ll_s (ll_s ll_e)))) (rX1_doorToDoor_l2 hd (fun _ e => ?_) hq N (0 : Int32) e)
  try dsimp only at e
  refine Rn.n hT 1 (pc' := 26) (L' := [none, none, none, none]) (st' := [.int (0 : Int32)]) rfl ?_
  obtain rfl := Option.some.inj e
  exact Rn.ret hT rfl rfl rfl hq
set_option maxRecDepth 10000 in
theorem hX1_mostDoors : iv_Tb 38 tX1_mostDoors := iv_tb_of (m := mX1_mostDoors) rfl
set_option maxRecDepth 10000 in
theorem gX1_mostDoors : PG.2 38 = some mX1_mostDoors := iv_pi_of (t := tX1_mostDoors) rfl (by decide)
def fX1_mostDoors_b32 (N : Nat) (h : iv_H) (q0 : Nat) (x1 : Int32) (x2 : Int32)  (kb : Int32 → Int32 → Option (Int32)) (kx : Int32 → Option (Int32)) : Option (Int32) := (kb x1 (x2 + (1 : Int32)))
set_option maxRecDepth 10000 in
set_option maxHeartbeats 4000000 in
theorem rX1_mostDoors_b32 {d N : Nat} (hd : 1 ≤ d) {h : iv_H} {q0 : Nat} {x1 : Int32} {x2 : Int32}  {kb : Int32 → Int32 → Option (Int32)} {kx : Int32 → Option (Int32)} {r : Int32} {Q : Option Value → iv_H → Prop} (hb : ∀ (w1 : Int32) (w2 : Int32), kb w1 w2 = some r → Rn d 38 (some .int) 4 [some (.ref q0), some (.int w1), some (.int w2)] [] h Q) (hk : ∀ (w1 : Int32), kx w1 = some r → Rn d 38 (some .int) 38 [none, some (.int w1), none] [] h Q) (hq : Q (some (.int r)) h) (e : fX1_mostDoors_b32 N h q0 x1 x2  kb kx = some r) : Rn d 38 (some .int) 32 [some (.ref q0), some (.int x1), some (.int x2)] [] h Q := by
  have hT := hX1_mostDoors
  unfold fX1_mostDoors_b32 at e
  refine Rn.n hT 2 (pc' := 4) (L' := [some (.ref q0), some (.int x1), some (.int (x2 + (1 : Int32)))]) (st' := []) rfl ?_
  exact Rn.weak (ll_s (ll_s (ll_s ll_e))) (hb x1 (x2 + (1 : Int32)) e)
def fX1_mostDoors_b30 (N : Nat) (h : iv_H) (q0 : Nat) (x2 : Int32)  (kb : Int32 → Int32 → Option (Int32)) (kx : Int32 → Option (Int32)) : Option (Int32) := (fX1_mostDoors_b32 N h q0 x2 x2 kb kx)
set_option maxRecDepth 10000 in
set_option maxHeartbeats 4000000 in
theorem rX1_mostDoors_b30 {d N : Nat} (hd : 1 ≤ d) {h : iv_H} {q0 : Nat} {x2 : Int32}  {kb : Int32 → Int32 → Option (Int32)} {kx : Int32 → Option (Int32)} {r : Int32} {Q : Option Value → iv_H → Prop} (hb : ∀ (w1 : Int32) (w2 : Int32), kb w1 w2 = some r → Rn d 38 (some .int) 4 [some (.ref q0), some (.int w1), some (.int w2)] [] h Q) (hk : ∀ (w1 : Int32), kx w1 = some r → Rn d 38 (some .int) 38 [none, some (.int w1), none] [] h Q) (hq : Q (some (.int r)) h) (e : fX1_mostDoors_b30 N h q0 x2  kb kx = some r) : Rn d 38 (some .int) 30 [some (.ref q0), none, some (.int x2)] [] h Q := by
  have hT := hX1_mostDoors
  unfold fX1_mostDoors_b30 at e
  refine Rn.n hT 2 (pc' := 32) (L' := [some (.ref q0), some (.int x2), some (.int x2)]) (st' := []) rfl ?_
  exact Rn.weak (ll_s (ll_s (ll_s ll_e))) (rX1_mostDoors_b32 hd hb hk hq e)
def fX1_mostDoors_l4 (N : Nat) (h : iv_H) (q0 : Nat) (kx : Int32 → Option (Int32)) : Nat → Int32 → Int32 → Option (Int32)
  | 0, _, _ => none
  | n + 1, x1, x2 => ((gI h 1 2 q0).bind fun v_759 => (if v_759 ≤ x2 then (kx x1) else (if x1 = (-1 : Int32) then (fX1_mostDoors_b30 N h q0 x2 (fX1_mostDoors_l4 N h q0 kx n) kx) else ((cko h q0 1).bind fun _ => (fX1_doorsOf N h q0 x2).bind fun v_765 => ((cko h q0 1).bind fun _ => (fX1_doorsOf N h q0 x1).bind fun v_768 => (if v_765 ≤ v_768 then (fX1_mostDoors_b32 N h q0 x1 x2 (fX1_mostDoors_l4 N h q0 kx n) kx) else (fX1_mostDoors_b30 N h q0 x2 (fX1_mostDoors_l4 N h q0 kx n) kx)))))))
set_option maxRecDepth 10000 in
set_option maxHeartbeats 4000000 in
theorem rX1_mostDoors_l4 {d N : Nat} (hd : 1 ≤ d) {h : iv_H} {q0 : Nat} {kx : Int32 → Option (Int32)} {r : Int32} {Q : Option Value → iv_H → Prop} (hk : ∀ (x1 : Int32), kx x1 = some r → Rn d 38 (some .int) 38 [none, some (.int x1), none] [] h Q) (hq : Q (some (.int r)) h) : ∀ (n : Nat) (x1 : Int32) (x2 : Int32), fX1_mostDoors_l4 N h q0 kx n x1 x2 = some r → Rn d 38 (some .int) 4 [some (.ref q0), some (.int x1), some (.int x2)] [] h Q := by
  have hT := hX1_mostDoors
  intro n
  induction n with
  | zero =>
    intro x1 x2 e
    rw [fX1_mostDoors_l4] at e
    cases e
  | succ n ih =>
    intro x1 x2 e
    rw [fX1_mostDoors_l4] at e
    refine Rn.n hT 2 (pc' := 6) (L' := [some (.ref q0), some (.int x1), some (.int x2)]) (st' := [.ref q0, .int x2]) rfl ?_
    obtain ⟨v_759, e_760, e⟩ := Option.bind_eq_some_iff.mp e
    refine Rn.hp hT rfl rfl (gI_hp e_760) ?_
    by_cases c_761 : v_759 ≤ x2
    · rw [if_pos c_761] at e
      refine Rn.bt hT rfl rfl rfl (decide_eq_true c_761) ?_
      exact Rn.weak (ll_n (ll_s (ll_n ll_e))) (hk x1 e)
    · rw [if_neg c_761] at e
      refine Rn.bf hT rfl rfl rfl (decide_eq_false c_761) ?_
      refine Rn.n hT 2 (pc' := 14) (L' := [some (.ref q0), some (.int x1), some (.int x2)]) (st' := [.int (-1 : Int32), .int x1]) rfl ?_
      by_cases c_762 : x1 = (-1 : Int32)
      · rw [if_pos c_762] at e
        refine Rn.bt hT rfl rfl rfl (decide_eq_true c_762) ?_
        exact Rn.weak (ll_s (ll_n (ll_s ll_e))) (rX1_mostDoors_b30 hd ih hk hq e)
      · rw [if_neg c_762] at e
        refine Rn.bf hT rfl rfl rfl (decide_eq_false c_762) ?_
        refine Rn.n hT 2 (pc' := 19) (L' := [some (.ref q0), some (.int x1), some (.int x2)]) (st' := [.int x2, .ref q0]) rfl ?_
        obtain ⟨_, e_764, e⟩ := Option.bind_eq_some_iff.mp e
        obtain ⟨v_765, e_763, e⟩ := Option.bind_eq_some_iff.mp e
        refine Rn.call hT rfl rfl rfl (Nat.le_of_ble_eq_true rfl) (rcv_v gX1_doorsOf (by omega) e_764) (rX1_doorsOf (by omega) e_763 ?_)
        show Rn d _ _ 22 [some (.ref q0), some (.int x1), some (.int x2)] [.int v_765] h Q
        refine Rn.n hT 2 (pc' := 24) (L' := [some (.ref q0), some (.int x1), some (.int x2)]) (st' := [.int x1, .ref q0, .int v_765]) rfl ?_
        obtain ⟨_, e_767, e⟩ := Option.bind_eq_some_iff.mp e
        obtain ⟨v_768, e_766, e⟩ := Option.bind_eq_some_iff.mp e
        refine Rn.call hT rfl rfl rfl (Nat.le_of_ble_eq_true rfl) (rcv_v gX1_doorsOf (by omega) e_767) (rX1_doorsOf (by omega) e_766 ?_)
        show Rn d _ _ 27 [some (.ref q0), some (.int x1), some (.int x2)] [.int v_768, .int v_765] h Q
        by_cases c_769 : v_765 ≤ v_768
        · rw [if_pos c_769] at e
          refine Rn.bt hT rfl rfl rfl (decide_eq_true c_769) ?_
          exact Rn.weak (ll_s (ll_s (ll_s ll_e))) (rX1_mostDoors_b32 hd ih hk hq e)
        · rw [if_neg c_769] at e
          refine Rn.bf hT rfl rfl rfl (decide_eq_false c_769) ?_
          exact Rn.weak (ll_s (ll_n (ll_s ll_e))) (rX1_mostDoors_b30 hd ih hk hq e)
def fX1_mostDoors (N : Nat) (h : iv_H) (q0 : Nat) : Option (Int32) := (fX1_mostDoors_l4 N h q0 (fun (z_758 : Int32) => (some z_758)) N (-1 : Int32) (0 : Int32))
set_option maxRecDepth 10000 in
set_option maxHeartbeats 4000000 in
theorem rX1_mostDoors {d N : Nat} (hd : 2 ≤ d) {h : iv_H} {q0 : Nat} {r : Int32} {Q : Option Value → iv_H → Prop} (e : fX1_mostDoors N h q0 = some r) (hq : Q (some (.int r)) h) : Cl d 38 [.ref q0] h Q := by
  obtain ⟨d, rfl⟩ : ∃ k, d = k + 1 := ⟨d - 1, by omega⟩
  have hd : 1 ≤ d := by omega
  have hT := hX1_mostDoors
  unfold fX1_mostDoors at e
  refine Cl.into (by decide) gX1_mostDoors rfl ?_
  show Rn d 38 (some .int) 0 [some (.ref q0), none, none] [] h Q
  refine Rn.n hT 4 (pc' := 4) (L' := [some (.ref q0), some (.int (-1 : Int32)), some (.int (0 : Int32))]) (st' := []) rfl ?_
  refine Rn.weak (ll_s (ll_s (ll_s ll_e))) (rX1_mostDoors_l4 hd (fun z_758 e => ?_) hq N (-1 : Int32) (0 : Int32) e)
  try dsimp only at e
  refine Rn.n hT 1 (pc' := 39) (L' := [none, some (.int z_758), none]) (st' := [.int z_758]) rfl ?_
  obtain rfl := Option.some.inj e
  exact Rn.ret hT rfl rfl rfl hq
set_option maxRecDepth 10000 in
theorem hX1_doorsThatMeet : iv_Tb 39 tX1_doorsThatMeet := iv_tb_of (m := mX1_doorsThatMeet) rfl
set_option maxRecDepth 10000 in
theorem gX1_doorsThatMeet : PG.2 39 = some mX1_doorsThatMeet := iv_pi_of (t := tX1_doorsThatMeet) rfl (by decide)
def fX1_doorsThatMeet_b25 (N : Nat) (h : iv_H) (q0 : Nat) (x1 : Int32) (x3 : Int32) (s0 : Int32) (s1 : Int32) (kb : Int32 → Int32 → Option (Int32)) (kx : Int32 → Option (Int32)) : Option (Int32) := (kb (s1 + s0) (x3 + (1 : Int32)))
set_option maxRecDepth 10000 in
set_option maxHeartbeats 4000000 in
theorem rX1_doorsThatMeet_b25 {d N : Nat} (hd : 1 ≤ d) {h : iv_H} {q0 : Nat} {x1 : Int32} {x3 : Int32} {s0 : Int32} {s1 : Int32} {kb : Int32 → Int32 → Option (Int32)} {kx : Int32 → Option (Int32)} {r : Int32} {Q : Option Value → iv_H → Prop} (hb : ∀ (w2 : Int32) (w3 : Int32), kb w2 w3 = some r → Rn d 39 (some .int) 4 [some (.ref q0), some (.int x1), some (.int w2), some (.int w3)] [] h Q) (hk : ∀ (w2 : Int32), kx w2 = some r → Rn d 39 (some .int) 33 [none, none, some (.int w2), none] [] h Q) (hq : Q (some (.int r)) h) (e : fX1_doorsThatMeet_b25 N h q0 x1 x3 s0 s1 kb kx = some r) : Rn d 39 (some .int) 25 [some (.ref q0), some (.int x1), none, some (.int x3)] [.int s0, .int s1] h Q := by
  have hT := hX1_doorsThatMeet
  unfold fX1_doorsThatMeet_b25 at e
  refine Rn.n hT 4 (pc' := 4) (L' := [some (.ref q0), some (.int x1), some (.int (s1 + s0)), some (.int (x3 + (1 : Int32)))]) (st' := []) rfl ?_
  exact Rn.weak (ll_s (ll_s (ll_s (ll_s ll_e)))) (hb (s1 + s0) (x3 + (1 : Int32)) e)
def fX1_doorsThatMeet_l4 (N : Nat) (h : iv_H) (q0 : Nat) (x1 : Int32) (kx : Int32 → Option (Int32)) : Nat → Int32 → Int32 → Option (Int32)
  | 0, _, _ => none
  | n + 1, x2, x3 => (if (4 : Int32) ≤ x3 then (kx x2) else ((cko h q0 1).bind fun _ => (fX1_throughDoor N h q0 x1 x3).bind fun v_774 => (if v_774 = (-1 : Int32) then (fX1_doorsThatMeet_b25 N h q0 x1 x3 (0 : Int32) x2 (fX1_doorsThatMeet_l4 N h q0 x1 kx n) kx) else (fX1_doorsThatMeet_b25 N h q0 x1 x3 (1 : Int32) x2 (fX1_doorsThatMeet_l4 N h q0 x1 kx n) kx))))
set_option maxRecDepth 10000 in
set_option maxHeartbeats 4000000 in
theorem rX1_doorsThatMeet_l4 {d N : Nat} (hd : 1 ≤ d) {h : iv_H} {q0 : Nat} {x1 : Int32} {kx : Int32 → Option (Int32)} {r : Int32} {Q : Option Value → iv_H → Prop} (hk : ∀ (x2 : Int32), kx x2 = some r → Rn d 39 (some .int) 33 [none, none, some (.int x2), none] [] h Q) (hq : Q (some (.int r)) h) : ∀ (n : Nat) (x2 : Int32) (x3 : Int32), fX1_doorsThatMeet_l4 N h q0 x1 kx n x2 x3 = some r → Rn d 39 (some .int) 4 [some (.ref q0), some (.int x1), some (.int x2), some (.int x3)] [] h Q := by
  have hT := hX1_doorsThatMeet
  intro n
  induction n with
  | zero =>
    intro x2 x3 e
    rw [fX1_doorsThatMeet_l4] at e
    cases e
  | succ n ih =>
    intro x2 x3 e
    rw [fX1_doorsThatMeet_l4] at e
    refine Rn.n hT 2 (pc' := 6) (L' := [some (.ref q0), some (.int x1), some (.int x2), some (.int x3)]) (st' := [.int (4 : Int32), .int x3]) rfl ?_
    by_cases c_771 : (4 : Int32) ≤ x3
    · rw [if_pos c_771] at e
      refine Rn.bt hT rfl rfl rfl (decide_eq_true c_771) ?_
      exact Rn.weak (ll_n (ll_n (ll_s (ll_n ll_e)))) (hk x2 e)
    · rw [if_neg c_771] at e
      refine Rn.bf hT rfl rfl rfl (decide_eq_false c_771) ?_
      refine Rn.n hT 4 (pc' := 13) (L' := [some (.ref q0), some (.int x1), some (.int x2), some (.int x3)]) (st' := [.int x3, .int x1, .ref q0, .int x2]) rfl ?_
      obtain ⟨_, e_773, e⟩ := Option.bind_eq_some_iff.mp e
      obtain ⟨v_774, e_772, e⟩ := Option.bind_eq_some_iff.mp e
      refine Rn.call hT rfl rfl rfl (Nat.le_of_ble_eq_true rfl) (rcv_v gX1_throughDoor (by omega) e_773) (rX1_throughDoor (by omega) e_772 ?_)
      show Rn d _ _ 16 [some (.ref q0), some (.int x1), some (.int x2), some (.int x3)] [.int v_774, .int x2] h Q
      refine Rn.n hT 1 (pc' := 17) (L' := [some (.ref q0), some (.int x1), some (.int x2), some (.int x3)]) (st' := [.int (-1 : Int32), .int v_774, .int x2]) rfl ?_
      by_cases c_775 : v_774 = (-1 : Int32)
      · rw [if_pos c_775] at e
        refine Rn.bf hT rfl rfl rfl (decide_eq_false (fun z => z c_775)) ?_
        refine Rn.n hT 2 (pc' := 25) (L' := [some (.ref q0), some (.int x1), some (.int x2), some (.int x3)]) (st' := [.int (0 : Int32), .int x2]) rfl ?_
        exact Rn.weak (ll_s (ll_s (ll_n (ll_s ll_e)))) (rX1_doorsThatMeet_b25 hd ih hk hq e)
      · rw [if_neg c_775] at e
        refine Rn.bt hT rfl rfl rfl (decide_eq_true c_775) ?_
        refine Rn.n hT 1 (pc' := 25) (L' := [some (.ref q0), some (.int x1), some (.int x2), some (.int x3)]) (st' := [.int (1 : Int32), .int x2]) rfl ?_
        exact Rn.weak (ll_s (ll_s (ll_n (ll_s ll_e)))) (rX1_doorsThatMeet_b25 hd ih hk hq e)
def fX1_doorsThatMeet (N : Nat) (h : iv_H) (q0 : Nat) (x1 : Int32) : Option (Int32) := (fX1_doorsThatMeet_l4 N h q0 x1 (fun (z_770 : Int32) => (some z_770)) N (0 : Int32) (0 : Int32))
set_option maxRecDepth 10000 in
set_option maxHeartbeats 4000000 in
theorem rX1_doorsThatMeet {d N : Nat} (hd : 2 ≤ d) {h : iv_H} {q0 : Nat} {x1 : Int32} {r : Int32} {Q : Option Value → iv_H → Prop} (e : fX1_doorsThatMeet N h q0 x1 = some r) (hq : Q (some (.int r)) h) : Cl d 39 [.ref q0, .int x1] h Q := by
  obtain ⟨d, rfl⟩ : ∃ k, d = k + 1 := ⟨d - 1, by omega⟩
  have hd : 1 ≤ d := by omega
  have hT := hX1_doorsThatMeet
  unfold fX1_doorsThatMeet at e
  refine Cl.into (by decide) gX1_doorsThatMeet rfl ?_
  show Rn d 39 (some .int) 0 [some (.ref q0), some (.int x1), none, none] [] h Q
  refine Rn.n hT 4 (pc' := 4) (L' := [some (.ref q0), some (.int x1), some (.int (0 : Int32)), some (.int (0 : Int32))]) (st' := []) rfl ?_
  refine Rn.weak (ll_s (ll_s (ll_s (ll_s ll_e)))) (rX1_doorsThatMeet_l4 hd (fun z_770 e => ?_) hq N (0 : Int32) (0 : Int32) e)
  try dsimp only at e
  refine Rn.n hT 1 (pc' := 34) (L' := [none, none, some (.int z_770), none]) (st' := [.int z_770]) rfl ?_
  obtain rfl := Option.some.inj e
  exact Rn.ret hT rfl rfl rfl hq
set_option maxRecDepth 10000 in
theorem hX1_lockedDrift : iv_Tb 40 tX1_lockedDrift := iv_tb_of (m := mX1_lockedDrift) rfl
set_option maxRecDepth 10000 in
theorem gX1_lockedDrift : PG.2 40 = some mX1_lockedDrift := iv_pi_of (t := tX1_lockedDrift) rfl (by decide)
def fX1_lockedDrift_b81 (N : Nat) (h : iv_H) (q0 : Nat) (x2 : Int32) (s0 : Int32) (s1 : Int32) (kb : Int32 → Int32 → Option (Int32)) (kx : Int32 → Option (Int32)) : Option (Int32) := (kb (s1 + s0) (x2 + (1 : Int32)))
set_option maxRecDepth 10000 in
set_option maxHeartbeats 4000000 in
theorem rX1_lockedDrift_b81 {d N : Nat} (hd : 1 ≤ d) {h : iv_H} {q0 : Nat} {x2 : Int32} {s0 : Int32} {s1 : Int32} {kb : Int32 → Int32 → Option (Int32)} {kx : Int32 → Option (Int32)} {r : Int32} {Q : Option Value → iv_H → Prop} (hb : ∀ (w1 : Int32) (w2 : Int32), kb w1 w2 = some r → Rn d 40 (some .int) 4 [some (.ref q0), some (.int w1), some (.int w2), none, none, none, none] [] h Q) (hk : ∀ (w1 : Int32), kx w1 = some r → Rn d 40 (some .int) 89 [none, some (.int w1), none, none, none, none, none] [] h Q) (hq : Q (some (.int r)) h) (e : fX1_lockedDrift_b81 N h q0 x2 s0 s1 kb kx = some r) : Rn d 40 (some .int) 81 [some (.ref q0), none, some (.int x2), none, none, none, none] [.int s0, .int s1] h Q := by
  have hT := hX1_lockedDrift
  unfold fX1_lockedDrift_b81 at e
  refine Rn.n hT 4 (pc' := 4) (L' := [some (.ref q0), some (.int (s1 + s0)), some (.int (x2 + (1 : Int32))), none, none, none, none]) (st' := []) rfl ?_
  exact Rn.weak (ll_s (ll_s (ll_s (ll_n (ll_n (ll_n (ll_n ll_e))))))) (hb (s1 + s0) (x2 + (1 : Int32)) e)
def fX1_lockedDrift_l4 (N : Nat) (h : iv_H) (q0 : Nat) (kx : Int32 → Option (Int32)) : Nat → Int32 → Int32 → Option (Int32)
  | 0, _, _ => none
  | n + 1, x1, x2 => ((gI h 1 2 q0).bind fun v_777 => (if v_777 ≤ x2 then (kx x1) else ((gR h 1 5 q0).bind fun v_780 => ((aI h v_780 x2).bind fun v_782 => ((gR h 1 5 q0).bind fun v_784 => ((aI h v_784 x2).bind fun v_786 => ((gI h 1 0 q0).bind fun v_788 => ((gI h 1 1 q0).bind fun v_791 => ((cko h q0 1).bind fun _ => (fX1_locksOf N h q0 x2).bind fun v_796 => (if v_796 ≤ 0 then (fX1_lockedDrift_b81 N h q0 x2 (0 : Int32) x1 (fX1_lockedDrift_l4 N h q0 kx n) kx) else (fX1_lockedDrift_b81 N h q0 x2 (iv_mn (iv_mn (v_782 &&& (3 : Int32)) ((v_788 - (1 : Int32)) - (v_782 &&& (3 : Int32)))) (iv_mn (v_786 >>> ((2 : Int32) &&& 31)) ((v_791 - (1 : Int32)) - (v_786 >>> ((2 : Int32) &&& 31))))) x1 (fX1_lockedDrift_l4 N h q0 kx n) kx)))))))))))
set_option maxRecDepth 10000 in
set_option maxHeartbeats 4000000 in
theorem rX1_lockedDrift_l4 {d N : Nat} (hd : 1 ≤ d) {h : iv_H} {q0 : Nat} {kx : Int32 → Option (Int32)} {r : Int32} {Q : Option Value → iv_H → Prop} (hk : ∀ (x1 : Int32), kx x1 = some r → Rn d 40 (some .int) 89 [none, some (.int x1), none, none, none, none, none] [] h Q) (hq : Q (some (.int r)) h) : ∀ (n : Nat) (x1 : Int32) (x2 : Int32), fX1_lockedDrift_l4 N h q0 kx n x1 x2 = some r → Rn d 40 (some .int) 4 [some (.ref q0), some (.int x1), some (.int x2), none, none, none, none] [] h Q := by
  have hT := hX1_lockedDrift
  intro n
  induction n with
  | zero =>
    intro x1 x2 e
    rw [fX1_lockedDrift_l4] at e
    cases e
  | succ n ih =>
    intro x1 x2 e
    rw [fX1_lockedDrift_l4] at e
    refine Rn.n hT 2 (pc' := 6) (L' := [some (.ref q0), some (.int x1), some (.int x2), none, none, none, none]) (st' := [.ref q0, .int x2]) rfl ?_
    obtain ⟨v_777, e_778, e⟩ := Option.bind_eq_some_iff.mp e
    refine Rn.hp hT rfl rfl (gI_hp e_778) ?_
    by_cases c_779 : v_777 ≤ x2
    · rw [if_pos c_779] at e
      refine Rn.bt hT rfl rfl rfl (decide_eq_true c_779) ?_
      exact Rn.weak (ll_n (ll_s (ll_n (ll_n (ll_n (ll_n (ll_n ll_e))))))) (hk x1 e)
    · rw [if_neg c_779] at e
      refine Rn.bf hT rfl rfl rfl (decide_eq_false c_779) ?_
      refine Rn.n hT 1 (pc' := 13) (L' := [some (.ref q0), some (.int x1), some (.int x2), none, none, none, none]) (st' := [.ref q0]) rfl ?_
      obtain ⟨v_780, e_781, e⟩ := Option.bind_eq_some_iff.mp e
      refine Rn.hp hT rfl rfl (gR_hp e_781) ?_
      refine Rn.n hT 1 (pc' := 17) (L' := [some (.ref q0), some (.int x1), some (.int x2), none, none, none, none]) (st' := [.int x2, .ref v_780]) rfl ?_
      obtain ⟨v_782, e_783, e⟩ := Option.bind_eq_some_iff.mp e
      refine Rn.hp hT rfl rfl (aI_hp e_783) ?_
      refine Rn.n hT 4 (pc' := 22) (L' := [some (.ref q0), some (.int x1), some (.int x2), some (.int (v_782 &&& (3 : Int32))), none, none, none]) (st' := [.ref q0]) rfl ?_
      obtain ⟨v_784, e_785, e⟩ := Option.bind_eq_some_iff.mp e
      refine Rn.hp hT rfl rfl (gR_hp e_785) ?_
      refine Rn.n hT 1 (pc' := 26) (L' := [some (.ref q0), some (.int x1), some (.int x2), some (.int (v_782 &&& (3 : Int32))), none, none, none]) (st' := [.int x2, .ref v_784]) rfl ?_
      obtain ⟨v_786, e_787, e⟩ := Option.bind_eq_some_iff.mp e
      refine Rn.hp hT rfl rfl (aI_hp e_787) ?_
      refine Rn.n hT 5 (pc' := 33) (L' := [some (.ref q0), some (.int x1), some (.int x2), some (.int (v_782 &&& (3 : Int32))), some (.int (v_786 >>> ((2 : Int32) &&& 31))), none, none]) (st' := [.ref q0, .int (v_782 &&& (3 : Int32))]) rfl ?_
      obtain ⟨v_788, e_789, e⟩ := Option.bind_eq_some_iff.mp e
      refine Rn.hp hT rfl rfl (gI_hp e_789) ?_
      refine Rn.n hT 4 (pc' := 40) (L' := [some (.ref q0), some (.int x1), some (.int x2), some (.int (v_782 &&& (3 : Int32))), some (.int (v_786 >>> ((2 : Int32) &&& 31))), none, none]) (st' := [.int ((v_788 - (1 : Int32)) - (v_782 &&& (3 : Int32))), .int (v_782 &&& (3 : Int32))]) rfl ?_
      refine Rn.hp hT rfl rfl (mn_hp (Nat.le_of_ble_eq_true rfl)) ?_
      refine Rn.n hT 3 (pc' := 48) (L' := [some (.ref q0), some (.int x1), some (.int x2), some (.int (v_782 &&& (3 : Int32))), some (.int (v_786 >>> ((2 : Int32) &&& 31))), some (.int (iv_mn (v_782 &&& (3 : Int32)) ((v_788 - (1 : Int32)) - (v_782 &&& (3 : Int32))))), none]) (st' := [.ref q0, .int (v_786 >>> ((2 : Int32) &&& 31))]) rfl ?_
      obtain ⟨v_791, e_792, e⟩ := Option.bind_eq_some_iff.mp e
      refine Rn.hp hT rfl rfl (gI_hp e_792) ?_
      refine Rn.n hT 4 (pc' := 56) (L' := [some (.ref q0), some (.int x1), some (.int x2), some (.int (v_782 &&& (3 : Int32))), some (.int (v_786 >>> ((2 : Int32) &&& 31))), some (.int (iv_mn (v_782 &&& (3 : Int32)) ((v_788 - (1 : Int32)) - (v_782 &&& (3 : Int32))))), none]) (st' := [.int ((v_791 - (1 : Int32)) - (v_786 >>> ((2 : Int32) &&& 31))), .int (v_786 >>> ((2 : Int32) &&& 31))]) rfl ?_
      refine Rn.hp hT rfl rfl (mn_hp (Nat.le_of_ble_eq_true rfl)) ?_
      refine Rn.n hT 4 (pc' := 64) (L' := [some (.ref q0), some (.int x1), some (.int x2), some (.int (v_782 &&& (3 : Int32))), some (.int (v_786 >>> ((2 : Int32) &&& 31))), some (.int (iv_mn (v_782 &&& (3 : Int32)) ((v_788 - (1 : Int32)) - (v_782 &&& (3 : Int32))))), some (.int (iv_mn (v_786 >>> ((2 : Int32) &&& 31)) ((v_791 - (1 : Int32)) - (v_786 >>> ((2 : Int32) &&& 31)))))]) (st' := [.int x2, .ref q0, .int x1]) rfl ?_
      obtain ⟨_, e_795, e⟩ := Option.bind_eq_some_iff.mp e
      obtain ⟨v_796, e_794, e⟩ := Option.bind_eq_some_iff.mp e
      refine Rn.call hT rfl rfl rfl (Nat.le_of_ble_eq_true rfl) (rcv_v gX1_locksOf (by omega) e_795) (rX1_locksOf (by omega) e_794 ?_)
      show Rn d _ _ 67 [some (.ref q0), some (.int x1), some (.int x2), some (.int (v_782 &&& (3 : Int32))), some (.int (v_786 >>> ((2 : Int32) &&& 31))), some (.int (iv_mn (v_782 &&& (3 : Int32)) ((v_788 - (1 : Int32)) - (v_782 &&& (3 : Int32))))), some (.int (iv_mn (v_786 >>> ((2 : Int32) &&& 31)) ((v_791 - (1 : Int32)) - (v_786 >>> ((2 : Int32) &&& 31)))))] [.int v_796, .int x1] h Q
      by_cases c_797 : v_796 ≤ 0
      · rw [if_pos c_797] at e
        refine Rn.bt hT rfl rfl rfl (decide_eq_true c_797) ?_
        refine Rn.n hT 1 (pc' := 81) (L' := [some (.ref q0), some (.int x1), some (.int x2), some (.int (v_782 &&& (3 : Int32))), some (.int (v_786 >>> ((2 : Int32) &&& 31))), some (.int (iv_mn (v_782 &&& (3 : Int32)) ((v_788 - (1 : Int32)) - (v_782 &&& (3 : Int32))))), some (.int (iv_mn (v_786 >>> ((2 : Int32) &&& 31)) ((v_791 - (1 : Int32)) - (v_786 >>> ((2 : Int32) &&& 31)))))]) (st' := [.int (0 : Int32), .int x1]) rfl ?_
        exact Rn.weak (ll_s (ll_n (ll_s (ll_n (ll_n (ll_n (ll_n ll_e))))))) (rX1_lockedDrift_b81 hd ih hk hq e)
      · rw [if_neg c_797] at e
        refine Rn.bf hT rfl rfl rfl (decide_eq_false c_797) ?_
        refine Rn.n hT 2 (pc' := 74) (L' := [some (.ref q0), some (.int x1), some (.int x2), some (.int (v_782 &&& (3 : Int32))), some (.int (v_786 >>> ((2 : Int32) &&& 31))), some (.int (iv_mn (v_782 &&& (3 : Int32)) ((v_788 - (1 : Int32)) - (v_782 &&& (3 : Int32))))), some (.int (iv_mn (v_786 >>> ((2 : Int32) &&& 31)) ((v_791 - (1 : Int32)) - (v_786 >>> ((2 : Int32) &&& 31)))))]) (st' := [.int (iv_mn (v_786 >>> ((2 : Int32) &&& 31)) ((v_791 - (1 : Int32)) - (v_786 >>> ((2 : Int32) &&& 31)))), .int (iv_mn (v_782 &&& (3 : Int32)) ((v_788 - (1 : Int32)) - (v_782 &&& (3 : Int32)))), .int x1]) rfl ?_
        refine Rn.hp hT rfl rfl (mn_hp (Nat.le_of_ble_eq_true rfl)) ?_
        refine Rn.n hT 1 (pc' := 81) (L' := [some (.ref q0), some (.int x1), some (.int x2), some (.int (v_782 &&& (3 : Int32))), some (.int (v_786 >>> ((2 : Int32) &&& 31))), some (.int (iv_mn (v_782 &&& (3 : Int32)) ((v_788 - (1 : Int32)) - (v_782 &&& (3 : Int32))))), some (.int (iv_mn (v_786 >>> ((2 : Int32) &&& 31)) ((v_791 - (1 : Int32)) - (v_786 >>> ((2 : Int32) &&& 31)))))]) (st' := [.int (iv_mn (iv_mn (v_782 &&& (3 : Int32)) ((v_788 - (1 : Int32)) - (v_782 &&& (3 : Int32)))) (iv_mn (v_786 >>> ((2 : Int32) &&& 31)) ((v_791 - (1 : Int32)) - (v_786 >>> ((2 : Int32) &&& 31))))), .int x1]) rfl ?_
        exact Rn.weak (ll_s (ll_n (ll_s (ll_n (ll_n (ll_n (ll_n ll_e))))))) (rX1_lockedDrift_b81 hd ih hk hq e)
def fX1_lockedDrift (N : Nat) (h : iv_H) (q0 : Nat) : Option (Int32) := (fX1_lockedDrift_l4 N h q0 (fun (z_776 : Int32) => (some z_776)) N (0 : Int32) (0 : Int32))
set_option maxRecDepth 10000 in
set_option maxHeartbeats 4000000 in
theorem rX1_lockedDrift {d N : Nat} (hd : 2 ≤ d) {h : iv_H} {q0 : Nat} {r : Int32} {Q : Option Value → iv_H → Prop} (e : fX1_lockedDrift N h q0 = some r) (hq : Q (some (.int r)) h) : Cl d 40 [.ref q0] h Q := by
  obtain ⟨d, rfl⟩ : ∃ k, d = k + 1 := ⟨d - 1, by omega⟩
  have hd : 1 ≤ d := by omega
  have hT := hX1_lockedDrift
  unfold fX1_lockedDrift at e
  refine Cl.into (by decide) gX1_lockedDrift rfl ?_
  show Rn d 40 (some .int) 0 [some (.ref q0), none, none, none, none, none, none] [] h Q
  refine Rn.n hT 4 (pc' := 4) (L' := [some (.ref q0), some (.int (0 : Int32)), some (.int (0 : Int32)), none, none, none, none]) (st' := []) rfl ?_
  refine Rn.weak (ll_s (ll_s (ll_s (ll_n (ll_n (ll_n (ll_n ll_e))))))) (rX1_lockedDrift_l4 hd (fun z_776 e => ?_) hq N (0 : Int32) (0 : Int32) e)
  try dsimp only at e
  refine Rn.n hT 1 (pc' := 90) (L' := [none, some (.int z_776), none, none, none, none, none]) (st' := [.int z_776]) rfl ?_
  obtain rfl := Option.some.inj e
  exact Rn.ret hT rfl rfl rfl hq
set_option maxRecDepth 10000 in
theorem hX1_sideToBuild : iv_Tb 41 tX1_sideToBuild := iv_tb_of (m := mX1_sideToBuild) rfl
set_option maxRecDepth 10000 in
theorem gX1_sideToBuild : PG.2 41 = some mX1_sideToBuild := iv_pi_of (t := tX1_sideToBuild) rfl (by decide)
def fX1_sideToBuild_b46 (N : Nat) (h : iv_H)  (s0 : Int32) : Option (Int32) := (some s0)
set_option maxRecDepth 10000 in
set_option maxHeartbeats 4000000 in
theorem rX1_sideToBuild_b46 {d N : Nat} (hd : 0 ≤ d) {h : iv_H}  {s0 : Int32} {r : Int32} {Q : Option Value → iv_H → Prop} (hq : Q (some (.int r)) h) (e : fX1_sideToBuild_b46 N h  s0 = some r) : Rn d 41 (some .int) 46 [none, none, none, none, none] [.int s0] h Q := by
  have hT := hX1_sideToBuild
  unfold fX1_sideToBuild_b46 at e
  obtain rfl := Option.some.inj e
  exact Rn.ret hT rfl rfl rfl hq
def fX1_sideToBuild_b32 (N : Nat) (h : iv_H)  (s0 : Int32) : Option (Int32) := (if s0 = (3 : Int32) then (fX1_sideToBuild_b46 N h (0 : Int32)) else (fX1_sideToBuild_b46 N h s0))
set_option maxRecDepth 10000 in
set_option maxHeartbeats 4000000 in
theorem rX1_sideToBuild_b32 {d N : Nat} (hd : 0 ≤ d) {h : iv_H}  {s0 : Int32} {r : Int32} {Q : Option Value → iv_H → Prop} (hq : Q (some (.int r)) h) (e : fX1_sideToBuild_b32 N h  s0 = some r) : Rn d 41 (some .int) 32 [none, none, none, none, none] [.int s0] h Q := by
  have hT := hX1_sideToBuild
  unfold fX1_sideToBuild_b32 at e
  refine Rn.n hT 3 (pc' := 37) (L' := [none, none, none, none, some (.int s0)]) (st' := [.int (3 : Int32), .int s0]) rfl ?_
  by_cases c_808 : s0 = (3 : Int32)
  · rw [if_pos c_808] at e
    refine Rn.bf hT rfl rfl rfl (decide_eq_false (fun z => z c_808)) ?_
    refine Rn.n hT 2 (pc' := 46) (L' := [none, none, none, none, some (.int s0)]) (st' := [.int (0 : Int32)]) rfl ?_
    exact Rn.weak (ll_n (ll_n (ll_n (ll_n (ll_n ll_e))))) (rX1_sideToBuild_b46 hd hq e)
  · rw [if_neg c_808] at e
    refine Rn.bt hT rfl rfl rfl (decide_eq_true c_808) ?_
    refine Rn.n hT 1 (pc' := 46) (L' := [none, none, none, none, some (.int s0)]) (st' := [.int s0]) rfl ?_
    exact Rn.weak (ll_n (ll_n (ll_n (ll_n (ll_n ll_e))))) (rX1_sideToBuild_b46 hd hq e)
def fX1_sideToBuild (N : Nat) (h : iv_H) (q0 : Nat) (x1 : Int32) (x2 : Int32) : Option (Int32) := ((gR h 1 10 q0).bind fun v_799 => ((aI h v_799 (((4 : Int32) * x1) + x2)).bind fun v_801 => (if v_801 = (-1 : Int32) then (fX1_sideToBuild_b32 N h (3 : Int32)) else ((gR h 1 9 q0).bind fun v_804 => ((aI h v_804 (((4 : Int32) * v_801) + (x2 ^^^ (2 : Int32)))).bind fun v_806 => (fX1_sideToBuild_b32 N h v_806))))))
set_option maxRecDepth 10000 in
set_option maxHeartbeats 4000000 in
theorem rX1_sideToBuild {d N : Nat} (hd : 1 ≤ d) {h : iv_H} {q0 : Nat} {x1 : Int32} {x2 : Int32} {r : Int32} {Q : Option Value → iv_H → Prop} (e : fX1_sideToBuild N h q0 x1 x2 = some r) (hq : Q (some (.int r)) h) : Cl d 41 [.ref q0, .int x1, .int x2] h Q := by
  obtain ⟨d, rfl⟩ : ∃ k, d = k + 1 := ⟨d - 1, by omega⟩
  have hd : 0 ≤ d := by omega
  have hT := hX1_sideToBuild
  unfold fX1_sideToBuild at e
  refine Cl.into (by decide) gX1_sideToBuild rfl ?_
  show Rn d 41 (some .int) 0 [some (.ref q0), some (.int x1), some (.int x2), none, none] [] h Q
  refine Rn.n hT 1 (pc' := 1) (L' := [some (.ref q0), some (.int x1), some (.int x2), none, none]) (st' := [.ref q0]) rfl ?_
  obtain ⟨v_799, e_800, e⟩ := Option.bind_eq_some_iff.mp e
  refine Rn.hp hT rfl rfl (gR_hp e_800) ?_
  refine Rn.n hT 5 (pc' := 9) (L' := [some (.ref q0), some (.int x1), some (.int x2), none, none]) (st' := [.int (((4 : Int32) * x1) + x2), .ref v_799]) rfl ?_
  obtain ⟨v_801, e_802, e⟩ := Option.bind_eq_some_iff.mp e
  refine Rn.hp hT rfl rfl (aI_hp e_802) ?_
  refine Rn.n hT 3 (pc' := 13) (L' := [some (.ref q0), some (.int x1), some (.int x2), some (.int v_801), none]) (st' := [.int (-1 : Int32), .int v_801]) rfl ?_
  by_cases c_803 : v_801 = (-1 : Int32)
  · rw [if_pos c_803] at e
    refine Rn.bf hT rfl rfl rfl (decide_eq_false (fun z => z c_803)) ?_
    refine Rn.n hT 2 (pc' := 32) (L' := [some (.ref q0), some (.int x1), some (.int x2), some (.int v_801), none]) (st' := [.int (3 : Int32)]) rfl ?_
    exact Rn.weak (ll_n (ll_n (ll_n (ll_n (ll_n ll_e))))) (rX1_sideToBuild_b32 hd hq e)
  · rw [if_neg c_803] at e
    refine Rn.bt hT rfl rfl rfl (decide_eq_true c_803) ?_
    refine Rn.n hT 1 (pc' := 21) (L' := [some (.ref q0), some (.int x1), some (.int x2), some (.int v_801), none]) (st' := [.ref q0]) rfl ?_
    obtain ⟨v_804, e_805, e⟩ := Option.bind_eq_some_iff.mp e
    refine Rn.hp hT rfl rfl (gR_hp e_805) ?_
    refine Rn.n hT 7 (pc' := 31) (L' := [some (.ref q0), some (.int x1), some (.int x2), some (.int v_801), none]) (st' := [.int (((4 : Int32) * v_801) + (x2 ^^^ (2 : Int32))), .ref v_804]) rfl ?_
    obtain ⟨v_806, e_807, e⟩ := Option.bind_eq_some_iff.mp e
    refine Rn.hp hT rfl rfl (aI_hp e_807) ?_
    exact Rn.weak (ll_n (ll_n (ll_n (ll_n (ll_n ll_e))))) (rX1_sideToBuild_b32 hd hq e)
set_option maxRecDepth 10000 in
theorem hX1_doorsTowards : iv_Tb 42 tX1_doorsTowards := iv_tb_of (m := mX1_doorsTowards) rfl
set_option maxRecDepth 10000 in
theorem gX1_doorsTowards : PG.2 42 = some mX1_doorsTowards := iv_pi_of (t := tX1_doorsTowards) rfl (by decide)
def fX1_doorsTowards_b25 (N : Nat) (h : iv_H) (q0 : Nat) (x1 : Int32) (x3 : Int32) (s0 : Int32) (s1 : Int32) (kb : Int32 → Int32 → Option (Int32)) (kx : Int32 → Option (Int32)) : Option (Int32) := (kb (s1 + s0) (x3 + (1 : Int32)))
set_option maxRecDepth 10000 in
set_option maxHeartbeats 4000000 in
theorem rX1_doorsTowards_b25 {d N : Nat} (hd : 1 ≤ d) {h : iv_H} {q0 : Nat} {x1 : Int32} {x3 : Int32} {s0 : Int32} {s1 : Int32} {kb : Int32 → Int32 → Option (Int32)} {kx : Int32 → Option (Int32)} {r : Int32} {Q : Option Value → iv_H → Prop} (hb : ∀ (w2 : Int32) (w3 : Int32), kb w2 w3 = some r → Rn d 42 (some .int) 4 [some (.ref q0), some (.int x1), some (.int w2), some (.int w3)] [] h Q) (hk : ∀ (w2 : Int32), kx w2 = some r → Rn d 42 (some .int) 33 [none, none, some (.int w2), none] [] h Q) (hq : Q (some (.int r)) h) (e : fX1_doorsTowards_b25 N h q0 x1 x3 s0 s1 kb kx = some r) : Rn d 42 (some .int) 25 [some (.ref q0), some (.int x1), none, some (.int x3)] [.int s0, .int s1] h Q := by
  have hT := hX1_doorsTowards
  unfold fX1_doorsTowards_b25 at e
  refine Rn.n hT 4 (pc' := 4) (L' := [some (.ref q0), some (.int x1), some (.int (s1 + s0)), some (.int (x3 + (1 : Int32)))]) (st' := []) rfl ?_
  exact Rn.weak (ll_s (ll_s (ll_s (ll_s ll_e)))) (hb (s1 + s0) (x3 + (1 : Int32)) e)
def fX1_doorsTowards_l4 (N : Nat) (h : iv_H) (q0 : Nat) (x1 : Int32) (kx : Int32 → Option (Int32)) : Nat → Int32 → Int32 → Option (Int32)
  | 0, _, _ => none
  | n + 1, x2, x3 => (if (4 : Int32) ≤ x3 then (kx x2) else ((cko h q0 1).bind fun _ => (fX1_sideToBuild N h q0 x1 x3).bind fun v_813 => (if v_813 = (1 : Int32) then (fX1_doorsTowards_b25 N h q0 x1 x3 (1 : Int32) x2 (fX1_doorsTowards_l4 N h q0 x1 kx n) kx) else (fX1_doorsTowards_b25 N h q0 x1 x3 (0 : Int32) x2 (fX1_doorsTowards_l4 N h q0 x1 kx n) kx))))
set_option maxRecDepth 10000 in
set_option maxHeartbeats 4000000 in
theorem rX1_doorsTowards_l4 {d N : Nat} (hd : 1 ≤ d) {h : iv_H} {q0 : Nat} {x1 : Int32} {kx : Int32 → Option (Int32)} {r : Int32} {Q : Option Value → iv_H → Prop} (hk : ∀ (x2 : Int32), kx x2 = some r → Rn d 42 (some .int) 33 [none, none, some (.int x2), none] [] h Q) (hq : Q (some (.int r)) h) : ∀ (n : Nat) (x2 : Int32) (x3 : Int32), fX1_doorsTowards_l4 N h q0 x1 kx n x2 x3 = some r → Rn d 42 (some .int) 4 [some (.ref q0), some (.int x1), some (.int x2), some (.int x3)] [] h Q := by
  have hT := hX1_doorsTowards
  intro n
  induction n with
  | zero =>
    intro x2 x3 e
    rw [fX1_doorsTowards_l4] at e
    cases e
  | succ n ih =>
    intro x2 x3 e
    rw [fX1_doorsTowards_l4] at e
    refine Rn.n hT 2 (pc' := 6) (L' := [some (.ref q0), some (.int x1), some (.int x2), some (.int x3)]) (st' := [.int (4 : Int32), .int x3]) rfl ?_
    by_cases c_810 : (4 : Int32) ≤ x3
    · rw [if_pos c_810] at e
      refine Rn.bt hT rfl rfl rfl (decide_eq_true c_810) ?_
      exact Rn.weak (ll_n (ll_n (ll_s (ll_n ll_e)))) (hk x2 e)
    · rw [if_neg c_810] at e
      refine Rn.bf hT rfl rfl rfl (decide_eq_false c_810) ?_
      refine Rn.n hT 4 (pc' := 13) (L' := [some (.ref q0), some (.int x1), some (.int x2), some (.int x3)]) (st' := [.int x3, .int x1, .ref q0, .int x2]) rfl ?_
      obtain ⟨_, e_812, e⟩ := Option.bind_eq_some_iff.mp e
      obtain ⟨v_813, e_811, e⟩ := Option.bind_eq_some_iff.mp e
      refine Rn.call hT rfl rfl rfl (Nat.le_of_ble_eq_true rfl) (rcv_v gX1_sideToBuild (by omega) e_812) (rX1_sideToBuild (by omega) e_811 ?_)
      show Rn d _ _ 16 [some (.ref q0), some (.int x1), some (.int x2), some (.int x3)] [.int v_813, .int x2] h Q
      refine Rn.n hT 1 (pc' := 17) (L' := [some (.ref q0), some (.int x1), some (.int x2), some (.int x3)]) (st' := [.int (1 : Int32), .int v_813, .int x2]) rfl ?_
      by_cases c_814 : v_813 = (1 : Int32)
      · rw [if_pos c_814] at e
        refine Rn.bf hT rfl rfl rfl (decide_eq_false (fun z => z c_814)) ?_
        refine Rn.n hT 2 (pc' := 25) (L' := [some (.ref q0), some (.int x1), some (.int x2), some (.int x3)]) (st' := [.int (1 : Int32), .int x2]) rfl ?_
        exact Rn.weak (ll_s (ll_s (ll_n (ll_s ll_e)))) (rX1_doorsTowards_b25 hd ih hk hq e)
      · rw [if_neg c_814] at e
        refine Rn.bt hT rfl rfl rfl (decide_eq_true c_814) ?_
        refine Rn.n hT 1 (pc' := 25) (L' := [some (.ref q0), some (.int x1), some (.int x2), some (.int x3)]) (st' := [.int (0 : Int32), .int x2]) rfl ?_
        exact Rn.weak (ll_s (ll_s (ll_n (ll_s ll_e)))) (rX1_doorsTowards_b25 hd ih hk hq e)
def fX1_doorsTowards (N : Nat) (h : iv_H) (q0 : Nat) (x1 : Int32) : Option (Int32) := (fX1_doorsTowards_l4 N h q0 x1 (fun (z_809 : Int32) => (some z_809)) N (0 : Int32) (0 : Int32))
set_option maxRecDepth 10000 in
set_option maxHeartbeats 4000000 in
theorem rX1_doorsTowards {d N : Nat} (hd : 2 ≤ d) {h : iv_H} {q0 : Nat} {x1 : Int32} {r : Int32} {Q : Option Value → iv_H → Prop} (e : fX1_doorsTowards N h q0 x1 = some r) (hq : Q (some (.int r)) h) : Cl d 42 [.ref q0, .int x1] h Q := by
  obtain ⟨d, rfl⟩ : ∃ k, d = k + 1 := ⟨d - 1, by omega⟩
  have hd : 1 ≤ d := by omega
  have hT := hX1_doorsTowards
  unfold fX1_doorsTowards at e
  refine Cl.into (by decide) gX1_doorsTowards rfl ?_
  show Rn d 42 (some .int) 0 [some (.ref q0), some (.int x1), none, none] [] h Q
  refine Rn.n hT 4 (pc' := 4) (L' := [some (.ref q0), some (.int x1), some (.int (0 : Int32)), some (.int (0 : Int32))]) (st' := []) rfl ?_
  refine Rn.weak (ll_s (ll_s (ll_s (ll_s ll_e)))) (rX1_doorsTowards_l4 hd (fun z_809 e => ?_) hq N (0 : Int32) (0 : Int32) e)
  try dsimp only at e
  refine Rn.n hT 1 (pc' := 34) (L' := [none, none, some (.int z_809), none]) (st' := [.int z_809]) rfl ?_
  obtain rfl := Option.some.inj e
  exact Rn.ret hT rfl rfl rfl hq
set_option maxRecDepth 10000 in
theorem hX7_init : iv_Tb 95 tX7_init := iv_tb_of (m := mX7_init) rfl
set_option maxRecDepth 10000 in
theorem gX7_init : PG.2 95 = some mX7_init := iv_pi_of (t := tX7_init) rfl (by decide)
def fX7_init (N : Nat) (h : iv_H) (q0 : Nat) (x1 : Int32) : Option (iv_H) := ((pV h 7 1 q0 (.int (0 : Int32))).bind fun h_816 => ((nA h_816 1 x1).bind fun p_821 => (fun (v_820 : Nat) (h_818 : iv_H) => ((pV h_818 7 0 q0 (.ref v_820)).bind fun h_822 => some h_822)) p_821.1 p_821.2))
set_option maxRecDepth 10000 in
set_option maxHeartbeats 4000000 in
theorem rX7_init {d N : Nat} (hd : 1 ≤ d) {h : iv_H} {q0 : Nat} {x1 : Int32} {r : iv_H} {Q : Option Value → iv_H → Prop} (e : fX7_init N h q0 x1 = some r) (hq : Q none r) : Cl d 95 [.ref q0, .int x1] h Q := by
  obtain ⟨d, rfl⟩ : ∃ k, d = k + 1 := ⟨d - 1, by omega⟩
  have hd : 0 ≤ d := by omega
  have hT := hX7_init
  unfold fX7_init at e
  refine Cl.into (by decide) gX7_init rfl ?_
  show Rn d 95 none 0 [some (.ref q0), some (.int x1)] [] h Q
  refine Rn.n hT 1 (pc' := 1) (L' := [some (.ref q0), some (.int x1)]) (st' := [.ref q0]) rfl ?_
  refine Rn.hp hT rfl rfl (st' := []) (h1 := h) rfl ?_
  refine Rn.n hT 2 (pc' := 6) (L' := [some (.ref q0), some (.int x1)]) (st' := [.int (0 : Int32), .ref q0]) rfl ?_
  obtain ⟨h_816, e_817, e⟩ := Option.bind_eq_some_iff.mp e
  refine Rn.hp hT rfl rfl (pV_hp rfl e_817) ?_
  refine Rn.n hT 2 (pc' := 11) (L' := [some (.ref q0), some (.int x1)]) (st' := [.int x1, .ref q0]) rfl ?_
  obtain ⟨⟨v_820, h_818⟩, e_819, e⟩ := Option.bind_eq_some_iff.mp e
  try dsimp only at e
  refine Rn.hp hT rfl rfl (nA_hp rfl e_819) ?_
  obtain ⟨h_822, e_823, e⟩ := Option.bind_eq_some_iff.mp e
  refine Rn.hp hT rfl rfl (pV_hp rfl e_823) ?_
  obtain rfl := Option.some.inj e
  exact Rn.ret hT rfl rfl rfl hq
set_option maxRecDepth 10000 in
theorem hX2_init : iv_Tb 43 tX2_init := iv_tb_of (m := mX2_init) rfl
set_option maxRecDepth 10000 in
theorem gX2_init : PG.2 43 = some mX2_init := iv_pi_of (t := tX2_init) rfl (by decide)
def fX2_init (N : Nat) (h : iv_H) (q0 : Nat) : Option (iv_H) := ((pV h 2 0 q0 (.int (0 : Int32))).bind fun h_825 => ((pV h_825 2 1 q0 (.int (0 : Int32))).bind fun h_827 => ((pV h_827 2 2 q0 (.int (0 : Int32))).bind fun h_829 => ((pV h_829 2 3 q0 (.int (0 : Int32))).bind fun h_831 => ((pV h_831 2 4 q0 (.int (0 : Int32))).bind fun h_833 => ((pV h_833 2 5 q0 (.int (-1 : Int32))).bind fun h_835 => ((pV h_835 2 6 q0 (.int (0 : Int32))).bind fun h_837 => ((pV h_837 2 7 q0 (.int (0 : Int32))).bind fun h_839 => ((pV h_839 2 8 q0 (.int (0 : Int32))).bind fun h_841 => ((nO h_841 1).bind fun p_846 => (fun (v_845 : Nat) (h_843 : iv_H) => ((fX1_init N h_843 v_845).bind fun h_849 => ((pV h_849 2 9 q0 (.ref v_845)).bind fun h_850 => ((nA h_850 0 (5 : Int32)).bind fun p_855 => (fun (v_854 : Nat) (h_852 : iv_H) => ((wI h_852 v_854 (0 : Int32) (-1 : Int32)).bind fun h_856 => ((wI h_856 v_854 (1 : Int32) (-1 : Int32)).bind fun h_858 => ((wI h_858 v_854 (2 : Int32) (-1 : Int32)).bind fun h_860 => ((wI h_860 v_854 (3 : Int32) (-1 : Int32)).bind fun h_862 => ((wI h_862 v_854 (4 : Int32) (-1 : Int32)).bind fun h_864 => ((pV h_864 2 10 q0 (.ref v_854)).bind fun h_866 => ((nA h_866 0 (6 : Int32)).bind fun p_871 => (fun (v_870 : Nat) (h_868 : iv_H) => ((pV h_868 2 11 q0 (.ref v_870)).bind fun h_872 => ((nO h_872 7).bind fun p_877 => (fun (v_876 : Nat) (h_874 : iv_H) => ((fX7_init N h_874 v_876 (20 : Int32)).bind fun h_880 => ((pV h_880 2 12 q0 (.ref v_876)).bind fun h_881 => ((nO h_881 7).bind fun p_886 => (fun (v_885 : Nat) (h_883 : iv_H) => ((fX7_init N h_883 v_885 (20 : Int32)).bind fun h_889 => ((pV h_889 2 13 q0 (.ref v_885)).bind fun h_890 => ((nA h_890 1 (4 : Int32)).bind fun p_895 => (fun (v_894 : Nat) (h_892 : iv_H) => ((pV h_892 2 14 q0 (.ref v_894)).bind fun h_896 => ((nA h_896 0 (4 : Int32)).bind fun p_901 => (fun (v_900 : Nat) (h_898 : iv_H) => ((pV h_898 2 15 q0 (.ref v_900)).bind fun h_902 => ((nO h_902 7).bind fun p_907 => (fun (v_906 : Nat) (h_904 : iv_H) => ((fX7_init N h_904 v_906 (10 : Int32)).bind fun h_910 => ((pV h_910 2 16 q0 (.ref v_906)).bind fun h_911 => ((nO h_911 7).bind fun p_916 => (fun (v_915 : Nat) (h_913 : iv_H) => ((fX7_init N h_913 v_915 (12 : Int32)).bind fun h_919 => ((pV h_919 2 17 q0 (.ref v_915)).bind fun h_920 => ((nO h_920 7).bind fun p_925 => (fun (v_924 : Nat) (h_922 : iv_H) => ((fX7_init N h_922 v_924 (8 : Int32)).bind fun h_928 => ((pV h_928 2 18 q0 (.ref v_924)).bind fun h_929 => some h_929))) p_925.1 p_925.2)))) p_916.1 p_916.2)))) p_907.1 p_907.2))) p_901.1 p_901.2))) p_895.1 p_895.2)))) p_886.1 p_886.2)))) p_877.1 p_877.2))) p_871.1 p_871.2)))))))) p_855.1 p_855.2)))) p_846.1 p_846.2))))))))))
set_option maxRecDepth 10000 in
set_option maxHeartbeats 4000000 in
theorem rX2_init {d N : Nat} (hd : 3 ≤ d) {h : iv_H} {q0 : Nat} {r : iv_H} {Q : Option Value → iv_H → Prop} (e : fX2_init N h q0 = some r) (hq : Q none r) : Cl d 43 [.ref q0] h Q := by
  obtain ⟨d, rfl⟩ : ∃ k, d = k + 1 := ⟨d - 1, by omega⟩
  have hd : 2 ≤ d := by omega
  have hT := hX2_init
  unfold fX2_init at e
  refine Cl.into (by decide) gX2_init rfl ?_
  show Rn d 43 none 0 [some (.ref q0)] [] h Q
  refine Rn.n hT 1 (pc' := 1) (L' := [some (.ref q0)]) (st' := [.ref q0]) rfl ?_
  refine Rn.hp hT rfl rfl (st' := []) (h1 := h) rfl ?_
  refine Rn.n hT 2 (pc' := 6) (L' := [some (.ref q0)]) (st' := [.int (0 : Int32), .ref q0]) rfl ?_
  obtain ⟨h_825, e_826, e⟩ := Option.bind_eq_some_iff.mp e
  refine Rn.hp hT rfl rfl (pV_hp (by decide) e_826) ?_
  refine Rn.n hT 2 (pc' := 11) (L' := [some (.ref q0)]) (st' := [.int (0 : Int32), .ref q0]) rfl ?_
  obtain ⟨h_827, e_828, e⟩ := Option.bind_eq_some_iff.mp e
  refine Rn.hp hT rfl rfl (pV_hp rfl e_828) ?_
  refine Rn.n hT 2 (pc' := 16) (L' := [some (.ref q0)]) (st' := [.int (0 : Int32), .ref q0]) rfl ?_
  obtain ⟨h_829, e_830, e⟩ := Option.bind_eq_some_iff.mp e
  refine Rn.hp hT rfl rfl (pV_hp rfl e_830) ?_
  refine Rn.n hT 2 (pc' := 21) (L' := [some (.ref q0)]) (st' := [.int (0 : Int32), .ref q0]) rfl ?_
  obtain ⟨h_831, e_832, e⟩ := Option.bind_eq_some_iff.mp e
  refine Rn.hp hT rfl rfl (pV_hp rfl e_832) ?_
  refine Rn.n hT 2 (pc' := 26) (L' := [some (.ref q0)]) (st' := [.int (0 : Int32), .ref q0]) rfl ?_
  obtain ⟨h_833, e_834, e⟩ := Option.bind_eq_some_iff.mp e
  refine Rn.hp hT rfl rfl (pV_hp rfl e_834) ?_
  refine Rn.n hT 2 (pc' := 31) (L' := [some (.ref q0)]) (st' := [.int (-1 : Int32), .ref q0]) rfl ?_
  obtain ⟨h_835, e_836, e⟩ := Option.bind_eq_some_iff.mp e
  refine Rn.hp hT rfl rfl (pV_hp rfl e_836) ?_
  refine Rn.n hT 2 (pc' := 36) (L' := [some (.ref q0)]) (st' := [.int (0 : Int32), .ref q0]) rfl ?_
  obtain ⟨h_837, e_838, e⟩ := Option.bind_eq_some_iff.mp e
  refine Rn.hp hT rfl rfl (pV_hp rfl e_838) ?_
  refine Rn.n hT 2 (pc' := 41) (L' := [some (.ref q0)]) (st' := [.int (0 : Int32), .ref q0]) rfl ?_
  obtain ⟨h_839, e_840, e⟩ := Option.bind_eq_some_iff.mp e
  refine Rn.hp hT rfl rfl (pV_hp rfl e_840) ?_
  refine Rn.n hT 2 (pc' := 46) (L' := [some (.ref q0)]) (st' := [.int (0 : Int32), .ref q0]) rfl ?_
  obtain ⟨h_841, e_842, e⟩ := Option.bind_eq_some_iff.mp e
  refine Rn.hp hT rfl rfl (pV_hp rfl e_842) ?_
  refine Rn.n hT 1 (pc' := 50) (L' := [some (.ref q0)]) (st' := [.ref q0]) rfl ?_
  obtain ⟨⟨v_845, h_843⟩, e_844, e⟩ := Option.bind_eq_some_iff.mp e
  try dsimp only at e
  refine Rn.hp hT rfl rfl (nO_hp e_844) ?_
  refine Rn.n hT 1 (pc' := 54) (L' := [some (.ref q0)]) (st' := [.ref v_845, .ref v_845, .ref q0]) rfl ?_
  obtain ⟨h_849, e_847, e⟩ := Option.bind_eq_some_iff.mp e
  refine Rn.call hT rfl rfl rfl (Nat.le_of_ble_eq_true rfl) rfl (rX1_init (by omega) e_847 ?_)
  show Rn d _ _ 57 [some (.ref q0)] [.ref v_845, .ref q0] h_849 Q
  obtain ⟨h_850, e_851, e⟩ := Option.bind_eq_some_iff.mp e
  refine Rn.hp hT rfl rfl (pV_hp rfl e_851) ?_
  refine Rn.n hT 2 (pc' := 62) (L' := [some (.ref q0)]) (st' := [.int (5 : Int32), .ref q0]) rfl ?_
  obtain ⟨⟨v_854, h_852⟩, e_853, e⟩ := Option.bind_eq_some_iff.mp e
  try dsimp only at e
  refine Rn.hp hT rfl rfl (nA_hp rfl e_853) ?_
  refine Rn.n hT 3 (pc' := 67) (L' := [some (.ref q0)]) (st' := [.int (-1 : Int32), .int (0 : Int32), .ref v_854, .ref v_854, .ref q0]) rfl ?_
  obtain ⟨h_856, e_857, e⟩ := Option.bind_eq_some_iff.mp e
  refine Rn.hp hT rfl rfl (wI_hp e_857) ?_
  refine Rn.n hT 3 (pc' := 71) (L' := [some (.ref q0)]) (st' := [.int (-1 : Int32), .int (1 : Int32), .ref v_854, .ref v_854, .ref q0]) rfl ?_
  obtain ⟨h_858, e_859, e⟩ := Option.bind_eq_some_iff.mp e
  refine Rn.hp hT rfl rfl (wI_hp e_859) ?_
  refine Rn.n hT 3 (pc' := 75) (L' := [some (.ref q0)]) (st' := [.int (-1 : Int32), .int (2 : Int32), .ref v_854, .ref v_854, .ref q0]) rfl ?_
  obtain ⟨h_860, e_861, e⟩ := Option.bind_eq_some_iff.mp e
  refine Rn.hp hT rfl rfl (wI_hp e_861) ?_
  refine Rn.n hT 3 (pc' := 79) (L' := [some (.ref q0)]) (st' := [.int (-1 : Int32), .int (3 : Int32), .ref v_854, .ref v_854, .ref q0]) rfl ?_
  obtain ⟨h_862, e_863, e⟩ := Option.bind_eq_some_iff.mp e
  refine Rn.hp hT rfl rfl (wI_hp e_863) ?_
  refine Rn.n hT 3 (pc' := 83) (L' := [some (.ref q0)]) (st' := [.int (-1 : Int32), .int (4 : Int32), .ref v_854, .ref v_854, .ref q0]) rfl ?_
  obtain ⟨h_864, e_865, e⟩ := Option.bind_eq_some_iff.mp e
  refine Rn.hp hT rfl rfl (wI_hp e_865) ?_
  obtain ⟨h_866, e_867, e⟩ := Option.bind_eq_some_iff.mp e
  refine Rn.hp hT rfl rfl (pV_hp rfl e_867) ?_
  refine Rn.n hT 2 (pc' := 90) (L' := [some (.ref q0)]) (st' := [.int (6 : Int32), .ref q0]) rfl ?_
  obtain ⟨⟨v_870, h_868⟩, e_869, e⟩ := Option.bind_eq_some_iff.mp e
  try dsimp only at e
  refine Rn.hp hT rfl rfl (nA_hp rfl e_869) ?_
  obtain ⟨h_872, e_873, e⟩ := Option.bind_eq_some_iff.mp e
  refine Rn.hp hT rfl rfl (pV_hp rfl e_873) ?_
  refine Rn.n hT 1 (pc' := 96) (L' := [some (.ref q0)]) (st' := [.ref q0]) rfl ?_
  obtain ⟨⟨v_876, h_874⟩, e_875, e⟩ := Option.bind_eq_some_iff.mp e
  try dsimp only at e
  refine Rn.hp hT rfl rfl (nO_hp e_875) ?_
  refine Rn.n hT 2 (pc' := 102) (L' := [some (.ref q0)]) (st' := [.int (20 : Int32), .ref v_876, .ref v_876, .ref q0]) rfl ?_
  obtain ⟨h_880, e_878, e⟩ := Option.bind_eq_some_iff.mp e
  refine Rn.call hT rfl rfl rfl (Nat.le_of_ble_eq_true rfl) rfl (rX7_init (by omega) e_878 ?_)
  show Rn d _ _ 105 [some (.ref q0)] [.ref v_876, .ref q0] h_880 Q
  obtain ⟨h_881, e_882, e⟩ := Option.bind_eq_some_iff.mp e
  refine Rn.hp hT rfl rfl (pV_hp rfl e_882) ?_
  refine Rn.n hT 1 (pc' := 109) (L' := [some (.ref q0)]) (st' := [.ref q0]) rfl ?_
  obtain ⟨⟨v_885, h_883⟩, e_884, e⟩ := Option.bind_eq_some_iff.mp e
  try dsimp only at e
  refine Rn.hp hT rfl rfl (nO_hp e_884) ?_
  refine Rn.n hT 2 (pc' := 115) (L' := [some (.ref q0)]) (st' := [.int (20 : Int32), .ref v_885, .ref v_885, .ref q0]) rfl ?_
  obtain ⟨h_889, e_887, e⟩ := Option.bind_eq_some_iff.mp e
  refine Rn.call hT rfl rfl rfl (Nat.le_of_ble_eq_true rfl) rfl (rX7_init (by omega) e_887 ?_)
  show Rn d _ _ 118 [some (.ref q0)] [.ref v_885, .ref q0] h_889 Q
  obtain ⟨h_890, e_891, e⟩ := Option.bind_eq_some_iff.mp e
  refine Rn.hp hT rfl rfl (pV_hp rfl e_891) ?_
  refine Rn.n hT 2 (pc' := 123) (L' := [some (.ref q0)]) (st' := [.int (4 : Int32), .ref q0]) rfl ?_
  obtain ⟨⟨v_894, h_892⟩, e_893, e⟩ := Option.bind_eq_some_iff.mp e
  try dsimp only at e
  refine Rn.hp hT rfl rfl (nA_hp rfl e_893) ?_
  obtain ⟨h_896, e_897, e⟩ := Option.bind_eq_some_iff.mp e
  refine Rn.hp hT rfl rfl (pV_hp rfl e_897) ?_
  refine Rn.n hT 2 (pc' := 130) (L' := [some (.ref q0)]) (st' := [.int (4 : Int32), .ref q0]) rfl ?_
  obtain ⟨⟨v_900, h_898⟩, e_899, e⟩ := Option.bind_eq_some_iff.mp e
  try dsimp only at e
  refine Rn.hp hT rfl rfl (nA_hp rfl e_899) ?_
  obtain ⟨h_902, e_903, e⟩ := Option.bind_eq_some_iff.mp e
  refine Rn.hp hT rfl rfl (pV_hp rfl e_903) ?_
  refine Rn.n hT 1 (pc' := 136) (L' := [some (.ref q0)]) (st' := [.ref q0]) rfl ?_
  obtain ⟨⟨v_906, h_904⟩, e_905, e⟩ := Option.bind_eq_some_iff.mp e
  try dsimp only at e
  refine Rn.hp hT rfl rfl (nO_hp e_905) ?_
  refine Rn.n hT 2 (pc' := 142) (L' := [some (.ref q0)]) (st' := [.int (10 : Int32), .ref v_906, .ref v_906, .ref q0]) rfl ?_
  obtain ⟨h_910, e_908, e⟩ := Option.bind_eq_some_iff.mp e
  refine Rn.call hT rfl rfl rfl (Nat.le_of_ble_eq_true rfl) rfl (rX7_init (by omega) e_908 ?_)
  show Rn d _ _ 145 [some (.ref q0)] [.ref v_906, .ref q0] h_910 Q
  obtain ⟨h_911, e_912, e⟩ := Option.bind_eq_some_iff.mp e
  refine Rn.hp hT rfl rfl (pV_hp rfl e_912) ?_
  refine Rn.n hT 1 (pc' := 149) (L' := [some (.ref q0)]) (st' := [.ref q0]) rfl ?_
  obtain ⟨⟨v_915, h_913⟩, e_914, e⟩ := Option.bind_eq_some_iff.mp e
  try dsimp only at e
  refine Rn.hp hT rfl rfl (nO_hp e_914) ?_
  refine Rn.n hT 2 (pc' := 155) (L' := [some (.ref q0)]) (st' := [.int (12 : Int32), .ref v_915, .ref v_915, .ref q0]) rfl ?_
  obtain ⟨h_919, e_917, e⟩ := Option.bind_eq_some_iff.mp e
  refine Rn.call hT rfl rfl rfl (Nat.le_of_ble_eq_true rfl) rfl (rX7_init (by omega) e_917 ?_)
  show Rn d _ _ 158 [some (.ref q0)] [.ref v_915, .ref q0] h_919 Q
  obtain ⟨h_920, e_921, e⟩ := Option.bind_eq_some_iff.mp e
  refine Rn.hp hT rfl rfl (pV_hp rfl e_921) ?_
  refine Rn.n hT 1 (pc' := 162) (L' := [some (.ref q0)]) (st' := [.ref q0]) rfl ?_
  obtain ⟨⟨v_924, h_922⟩, e_923, e⟩ := Option.bind_eq_some_iff.mp e
  try dsimp only at e
  refine Rn.hp hT rfl rfl (nO_hp e_923) ?_
  refine Rn.n hT 2 (pc' := 168) (L' := [some (.ref q0)]) (st' := [.int (8 : Int32), .ref v_924, .ref v_924, .ref q0]) rfl ?_
  obtain ⟨h_928, e_926, e⟩ := Option.bind_eq_some_iff.mp e
  refine Rn.call hT rfl rfl rfl (Nat.le_of_ble_eq_true rfl) rfl (rX7_init (by omega) e_926 ?_)
  show Rn d _ _ 171 [some (.ref q0)] [.ref v_924, .ref q0] h_928 Q
  obtain ⟨h_929, e_930, e⟩ := Option.bind_eq_some_iff.mp e
  refine Rn.hp hT rfl rfl (pV_hp rfl e_930) ?_
  obtain rfl := Option.some.inj e
  exact Rn.ret hT rfl rfl rfl hq
set_option maxRecDepth 10000 in
theorem hX2_forgetPast : iv_Tb 53 tX2_forgetPast := iv_tb_of (m := mX2_forgetPast) rfl
set_option maxRecDepth 10000 in
theorem gX2_forgetPast : PG.2 53 = some mX2_forgetPast := iv_pi_of (t := tX2_forgetPast) rfl (by decide)
def fX2_forgetPast (N : Nat) (h : iv_H) (q0 : Nat) : Option (iv_H) := ((gR h 2 12 q0).bind fun v_931 => ((pV h 7 1 v_931 (.int (0 : Int32))).bind fun h_933 => ((gR h_933 2 13 q0).bind fun v_935 => ((pV h_933 7 1 v_935 (.int (0 : Int32))).bind fun h_937 => some h_937))))
set_option maxRecDepth 10000 in
set_option maxHeartbeats 4000000 in
theorem rX2_forgetPast {d N : Nat} (hd : 1 ≤ d) {h : iv_H} {q0 : Nat} {r : iv_H} {Q : Option Value → iv_H → Prop} (e : fX2_forgetPast N h q0 = some r) (hq : Q none r) : Cl d 53 [.ref q0] h Q := by
  obtain ⟨d, rfl⟩ : ∃ k, d = k + 1 := ⟨d - 1, by omega⟩
  have hd : 0 ≤ d := by omega
  have hT := hX2_forgetPast
  unfold fX2_forgetPast at e
  refine Cl.into (by decide) gX2_forgetPast rfl ?_
  show Rn d 53 none 0 [some (.ref q0)] [] h Q
  refine Rn.n hT 1 (pc' := 1) (L' := [some (.ref q0)]) (st' := [.ref q0]) rfl ?_
  obtain ⟨v_931, e_932, e⟩ := Option.bind_eq_some_iff.mp e
  refine Rn.hp hT rfl rfl (gR_hp e_932) ?_
  refine Rn.n hT 1 (pc' := 5) (L' := [some (.ref q0)]) (st' := [.int (0 : Int32), .ref v_931]) rfl ?_
  obtain ⟨h_933, e_934, e⟩ := Option.bind_eq_some_iff.mp e
  refine Rn.hp hT rfl rfl (pV_hp rfl e_934) ?_
  refine Rn.n hT 1 (pc' := 9) (L' := [some (.ref q0)]) (st' := [.ref q0]) rfl ?_
  obtain ⟨v_935, e_936, e⟩ := Option.bind_eq_some_iff.mp e
  refine Rn.hp hT rfl rfl (gR_hp e_936) ?_
  refine Rn.n hT 1 (pc' := 13) (L' := [some (.ref q0)]) (st' := [.int (0 : Int32), .ref v_935]) rfl ?_
  obtain ⟨h_937, e_938, e⟩ := Option.bind_eq_some_iff.mp e
  refine Rn.hp hT rfl rfl (pV_hp rfl e_938) ?_
  obtain rfl := Option.some.inj e
  exact Rn.ret hT rfl rfl rfl hq
set_option maxRecDepth 10000 in
theorem hX2_build : iv_Tb 44 tX2_build := iv_tb_of (m := mX2_build) rfl
set_option maxRecDepth 10000 in
theorem gX2_build : PG.2 44 = some mX2_build := iv_pi_of (t := tX2_build) rfl (by decide)
def fX2_build (N : Nat) (h : iv_H) (q0 : Nat) (x1 : Int32) (x2 : Int32) : Option (iv_H) := ((pV h 2 0 q0 (.int (1 : Int32))).bind fun h_939 => ((pV h_939 2 1 q0 (.int (7 : Int32))).bind fun h_941 => ((pV h_941 2 2 q0 (.int (0 : Int32))).bind fun h_943 => ((pV h_943 2 3 q0 (.int (0 : Int32))).bind fun h_945 => ((pV h_945 2 4 q0 (.int (0 : Int32))).bind fun h_947 => ((pV h_947 2 5 q0 (.int (-1 : Int32))).bind fun h_949 => ((pV h_949 2 6 q0 (.int (0 : Int32))).bind fun h_951 => ((pV h_951 2 8 q0 (.int (0 : Int32))).bind fun h_953 => ((gR h_953 2 9 q0).bind fun v_955 => ((cko h_953 v_955 1).bind fun _ => (fX1_layOut N h_953 v_955 x1 x2).bind fun h_960 => ((gR h_960 2 10 q0).bind fun v_961 => ((fJ7_fill_53178 N h_960 v_961 (-1 : Int32)).bind fun h_965 => ((cko h_965 q0 2).bind fun _ => (fX2_forgetPast N h_965 q0).bind fun h_969 => ((gR h_969 2 16 q0).bind fun v_970 => ((pV h_969 7 1 v_970 (.int (0 : Int32))).bind fun h_972 => ((gR h_972 2 17 q0).bind fun v_974 => ((pV h_972 7 1 v_974 (.int (0 : Int32))).bind fun h_976 => ((gR h_976 2 18 q0).bind fun v_978 => ((pV h_976 7 1 v_978 (.int (0 : Int32))).bind fun h_980 => some h_980)))))))))))))))))))
set_option maxRecDepth 10000 in
set_option maxHeartbeats 4000000 in
theorem rX2_build {d N : Nat} (hd : 4 ≤ d) {h : iv_H} {q0 : Nat} {x1 : Int32} {x2 : Int32} {r : iv_H} {Q : Option Value → iv_H → Prop} (e : fX2_build N h q0 x1 x2 = some r) (hq : Q none r) : Cl d 44 [.ref q0, .int x1, .int x2] h Q := by
  obtain ⟨d, rfl⟩ : ∃ k, d = k + 1 := ⟨d - 1, by omega⟩
  have hd : 3 ≤ d := by omega
  have hT := hX2_build
  unfold fX2_build at e
  refine Cl.into (by decide) gX2_build rfl ?_
  show Rn d 44 none 0 [some (.ref q0), some (.int x1), some (.int x2)] [] h Q
  refine Rn.n hT 2 (pc' := 2) (L' := [some (.ref q0), some (.int x1), some (.int x2)]) (st' := [.int (1 : Int32), .ref q0]) rfl ?_
  obtain ⟨h_939, e_940, e⟩ := Option.bind_eq_some_iff.mp e
  refine Rn.hp hT rfl rfl (pV_hp (by decide) e_940) ?_
  refine Rn.n hT 2 (pc' := 8) (L' := [some (.ref q0), some (.int x1), some (.int x2)]) (st' := [.int (7 : Int32), .ref q0]) rfl ?_
  obtain ⟨h_941, e_942, e⟩ := Option.bind_eq_some_iff.mp e
  refine Rn.hp hT rfl rfl (pV_hp rfl e_942) ?_
  refine Rn.n hT 2 (pc' := 13) (L' := [some (.ref q0), some (.int x1), some (.int x2)]) (st' := [.int (0 : Int32), .ref q0]) rfl ?_
  obtain ⟨h_943, e_944, e⟩ := Option.bind_eq_some_iff.mp e
  refine Rn.hp hT rfl rfl (pV_hp rfl e_944) ?_
  refine Rn.n hT 2 (pc' := 18) (L' := [some (.ref q0), some (.int x1), some (.int x2)]) (st' := [.int (0 : Int32), .ref q0]) rfl ?_
  obtain ⟨h_945, e_946, e⟩ := Option.bind_eq_some_iff.mp e
  refine Rn.hp hT rfl rfl (pV_hp rfl e_946) ?_
  refine Rn.n hT 2 (pc' := 23) (L' := [some (.ref q0), some (.int x1), some (.int x2)]) (st' := [.int (0 : Int32), .ref q0]) rfl ?_
  obtain ⟨h_947, e_948, e⟩ := Option.bind_eq_some_iff.mp e
  refine Rn.hp hT rfl rfl (pV_hp rfl e_948) ?_
  refine Rn.n hT 2 (pc' := 28) (L' := [some (.ref q0), some (.int x1), some (.int x2)]) (st' := [.int (-1 : Int32), .ref q0]) rfl ?_
  obtain ⟨h_949, e_950, e⟩ := Option.bind_eq_some_iff.mp e
  refine Rn.hp hT rfl rfl (pV_hp rfl e_950) ?_
  refine Rn.n hT 2 (pc' := 33) (L' := [some (.ref q0), some (.int x1), some (.int x2)]) (st' := [.int (0 : Int32), .ref q0]) rfl ?_
  obtain ⟨h_951, e_952, e⟩ := Option.bind_eq_some_iff.mp e
  refine Rn.hp hT rfl rfl (pV_hp rfl e_952) ?_
  refine Rn.n hT 2 (pc' := 38) (L' := [some (.ref q0), some (.int x1), some (.int x2)]) (st' := [.int (0 : Int32), .ref q0]) rfl ?_
  obtain ⟨h_953, e_954, e⟩ := Option.bind_eq_some_iff.mp e
  refine Rn.hp hT rfl rfl (pV_hp rfl e_954) ?_
  refine Rn.n hT 1 (pc' := 42) (L' := [some (.ref q0), some (.int x1), some (.int x2)]) (st' := [.ref q0]) rfl ?_
  obtain ⟨v_955, e_956, e⟩ := Option.bind_eq_some_iff.mp e
  refine Rn.hp hT rfl rfl (gR_hp e_956) ?_
  refine Rn.n hT 2 (pc' := 47) (L' := [some (.ref q0), some (.int x1), some (.int x2)]) (st' := [.int x2, .int x1, .ref v_955]) rfl ?_
  obtain ⟨_, e_958, e⟩ := Option.bind_eq_some_iff.mp e
  obtain ⟨h_960, e_957, e⟩ := Option.bind_eq_some_iff.mp e
  refine Rn.call hT rfl rfl rfl (Nat.le_of_ble_eq_true rfl) (rcv_v gX1_layOut (by omega) e_958) (rX1_layOut (by omega) e_957 ?_)
  show Rn d _ _ 50 [some (.ref q0), some (.int x1), some (.int x2)] [] h_960 Q
  refine Rn.n hT 1 (pc' := 51) (L' := [some (.ref q0), some (.int x1), some (.int x2)]) (st' := [.ref q0]) rfl ?_
  obtain ⟨v_961, e_962, e⟩ := Option.bind_eq_some_iff.mp e
  refine Rn.hp hT rfl rfl (gR_hp e_962) ?_
  refine Rn.n hT 1 (pc' := 55) (L' := [some (.ref q0), some (.int x1), some (.int x2)]) (st' := [.int (-1 : Int32), .ref v_961]) rfl ?_
  obtain ⟨h_965, e_963, e⟩ := Option.bind_eq_some_iff.mp e
  refine Rn.call hT rfl rfl rfl (Nat.le_of_ble_eq_true rfl) rfl (rJ7_fill_53178 (by omega) e_963 ?_)
  show Rn d _ _ 58 [some (.ref q0), some (.int x1), some (.int x2)] [] h_965 Q
  refine Rn.n hT 1 (pc' := 59) (L' := [some (.ref q0), some (.int x1), some (.int x2)]) (st' := [.ref q0]) rfl ?_
  obtain ⟨_, e_967, e⟩ := Option.bind_eq_some_iff.mp e
  obtain ⟨h_969, e_966, e⟩ := Option.bind_eq_some_iff.mp e
  refine Rn.call hT rfl rfl rfl (Nat.le_of_ble_eq_true rfl) (rcv_v gX2_forgetPast (by omega) e_967) (rX2_forgetPast (by omega) e_966 ?_)
  show Rn d _ _ 62 [some (.ref q0), some (.int x1), some (.int x2)] [] h_969 Q
  refine Rn.n hT 1 (pc' := 63) (L' := [some (.ref q0), some (.int x1), some (.int x2)]) (st' := [.ref q0]) rfl ?_
  obtain ⟨v_970, e_971, e⟩ := Option.bind_eq_some_iff.mp e
  refine Rn.hp hT rfl rfl (gR_hp e_971) ?_
  refine Rn.n hT 1 (pc' := 67) (L' := [some (.ref q0), some (.int x1), some (.int x2)]) (st' := [.int (0 : Int32), .ref v_970]) rfl ?_
  obtain ⟨h_972, e_973, e⟩ := Option.bind_eq_some_iff.mp e
  refine Rn.hp hT rfl rfl (pV_hp rfl e_973) ?_
  refine Rn.n hT 1 (pc' := 71) (L' := [some (.ref q0), some (.int x1), some (.int x2)]) (st' := [.ref q0]) rfl ?_
  obtain ⟨v_974, e_975, e⟩ := Option.bind_eq_some_iff.mp e
  refine Rn.hp hT rfl rfl (gR_hp e_975) ?_
  refine Rn.n hT 1 (pc' := 75) (L' := [some (.ref q0), some (.int x1), some (.int x2)]) (st' := [.int (0 : Int32), .ref v_974]) rfl ?_
  obtain ⟨h_976, e_977, e⟩ := Option.bind_eq_some_iff.mp e
  refine Rn.hp hT rfl rfl (pV_hp rfl e_977) ?_
  refine Rn.n hT 1 (pc' := 79) (L' := [some (.ref q0), some (.int x1), some (.int x2)]) (st' := [.ref q0]) rfl ?_
  obtain ⟨v_978, e_979, e⟩ := Option.bind_eq_some_iff.mp e
  refine Rn.hp hT rfl rfl (gR_hp e_979) ?_
  refine Rn.n hT 1 (pc' := 83) (L' := [some (.ref q0), some (.int x1), some (.int x2)]) (st' := [.int (0 : Int32), .ref v_978]) rfl ?_
  obtain ⟨h_980, e_981, e⟩ := Option.bind_eq_some_iff.mp e
  refine Rn.hp hT rfl rfl (pV_hp rfl e_981) ?_
  obtain rfl := Option.some.inj e
  exact Rn.ret hT rfl rfl rfl hq
set_option maxRecDepth 10000 in
theorem hX7_copyFrom : iv_Tb 98 tX7_copyFrom := iv_tb_of (m := mX7_copyFrom) rfl
set_option maxRecDepth 10000 in
theorem gX7_copyFrom : PG.2 98 = some mX7_copyFrom := iv_pi_of (t := tX7_copyFrom) rfl (by decide)
def fX7_copyFrom (N : Nat) (h : iv_H) (q0 : Nat) (q1 : Nat) : Option (iv_H) := ((gI h 7 1 q1).bind fun v_982 => ((gR h 7 0 q0).bind fun v_984 => ((aL h v_984).bind fun v_986 => ((pV h 7 1 q0 (.int (iv_mn v_982 v_986))).bind fun h_989 => ((gR h_989 7 0 q1).bind fun v_991 => ((gR h_989 7 0 q0).bind fun v_993 => ((gI h_989 7 1 q0).bind fun v_995 => ((cpA h_989 v_991 (0 : Int32) v_993 (0 : Int32) v_995).bind fun h_998 => some h_998))))))))
set_option maxRecDepth 10000 in
set_option maxHeartbeats 4000000 in
theorem rX7_copyFrom {d N : Nat} (hd : 1 ≤ d) {h : iv_H} {q0 : Nat} {q1 : Nat} {r : iv_H} {Q : Option Value → iv_H → Prop} (e : fX7_copyFrom N h q0 q1 = some r) (hq : Q none r) : Cl d 98 [.ref q0, .ref q1] h Q := by
  obtain ⟨d, rfl⟩ : ∃ k, d = k + 1 := ⟨d - 1, by omega⟩
  have hd : 0 ≤ d := by omega
  have hT := hX7_copyFrom
  unfold fX7_copyFrom at e
  refine Cl.into (by decide) gX7_copyFrom rfl ?_
  show Rn d 98 none 0 [some (.ref q0), some (.ref q1)] [] h Q
  refine Rn.n hT 2 (pc' := 2) (L' := [some (.ref q0), some (.ref q1)]) (st' := [.ref q1, .ref q0]) rfl ?_
  obtain ⟨v_982, e_983, e⟩ := Option.bind_eq_some_iff.mp e
  refine Rn.hp hT rfl rfl (gI_hp e_983) ?_
  refine Rn.n hT 1 (pc' := 6) (L' := [some (.ref q0), some (.ref q1)]) (st' := [.ref q0, .int v_982, .ref q0]) rfl ?_
  obtain ⟨v_984, e_985, e⟩ := Option.bind_eq_some_iff.mp e
  refine Rn.hp hT rfl rfl (gR_hp e_985) ?_
  obtain ⟨v_986, e_987, e⟩ := Option.bind_eq_some_iff.mp e
  refine Rn.hp hT rfl rfl (aL_hp e_987) ?_
  refine Rn.hp hT rfl rfl (mn_hp (Nat.le_of_ble_eq_true rfl)) ?_
  obtain ⟨h_989, e_990, e⟩ := Option.bind_eq_some_iff.mp e
  refine Rn.hp hT rfl rfl (pV_hp rfl e_990) ?_
  refine Rn.n hT 1 (pc' := 17) (L' := [some (.ref q0), some (.ref q1)]) (st' := [.ref q1]) rfl ?_
  obtain ⟨v_991, e_992, e⟩ := Option.bind_eq_some_iff.mp e
  refine Rn.hp hT rfl rfl (gR_hp e_992) ?_
  refine Rn.n hT 2 (pc' := 22) (L' := [some (.ref q0), some (.ref q1)]) (st' := [.ref q0, .int (0 : Int32), .ref v_991]) rfl ?_
  obtain ⟨v_993, e_994, e⟩ := Option.bind_eq_some_iff.mp e
  refine Rn.hp hT rfl rfl (gR_hp e_994) ?_
  refine Rn.n hT 2 (pc' := 27) (L' := [some (.ref q0), some (.ref q1)]) (st' := [.ref q0, .int (0 : Int32), .ref v_993, .int (0 : Int32), .ref v_991]) rfl ?_
  obtain ⟨v_995, e_996, e⟩ := Option.bind_eq_some_iff.mp e
  refine Rn.hp hT rfl rfl (gI_hp e_996) ?_
  obtain ⟨h_998, e_997, e⟩ := Option.bind_eq_some_iff.mp e
  refine Rn.hp hT rfl rfl (cpA_hp (Nat.le_of_ble_eq_true rfl) e_997) ?_
  obtain rfl := Option.some.inj e
  exact Rn.ret hT rfl rfl rfl hq
set_option maxRecDepth 10000 in
theorem hX2_copyFrom : iv_Tb 45 tX2_copyFrom := iv_tb_of (m := mX2_copyFrom) rfl
set_option maxRecDepth 10000 in
theorem gX2_copyFrom : PG.2 45 = some mX2_copyFrom := iv_pi_of (t := tX2_copyFrom) rfl (by decide)
def fX2_copyFrom (N : Nat) (h : iv_H) (q0 : Nat) (q1 : Nat) : Option (iv_H) := ((gI h 2 0 q1).bind fun v_999 => (if v_999 = 0 ∨ v_999 = 1 then ((pV h 2 0 q0 (.int v_999)).bind fun h_1001 => ((gI h_1001 2 1 q1).bind fun v_1003 => ((pV h_1001 2 1 q0 (.int v_1003)).bind fun h_1005 => ((gI h_1005 2 2 q1).bind fun v_1007 => ((pV h_1005 2 2 q0 (.int v_1007)).bind fun h_1009 => ((gI h_1009 2 3 q1).bind fun v_1011 => ((pV h_1009 2 3 q0 (.int v_1011)).bind fun h_1013 => ((gI h_1013 2 4 q1).bind fun v_1015 => ((pV h_1013 2 4 q0 (.int v_1015)).bind fun h_1017 => ((gI h_1017 2 5 q1).bind fun v_1019 => ((pV h_1017 2 5 q0 (.int v_1019)).bind fun h_1021 => ((gI h_1021 2 6 q1).bind fun v_1023 => ((pV h_1021 2 6 q0 (.int v_1023)).bind fun h_1025 => ((gI h_1025 2 7 q1).bind fun v_1027 => ((pV h_1025 2 7 q0 (.int v_1027)).bind fun h_1029 => ((gI h_1029 2 8 q1).bind fun v_1031 => ((pV h_1029 2 8 q0 (.int v_1031)).bind fun h_1033 => ((gR h_1033 2 9 q0).bind fun v_1035 => ((gR h_1033 2 9 q1).bind fun v_1037 => ((cko h_1033 v_1035 1).bind fun _ => (fX1_copyFrom N h_1033 v_1035 v_1037).bind fun h_1042 => ((gR h_1042 2 10 q1).bind fun v_1043 => ((gR h_1042 2 10 q0).bind fun v_1045 => ((gR h_1042 2 10 q0).bind fun v_1047 => ((aL h_1042 v_1047).bind fun v_1049 => ((cpA h_1042 v_1043 (0 : Int32) v_1045 (0 : Int32) v_1049).bind fun h_1052 => ((gR h_1052 2 11 q1).bind fun v_1053 => ((gR h_1052 2 11 q0).bind fun v_1055 => ((gR h_1052 2 11 q0).bind fun v_1057 => ((aL h_1052 v_1057).bind fun v_1059 => ((cpA h_1052 v_1053 (0 : Int32) v_1055 (0 : Int32) v_1059).bind fun h_1062 => ((gR h_1062 2 12 q0).bind fun v_1063 => ((gR h_1062 2 12 q1).bind fun v_1065 => ((cko h_1062 v_1063 7).bind fun _ => (fX7_copyFrom N h_1062 v_1063 v_1065).bind fun h_1070 => ((gR h_1070 2 13 q0).bind fun v_1071 => ((gR h_1070 2 13 q1).bind fun v_1073 => ((cko h_1070 v_1071 7).bind fun _ => (fX7_copyFrom N h_1070 v_1071 v_1073).bind fun h_1078 => ((gR h_1078 2 14 q1).bind fun v_1079 => ((gR h_1078 2 14 q0).bind fun v_1081 => ((gR h_1078 2 14 q0).bind fun v_1083 => ((aL h_1078 v_1083).bind fun v_1085 => ((cpA h_1078 v_1079 (0 : Int32) v_1081 (0 : Int32) v_1085).bind fun h_1088 => ((gR h_1088 2 15 q1).bind fun v_1089 => ((gR h_1088 2 15 q0).bind fun v_1091 => ((gR h_1088 2 15 q0).bind fun v_1093 => ((aL h_1088 v_1093).bind fun v_1095 => ((cpA h_1088 v_1089 (0 : Int32) v_1091 (0 : Int32) v_1095).bind fun h_1098 => ((gR h_1098 2 16 q0).bind fun v_1099 => ((gR h_1098 2 16 q1).bind fun v_1101 => ((cko h_1098 v_1099 7).bind fun _ => (fX7_copyFrom N h_1098 v_1099 v_1101).bind fun h_1106 => ((gR h_1106 2 17 q0).bind fun v_1107 => ((gR h_1106 2 17 q1).bind fun v_1109 => ((cko h_1106 v_1107 7).bind fun _ => (fX7_copyFrom N h_1106 v_1107 v_1109).bind fun h_1114 => ((gR h_1114 2 18 q0).bind fun v_1115 => ((gR h_1114 2 18 q1).bind fun v_1117 => ((cko h_1114 v_1115 7).bind fun _ => (fX7_copyFrom N h_1114 v_1115 v_1117).bind fun h_1122 => some h_1122))))))))))))))))))))))))))))))))))))))))))))))))))))))) else none))
set_option maxRecDepth 10000 in
set_option maxHeartbeats 4000000 in
theorem rX2_copyFrom {d N : Nat} (hd : 5 ≤ d) {h : iv_H} {q0 : Nat} {q1 : Nat} {r : iv_H} {Q : Option Value → iv_H → Prop} (e : fX2_copyFrom N h q0 q1 = some r) (hq : Q none r) : Cl d 45 [.ref q0, .ref q1] h Q := by
  obtain ⟨d, rfl⟩ : ∃ k, d = k + 1 := ⟨d - 1, by omega⟩
  have hd : 4 ≤ d := by omega
  have hT := hX2_copyFrom
  unfold fX2_copyFrom at e
  refine Cl.into (by decide) gX2_copyFrom rfl ?_
  show Rn d 45 none 0 [some (.ref q0), some (.ref q1)] [] h Q
  refine Rn.n hT 2 (pc' := 2) (L' := [some (.ref q0), some (.ref q1)]) (st' := [.ref q1, .ref q0]) rfl ?_
  obtain ⟨v_999, e_1000, e⟩ := Option.bind_eq_some_iff.mp e
  refine Rn.hp hT rfl rfl (gI_hp e_1000) ?_
  by_cases c_1123 : v_999 = 0 ∨ v_999 = 1
  · rw [if_pos c_1123] at e
    obtain ⟨h_1001, e_1002, e⟩ := Option.bind_eq_some_iff.mp e
    refine Rn.hp hT rfl rfl (pV_hp (ft_bl c_1123) e_1002) ?_
    refine Rn.n hT 2 (pc' := 10) (L' := [some (.ref q0), some (.ref q1)]) (st' := [.ref q1, .ref q0]) rfl ?_
    obtain ⟨v_1003, e_1004, e⟩ := Option.bind_eq_some_iff.mp e
    refine Rn.hp hT rfl rfl (gI_hp e_1004) ?_
    obtain ⟨h_1005, e_1006, e⟩ := Option.bind_eq_some_iff.mp e
    refine Rn.hp hT rfl rfl (pV_hp rfl e_1006) ?_
    refine Rn.n hT 2 (pc' := 18) (L' := [some (.ref q0), some (.ref q1)]) (st' := [.ref q1, .ref q0]) rfl ?_
    obtain ⟨v_1007, e_1008, e⟩ := Option.bind_eq_some_iff.mp e
    refine Rn.hp hT rfl rfl (gI_hp e_1008) ?_
    obtain ⟨h_1009, e_1010, e⟩ := Option.bind_eq_some_iff.mp e
    refine Rn.hp hT rfl rfl (pV_hp rfl e_1010) ?_
    refine Rn.n hT 2 (pc' := 26) (L' := [some (.ref q0), some (.ref q1)]) (st' := [.ref q1, .ref q0]) rfl ?_
    obtain ⟨v_1011, e_1012, e⟩ := Option.bind_eq_some_iff.mp e
    refine Rn.hp hT rfl rfl (gI_hp e_1012) ?_
    obtain ⟨h_1013, e_1014, e⟩ := Option.bind_eq_some_iff.mp e
    refine Rn.hp hT rfl rfl (pV_hp rfl e_1014) ?_
    refine Rn.n hT 2 (pc' := 34) (L' := [some (.ref q0), some (.ref q1)]) (st' := [.ref q1, .ref q0]) rfl ?_
    obtain ⟨v_1015, e_1016, e⟩ := Option.bind_eq_some_iff.mp e
    refine Rn.hp hT rfl rfl (gI_hp e_1016) ?_
    obtain ⟨h_1017, e_1018, e⟩ := Option.bind_eq_some_iff.mp e
    refine Rn.hp hT rfl rfl (pV_hp rfl e_1018) ?_
    refine Rn.n hT 2 (pc' := 42) (L' := [some (.ref q0), some (.ref q1)]) (st' := [.ref q1, .ref q0]) rfl ?_
    obtain ⟨v_1019, e_1020, e⟩ := Option.bind_eq_some_iff.mp e
    refine Rn.hp hT rfl rfl (gI_hp e_1020) ?_
    obtain ⟨h_1021, e_1022, e⟩ := Option.bind_eq_some_iff.mp e
    refine Rn.hp hT rfl rfl (pV_hp rfl e_1022) ?_
    refine Rn.n hT 2 (pc' := 50) (L' := [some (.ref q0), some (.ref q1)]) (st' := [.ref q1, .ref q0]) rfl ?_
    obtain ⟨v_1023, e_1024, e⟩ := Option.bind_eq_some_iff.mp e
    refine Rn.hp hT rfl rfl (gI_hp e_1024) ?_
    obtain ⟨h_1025, e_1026, e⟩ := Option.bind_eq_some_iff.mp e
    refine Rn.hp hT rfl rfl (pV_hp rfl e_1026) ?_
    refine Rn.n hT 2 (pc' := 58) (L' := [some (.ref q0), some (.ref q1)]) (st' := [.ref q1, .ref q0]) rfl ?_
    obtain ⟨v_1027, e_1028, e⟩ := Option.bind_eq_some_iff.mp e
    refine Rn.hp hT rfl rfl (gI_hp e_1028) ?_
    obtain ⟨h_1029, e_1030, e⟩ := Option.bind_eq_some_iff.mp e
    refine Rn.hp hT rfl rfl (pV_hp rfl e_1030) ?_
    refine Rn.n hT 2 (pc' := 66) (L' := [some (.ref q0), some (.ref q1)]) (st' := [.ref q1, .ref q0]) rfl ?_
    obtain ⟨v_1031, e_1032, e⟩ := Option.bind_eq_some_iff.mp e
    refine Rn.hp hT rfl rfl (gI_hp e_1032) ?_
    obtain ⟨h_1033, e_1034, e⟩ := Option.bind_eq_some_iff.mp e
    refine Rn.hp hT rfl rfl (pV_hp rfl e_1034) ?_
    refine Rn.n hT 1 (pc' := 73) (L' := [some (.ref q0), some (.ref q1)]) (st' := [.ref q0]) rfl ?_
    obtain ⟨v_1035, e_1036, e⟩ := Option.bind_eq_some_iff.mp e
    refine Rn.hp hT rfl rfl (gR_hp e_1036) ?_
    refine Rn.n hT 1 (pc' := 77) (L' := [some (.ref q0), some (.ref q1)]) (st' := [.ref q1, .ref v_1035]) rfl ?_
    obtain ⟨v_1037, e_1038, e⟩ := Option.bind_eq_some_iff.mp e
    refine Rn.hp hT rfl rfl (gR_hp e_1038) ?_
    obtain ⟨_, e_1040, e⟩ := Option.bind_eq_some_iff.mp e
    obtain ⟨h_1042, e_1039, e⟩ := Option.bind_eq_some_iff.mp e
    refine Rn.call hT rfl rfl rfl (Nat.le_of_ble_eq_true rfl) (rcv_v gX1_copyFrom (by omega) e_1040) (rX1_copyFrom (by omega) e_1039 ?_)
    show Rn d _ _ 83 [some (.ref q0), some (.ref q1)] [] h_1042 Q
    refine Rn.n hT 1 (pc' := 84) (L' := [some (.ref q0), some (.ref q1)]) (st' := [.ref q1]) rfl ?_
    obtain ⟨v_1043, e_1044, e⟩ := Option.bind_eq_some_iff.mp e
    refine Rn.hp hT rfl rfl (gR_hp e_1044) ?_
    refine Rn.n hT 2 (pc' := 89) (L' := [some (.ref q0), some (.ref q1)]) (st' := [.ref q0, .int (0 : Int32), .ref v_1043]) rfl ?_
    obtain ⟨v_1045, e_1046, e⟩ := Option.bind_eq_some_iff.mp e
    refine Rn.hp hT rfl rfl (gR_hp e_1046) ?_
    refine Rn.n hT 2 (pc' := 94) (L' := [some (.ref q0), some (.ref q1)]) (st' := [.ref q0, .int (0 : Int32), .ref v_1045, .int (0 : Int32), .ref v_1043]) rfl ?_
    obtain ⟨v_1047, e_1048, e⟩ := Option.bind_eq_some_iff.mp e
    refine Rn.hp hT rfl rfl (gR_hp e_1048) ?_
    obtain ⟨v_1049, e_1050, e⟩ := Option.bind_eq_some_iff.mp e
    refine Rn.hp hT rfl rfl (aL_hp e_1050) ?_
    obtain ⟨h_1052, e_1051, e⟩ := Option.bind_eq_some_iff.mp e
    refine Rn.hp hT rfl rfl (cpA_hp (Nat.le_of_ble_eq_true rfl) e_1051) ?_
    refine Rn.n hT 1 (pc' := 102) (L' := [some (.ref q0), some (.ref q1)]) (st' := [.ref q1]) rfl ?_
    obtain ⟨v_1053, e_1054, e⟩ := Option.bind_eq_some_iff.mp e
    refine Rn.hp hT rfl rfl (gR_hp e_1054) ?_
    refine Rn.n hT 2 (pc' := 107) (L' := [some (.ref q0), some (.ref q1)]) (st' := [.ref q0, .int (0 : Int32), .ref v_1053]) rfl ?_
    obtain ⟨v_1055, e_1056, e⟩ := Option.bind_eq_some_iff.mp e
    refine Rn.hp hT rfl rfl (gR_hp e_1056) ?_
    refine Rn.n hT 2 (pc' := 112) (L' := [some (.ref q0), some (.ref q1)]) (st' := [.ref q0, .int (0 : Int32), .ref v_1055, .int (0 : Int32), .ref v_1053]) rfl ?_
    obtain ⟨v_1057, e_1058, e⟩ := Option.bind_eq_some_iff.mp e
    refine Rn.hp hT rfl rfl (gR_hp e_1058) ?_
    obtain ⟨v_1059, e_1060, e⟩ := Option.bind_eq_some_iff.mp e
    refine Rn.hp hT rfl rfl (aL_hp e_1060) ?_
    obtain ⟨h_1062, e_1061, e⟩ := Option.bind_eq_some_iff.mp e
    refine Rn.hp hT rfl rfl (cpA_hp (Nat.le_of_ble_eq_true rfl) e_1061) ?_
    refine Rn.n hT 1 (pc' := 120) (L' := [some (.ref q0), some (.ref q1)]) (st' := [.ref q0]) rfl ?_
    obtain ⟨v_1063, e_1064, e⟩ := Option.bind_eq_some_iff.mp e
    refine Rn.hp hT rfl rfl (gR_hp e_1064) ?_
    refine Rn.n hT 1 (pc' := 124) (L' := [some (.ref q0), some (.ref q1)]) (st' := [.ref q1, .ref v_1063]) rfl ?_
    obtain ⟨v_1065, e_1066, e⟩ := Option.bind_eq_some_iff.mp e
    refine Rn.hp hT rfl rfl (gR_hp e_1066) ?_
    obtain ⟨_, e_1068, e⟩ := Option.bind_eq_some_iff.mp e
    obtain ⟨h_1070, e_1067, e⟩ := Option.bind_eq_some_iff.mp e
    refine Rn.call hT rfl rfl rfl (Nat.le_of_ble_eq_true rfl) (rcv_v gX7_copyFrom (by omega) e_1068) (rX7_copyFrom (by omega) e_1067 ?_)
    show Rn d _ _ 130 [some (.ref q0), some (.ref q1)] [] h_1070 Q
    refine Rn.n hT 1 (pc' := 131) (L' := [some (.ref q0), some (.ref q1)]) (st' := [.ref q0]) rfl ?_
    obtain ⟨v_1071, e_1072, e⟩ := Option.bind_eq_some_iff.mp e
    refine Rn.hp hT rfl rfl (gR_hp e_1072) ?_
    refine Rn.n hT 1 (pc' := 135) (L' := [some (.ref q0), some (.ref q1)]) (st' := [.ref q1, .ref v_1071]) rfl ?_
    obtain ⟨v_1073, e_1074, e⟩ := Option.bind_eq_some_iff.mp e
    refine Rn.hp hT rfl rfl (gR_hp e_1074) ?_
    obtain ⟨_, e_1076, e⟩ := Option.bind_eq_some_iff.mp e
    obtain ⟨h_1078, e_1075, e⟩ := Option.bind_eq_some_iff.mp e
    refine Rn.call hT rfl rfl rfl (Nat.le_of_ble_eq_true rfl) (rcv_v gX7_copyFrom (by omega) e_1076) (rX7_copyFrom (by omega) e_1075 ?_)
    show Rn d _ _ 141 [some (.ref q0), some (.ref q1)] [] h_1078 Q
    refine Rn.n hT 1 (pc' := 142) (L' := [some (.ref q0), some (.ref q1)]) (st' := [.ref q1]) rfl ?_
    obtain ⟨v_1079, e_1080, e⟩ := Option.bind_eq_some_iff.mp e
    refine Rn.hp hT rfl rfl (gR_hp e_1080) ?_
    refine Rn.n hT 2 (pc' := 147) (L' := [some (.ref q0), some (.ref q1)]) (st' := [.ref q0, .int (0 : Int32), .ref v_1079]) rfl ?_
    obtain ⟨v_1081, e_1082, e⟩ := Option.bind_eq_some_iff.mp e
    refine Rn.hp hT rfl rfl (gR_hp e_1082) ?_
    refine Rn.n hT 2 (pc' := 152) (L' := [some (.ref q0), some (.ref q1)]) (st' := [.ref q0, .int (0 : Int32), .ref v_1081, .int (0 : Int32), .ref v_1079]) rfl ?_
    obtain ⟨v_1083, e_1084, e⟩ := Option.bind_eq_some_iff.mp e
    refine Rn.hp hT rfl rfl (gR_hp e_1084) ?_
    obtain ⟨v_1085, e_1086, e⟩ := Option.bind_eq_some_iff.mp e
    refine Rn.hp hT rfl rfl (aL_hp e_1086) ?_
    obtain ⟨h_1088, e_1087, e⟩ := Option.bind_eq_some_iff.mp e
    refine Rn.hp hT rfl rfl (cpA_hp (Nat.le_of_ble_eq_true rfl) e_1087) ?_
    refine Rn.n hT 1 (pc' := 160) (L' := [some (.ref q0), some (.ref q1)]) (st' := [.ref q1]) rfl ?_
    obtain ⟨v_1089, e_1090, e⟩ := Option.bind_eq_some_iff.mp e
    refine Rn.hp hT rfl rfl (gR_hp e_1090) ?_
    refine Rn.n hT 2 (pc' := 165) (L' := [some (.ref q0), some (.ref q1)]) (st' := [.ref q0, .int (0 : Int32), .ref v_1089]) rfl ?_
    obtain ⟨v_1091, e_1092, e⟩ := Option.bind_eq_some_iff.mp e
    refine Rn.hp hT rfl rfl (gR_hp e_1092) ?_
    refine Rn.n hT 2 (pc' := 170) (L' := [some (.ref q0), some (.ref q1)]) (st' := [.ref q0, .int (0 : Int32), .ref v_1091, .int (0 : Int32), .ref v_1089]) rfl ?_
    obtain ⟨v_1093, e_1094, e⟩ := Option.bind_eq_some_iff.mp e
    refine Rn.hp hT rfl rfl (gR_hp e_1094) ?_
    obtain ⟨v_1095, e_1096, e⟩ := Option.bind_eq_some_iff.mp e
    refine Rn.hp hT rfl rfl (aL_hp e_1096) ?_
    obtain ⟨h_1098, e_1097, e⟩ := Option.bind_eq_some_iff.mp e
    refine Rn.hp hT rfl rfl (cpA_hp (Nat.le_of_ble_eq_true rfl) e_1097) ?_
    refine Rn.n hT 1 (pc' := 178) (L' := [some (.ref q0), some (.ref q1)]) (st' := [.ref q0]) rfl ?_
    obtain ⟨v_1099, e_1100, e⟩ := Option.bind_eq_some_iff.mp e
    refine Rn.hp hT rfl rfl (gR_hp e_1100) ?_
    refine Rn.n hT 1 (pc' := 182) (L' := [some (.ref q0), some (.ref q1)]) (st' := [.ref q1, .ref v_1099]) rfl ?_
    obtain ⟨v_1101, e_1102, e⟩ := Option.bind_eq_some_iff.mp e
    refine Rn.hp hT rfl rfl (gR_hp e_1102) ?_
    obtain ⟨_, e_1104, e⟩ := Option.bind_eq_some_iff.mp e
    obtain ⟨h_1106, e_1103, e⟩ := Option.bind_eq_some_iff.mp e
    refine Rn.call hT rfl rfl rfl (Nat.le_of_ble_eq_true rfl) (rcv_v gX7_copyFrom (by omega) e_1104) (rX7_copyFrom (by omega) e_1103 ?_)
    show Rn d _ _ 188 [some (.ref q0), some (.ref q1)] [] h_1106 Q
    refine Rn.n hT 1 (pc' := 189) (L' := [some (.ref q0), some (.ref q1)]) (st' := [.ref q0]) rfl ?_
    obtain ⟨v_1107, e_1108, e⟩ := Option.bind_eq_some_iff.mp e
    refine Rn.hp hT rfl rfl (gR_hp e_1108) ?_
    refine Rn.n hT 1 (pc' := 193) (L' := [some (.ref q0), some (.ref q1)]) (st' := [.ref q1, .ref v_1107]) rfl ?_
    obtain ⟨v_1109, e_1110, e⟩ := Option.bind_eq_some_iff.mp e
    refine Rn.hp hT rfl rfl (gR_hp e_1110) ?_
    obtain ⟨_, e_1112, e⟩ := Option.bind_eq_some_iff.mp e
    obtain ⟨h_1114, e_1111, e⟩ := Option.bind_eq_some_iff.mp e
    refine Rn.call hT rfl rfl rfl (Nat.le_of_ble_eq_true rfl) (rcv_v gX7_copyFrom (by omega) e_1112) (rX7_copyFrom (by omega) e_1111 ?_)
    show Rn d _ _ 199 [some (.ref q0), some (.ref q1)] [] h_1114 Q
    refine Rn.n hT 1 (pc' := 200) (L' := [some (.ref q0), some (.ref q1)]) (st' := [.ref q0]) rfl ?_
    obtain ⟨v_1115, e_1116, e⟩ := Option.bind_eq_some_iff.mp e
    refine Rn.hp hT rfl rfl (gR_hp e_1116) ?_
    refine Rn.n hT 1 (pc' := 204) (L' := [some (.ref q0), some (.ref q1)]) (st' := [.ref q1, .ref v_1115]) rfl ?_
    obtain ⟨v_1117, e_1118, e⟩ := Option.bind_eq_some_iff.mp e
    refine Rn.hp hT rfl rfl (gR_hp e_1118) ?_
    obtain ⟨_, e_1120, e⟩ := Option.bind_eq_some_iff.mp e
    obtain ⟨h_1122, e_1119, e⟩ := Option.bind_eq_some_iff.mp e
    refine Rn.call hT rfl rfl rfl (Nat.le_of_ble_eq_true rfl) (rcv_v gX7_copyFrom (by omega) e_1120) (rX7_copyFrom (by omega) e_1119 ?_)
    show Rn d _ _ 210 [some (.ref q0), some (.ref q1)] [] h_1122 Q
    obtain rfl := Option.some.inj e
    exact Rn.ret hT rfl rfl rfl hq
  · rw [if_neg c_1123] at e
    cases e
set_option maxRecDepth 10000 in
theorem hX2_isRoom : iv_Tb 46 tX2_isRoom := iv_tb_of (m := mX2_isRoom) rfl
set_option maxRecDepth 10000 in
theorem gX2_isRoom : PG.2 46 = some mX2_isRoom := iv_pi_of (t := tX2_isRoom) rfl (by decide)
def fX2_isRoom_b20 (N : Nat) (h : iv_H)  (s0 : Int32) : Option (Int32) := (if s0 = 0 ∨ s0 = 1 then some s0 else none)
set_option maxRecDepth 10000 in
set_option maxHeartbeats 4000000 in
theorem rX2_isRoom_b20 {d N : Nat} (hd : 0 ≤ d) {h : iv_H}  {s0 : Int32} {r : Int32} {Q : Option Value → iv_H → Prop} (hq : Q (some (.int r)) h) (e : fX2_isRoom_b20 N h  s0 = some r) : Rn d 46 (some .boolean) 20 [none, none] [.int s0] h Q := by
  have hT := hX2_isRoom
  unfold fX2_isRoom_b20 at e
  by_cases c_1130 : s0 = 0 ∨ s0 = 1
  · rw [if_pos c_1130] at e
    obtain rfl := Option.some.inj e
    exact Rn.ret hT rfl rfl (if_pos c_1130) hq
  · rw [if_neg c_1130] at e
    cases e
def fX2_isRoom_b19 (N : Nat) (h : iv_H)   : Option (Int32) := (fX2_isRoom_b20 N h (0 : Int32))
set_option maxRecDepth 10000 in
set_option maxHeartbeats 4000000 in
theorem rX2_isRoom_b19 {d N : Nat} (hd : 0 ≤ d) {h : iv_H}   {r : Int32} {Q : Option Value → iv_H → Prop} (hq : Q (some (.int r)) h) (e : fX2_isRoom_b19 N h   = some r) : Rn d 46 (some .boolean) 19 [none, none] [] h Q := by
  have hT := hX2_isRoom
  unfold fX2_isRoom_b19 at e
  refine Rn.n hT 1 (pc' := 20) (L' := [none, none]) (st' := [.int (0 : Int32)]) rfl ?_
  exact Rn.weak (ll_n (ll_n ll_e)) (rX2_isRoom_b20 hd hq e)
def fX2_isRoom (N : Nat) (h : iv_H) (q0 : Nat) (x1 : Int32) : Option (Int32) := (if x1 < 0 then (fX2_isRoom_b19 N h) else ((gR h 2 9 q0).bind fun v_1125 => ((gI h 1 2 v_1125).bind fun v_1127 => (if v_1127 ≤ x1 then (fX2_isRoom_b19 N h) else (fX2_isRoom_b20 N h (1 : Int32))))))
set_option maxRecDepth 10000 in
set_option maxHeartbeats 4000000 in
theorem rX2_isRoom {d N : Nat} (hd : 1 ≤ d) {h : iv_H} {q0 : Nat} {x1 : Int32} {r : Int32} {Q : Option Value → iv_H → Prop} (e : fX2_isRoom N h q0 x1 = some r) (hq : Q (some (.int r)) h) : Cl d 46 [.ref q0, .int x1] h Q := by
  obtain ⟨d, rfl⟩ : ∃ k, d = k + 1 := ⟨d - 1, by omega⟩
  have hd : 0 ≤ d := by omega
  have hT := hX2_isRoom
  unfold fX2_isRoom at e
  refine Cl.into (by decide) gX2_isRoom rfl ?_
  show Rn d 46 (some .boolean) 0 [some (.ref q0), some (.int x1)] [] h Q
  refine Rn.n hT 1 (pc' := 1) (L' := [some (.ref q0), some (.int x1)]) (st' := [.int x1]) rfl ?_
  by_cases c_1124 : x1 < 0
  · rw [if_pos c_1124] at e
    refine Rn.bt hT rfl rfl rfl (decide_eq_true c_1124) ?_
    exact Rn.weak (ll_n (ll_n ll_e)) (rX2_isRoom_b19 hd hq e)
  · rw [if_neg c_1124] at e
    refine Rn.bf hT rfl rfl rfl (decide_eq_false c_1124) ?_
    refine Rn.n hT 2 (pc' := 6) (L' := [some (.ref q0), some (.int x1)]) (st' := [.ref q0, .int x1]) rfl ?_
    obtain ⟨v_1125, e_1126, e⟩ := Option.bind_eq_some_iff.mp e
    refine Rn.hp hT rfl rfl (gR_hp e_1126) ?_
    obtain ⟨v_1127, e_1128, e⟩ := Option.bind_eq_some_iff.mp e
    refine Rn.hp hT rfl rfl (gI_hp e_1128) ?_
    by_cases c_1129 : v_1127 ≤ x1
    · rw [if_pos c_1129] at e
      refine Rn.bt hT rfl rfl rfl (decide_eq_true c_1129) ?_
      exact Rn.weak (ll_n (ll_n ll_e)) (rX2_isRoom_b19 hd hq e)
    · rw [if_neg c_1129] at e
      refine Rn.bf hT rfl rfl rfl (decide_eq_false c_1129) ?_
      refine Rn.n hT 2 (pc' := 20) (L' := [some (.ref q0), some (.int x1)]) (st' := [.int (1 : Int32)]) rfl ?_
      exact Rn.weak (ll_n (ll_n ll_e)) (rX2_isRoom_b20 hd hq e)
set_option maxRecDepth 10000 in
theorem hX2_isPerson : iv_Tb 47 tX2_isPerson := iv_tb_of (m := mX2_isPerson) rfl
set_option maxRecDepth 10000 in
theorem gX2_isPerson : PG.2 47 = some mX2_isPerson := iv_pi_of (t := tX2_isPerson) rfl (by decide)
def fX2_isPerson_b17 (N : Nat) (h : iv_H)  (s0 : Int32) : Option (Int32) := (if s0 = 0 ∨ s0 = 1 then some s0 else none)
set_option maxRecDepth 10000 in
set_option maxHeartbeats 4000000 in
theorem rX2_isPerson_b17 {d N : Nat} (hd : 0 ≤ d) {h : iv_H}  {s0 : Int32} {r : Int32} {Q : Option Value → iv_H → Prop} (hq : Q (some (.int r)) h) (e : fX2_isPerson_b17 N h  s0 = some r) : Rn d 47 (some .boolean) 17 [none, none] [.int s0] h Q := by
  have hT := hX2_isPerson
  unfold fX2_isPerson_b17 at e
  by_cases c_1135 : s0 = 0 ∨ s0 = 1
  · rw [if_pos c_1135] at e
    obtain rfl := Option.some.inj e
    exact Rn.ret hT rfl rfl (if_pos c_1135) hq
  · rw [if_neg c_1135] at e
    cases e
def fX2_isPerson_b16 (N : Nat) (h : iv_H)   : Option (Int32) := (fX2_isPerson_b17 N h (0 : Int32))
set_option maxRecDepth 10000 in
set_option maxHeartbeats 4000000 in
theorem rX2_isPerson_b16 {d N : Nat} (hd : 0 ≤ d) {h : iv_H}   {r : Int32} {Q : Option Value → iv_H → Prop} (hq : Q (some (.int r)) h) (e : fX2_isPerson_b16 N h   = some r) : Rn d 47 (some .boolean) 16 [none, none] [] h Q := by
  have hT := hX2_isPerson
  unfold fX2_isPerson_b16 at e
  refine Rn.n hT 1 (pc' := 17) (L' := [none, none]) (st' := [.int (0 : Int32)]) rfl ?_
  exact Rn.weak (ll_n (ll_n ll_e)) (rX2_isPerson_b17 hd hq e)
def fX2_isPerson (N : Nat) (h : iv_H) (q0 : Nat) (x1 : Int32) : Option (Int32) := (if x1 < 0 then (fX2_isPerson_b16 N h) else ((gI h 2 2 q0).bind fun v_1132 => (if v_1132 ≤ x1 then (fX2_isPerson_b16 N h) else (fX2_isPerson_b17 N h (1 : Int32)))))
set_option maxRecDepth 10000 in
set_option maxHeartbeats 4000000 in
theorem rX2_isPerson {d N : Nat} (hd : 1 ≤ d) {h : iv_H} {q0 : Nat} {x1 : Int32} {r : Int32} {Q : Option Value → iv_H → Prop} (e : fX2_isPerson N h q0 x1 = some r) (hq : Q (some (.int r)) h) : Cl d 47 [.ref q0, .int x1] h Q := by
  obtain ⟨d, rfl⟩ : ∃ k, d = k + 1 := ⟨d - 1, by omega⟩
  have hd : 0 ≤ d := by omega
  have hT := hX2_isPerson
  unfold fX2_isPerson at e
  refine Cl.into (by decide) gX2_isPerson rfl ?_
  show Rn d 47 (some .boolean) 0 [some (.ref q0), some (.int x1)] [] h Q
  refine Rn.n hT 1 (pc' := 1) (L' := [some (.ref q0), some (.int x1)]) (st' := [.int x1]) rfl ?_
  by_cases c_1131 : x1 < 0
  · rw [if_pos c_1131] at e
    refine Rn.bt hT rfl rfl rfl (decide_eq_true c_1131) ?_
    exact Rn.weak (ll_n (ll_n ll_e)) (rX2_isPerson_b16 hd hq e)
  · rw [if_neg c_1131] at e
    refine Rn.bf hT rfl rfl rfl (decide_eq_false c_1131) ?_
    refine Rn.n hT 2 (pc' := 6) (L' := [some (.ref q0), some (.int x1)]) (st' := [.ref q0, .int x1]) rfl ?_
    obtain ⟨v_1132, e_1133, e⟩ := Option.bind_eq_some_iff.mp e
    refine Rn.hp hT rfl rfl (gI_hp e_1133) ?_
    by_cases c_1134 : v_1132 ≤ x1
    · rw [if_pos c_1134] at e
      refine Rn.bt hT rfl rfl rfl (decide_eq_true c_1134) ?_
      exact Rn.weak (ll_n (ll_n ll_e)) (rX2_isPerson_b16 hd hq e)
    · rw [if_neg c_1134] at e
      refine Rn.bf hT rfl rfl rfl (decide_eq_false c_1134) ?_
      refine Rn.n hT 2 (pc' := 17) (L' := [some (.ref q0), some (.int x1)]) (st' := [.int (1 : Int32)]) rfl ?_
      exact Rn.weak (ll_n (ll_n ll_e)) (rX2_isPerson_b17 hd hq e)
set_option maxRecDepth 10000 in
theorem hX2_isFixed : iv_Tb 48 tX2_isFixed := iv_tb_of (m := mX2_isFixed) rfl
set_option maxRecDepth 10000 in
theorem gX2_isFixed : PG.2 48 = some mX2_isFixed := iv_pi_of (t := tX2_isFixed) rfl (by decide)
def fX2_isFixed_b17 (N : Nat) (h : iv_H)  (s0 : Int32) : Option (Int32) := (if s0 = 0 ∨ s0 = 1 then some s0 else none)
set_option maxRecDepth 10000 in
set_option maxHeartbeats 4000000 in
theorem rX2_isFixed_b17 {d N : Nat} (hd : 0 ≤ d) {h : iv_H}  {s0 : Int32} {r : Int32} {Q : Option Value → iv_H → Prop} (hq : Q (some (.int r)) h) (e : fX2_isFixed_b17 N h  s0 = some r) : Rn d 48 (some .boolean) 17 [none, none] [.int s0] h Q := by
  have hT := hX2_isFixed
  unfold fX2_isFixed_b17 at e
  by_cases c_1139 : s0 = 0 ∨ s0 = 1
  · rw [if_pos c_1139] at e
    obtain rfl := Option.some.inj e
    exact Rn.ret hT rfl rfl (if_pos c_1139) hq
  · rw [if_neg c_1139] at e
    cases e
def fX2_isFixed (N : Nat) (h : iv_H) (q0 : Nat) (x1 : Int32) : Option (Int32) := ((gI h 2 3 q0).bind fun v_1136 => (if ((v_1136 >>> (x1 &&& 31)) &&& (1 : Int32)) = (1 : Int32) then (fX2_isFixed_b17 N h (1 : Int32)) else (fX2_isFixed_b17 N h (0 : Int32))))
set_option maxRecDepth 10000 in
set_option maxHeartbeats 4000000 in
theorem rX2_isFixed {d N : Nat} (hd : 1 ≤ d) {h : iv_H} {q0 : Nat} {x1 : Int32} {r : Int32} {Q : Option Value → iv_H → Prop} (e : fX2_isFixed N h q0 x1 = some r) (hq : Q (some (.int r)) h) : Cl d 48 [.ref q0, .int x1] h Q := by
  obtain ⟨d, rfl⟩ : ∃ k, d = k + 1 := ⟨d - 1, by omega⟩
  have hd : 0 ≤ d := by omega
  have hT := hX2_isFixed
  unfold fX2_isFixed at e
  refine Cl.into (by decide) gX2_isFixed rfl ?_
  show Rn d 48 (some .boolean) 0 [some (.ref q0), some (.int x1)] [] h Q
  refine Rn.n hT 1 (pc' := 1) (L' := [some (.ref q0), some (.int x1)]) (st' := [.ref q0]) rfl ?_
  obtain ⟨v_1136, e_1137, e⟩ := Option.bind_eq_some_iff.mp e
  refine Rn.hp hT rfl rfl (gI_hp e_1137) ?_
  refine Rn.n hT 5 (pc' := 9) (L' := [some (.ref q0), some (.int x1)]) (st' := [.int (1 : Int32), .int ((v_1136 >>> (x1 &&& 31)) &&& (1 : Int32))]) rfl ?_
  by_cases c_1138 : ((v_1136 >>> (x1 &&& 31)) &&& (1 : Int32)) = (1 : Int32)
  · rw [if_pos c_1138] at e
    refine Rn.bf hT rfl rfl rfl (decide_eq_false (fun z => z c_1138)) ?_
    refine Rn.n hT 2 (pc' := 17) (L' := [some (.ref q0), some (.int x1)]) (st' := [.int (1 : Int32)]) rfl ?_
    exact Rn.weak (ll_n (ll_n ll_e)) (rX2_isFixed_b17 hd hq e)
  · rw [if_neg c_1138] at e
    refine Rn.bt hT rfl rfl rfl (decide_eq_true c_1138) ?_
    refine Rn.n hT 1 (pc' := 17) (L' := [some (.ref q0), some (.int x1)]) (st' := [.int (0 : Int32)]) rfl ?_
    exact Rn.weak (ll_n (ll_n ll_e)) (rX2_isFixed_b17 hd hq e)
set_option maxRecDepth 10000 in
theorem hX2_sleepersIn : iv_Tb 50 tX2_sleepersIn := iv_tb_of (m := mX2_sleepersIn) rfl
set_option maxRecDepth 10000 in
theorem gX2_sleepersIn : PG.2 50 = some mX2_sleepersIn := iv_pi_of (t := tX2_sleepersIn) rfl (by decide)
def fX2_sleepersIn_b30 (N : Nat) (h : iv_H) (q0 : Nat) (x1 : Int32) (x3 : Int32) (s0 : Int32) (s1 : Int32) (kb : Int32 → Int32 → Option (Int32)) (kx : Int32 → Option (Int32)) : Option (Int32) := (kb (s1 ||| s0) (x3 + (1 : Int32)))
set_option maxRecDepth 10000 in
set_option maxHeartbeats 4000000 in
theorem rX2_sleepersIn_b30 {d N : Nat} (hd : 0 ≤ d) {h : iv_H} {q0 : Nat} {x1 : Int32} {x3 : Int32} {s0 : Int32} {s1 : Int32} {kb : Int32 → Int32 → Option (Int32)} {kx : Int32 → Option (Int32)} {r : Int32} {Q : Option Value → iv_H → Prop} (hb : ∀ (w2 : Int32) (w3 : Int32), kb w2 w3 = some r → Rn d 50 (some .int) 4 [some (.ref q0), some (.int x1), some (.int w2), some (.int w3)] [] h Q) (hk : ∀ (w2 : Int32), kx w2 = some r → Rn d 50 (some .int) 38 [none, none, some (.int w2), none] [] h Q) (hq : Q (some (.int r)) h) (e : fX2_sleepersIn_b30 N h q0 x1 x3 s0 s1 kb kx = some r) : Rn d 50 (some .int) 30 [some (.ref q0), some (.int x1), none, some (.int x3)] [.int s0, .int s1] h Q := by
  have hT := hX2_sleepersIn
  unfold fX2_sleepersIn_b30 at e
  refine Rn.n hT 4 (pc' := 4) (L' := [some (.ref q0), some (.int x1), some (.int (s1 ||| s0)), some (.int (x3 + (1 : Int32)))]) (st' := []) rfl ?_
  exact Rn.weak (ll_s (ll_s (ll_s (ll_s ll_e)))) (hb (s1 ||| s0) (x3 + (1 : Int32)) e)
def fX2_sleepersIn_l4 (N : Nat) (h : iv_H) (q0 : Nat) (x1 : Int32) (kx : Int32 → Option (Int32)) : Nat → Int32 → Int32 → Option (Int32)
  | 0, _, _ => none
  | n + 1, x2, x3 => ((gI h 2 2 q0).bind fun v_1141 => (if v_1141 ≤ x3 then (kx x2) else ((gR h 2 11 q0).bind fun v_1144 => ((aI h v_1144 x3).bind fun v_1146 => (if v_1146 = x1 then (fX2_sleepersIn_b30 N h q0 x1 x3 ((1 : Int32) <<< (x3 &&& 31)) x2 (fX2_sleepersIn_l4 N h q0 x1 kx n) kx) else (fX2_sleepersIn_b30 N h q0 x1 x3 (0 : Int32) x2 (fX2_sleepersIn_l4 N h q0 x1 kx n) kx))))))
set_option maxRecDepth 10000 in
set_option maxHeartbeats 4000000 in
theorem rX2_sleepersIn_l4 {d N : Nat} (hd : 0 ≤ d) {h : iv_H} {q0 : Nat} {x1 : Int32} {kx : Int32 → Option (Int32)} {r : Int32} {Q : Option Value → iv_H → Prop} (hk : ∀ (x2 : Int32), kx x2 = some r → Rn d 50 (some .int) 38 [none, none, some (.int x2), none] [] h Q) (hq : Q (some (.int r)) h) : ∀ (n : Nat) (x2 : Int32) (x3 : Int32), fX2_sleepersIn_l4 N h q0 x1 kx n x2 x3 = some r → Rn d 50 (some .int) 4 [some (.ref q0), some (.int x1), some (.int x2), some (.int x3)] [] h Q := by
  have hT := hX2_sleepersIn
  intro n
  induction n with
  | zero =>
    intro x2 x3 e
    rw [fX2_sleepersIn_l4] at e
    cases e
  | succ n ih =>
    intro x2 x3 e
    rw [fX2_sleepersIn_l4] at e
    refine Rn.n hT 2 (pc' := 6) (L' := [some (.ref q0), some (.int x1), some (.int x2), some (.int x3)]) (st' := [.ref q0, .int x3]) rfl ?_
    obtain ⟨v_1141, e_1142, e⟩ := Option.bind_eq_some_iff.mp e
    refine Rn.hp hT rfl rfl (gI_hp e_1142) ?_
    by_cases c_1143 : v_1141 ≤ x3
    · rw [if_pos c_1143] at e
      refine Rn.bt hT rfl rfl rfl (decide_eq_true c_1143) ?_
      exact Rn.weak (ll_n (ll_n (ll_s (ll_n ll_e)))) (hk x2 e)
    · rw [if_neg c_1143] at e
      refine Rn.bf hT rfl rfl rfl (decide_eq_false c_1143) ?_
      refine Rn.n hT 2 (pc' := 14) (L' := [some (.ref q0), some (.int x1), some (.int x2), some (.int x3)]) (st' := [.ref q0, .int x2]) rfl ?_
      obtain ⟨v_1144, e_1145, e⟩ := Option.bind_eq_some_iff.mp e
      refine Rn.hp hT rfl rfl (gR_hp e_1145) ?_
      refine Rn.n hT 1 (pc' := 18) (L' := [some (.ref q0), some (.int x1), some (.int x2), some (.int x3)]) (st' := [.int x3, .ref v_1144, .int x2]) rfl ?_
      obtain ⟨v_1146, e_1147, e⟩ := Option.bind_eq_some_iff.mp e
      refine Rn.hp hT rfl rfl (aI_hp e_1147) ?_
      refine Rn.n hT 1 (pc' := 20) (L' := [some (.ref q0), some (.int x1), some (.int x2), some (.int x3)]) (st' := [.int x1, .int v_1146, .int x2]) rfl ?_
      by_cases c_1148 : v_1146 = x1
      · rw [if_pos c_1148] at e
        refine Rn.bf hT rfl rfl rfl (decide_eq_false (fun z => z c_1148)) ?_
        refine Rn.n hT 4 (pc' := 30) (L' := [some (.ref q0), some (.int x1), some (.int x2), some (.int x3)]) (st' := [.int ((1 : Int32) <<< (x3 &&& 31)), .int x2]) rfl ?_
        exact Rn.weak (ll_s (ll_s (ll_n (ll_s ll_e)))) (rX2_sleepersIn_b30 hd ih hk hq e)
      · rw [if_neg c_1148] at e
        refine Rn.bt hT rfl rfl rfl (decide_eq_true c_1148) ?_
        refine Rn.n hT 1 (pc' := 30) (L' := [some (.ref q0), some (.int x1), some (.int x2), some (.int x3)]) (st' := [.int (0 : Int32), .int x2]) rfl ?_
        exact Rn.weak (ll_s (ll_s (ll_n (ll_s ll_e)))) (rX2_sleepersIn_b30 hd ih hk hq e)
def fX2_sleepersIn (N : Nat) (h : iv_H) (q0 : Nat) (x1 : Int32) : Option (Int32) := (fX2_sleepersIn_l4 N h q0 x1 (fun (z_1140 : Int32) => (some z_1140)) N (0 : Int32) (0 : Int32))
set_option maxRecDepth 10000 in
set_option maxHeartbeats 4000000 in
theorem rX2_sleepersIn {d N : Nat} (hd : 1 ≤ d) {h : iv_H} {q0 : Nat} {x1 : Int32} {r : Int32} {Q : Option Value → iv_H → Prop} (e : fX2_sleepersIn N h q0 x1 = some r) (hq : Q (some (.int r)) h) : Cl d 50 [.ref q0, .int x1] h Q := by
  obtain ⟨d, rfl⟩ : ∃ k, d = k + 1 := ⟨d - 1, by omega⟩
  have hd : 0 ≤ d := by omega
  have hT := hX2_sleepersIn
  unfold fX2_sleepersIn at e
  refine Cl.into (by decide) gX2_sleepersIn rfl ?_
  show Rn d 50 (some .int) 0 [some (.ref q0), some (.int x1), none, none] [] h Q
  refine Rn.n hT 4 (pc' := 4) (L' := [some (.ref q0), some (.int x1), some (.int (0 : Int32)), some (.int (0 : Int32))]) (st' := []) rfl ?_
  refine Rn.weak (ll_s (ll_s (ll_s (ll_s ll_e)))) (rX2_sleepersIn_l4 hd (fun z_1140 e => ?_) hq N (0 : Int32) (0 : Int32) e)
  try dsimp only at e
  refine Rn.n hT 1 (pc' := 39) (L' := [none, none, some (.int z_1140), none]) (st' := [.int z_1140]) rfl ?_
  obtain rfl := Option.some.inj e
  exact Rn.ret hT rfl rfl rfl hq
set_option maxRecDepth 10000 in
theorem hX2_walkOf : iv_Tb 51 tX2_walkOf := iv_tb_of (m := mX2_walkOf) rfl
set_option maxRecDepth 10000 in
theorem gX2_walkOf : PG.2 51 = some mX2_walkOf := iv_pi_of (t := tX2_walkOf) rfl (by decide)
def fX2_walkOf_b18 (N : Nat) (h : iv_H)   : Option (Int32) := (some (-1 : Int32))
set_option maxRecDepth 10000 in
set_option maxHeartbeats 4000000 in
theorem rX2_walkOf_b18 {d N : Nat} (hd : 1 ≤ d) {h : iv_H}   {r : Int32} {Q : Option Value → iv_H → Prop} (hq : Q (some (.int r)) h) (e : fX2_walkOf_b18 N h   = some r) : Rn d 51 (some .int) 18 [none, none, none, none, none] [] h Q := by
  have hT := hX2_walkOf
  unfold fX2_walkOf_b18 at e
  refine Rn.n hT 1 (pc' := 19) (L' := [none, none, none, none, none]) (st' := [.int (-1 : Int32)]) rfl ?_
  obtain rfl := Option.some.inj e
  exact Rn.ret hT rfl rfl rfl hq
def fX2_walkOf_b43 (N : Nat) (h : iv_H)   : Option (Int32) := (some (-1 : Int32))
set_option maxRecDepth 10000 in
set_option maxHeartbeats 4000000 in
theorem rX2_walkOf_b43 {d N : Nat} (hd : 1 ≤ d) {h : iv_H}   {r : Int32} {Q : Option Value → iv_H → Prop} (hq : Q (some (.int r)) h) (e : fX2_walkOf_b43 N h   = some r) : Rn d 51 (some .int) 43 [none, none, none, none, none] [] h Q := by
  have hT := hX2_walkOf
  unfold fX2_walkOf_b43 at e
  refine Rn.n hT 1 (pc' := 44) (L' := [none, none, none, none, none]) (st' := [.int (-1 : Int32)]) rfl ?_
  obtain rfl := Option.some.inj e
  exact Rn.ret hT rfl rfl rfl hq
def fX2_walkOf_b63 (N : Nat) (h : iv_H)   : Option (Int32) := (some (-1 : Int32))
set_option maxRecDepth 10000 in
set_option maxHeartbeats 4000000 in
theorem rX2_walkOf_b63 {d N : Nat} (hd : 1 ≤ d) {h : iv_H}   {r : Int32} {Q : Option Value → iv_H → Prop} (hq : Q (some (.int r)) h) (e : fX2_walkOf_b63 N h   = some r) : Rn d 51 (some .int) 63 [none, none, none, none, none] [] h Q := by
  have hT := hX2_walkOf
  unfold fX2_walkOf_b63 at e
  refine Rn.n hT 1 (pc' := 64) (L' := [none, none, none, none, none]) (st' := [.int (-1 : Int32)]) rfl ?_
  obtain rfl := Option.some.inj e
  exact Rn.ret hT rfl rfl rfl hq
def fX2_walkOf_b109 (N : Nat) (h : iv_H)  (s0 : Int32) (s1 : Int32) : Option (Int32) := (some (s1 ||| s0))
set_option maxRecDepth 10000 in
set_option maxHeartbeats 4000000 in
theorem rX2_walkOf_b109 {d N : Nat} (hd : 1 ≤ d) {h : iv_H}  {s0 : Int32} {s1 : Int32} {r : Int32} {Q : Option Value → iv_H → Prop} (hq : Q (some (.int r)) h) (e : fX2_walkOf_b109 N h  s0 s1 = some r) : Rn d 51 (some .int) 109 [none, none, none, none, none] [.int s0, .int s1] h Q := by
  have hT := hX2_walkOf
  unfold fX2_walkOf_b109 at e
  refine Rn.n hT 1 (pc' := 110) (L' := [none, none, none, none, none]) (st' := [.int (s1 ||| s0)]) rfl ?_
  obtain rfl := Option.some.inj e
  exact Rn.ret hT rfl rfl rfl hq
def fX2_walkOf_b96 (N : Nat) (h : iv_H) (x2 : Int32) (x3 : Int32) (x4 : Int32) (s0 : Int32) (s1 : Int32) : Option (Int32) := (if x4 = 0 then (fX2_walkOf_b109 N h x3 (s1 ||| (s0 <<< ((4 : Int32) &&& 31)))) else (fX2_walkOf_b109 N h x2 (s1 ||| (s0 <<< ((4 : Int32) &&& 31)))))
set_option maxRecDepth 10000 in
set_option maxHeartbeats 4000000 in
theorem rX2_walkOf_b96 {d N : Nat} (hd : 1 ≤ d) {h : iv_H} {x2 : Int32} {x3 : Int32} {x4 : Int32} {s0 : Int32} {s1 : Int32} {r : Int32} {Q : Option Value → iv_H → Prop} (hq : Q (some (.int r)) h) (e : fX2_walkOf_b96 N h x2 x3 x4 s0 s1 = some r) : Rn d 51 (some .int) 96 [none, none, some (.int x2), some (.int x3), some (.int x4)] [.int s0, .int s1] h Q := by
  have hT := hX2_walkOf
  unfold fX2_walkOf_b96 at e
  refine Rn.n hT 4 (pc' := 101) (L' := [none, none, some (.int x2), some (.int x3), some (.int x4)]) (st' := [.int x4, .int (s1 ||| (s0 <<< ((4 : Int32) &&& 31)))]) rfl ?_
  by_cases c_1169 : x4 = 0
  · rw [if_pos c_1169] at e
    refine Rn.bt hT rfl rfl rfl (decide_eq_true c_1169) ?_
    refine Rn.n hT 1 (pc' := 109) (L' := [none, none, some (.int x2), some (.int x3), some (.int x4)]) (st' := [.int x3, .int (s1 ||| (s0 <<< ((4 : Int32) &&& 31)))]) rfl ?_
    exact Rn.weak (ll_n (ll_n (ll_n (ll_n (ll_n ll_e))))) (rX2_walkOf_b109 hd hq e)
  · rw [if_neg c_1169] at e
    refine Rn.bf hT rfl rfl rfl (decide_eq_false c_1169) ?_
    refine Rn.n hT 2 (pc' := 109) (L' := [none, none, some (.int x2), some (.int x3), some (.int x4)]) (st' := [.int x2, .int (s1 ||| (s0 <<< ((4 : Int32) &&& 31)))]) rfl ?_
    exact Rn.weak (ll_n (ll_n (ll_n (ll_n (ll_n ll_e))))) (rX2_walkOf_b109 hd hq e)
def fX2_walkOf_b80 (N : Nat) (h : iv_H) (x1 : Int32) (x2 : Int32) (x3 : Int32) (s0 : Int32) : Option (Int32) := (if s0 = 0 then (fX2_walkOf_b96 N h x2 x3 s0 x2 (x1 <<< ((8 : Int32) &&& 31))) else (fX2_walkOf_b96 N h x2 x3 s0 x3 (x1 <<< ((8 : Int32) &&& 31))))
set_option maxRecDepth 10000 in
set_option maxHeartbeats 4000000 in
theorem rX2_walkOf_b80 {d N : Nat} (hd : 1 ≤ d) {h : iv_H} {x1 : Int32} {x2 : Int32} {x3 : Int32} {s0 : Int32} {r : Int32} {Q : Option Value → iv_H → Prop} (hq : Q (some (.int r)) h) (e : fX2_walkOf_b80 N h x1 x2 x3 s0 = some r) : Rn d 51 (some .int) 80 [none, some (.int x1), some (.int x2), some (.int x3), none] [.int s0] h Q := by
  have hT := hX2_walkOf
  unfold fX2_walkOf_b80 at e
  refine Rn.n hT 5 (pc' := 88) (L' := [none, some (.int x1), some (.int x2), some (.int x3), some (.int s0)]) (st' := [.int s0, .int (x1 <<< ((8 : Int32) &&& 31))]) rfl ?_
  by_cases c_1168 : s0 = 0
  · rw [if_pos c_1168] at e
    refine Rn.bt hT rfl rfl rfl (decide_eq_true c_1168) ?_
    refine Rn.n hT 1 (pc' := 96) (L' := [none, some (.int x1), some (.int x2), some (.int x3), some (.int s0)]) (st' := [.int x2, .int (x1 <<< ((8 : Int32) &&& 31))]) rfl ?_
    exact Rn.weak (ll_n (ll_n (ll_s (ll_s (ll_s ll_e))))) (rX2_walkOf_b96 hd hq e)
  · rw [if_neg c_1168] at e
    refine Rn.bf hT rfl rfl rfl (decide_eq_false c_1168) ?_
    refine Rn.n hT 2 (pc' := 96) (L' := [none, some (.int x1), some (.int x2), some (.int x3), some (.int s0)]) (st' := [.int x3, .int (x1 <<< ((8 : Int32) &&& 31))]) rfl ?_
    exact Rn.weak (ll_n (ll_n (ll_s (ll_s (ll_s ll_e))))) (rX2_walkOf_b96 hd hq e)
def fX2_walkOf_b79 (N : Nat) (h : iv_H) (x1 : Int32) (x2 : Int32) (x3 : Int32)  : Option (Int32) := (fX2_walkOf_b80 N h x1 x2 x3 (0 : Int32))
set_option maxRecDepth 10000 in
set_option maxHeartbeats 4000000 in
theorem rX2_walkOf_b79 {d N : Nat} (hd : 1 ≤ d) {h : iv_H} {x1 : Int32} {x2 : Int32} {x3 : Int32}  {r : Int32} {Q : Option Value → iv_H → Prop} (hq : Q (some (.int r)) h) (e : fX2_walkOf_b79 N h x1 x2 x3  = some r) : Rn d 51 (some .int) 79 [none, some (.int x1), some (.int x2), some (.int x3), none] [] h Q := by
  have hT := hX2_walkOf
  unfold fX2_walkOf_b79 at e
  refine Rn.n hT 1 (pc' := 80) (L' := [none, some (.int x1), some (.int x2), some (.int x3), none]) (st' := [.int (0 : Int32)]) rfl ?_
  exact Rn.weak (ll_n (ll_s (ll_s (ll_s (ll_n ll_e))))) (rX2_walkOf_b80 hd hq e)
def fX2_walkOf_b65 (N : Nat) (h : iv_H) (x1 : Int32) (x2 : Int32) (x3 : Int32)  : Option (Int32) := (if x1 = (2 : Int32) then (if x2 ≤ x3 then (fX2_walkOf_b79 N h x1 x2 x3) else (fX2_walkOf_b80 N h x1 x2 x3 (1 : Int32))) else (fX2_walkOf_b79 N h x1 x2 x3))
set_option maxRecDepth 10000 in
set_option maxHeartbeats 4000000 in
theorem rX2_walkOf_b65 {d N : Nat} (hd : 1 ≤ d) {h : iv_H} {x1 : Int32} {x2 : Int32} {x3 : Int32}  {r : Int32} {Q : Option Value → iv_H → Prop} (hq : Q (some (.int r)) h) (e : fX2_walkOf_b65 N h x1 x2 x3  = some r) : Rn d 51 (some .int) 65 [none, some (.int x1), some (.int x2), some (.int x3), none] [] h Q := by
  have hT := hX2_walkOf
  unfold fX2_walkOf_b65 at e
  refine Rn.n hT 2 (pc' := 67) (L' := [none, some (.int x1), some (.int x2), some (.int x3), none]) (st' := [.int (2 : Int32), .int x1]) rfl ?_
  by_cases c_1166 : x1 = (2 : Int32)
  · rw [if_pos c_1166] at e
    refine Rn.bf hT rfl rfl rfl (decide_eq_false (fun z => z c_1166)) ?_
    refine Rn.n hT 2 (pc' := 72) (L' := [none, some (.int x1), some (.int x2), some (.int x3), none]) (st' := [.int x2, .int x3]) rfl ?_
    by_cases c_1167 : x2 ≤ x3
    · rw [if_pos c_1167] at e
      refine Rn.bt hT rfl rfl rfl (decide_eq_true c_1167) ?_
      exact Rn.weak (ll_n (ll_s (ll_s (ll_s (ll_n ll_e))))) (rX2_walkOf_b79 hd hq e)
    · rw [if_neg c_1167] at e
      refine Rn.bf hT rfl rfl rfl (decide_eq_false c_1167) ?_
      refine Rn.n hT 2 (pc' := 80) (L' := [none, some (.int x1), some (.int x2), some (.int x3), none]) (st' := [.int (1 : Int32)]) rfl ?_
      exact Rn.weak (ll_n (ll_s (ll_s (ll_s (ll_n ll_e))))) (rX2_walkOf_b80 hd hq e)
  · rw [if_neg c_1166] at e
    refine Rn.bt hT rfl rfl rfl (decide_eq_true c_1166) ?_
    exact Rn.weak (ll_n (ll_s (ll_s (ll_s (ll_n ll_e))))) (rX2_walkOf_b79 hd hq e)
def fX2_walkOf_b45 (N : Nat) (h : iv_H) (q0 : Nat) (x1 : Int32) (x2 : Int32) (x3 : Int32)  : Option (Int32) := (if x1 = (2 : Int32) then ((cko h q0 2).bind fun _ => (fX2_isRoom N h q0 x3).bind fun v_1163 => (if v_1163 = 0 then (fX2_walkOf_b63 N h) else (if x3 = x2 then (fX2_walkOf_b63 N h) else (fX2_walkOf_b65 N h x1 x2 x3)))) else (fX2_walkOf_b65 N h x1 x2 x3))
set_option maxRecDepth 10000 in
set_option maxHeartbeats 4000000 in
theorem rX2_walkOf_b45 {d N : Nat} (hd : 1 ≤ d) {h : iv_H} {q0 : Nat} {x1 : Int32} {x2 : Int32} {x3 : Int32}  {r : Int32} {Q : Option Value → iv_H → Prop} (hq : Q (some (.int r)) h) (e : fX2_walkOf_b45 N h q0 x1 x2 x3  = some r) : Rn d 51 (some .int) 45 [some (.ref q0), some (.int x1), some (.int x2), some (.int x3), none] [] h Q := by
  have hT := hX2_walkOf
  unfold fX2_walkOf_b45 at e
  refine Rn.n hT 2 (pc' := 47) (L' := [some (.ref q0), some (.int x1), some (.int x2), some (.int x3), none]) (st' := [.int (2 : Int32), .int x1]) rfl ?_
  by_cases c_1160 : x1 = (2 : Int32)
  · rw [if_pos c_1160] at e
    refine Rn.bf hT rfl rfl rfl (decide_eq_false (fun z => z c_1160)) ?_
    refine Rn.n hT 2 (pc' := 52) (L' := [some (.ref q0), some (.int x1), some (.int x2), some (.int x3), none]) (st' := [.int x3, .ref q0]) rfl ?_
    obtain ⟨_, e_1162, e⟩ := Option.bind_eq_some_iff.mp e
    obtain ⟨v_1163, e_1161, e⟩ := Option.bind_eq_some_iff.mp e
    refine Rn.call hT rfl rfl rfl (Nat.le_of_ble_eq_true rfl) (rcv_v gX2_isRoom (by omega) e_1162) (rX2_isRoom (by omega) e_1161 ?_)
    show Rn d _ _ 55 [some (.ref q0), some (.int x1), some (.int x2), some (.int x3), none] [.int v_1163] h Q
    by_cases c_1164 : v_1163 = 0
    · rw [if_pos c_1164] at e
      refine Rn.bt hT rfl rfl rfl (decide_eq_true c_1164) ?_
      exact Rn.weak (ll_n (ll_n (ll_n (ll_n (ll_n ll_e))))) (rX2_walkOf_b63 hd hq e)
    · rw [if_neg c_1164] at e
      refine Rn.bf hT rfl rfl rfl (decide_eq_false c_1164) ?_
      refine Rn.n hT 2 (pc' := 60) (L' := [some (.ref q0), some (.int x1), some (.int x2), some (.int x3), none]) (st' := [.int x2, .int x3]) rfl ?_
      by_cases c_1165 : x3 = x2
      · rw [if_pos c_1165] at e
        refine Rn.bf hT rfl rfl rfl (decide_eq_false (fun z => z c_1165)) ?_
        exact Rn.weak (ll_n (ll_n (ll_n (ll_n (ll_n ll_e))))) (rX2_walkOf_b63 hd hq e)
      · rw [if_neg c_1165] at e
        refine Rn.bt hT rfl rfl rfl (decide_eq_true c_1165) ?_
        exact Rn.weak (ll_n (ll_s (ll_s (ll_s (ll_n ll_e))))) (rX2_walkOf_b65 hd hq e)
  · rw [if_neg c_1160] at e
    refine Rn.bt hT rfl rfl rfl (decide_eq_true c_1160) ?_
    exact Rn.weak (ll_n (ll_s (ll_s (ll_s (ll_n ll_e))))) (rX2_walkOf_b65 hd hq e)
def fX2_walkOf_b34 (N : Nat) (h : iv_H) (q0 : Nat) (x1 : Int32) (x2 : Int32) (x3 : Int32)  : Option (Int32) := (if x1 = (3 : Int32) then (if x3 = 0 then (fX2_walkOf_b45 N h q0 x1 x2 x3) else (fX2_walkOf_b43 N h)) else (fX2_walkOf_b45 N h q0 x1 x2 x3))
set_option maxRecDepth 10000 in
set_option maxHeartbeats 4000000 in
theorem rX2_walkOf_b34 {d N : Nat} (hd : 1 ≤ d) {h : iv_H} {q0 : Nat} {x1 : Int32} {x2 : Int32} {x3 : Int32}  {r : Int32} {Q : Option Value → iv_H → Prop} (hq : Q (some (.int r)) h) (e : fX2_walkOf_b34 N h q0 x1 x2 x3  = some r) : Rn d 51 (some .int) 34 [some (.ref q0), some (.int x1), some (.int x2), some (.int x3), none] [] h Q := by
  have hT := hX2_walkOf
  unfold fX2_walkOf_b34 at e
  refine Rn.n hT 2 (pc' := 36) (L' := [some (.ref q0), some (.int x1), some (.int x2), some (.int x3), none]) (st' := [.int (3 : Int32), .int x1]) rfl ?_
  by_cases c_1158 : x1 = (3 : Int32)
  · rw [if_pos c_1158] at e
    refine Rn.bf hT rfl rfl rfl (decide_eq_false (fun z => z c_1158)) ?_
    refine Rn.n hT 1 (pc' := 40) (L' := [some (.ref q0), some (.int x1), some (.int x2), some (.int x3), none]) (st' := [.int x3]) rfl ?_
    by_cases c_1159 : x3 = 0
    · rw [if_pos c_1159] at e
      refine Rn.bt hT rfl rfl rfl (decide_eq_true c_1159) ?_
      exact Rn.weak (ll_s (ll_s (ll_s (ll_s (ll_n ll_e))))) (rX2_walkOf_b45 hd hq e)
    · rw [if_neg c_1159] at e
      refine Rn.bf hT rfl rfl rfl (decide_eq_false c_1159) ?_
      exact Rn.weak (ll_n (ll_n (ll_n (ll_n (ll_n ll_e))))) (rX2_walkOf_b43 hd hq e)
  · rw [if_neg c_1158] at e
    refine Rn.bt hT rfl rfl rfl (decide_eq_true c_1158) ?_
    exact Rn.weak (ll_s (ll_s (ll_s (ll_s (ll_n ll_e))))) (rX2_walkOf_b45 hd hq e)
def fX2_walkOf (N : Nat) (h : iv_H) (q0 : Nat) (x1 : Int32) (x2 : Int32) (x3 : Int32) : Option (Int32) := (if x1 < (1 : Int32) then (fX2_walkOf_b18 N h) else (if (3 : Int32) < x1 then (fX2_walkOf_b18 N h) else ((cko h q0 2).bind fun _ => (fX2_isRoom N h q0 x2).bind fun v_1153 => (if v_1153 = 0 then (fX2_walkOf_b18 N h) else (if x1 = (1 : Int32) then (if x3 < 0 then (fX2_walkOf_b43 N h) else (if (4 : Int32) ≤ x3 then (fX2_walkOf_b43 N h) else (fX2_walkOf_b34 N h q0 x1 x2 x3))) else (fX2_walkOf_b34 N h q0 x1 x2 x3))))))
set_option maxRecDepth 10000 in
set_option maxHeartbeats 4000000 in
theorem rX2_walkOf {d N : Nat} (hd : 2 ≤ d) {h : iv_H} {q0 : Nat} {x1 : Int32} {x2 : Int32} {x3 : Int32} {r : Int32} {Q : Option Value → iv_H → Prop} (e : fX2_walkOf N h q0 x1 x2 x3 = some r) (hq : Q (some (.int r)) h) : Cl d 51 [.ref q0, .int x1, .int x2, .int x3] h Q := by
  obtain ⟨d, rfl⟩ : ∃ k, d = k + 1 := ⟨d - 1, by omega⟩
  have hd : 1 ≤ d := by omega
  have hT := hX2_walkOf
  unfold fX2_walkOf at e
  refine Cl.into (by decide) gX2_walkOf rfl ?_
  show Rn d 51 (some .int) 0 [some (.ref q0), some (.int x1), some (.int x2), some (.int x3), none] [] h Q
  refine Rn.n hT 2 (pc' := 2) (L' := [some (.ref q0), some (.int x1), some (.int x2), some (.int x3), none]) (st' := [.int (1 : Int32), .int x1]) rfl ?_
  by_cases c_1149 : x1 < (1 : Int32)
  · rw [if_pos c_1149] at e
    refine Rn.bt hT rfl rfl rfl (decide_eq_true c_1149) ?_
    exact Rn.weak (ll_n (ll_n (ll_n (ll_n (ll_n ll_e))))) (rX2_walkOf_b18 hd hq e)
  · rw [if_neg c_1149] at e
    refine Rn.bf hT rfl rfl rfl (decide_eq_false c_1149) ?_
    refine Rn.n hT 2 (pc' := 7) (L' := [some (.ref q0), some (.int x1), some (.int x2), some (.int x3), none]) (st' := [.int (3 : Int32), .int x1]) rfl ?_
    by_cases c_1150 : (3 : Int32) < x1
    · rw [if_pos c_1150] at e
      refine Rn.bt hT rfl rfl rfl (decide_eq_true c_1150) ?_
      exact Rn.weak (ll_n (ll_n (ll_n (ll_n (ll_n ll_e))))) (rX2_walkOf_b18 hd hq e)
    · rw [if_neg c_1150] at e
      refine Rn.bf hT rfl rfl rfl (decide_eq_false c_1150) ?_
      refine Rn.n hT 2 (pc' := 12) (L' := [some (.ref q0), some (.int x1), some (.int x2), some (.int x3), none]) (st' := [.int x2, .ref q0]) rfl ?_
      obtain ⟨_, e_1152, e⟩ := Option.bind_eq_some_iff.mp e
      obtain ⟨v_1153, e_1151, e⟩ := Option.bind_eq_some_iff.mp e
      refine Rn.call hT rfl rfl rfl (Nat.le_of_ble_eq_true rfl) (rcv_v gX2_isRoom (by omega) e_1152) (rX2_isRoom (by omega) e_1151 ?_)
      show Rn d _ _ 15 [some (.ref q0), some (.int x1), some (.int x2), some (.int x3), none] [.int v_1153] h Q
      by_cases c_1154 : v_1153 = 0
      · rw [if_pos c_1154] at e
        refine Rn.bf hT rfl rfl rfl (decide_eq_false (fun z => z c_1154)) ?_
        exact Rn.weak (ll_n (ll_n (ll_n (ll_n (ll_n ll_e))))) (rX2_walkOf_b18 hd hq e)
      · rw [if_neg c_1154] at e
        refine Rn.bt hT rfl rfl rfl (decide_eq_true c_1154) ?_
        refine Rn.n hT 2 (pc' := 22) (L' := [some (.ref q0), some (.int x1), some (.int x2), some (.int x3), none]) (st' := [.int (1 : Int32), .int x1]) rfl ?_
        by_cases c_1155 : x1 = (1 : Int32)
        · rw [if_pos c_1155] at e
          refine Rn.bf hT rfl rfl rfl (decide_eq_false (fun z => z c_1155)) ?_
          refine Rn.n hT 1 (pc' := 26) (L' := [some (.ref q0), some (.int x1), some (.int x2), some (.int x3), none]) (st' := [.int x3]) rfl ?_
          by_cases c_1156 : x3 < 0
          · rw [if_pos c_1156] at e
            refine Rn.bt hT rfl rfl rfl (decide_eq_true c_1156) ?_
            exact Rn.weak (ll_n (ll_n (ll_n (ll_n (ll_n ll_e))))) (rX2_walkOf_b43 hd hq e)
          · rw [if_neg c_1156] at e
            refine Rn.bf hT rfl rfl rfl (decide_eq_false c_1156) ?_
            refine Rn.n hT 2 (pc' := 31) (L' := [some (.ref q0), some (.int x1), some (.int x2), some (.int x3), none]) (st' := [.int (4 : Int32), .int x3]) rfl ?_
            by_cases c_1157 : (4 : Int32) ≤ x3
            · rw [if_pos c_1157] at e
              refine Rn.bt hT rfl rfl rfl (decide_eq_true c_1157) ?_
              exact Rn.weak (ll_n (ll_n (ll_n (ll_n (ll_n ll_e))))) (rX2_walkOf_b43 hd hq e)
            · rw [if_neg c_1157] at e
              refine Rn.bf hT rfl rfl rfl (decide_eq_false c_1157) ?_
              exact Rn.weak (ll_s (ll_s (ll_s (ll_s (ll_n ll_e))))) (rX2_walkOf_b34 hd hq e)
        · rw [if_neg c_1155] at e
          refine Rn.bt hT rfl rfl rfl (decide_eq_true c_1155) ?_
          exact Rn.weak (ll_s (ll_s (ll_s (ll_s (ll_n ll_e))))) (rX2_walkOf_b34 hd hq e)
