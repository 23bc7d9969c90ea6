-- MIRRORS, 0 (written by wip/whole/mir.py)
set_option maxRecDepth 10000 in
theorem hX0_init : iv_Tb 0 tX0_init := iv_tb_of (m := mX0_init) rfl
set_option maxRecDepth 10000 in
theorem gX0_init : PG.2 0 = some mX0_init := iv_pi_of (t := tX0_init) rfl (by decide)
def fX0_init (N : Nat) (h : iv_H) (q0 : Nat) : Option (iv_H) := ((nA h 0 (384 : Int32)).bind fun p_5 => (fun (v_4 : Nat) (h_2 : iv_H) => ((pV h_2 0 0 q0 (.ref v_4)).bind fun h_6 => ((nA h_6 0 (384 : Int32)).bind fun p_11 => (fun (v_10 : Nat) (h_8 : iv_H) => ((pV h_8 0 1 q0 (.ref v_10)).bind fun h_12 => ((pV h_12 0 2 q0 (.int (0 : Int32))).bind fun h_14 => ((nA h_14 0 (12 : Int32)).bind fun p_19 => (fun (v_18 : Nat) (h_16 : iv_H) => ((pV h_16 0 3 q0 (.ref v_18)).bind fun h_20 => some h_20)) p_19.1 p_19.2)))) p_11.1 p_11.2))) p_5.1 p_5.2)
set_option maxRecDepth 10000 in
set_option maxHeartbeats 4000000 in
theorem rX0_init {d N : Nat} (hd : 1 ≤ d) {h : iv_H} {q0 : Nat} {r : iv_H} {Q : Option Value → iv_H → Prop} (e : fX0_init N h q0 = some r) (hq : Q none r) : Cl d 0 [.ref q0] h Q := by
  obtain ⟨d, rfl⟩ : ∃ k, d = k + 1 := ⟨d - 1, by omega⟩
  have hd : 0 ≤ d := by omega
  have hT := hX0_init
  unfold fX0_init at e
  refine Cl.into (by decide) gX0_init rfl ?_
  show Rn d 0 none 0 [some (.ref q0)] [] h Q
  refine Rn.n hT 1 (pc' := 1) (L' := [some (.ref q0)]) (st' := [.ref q0]) rfl ?_
  refine Rn.hp hT rfl rfl (st' := []) (h1 := h) rfl ?_
  refine Rn.n hT 2 (pc' := 8) (L' := [some (.ref q0)]) (st' := [.int (384 : Int32), .ref q0]) rfl ?_
  obtain ⟨⟨v_4, h_2⟩, e_3, e⟩ := Option.bind_eq_some_iff.mp e
  try dsimp only at e
  refine Rn.hp hT rfl rfl (nA_hp rfl e_3) ?_
  obtain ⟨h_6, e_7, e⟩ := Option.bind_eq_some_iff.mp e
  refine Rn.hp hT rfl rfl (pV_hp rfl e_7) ?_
  refine Rn.n hT 2 (pc' := 17) (L' := [some (.ref q0)]) (st' := [.int (384 : Int32), .ref q0]) rfl ?_
  obtain ⟨⟨v_10, h_8⟩, e_9, e⟩ := Option.bind_eq_some_iff.mp e
  try dsimp only at e
  refine Rn.hp hT rfl rfl (nA_hp rfl e_9) ?_
  obtain ⟨h_12, e_13, e⟩ := Option.bind_eq_some_iff.mp e
  refine Rn.hp hT rfl rfl (pV_hp rfl e_13) ?_
  refine Rn.n hT 2 (pc' := 24) (L' := [some (.ref q0)]) (st' := [.int (0 : Int32), .ref q0]) rfl ?_
  obtain ⟨h_14, e_15, e⟩ := Option.bind_eq_some_iff.mp e
  refine Rn.hp hT rfl rfl (pV_hp rfl e_15) ?_
  refine Rn.n hT 2 (pc' := 30) (L' := [some (.ref q0)]) (st' := [.int (12 : Int32), .ref q0]) rfl ?_
  obtain ⟨⟨v_18, h_16⟩, e_17, e⟩ := Option.bind_eq_some_iff.mp e
  try dsimp only at e
  refine Rn.hp hT rfl rfl (nA_hp rfl e_17) ?_
  obtain ⟨h_20, e_21, e⟩ := Option.bind_eq_some_iff.mp e
  refine Rn.hp hT rfl rfl (pV_hp rfl e_21) ?_
  obtain rfl := Option.some.inj e
  exact Rn.ret hT rfl rfl rfl hq
set_option maxRecDepth 10000 in
theorem hJ7_fill_53178 : iv_Tb 350 tJ7_fill_53178 := iv_tb_of (m := mJ7_fill_53178) rfl
set_option maxRecDepth 10000 in
theorem gJ7_fill_53178 : PG.2 350 = some mJ7_fill_53178 := iv_pi_of (t := tJ7_fill_53178) rfl (by decide)
def fJ7_fill_53178_l5 (N : Nat) (q0 : Nat) (x1 : Int32) (x3 : Int32) (kx : iv_H → Option (iv_H)) : Nat → iv_H → Int32 → Option (iv_H)
  | 0, _, _ => none
  | n + 1, h, x2 => (if x3 ≤ x2 then (kx h) else ((wI h q0 x2 x1).bind fun h_26 => (fJ7_fill_53178_l5 N q0 x1 x3 kx n h_26 (x2 + (1 : Int32)))))
set_option maxRecDepth 10000 in
set_option maxHeartbeats 4000000 in
theorem rJ7_fill_53178_l5 {d N : Nat} (hd : 0 ≤ d) {q0 : Nat} {x1 : Int32} {x3 : Int32} {kx : iv_H → Option (iv_H)} {r : iv_H} {Q : Option Value → iv_H → Prop} (hk : ∀ (h : iv_H), kx h = some r → Rn d 350 none 20 [none, none, none, none] [] h Q) (hq : Q none r) : ∀ (n : Nat) (h : iv_H) (x2 : Int32), fJ7_fill_53178_l5 N q0 x1 x3 kx n h x2 = some r → Rn d 350 none 5 [some (.ref q0), some (.int x1), some (.int x2), some (.int x3)] [] h Q := by
  have hT := hJ7_fill_53178
  intro n
  induction n with
  | zero =>
    intro h x2 e
    rw [fJ7_fill_53178_l5] at e
    cases e
  | succ n ih =>
    intro h x2 e
    rw [fJ7_fill_53178_l5] at e
    refine Rn.n hT 2 (pc' := 7) (L' := [some (.ref q0), some (.int x1), some (.int x2), some (.int x3)]) (st' := [.int x3, .int x2]) rfl ?_
    by_cases c_25 : x3 ≤ x2
    · rw [if_pos c_25] at e
      refine Rn.bt hT rfl rfl rfl (decide_eq_true c_25) ?_
      exact Rn.weak (ll_n (ll_n (ll_n (ll_n ll_e)))) (hk h e)
    · rw [if_neg c_25] at e
      refine Rn.bf hT rfl rfl rfl (decide_eq_false c_25) ?_
      refine Rn.n hT 3 (pc' := 13) (L' := [some (.ref q0), some (.int x1), some (.int x2), some (.int x3)]) (st' := [.int x1, .int x2, .ref q0]) rfl ?_
      obtain ⟨h_26, e_27, e⟩ := Option.bind_eq_some_iff.mp e
      refine Rn.hp hT rfl rfl (wI_hp e_27) ?_
      refine Rn.n hT 2 (pc' := 5) (L' := [some (.ref q0), some (.int x1), some (.int (x2 + (1 : Int32))), some (.int x3)]) (st' := []) rfl ?_
      exact Rn.weak (ll_s (ll_s (ll_s (ll_s ll_e)))) (ih h_26 (x2 + (1 : Int32)) e)
def fJ7_fill_53178 (N : Nat) (h : iv_H) (q0 : Nat) (x1 : Int32) : Option (iv_H) := ((aL h q0).bind fun v_22 => (fJ7_fill_53178_l5 N q0 x1 v_22 (fun (h_24 : iv_H) => some h_24) N h (0 : Int32)))
set_option maxRecDepth 10000 in
set_option maxHeartbeats 4000000 in
theorem rJ7_fill_53178 {d N : Nat} (hd : 1 ≤ d) {h : iv_H} {q0 : Nat} {x1 : Int32} {r : iv_H} {Q : Option Value → iv_H → Prop} (e : fJ7_fill_53178 N h q0 x1 = some r) (hq : Q none r) : Cl d 350 [.ref q0, .int x1] h Q := by
  obtain ⟨d, rfl⟩ : ∃ k, d = k + 1 := ⟨d - 1, by omega⟩
  have hd : 0 ≤ d := by omega
  have hT := hJ7_fill_53178
  unfold fJ7_fill_53178 at e
  refine Cl.into (by decide) gJ7_fill_53178 rfl ?_
  show Rn d 350 none 0 [some (.ref q0), some (.int x1), none, none] [] h Q
  refine Rn.n hT 3 (pc' := 3) (L' := [some (.ref q0), some (.int x1), some (.int (0 : Int32)), none]) (st' := [.ref q0]) rfl ?_
  obtain ⟨v_22, e_23, e⟩ := Option.bind_eq_some_iff.mp e
  refine Rn.hp hT rfl rfl (aL_hp e_23) ?_
  refine Rn.n hT 1 (pc' := 5) (L' := [some (.ref q0), some (.int x1), some (.int (0 : Int32)), some (.int v_22)]) (st' := []) rfl ?_
  refine Rn.weak (ll_s (ll_s (ll_s (ll_s ll_e)))) (rJ7_fill_53178_l5 hd (fun h_24 e => ?_) hq N h (0 : Int32) e)
  try dsimp only at e
  obtain rfl := Option.some.inj e
  exact Rn.ret hT rfl rfl rfl hq
set_option maxRecDepth 10000 in
theorem hX2_keysIn : iv_Tb 49 tX2_keysIn := iv_tb_of (m := mX2_keysIn) rfl
set_option maxRecDepth 10000 in
theorem gX2_keysIn : PG.2 49 = some mX2_keysIn := iv_pi_of (t := tX2_keysIn) rfl (by decide)
def fX2_keysIn_b27 (N : Nat) (h : iv_H) (q0 : Nat) (x1 : Int32) (x3 : Int32) (s0 : Int32) (s1 : Int32) (kb : Int32 → Int32 → Option (Int32)) (kx : Int32 → Option (Int32)) : Option (Int32) := (kb (s1 ||| s0) (x3 + (1 : Int32)))
set_option maxRecDepth 10000 in
set_option maxHeartbeats 4000000 in
theorem rX2_keysIn_b27 {d N : Nat} (hd : 0 ≤ d) {h : iv_H} {q0 : Nat} {x1 : Int32} {x3 : Int32} {s0 : Int32} {s1 : Int32} {kb : Int32 → Int32 → Option (Int32)} {kx : Int32 → Option (Int32)} {r : Int32} {Q : Option Value → iv_H → Prop} (hb : ∀ (w2 : Int32) (w3 : Int32), kb w2 w3 = some r → Rn d 49 (some .int) 4 [some (.ref q0), some (.int x1), some (.int w2), some (.int w3)] [] h Q) (hk : ∀ (w2 : Int32), kx w2 = some r → Rn d 49 (some .int) 35 [none, none, some (.int w2), none] [] h Q) (hq : Q (some (.int r)) h) (e : fX2_keysIn_b27 N h q0 x1 x3 s0 s1 kb kx = some r) : Rn d 49 (some .int) 27 [some (.ref q0), some (.int x1), none, some (.int x3)] [.int s0, .int s1] h Q := by
  have hT := hX2_keysIn
  unfold fX2_keysIn_b27 at e
  refine Rn.n hT 4 (pc' := 4) (L' := [some (.ref q0), some (.int x1), some (.int (s1 ||| s0)), some (.int (x3 + (1 : Int32)))]) (st' := []) rfl ?_
  exact Rn.weak (ll_s (ll_s (ll_s (ll_s ll_e)))) (hb (s1 ||| s0) (x3 + (1 : Int32)) e)
def fX2_keysIn_l4 (N : Nat) (h : iv_H) (q0 : Nat) (x1 : Int32) (kx : Int32 → Option (Int32)) : Nat → Int32 → Int32 → Option (Int32)
  | 0, _, _ => none
  | n + 1, x2, x3 => (if (4 : Int32) < x3 then (kx x2) else ((gR h 2 10 q0).bind fun v_30 => ((aI h v_30 x3).bind fun v_32 => (if v_32 = x1 then (fX2_keysIn_b27 N h q0 x1 x3 ((1 : Int32) <<< (x3 &&& 31)) x2 (fX2_keysIn_l4 N h q0 x1 kx n) kx) else (fX2_keysIn_b27 N h q0 x1 x3 (0 : Int32) x2 (fX2_keysIn_l4 N h q0 x1 kx n) kx)))))
set_option maxRecDepth 10000 in
set_option maxHeartbeats 4000000 in
theorem rX2_keysIn_l4 {d N : Nat} (hd : 0 ≤ d) {h : iv_H} {q0 : Nat} {x1 : Int32} {kx : Int32 → Option (Int32)} {r : Int32} {Q : Option Value → iv_H → Prop} (hk : ∀ (x2 : Int32), kx x2 = some r → Rn d 49 (some .int) 35 [none, none, some (.int x2), none] [] h Q) (hq : Q (some (.int r)) h) : ∀ (n : Nat) (x2 : Int32) (x3 : Int32), fX2_keysIn_l4 N h q0 x1 kx n x2 x3 = some r → Rn d 49 (some .int) 4 [some (.ref q0), some (.int x1), some (.int x2), some (.int x3)] [] h Q := by
  have hT := hX2_keysIn
  intro n
  induction n with
  | zero =>
    intro x2 x3 e
    rw [fX2_keysIn_l4] at e
    cases e
  | succ n ih =>
    intro x2 x3 e
    rw [fX2_keysIn_l4] at e
    refine Rn.n hT 2 (pc' := 6) (L' := [some (.ref q0), some (.int x1), some (.int x2), some (.int x3)]) (st' := [.int (4 : Int32), .int x3]) rfl ?_
    by_cases c_29 : (4 : Int32) < x3
    · rw [if_pos c_29] at e
      refine Rn.bt hT rfl rfl rfl (decide_eq_true c_29) ?_
      exact Rn.weak (ll_n (ll_n (ll_s (ll_n ll_e)))) (hk x2 e)
    · rw [if_neg c_29] at e
      refine Rn.bf hT rfl rfl rfl (decide_eq_false c_29) ?_
      refine Rn.n hT 2 (pc' := 11) (L' := [some (.ref q0), some (.int x1), some (.int x2), some (.int x3)]) (st' := [.ref q0, .int x2]) rfl ?_
      obtain ⟨v_30, e_31, e⟩ := Option.bind_eq_some_iff.mp e
      refine Rn.hp hT rfl rfl (gR_hp e_31) ?_
      refine Rn.n hT 1 (pc' := 15) (L' := [some (.ref q0), some (.int x1), some (.int x2), some (.int x3)]) (st' := [.int x3, .ref v_30, .int x2]) rfl ?_
      obtain ⟨v_32, e_33, e⟩ := Option.bind_eq_some_iff.mp e
      refine Rn.hp hT rfl rfl (aI_hp e_33) ?_
      refine Rn.n hT 1 (pc' := 17) (L' := [some (.ref q0), some (.int x1), some (.int x2), some (.int x3)]) (st' := [.int x1, .int v_32, .int x2]) rfl ?_
      by_cases c_34 : v_32 = x1
      · rw [if_pos c_34] at e
        refine Rn.bf hT rfl rfl rfl (decide_eq_false (fun z => z c_34)) ?_
        refine Rn.n hT 4 (pc' := 27) (L' := [some (.ref q0), some (.int x1), some (.int x2), some (.int x3)]) (st' := [.int ((1 : Int32) <<< (x3 &&& 31)), .int x2]) rfl ?_
        exact Rn.weak (ll_s (ll_s (ll_n (ll_s ll_e)))) (rX2_keysIn_b27 hd ih hk hq e)
      · rw [if_neg c_34] at e
        refine Rn.bt hT rfl rfl rfl (decide_eq_true c_34) ?_
        refine Rn.n hT 1 (pc' := 27) (L' := [some (.ref q0), some (.int x1), some (.int x2), some (.int x3)]) (st' := [.int (0 : Int32), .int x2]) rfl ?_
        exact Rn.weak (ll_s (ll_s (ll_n (ll_s ll_e)))) (rX2_keysIn_b27 hd ih hk hq e)
def fX2_keysIn (N : Nat) (h : iv_H) (q0 : Nat) (x1 : Int32) : Option (Int32) := (fX2_keysIn_l4 N h q0 x1 (fun (z_28 : Int32) => (some z_28)) N (0 : Int32) (1 : Int32))
set_option maxRecDepth 10000 in
set_option maxHeartbeats 4000000 in
theorem rX2_keysIn {d N : Nat} (hd : 1 ≤ d) {h : iv_H} {q0 : Nat} {x1 : Int32} {r : Int32} {Q : Option Value → iv_H → Prop} (e : fX2_keysIn N h q0 x1 = some r) (hq : Q (some (.int r)) h) : Cl d 49 [.ref q0, .int x1] h Q := by
  obtain ⟨d, rfl⟩ : ∃ k, d = k + 1 := ⟨d - 1, by omega⟩
  have hd : 0 ≤ d := by omega
  have hT := hX2_keysIn
  unfold fX2_keysIn at e
  refine Cl.into (by decide) gX2_keysIn rfl ?_
  show Rn d 49 (some .int) 0 [some (.ref q0), some (.int x1), none, none] [] h Q
  refine Rn.n hT 4 (pc' := 4) (L' := [some (.ref q0), some (.int x1), some (.int (0 : Int32)), some (.int (1 : Int32))]) (st' := []) rfl ?_
  refine Rn.weak (ll_s (ll_s (ll_s (ll_s ll_e)))) (rX2_keysIn_l4 hd (fun z_28 e => ?_) hq N (0 : Int32) (1 : Int32) e)
  try dsimp only at e
  refine Rn.n hT 1 (pc' := 36) (L' := [none, none, some (.int z_28), none]) (st' := [.int z_28]) rfl ?_
  obtain rfl := Option.some.inj e
  exact Rn.ret hT rfl rfl rfl hq
set_option maxRecDepth 10000 in
theorem hX0_come : iv_Tb 2 tX0_come := iv_tb_of (m := mX0_come) rfl
set_option maxRecDepth 10000 in
theorem gX0_come : PG.2 2 = some mX0_come := iv_pi_of (t := tX0_come) rfl (by decide)
def fX0_come_b60 (N : Nat) (h : iv_H)   : Option (iv_H) := some h
set_option maxRecDepth 10000 in
set_option maxHeartbeats 4000000 in
theorem rX0_come_b60 {d N : Nat} (hd : 0 ≤ d) {h : iv_H}   {r : iv_H} {Q : Option Value → iv_H → Prop} (hq : Q none r) (e : fX0_come_b60 N h   = some r) : Rn d 2 none 60 [none, none, none, none, none] [] h Q := by
  have hT := hX0_come
  unfold fX0_come_b60 at e
  obtain rfl := Option.some.inj e
  exact Rn.ret hT rfl rfl rfl hq
def fX0_come (N : Nat) (h : iv_H) (q0 : Nat) (x1 : Int32) (x2 : Int32) (x3 : Int32) : Option (iv_H) := ((gR h 0 0 q0).bind fun v_35 => ((aI h v_35 (((32 : Int32) * x1) + x2)).bind fun v_37 => (if v_37 = (-1 : Int32) then ((gI h 0 2 q0).bind fun v_40 => ((gR h 0 1 q0).bind fun v_42 => ((aL h v_42).bind fun v_44 => (if v_44 ≤ v_40 then (fX0_come_b60 N h) else ((gR h 0 0 q0).bind fun v_47 => ((wI h v_47 (((32 : Int32) * x1) + x2) x3).bind fun h_49 => ((gR h_49 0 1 q0).bind fun v_51 => ((gI h_49 0 2 q0).bind fun v_53 => ((wI h_49 v_51 v_53 (((32 : Int32) * x1) + x2)).bind fun h_55 => ((gI h_55 0 2 q0).bind fun v_57 => ((pV h_55 0 2 q0 (.int (v_57 + (1 : Int32)))).bind fun h_59 => (fX0_come_b60 N h_59)))))))))))) else (fX0_come_b60 N h))))
set_option maxRecDepth 10000 in
set_option maxHeartbeats 4000000 in
theorem rX0_come {d N : Nat} (hd : 1 ≤ d) {h : iv_H} {q0 : Nat} {x1 : Int32} {x2 : Int32} {x3 : Int32} {r : iv_H} {Q : Option Value → iv_H → Prop} (e : fX0_come N h q0 x1 x2 x3 = some r) (hq : Q none r) : Cl d 2 [.ref q0, .int x1, .int x2, .int x3] h Q := by
  obtain ⟨d, rfl⟩ : ∃ k, d = k + 1 := ⟨d - 1, by omega⟩
  have hd : 0 ≤ d := by omega
  have hT := hX0_come
  unfold fX0_come at e
  refine Cl.into (by decide) gX0_come rfl ?_
  show Rn d 2 none 0 [some (.ref q0), some (.int x1), some (.int x2), some (.int x3), none] [] h Q
  refine Rn.n hT 7 (pc' := 9) (L' := [some (.ref q0), some (.int x1), some (.int x2), some (.int x3), some (.int (((32 : Int32) * x1) + x2))]) (st' := [.ref q0]) rfl ?_
  obtain ⟨v_35, e_36, e⟩ := Option.bind_eq_some_iff.mp e
  refine Rn.hp hT rfl rfl (gR_hp e_36) ?_
  refine Rn.n hT 1 (pc' := 14) (L' := [some (.ref q0), some (.int x1), some (.int x2), some (.int x3), some (.int (((32 : Int32) * x1) + x2))]) (st' := [.int (((32 : Int32) * x1) + x2), .ref v_35]) rfl ?_
  obtain ⟨v_37, e_38, e⟩ := Option.bind_eq_some_iff.mp e
  refine Rn.hp hT rfl rfl (aI_hp e_38) ?_
  refine Rn.n hT 1 (pc' := 16) (L' := [some (.ref q0), some (.int x1), some (.int x2), some (.int x3), some (.int (((32 : Int32) * x1) + x2))]) (st' := [.int (-1 : Int32), .int v_37]) rfl ?_
  by_cases c_39 : v_37 = (-1 : Int32)
  · rw [if_pos c_39] at e
    refine Rn.bf hT rfl rfl rfl (decide_eq_false (fun z => z c_39)) ?_
    refine Rn.n hT 1 (pc' := 20) (L' := [some (.ref q0), some (.int x1), some (.int x2), some (.int x3), some (.int (((32 : Int32) * x1) + x2))]) (st' := [.ref q0]) rfl ?_
    obtain ⟨v_40, e_41, e⟩ := Option.bind_eq_some_iff.mp e
    refine Rn.hp hT rfl rfl (gI_hp e_41) ?_
    refine Rn.n hT 1 (pc' := 24) (L' := [some (.ref q0), some (.int x1), some (.int x2), some (.int x3), some (.int (((32 : Int32) * x1) + x2))]) (st' := [.ref q0, .int v_40]) rfl ?_
    obtain ⟨v_42, e_43, e⟩ := Option.bind_eq_some_iff.mp e
    refine Rn.hp hT rfl rfl (gR_hp e_43) ?_
    obtain ⟨v_44, e_45, e⟩ := Option.bind_eq_some_iff.mp e
    refine Rn.hp hT rfl rfl (aL_hp e_45) ?_
    by_cases c_46 : v_44 ≤ v_40
    · rw [if_pos c_46] at e
      refine Rn.bt hT rfl rfl rfl (decide_eq_true c_46) ?_
      exact Rn.weak (ll_n (ll_n (ll_n (ll_n (ll_n ll_e))))) (rX0_come_b60 hd hq e)
    · rw [if_neg c_46] at e
      refine Rn.bf hT rfl rfl rfl (decide_eq_false c_46) ?_
      refine Rn.n hT 1 (pc' := 32) (L' := [some (.ref q0), some (.int x1), some (.int x2), some (.int x3), some (.int (((32 : Int32) * x1) + x2))]) (st' := [.ref q0]) rfl ?_
      obtain ⟨v_47, e_48, e⟩ := Option.bind_eq_some_iff.mp e
      refine Rn.hp hT rfl rfl (gR_hp e_48) ?_
      refine Rn.n hT 2 (pc' := 38) (L' := [some (.ref q0), some (.int x1), some (.int x2), some (.int x3), some (.int (((32 : Int32) * x1) + x2))]) (st' := [.int x3, .int (((32 : Int32) * x1) + x2), .ref v_47]) rfl ?_
      obtain ⟨h_49, e_50, e⟩ := Option.bind_eq_some_iff.mp e
      refine Rn.hp hT rfl rfl (wI_hp e_50) ?_
      refine Rn.n hT 1 (pc' := 40) (L' := [some (.ref q0), some (.int x1), some (.int x2), some (.int x3), some (.int (((32 : Int32) * x1) + x2))]) (st' := [.ref q0]) rfl ?_
      obtain ⟨v_51, e_52, e⟩ := Option.bind_eq_some_iff.mp e
      refine Rn.hp hT rfl rfl (gR_hp e_52) ?_
      refine Rn.n hT 1 (pc' := 44) (L' := [some (.ref q0), some (.int x1), some (.int x2), some (.int x3), some (.int (((32 : Int32) * x1) + x2))]) (st' := [.ref q0, .ref v_51]) rfl ?_
      obtain ⟨v_53, e_54, e⟩ := Option.bind_eq_some_iff.mp e
      refine Rn.hp hT rfl rfl (gI_hp e_54) ?_
      refine Rn.n hT 1 (pc' := 49) (L' := [some (.ref q0), some (.int x1), some (.int x2), some (.int x3), some (.int (((32 : Int32) * x1) + x2))]) (st' := [.int (((32 : Int32) * x1) + x2), .int v_53, .ref v_51]) rfl ?_
      obtain ⟨h_55, e_56, e⟩ := Option.bind_eq_some_iff.mp e
      refine Rn.hp hT rfl rfl (wI_hp e_56) ?_
      refine Rn.n hT 2 (pc' := 52) (L' := [some (.ref q0), some (.int x1), some (.int x2), some (.int x3), some (.int (((32 : Int32) * x1) + x2))]) (st' := [.ref q0, .ref q0]) rfl ?_
      obtain ⟨v_57, e_58, e⟩ := Option.bind_eq_some_iff.mp e
      refine Rn.hp hT rfl rfl (gI_hp e_58) ?_
      refine Rn.n hT 2 (pc' := 57) (L' := [some (.ref q0), some (.int x1), some (.int x2), some (.int x3), some (.int (((32 : Int32) * x1) + x2))]) (st' := [.int (v_57 + (1 : Int32)), .ref q0]) rfl ?_
      obtain ⟨h_59, e_60, e⟩ := Option.bind_eq_some_iff.mp e
      refine Rn.hp hT rfl rfl (pV_hp rfl e_60) ?_
      exact Rn.weak (ll_n (ll_n (ll_n (ll_n (ll_n ll_e))))) (rX0_come_b60 hd hq e)
  · rw [if_neg c_39] at e
    refine Rn.bt hT rfl rfl rfl (decide_eq_true c_39) ?_
    exact Rn.weak (ll_n (ll_n (ll_n (ll_n (ll_n ll_e))))) (rX0_come_b60 hd hq e)
set_option maxRecDepth 10000 in
theorem hX1_throughDoor : iv_Tb 35 tX1_throughDoor := iv_tb_of (m := mX1_throughDoor) rfl
set_option maxRecDepth 10000 in
theorem gX1_throughDoor : PG.2 35 = some mX1_throughDoor := iv_pi_of (t := tX1_throughDoor) rfl (by decide)
def fX1_throughDoor_b52 (N : Nat) (h : iv_H)   : Option (Int32) := (some (-1 : Int32))
set_option maxRecDepth 10000 in
set_option maxHeartbeats 4000000 in
theorem rX1_throughDoor_b52 {d N : Nat} (hd : 0 ≤ d) {h : iv_H}   {r : Int32} {Q : Option Value → iv_H → Prop} (hq : Q (some (.int r)) h) (e : fX1_throughDoor_b52 N h   = some r) : Rn d 35 (some .int) 52 [none, none, none, none, none] [] h Q := by
  have hT := hX1_throughDoor
  unfold fX1_throughDoor_b52 at e
  refine Rn.n hT 1 (pc' := 53) (L' := [none, none, none, none, none]) (st' := [.int (-1 : Int32)]) rfl ?_
  obtain rfl := Option.some.inj e
  exact Rn.ret hT rfl rfl rfl hq
def fX1_throughDoor (N : Nat) (h : iv_H) (q0 : Nat) (x1 : Int32) (x2 : Int32) : Option (Int32) := ((gR h 1 5 q0).bind fun v_61 => ((aI h v_61 x1).bind fun v_63 => ((gR h 1 10 q0).bind fun v_65 => ((aI h v_65 (((4 : Int32) * v_63) + x2)).bind fun v_67 => (if v_67 = (-1 : Int32) then (fX1_throughDoor_b52 N h) else ((gR h 1 9 q0).bind fun v_70 => ((aI h v_70 (((4 : Int32) * v_63) + x2)).bind fun v_72 => (if v_72 = (1 : Int32) then ((gR h 1 9 q0).bind fun v_75 => ((aI h v_75 (((4 : Int32) * v_67) + (x2 ^^^ (2 : Int32)))).bind fun v_77 => (if v_77 = (1 : Int32) then ((gR h 1 7 q0).bind fun v_80 => ((aI h v_80 v_67).bind fun v_82 => (some v_82))) else (fX1_throughDoor_b52 N h)))) else (fX1_throughDoor_b52 N h)))))))))
set_option maxRecDepth 10000 in
set_option maxHeartbeats 4000000 in
theorem rX1_throughDoor {d N : Nat} (hd : 1 ≤ d) {h : iv_H} {q0 : Nat} {x1 : Int32} {x2 : Int32} {r : Int32} {Q : Option Value → iv_H → Prop} (e : fX1_throughDoor N h q0 x1 x2 = some r) (hq : Q (some (.int r)) h) : Cl d 35 [.ref q0, .int x1, .int x2] h Q := by
  obtain ⟨d, rfl⟩ : ∃ k, d = k + 1 := ⟨d - 1, by omega⟩
  have hd : 0 ≤ d := by omega
  have hT := hX1_throughDoor
  unfold fX1_throughDoor at e
  refine Cl.into (by decide) gX1_throughDoor rfl ?_
  show Rn d 35 (some .int) 0 [some (.ref q0), some (.int x1), some (.int x2), none, none] [] h Q
  refine Rn.n hT 2 (pc' := 2) (L' := [some (.ref q0), some (.int x1), some (.int x2), none, none]) (st' := [.ref q0, .int (4 : Int32)]) rfl ?_
  obtain ⟨v_61, e_62, e⟩ := Option.bind_eq_some_iff.mp e
  refine Rn.hp hT rfl rfl (gR_hp e_62) ?_
  refine Rn.n hT 1 (pc' := 6) (L' := [some (.ref q0), some (.int x1), some (.int x2), none, none]) (st' := [.int x1, .ref v_61, .int (4 : Int32)]) rfl ?_
  obtain ⟨v_63, e_64, e⟩ := Option.bind_eq_some_iff.mp e
  refine Rn.hp hT rfl rfl (aI_hp e_64) ?_
  refine Rn.n hT 5 (pc' := 12) (L' := [some (.ref q0), some (.int x1), some (.int x2), some (.int (((4 : Int32) * v_63) + x2)), none]) (st' := [.ref q0]) rfl ?_
  obtain ⟨v_65, e_66, e⟩ := Option.bind_eq_some_iff.mp e
  refine Rn.hp hT rfl rfl (gR_hp e_66) ?_
  refine Rn.n hT 1 (pc' := 16) (L' := [some (.ref q0), some (.int x1), some (.int x2), some (.int (((4 : Int32) * v_63) + x2)), none]) (st' := [.int (((4 : Int32) * v_63) + x2), .ref v_65]) rfl ?_
  obtain ⟨v_67, e_68, e⟩ := Option.bind_eq_some_iff.mp e
  refine Rn.hp hT rfl rfl (aI_hp e_68) ?_
  refine Rn.n hT 3 (pc' := 22) (L' := [some (.ref q0), some (.int x1), some (.int x2), some (.int (((4 : Int32) * v_63) + x2)), some (.int v_67)]) (st' := [.int (-1 : Int32), .int v_67]) rfl ?_
  by_cases c_69 : v_67 = (-1 : Int32)
  · rw [if_pos c_69] at e
    refine Rn.bt hT rfl rfl rfl (decide_eq_true c_69) ?_
    exact Rn.weak (ll_n (ll_n (ll_n (ll_n (ll_n ll_e))))) (rX1_throughDoor_b52 hd hq e)
  · rw [if_neg c_69] at e
    refine Rn.bf hT rfl rfl rfl (decide_eq_false c_69) ?_
    refine Rn.n hT 1 (pc' := 26) (L' := [some (.ref q0), some (.int x1), some (.int x2), some (.int (((4 : Int32) * v_63) + x2)), some (.int v_67)]) (st' := [.ref q0]) rfl ?_
    obtain ⟨v_70, e_71, e⟩ := Option.bind_eq_some_iff.mp e
    refine Rn.hp hT rfl rfl (gR_hp e_71) ?_
    refine Rn.n hT 1 (pc' := 30) (L' := [some (.ref q0), some (.int x1), some (.int x2), some (.int (((4 : Int32) * v_63) + x2)), some (.int v_67)]) (st' := [.int (((4 : Int32) * v_63) + x2), .ref v_70]) rfl ?_
    obtain ⟨v_72, e_73, e⟩ := Option.bind_eq_some_iff.mp e
    refine Rn.hp hT rfl rfl (aI_hp e_73) ?_
    refine Rn.n hT 1 (pc' := 32) (L' := [some (.ref q0), some (.int x1), some (.int x2), some (.int (((4 : Int32) * v_63) + x2)), some (.int v_67)]) (st' := [.int (1 : Int32), .int v_72]) rfl ?_
    by_cases c_74 : v_72 = (1 : Int32)
    · rw [if_pos c_74] at e
      refine Rn.bf hT rfl rfl rfl (decide_eq_false (fun z => z c_74)) ?_
      refine Rn.n hT 1 (pc' := 36) (L' := [some (.ref q0), some (.int x1), some (.int x2), some (.int (((4 : Int32) * v_63) + x2)), some (.int v_67)]) (st' := [.ref q0]) rfl ?_
      obtain ⟨v_75, e_76, e⟩ := Option.bind_eq_some_iff.mp e
      refine Rn.hp hT rfl rfl (gR_hp e_76) ?_
      refine Rn.n hT 7 (pc' := 47) (L' := [some (.ref q0), some (.int x1), some (.int x2), some (.int (((4 : Int32) * v_63) + x2)), some (.int v_67)]) (st' := [.int (((4 : Int32) * v_67) + (x2 ^^^ (2 : Int32))), .ref v_75]) rfl ?_
      obtain ⟨v_77, e_78, e⟩ := Option.bind_eq_some_iff.mp e
      refine Rn.hp hT rfl rfl (aI_hp e_78) ?_
      refine Rn.n hT 1 (pc' := 49) (L' := [some (.ref q0), some (.int x1), some (.int x2), some (.int (((4 : Int32) * v_63) + x2)), some (.int v_67)]) (st' := [.int (1 : Int32), .int v_77]) rfl ?_
      by_cases c_79 : v_77 = (1 : Int32)
      · rw [if_pos c_79] at e
        refine Rn.bt hT rfl rfl rfl (decide_eq_true c_79) ?_
        refine Rn.n hT 1 (pc' := 55) (L' := [some (.ref q0), some (.int x1), some (.int x2), some (.int (((4 : Int32) * v_63) + x2)), some (.int v_67)]) (st' := [.ref q0]) rfl ?_
        obtain ⟨v_80, e_81, e⟩ := Option.bind_eq_some_iff.mp e
        refine Rn.hp hT rfl rfl (gR_hp e_81) ?_
        refine Rn.n hT 1 (pc' := 60) (L' := [some (.ref q0), some (.int x1), some (.int x2), some (.int (((4 : Int32) * v_63) + x2)), some (.int v_67)]) (st' := [.int v_67, .ref v_80]) rfl ?_
        obtain ⟨v_82, e_83, e⟩ := Option.bind_eq_some_iff.mp e
        refine Rn.hp hT rfl rfl (aI_hp e_83) ?_
        obtain rfl := Option.some.inj e
        exact Rn.ret hT rfl rfl rfl hq
      · rw [if_neg c_79] at e
        refine Rn.bf hT rfl rfl rfl (decide_eq_false c_79) ?_
        exact Rn.weak (ll_n (ll_n (ll_n (ll_n (ll_n ll_e))))) (rX1_throughDoor_b52 hd hq e)
    · rw [if_neg c_74] at e
      refine Rn.bt hT rfl rfl rfl (decide_eq_true c_74) ?_
      exact Rn.weak (ll_n (ll_n (ll_n (ll_n (ll_n ll_e))))) (rX1_throughDoor_b52 hd hq e)
set_option maxRecDepth 10000 in
theorem hX1_sortOf : iv_Tb 20 tX1_sortOf := iv_tb_of (m := mX1_sortOf) rfl
set_option maxRecDepth 10000 in
theorem gX1_sortOf : PG.2 20 = some mX1_sortOf := iv_pi_of (t := tX1_sortOf) rfl (by decide)
def fX1_sortOf (N : Nat) (h : iv_H) (q0 : Nat) (x1 : Int32) (x2 : Int32) : Option (Int32) := ((gR h 1 8 q0).bind fun v_84 => ((gR h 1 6 q0).bind fun v_86 => ((aI h v_86 x1).bind fun v_88 => ((aI h v_84 (((4 : Int32) * x1) + ((x2 - v_88) &&& (3 : Int32)))).bind fun v_90 => (some v_90)))))
set_option maxRecDepth 10000 in
set_option maxHeartbeats 4000000 in
theorem rX1_sortOf {d N : Nat} (hd : 1 ≤ d) {h : iv_H} {q0 : Nat} {x1 : Int32} {x2 : Int32} {r : Int32} {Q : Option Value → iv_H → Prop} (e : fX1_sortOf N h q0 x1 x2 = some r) (hq : Q (some (.int r)) h) : Cl d 20 [.ref q0, .int x1, .int x2] h Q := by
  obtain ⟨d, rfl⟩ : ∃ k, d = k + 1 := ⟨d - 1, by omega⟩
  have hd : 0 ≤ d := by omega
  have hT := hX1_sortOf
  unfold fX1_sortOf at e
  refine Cl.into (by decide) gX1_sortOf rfl ?_
  show Rn d 20 (some .int) 0 [some (.ref q0), some (.int x1), some (.int x2)] [] h Q
  refine Rn.n hT 1 (pc' := 1) (L' := [some (.ref q0), some (.int x1), some (.int x2)]) (st' := [.ref q0]) rfl ?_
  obtain ⟨v_84, e_85, e⟩ := Option.bind_eq_some_iff.mp e
  refine Rn.hp hT rfl rfl (gR_hp e_85) ?_
  refine Rn.n hT 5 (pc' := 9) (L' := [some (.ref q0), some (.int x1), some (.int x2)]) (st' := [.ref q0, .int x2, .int ((4 : Int32) * x1), .ref v_84]) rfl ?_
  obtain ⟨v_86, e_87, e⟩ := Option.bind_eq_some_iff.mp e
  refine Rn.hp hT rfl rfl (gR_hp e_87) ?_
  refine Rn.n hT 1 (pc' := 13) (L' := [some (.ref q0), some (.int x1), some (.int x2)]) (st' := [.int x1, .ref v_86, .int x2, .int ((4 : Int32) * x1), .ref v_84]) rfl ?_
  obtain ⟨v_88, e_89, e⟩ := Option.bind_eq_some_iff.mp e
  refine Rn.hp hT rfl rfl (aI_hp e_89) ?_
  refine Rn.n hT 4 (pc' := 18) (L' := [some (.ref q0), some (.int x1), some (.int x2)]) (st' := [.int (((4 : Int32) * x1) + ((x2 - v_88) &&& (3 : Int32))), .ref v_84]) rfl ?_
  obtain ⟨v_90, e_91, e⟩ := Option.bind_eq_some_iff.mp e
  refine Rn.hp hT rfl rfl (aI_hp e_91) ?_
  obtain rfl := Option.some.inj e
  exact Rn.ret hT rfl rfl rfl hq
set_option maxRecDepth 10000 in
theorem hX1_locksBetween : iv_Tb 36 tX1_locksBetween := iv_tb_of (m := mX1_locksBetween) rfl
set_option maxRecDepth 10000 in
theorem gX1_locksBetween : PG.2 36 = some mX1_locksBetween := iv_pi_of (t := tX1_locksBetween) rfl (by decide)
def fX1_locksBetween_b60 (N : Nat) (h : iv_H)  (s0 : Int32) : Option (Int32) := (some s0)
set_option maxRecDepth 10000 in
set_option maxHeartbeats 4000000 in
theorem rX1_locksBetween_b60 {d N : Nat} (hd : 1 ≤ d) {h : iv_H}  {s0 : Int32} {r : Int32} {Q : Option Value → iv_H → Prop} (hq : Q (some (.int r)) h) (e : fX1_locksBetween_b60 N h  s0 = some r) : Rn d 36 (some .int) 60 [none, none, none, none, none, none, none] [.int s0] h Q := by
  have hT := hX1_locksBetween
  unfold fX1_locksBetween_b60 at e
  obtain rfl := Option.some.inj e
  exact Rn.ret hT rfl rfl rfl hq
def fX1_locksBetween_b36 (N : Nat) (h : iv_H) (x5 : Int32) (s0 : Int32) : Option (Int32) := (if x5 < (3 : Int32) then (fX1_locksBetween_b60 N h s0) else (fX1_locksBetween_b60 N h (s0 ||| ((1 : Int32) <<< (((x5 - (3 : Int32)) + (1 : Int32)) &&& 31)))))
set_option maxRecDepth 10000 in
set_option maxHeartbeats 4000000 in
theorem rX1_locksBetween_b36 {d N : Nat} (hd : 1 ≤ d) {h : iv_H} {x5 : Int32} {s0 : Int32} {r : Int32} {Q : Option Value → iv_H → Prop} (hq : Q (some (.int r)) h) (e : fX1_locksBetween_b36 N h x5 s0 = some r) : Rn d 36 (some .int) 36 [none, none, none, none, none, some (.int x5), none] [.int s0] h Q := by
  have hT := hX1_locksBetween
  unfold fX1_locksBetween_b36 at e
  refine Rn.n hT 3 (pc' := 41) (L' := [none, none, none, none, none, some (.int x5), some (.int s0)]) (st' := [.int (3 : Int32), .int x5]) rfl ?_
  by_cases c_99 : x5 < (3 : Int32)
  · rw [if_pos c_99] at e
    refine Rn.bt hT rfl rfl rfl (decide_eq_true c_99) ?_
    refine Rn.n hT 1 (pc' := 60) (L' := [none, none, none, none, none, some (.int x5), some (.int s0)]) (st' := [.int s0]) rfl ?_
    exact Rn.weak (ll_n (ll_n (ll_n (ll_n (ll_n (ll_n (ll_n ll_e))))))) (rX1_locksBetween_b60 hd hq e)
  · rw [if_neg c_99] at e
    refine Rn.bf hT rfl rfl rfl (decide_eq_false c_99) ?_
    refine Rn.n hT 10 (pc' := 60) (L' := [none, none, none, none, none, some (.int x5), some (.int s0)]) (st' := [.int (s0 ||| ((1 : Int32) <<< (((x5 - (3 : Int32)) + (1 : Int32)) &&& 31)))]) rfl ?_
    exact Rn.weak (ll_n (ll_n (ll_n (ll_n (ll_n (ll_n (ll_n ll_e))))))) (rX1_locksBetween_b60 hd hq e)
def fX1_locksBetween (N : Nat) (h : iv_H) (q0 : Nat) (x1 : Int32) (x2 : Int32) (x3 : Int32) : Option (Int32) := ((cko h q0 1).bind fun _ => (fX1_sortOf N h q0 x1 x2).bind fun v_94 => ((cko h q0 1).bind fun _ => (fX1_sortOf N h q0 x3 (x2 ^^^ (2 : Int32))).bind fun v_97 => (if v_94 < (3 : Int32) then (fX1_locksBetween_b36 N h v_97 (0 : Int32)) else (fX1_locksBetween_b36 N h v_97 ((1 : Int32) <<< (((v_94 - (3 : Int32)) + (1 : Int32)) &&& 31))))))
set_option maxRecDepth 10000 in
set_option maxHeartbeats 4000000 in
theorem rX1_locksBetween {d N : Nat} (hd : 2 ≤ d) {h : iv_H} {q0 : Nat} {x1 : Int32} {x2 : Int32} {x3 : Int32} {r : Int32} {Q : Option Value → iv_H → Prop} (e : fX1_locksBetween N h q0 x1 x2 x3 = some r) (hq : Q (some (.int r)) h) : Cl d 36 [.ref q0, .int x1, .int x2, .int x3] h Q := by
  obtain ⟨d, rfl⟩ : ∃ k, d = k + 1 := ⟨d - 1, by omega⟩
  have hd : 1 ≤ d := by omega
  have hT := hX1_locksBetween
  unfold fX1_locksBetween at e
  refine Cl.into (by decide) gX1_locksBetween rfl ?_
  show Rn d 36 (some .int) 0 [some (.ref q0), some (.int x1), some (.int x2), some (.int x3), none, none, none] [] h Q
  refine Rn.n hT 3 (pc' := 3) (L' := [some (.ref q0), some (.int x1), some (.int x2), some (.int x3), none, none, none]) (st' := [.int x2, .int x1, .ref q0]) rfl ?_
  obtain ⟨_, e_93, e⟩ := Option.bind_eq_some_iff.mp e
  obtain ⟨v_94, e_92, e⟩ := Option.bind_eq_some_iff.mp e
  refine Rn.call hT rfl rfl rfl (Nat.le_of_ble_eq_true rfl) (rcv_v gX1_sortOf (by omega) e_93) (rX1_sortOf (by omega) e_92 ?_)
  show Rn d _ _ 6 [some (.ref q0), some (.int x1), some (.int x2), some (.int x3), none, none, none] [.int v_94] h Q
  refine Rn.n hT 6 (pc' := 13) (L' := [some (.ref q0), some (.int x1), some (.int x2), some (.int x3), some (.int v_94), none, none]) (st' := [.int (x2 ^^^ (2 : Int32)), .int x3, .ref q0]) rfl ?_
  obtain ⟨_, e_96, e⟩ := Option.bind_eq_some_iff.mp e
  obtain ⟨v_97, e_95, e⟩ := Option.bind_eq_some_iff.mp e
  refine Rn.call hT rfl rfl rfl (Nat.le_of_ble_eq_true rfl) (rcv_v gX1_sortOf (by omega) e_96) (rX1_sortOf (by omega) e_95 ?_)
  show Rn d _ _ 16 [some (.ref q0), some (.int x1), some (.int x2), some (.int x3), some (.int v_94), none, none] [.int v_97] h Q
  refine Rn.n hT 3 (pc' := 21) (L' := [some (.ref q0), some (.int x1), some (.int x2), some (.int x3), some (.int v_94), some (.int v_97), none]) (st' := [.int (3 : Int32), .int v_94]) rfl ?_
  by_cases c_98 : v_94 < (3 : Int32)
  · rw [if_pos c_98] at e
    refine Rn.bt hT rfl rfl rfl (decide_eq_true c_98) ?_
    refine Rn.n hT 1 (pc' := 36) (L' := [some (.ref q0), some (.int x1), some (.int x2), some (.int x3), some (.int v_94), some (.int v_97), none]) (st' := [.int (0 : Int32)]) rfl ?_
    exact Rn.weak (ll_n (ll_n (ll_n (ll_n (ll_n (ll_s (ll_n ll_e))))))) (rX1_locksBetween_b36 hd hq e)
  · rw [if_neg c_98] at e
    refine Rn.bf hT rfl rfl rfl (decide_eq_false c_98) ?_
    refine Rn.n hT 8 (pc' := 36) (L' := [some (.ref q0), some (.int x1), some (.int x2), some (.int x3), some (.int v_94), some (.int v_97), none]) (st' := [.int ((1 : Int32) <<< (((v_94 - (3 : Int32)) + (1 : Int32)) &&& 31))]) rfl ?_
    exact Rn.weak (ll_n (ll_n (ll_n (ll_n (ll_n (ll_s (ll_n ll_e))))))) (rX1_locksBetween_b36 hd hq e)
set_option maxRecDepth 10000 in
theorem hX0_spread : iv_Tb 1 tX0_spread := iv_tb_of (m := mX0_spread) rfl
set_option maxRecDepth 10000 in
theorem gX0_spread : PG.2 1 = some mX0_spread := iv_pi_of (t := tX0_spread) rfl (by decide)
def fX0_spread_b142 (N : Nat) (h : iv_H) (q0 : Nat) (q1 : Nat) (x3 : Int32) (x4 : Int32) (x5 : Int32) (x6 : Int32)  (kb : iv_H → Int32 → Option (iv_H)) (kx : iv_H → Option (iv_H)) : Option (iv_H) := (kb h (x6 + (1 : Int32)))
set_option maxRecDepth 10000 in
set_option maxHeartbeats 4000000 in
theorem rX0_spread_b142 {d N : Nat} (hd : 2 ≤ d) {h : iv_H} {q0 : Nat} {q1 : Nat} {x3 : Int32} {x4 : Int32} {x5 : Int32} {x6 : Int32}  {kb : iv_H → Int32 → Option (iv_H)} {kx : iv_H → Option (iv_H)} {r : iv_H} {Q : Option Value → iv_H → Prop} (hb : ∀ (h : iv_H) (w6 : Int32), kb h w6 = some r → Rn d 1 none 68 [some (.ref q0), some (.ref q1), none, some (.int x3), some (.int x4), some (.int x5), some (.int w6), none] [] h Q) (hk : ∀ (h : iv_H), kx h = some r → Rn d 1 none 148 [some (.ref q0), some (.ref q1), none, some (.int x3), none, none, none, none] [] h Q) (hq : Q none r) (e : fX0_spread_b142 N h q0 q1 x3 x4 x5 x6  kb kx = some r) : Rn d 1 none 142 [some (.ref q0), some (.ref q1), none, some (.int x3), some (.int x4), some (.int x5), some (.int x6), none] [] h Q := by
  have hT := hX0_spread
  unfold fX0_spread_b142 at e
  refine Rn.n hT 2 (pc' := 68) (L' := [some (.ref q0), some (.ref q1), none, some (.int x3), some (.int x4), some (.int x5), some (.int (x6 + (1 : Int32))), none]) (st' := []) rfl ?_
  exact Rn.weak (ll_s (ll_s (ll_n (ll_s (ll_s (ll_s (ll_s (ll_n ll_e)))))))) (hb h (x6 + (1 : Int32)) e)
def fX0_spread_l68 (N : Nat) (q0 : Nat) (q1 : Nat) (x3 : Int32) (x4 : Int32) (x5 : Int32) (kx : iv_H → Option (iv_H)) : Nat → iv_H → Int32 → Option (iv_H)
  | 0, _, _ => none
  | n + 1, h, x6 => (if (4 : Int32) ≤ x6 then (kx h) else ((gR h 2 9 q1).bind fun v_133 => ((cko h v_133 1).bind fun _ => (fX1_throughDoor N h v_133 x4 x6).bind fun v_137 => (if v_137 = (-1 : Int32) then (fX0_spread_b142 N h q0 q1 x3 x4 x5 x6 (fX0_spread_l68 N q0 q1 x3 x4 x5 kx n) kx) else ((gR h 2 9 q1).bind fun v_139 => ((cko h v_139 1).bind fun _ => (fX1_locksBetween N h v_139 x4 x6 v_137).bind fun v_143 => (if (v_143 &&& (x5 ^^^ (-1 : Int32))) = 0 then ((cko h q1 2).bind fun _ => (fX2_keysIn N h q1 v_137).bind fun v_147 => ((gR h 0 0 q0).bind fun v_148 => ((gR h 0 1 q0).bind fun v_150 => ((aI h v_150 x3).bind fun v_152 => ((aI h v_148 v_152).bind fun v_154 => ((cko h q0 0).bind fun _ => (fX0_come N h q0 v_137 (x5 ||| v_147) (v_154 + (1 : Int32))).bind fun h_159 => (fX0_spread_b142 N h_159 q0 q1 x3 x4 x5 x6 (fX0_spread_l68 N q0 q1 x3 x4 x5 kx n) kx))))))) else (fX0_spread_b142 N h q0 q1 x3 x4 x5 x6 (fX0_spread_l68 N q0 q1 x3 x4 x5 kx n) kx))))))))
set_option maxRecDepth 10000 in
set_option maxHeartbeats 4000000 in
theorem rX0_spread_l68 {d N : Nat} (hd : 2 ≤ d) {q0 : Nat} {q1 : Nat} {x3 : Int32} {x4 : Int32} {x5 : Int32} {kx : iv_H → Option (iv_H)} {r : iv_H} {Q : Option Value → iv_H → Prop} (hk : ∀ (h : iv_H), kx h = some r → Rn d 1 none 148 [some (.ref q0), some (.ref q1), none, some (.int x3), none, none, none, none] [] h Q) (hq : Q none r) : ∀ (n : Nat) (h : iv_H) (x6 : Int32), fX0_spread_l68 N q0 q1 x3 x4 x5 kx n h x6 = some r → Rn d 1 none 68 [some (.ref q0), some (.ref q1), none, some (.int x3), some (.int x4), some (.int x5), some (.int x6), none] [] h Q := by
  have hT := hX0_spread
  intro n
  induction n with
  | zero =>
    intro h x6 e
    rw [fX0_spread_l68] at e
    cases e
  | succ n ih =>
    intro h x6 e
    rw [fX0_spread_l68] at e
    refine Rn.n hT 2 (pc' := 71) (L' := [some (.ref q0), some (.ref q1), none, some (.int x3), some (.int x4), some (.int x5), some (.int x6), none]) (st' := [.int (4 : Int32), .int x6]) rfl ?_
    by_cases c_132 : (4 : Int32) ≤ x6
    · rw [if_pos c_132] at e
      refine Rn.bt hT rfl rfl rfl (decide_eq_true c_132) ?_
      exact Rn.weak (ll_s (ll_s (ll_n (ll_s (ll_n (ll_n (ll_n (ll_n ll_e)))))))) (hk h e)
    · rw [if_neg c_132] at e
      refine Rn.bf hT rfl rfl rfl (decide_eq_false c_132) ?_
      refine Rn.n hT 1 (pc' := 75) (L' := [some (.ref q0), some (.ref q1), none, some (.int x3), some (.int x4), some (.int x5), some (.int x6), none]) (st' := [.ref q1]) rfl ?_
      obtain ⟨v_133, e_134, e⟩ := Option.bind_eq_some_iff.mp e
      refine Rn.hp hT rfl rfl (gR_hp e_134) ?_
      refine Rn.n hT 2 (pc' := 82) (L' := [some (.ref q0), some (.ref q1), none, some (.int x3), some (.int x4), some (.int x5), some (.int x6), none]) (st' := [.int x6, .int x4, .ref v_133]) rfl ?_
      obtain ⟨_, e_136, e⟩ := Option.bind_eq_some_iff.mp e
      obtain ⟨v_137, e_135, e⟩ := Option.bind_eq_some_iff.mp e
      refine Rn.call hT rfl rfl rfl (Nat.le_of_ble_eq_true rfl) (rcv_v gX1_throughDoor (by omega) e_136) (rX1_throughDoor (by omega) e_135 ?_)
      show Rn d _ _ 85 [some (.ref q0), some (.ref q1), none, some (.int x3), some (.int x4), some (.int x5), some (.int x6), none] [.int v_137] h Q
      refine Rn.n hT 3 (pc' := 90) (L' := [some (.ref q0), some (.ref q1), none, some (.int x3), some (.int x4), some (.int x5), some (.int x6), some (.int v_137)]) (st' := [.int (-1 : Int32), .int v_137]) rfl ?_
      by_cases c_138 : v_137 = (-1 : Int32)
      · rw [if_pos c_138] at e
        refine Rn.bt hT rfl rfl rfl (decide_eq_true c_138) ?_
        exact Rn.weak (ll_s (ll_s (ll_n (ll_s (ll_s (ll_s (ll_s (ll_n ll_e)))))))) (rX0_spread_b142 hd ih hk hq e)
      · rw [if_neg c_138] at e
        refine Rn.bf hT rfl rfl rfl (decide_eq_false c_138) ?_
        refine Rn.n hT 1 (pc' := 94) (L' := [some (.ref q0), some (.ref q1), none, some (.int x3), some (.int x4), some (.int x5), some (.int x6), some (.int v_137)]) (st' := [.ref q1]) rfl ?_
        obtain ⟨v_139, e_140, e⟩ := Option.bind_eq_some_iff.mp e
        refine Rn.hp hT rfl rfl (gR_hp e_140) ?_
        refine Rn.n hT 3 (pc' := 103) (L' := [some (.ref q0), some (.ref q1), none, some (.int x3), some (.int x4), some (.int x5), some (.int x6), some (.int v_137)]) (st' := [.int v_137, .int x6, .int x4, .ref v_139]) rfl ?_
        obtain ⟨_, e_142, e⟩ := Option.bind_eq_some_iff.mp e
        obtain ⟨v_143, e_141, e⟩ := Option.bind_eq_some_iff.mp e
        refine Rn.call hT rfl rfl rfl (Nat.le_of_ble_eq_true rfl) (rcv_v gX1_locksBetween (by omega) e_142) (rX1_locksBetween (by omega) e_141 ?_)
        show Rn d _ _ 106 [some (.ref q0), some (.ref q1), none, some (.int x3), some (.int x4), some (.int x5), some (.int x6), some (.int v_137)] [.int v_143] h Q
        refine Rn.n hT 4 (pc' := 111) (L' := [some (.ref q0), some (.ref q1), none, some (.int x3), some (.int x4), some (.int x5), some (.int x6), some (.int v_137)]) (st' := [.int (v_143 &&& (x5 ^^^ (-1 : Int32)))]) rfl ?_
        by_cases c_144 : (v_143 &&& (x5 ^^^ (-1 : Int32))) = 0
        · rw [if_pos c_144] at e
          refine Rn.bf hT rfl rfl rfl (decide_eq_false (fun z => z c_144)) ?_
          refine Rn.n hT 5 (pc' := 122) (L' := [some (.ref q0), some (.ref q1), none, some (.int x3), some (.int x4), some (.int x5), some (.int x6), some (.int v_137)]) (st' := [.int v_137, .ref q1, .int x5, .int v_137, .ref q0]) rfl ?_
          obtain ⟨_, e_146, e⟩ := Option.bind_eq_some_iff.mp e
          obtain ⟨v_147, e_145, e⟩ := Option.bind_eq_some_iff.mp e
          refine Rn.call hT rfl rfl rfl (Nat.le_of_ble_eq_true rfl) (rcv_v gX2_keysIn (by omega) e_146) (rX2_keysIn (by omega) e_145 ?_)
          show Rn d _ _ 125 [some (.ref q0), some (.ref q1), none, some (.int x3), some (.int x4), some (.int x5), some (.int x6), some (.int v_137)] [.int v_147, .int x5, .int v_137, .ref q0] h Q
          refine Rn.n hT 2 (pc' := 127) (L' := [some (.ref q0), some (.ref q1), none, some (.int x3), some (.int x4), some (.int x5), some (.int x6), some (.int v_137)]) (st' := [.ref q0, .int (x5 ||| v_147), .int v_137, .ref q0]) rfl ?_
          obtain ⟨v_148, e_149, e⟩ := Option.bind_eq_some_iff.mp e
          refine Rn.hp hT rfl rfl (gR_hp e_149) ?_
          refine Rn.n hT 1 (pc' := 131) (L' := [some (.ref q0), some (.ref q1), none, some (.int x3), some (.int x4), some (.int x5), some (.int x6), some (.int v_137)]) (st' := [.ref q0, .ref v_148, .int (x5 ||| v_147), .int v_137, .ref q0]) rfl ?_
          obtain ⟨v_150, e_151, e⟩ := Option.bind_eq_some_iff.mp e
          refine Rn.hp hT rfl rfl (gR_hp e_151) ?_
          refine Rn.n hT 1 (pc' := 135) (L' := [some (.ref q0), some (.ref q1), none, some (.int x3), some (.int x4), some (.int x5), some (.int x6), some (.int v_137)]) (st' := [.int x3, .ref v_150, .ref v_148, .int (x5 ||| v_147), .int v_137, .ref q0]) rfl ?_
          obtain ⟨v_152, e_153, e⟩ := Option.bind_eq_some_iff.mp e
          refine Rn.hp hT rfl rfl (aI_hp e_153) ?_
          obtain ⟨v_154, e_155, e⟩ := Option.bind_eq_some_iff.mp e
          refine Rn.hp hT rfl rfl (aI_hp e_155) ?_
          refine Rn.n hT 2 (pc' := 139) (L' := [some (.ref q0), some (.ref q1), none, some (.int x3), some (.int x4), some (.int x5), some (.int x6), some (.int v_137)]) (st' := [.int (v_154 + (1 : Int32)), .int (x5 ||| v_147), .int v_137, .ref q0]) rfl ?_
          obtain ⟨_, e_157, e⟩ := Option.bind_eq_some_iff.mp e
          obtain ⟨h_159, e_156, e⟩ := Option.bind_eq_some_iff.mp e
          refine Rn.call hT rfl rfl rfl (Nat.le_of_ble_eq_true rfl) (rcv_v gX0_come (by omega) e_157) (rX0_come (by omega) e_156 ?_)
          show Rn d _ _ 142 [some (.ref q0), some (.ref q1), none, some (.int x3), some (.int x4), some (.int x5), some (.int x6), some (.int v_137)] [] h_159 Q
          exact Rn.weak (ll_s (ll_s (ll_n (ll_s (ll_s (ll_s (ll_s (ll_n ll_e)))))))) (rX0_spread_b142 hd ih hk hq e)
        · rw [if_neg c_144] at e
          refine Rn.bt hT rfl rfl rfl (decide_eq_true c_144) ?_
          exact Rn.weak (ll_s (ll_s (ll_n (ll_s (ll_s (ll_s (ll_s (ll_n ll_e)))))))) (rX0_spread_b142 hd ih hk hq e)
def fX0_spread_l26 (N : Nat) (q0 : Nat) (q1 : Nat) (kx : iv_H → Option (iv_H)) : Nat → iv_H → Int32 → Option (iv_H)
  | 0, _, _ => none
  | n + 1, h, x3 => ((gI h 0 2 q0).bind fun v_115 => (if v_115 ≤ x3 then (kx h) else ((gR h 0 1 q0).bind fun v_118 => ((aL h v_118).bind fun v_120 => (if v_120 ≤ x3 then (kx h) else ((gR h 0 1 q0).bind fun v_123 => ((aI h v_123 x3).bind fun v_125 => ((gR h 0 1 q0).bind fun v_127 => ((aI h v_127 x3).bind fun v_129 => (fX0_spread_l68 N q0 q1 x3 (v_125 / (32 : Int32)) (v_129 - v_129 / (32 : Int32) * (32 : Int32)) (fun (h_131 : iv_H) => (fX0_spread_l26 N q0 q1 kx n h_131 (x3 + (1 : Int32)))) N h (0 : Int32)))))))))))
set_option maxRecDepth 10000 in
set_option maxHeartbeats 4000000 in
theorem rX0_spread_l26 {d N : Nat} (hd : 2 ≤ d) {q0 : Nat} {q1 : Nat} {kx : iv_H → Option (iv_H)} {r : iv_H} {Q : Option Value → iv_H → Prop} (hk : ∀ (h : iv_H), kx h = some r → Rn d 1 none 154 [none, none, none, none, none, none, none, none] [] h Q) (hq : Q none r) : ∀ (n : Nat) (h : iv_H) (x3 : Int32), fX0_spread_l26 N q0 q1 kx n h x3 = some r → Rn d 1 none 26 [some (.ref q0), some (.ref q1), none, some (.int x3), none, none, none, none] [] h Q := by
  have hT := hX0_spread
  intro n
  induction n with
  | zero =>
    intro h x3 e
    rw [fX0_spread_l26] at e
    cases e
  | succ n ih =>
    intro h x3 e
    rw [fX0_spread_l26] at e
    refine Rn.n hT 2 (pc' := 28) (L' := [some (.ref q0), some (.ref q1), none, some (.int x3), none, none, none, none]) (st' := [.ref q0, .int x3]) rfl ?_
    obtain ⟨v_115, e_116, e⟩ := Option.bind_eq_some_iff.mp e
    refine Rn.hp hT rfl rfl (gI_hp e_116) ?_
    by_cases c_117 : v_115 ≤ x3
    · rw [if_pos c_117] at e
      refine Rn.bt hT rfl rfl rfl (decide_eq_true c_117) ?_
      exact Rn.weak (ll_n (ll_n (ll_n (ll_n (ll_n (ll_n (ll_n (ll_n ll_e)))))))) (hk h e)
    · rw [if_neg c_117] at e
      refine Rn.bf hT rfl rfl rfl (decide_eq_false c_117) ?_
      refine Rn.n hT 2 (pc' := 36) (L' := [some (.ref q0), some (.ref q1), none, some (.int x3), none, none, none, none]) (st' := [.ref q0, .int x3]) rfl ?_
      obtain ⟨v_118, e_119, e⟩ := Option.bind_eq_some_iff.mp e
      refine Rn.hp hT rfl rfl (gR_hp e_119) ?_
      obtain ⟨v_120, e_121, e⟩ := Option.bind_eq_some_iff.mp e
      refine Rn.hp hT rfl rfl (aL_hp e_121) ?_
      by_cases c_122 : v_120 ≤ x3
      · rw [if_pos c_122] at e
        refine Rn.bt hT rfl rfl rfl (decide_eq_true c_122) ?_
        exact Rn.weak (ll_n (ll_n (ll_n (ll_n (ll_n (ll_n (ll_n (ll_n ll_e)))))))) (hk h e)
      · rw [if_neg c_122] at e
        refine Rn.bf hT rfl rfl rfl (decide_eq_false c_122) ?_
        refine Rn.n hT 1 (pc' := 44) (L' := [some (.ref q0), some (.ref q1), none, some (.int x3), none, none, none, none]) (st' := [.ref q0]) rfl ?_
        obtain ⟨v_123, e_124, e⟩ := Option.bind_eq_some_iff.mp e
        refine Rn.hp hT rfl rfl (gR_hp e_124) ?_
        refine Rn.n hT 1 (pc' := 48) (L' := [some (.ref q0), some (.ref q1), none, some (.int x3), none, none, none, none]) (st' := [.int x3, .ref v_123]) rfl ?_
        obtain ⟨v_125, e_126, e⟩ := Option.bind_eq_some_iff.mp e
        refine Rn.hp hT rfl rfl (aI_hp e_126) ?_
        refine Rn.n hT 4 (pc' := 55) (L' := [some (.ref q0), some (.ref q1), none, some (.int x3), some (.int (v_125 / (32 : Int32))), none, none, none]) (st' := [.ref q0]) rfl ?_
        obtain ⟨v_127, e_128, e⟩ := Option.bind_eq_some_iff.mp e
        refine Rn.hp hT rfl rfl (gR_hp e_128) ?_
        refine Rn.n hT 1 (pc' := 59) (L' := [some (.ref q0), some (.ref q1), none, some (.int x3), some (.int (v_125 / (32 : Int32))), none, none, none]) (st' := [.int x3, .ref v_127]) rfl ?_
        obtain ⟨v_129, e_130, e⟩ := Option.bind_eq_some_iff.mp e
        refine Rn.hp hT rfl rfl (aI_hp e_130) ?_
        refine Rn.n hT 5 (pc' := 68) (L' := [some (.ref q0), some (.ref q1), none, some (.int x3), some (.int (v_125 / (32 : Int32))), some (.int (v_129 - v_129 / (32 : Int32) * (32 : Int32))), some (.int (0 : Int32)), none]) (st' := []) rfl ?_
        refine Rn.weak (ll_s (ll_s (ll_n (ll_s (ll_s (ll_s (ll_s (ll_n ll_e)))))))) (rX0_spread_l68 hd (fun h_131 e => ?_) hq N h (0 : Int32) e)
        try dsimp only at e
        refine Rn.n hT 2 (pc' := 26) (L' := [some (.ref q0), some (.ref q1), none, some (.int (x3 + (1 : Int32))), none, none, none, none]) (st' := []) rfl ?_
        exact Rn.weak (ll_s (ll_s (ll_n (ll_s (ll_n (ll_n (ll_n (ll_n ll_e)))))))) (ih h_131 (x3 + (1 : Int32)) e)
def fX0_spread_b154 (N : Nat) (h : iv_H)   : Option (iv_H) := some h
set_option maxRecDepth 10000 in
set_option maxHeartbeats 4000000 in
theorem rX0_spread_b154 {d N : Nat} (hd : 2 ≤ d) {h : iv_H}   {r : iv_H} {Q : Option Value → iv_H → Prop} (hq : Q none r) (e : fX0_spread_b154 N h   = some r) : Rn d 1 none 154 [none, none, none, none, none, none, none, none] [] h Q := by
  have hT := hX0_spread
  unfold fX0_spread_b154 at e
  obtain rfl := Option.some.inj e
  exact Rn.ret hT rfl rfl rfl hq
def fX0_spread (N : Nat) (h : iv_H) (q0 : Nat) (q1 : Nat) (x2 : Int32) : Option (iv_H) := ((gR h 0 0 q0).bind fun v_100 => ((fJ7_fill_53178 N h v_100 (-1 : Int32)).bind fun h_104 => ((pV h_104 0 2 q0 (.int (0 : Int32))).bind fun h_105 => ((cko h_105 q1 2).bind fun _ => (fX2_keysIn N h_105 q1 x2).bind fun v_109 => ((cko h_105 q0 0).bind fun _ => (fX0_come N h_105 q0 x2 v_109 (0 : Int32)).bind fun h_113 => (fX0_spread_l26 N q0 q1 (fun (h_114 : iv_H) => (fX0_spread_b154 N h_114)) N h_113 (0 : Int32)))))))
set_option maxRecDepth 10000 in
set_option maxHeartbeats 4000000 in
theorem rX0_spread {d N : Nat} (hd : 3 ≤ d) {h : iv_H} {q0 : Nat} {q1 : Nat} {x2 : Int32} {r : iv_H} {Q : Option Value → iv_H → Prop} (e : fX0_spread N h q0 q1 x2 = some r) (hq : Q none r) : Cl d 1 [.ref q0, .ref q1, .int x2] h Q := by
  obtain ⟨d, rfl⟩ : ∃ k, d = k + 1 := ⟨d - 1, by omega⟩
  have hd : 2 ≤ d := by omega
  have hT := hX0_spread
  unfold fX0_spread at e
  refine Cl.into (by decide) gX0_spread rfl ?_
  show Rn d 1 none 0 [some (.ref q0), some (.ref q1), some (.int x2), none, none, none, none, none] [] h Q
  refine Rn.n hT 1 (pc' := 1) (L' := [some (.ref q0), some (.ref q1), some (.int x2), none, none, none, none, none]) (st' := [.ref q0]) rfl ?_
  obtain ⟨v_100, e_101, e⟩ := Option.bind_eq_some_iff.mp e
  refine Rn.hp hT rfl rfl (gR_hp e_101) ?_
  refine Rn.n hT 1 (pc' := 5) (L' := [some (.ref q0), some (.ref q1), some (.int x2), none, none, none, none, none]) (st' := [.int (-1 : Int32), .ref v_100]) rfl ?_
  obtain ⟨h_104, e_102, e⟩ := Option.bind_eq_some_iff.mp e
  refine Rn.call hT rfl rfl rfl (Nat.le_of_ble_eq_true rfl) rfl (rJ7_fill_53178 (by omega) e_102 ?_)
  show Rn d _ _ 8 [some (.ref q0), some (.ref q1), some (.int x2), none, none, none, none, none] [] h_104 Q
  refine Rn.n hT 2 (pc' := 10) (L' := [some (.ref q0), some (.ref q1), some (.int x2), none, none, none, none, none]) (st' := [.int (0 : Int32), .ref q0]) rfl ?_
  obtain ⟨h_105, e_106, e⟩ := Option.bind_eq_some_iff.mp e
  refine Rn.hp hT rfl rfl (pV_hp rfl e_106) ?_
  refine Rn.n hT 4 (pc' := 17) (L' := [some (.ref q0), some (.ref q1), some (.int x2), none, none, none, none, none]) (st' := [.int x2, .ref q1, .int x2, .ref q0]) rfl ?_
  obtain ⟨_, e_108, e⟩ := Option.bind_eq_some_iff.mp e
  obtain ⟨v_109, e_107, e⟩ := Option.bind_eq_some_iff.mp e
  refine Rn.call hT rfl rfl rfl (Nat.le_of_ble_eq_true rfl) (rcv_v gX2_keysIn (by omega) e_108) (rX2_keysIn (by omega) e_107 ?_)
  show Rn d _ _ 20 [some (.ref q0), some (.ref q1), some (.int x2), none, none, none, none, none] [.int v_109, .int x2, .ref q0] h_105 Q
  refine Rn.n hT 1 (pc' := 21) (L' := [some (.ref q0), some (.ref q1), some (.int x2), none, none, none, none, none]) (st' := [.int (0 : Int32), .int v_109, .int x2, .ref q0]) rfl ?_
  obtain ⟨_, e_111, e⟩ := Option.bind_eq_some_iff.mp e
  obtain ⟨h_113, e_110, e⟩ := Option.bind_eq_some_iff.mp e
  refine Rn.call hT rfl rfl rfl (Nat.le_of_ble_eq_true rfl) (rcv_v gX0_come (by omega) e_111) (rX0_come (by omega) e_110 ?_)
  show Rn d _ _ 24 [some (.ref q0), some (.ref q1), some (.int x2), none, none, none, none, none] [] h_113 Q
  refine Rn.n hT 2 (pc' := 26) (L' := [some (.ref q0), some (.ref q1), some (.int x2), some (.int (0 : Int32)), none, none, none, none]) (st' := []) rfl ?_
  refine Rn.weak (ll_s (ll_s (ll_n (ll_s (ll_n (ll_n (ll_n (ll_n ll_e)))))))) (rX0_spread_l26 hd (fun h_114 e => ?_) hq N h_113 (0 : Int32) e)
  try dsimp only at e
  exact Rn.weak (ll_n (ll_n (ll_n (ll_n (ll_n (ll_n (ll_n (ll_n ll_e)))))))) (rX0_spread_b154 hd hq e)
set_option maxRecDepth 10000 in
theorem hX0_fewest : iv_Tb 3 tX0_fewest := iv_tb_of (m := mX0_fewest) rfl
set_option maxRecDepth 10000 in
theorem gX0_fewest : PG.2 3 = some mX0_fewest := iv_pi_of (t := tX0_fewest) rfl (by decide)
def fX0_fewest_l2 (N : Nat) (h : iv_H) (q0 : Nat) (x1 : Int32) (kx : Unit → Option (Int32)) : Nat → Int32 → Option (Int32)
  | 0, _ => none
  | n + 1, x2 => ((gI h 0 2 q0).bind fun v_160 => (if v_160 ≤ x2 then (kx ()) else ((gR h 0 1 q0).bind fun v_163 => ((aI h v_163 x2).bind fun v_165 => (if (v_165 / (32 : Int32)) = x1 then ((gR h 0 0 q0).bind fun v_168 => ((gR h 0 1 q0).bind fun v_170 => ((aI h v_170 x2).bind fun v_172 => ((aI h v_168 v_172).bind fun v_174 => (some v_174))))) else (fX0_fewest_l2 N h q0 x1 kx n (x2 + (1 : Int32))))))))
set_option maxRecDepth 10000 in
set_option maxHeartbeats 4000000 in
theorem rX0_fewest_l2 {d N : Nat} (hd : 0 ≤ d) {h : iv_H} {q0 : Nat} {x1 : Int32} {kx : Unit → Option (Int32)} {r : Int32} {Q : Option Value → iv_H → Prop} (hk : ∀ (u : Unit), kx u = some r → Rn d 3 (some .int) 41 [none, none, none] [] h Q) (hq : Q (some (.int r)) h) : ∀ (n : Nat) (x2 : Int32), fX0_fewest_l2 N h q0 x1 kx n x2 = some r → Rn d 3 (some .int) 2 [some (.ref q0), some (.int x1), some (.int x2)] [] h Q := by
  have hT := hX0_fewest
  intro n
  induction n with
  | zero =>
    intro x2 e
    rw [fX0_fewest_l2] at e
    cases e
  | succ n ih =>
    intro x2 e
    rw [fX0_fewest_l2] at e
    refine Rn.n hT 2 (pc' := 4) (L' := [some (.ref q0), some (.int x1), some (.int x2)]) (st' := [.ref q0, .int x2]) rfl ?_
    obtain ⟨v_160, e_161, e⟩ := Option.bind_eq_some_iff.mp e
    refine Rn.hp hT rfl rfl (gI_hp e_161) ?_
    by_cases c_162 : v_160 ≤ x2
    · rw [if_pos c_162] at e
      refine Rn.bt hT rfl rfl rfl (decide_eq_true c_162) ?_
      exact Rn.weak (ll_n (ll_n (ll_n ll_e))) (hk () e)
    · rw [if_neg c_162] at e
      refine Rn.bf hT rfl rfl rfl (decide_eq_false c_162) ?_
      refine Rn.n hT 1 (pc' := 11) (L' := [some (.ref q0), some (.int x1), some (.int x2)]) (st' := [.ref q0]) rfl ?_
      obtain ⟨v_163, e_164, e⟩ := Option.bind_eq_some_iff.mp e
      refine Rn.hp hT rfl rfl (gR_hp e_164) ?_
      refine Rn.n hT 1 (pc' := 15) (L' := [some (.ref q0), some (.int x1), some (.int x2)]) (st' := [.int x2, .ref v_163]) rfl ?_
      obtain ⟨v_165, e_166, e⟩ := Option.bind_eq_some_iff.mp e
      refine Rn.hp hT rfl rfl (aI_hp e_166) ?_
      refine Rn.n hT 3 (pc' := 20) (L' := [some (.ref q0), some (.int x1), some (.int x2)]) (st' := [.int x1, .int (v_165 / (32 : Int32))]) rfl ?_
      by_cases c_167 : (v_165 / (32 : Int32)) = x1
      · rw [if_pos c_167] at e
        refine Rn.bf hT rfl rfl rfl (decide_eq_false (fun z => z c_167)) ?_
        refine Rn.n hT 1 (pc' := 24) (L' := [some (.ref q0), some (.int x1), some (.int x2)]) (st' := [.ref q0]) rfl ?_
        obtain ⟨v_168, e_169, e⟩ := Option.bind_eq_some_iff.mp e
        refine Rn.hp hT rfl rfl (gR_hp e_169) ?_
        refine Rn.n hT 1 (pc' := 28) (L' := [some (.ref q0), some (.int x1), some (.int x2)]) (st' := [.ref q0, .ref v_168]) rfl ?_
        obtain ⟨v_170, e_171, e⟩ := Option.bind_eq_some_iff.mp e
        refine Rn.hp hT rfl rfl (gR_hp e_171) ?_
        refine Rn.n hT 1 (pc' := 32) (L' := [some (.ref q0), some (.int x1), some (.int x2)]) (st' := [.int x2, .ref v_170, .ref v_168]) rfl ?_
        obtain ⟨v_172, e_173, e⟩ := Option.bind_eq_some_iff.mp e
        refine Rn.hp hT rfl rfl (aI_hp e_173) ?_
        obtain ⟨v_174, e_175, e⟩ := Option.bind_eq_some_iff.mp e
        refine Rn.hp hT rfl rfl (aI_hp e_175) ?_
        obtain rfl := Option.some.inj e
        exact Rn.ret hT rfl rfl rfl hq
      · rw [if_neg c_167] at e
        refine Rn.bt hT rfl rfl rfl (decide_eq_true c_167) ?_
        refine Rn.n hT 2 (pc' := 2) (L' := [some (.ref q0), some (.int x1), some (.int (x2 + (1 : Int32)))]) (st' := []) rfl ?_
        exact Rn.weak (ll_s (ll_s (ll_s ll_e))) (ih (x2 + (1 : Int32)) e)
def fX0_fewest (N : Nat) (h : iv_H) (q0 : Nat) (x1 : Int32) : Option (Int32) := (fX0_fewest_l2 N h q0 x1 (fun (_ : Unit) => (some (-2 : Int32))) N (0 : Int32))
set_option maxRecDepth 10000 in
set_option maxHeartbeats 4000000 in
theorem rX0_fewest {d N : Nat} (hd : 1 ≤ d) {h : iv_H} {q0 : Nat} {x1 : Int32} {r : Int32} {Q : Option Value → iv_H → Prop} (e : fX0_fewest N h q0 x1 = some r) (hq : Q (some (.int r)) h) : Cl d 3 [.ref q0, .int x1] h Q := by
  obtain ⟨d, rfl⟩ : ∃ k, d = k + 1 := ⟨d - 1, by omega⟩
  have hd : 0 ≤ d := by omega
  have hT := hX0_fewest
  unfold fX0_fewest at e
  refine Cl.into (by decide) gX0_fewest rfl ?_
  show Rn d 3 (some .int) 0 [some (.ref q0), some (.int x1), none] [] h Q
  refine Rn.n hT 2 (pc' := 2) (L' := [some (.ref q0), some (.int x1), some (.int (0 : Int32))]) (st' := []) rfl ?_
  refine Rn.weak (ll_s (ll_s (ll_s ll_e))) (rX0_fewest_l2 hd (fun _ e => ?_) hq N (0 : Int32) e)
  try dsimp only at e
  refine Rn.n hT 1 (pc' := 43) (L' := [none, none, none]) (st' := [.int (-2 : Int32)]) rfl ?_
  obtain rfl := Option.some.inj e
  exact Rn.ret hT rfl rfl rfl hq
set_option maxRecDepth 10000 in
theorem hX0_reachedRooms : iv_Tb 4 tX0_reachedRooms := iv_tb_of (m := mX0_reachedRooms) rfl
set_option maxRecDepth 10000 in
theorem gX0_reachedRooms : PG.2 4 = some mX0_reachedRooms := iv_pi_of (t := tX0_reachedRooms) rfl (by decide)
def fX0_reachedRooms_l4 (N : Nat) (h : iv_H) (q0 : Nat) (kx : Int32 → Option (Int32)) : Nat → Int32 → Int32 → Option (Int32)
  | 0, _, _ => none
  | n + 1, x1, x2 => ((gI h 0 2 q0).bind fun v_177 => (if v_177 ≤ x2 then (kx x1) else ((gR h 0 1 q0).bind fun v_180 => ((aI h v_180 x2).bind fun v_182 => (fX0_reachedRooms_l4 N h q0 kx n (x1 ||| ((1 : Int32) <<< ((v_182 / (32 : Int32)) &&& 31))) (x2 + (1 : Int32)))))))
set_option maxRecDepth 10000 in
set_option maxHeartbeats 4000000 in
theorem rX0_reachedRooms_l4 {d N : Nat} (hd : 0 ≤ d) {h : iv_H} {q0 : Nat} {kx : Int32 → Option (Int32)} {r : Int32} {Q : Option Value → iv_H → Prop} (hk : ∀ (x1 : Int32), kx x1 = some r → Rn d 4 (some .int) 32 [none, some (.int x1), none] [] h Q) (hq : Q (some (.int r)) h) : ∀ (n : Nat) (x1 : Int32) (x2 : Int32), fX0_reachedRooms_l4 N h q0 kx n x1 x2 = some r → Rn d 4 (some .int) 4 [some (.ref q0), some (.int x1), some (.int x2)] [] h Q := by
  have hT := hX0_reachedRooms
  intro n
  induction n with
  | zero =>
    intro x1 x2 e
    rw [fX0_reachedRooms_l4] at e
    cases e
  | succ n ih =>
    intro x1 x2 e
    rw [fX0_reachedRooms_l4] at e
    refine Rn.n hT 2 (pc' := 6) (L' := [some (.ref q0), some (.int x1), some (.int x2)]) (st' := [.ref q0, .int x2]) rfl ?_
    obtain ⟨v_177, e_178, e⟩ := Option.bind_eq_some_iff.mp e
    refine Rn.hp hT rfl rfl (gI_hp e_178) ?_
    by_cases c_179 : v_177 ≤ x2
    · rw [if_pos c_179] at e
      refine Rn.bt hT rfl rfl rfl (decide_eq_true c_179) ?_
      exact Rn.weak (ll_n (ll_s (ll_n ll_e))) (hk x1 e)
    · rw [if_neg c_179] at e
      refine Rn.bf hT rfl rfl rfl (decide_eq_false c_179) ?_
      refine Rn.n hT 3 (pc' := 15) (L' := [some (.ref q0), some (.int x1), some (.int x2)]) (st' := [.ref q0, .int (1 : Int32), .int x1]) rfl ?_
      obtain ⟨v_180, e_181, e⟩ := Option.bind_eq_some_iff.mp e
      refine Rn.hp hT rfl rfl (gR_hp e_181) ?_
      refine Rn.n hT 1 (pc' := 19) (L' := [some (.ref q0), some (.int x1), some (.int x2)]) (st' := [.int x2, .ref v_180, .int (1 : Int32), .int x1]) rfl ?_
      obtain ⟨v_182, e_183, e⟩ := Option.bind_eq_some_iff.mp e
      refine Rn.hp hT rfl rfl (aI_hp e_183) ?_
      refine Rn.n hT 7 (pc' := 4) (L' := [some (.ref q0), some (.int (x1 ||| ((1 : Int32) <<< ((v_182 / (32 : Int32)) &&& 31)))), some (.int (x2 + (1 : Int32)))]) (st' := []) rfl ?_
      exact Rn.weak (ll_s (ll_s (ll_s ll_e))) (ih (x1 ||| ((1 : Int32) <<< ((v_182 / (32 : Int32)) &&& 31))) (x2 + (1 : Int32)) e)
def fX0_reachedRooms (N : Nat) (h : iv_H) (q0 : Nat) : Option (Int32) := (fX0_reachedRooms_l4 N h q0 (fun (z_176 : Int32) => (some z_176)) N (0 : Int32) (0 : Int32))
set_option maxRecDepth 10000 in
set_option maxHeartbeats 4000000 in
theorem rX0_reachedRooms {d N : Nat} (hd : 1 ≤ d) {h : iv_H} {q0 : Nat} {r : Int32} {Q : Option Value → iv_H → Prop} (e : fX0_reachedRooms N h q0 = some r) (hq : Q (some (.int r)) h) : Cl d 4 [.ref q0] h Q := by
  obtain ⟨d, rfl⟩ : ∃ k, d = k + 1 := ⟨d - 1, by omega⟩
  have hd : 0 ≤ d := by omega
  have hT := hX0_reachedRooms
  unfold fX0_reachedRooms at e
  refine Cl.into (by decide) gX0_reachedRooms rfl ?_
  show Rn d 4 (some .int) 0 [some (.ref q0), none, none] [] h Q
  refine Rn.n hT 4 (pc' := 4) (L' := [some (.ref q0), some (.int (0 : Int32)), some (.int (0 : Int32))]) (st' := []) rfl ?_
  refine Rn.weak (ll_s (ll_s (ll_s ll_e))) (rX0_reachedRooms_l4 hd (fun z_176 e => ?_) hq N (0 : Int32) (0 : Int32) e)
  try dsimp only at e
  refine Rn.n hT 1 (pc' := 33) (L' := [none, some (.int z_176), none]) (st' := [.int z_176]) rfl ?_
  obtain rfl := Option.some.inj e
  exact Rn.ret hT rfl rfl rfl hq
set_option maxRecDepth 10000 in
theorem hX0_reachedKeys : iv_Tb 5 tX0_reachedKeys := iv_tb_of (m := mX0_reachedKeys) rfl
set_option maxRecDepth 10000 in
theorem gX0_reachedKeys : PG.2 5 = some mX0_reachedKeys := iv_pi_of (t := tX0_reachedKeys) rfl (by decide)
def fX0_reachedKeys_l4 (N : Nat) (h : iv_H) (q0 : Nat) (kx : Int32 → Option (Int32)) : Nat → Int32 → Int32 → Option (Int32)
  | 0, _, _ => none
  | n + 1, x1, x2 => ((gI h 0 2 q0).bind fun v_185 => (if v_185 ≤ x2 then (kx x1) else ((gR h 0 1 q0).bind fun v_188 => ((aI h v_188 x2).bind fun v_190 => (fX0_reachedKeys_l4 N h q0 kx n (x1 ||| (v_190 - v_190 / (32 : Int32) * (32 : Int32))) (x2 + (1 : Int32)))))))
set_option maxRecDepth 10000 in
set_option maxHeartbeats 4000000 in
theorem rX0_reachedKeys_l4 {d N : Nat} (hd : 0 ≤ d) {h : iv_H} {q0 : Nat} {kx : Int32 → Option (Int32)} {r : Int32} {Q : Option Value → iv_H → Prop} (hk : ∀ (x1 : Int32), kx x1 = some r → Rn d 5 (some .int) 30 [none, some (.int x1), none] [] h Q) (hq : Q (some (.int r)) h) : ∀ (n : Nat) (x1 : Int32) (x2 : Int32), fX0_reachedKeys_l4 N h q0 kx n x1 x2 = some r → Rn d 5 (some .int) 4 [some (.ref q0), some (.int x1), some (.int x2)] [] h Q := by
  have hT := hX0_reachedKeys
  intro n
  induction n with
  | zero =>
    intro x1 x2 e
    rw [fX0_reachedKeys_l4] at e
    cases e
  | succ n ih =>
    intro x1 x2 e
    rw [fX0_reachedKeys_l4] at e
    refine Rn.n hT 2 (pc' := 6) (L' := [some (.ref q0), some (.int x1), some (.int x2)]) (st' := [.ref q0, .int x2]) rfl ?_
    obtain ⟨v_185, e_186, e⟩ := Option.bind_eq_some_iff.mp e
    refine Rn.hp hT rfl rfl (gI_hp e_186) ?_
    by_cases c_187 : v_185 ≤ x2
    · rw [if_pos c_187] at e
      refine Rn.bt hT rfl rfl rfl (decide_eq_true c_187) ?_
      exact Rn.weak (ll_n (ll_s (ll_n ll_e))) (hk x1 e)
    · rw [if_neg c_187] at e
      refine Rn.bf hT rfl rfl rfl (decide_eq_false c_187) ?_
      refine Rn.n hT 2 (pc' := 14) (L' := [some (.ref q0), some (.int x1), some (.int x2)]) (st' := [.ref q0, .int x1]) rfl ?_
      obtain ⟨v_188, e_189, e⟩ := Option.bind_eq_some_iff.mp e
      refine Rn.hp hT rfl rfl (gR_hp e_189) ?_
      refine Rn.n hT 1 (pc' := 18) (L' := [some (.ref q0), some (.int x1), some (.int x2)]) (st' := [.int x2, .ref v_188, .int x1]) rfl ?_
      obtain ⟨v_190, e_191, e⟩ := Option.bind_eq_some_iff.mp e
      refine Rn.hp hT rfl rfl (aI_hp e_191) ?_
      refine Rn.n hT 6 (pc' := 4) (L' := [some (.ref q0), some (.int (x1 ||| (v_190 - v_190 / (32 : Int32) * (32 : Int32)))), some (.int (x2 + (1 : Int32)))]) (st' := []) rfl ?_
      exact Rn.weak (ll_s (ll_s (ll_s ll_e))) (ih (x1 ||| (v_190 - v_190 / (32 : Int32) * (32 : Int32))) (x2 + (1 : Int32)) e)
def fX0_reachedKeys (N : Nat) (h : iv_H) (q0 : Nat) : Option (Int32) := (fX0_reachedKeys_l4 N h q0 (fun (z_184 : Int32) => (some z_184)) N (0 : Int32) (0 : Int32))
set_option maxRecDepth 10000 in
set_option maxHeartbeats 4000000 in
theorem rX0_reachedKeys {d N : Nat} (hd : 1 ≤ d) {h : iv_H} {q0 : Nat} {r : Int32} {Q : Option Value → iv_H → Prop} (e : fX0_reachedKeys N h q0 = some r) (hq : Q (some (.int r)) h) : Cl d 5 [.ref q0] h Q := by
  obtain ⟨d, rfl⟩ : ∃ k, d = k + 1 := ⟨d - 1, by omega⟩
  have hd : 0 ≤ d := by omega
  have hT := hX0_reachedKeys
  unfold fX0_reachedKeys at e
  refine Cl.into (by decide) gX0_reachedKeys rfl ?_
  show Rn d 5 (some .int) 0 [some (.ref q0), none, none] [] h Q
  refine Rn.n hT 4 (pc' := 4) (L' := [some (.ref q0), some (.int (0 : Int32)), some (.int (0 : Int32))]) (st' := []) rfl ?_
  refine Rn.weak (ll_s (ll_s (ll_s ll_e))) (rX0_reachedKeys_l4 hd (fun z_184 e => ?_) hq N (0 : Int32) (0 : Int32) e)
  try dsimp only at e
  refine Rn.n hT 1 (pc' := 31) (L' := [none, some (.int z_184), none]) (st' := [.int z_184]) rfl ?_
  obtain rfl := Option.some.inj e
  exact Rn.ret hT rfl rfl rfl hq
set_option maxRecDepth 10000 in
theorem hX0_besides : iv_Tb 7 tX0_besides := iv_tb_of (m := mX0_besides) rfl
set_option maxRecDepth 10000 in
theorem gX0_besides : PG.2 7 = some mX0_besides := iv_pi_of (t := tX0_besides) rfl (by decide)
def fX0_besides_b52 (N : Nat) (h : iv_H) (q1 : Nat) (x2 : Int32) (x3 : Int32) (x4 : Int32) (x5 : Int32)  (kb : Int32 → Int32 → Option (Int32)) (kx : Int32 → Option (Int32)) : Option (Int32) := (kb x4 (x5 + (1 : Int32)))
set_option maxRecDepth 10000 in
set_option maxHeartbeats 4000000 in
theorem rX0_besides_b52 {d N : Nat} (hd : 2 ≤ d) {h : iv_H} {q1 : Nat} {x2 : Int32} {x3 : Int32} {x4 : Int32} {x5 : Int32}  {kb : Int32 → Int32 → Option (Int32)} {kx : Int32 → Option (Int32)} {r : Int32} {Q : Option Value → iv_H → Prop} (hb : ∀ (w4 : Int32) (w5 : Int32), kb w4 w5 = some r → Rn d 7 (some .int) 6 [none, some (.ref q1), some (.int x2), some (.int x3), some (.int w4), some (.int w5), none] [] h Q) (hk : ∀ (w4 : Int32), kx w4 = some r → Rn d 7 (some .int) 58 [none, none, none, none, some (.int w4), none, none] [] h Q) (hq : Q (some (.int r)) h) (e : fX0_besides_b52 N h q1 x2 x3 x4 x5  kb kx = some r) : Rn d 7 (some .int) 52 [none, some (.ref q1), some (.int x2), some (.int x3), some (.int x4), some (.int x5), none] [] h Q := by
  have hT := hX0_besides
  unfold fX0_besides_b52 at e
  refine Rn.n hT 2 (pc' := 6) (L' := [none, some (.ref q1), some (.int x2), some (.int x3), some (.int x4), some (.int (x5 + (1 : Int32))), none]) (st' := []) rfl ?_
  exact Rn.weak (ll_n (ll_s (ll_s (ll_s (ll_s (ll_s (ll_n ll_e))))))) (hb x4 (x5 + (1 : Int32)) e)
def fX0_besides_b43 (N : Nat) (h : iv_H) (q1 : Nat) (x2 : Int32) (x3 : Int32) (x4 : Int32) (x5 : Int32) (x6 : Int32)  (kb : Int32 → Int32 → Option (Int32)) (kx : Int32 → Option (Int32)) : Option (Int32) := (fX0_besides_b52 N h q1 x2 x3 (x4 ||| ((1 : Int32) <<< (x6 &&& 31))) x5 kb kx)
set_option maxRecDepth 10000 in
set_option maxHeartbeats 4000000 in
theorem rX0_besides_b43 {d N : Nat} (hd : 2 ≤ d) {h : iv_H} {q1 : Nat} {x2 : Int32} {x3 : Int32} {x4 : Int32} {x5 : Int32} {x6 : Int32}  {kb : Int32 → Int32 → Option (Int32)} {kx : Int32 → Option (Int32)} {r : Int32} {Q : Option Value → iv_H → Prop} (hb : ∀ (w4 : Int32) (w5 : Int32), kb w4 w5 = some r → Rn d 7 (some .int) 6 [none, some (.ref q1), some (.int x2), some (.int x3), some (.int w4), some (.int w5), none] [] h Q) (hk : ∀ (w4 : Int32), kx w4 = some r → Rn d 7 (some .int) 58 [none, none, none, none, some (.int w4), none, none] [] h Q) (hq : Q (some (.int r)) h) (e : fX0_besides_b43 N h q1 x2 x3 x4 x5 x6  kb kx = some r) : Rn d 7 (some .int) 43 [none, some (.ref q1), some (.int x2), some (.int x3), some (.int x4), some (.int x5), some (.int x6)] [] h Q := by
  have hT := hX0_besides
  unfold fX0_besides_b43 at e
  refine Rn.n hT 6 (pc' := 52) (L' := [none, some (.ref q1), some (.int x2), some (.int x3), some (.int (x4 ||| ((1 : Int32) <<< (x6 &&& 31)))), some (.int x5), some (.int x6)]) (st' := []) rfl ?_
  exact Rn.weak (ll_n (ll_s (ll_s (ll_s (ll_s (ll_s (ll_n ll_e))))))) (rX0_besides_b52 hd hb hk hq e)
def fX0_besides_l6 (N : Nat) (h : iv_H) (q1 : Nat) (x2 : Int32) (x3 : Int32) (kx : Int32 → Option (Int32)) : Nat → Int32 → Int32 → Option (Int32)
  | 0, _, _ => none
  | n + 1, x4, x5 => (if (4 : Int32) ≤ x5 then (kx x4) else ((cko h q1 1).bind fun _ => (fX1_throughDoor N h q1 x2 x5).bind fun v_196 => (if v_196 = (-1 : Int32) then (fX0_besides_b52 N h q1 x2 x3 x4 x5 (fX0_besides_l6 N h q1 x2 x3 kx n) kx) else (if x3 = 0 then ((cko h q1 1).bind fun _ => (fX1_locksBetween N h q1 x2 x5 v_196).bind fun v_201 => (if v_201 = 0 then (fX0_besides_b43 N h q1 x2 x3 x4 x5 v_196 (fX0_besides_l6 N h q1 x2 x3 kx n) kx) else (fX0_besides_b52 N h q1 x2 x3 x4 x5 (fX0_besides_l6 N h q1 x2 x3 kx n) kx))) else (fX0_besides_b43 N h q1 x2 x3 x4 x5 v_196 (fX0_besides_l6 N h q1 x2 x3 kx n) kx)))))
set_option maxRecDepth 10000 in
set_option maxHeartbeats 4000000 in
theorem rX0_besides_l6 {d N : Nat} (hd : 2 ≤ d) {h : iv_H} {q1 : Nat} {x2 : Int32} {x3 : Int32} {kx : Int32 → Option (Int32)} {r : Int32} {Q : Option Value → iv_H → Prop} (hk : ∀ (x4 : Int32), kx x4 = some r → Rn d 7 (some .int) 58 [none, none, none, none, some (.int x4), none, none] [] h Q) (hq : Q (some (.int r)) h) : ∀ (n : Nat) (x4 : Int32) (x5 : Int32), fX0_besides_l6 N h q1 x2 x3 kx n x4 x5 = some r → Rn d 7 (some .int) 6 [none, some (.ref q1), some (.int x2), some (.int x3), some (.int x4), some (.int x5), none] [] h Q := by
  have hT := hX0_besides
  intro n
  induction n with
  | zero =>
    intro x4 x5 e
    rw [fX0_besides_l6] at e
    cases e
  | succ n ih =>
    intro x4 x5 e
    rw [fX0_besides_l6] at e
    refine Rn.n hT 2 (pc' := 9) (L' := [none, some (.ref q1), some (.int x2), some (.int x3), some (.int x4), some (.int x5), none]) (st' := [.int (4 : Int32), .int x5]) rfl ?_
    by_cases c_193 : (4 : Int32) ≤ x5
    · rw [if_pos c_193] at e
      refine Rn.bt hT rfl rfl rfl (decide_eq_true c_193) ?_
      exact Rn.weak (ll_n (ll_n (ll_n (ll_n (ll_s (ll_n (ll_n ll_e))))))) (hk x4 e)
    · rw [if_neg c_193] at e
      refine Rn.bf hT rfl rfl rfl (decide_eq_false c_193) ?_
      refine Rn.n hT 3 (pc' := 16) (L' := [none, some (.ref q1), some (.int x2), some (.int x3), some (.int x4), some (.int x5), none]) (st' := [.int x5, .int x2, .ref q1]) rfl ?_
      obtain ⟨_, e_195, e⟩ := Option.bind_eq_some_iff.mp e
      obtain ⟨v_196, e_194, e⟩ := Option.bind_eq_some_iff.mp e
      refine Rn.call hT rfl rfl rfl (Nat.le_of_ble_eq_true rfl) (rcv_v gX1_throughDoor (by omega) e_195) (rX1_throughDoor (by omega) e_194 ?_)
      show Rn d _ _ 19 [none, some (.ref q1), some (.int x2), some (.int x3), some (.int x4), some (.int x5), none] [.int v_196] h Q
      refine Rn.n hT 3 (pc' := 24) (L' := [none, some (.ref q1), some (.int x2), some (.int x3), some (.int x4), some (.int x5), some (.int v_196)]) (st' := [.int (-1 : Int32), .int v_196]) rfl ?_
      by_cases c_197 : v_196 = (-1 : Int32)
      · rw [if_pos c_197] at e
        refine Rn.bt hT rfl rfl rfl (decide_eq_true c_197) ?_
        exact Rn.weak (ll_n (ll_s (ll_s (ll_s (ll_s (ll_s (ll_n ll_e))))))) (rX0_besides_b52 hd ih hk hq e)
      · rw [if_neg c_197] at e
        refine Rn.bf hT rfl rfl rfl (decide_eq_false c_197) ?_
        refine Rn.n hT 1 (pc' := 28) (L' := [none, some (.ref q1), some (.int x2), some (.int x3), some (.int x4), some (.int x5), some (.int v_196)]) (st' := [.int x3]) rfl ?_
        by_cases c_198 : x3 = 0
        · rw [if_pos c_198] at e
          refine Rn.bf hT rfl rfl rfl (decide_eq_false (fun z => z c_198)) ?_
          refine Rn.n hT 4 (pc' := 37) (L' := [none, some (.ref q1), some (.int x2), some (.int x3), some (.int x4), some (.int x5), some (.int v_196)]) (st' := [.int v_196, .int x5, .int x2, .ref q1]) rfl ?_
          obtain ⟨_, e_200, e⟩ := Option.bind_eq_some_iff.mp e
          obtain ⟨v_201, e_199, e⟩ := Option.bind_eq_some_iff.mp e
          refine Rn.call hT rfl rfl rfl (Nat.le_of_ble_eq_true rfl) (rcv_v gX1_locksBetween (by omega) e_200) (rX1_locksBetween (by omega) e_199 ?_)
          show Rn d _ _ 40 [none, some (.ref q1), some (.int x2), some (.int x3), some (.int x4), some (.int x5), some (.int v_196)] [.int v_201] h Q
          by_cases c_202 : v_201 = 0
          · rw [if_pos c_202] at e
            refine Rn.bf hT rfl rfl rfl (decide_eq_false (fun z => z c_202)) ?_
            exact Rn.weak (ll_n (ll_s (ll_s (ll_s (ll_s (ll_s (ll_s ll_e))))))) (rX0_besides_b43 hd ih hk hq e)
          · rw [if_neg c_202] at e
            refine Rn.bt hT rfl rfl rfl (decide_eq_true c_202) ?_
            exact Rn.weak (ll_n (ll_s (ll_s (ll_s (ll_s (ll_s (ll_n ll_e))))))) (rX0_besides_b52 hd ih hk hq e)
        · rw [if_neg c_198] at e
          refine Rn.bt hT rfl rfl rfl (decide_eq_true c_198) ?_
          exact Rn.weak (ll_n (ll_s (ll_s (ll_s (ll_s (ll_s (ll_s ll_e))))))) (rX0_besides_b43 hd ih hk hq e)
def fX0_besides (N : Nat) (h : iv_H) (q0 : Nat) (q1 : Nat) (x2 : Int32) (x3 : Int32) : Option (Int32) := (fX0_besides_l6 N h q1 x2 x3 (fun (z_192 : Int32) => (some z_192)) N (0 : Int32) (0 : Int32))
set_option maxRecDepth 10000 in
set_option maxHeartbeats 4000000 in
theorem rX0_besides {d N : Nat} (hd : 3 ≤ d) {h : iv_H} {q0 : Nat} {q1 : Nat} {x2 : Int32} {x3 : Int32} {r : Int32} {Q : Option Value → iv_H → Prop} (e : fX0_besides N h q0 q1 x2 x3 = some r) (hq : Q (some (.int r)) h) : Cl d 7 [.ref q0, .ref q1, .int x2, .int x3] h Q := by
  obtain ⟨d, rfl⟩ : ∃ k, d = k + 1 := ⟨d - 1, by omega⟩
  have hd : 2 ≤ d := by omega
  have hT := hX0_besides
  unfold fX0_besides at e
  refine Cl.into (by decide) gX0_besides rfl ?_
  show Rn d 7 (some .int) 0 [some (.ref q0), some (.ref q1), some (.int x2), some (.int x3), none, none, none] [] h Q
  refine Rn.n hT 4 (pc' := 6) (L' := [some (.ref q0), some (.ref q1), some (.int x2), some (.int x3), some (.int (0 : Int32)), some (.int (0 : Int32)), none]) (st' := []) rfl ?_
  refine Rn.weak (ll_n (ll_s (ll_s (ll_s (ll_s (ll_s (ll_n ll_e))))))) (rX0_besides_l6 hd (fun z_192 e => ?_) hq N (0 : Int32) (0 : Int32) e)
  try dsimp only at e
  refine Rn.n hT 1 (pc' := 60) (L' := [none, none, none, none, some (.int z_192), none, none]) (st' := [.int z_192]) rfl ?_
  obtain rfl := Option.some.inj e
  exact Rn.ret hT rfl rfl rfl hq
set_option maxRecDepth 10000 in
theorem hX0_hearing : iv_Tb 6 tX0_hearing := iv_tb_of (m := mX0_hearing) rfl
set_option maxRecDepth 10000 in
theorem gX0_hearing : PG.2 6 = some mX0_hearing := iv_pi_of (t := tX0_hearing) rfl (by decide)
def fX0_hearing_b60 (N : Nat) (h : iv_H) (q0 : Nat) (q1 : Nat) (x3 : Int32) (x4 : Int32) (x5 : Int32) (x6 : Int32) (x7 : Int32)  (kb : Int32 → Int32 → Option (Int32)) (kx : Int32 → Option (Int32)) : Option (Int32) := (kb x6 (x7 + (1 : Int32)))
set_option maxRecDepth 10000 in
set_option maxHeartbeats 4000000 in
theorem rX0_hearing_b60 {d N : Nat} (hd : 3 ≤ d) {h : iv_H} {q0 : Nat} {q1 : Nat} {x3 : Int32} {x4 : Int32} {x5 : Int32} {x6 : Int32} {x7 : Int32}  {kb : Int32 → Int32 → Option (Int32)} {kx : Int32 → Option (Int32)} {r : Int32} {Q : Option Value → iv_H → Prop} (hb : ∀ (w6 : Int32) (w7 : Int32), kb w6 w7 = some r → Rn d 6 (some .int) 21 [some (.ref q0), some (.ref q1), none, some (.int x3), some (.int x4), some (.int x5), some (.int w6), some (.int w7)] [] h Q) (hk : ∀ (w6 : Int32), kx w6 = some r → Rn d 6 (some .int) 66 [some (.ref q0), some (.ref q1), none, some (.int x3), none, some (.int x5), some (.int w6), none] [] h Q) (hq : Q (some (.int r)) h) (e : fX0_hearing_b60 N h q0 q1 x3 x4 x5 x6 x7  kb kx = some r) : Rn d 6 (some .int) 60 [some (.ref q0), some (.ref q1), none, some (.int x3), some (.int x4), some (.int x5), some (.int x6), some (.int x7)] [] h Q := by
  have hT := hX0_hearing
  unfold fX0_hearing_b60 at e
  refine Rn.n hT 2 (pc' := 21) (L' := [some (.ref q0), some (.ref q1), none, some (.int x3), some (.int x4), some (.int x5), some (.int x6), some (.int (x7 + (1 : Int32)))]) (st' := []) rfl ?_
  exact Rn.weak (ll_s (ll_s (ll_n (ll_s (ll_s (ll_s (ll_s (ll_s ll_e)))))))) (hb x6 (x7 + (1 : Int32)) e)
def fX0_hearing_l21 (N : Nat) (h : iv_H) (q0 : Nat) (q1 : Nat) (x3 : Int32) (x4 : Int32) (x5 : Int32) (kx : Int32 → Option (Int32)) : Nat → Int32 → Int32 → Option (Int32)
  | 0, _, _ => none
  | n + 1, x6, x7 => ((gR h 2 9 q1).bind fun v_206 => ((gI h 1 2 v_206).bind fun v_208 => (if v_208 ≤ x7 then (kx x6) else (if ((x4 >>> (x7 &&& 31)) &&& (1 : Int32)) = (1 : Int32) then ((gR h 2 9 q1).bind fun v_212 => ((cko h q0 0).bind fun _ => (fX0_besides N h q0 v_212 x7 (0 : Int32)).bind fun v_216 => (fX0_hearing_b60 N h q0 q1 x3 x4 x5 (x6 ||| v_216) x7 (fX0_hearing_l21 N h q0 q1 x3 x4 x5 kx n) kx))) else (fX0_hearing_b60 N h q0 q1 x3 x4 x5 x6 x7 (fX0_hearing_l21 N h q0 q1 x3 x4 x5 kx n) kx)))))
set_option maxRecDepth 10000 in
set_option maxHeartbeats 4000000 in
theorem rX0_hearing_l21 {d N : Nat} (hd : 3 ≤ d) {h : iv_H} {q0 : Nat} {q1 : Nat} {x3 : Int32} {x4 : Int32} {x5 : Int32} {kx : Int32 → Option (Int32)} {r : Int32} {Q : Option Value → iv_H → Prop} (hk : ∀ (x6 : Int32), kx x6 = some r → Rn d 6 (some .int) 66 [some (.ref q0), some (.ref q1), none, some (.int x3), none, some (.int x5), some (.int x6), none] [] h Q) (hq : Q (some (.int r)) h) : ∀ (n : Nat) (x6 : Int32) (x7 : Int32), fX0_hearing_l21 N h q0 q1 x3 x4 x5 kx n x6 x7 = some r → Rn d 6 (some .int) 21 [some (.ref q0), some (.ref q1), none, some (.int x3), some (.int x4), some (.int x5), some (.int x6), some (.int x7)] [] h Q := by
  have hT := hX0_hearing
  intro n
  induction n with
  | zero =>
    intro x6 x7 e
    rw [fX0_hearing_l21] at e
    cases e
  | succ n ih =>
    intro x6 x7 e
    rw [fX0_hearing_l21] at e
    refine Rn.n hT 2 (pc' := 24) (L' := [some (.ref q0), some (.ref q1), none, some (.int x3), some (.int x4), some (.int x5), some (.int x6), some (.int x7)]) (st' := [.ref q1, .int x7]) rfl ?_
    obtain ⟨v_206, e_207, e⟩ := Option.bind_eq_some_iff.mp e
    refine Rn.hp hT rfl rfl (gR_hp e_207) ?_
    obtain ⟨v_208, e_209, e⟩ := Option.bind_eq_some_iff.mp e
    refine Rn.hp hT rfl rfl (gI_hp e_209) ?_
    by_cases c_210 : v_208 ≤ x7
    · rw [if_pos c_210] at e
      refine Rn.bt hT rfl rfl rfl (decide_eq_true c_210) ?_
      exact Rn.weak (ll_s (ll_s (ll_n (ll_s (ll_n (ll_s (ll_s (ll_n ll_e)))))))) (hk x6 e)
    · rw [if_neg c_210] at e
      refine Rn.bf hT rfl rfl rfl (decide_eq_false c_210) ?_
      refine Rn.n hT 6 (pc' := 41) (L' := [some (.ref q0), some (.ref q1), none, some (.int x3), some (.int x4), some (.int x5), some (.int x6), some (.int x7)]) (st' := [.int (1 : Int32), .int ((x4 >>> (x7 &&& 31)) &&& (1 : Int32))]) rfl ?_
      by_cases c_211 : ((x4 >>> (x7 &&& 31)) &&& (1 : Int32)) = (1 : Int32)
      · rw [if_pos c_211] at e
        refine Rn.bf hT rfl rfl rfl (decide_eq_false (fun z => z c_211)) ?_
        refine Rn.n hT 3 (pc' := 48) (L' := [some (.ref q0), some (.ref q1), none, some (.int x3), some (.int x4), some (.int x5), some (.int x6), some (.int x7)]) (st' := [.ref q1, .ref q0, .int x6]) rfl ?_
        obtain ⟨v_212, e_213, e⟩ := Option.bind_eq_some_iff.mp e
        refine Rn.hp hT rfl rfl (gR_hp e_213) ?_
        refine Rn.n hT 2 (pc' := 54) (L' := [some (.ref q0), some (.ref q1), none, some (.int x3), some (.int x4), some (.int x5), some (.int x6), some (.int x7)]) (st' := [.int (0 : Int32), .int x7, .ref v_212, .ref q0, .int x6]) rfl ?_
        obtain ⟨_, e_215, e⟩ := Option.bind_eq_some_iff.mp e
        obtain ⟨v_216, e_214, e⟩ := Option.bind_eq_some_iff.mp e
        refine Rn.call hT rfl rfl rfl (Nat.le_of_ble_eq_true rfl) (rcv_v gX0_besides (by omega) e_215) (rX0_besides (by omega) e_214 ?_)
        show Rn d _ _ 57 [some (.ref q0), some (.ref q1), none, some (.int x3), some (.int x4), some (.int x5), some (.int x6), some (.int x7)] [.int v_216, .int x6] h Q
        refine Rn.n hT 2 (pc' := 60) (L' := [some (.ref q0), some (.ref q1), none, some (.int x3), some (.int x4), some (.int x5), some (.int (x6 ||| v_216)), some (.int x7)]) (st' := []) rfl ?_
        exact Rn.weak (ll_s (ll_s (ll_n (ll_s (ll_s (ll_s (ll_s (ll_s ll_e)))))))) (rX0_hearing_b60 hd ih hk hq e)
      · rw [if_neg c_211] at e
        refine Rn.bt hT rfl rfl rfl (decide_eq_true c_211) ?_
        exact Rn.weak (ll_s (ll_s (ll_n (ll_s (ll_s (ll_s (ll_s (ll_s ll_e)))))))) (rX0_hearing_b60 hd ih hk hq e)
def fX0_hearing_l8 (N : Nat) (h : iv_H) (q0 : Nat) (q1 : Nat) (x3 : Int32) (kx : Int32 → Option (Int32)) : Nat → Int32 → Int32 → Option (Int32)
  | 0, _, _ => none
  | n + 1, x4, x5 => (if x3 ≤ x5 then (kx x4) else (fX0_hearing_l21 N h q0 q1 x3 x4 x5 (fun (z_205 : Int32) => (fX0_hearing_l8 N h q0 q1 x3 kx n z_205 (x5 + (1 : Int32)))) N x4 (0 : Int32)))
set_option maxRecDepth 10000 in
set_option maxHeartbeats 4000000 in
theorem rX0_hearing_l8 {d N : Nat} (hd : 3 ≤ d) {h : iv_H} {q0 : Nat} {q1 : Nat} {x3 : Int32} {kx : Int32 → Option (Int32)} {r : Int32} {Q : Option Value → iv_H → Prop} (hk : ∀ (x4 : Int32), kx x4 = some r → Rn d 6 (some .int) 76 [none, none, none, none, some (.int x4), none, none, none] [] h Q) (hq : Q (some (.int r)) h) : ∀ (n : Nat) (x4 : Int32) (x5 : Int32), fX0_hearing_l8 N h q0 q1 x3 kx n x4 x5 = some r → Rn d 6 (some .int) 8 [some (.ref q0), some (.ref q1), none, some (.int x3), some (.int x4), some (.int x5), none, none] [] h Q := by
  have hT := hX0_hearing
  intro n
  induction n with
  | zero =>
    intro x4 x5 e
    rw [fX0_hearing_l8] at e
    cases e
  | succ n ih =>
    intro x4 x5 e
    rw [fX0_hearing_l8] at e
    refine Rn.n hT 2 (pc' := 11) (L' := [some (.ref q0), some (.ref q1), none, some (.int x3), some (.int x4), some (.int x5), none, none]) (st' := [.int x3, .int x5]) rfl ?_
    by_cases c_204 : x3 ≤ x5
    · rw [if_pos c_204] at e
      refine Rn.bt hT rfl rfl rfl (decide_eq_true c_204) ?_
      exact Rn.weak (ll_n (ll_n (ll_n (ll_n (ll_s (ll_n (ll_n (ll_n ll_e)))))))) (hk x4 e)
    · rw [if_neg c_204] at e
      refine Rn.bf hT rfl rfl rfl (decide_eq_false c_204) ?_
      refine Rn.n hT 4 (pc' := 21) (L' := [some (.ref q0), some (.ref q1), none, some (.int x3), some (.int x4), some (.int x5), some (.int x4), some (.int (0 : Int32))]) (st' := []) rfl ?_
      refine Rn.weak (ll_s (ll_s (ll_n (ll_s (ll_s (ll_s (ll_s (ll_s ll_e)))))))) (rX0_hearing_l21 hd (fun z_205 e => ?_) hq N x4 (0 : Int32) e)
      try dsimp only at e
      refine Rn.n hT 4 (pc' := 8) (L' := [some (.ref q0), some (.ref q1), none, some (.int x3), some (.int z_205), some (.int (x5 + (1 : Int32))), some (.int z_205), none]) (st' := []) rfl ?_
      exact Rn.weak (ll_s (ll_s (ll_n (ll_s (ll_s (ll_s (ll_n (ll_n ll_e)))))))) (ih z_205 (x5 + (1 : Int32)) e)
def fX0_hearing (N : Nat) (h : iv_H) (q0 : Nat) (q1 : Nat) (x2 : Int32) (x3 : Int32) : Option (Int32) := (fX0_hearing_l8 N h q0 q1 x3 (fun (z_203 : Int32) => (some z_203)) N ((1 : Int32) <<< (x2 &&& 31)) (0 : Int32))
set_option maxRecDepth 10000 in
set_option maxHeartbeats 4000000 in
theorem rX0_hearing {d N : Nat} (hd : 4 ≤ d) {h : iv_H} {q0 : Nat} {q1 : Nat} {x2 : Int32} {x3 : Int32} {r : Int32} {Q : Option Value → iv_H → Prop} (e : fX0_hearing N h q0 q1 x2 x3 = some r) (hq : Q (some (.int r)) h) : Cl d 6 [.ref q0, .ref q1, .int x2, .int x3] h Q := by
  obtain ⟨d, rfl⟩ : ∃ k, d = k + 1 := ⟨d - 1, by omega⟩
  have hd : 3 ≤ d := by omega
  have hT := hX0_hearing
  unfold fX0_hearing at e
  refine Cl.into (by decide) gX0_hearing rfl ?_
  show Rn d 6 (some .int) 0 [some (.ref q0), some (.ref q1), some (.int x2), some (.int x3), none, none, none, none] [] h Q
  refine Rn.n hT 6 (pc' := 8) (L' := [some (.ref q0), some (.ref q1), some (.int x2), some (.int x3), some (.int ((1 : Int32) <<< (x2 &&& 31))), some (.int (0 : Int32)), none, none]) (st' := []) rfl ?_
  refine Rn.weak (ll_s (ll_s (ll_n (ll_s (ll_s (ll_s (ll_n (ll_n ll_e)))))))) (rX0_hearing_l8 hd (fun z_203 e => ?_) hq N ((1 : Int32) <<< (x2 &&& 31)) (0 : Int32) e)
  try dsimp only at e
  refine Rn.n hT 1 (pc' := 78) (L' := [none, none, none, none, some (.int z_203), none, none, none]) (st' := [.int z_203]) rfl ?_
  obtain rfl := Option.some.inj e
  exact Rn.ret hT rfl rfl rfl hq
set_option maxRecDepth 10000 in
theorem hJ6_bitCount_0f7a4 : iv_Tb 349 tJ6_bitCount_0f7a4 := iv_tb_of (m := mJ6_bitCount_0f7a4) rfl
set_option maxRecDepth 10000 in
theorem gJ6_bitCount_0f7a4 : PG.2 349 = some mJ6_bitCount_0f7a4 := iv_pi_of (t := tJ6_bitCount_0f7a4) rfl (by decide)
def fJ6_bitCount_0f7a4 (N : Nat) (h : iv_H) (x0 : Int32) : Option (Int32) := (some ((((((((x0 - ((((x0).toUInt32 >>> (((1 : Int32)).toUInt32 &&& Int32.toUInt32 31)).toInt32) &&& (1431655765 : Int32))) &&& (858993459 : Int32)) + (((((x0 - ((((x0).toUInt32 >>> (((1 : Int32)).toUInt32 &&& Int32.toUInt32 31)).toInt32) &&& (1431655765 : Int32)))).toUInt32 >>> (((2 : Int32)).toUInt32 &&& Int32.toUInt32 31)).toInt32) &&& (858993459 : Int32))) + ((((((x0 - ((((x0).toUInt32 >>> (((1 : Int32)).toUInt32 &&& Int32.toUInt32 31)).toInt32) &&& (1431655765 : Int32))) &&& (858993459 : Int32)) + (((((x0 - ((((x0).toUInt32 >>> (((1 : Int32)).toUInt32 &&& Int32.toUInt32 31)).toInt32) &&& (1431655765 : Int32)))).toUInt32 >>> (((2 : Int32)).toUInt32 &&& Int32.toUInt32 31)).toInt32) &&& (858993459 : Int32)))).toUInt32 >>> (((4 : Int32)).toUInt32 &&& Int32.toUInt32 31)).toInt32)) &&& (252645135 : Int32)) + ((((((((x0 - ((((x0).toUInt32 >>> (((1 : Int32)).toUInt32 &&& Int32.toUInt32 31)).toInt32) &&& (1431655765 : Int32))) &&& (858993459 : Int32)) + (((((x0 - ((((x0).toUInt32 >>> (((1 : Int32)).toUInt32 &&& Int32.toUInt32 31)).toInt32) &&& (1431655765 : Int32)))).toUInt32 >>> (((2 : Int32)).toUInt32 &&& Int32.toUInt32 31)).toInt32) &&& (858993459 : Int32))) + ((((((x0 - ((((x0).toUInt32 >>> (((1 : Int32)).toUInt32 &&& Int32.toUInt32 31)).toInt32) &&& (1431655765 : Int32))) &&& (858993459 : Int32)) + (((((x0 - ((((x0).toUInt32 >>> (((1 : Int32)).toUInt32 &&& Int32.toUInt32 31)).toInt32) &&& (1431655765 : Int32)))).toUInt32 >>> (((2 : Int32)).toUInt32 &&& Int32.toUInt32 31)).toInt32) &&& (858993459 : Int32)))).toUInt32 >>> (((4 : Int32)).toUInt32 &&& Int32.toUInt32 31)).toInt32)) &&& (252645135 : Int32))).toUInt32 >>> (((8 : Int32)).toUInt32 &&& Int32.toUInt32 31)).toInt32)) + (((((((((x0 - ((((x0).toUInt32 >>> (((1 : Int32)).toUInt32 &&& Int32.toUInt32 31)).toInt32) &&& (1431655765 : Int32))) &&& (858993459 : Int32)) + (((((x0 - ((((x0).toUInt32 >>> (((1 : Int32)).toUInt32 &&& Int32.toUInt32 31)).toInt32) &&& (1431655765 : Int32)))).toUInt32 >>> (((2 : Int32)).toUInt32 &&& Int32.toUInt32 31)).toInt32) &&& (858993459 : Int32))) + ((((((x0 - ((((x0).toUInt32 >>> (((1 : Int32)).toUInt32 &&& Int32.toUInt32 31)).toInt32) &&& (1431655765 : Int32))) &&& (858993459 : Int32)) + (((((x0 - ((((x0).toUInt32 >>> (((1 : Int32)).toUInt32 &&& Int32.toUInt32 31)).toInt32) &&& (1431655765 : Int32)))).toUInt32 >>> (((2 : Int32)).toUInt32 &&& Int32.toUInt32 31)).toInt32) &&& (858993459 : Int32)))).toUInt32 >>> (((4 : Int32)).toUInt32 &&& Int32.toUInt32 31)).toInt32)) &&& (252645135 : Int32)) + ((((((((x0 - ((((x0).toUInt32 >>> (((1 : Int32)).toUInt32 &&& Int32.toUInt32 31)).toInt32) &&& (1431655765 : Int32))) &&& (858993459 : Int32)) + (((((x0 - ((((x0).toUInt32 >>> (((1 : Int32)).toUInt32 &&& Int32.toUInt32 31)).toInt32) &&& (1431655765 : Int32)))).toUInt32 >>> (((2 : Int32)).toUInt32 &&& Int32.toUInt32 31)).toInt32) &&& (858993459 : Int32))) + ((((((x0 - ((((x0).toUInt32 >>> (((1 : Int32)).toUInt32 &&& Int32.toUInt32 31)).toInt32) &&& (1431655765 : Int32))) &&& (858993459 : Int32)) + (((((x0 - ((((x0).toUInt32 >>> (((1 : Int32)).toUInt32 &&& Int32.toUInt32 31)).toInt32) &&& (1431655765 : Int32)))).toUInt32 >>> (((2 : Int32)).toUInt32 &&& Int32.toUInt32 31)).toInt32) &&& (858993459 : Int32)))).toUInt32 >>> (((4 : Int32)).toUInt32 &&& Int32.toUInt32 31)).toInt32)) &&& (252645135 : Int32))).toUInt32 >>> (((8 : Int32)).toUInt32 &&& Int32.toUInt32 31)).toInt32))).toUInt32 >>> (((16 : Int32)).toUInt32 &&& Int32.toUInt32 31)).toInt32)) &&& (63 : Int32)))
set_option maxRecDepth 10000 in
set_option maxHeartbeats 4000000 in
theorem rJ6_bitCount_0f7a4 {d N : Nat} (hd : 1 ≤ d) {h : iv_H} {x0 : Int32} {r : Int32} {Q : Option Value → iv_H → Prop} (e : fJ6_bitCount_0f7a4 N h x0 = some r) (hq : Q (some (.int r)) h) : Cl d 349 [.int x0] h Q := by
  obtain ⟨d, rfl⟩ : ∃ k, d = k + 1 := ⟨d - 1, by omega⟩
  have hd : 0 ≤ d := by omega
  have hT := hJ6_bitCount_0f7a4
  unfold fJ6_bitCount_0f7a4 at e
  refine Cl.into (by decide) gJ6_bitCount_0f7a4 rfl ?_
  show Rn d 349 (some .int) 0 [some (.int x0)] [] h Q
  refine Rn.n hT 41 (pc' := 52) (L' := [some (.int (((((((x0 - ((((x0).toUInt32 >>> (((1 : Int32)).toUInt32 &&& Int32.toUInt32 31)).toInt32) &&& (1431655765 : Int32))) &&& (858993459 : Int32)) + (((((x0 - ((((x0).toUInt32 >>> (((1 : Int32)).toUInt32 &&& Int32.toUInt32 31)).toInt32) &&& (1431655765 : Int32)))).toUInt32 >>> (((2 : Int32)).toUInt32 &&& Int32.toUInt32 31)).toInt32) &&& (858993459 : Int32))) + ((((((x0 - ((((x0).toUInt32 >>> (((1 : Int32)).toUInt32 &&& Int32.toUInt32 31)).toInt32) &&& (1431655765 : Int32))) &&& (858993459 : Int32)) + (((((x0 - ((((x0).toUInt32 >>> (((1 : Int32)).toUInt32 &&& Int32.toUInt32 31)).toInt32) &&& (1431655765 : Int32)))).toUInt32 >>> (((2 : Int32)).toUInt32 &&& Int32.toUInt32 31)).toInt32) &&& (858993459 : Int32)))).toUInt32 >>> (((4 : Int32)).toUInt32 &&& Int32.toUInt32 31)).toInt32)) &&& (252645135 : Int32)) + ((((((((x0 - ((((x0).toUInt32 >>> (((1 : Int32)).toUInt32 &&& Int32.toUInt32 31)).toInt32) &&& (1431655765 : Int32))) &&& (858993459 : Int32)) + (((((x0 - ((((x0).toUInt32 >>> (((1 : Int32)).toUInt32 &&& Int32.toUInt32 31)).toInt32) &&& (1431655765 : Int32)))).toUInt32 >>> (((2 : Int32)).toUInt32 &&& Int32.toUInt32 31)).toInt32) &&& (858993459 : Int32))) + ((((((x0 - ((((x0).toUInt32 >>> (((1 : Int32)).toUInt32 &&& Int32.toUInt32 31)).toInt32) &&& (1431655765 : Int32))) &&& (858993459 : Int32)) + (((((x0 - ((((x0).toUInt32 >>> (((1 : Int32)).toUInt32 &&& Int32.toUInt32 31)).toInt32) &&& (1431655765 : Int32)))).toUInt32 >>> (((2 : Int32)).toUInt32 &&& Int32.toUInt32 31)).toInt32) &&& (858993459 : Int32)))).toUInt32 >>> (((4 : Int32)).toUInt32 &&& Int32.toUInt32 31)).toInt32)) &&& (252645135 : Int32))).toUInt32 >>> (((8 : Int32)).toUInt32 &&& Int32.toUInt32 31)).toInt32)) + (((((((((x0 - ((((x0).toUInt32 >>> (((1 : Int32)).toUInt32 &&& Int32.toUInt32 31)).toInt32) &&& (1431655765 : Int32))) &&& (858993459 : Int32)) + (((((x0 - ((((x0).toUInt32 >>> (((1 : Int32)).toUInt32 &&& Int32.toUInt32 31)).toInt32) &&& (1431655765 : Int32)))).toUInt32 >>> (((2 : Int32)).toUInt32 &&& Int32.toUInt32 31)).toInt32) &&& (858993459 : Int32))) + ((((((x0 - ((((x0).toUInt32 >>> (((1 : Int32)).toUInt32 &&& Int32.toUInt32 31)).toInt32) &&& (1431655765 : Int32))) &&& (858993459 : Int32)) + (((((x0 - ((((x0).toUInt32 >>> (((1 : Int32)).toUInt32 &&& Int32.toUInt32 31)).toInt32) &&& (1431655765 : Int32)))).toUInt32 >>> (((2 : Int32)).toUInt32 &&& Int32.toUInt32 31)).toInt32) &&& (858993459 : Int32)))).toUInt32 >>> (((4 : Int32)).toUInt32 &&& Int32.toUInt32 31)).toInt32)) &&& (252645135 : Int32)) + ((((((((x0 - ((((x0).toUInt32 >>> (((1 : Int32)).toUInt32 &&& Int32.toUInt32 31)).toInt32) &&& (1431655765 : Int32))) &&& (858993459 : Int32)) + (((((x0 - ((((x0).toUInt32 >>> (((1 : Int32)).toUInt32 &&& Int32.toUInt32 31)).toInt32) &&& (1431655765 : Int32)))).toUInt32 >>> (((2 : Int32)).toUInt32 &&& Int32.toUInt32 31)).toInt32) &&& (858993459 : Int32))) + ((((((x0 - ((((x0).toUInt32 >>> (((1 : Int32)).toUInt32 &&& Int32.toUInt32 31)).toInt32) &&& (1431655765 : Int32))) &&& (858993459 : Int32)) + (((((x0 - ((((x0).toUInt32 >>> (((1 : Int32)).toUInt32 &&& Int32.toUInt32 31)).toInt32) &&& (1431655765 : Int32)))).toUInt32 >>> (((2 : Int32)).toUInt32 &&& Int32.toUInt32 31)).toInt32) &&& (858993459 : Int32)))).toUInt32 >>> (((4 : Int32)).toUInt32 &&& Int32.toUInt32 31)).toInt32)) &&& (252645135 : Int32))).toUInt32 >>> (((8 : Int32)).toUInt32 &&& Int32.toUInt32 31)).toInt32))).toUInt32 >>> (((16 : Int32)).toUInt32 &&& Int32.toUInt32 31)).toInt32)))]) (st' := [.int ((((((((x0 - ((((x0).toUInt32 >>> (((1 : Int32)).toUInt32 &&& Int32.toUInt32 31)).toInt32) &&& (1431655765 : Int32))) &&& (858993459 : Int32)) + (((((x0 - ((((x0).toUInt32 >>> (((1 : Int32)).toUInt32 &&& Int32.toUInt32 31)).toInt32) &&& (1431655765 : Int32)))).toUInt32 >>> (((2 : Int32)).toUInt32 &&& Int32.toUInt32 31)).toInt32) &&& (858993459 : Int32))) + ((((((x0 - ((((x0).toUInt32 >>> (((1 : Int32)).toUInt32 &&& Int32.toUInt32 31)).toInt32) &&& (1431655765 : Int32))) &&& (858993459 : Int32)) + (((((x0 - ((((x0).toUInt32 >>> (((1 : Int32)).toUInt32 &&& Int32.toUInt32 31)).toInt32) &&& (1431655765 : Int32)))).toUInt32 >>> (((2 : Int32)).toUInt32 &&& Int32.toUInt32 31)).toInt32) &&& (858993459 : Int32)))).toUInt32 >>> (((4 : Int32)).toUInt32 &&& Int32.toUInt32 31)).toInt32)) &&& (252645135 : Int32)) + ((((((((x0 - ((((x0).toUInt32 >>> (((1 : Int32)).toUInt32 &&& Int32.toUInt32 31)).toInt32) &&& (1431655765 : Int32))) &&& (858993459 : Int32)) + (((((x0 - ((((x0).toUInt32 >>> (((1 : Int32)).toUInt32 &&& Int32.toUInt32 31)).toInt32) &&& (1431655765 : Int32)))).toUInt32 >>> (((2 : Int32)).toUInt32 &&& Int32.toUInt32 31)).toInt32) &&& (858993459 : Int32))) + ((((((x0 - ((((x0).toUInt32 >>> (((1 : Int32)).toUInt32 &&& Int32.toUInt32 31)).toInt32) &&& (1431655765 : Int32))) &&& (858993459 : Int32)) + (((((x0 - ((((x0).toUInt32 >>> (((1 : Int32)).toUInt32 &&& Int32.toUInt32 31)).toInt32) &&& (1431655765 : Int32)))).toUInt32 >>> (((2 : Int32)).toUInt32 &&& Int32.toUInt32 31)).toInt32) &&& (858993459 : Int32)))).toUInt32 >>> (((4 : Int32)).toUInt32 &&& Int32.toUInt32 31)).toInt32)) &&& (252645135 : Int32))).toUInt32 >>> (((8 : Int32)).toUInt32 &&& Int32.toUInt32 31)).toInt32)) + (((((((((x0 - ((((x0).toUInt32 >>> (((1 : Int32)).toUInt32 &&& Int32.toUInt32 31)).toInt32) &&& (1431655765 : Int32))) &&& (858993459 : Int32)) + (((((x0 - ((((x0).toUInt32 >>> (((1 : Int32)).toUInt32 &&& Int32.toUInt32 31)).toInt32) &&& (1431655765 : Int32)))).toUInt32 >>> (((2 : Int32)).toUInt32 &&& Int32.toUInt32 31)).toInt32) &&& (858993459 : Int32))) + ((((((x0 - ((((x0).toUInt32 >>> (((1 : Int32)).toUInt32 &&& Int32.toUInt32 31)).toInt32) &&& (1431655765 : Int32))) &&& (858993459 : Int32)) + (((((x0 - ((((x0).toUInt32 >>> (((1 : Int32)).toUInt32 &&& Int32.toUInt32 31)).toInt32) &&& (1431655765 : Int32)))).toUInt32 >>> (((2 : Int32)).toUInt32 &&& Int32.toUInt32 31)).toInt32) &&& (858993459 : Int32)))).toUInt32 >>> (((4 : Int32)).toUInt32 &&& Int32.toUInt32 31)).toInt32)) &&& (252645135 : Int32)) + ((((((((x0 - ((((x0).toUInt32 >>> (((1 : Int32)).toUInt32 &&& Int32.toUInt32 31)).toInt32) &&& (1431655765 : Int32))) &&& (858993459 : Int32)) + (((((x0 - ((((x0).toUInt32 >>> (((1 : Int32)).toUInt32 &&& Int32.toUInt32 31)).toInt32) &&& (1431655765 : Int32)))).toUInt32 >>> (((2 : Int32)).toUInt32 &&& Int32.toUInt32 31)).toInt32) &&& (858993459 : Int32))) + ((((((x0 - ((((x0).toUInt32 >>> (((1 : Int32)).toUInt32 &&& Int32.toUInt32 31)).toInt32) &&& (1431655765 : Int32))) &&& (858993459 : Int32)) + (((((x0 - ((((x0).toUInt32 >>> (((1 : Int32)).toUInt32 &&& Int32.toUInt32 31)).toInt32) &&& (1431655765 : Int32)))).toUInt32 >>> (((2 : Int32)).toUInt32 &&& Int32.toUInt32 31)).toInt32) &&& (858993459 : Int32)))).toUInt32 >>> (((4 : Int32)).toUInt32 &&& Int32.toUInt32 31)).toInt32)) &&& (252645135 : Int32))).toUInt32 >>> (((8 : Int32)).toUInt32 &&& Int32.toUInt32 31)).toInt32))).toUInt32 >>> (((16 : Int32)).toUInt32 &&& Int32.toUInt32 31)).toInt32)) &&& (63 : Int32))]) rfl ?_
  obtain rfl := Option.some.inj e
  exact Rn.ret hT rfl rfl rfl hq
set_option maxRecDepth 10000 in
theorem hX0_isGuarded : iv_Tb 9 tX0_isGuarded := iv_tb_of (m := mX0_isGuarded) rfl
set_option maxRecDepth 10000 in
theorem gX0_isGuarded : PG.2 9 = some mX0_isGuarded := iv_pi_of (t := tX0_isGuarded) rfl (by decide)
def fX0_isGuarded_b30 (N : Nat) (h : iv_H) (q0 : Nat) (x1 : Int32) (x2 : Int32) (x3 : Int32)  (kb : Int32 → Option (Int32)) (kx : Unit → Option (Int32)) : Option (Int32) := (kb (x3 + (1 : Int32)))
set_option maxRecDepth 10000 in
set_option maxHeartbeats 4000000 in
theorem rX0_isGuarded_b30 {d N : Nat} (hd : 0 ≤ d) {h : iv_H} {q0 : Nat} {x1 : Int32} {x2 : Int32} {x3 : Int32}  {kb : Int32 → Option (Int32)} {kx : Unit → Option (Int32)} {r : Int32} {Q : Option Value → iv_H → Prop} (hb : ∀ (w3 : Int32), kb w3 = some r → Rn d 9 (some .boolean) 2 [some (.ref q0), some (.int x1), some (.int x2), some (.int w3)] [] h Q) (hk : ∀ (u : Unit), kx u = some r → Rn d 9 (some .boolean) 36 [none, none, none, none] [] h Q) (hq : Q (some (.int r)) h) (e : fX0_isGuarded_b30 N h q0 x1 x2 x3  kb kx = some r) : Rn d 9 (some .boolean) 30 [some (.ref q0), some (.int x1), some (.int x2), some (.int x3)] [] h Q := by
  have hT := hX0_isGuarded
  unfold fX0_isGuarded_b30 at e
  refine Rn.n hT 2 (pc' := 2) (L' := [some (.ref q0), some (.int x1), some (.int x2), some (.int (x3 + (1 : Int32)))]) (st' := []) rfl ?_
  exact Rn.weak (ll_s (ll_s (ll_s (ll_s ll_e)))) (hb (x3 + (1 : Int32)) e)
def fX0_isGuarded_l2 (N : Nat) (h : iv_H) (q0 : Nat) (x1 : Int32) (x2 : Int32) (kx : Unit → Option (Int32)) : Nat → Int32 → Option (Int32)
  | 0, _ => none
  | n + 1, x3 => (if x1 ≤ x3 then (kx ()) else (if ((x2 >>> (x3 &&& 31)) &&& (1 : Int32)) = 0 then ((gR h 0 3 q0).bind fun v_219 => ((aI h v_219 x3).bind fun v_221 => (if (v_221 &&& (x2 ^^^ (-1 : Int32))) = 0 then (fX0_isGuarded_b30 N h q0 x1 x2 x3 (fX0_isGuarded_l2 N h q0 x1 x2 kx n) kx) else (some (0 : Int32))))) else (fX0_isGuarded_b30 N h q0 x1 x2 x3 (fX0_isGuarded_l2 N h q0 x1 x2 kx n) kx)))
set_option maxRecDepth 10000 in
set_option maxHeartbeats 4000000 in
theorem rX0_isGuarded_l2 {d N : Nat} (hd : 0 ≤ d) {h : iv_H} {q0 : Nat} {x1 : Int32} {x2 : Int32} {kx : Unit → Option (Int32)} {r : Int32} {Q : Option Value → iv_H → Prop} (hk : ∀ (u : Unit), kx u = some r → Rn d 9 (some .boolean) 36 [none, none, none, none] [] h Q) (hq : Q (some (.int r)) h) : ∀ (n : Nat) (x3 : Int32), fX0_isGuarded_l2 N h q0 x1 x2 kx n x3 = some r → Rn d 9 (some .boolean) 2 [some (.ref q0), some (.int x1), some (.int x2), some (.int x3)] [] h Q := by
  have hT := hX0_isGuarded
  intro n
  induction n with
  | zero =>
    intro x3 e
    rw [fX0_isGuarded_l2] at e
    cases e
  | succ n ih =>
    intro x3 e
    rw [fX0_isGuarded_l2] at e
    refine Rn.n hT 2 (pc' := 4) (L' := [some (.ref q0), some (.int x1), some (.int x2), some (.int x3)]) (st' := [.int x1, .int x3]) rfl ?_
    by_cases c_217 : x1 ≤ x3
    · rw [if_pos c_217] at e
      refine Rn.bt hT rfl rfl rfl (decide_eq_true c_217) ?_
      exact Rn.weak (ll_n (ll_n (ll_n (ll_n ll_e)))) (hk () e)
    · rw [if_neg c_217] at e
      refine Rn.bf hT rfl rfl rfl (decide_eq_false c_217) ?_
      refine Rn.n hT 5 (pc' := 12) (L' := [some (.ref q0), some (.int x1), some (.int x2), some (.int x3)]) (st' := [.int ((x2 >>> (x3 &&& 31)) &&& (1 : Int32))]) rfl ?_
      by_cases c_218 : ((x2 >>> (x3 &&& 31)) &&& (1 : Int32)) = 0
      · rw [if_pos c_218] at e
        refine Rn.bf hT rfl rfl rfl (decide_eq_false (fun z => z c_218)) ?_
        refine Rn.n hT 1 (pc' := 16) (L' := [some (.ref q0), some (.int x1), some (.int x2), some (.int x3)]) (st' := [.ref q0]) rfl ?_
        obtain ⟨v_219, e_220, e⟩ := Option.bind_eq_some_iff.mp e
        refine Rn.hp hT rfl rfl (gR_hp e_220) ?_
        refine Rn.n hT 1 (pc' := 20) (L' := [some (.ref q0), some (.int x1), some (.int x2), some (.int x3)]) (st' := [.int x3, .ref v_219]) rfl ?_
        obtain ⟨v_221, e_222, e⟩ := Option.bind_eq_some_iff.mp e
        refine Rn.hp hT rfl rfl (aI_hp e_222) ?_
        refine Rn.n hT 4 (pc' := 25) (L' := [some (.ref q0), some (.int x1), some (.int x2), some (.int x3)]) (st' := [.int (v_221 &&& (x2 ^^^ (-1 : Int32)))]) rfl ?_
        by_cases c_223 : (v_221 &&& (x2 ^^^ (-1 : Int32))) = 0
        · rw [if_pos c_223] at e
          refine Rn.bt hT rfl rfl rfl (decide_eq_true c_223) ?_
          exact Rn.weak (ll_s (ll_s (ll_s (ll_s ll_e)))) (rX0_isGuarded_b30 hd ih hk hq e)
        · rw [if_neg c_223] at e
          refine Rn.bf hT rfl rfl rfl (decide_eq_false c_223) ?_
          refine Rn.n hT 1 (pc' := 29) (L' := [some (.ref q0), some (.int x1), some (.int x2), some (.int x3)]) (st' := [.int (0 : Int32)]) rfl ?_
          obtain rfl := Option.some.inj e
          exact Rn.ret hT rfl rfl rfl hq
      · rw [if_neg c_218] at e
        refine Rn.bt hT rfl rfl rfl (decide_eq_true c_218) ?_
        exact Rn.weak (ll_s (ll_s (ll_s (ll_s ll_e)))) (rX0_isGuarded_b30 hd ih hk hq e)
def fX0_isGuarded (N : Nat) (h : iv_H) (q0 : Nat) (x1 : Int32) (x2 : Int32) : Option (Int32) := (fX0_isGuarded_l2 N h q0 x1 x2 (fun (_ : Unit) => (some (1 : Int32))) N (0 : Int32))
set_option maxRecDepth 10000 in
set_option maxHeartbeats 4000000 in
theorem rX0_isGuarded {d N : Nat} (hd : 1 ≤ d) {h : iv_H} {q0 : Nat} {x1 : Int32} {x2 : Int32} {r : Int32} {Q : Option Value → iv_H → Prop} (e : fX0_isGuarded N h q0 x1 x2 = some r) (hq : Q (some (.int r)) h) : Cl d 9 [.ref q0, .int x1, .int x2] h Q := by
  obtain ⟨d, rfl⟩ : ∃ k, d = k + 1 := ⟨d - 1, by omega⟩
  have hd : 0 ≤ d := by omega
  have hT := hX0_isGuarded
  unfold fX0_isGuarded at e
  refine Cl.into (by decide) gX0_isGuarded rfl ?_
  show Rn d 9 (some .boolean) 0 [some (.ref q0), some (.int x1), some (.int x2), none] [] h Q
  refine Rn.n hT 2 (pc' := 2) (L' := [some (.ref q0), some (.int x1), some (.int x2), some (.int (0 : Int32))]) (st' := []) rfl ?_
  refine Rn.weak (ll_s (ll_s (ll_s (ll_s ll_e)))) (rX0_isGuarded_l2 hd (fun _ e => ?_) hq N (0 : Int32) e)
  try dsimp only at e
  refine Rn.n hT 1 (pc' := 37) (L' := [none, none, none, none]) (st' := [.int (1 : Int32)]) rfl ?_
  obtain rfl := Option.some.inj e
  exact Rn.ret hT rfl rfl rfl hq
set_option maxRecDepth 10000 in
theorem hX0_guarding : iv_Tb 8 tX0_guarding := iv_tb_of (m := mX0_guarding) rfl
set_option maxRecDepth 10000 in
theorem gX0_guarding : PG.2 8 = some mX0_guarding := iv_pi_of (t := tX0_guarding) rfl (by decide)
def fX0_guarding_l2 (N : Nat) (q0 : Nat) (q1 : Nat) (kx : iv_H → Option (Int32 × iv_H)) : Nat → iv_H → Int32 → Option (Int32 × iv_H)
  | 0, _, _ => none
  | n + 1, h, x2 => ((gI h 1 2 q1).bind fun v_229 => (if v_229 ≤ x2 then (kx h) else ((gR h 0 3 q0).bind fun v_232 => ((cko h q0 0).bind fun _ => (fX0_besides N h q0 q1 x2 (1 : Int32)).bind fun v_236 => ((wI h v_232 x2 v_236).bind fun h_237 => (fX0_guarding_l2 N q0 q1 kx n h_237 (x2 + (1 : Int32))))))))
set_option maxRecDepth 10000 in
set_option maxHeartbeats 4000000 in
theorem rX0_guarding_l2 {d N : Nat} (hd : 3 ≤ d) {q0 : Nat} {q1 : Nat} {kx : iv_H → Option (Int32 × iv_H)} {r : Int32 × iv_H} {Q : Option Value → iv_H → Prop} (hk : ∀ (h : iv_H), kx h = some r → Rn d 8 (some .int) 29 [some (.ref q0), some (.ref q1), none, none] [] h Q) (hq : Q (some (.int r.1)) r.2) : ∀ (n : Nat) (h : iv_H) (x2 : Int32), fX0_guarding_l2 N q0 q1 kx n h x2 = some r → Rn d 8 (some .int) 2 [some (.ref q0), some (.ref q1), some (.int x2), none] [] h Q := by
  have hT := hX0_guarding
  intro n
  induction n with
  | zero =>
    intro h x2 e
    rw [fX0_guarding_l2] at e
    cases e
  | succ n ih =>
    intro h x2 e
    rw [fX0_guarding_l2] at e
    refine Rn.n hT 2 (pc' := 4) (L' := [some (.ref q0), some (.ref q1), some (.int x2), none]) (st' := [.ref q1, .int x2]) rfl ?_
    obtain ⟨v_229, e_230, e⟩ := Option.bind_eq_some_iff.mp e
    refine Rn.hp hT rfl rfl (gI_hp e_230) ?_
    by_cases c_231 : v_229 ≤ x2
    · rw [if_pos c_231] at e
      refine Rn.bt hT rfl rfl rfl (decide_eq_true c_231) ?_
      exact Rn.weak (ll_s (ll_s (ll_n (ll_n ll_e)))) (hk h e)
    · rw [if_neg c_231] at e
      refine Rn.bf hT rfl rfl rfl (decide_eq_false c_231) ?_
      refine Rn.n hT 1 (pc' := 11) (L' := [some (.ref q0), some (.ref q1), some (.int x2), none]) (st' := [.ref q0]) rfl ?_
      obtain ⟨v_232, e_233, e⟩ := Option.bind_eq_some_iff.mp e
      refine Rn.hp hT rfl rfl (gR_hp e_233) ?_
      refine Rn.n hT 5 (pc' := 19) (L' := [some (.ref q0), some (.ref q1), some (.int x2), none]) (st' := [.int (1 : Int32), .int x2, .ref q1, .ref q0, .int x2, .ref v_232]) rfl ?_
      obtain ⟨_, e_235, e⟩ := Option.bind_eq_some_iff.mp e
      obtain ⟨v_236, e_234, e⟩ := Option.bind_eq_some_iff.mp e
      refine Rn.call hT rfl rfl rfl (Nat.le_of_ble_eq_true rfl) (rcv_v gX0_besides (by omega) e_235) (rX0_besides (by omega) e_234 ?_)
      show Rn d _ _ 22 [some (.ref q0), some (.ref q1), some (.int x2), none] [.int v_236, .int x2, .ref v_232] h Q
      obtain ⟨h_237, e_238, e⟩ := Option.bind_eq_some_iff.mp e
      refine Rn.hp hT rfl rfl (wI_hp e_238) ?_
      refine Rn.n hT 2 (pc' := 2) (L' := [some (.ref q0), some (.ref q1), some (.int (x2 + (1 : Int32))), none]) (st' := []) rfl ?_
      exact Rn.weak (ll_s (ll_s (ll_s (ll_n ll_e)))) (ih h_237 (x2 + (1 : Int32)) e)
def fX0_guarding_b69 (N : Nat) (h : iv_H) (q0 : Nat) (q1 : Nat) (x2 : Int32) (x3 : Int32)  (kb : iv_H → Int32 → Int32 → Option (Int32 × iv_H)) (kx : iv_H → Int32 → Option (Int32 × iv_H)) : Option (Int32 × iv_H) := (kb h x2 (x3 + (-1 : Int32)))
set_option maxRecDepth 10000 in
set_option maxHeartbeats 4000000 in
theorem rX0_guarding_b69 {d N : Nat} (hd : 3 ≤ d) {h : iv_H} {q0 : Nat} {q1 : Nat} {x2 : Int32} {x3 : Int32}  {kb : iv_H → Int32 → Int32 → Option (Int32 × iv_H)} {kx : iv_H → Int32 → Option (Int32 × iv_H)} {r : Int32 × iv_H} {Q : Option Value → iv_H → Prop} (hb : ∀ (h : iv_H) (w2 : Int32) (w3 : Int32), kb h w2 w3 = some r → Rn d 8 (some .int) 40 [some (.ref q0), some (.ref q1), some (.int w2), some (.int w3)] [] h Q) (hk : ∀ (h : iv_H) (w2 : Int32), kx h w2 = some r → Rn d 8 (some .int) 75 [none, none, some (.int w2), none] [] h Q) (hq : Q (some (.int r.1)) r.2) (e : fX0_guarding_b69 N h q0 q1 x2 x3  kb kx = some r) : Rn d 8 (some .int) 69 [some (.ref q0), some (.ref q1), some (.int x2), some (.int x3)] [] h Q := by
  have hT := hX0_guarding
  unfold fX0_guarding_b69 at e
  refine Rn.n hT 2 (pc' := 40) (L' := [some (.ref q0), some (.ref q1), some (.int x2), some (.int (x3 + (-1 : Int32)))]) (st' := []) rfl ?_
  exact Rn.weak (ll_s (ll_s (ll_s (ll_s ll_e)))) (hb h x2 (x3 + (-1 : Int32)) e)
def fX0_guarding_l40 (N : Nat) (q0 : Nat) (q1 : Nat) (kx : iv_H → Int32 → Option (Int32 × iv_H)) : Nat → iv_H → Int32 → Int32 → Option (Int32 × iv_H)
  | 0, _, _, _ => none
  | n + 1, h, x2, x3 => (if x3 < 0 then (kx h x2) else ((fJ6_bitCount_0f7a4 N h x3).bind fun v_241 => ((fJ6_bitCount_0f7a4 N h x2).bind fun v_243 => (if v_243 < v_241 then (fX0_guarding_b69 N h q0 q1 x2 x3 (fX0_guarding_l40 N q0 q1 kx n) kx) else ((gI h 1 2 q1).bind fun v_245 => ((cko h q0 0).bind fun _ => (fX0_isGuarded N h q0 v_245 x3).bind fun v_249 => (if v_249 = 0 then (fX0_guarding_b69 N h q0 q1 x2 x3 (fX0_guarding_l40 N q0 q1 kx n) kx) else (fX0_guarding_b69 N h q0 q1 x3 x3 (fX0_guarding_l40 N q0 q1 kx n) kx))))))))
set_option maxRecDepth 10000 in
set_option maxHeartbeats 4000000 in
theorem rX0_guarding_l40 {d N : Nat} (hd : 3 ≤ d) {q0 : Nat} {q1 : Nat} {kx : iv_H → Int32 → Option (Int32 × iv_H)} {r : Int32 × iv_H} {Q : Option Value → iv_H → Prop} (hk : ∀ (h : iv_H) (x2 : Int32), kx h x2 = some r → Rn d 8 (some .int) 75 [none, none, some (.int x2), none] [] h Q) (hq : Q (some (.int r.1)) r.2) : ∀ (n : Nat) (h : iv_H) (x2 : Int32) (x3 : Int32), fX0_guarding_l40 N q0 q1 kx n h x2 x3 = some r → Rn d 8 (some .int) 40 [some (.ref q0), some (.ref q1), some (.int x2), some (.int x3)] [] h Q := by
  have hT := hX0_guarding
  intro n
  induction n with
  | zero =>
    intro h x2 x3 e
    rw [fX0_guarding_l40] at e
    cases e
  | succ n ih =>
    intro h x2 x3 e
    rw [fX0_guarding_l40] at e
    refine Rn.n hT 1 (pc' := 41) (L' := [some (.ref q0), some (.ref q1), some (.int x2), some (.int x3)]) (st' := [.int x3]) rfl ?_
    by_cases c_239 : x3 < 0
    · rw [if_pos c_239] at e
      refine Rn.bt hT rfl rfl rfl (decide_eq_true c_239) ?_
      exact Rn.weak (ll_n (ll_n (ll_s (ll_n ll_e)))) (hk h x2 e)
    · rw [if_neg c_239] at e
      refine Rn.bf hT rfl rfl rfl (decide_eq_false c_239) ?_
      refine Rn.n hT 1 (pc' := 45) (L' := [some (.ref q0), some (.ref q1), some (.int x2), some (.int x3)]) (st' := [.int x3]) rfl ?_
      obtain ⟨v_241, e_240, e⟩ := Option.bind_eq_some_iff.mp e
      refine Rn.call hT rfl rfl rfl (Nat.le_of_ble_eq_true rfl) rfl (rJ6_bitCount_0f7a4 (by omega) e_240 ?_)
      show Rn d _ _ 48 [some (.ref q0), some (.ref q1), some (.int x2), some (.int x3)] [.int v_241] h Q
      refine Rn.n hT 1 (pc' := 49) (L' := [some (.ref q0), some (.ref q1), some (.int x2), some (.int x3)]) (st' := [.int x2, .int v_241]) rfl ?_
      obtain ⟨v_243, e_242, e⟩ := Option.bind_eq_some_iff.mp e
      refine Rn.call hT rfl rfl rfl (Nat.le_of_ble_eq_true rfl) rfl (rJ6_bitCount_0f7a4 (by omega) e_242 ?_)
      show Rn d _ _ 52 [some (.ref q0), some (.ref q1), some (.int x2), some (.int x3)] [.int v_243, .int v_241] h Q
      by_cases c_244 : v_243 < v_241
      · rw [if_pos c_244] at e
        refine Rn.bt hT rfl rfl rfl (decide_eq_true c_244) ?_
        exact Rn.weak (ll_s (ll_s (ll_s (ll_s ll_e)))) (rX0_guarding_b69 hd ih hk hq e)
      · rw [if_neg c_244] at e
        refine Rn.bf hT rfl rfl rfl (decide_eq_false c_244) ?_
        refine Rn.n hT 2 (pc' := 57) (L' := [some (.ref q0), some (.ref q1), some (.int x2), some (.int x3)]) (st' := [.ref q1, .ref q0]) rfl ?_
        obtain ⟨v_245, e_246, e⟩ := Option.bind_eq_some_iff.mp e
        refine Rn.hp hT rfl rfl (gI_hp e_246) ?_
        refine Rn.n hT 1 (pc' := 61) (L' := [some (.ref q0), some (.ref q1), some (.int x2), some (.int x3)]) (st' := [.int x3, .int v_245, .ref q0]) rfl ?_
        obtain ⟨_, e_248, e⟩ := Option.bind_eq_some_iff.mp e
        obtain ⟨v_249, e_247, e⟩ := Option.bind_eq_some_iff.mp e
        refine Rn.call hT rfl rfl rfl (Nat.le_of_ble_eq_true rfl) (rcv_v gX0_isGuarded (by omega) e_248) (rX0_isGuarded (by omega) e_247 ?_)
        show Rn d _ _ 64 [some (.ref q0), some (.ref q1), some (.int x2), some (.int x3)] [.int v_249] h Q
        by_cases c_250 : v_249 = 0
        · rw [if_pos c_250] at e
          refine Rn.bt hT rfl rfl rfl (decide_eq_true c_250) ?_
          exact Rn.weak (ll_s (ll_s (ll_s (ll_s ll_e)))) (rX0_guarding_b69 hd ih hk hq e)
        · rw [if_neg c_250] at e
          refine Rn.bf hT rfl rfl rfl (decide_eq_false c_250) ?_
          refine Rn.n hT 2 (pc' := 69) (L' := [some (.ref q0), some (.ref q1), some (.int x3), some (.int x3)]) (st' := []) rfl ?_
          exact Rn.weak (ll_s (ll_s (ll_s (ll_s ll_e)))) (rX0_guarding_b69 hd ih hk hq e)
def fX0_guarding (N : Nat) (h : iv_H) (q0 : Nat) (q1 : Nat) : Option (Int32 × iv_H) := (fX0_guarding_l2 N q0 q1 (fun (h_224 : iv_H) => ((gI h_224 1 2 q1).bind fun v_225 => (fX0_guarding_l40 N q0 q1 (fun (h_227 : iv_H) (z_228 : Int32) => (some (z_228, h_227))) N h_224 (((1 : Int32) <<< (v_225 &&& 31)) - (1 : Int32)) (((1 : Int32) <<< (v_225 &&& 31)) - (1 : Int32))))) N h (0 : Int32))
set_option maxRecDepth 10000 in
set_option maxHeartbeats 4000000 in
theorem rX0_guarding {d N : Nat} (hd : 4 ≤ d) {h : iv_H} {q0 : Nat} {q1 : Nat} {r : Int32 × iv_H} {Q : Option Value → iv_H → Prop} (e : fX0_guarding N h q0 q1 = some r) (hq : Q (some (.int r.1)) r.2) : Cl d 8 [.ref q0, .ref q1] h Q := by
  obtain ⟨d, rfl⟩ : ∃ k, d = k + 1 := ⟨d - 1, by omega⟩
  have hd : 3 ≤ d := by omega
  have hT := hX0_guarding
  unfold fX0_guarding at e
  refine Cl.into (by decide) gX0_guarding rfl ?_
  show Rn d 8 (some .int) 0 [some (.ref q0), some (.ref q1), none, none] [] h Q
  refine Rn.n hT 2 (pc' := 2) (L' := [some (.ref q0), some (.ref q1), some (.int (0 : Int32)), none]) (st' := []) rfl ?_
  refine Rn.weak (ll_s (ll_s (ll_s (ll_n ll_e)))) (rX0_guarding_l2 hd (fun h_224 e => ?_) hq N h (0 : Int32) e)
  try dsimp only at e
  refine Rn.n hT 2 (pc' := 31) (L' := [some (.ref q0), some (.ref q1), none, none]) (st' := [.ref q1, .int (1 : Int32)]) rfl ?_
  obtain ⟨v_225, e_226, e⟩ := Option.bind_eq_some_iff.mp e
  refine Rn.hp hT rfl rfl (gI_hp e_226) ?_
  refine Rn.n hT 6 (pc' := 40) (L' := [some (.ref q0), some (.ref q1), some (.int (((1 : Int32) <<< (v_225 &&& 31)) - (1 : Int32))), some (.int (((1 : Int32) <<< (v_225 &&& 31)) - (1 : Int32)))]) (st' := []) rfl ?_
  refine Rn.weak (ll_s (ll_s (ll_s (ll_s ll_e)))) (rX0_guarding_l40 hd (fun h_227 z_228 e => ?_) hq N h_224 (((1 : Int32) <<< (v_225 &&& 31)) - (1 : Int32)) (((1 : Int32) <<< (v_225 &&& 31)) - (1 : Int32)) e)
  try dsimp only at e
  refine Rn.n hT 1 (pc' := 76) (L' := [none, none, some (.int z_228), none]) (st' := [.int z_228]) rfl ?_
  obtain rfl := Option.some.inj e
  exact Rn.ret hT rfl rfl rfl hq
set_option maxRecDepth 10000 in
theorem hX1_init : iv_Tb 10 tX1_init := iv_tb_of (m := mX1_init) rfl
set_option maxRecDepth 10000 in
theorem gX1_init : PG.2 10 = some mX1_init := iv_pi_of (t := tX1_init) rfl (by decide)
def fX1_init (N : Nat) (h : iv_H) (q0 : Nat) : Option (iv_H) := ((pV h 1 0 q0 (.int (0 : Int32))).bind fun h_252 => ((pV h_252 1 1 q0 (.int (0 : Int32))).bind fun h_254 => ((pV h_254 1 2 q0 (.int (0 : Int32))).bind fun h_256 => ((pV h_256 1 3 q0 (.long (0 : Int64))).bind fun h_258 => ((pV h_258 1 4 q0 (.int (0 : Int32))).bind fun h_260 => ((nA h_260 0 (12 : Int32)).bind fun p_265 => (fun (v_264 : Nat) (h_262 : iv_H) => ((pV h_262 1 5 q0 (.ref v_264)).bind fun h_266 => ((nA h_266 0 (12 : Int32)).bind fun p_271 => (fun (v_270 : Nat) (h_268 : iv_H) => ((pV h_268 1 6 q0 (.ref v_270)).bind fun h_272 => ((nA h_272 0 (16 : Int32)).bind fun p_277 => (fun (v_276 : Nat) (h_274 : iv_H) => ((pV h_274 1 7 q0 (.ref v_276)).bind fun h_278 => ((nA h_278 0 (48 : Int32)).bind fun p_283 => (fun (v_282 : Nat) (h_280 : iv_H) => ((pV h_280 1 8 q0 (.ref v_282)).bind fun h_284 => ((nA h_284 0 (64 : Int32)).bind fun p_289 => (fun (v_288 : Nat) (h_286 : iv_H) => ((pV h_286 1 9 q0 (.ref v_288)).bind fun h_290 => ((nA h_290 0 (64 : Int32)).bind fun p_295 => (fun (v_294 : Nat) (h_292 : iv_H) => ((pV h_292 1 10 q0 (.ref v_294)).bind fun h_296 => ((gR h_296 1 7 q0).bind fun v_298 => ((fJ7_fill_53178 N h_296 v_298 (-1 : Int32)).bind fun h_302 => ((gR h_302 1 9 q0).bind fun v_303 => ((fJ7_fill_53178 N h_302 v_303 (3 : Int32)).bind fun h_307 => ((gR h_307 1 10 q0).bind fun v_308 => ((fJ7_fill_53178 N h_307 v_308 (-1 : Int32)).bind fun h_312 => some h_312)))))))) p_295.1 p_295.2))) p_289.1 p_289.2))) p_283.1 p_283.2))) p_277.1 p_277.2))) p_271.1 p_271.2))) p_265.1 p_265.2))))))
set_option maxRecDepth 10000 in
set_option maxHeartbeats 4000000 in
theorem rX1_init {d N : Nat} (hd : 2 ≤ d) {h : iv_H} {q0 : Nat} {r : iv_H} {Q : Option Value → iv_H → Prop} (e : fX1_init N h q0 = some r) (hq : Q none r) : Cl d 10 [.ref q0] h Q := by
  obtain ⟨d, rfl⟩ : ∃ k, d = k + 1 := ⟨d - 1, by omega⟩
  have hd : 1 ≤ d := by omega
  have hT := hX1_init
  unfold fX1_init at e
  refine Cl.into (by decide) gX1_init rfl ?_
  show Rn d 10 none 0 [some (.ref q0)] [] h Q
  refine Rn.n hT 1 (pc' := 1) (L' := [some (.ref q0)]) (st' := [.ref q0]) rfl ?_
  refine Rn.hp hT rfl rfl (st' := []) (h1 := h) rfl ?_
  refine Rn.n hT 2 (pc' := 6) (L' := [some (.ref q0)]) (st' := [.int (0 : Int32), .ref q0]) rfl ?_
  obtain ⟨h_252, e_253, e⟩ := Option.bind_eq_some_iff.mp e
  refine Rn.hp hT rfl rfl (pV_hp rfl e_253) ?_
  refine Rn.n hT 2 (pc' := 11) (L' := [some (.ref q0)]) (st' := [.int (0 : Int32), .ref q0]) rfl ?_
  obtain ⟨h_254, e_255, e⟩ := Option.bind_eq_some_iff.mp e
  refine Rn.hp hT rfl rfl (pV_hp rfl e_255) ?_
  refine Rn.n hT 2 (pc' := 16) (L' := [some (.ref q0)]) (st' := [.int (0 : Int32), .ref q0]) rfl ?_
  obtain ⟨h_256, e_257, e⟩ := Option.bind_eq_some_iff.mp e
  refine Rn.hp hT rfl rfl (pV_hp rfl e_257) ?_
  refine Rn.n hT 2 (pc' := 21) (L' := [some (.ref q0)]) (st' := [.long (0 : Int64), .ref q0]) rfl ?_
  obtain ⟨h_258, e_259, e⟩ := Option.bind_eq_some_iff.mp e
  refine Rn.hp hT rfl rfl (pV_hp rfl e_259) ?_
  refine Rn.n hT 2 (pc' := 26) (L' := [some (.ref q0)]) (st' := [.int (0 : Int32), .ref q0]) rfl ?_
  obtain ⟨h_260, e_261, e⟩ := Option.bind_eq_some_iff.mp e
  refine Rn.hp hT rfl rfl (pV_hp rfl e_261) ?_
  refine Rn.n hT 2 (pc' := 32) (L' := [some (.ref q0)]) (st' := [.int (12 : Int32), .ref q0]) rfl ?_
  obtain ⟨⟨v_264, h_262⟩, e_263, e⟩ := Option.bind_eq_some_iff.mp e
  try dsimp only at e
  refine Rn.hp hT rfl rfl (nA_hp rfl e_263) ?_
  obtain ⟨h_266, e_267, e⟩ := Option.bind_eq_some_iff.mp e
  refine Rn.hp hT rfl rfl (pV_hp rfl e_267) ?_
  refine Rn.n hT 2 (pc' := 40) (L' := [some (.ref q0)]) (st' := [.int (12 : Int32), .ref q0]) rfl ?_
  obtain ⟨⟨v_270, h_268⟩, e_269, e⟩ := Option.bind_eq_some_iff.mp e
  try dsimp only at e
  refine Rn.hp hT rfl rfl (nA_hp rfl e_269) ?_
  obtain ⟨h_272, e_273, e⟩ := Option.bind_eq_some_iff.mp e
  refine Rn.hp hT rfl rfl (pV_hp rfl e_273) ?_
  refine Rn.n hT 2 (pc' := 48) (L' := [some (.ref q0)]) (st' := [.int (16 : Int32), .ref q0]) rfl ?_
  obtain ⟨⟨v_276, h_274⟩, e_275, e⟩ := Option.bind_eq_some_iff.mp e
  try dsimp only at e
  refine Rn.hp hT rfl rfl (nA_hp rfl e_275) ?_
  obtain ⟨h_278, e_279, e⟩ := Option.bind_eq_some_iff.mp e
  refine Rn.hp hT rfl rfl (pV_hp rfl e_279) ?_
  refine Rn.n hT 2 (pc' := 56) (L' := [some (.ref q0)]) (st' := [.int (48 : Int32), .ref q0]) rfl ?_
  obtain ⟨⟨v_282, h_280⟩, e_281, e⟩ := Option.bind_eq_some_iff.mp e
  try dsimp only at e
  refine Rn.hp hT rfl rfl (nA_hp rfl e_281) ?_
  obtain ⟨h_284, e_285, e⟩ := Option.bind_eq_some_iff.mp e
  refine Rn.hp hT rfl rfl (pV_hp rfl e_285) ?_
  refine Rn.n hT 2 (pc' := 64) (L' := [some (.ref q0)]) (st' := [.int (64 : Int32), .ref q0]) rfl ?_
  obtain ⟨⟨v_288, h_286⟩, e_287, e⟩ := Option.bind_eq_some_iff.mp e
  try dsimp only at e
  refine Rn.hp hT rfl rfl (nA_hp rfl e_287) ?_
  obtain ⟨h_290, e_291, e⟩ := Option.bind_eq_some_iff.mp e
  refine Rn.hp hT rfl rfl (pV_hp rfl e_291) ?_
  refine Rn.n hT 2 (pc' := 72) (L' := [some (.ref q0)]) (st' := [.int (64 : Int32), .ref q0]) rfl ?_
  obtain ⟨⟨v_294, h_292⟩, e_293, e⟩ := Option.bind_eq_some_iff.mp e
  try dsimp only at e
  refine Rn.hp hT rfl rfl (nA_hp rfl e_293) ?_
  obtain ⟨h_296, e_297, e⟩ := Option.bind_eq_some_iff.mp e
  refine Rn.hp hT rfl rfl (pV_hp rfl e_297) ?_
  refine Rn.n hT 1 (pc' := 78) (L' := [some (.ref q0)]) (st' := [.ref q0]) rfl ?_
  obtain ⟨v_298, e_299, e⟩ := Option.bind_eq_some_iff.mp e
  refine Rn.hp hT rfl rfl (gR_hp e_299) ?_
  refine Rn.n hT 1 (pc' := 82) (L' := [some (.ref q0)]) (st' := [.int (-1 : Int32), .ref v_298]) rfl ?_
  obtain ⟨h_302, e_300, e⟩ := Option.bind_eq_some_iff.mp e
  refine Rn.call hT rfl rfl rfl (Nat.le_of_ble_eq_true rfl) rfl (rJ7_fill_53178 (by omega) e_300 ?_)
  show Rn d _ _ 85 [some (.ref q0)] [] h_302 Q
  refine Rn.n hT 1 (pc' := 86) (L' := [some (.ref q0)]) (st' := [.ref q0]) rfl ?_
  obtain ⟨v_303, e_304, e⟩ := Option.bind_eq_some_iff.mp e
  refine Rn.hp hT rfl rfl (gR_hp e_304) ?_
  refine Rn.n hT 1 (pc' := 90) (L' := [some (.ref q0)]) (st' := [.int (3 : Int32), .ref v_303]) rfl ?_
  obtain ⟨h_307, e_305, e⟩ := Option.bind_eq_some_iff.mp e
  refine Rn.call hT rfl rfl rfl (Nat.le_of_ble_eq_true rfl) rfl (rJ7_fill_53178 (by omega) e_305 ?_)
  show Rn d _ _ 93 [some (.ref q0)] [] h_307 Q
  refine Rn.n hT 1 (pc' := 94) (L' := [some (.ref q0)]) (st' := [.ref q0]) rfl ?_
  obtain ⟨v_308, e_309, e⟩ := Option.bind_eq_some_iff.mp e
  refine Rn.hp hT rfl rfl (gR_hp e_309) ?_
  refine Rn.n hT 1 (pc' := 98) (L' := [some (.ref q0)]) (st' := [.int (-1 : Int32), .ref v_308]) rfl ?_
  obtain ⟨h_312, e_310, e⟩ := Option.bind_eq_some_iff.mp e
  refine Rn.call hT rfl rfl rfl (Nat.le_of_ble_eq_true rfl) rfl (rJ7_fill_53178 (by omega) e_310 ?_)
  show Rn d _ _ 101 [some (.ref q0)] [] h_312 Q
  obtain rfl := Option.some.inj e
  exact Rn.ret hT rfl rfl rfl hq
set_option maxRecDepth 10000 in
theorem hX1_sweep : iv_Tb 12 tX1_sweep := iv_tb_of (m := mX1_sweep) rfl
set_option maxRecDepth 10000 in
theorem gX1_sweep : PG.2 12 = some mX1_sweep := iv_pi_of (t := tX1_sweep) rfl (by decide)
def fX1_sweep (N : Nat) (h : iv_H) (q0 : Nat) : Option (iv_H) := ((gR h 1 7 q0).bind fun v_313 => ((fJ7_fill_53178 N h v_313 (-1 : Int32)).bind fun h_317 => ((gR h_317 1 9 q0).bind fun v_318 => ((fJ7_fill_53178 N h_317 v_318 (3 : Int32)).bind fun h_322 => some h_322))))
set_option maxRecDepth 10000 in
set_option maxHeartbeats 4000000 in
theorem rX1_sweep {d N : Nat} (hd : 2 ≤ d) {h : iv_H} {q0 : Nat} {r : iv_H} {Q : Option Value → iv_H → Prop} (e : fX1_sweep N h q0 = some r) (hq : Q none r) : Cl d 12 [.ref q0] h Q := by
  obtain ⟨d, rfl⟩ : ∃ k, d = k + 1 := ⟨d - 1, by omega⟩
  have hd : 1 ≤ d := by omega
  have hT := hX1_sweep
  unfold fX1_sweep at e
  refine Cl.into (by decide) gX1_sweep rfl ?_
  show Rn d 12 none 0 [some (.ref q0)] [] h Q
  refine Rn.n hT 1 (pc' := 1) (L' := [some (.ref q0)]) (st' := [.ref q0]) rfl ?_
  obtain ⟨v_313, e_314, e⟩ := Option.bind_eq_some_iff.mp e
  refine Rn.hp hT rfl rfl (gR_hp e_314) ?_
  refine Rn.n hT 1 (pc' := 5) (L' := [some (.ref q0)]) (st' := [.int (-1 : Int32), .ref v_313]) rfl ?_
  obtain ⟨h_317, e_315, e⟩ := Option.bind_eq_some_iff.mp e
  refine Rn.call hT rfl rfl rfl (Nat.le_of_ble_eq_true rfl) rfl (rJ7_fill_53178 (by omega) e_315 ?_)
  show Rn d _ _ 8 [some (.ref q0)] [] h_317 Q
  refine Rn.n hT 1 (pc' := 9) (L' := [some (.ref q0)]) (st' := [.ref q0]) rfl ?_
  obtain ⟨v_318, e_319, e⟩ := Option.bind_eq_some_iff.mp e
  refine Rn.hp hT rfl rfl (gR_hp e_319) ?_
  refine Rn.n hT 1 (pc' := 13) (L' := [some (.ref q0)]) (st' := [.int (3 : Int32), .ref v_318]) rfl ?_
  obtain ⟨h_322, e_320, e⟩ := Option.bind_eq_some_iff.mp e
  refine Rn.call hT rfl rfl rfl (Nat.le_of_ble_eq_true rfl) rfl (rJ7_fill_53178 (by omega) e_320 ?_)
  show Rn d _ _ 16 [some (.ref q0)] [] h_322 Q
  obtain rfl := Option.some.inj e
  exact Rn.ret hT rfl rfl rfl hq
set_option maxRecDepth 10000 in
theorem hX1_cellAt : iv_Tb 15 tX1_cellAt := iv_tb_of (m := mX1_cellAt) rfl
set_option maxRecDepth 10000 in
theorem gX1_cellAt : PG.2 15 = some mX1_cellAt := iv_pi_of (t := tX1_cellAt) rfl (by decide)
def fX1_cellAt_b33 (N : Nat) (h : iv_H)  (s0 : Int32) : Option (Int32) := (some s0)
set_option maxRecDepth 10000 in
set_option maxHeartbeats 4000000 in
theorem rX1_cellAt_b33 {d N : Nat} (hd : 0 ≤ d) {h : iv_H}  {s0 : Int32} {r : Int32} {Q : Option Value → iv_H → Prop} (hq : Q (some (.int r)) h) (e : fX1_cellAt_b33 N h  s0 = some r) : Rn d 15 (some .int) 33 [none, none, none] [.int s0] h Q := by
  have hT := hX1_cellAt
  unfold fX1_cellAt_b33 at e
  obtain rfl := Option.some.inj e
  exact Rn.ret hT rfl rfl rfl hq
def fX1_cellAt_b32 (N : Nat) (h : iv_H)   : Option (Int32) := (fX1_cellAt_b33 N h (-1 : Int32))
set_option maxRecDepth 10000 in
set_option maxHeartbeats 4000000 in
theorem rX1_cellAt_b32 {d N : Nat} (hd : 0 ≤ d) {h : iv_H}   {r : Int32} {Q : Option Value → iv_H → Prop} (hq : Q (some (.int r)) h) (e : fX1_cellAt_b32 N h   = some r) : Rn d 15 (some .int) 32 [none, none, none] [] h Q := by
  have hT := hX1_cellAt
  unfold fX1_cellAt_b32 at e
  refine Rn.n hT 1 (pc' := 33) (L' := [none, none, none]) (st' := [.int (-1 : Int32)]) rfl ?_
  exact Rn.weak (ll_n (ll_n (ll_n ll_e))) (rX1_cellAt_b33 hd hq e)
def fX1_cellAt (N : Nat) (h : iv_H) (q0 : Nat) (x1 : Int32) (x2 : Int32) : Option (Int32) := (if x1 < 0 then (fX1_cellAt_b32 N h) else ((gI h 1 0 q0).bind fun v_324 => (if v_324 ≤ x1 then (fX1_cellAt_b32 N h) else (if x2 < 0 then (fX1_cellAt_b32 N h) else ((gI h 1 1 q0).bind fun v_328 => (if v_328 ≤ x2 then (fX1_cellAt_b32 N h) else (fX1_cellAt_b33 N h (((4 : Int32) * x2) + x1))))))))
set_option maxRecDepth 10000 in
set_option maxHeartbeats 4000000 in
theorem rX1_cellAt {d N : Nat} (hd : 1 ≤ d) {h : iv_H} {q0 : Nat} {x1 : Int32} {x2 : Int32} {r : Int32} {Q : Option Value → iv_H → Prop} (e : fX1_cellAt N h q0 x1 x2 = some r) (hq : Q (some (.int r)) h) : Cl d 15 [.ref q0, .int x1, .int x2] h Q := by
  obtain ⟨d, rfl⟩ : ∃ k, d = k + 1 := ⟨d - 1, by omega⟩
  have hd : 0 ≤ d := by omega
  have hT := hX1_cellAt
  unfold fX1_cellAt at e
  refine Cl.into (by decide) gX1_cellAt rfl ?_
  show Rn d 15 (some .int) 0 [some (.ref q0), some (.int x1), some (.int x2)] [] h Q
  refine Rn.n hT 1 (pc' := 1) (L' := [some (.ref q0), some (.int x1), some (.int x2)]) (st' := [.int x1]) rfl ?_
  by_cases c_323 : x1 < 0
  · rw [if_pos c_323] at e
    refine Rn.bt hT rfl rfl rfl (decide_eq_true c_323) ?_
    exact Rn.weak (ll_n (ll_n (ll_n ll_e))) (rX1_cellAt_b32 hd hq e)
  · rw [if_neg c_323] at e
    refine Rn.bf hT rfl rfl rfl (decide_eq_false c_323) ?_
    refine Rn.n hT 2 (pc' := 6) (L' := [some (.ref q0), some (.int x1), some (.int x2)]) (st' := [.ref q0, .int x1]) rfl ?_
    obtain ⟨v_324, e_325, e⟩ := Option.bind_eq_some_iff.mp e
    refine Rn.hp hT rfl rfl (gI_hp e_325) ?_
    by_cases c_326 : v_324 ≤ x1
    · rw [if_pos c_326] at e
      refine Rn.bt hT rfl rfl rfl (decide_eq_true c_326) ?_
      exact Rn.weak (ll_n (ll_n (ll_n ll_e))) (rX1_cellAt_b32 hd hq e)
    · rw [if_neg c_326] at e
      refine Rn.bf hT rfl rfl rfl (decide_eq_false c_326) ?_
      refine Rn.n hT 1 (pc' := 13) (L' := [some (.ref q0), some (.int x1), some (.int x2)]) (st' := [.int x2]) rfl ?_
      by_cases c_327 : x2 < 0
      · rw [if_pos c_327] at e
        refine Rn.bt hT rfl rfl rfl (decide_eq_true c_327) ?_
        exact Rn.weak (ll_n (ll_n (ll_n ll_e))) (rX1_cellAt_b32 hd hq e)
      · rw [if_neg c_327] at e
        refine Rn.bf hT rfl rfl rfl (decide_eq_false c_327) ?_
        refine Rn.n hT 2 (pc' := 18) (L' := [some (.ref q0), some (.int x1), some (.int x2)]) (st' := [.ref q0, .int x2]) rfl ?_
        obtain ⟨v_328, e_329, e⟩ := Option.bind_eq_some_iff.mp e
        refine Rn.hp hT rfl rfl (gI_hp e_329) ?_
        by_cases c_330 : v_328 ≤ x2
        · rw [if_pos c_330] at e
          refine Rn.bt hT rfl rfl rfl (decide_eq_true c_330) ?_
          exact Rn.weak (ll_n (ll_n (ll_n ll_e))) (rX1_cellAt_b32 hd hq e)
        · rw [if_neg c_330] at e
          refine Rn.bf hT rfl rfl rfl (decide_eq_false c_330) ?_
          refine Rn.n hT 6 (pc' := 33) (L' := [some (.ref q0), some (.int x1), some (.int x2)]) (st' := [.int (((4 : Int32) * x2) + x1)]) rfl ?_
          exact Rn.weak (ll_n (ll_n (ll_n ll_e))) (rX1_cellAt_b33 hd hq e)
set_option maxRecDepth 10000 in
theorem hX1_layOut : iv_Tb 11 tX1_layOut := iv_tb_of (m := mX1_layOut) rfl
set_option maxRecDepth 10000 in
theorem gX1_layOut : PG.2 11 = some mX1_layOut := iv_pi_of (t := tX1_layOut) rfl (by decide)
def fX1_layOut_l39 (N : Nat) (q0 : Nat) (kx : iv_H → Option (iv_H)) : Nat → iv_H → Int32 → Option (iv_H)
  | 0, _, _ => none
  | n + 1, h, x3 => (if (16 : Int32) ≤ x3 then (kx h) else ((gR h 1 10 q0).bind fun v_352 => ((cko h q0 1).bind fun _ => (fX1_cellAt N h q0 (x3 &&& (3 : Int32)) ((x3 >>> ((2 : Int32) &&& 31)) - (1 : Int32))).bind fun v_356 => ((wI h v_352 ((4 : Int32) * x3) v_356).bind fun h_357 => ((gR h_357 1 10 q0).bind fun v_359 => ((cko h_357 q0 1).bind fun _ => (fX1_cellAt N h_357 q0 ((x3 &&& (3 : Int32)) + (1 : Int32)) (x3 >>> ((2 : Int32) &&& 31))).bind fun v_363 => ((wI h_357 v_359 (((4 : Int32) * x3) + (1 : Int32)) v_363).bind fun h_364 => ((gR h_364 1 10 q0).bind fun v_366 => ((cko h_364 q0 1).bind fun _ => (fX1_cellAt N h_364 q0 (x3 &&& (3 : Int32)) ((x3 >>> ((2 : Int32) &&& 31)) + (1 : Int32))).bind fun v_370 => ((wI h_364 v_366 (((4 : Int32) * x3) + (2 : Int32)) v_370).bind fun h_371 => ((gR h_371 1 10 q0).bind fun v_373 => ((cko h_371 q0 1).bind fun _ => (fX1_cellAt N h_371 q0 ((x3 &&& (3 : Int32)) - (1 : Int32)) (x3 >>> ((2 : Int32) &&& 31))).bind fun v_377 => ((wI h_371 v_373 (((4 : Int32) * x3) + (3 : Int32)) v_377).bind fun h_378 => (fX1_layOut_l39 N q0 kx n h_378 (x3 + (1 : Int32))))))))))))))))
set_option maxRecDepth 10000 in
set_option maxHeartbeats 4000000 in
theorem rX1_layOut_l39 {d N : Nat} (hd : 2 ≤ d) {q0 : Nat} {kx : iv_H → Option (iv_H)} {r : iv_H} {Q : Option Value → iv_H → Prop} (hk : ∀ (h : iv_H), kx h = some r → Rn d 11 none 139 [none, none, none, none, none, none] [] h Q) (hq : Q none r) : ∀ (n : Nat) (h : iv_H) (x3 : Int32), fX1_layOut_l39 N q0 kx n h x3 = some r → Rn d 11 none 39 [some (.ref q0), none, none, some (.int x3), none, none] [] h Q := by
  have hT := hX1_layOut
  intro n
  induction n with
  | zero =>
    intro h x3 e
    rw [fX1_layOut_l39] at e
    cases e
  | succ n ih =>
    intro h x3 e
    rw [fX1_layOut_l39] at e
    refine Rn.n hT 2 (pc' := 42) (L' := [some (.ref q0), none, none, some (.int x3), none, none]) (st' := [.int (16 : Int32), .int x3]) rfl ?_
    by_cases c_351 : (16 : Int32) ≤ x3
    · rw [if_pos c_351] at e
      refine Rn.bt hT rfl rfl rfl (decide_eq_true c_351) ?_
      exact Rn.weak (ll_n (ll_n (ll_n (ll_n (ll_n (ll_n ll_e)))))) (hk h e)
    · rw [if_neg c_351] at e
      refine Rn.bf hT rfl rfl rfl (decide_eq_false c_351) ?_
      refine Rn.n hT 9 (pc' := 56) (L' := [some (.ref q0), none, none, some (.int x3), some (.int (x3 &&& (3 : Int32))), some (.int (x3 >>> ((2 : Int32) &&& 31)))]) (st' := [.ref q0]) rfl ?_
      obtain ⟨v_352, e_353, e⟩ := Option.bind_eq_some_iff.mp e
      refine Rn.hp hT rfl rfl (gR_hp e_353) ?_
      refine Rn.n hT 8 (pc' := 69) (L' := [some (.ref q0), none, none, some (.int x3), some (.int (x3 &&& (3 : Int32))), some (.int (x3 >>> ((2 : Int32) &&& 31)))]) (st' := [.int ((x3 >>> ((2 : Int32) &&& 31)) - (1 : Int32)), .int (x3 &&& (3 : Int32)), .ref q0, .int ((4 : Int32) * x3), .ref v_352]) rfl ?_
      obtain ⟨_, e_355, e⟩ := Option.bind_eq_some_iff.mp e
      obtain ⟨v_356, e_354, e⟩ := Option.bind_eq_some_iff.mp e
      refine Rn.call hT rfl rfl rfl (Nat.le_of_ble_eq_true rfl) (rcv_v gX1_cellAt (by omega) e_355) (rX1_cellAt (by omega) e_354 ?_)
      show Rn d _ _ 72 [some (.ref q0), none, none, some (.int x3), some (.int (x3 &&& (3 : Int32))), some (.int (x3 >>> ((2 : Int32) &&& 31)))] [.int v_356, .int ((4 : Int32) * x3), .ref v_352] h Q
      obtain ⟨h_357, e_358, e⟩ := Option.bind_eq_some_iff.mp e
      refine Rn.hp hT rfl rfl (wI_hp e_358) ?_
      refine Rn.n hT 1 (pc' := 74) (L' := [some (.ref q0), none, none, some (.int x3), some (.int (x3 &&& (3 : Int32))), some (.int (x3 >>> ((2 : Int32) &&& 31)))]) (st' := [.ref q0]) rfl ?_
      obtain ⟨v_359, e_360, e⟩ := Option.bind_eq_some_iff.mp e
      refine Rn.hp hT rfl rfl (gR_hp e_360) ?_
      refine Rn.n hT 10 (pc' := 89) (L' := [some (.ref q0), none, none, some (.int x3), some (.int (x3 &&& (3 : Int32))), some (.int (x3 >>> ((2 : Int32) &&& 31)))]) (st' := [.int (x3 >>> ((2 : Int32) &&& 31)), .int ((x3 &&& (3 : Int32)) + (1 : Int32)), .ref q0, .int (((4 : Int32) * x3) + (1 : Int32)), .ref v_359]) rfl ?_
      obtain ⟨_, e_362, e⟩ := Option.bind_eq_some_iff.mp e
      obtain ⟨v_363, e_361, e⟩ := Option.bind_eq_some_iff.mp e
      refine Rn.call hT rfl rfl rfl (Nat.le_of_ble_eq_true rfl) (rcv_v gX1_cellAt (by omega) e_362) (rX1_cellAt (by omega) e_361 ?_)
      show Rn d _ _ 92 [some (.ref q0), none, none, some (.int x3), some (.int (x3 &&& (3 : Int32))), some (.int (x3 >>> ((2 : Int32) &&& 31)))] [.int v_363, .int (((4 : Int32) * x3) + (1 : Int32)), .ref v_359] h_357 Q
      obtain ⟨h_364, e_365, e⟩ := Option.bind_eq_some_iff.mp e
      refine Rn.hp hT rfl rfl (wI_hp e_365) ?_
      refine Rn.n hT 1 (pc' := 94) (L' := [some (.ref q0), none, none, some (.int x3), some (.int (x3 &&& (3 : Int32))), some (.int (x3 >>> ((2 : Int32) &&& 31)))]) (st' := [.ref q0]) rfl ?_
      obtain ⟨v_366, e_367, e⟩ := Option.bind_eq_some_iff.mp e
      refine Rn.hp hT rfl rfl (gR_hp e_367) ?_
      refine Rn.n hT 10 (pc' := 109) (L' := [some (.ref q0), none, none, some (.int x3), some (.int (x3 &&& (3 : Int32))), some (.int (x3 >>> ((2 : Int32) &&& 31)))]) (st' := [.int ((x3 >>> ((2 : Int32) &&& 31)) + (1 : Int32)), .int (x3 &&& (3 : Int32)), .ref q0, .int (((4 : Int32) * x3) + (2 : Int32)), .ref v_366]) rfl ?_
      obtain ⟨_, e_369, e⟩ := Option.bind_eq_some_iff.mp e
      obtain ⟨v_370, e_368, e⟩ := Option.bind_eq_some_iff.mp e
      refine Rn.call hT rfl rfl rfl (Nat.le_of_ble_eq_true rfl) (rcv_v gX1_cellAt (by omega) e_369) (rX1_cellAt (by omega) e_368 ?_)
      show Rn d _ _ 112 [some (.ref q0), none, none, some (.int x3), some (.int (x3 &&& (3 : Int32))), some (.int (x3 >>> ((2 : Int32) &&& 31)))] [.int v_370, .int (((4 : Int32) * x3) + (2 : Int32)), .ref v_366] h_364 Q
      obtain ⟨h_371, e_372, e⟩ := Option.bind_eq_some_iff.mp e
      refine Rn.hp hT rfl rfl (wI_hp e_372) ?_
      refine Rn.n hT 1 (pc' := 114) (L' := [some (.ref q0), none, none, some (.int x3), some (.int (x3 &&& (3 : Int32))), some (.int (x3 >>> ((2 : Int32) &&& 31)))]) (st' := [.ref q0]) rfl ?_
      obtain ⟨v_373, e_374, e⟩ := Option.bind_eq_some_iff.mp e
      refine Rn.hp hT rfl rfl (gR_hp e_374) ?_
      refine Rn.n hT 10 (pc' := 129) (L' := [some (.ref q0), none, none, some (.int x3), some (.int (x3 &&& (3 : Int32))), some (.int (x3 >>> ((2 : Int32) &&& 31)))]) (st' := [.int (x3 >>> ((2 : Int32) &&& 31)), .int ((x3 &&& (3 : Int32)) - (1 : Int32)), .ref q0, .int (((4 : Int32) * x3) + (3 : Int32)), .ref v_373]) rfl ?_
      obtain ⟨_, e_376, e⟩ := Option.bind_eq_some_iff.mp e
      obtain ⟨v_377, e_375, e⟩ := Option.bind_eq_some_iff.mp e
      refine Rn.call hT rfl rfl rfl (Nat.le_of_ble_eq_true rfl) (rcv_v gX1_cellAt (by omega) e_376) (rX1_cellAt (by omega) e_375 ?_)
      show Rn d _ _ 132 [some (.ref q0), none, none, some (.int x3), some (.int (x3 &&& (3 : Int32))), some (.int (x3 >>> ((2 : Int32) &&& 31)))] [.int v_377, .int (((4 : Int32) * x3) + (3 : Int32)), .ref v_373] h_371 Q
      obtain ⟨h_378, e_379, e⟩ := Option.bind_eq_some_iff.mp e
      refine Rn.hp hT rfl rfl (wI_hp e_379) ?_
      refine Rn.n hT 2 (pc' := 39) (L' := [some (.ref q0), none, none, some (.int (x3 + (1 : Int32))), some (.int (x3 &&& (3 : Int32))), some (.int (x3 >>> ((2 : Int32) &&& 31)))]) (st' := []) rfl ?_
      exact Rn.weak (ll_s (ll_n (ll_n (ll_s (ll_n (ll_n ll_e)))))) (ih h_378 (x3 + (1 : Int32)) e)
def fX1_layOut (N : Nat) (h : iv_H) (q0 : Nat) (x1 : Int32) (x2 : Int32) : Option (iv_H) := ((pV h 1 0 q0 (.int x1)).bind fun h_331 => ((pV h_331 1 1 q0 (.int x2)).bind fun h_333 => ((pV h_333 1 2 q0 (.int (0 : Int32))).bind fun h_335 => ((pV h_335 1 3 q0 (.long (0 : Int64))).bind fun h_337 => ((pV h_337 1 4 q0 (.int (0 : Int32))).bind fun h_339 => ((gR h_339 1 8 q0).bind fun v_341 => ((fJ7_fill_53178 N h_339 v_341 (0 : Int32)).bind fun h_345 => ((cko h_345 q0 1).bind fun _ => (fX1_sweep N h_345 q0).bind fun h_349 => (fX1_layOut_l39 N q0 (fun (h_350 : iv_H) => some h_350) N h_349 (0 : Int32))))))))))
set_option maxRecDepth 10000 in
set_option maxHeartbeats 4000000 in
theorem rX1_layOut {d N : Nat} (hd : 3 ≤ d) {h : iv_H} {q0 : Nat} {x1 : Int32} {x2 : Int32} {r : iv_H} {Q : Option Value → iv_H → Prop} (e : fX1_layOut N h q0 x1 x2 = some r) (hq : Q none r) : Cl d 11 [.ref q0, .int x1, .int x2] h Q := by
  obtain ⟨d, rfl⟩ : ∃ k, d = k + 1 := ⟨d - 1, by omega⟩
  have hd : 2 ≤ d := by omega
  have hT := hX1_layOut
  unfold fX1_layOut at e
  refine Cl.into (by decide) gX1_layOut rfl ?_
  show Rn d 11 none 0 [some (.ref q0), some (.int x1), some (.int x2), none, none, none] [] h Q
  refine Rn.n hT 2 (pc' := 2) (L' := [some (.ref q0), some (.int x1), some (.int x2), none, none, none]) (st' := [.int x1, .ref q0]) rfl ?_
  obtain ⟨h_331, e_332, e⟩ := Option.bind_eq_some_iff.mp e
  refine Rn.hp hT rfl rfl (pV_hp rfl e_332) ?_
  refine Rn.n hT 2 (pc' := 7) (L' := [some (.ref q0), some (.int x1), some (.int x2), none, none, none]) (st' := [.int x2, .ref q0]) rfl ?_
  obtain ⟨h_333, e_334, e⟩ := Option.bind_eq_some_iff.mp e
  refine Rn.hp hT rfl rfl (pV_hp rfl e_334) ?_
  refine Rn.n hT 2 (pc' := 12) (L' := [some (.ref q0), some (.int x1), some (.int x2), none, none, none]) (st' := [.int (0 : Int32), .ref q0]) rfl ?_
  obtain ⟨h_335, e_336, e⟩ := Option.bind_eq_some_iff.mp e
  refine Rn.hp hT rfl rfl (pV_hp rfl e_336) ?_
  refine Rn.n hT 2 (pc' := 17) (L' := [some (.ref q0), some (.int x1), some (.int x2), none, none, none]) (st' := [.long (0 : Int64), .ref q0]) rfl ?_
  obtain ⟨h_337, e_338, e⟩ := Option.bind_eq_some_iff.mp e
  refine Rn.hp hT rfl rfl (pV_hp rfl e_338) ?_
  refine Rn.n hT 2 (pc' := 22) (L' := [some (.ref q0), some (.int x1), some (.int x2), none, none, none]) (st' := [.int (0 : Int32), .ref q0]) rfl ?_
  obtain ⟨h_339, e_340, e⟩ := Option.bind_eq_some_iff.mp e
  refine Rn.hp hT rfl rfl (pV_hp rfl e_340) ?_
  refine Rn.n hT 1 (pc' := 26) (L' := [some (.ref q0), some (.int x1), some (.int x2), none, none, none]) (st' := [.ref q0]) rfl ?_
  obtain ⟨v_341, e_342, e⟩ := Option.bind_eq_some_iff.mp e
  refine Rn.hp hT rfl rfl (gR_hp e_342) ?_
  refine Rn.n hT 1 (pc' := 30) (L' := [some (.ref q0), some (.int x1), some (.int x2), none, none, none]) (st' := [.int (0 : Int32), .ref v_341]) rfl ?_
  obtain ⟨h_345, e_343, e⟩ := Option.bind_eq_some_iff.mp e
  refine Rn.call hT rfl rfl rfl (Nat.le_of_ble_eq_true rfl) rfl (rJ7_fill_53178 (by omega) e_343 ?_)
  show Rn d _ _ 33 [some (.ref q0), some (.int x1), some (.int x2), none, none, none] [] h_345 Q
  refine Rn.n hT 1 (pc' := 34) (L' := [some (.ref q0), some (.int x1), some (.int x2), none, none, none]) (st' := [.ref q0]) rfl ?_
  obtain ⟨_, e_347, e⟩ := Option.bind_eq_some_iff.mp e
  obtain ⟨h_349, e_346, e⟩ := Option.bind_eq_some_iff.mp e
  refine Rn.call hT rfl rfl rfl (Nat.le_of_ble_eq_true rfl) (rcv_v gX1_sweep (by omega) e_347) (rX1_sweep (by omega) e_346 ?_)
  show Rn d _ _ 37 [some (.ref q0), some (.int x1), some (.int x2), none, none, none] [] h_349 Q
  refine Rn.n hT 2 (pc' := 39) (L' := [some (.ref q0), some (.int x1), some (.int x2), some (.int (0 : Int32)), none, none]) (st' := []) rfl ?_
  refine Rn.weak (ll_s (ll_n (ll_n (ll_s (ll_n (ll_n ll_e)))))) (rX1_layOut_l39 hd (fun h_350 e => ?_) hq N h_349 (0 : Int32) e)
  try dsimp only at e
  obtain rfl := Option.some.inj e
  exact Rn.ret hT rfl rfl rfl hq
set_option maxRecDepth 10000 in
theorem hX1_put : iv_Tb 18 tX1_put := iv_tb_of (m := mX1_put) rfl
set_option maxRecDepth 10000 in
theorem gX1_put : PG.2 18 = some mX1_put := iv_pi_of (t := tX1_put) rfl (by decide)
def fX1_put_b118 (N : Nat) (h : iv_H) (q0 : Nat) (x1 : Int32) (x2 : Int32) (x3 : Int32) (x4 : Int32) (s0 : Int32) (s1 : Int32) (sq2 : Nat) (kb : iv_H → Int32 → Option (iv_H)) (kx : iv_H → Option (iv_H)) : Option (iv_H) := ((wI h sq2 s1 s0).bind fun h_409 => (kb h_409 (x4 + (1 : Int32))))
set_option maxRecDepth 10000 in
set_option maxHeartbeats 4000000 in
theorem rX1_put_b118 {d N : Nat} (hd : 0 ≤ d) {h : iv_H} {q0 : Nat} {x1 : Int32} {x2 : Int32} {x3 : Int32} {x4 : Int32} {s0 : Int32} {s1 : Int32} {sq2 : Nat} {kb : iv_H → Int32 → Option (iv_H)} {kx : iv_H → Option (iv_H)} {r : iv_H} {Q : Option Value → iv_H → Prop} (hb : ∀ (h : iv_H) (w4 : Int32), kb h w4 = some r → Rn d 18 none 73 [some (.ref q0), some (.int x1), some (.int x2), some (.int x3), some (.int w4), none] [] h Q) (hk : ∀ (h : iv_H), kx h = some r → Rn d 18 none 125 [none, none, none, none, none, none] [] h Q) (hq : Q none r) (e : fX1_put_b118 N h q0 x1 x2 x3 x4 s0 s1 sq2 kb kx = some r) : Rn d 18 none 118 [some (.ref q0), some (.int x1), some (.int x2), some (.int x3), some (.int x4), none] [.int s0, .int s1, .ref sq2] h Q := by
  have hT := hX1_put
  unfold fX1_put_b118 at e
  obtain ⟨h_409, e_410, e⟩ := Option.bind_eq_some_iff.mp e
  refine Rn.hp hT rfl rfl (wI_hp e_410) ?_
  refine Rn.n hT 2 (pc' := 73) (L' := [some (.ref q0), some (.int x1), some (.int x2), some (.int x3), some (.int (x4 + (1 : Int32))), none]) (st' := []) rfl ?_
  exact Rn.weak (ll_s (ll_s (ll_s (ll_s (ll_s (ll_n ll_e)))))) (hb h_409 (x4 + (1 : Int32)) e)
def fX1_put_l73 (N : Nat) (q0 : Nat) (x1 : Int32) (x2 : Int32) (x3 : Int32) (kx : iv_H → Option (iv_H)) : Nat → iv_H → Int32 → Option (iv_H)
  | 0, _, _ => none
  | n + 1, h, x4 => (if (4 : Int32) ≤ x4 then (kx h) else ((gR h 1 8 q0).bind fun v_402 => ((aI h v_402 (((4 : Int32) * x1) + ((x4 - x3) &&& (3 : Int32)))).bind fun v_404 => ((gR h 1 9 q0).bind fun v_406 => (if v_404 < (3 : Int32) then (fX1_put_b118 N h q0 x1 x2 x3 x4 v_404 (((4 : Int32) * x2) + x4) v_406 (fX1_put_l73 N q0 x1 x2 x3 kx n) kx) else (fX1_put_b118 N h q0 x1 x2 x3 x4 (1 : Int32) (((4 : Int32) * x2) + x4) v_406 (fX1_put_l73 N q0 x1 x2 x3 kx n) kx))))))
set_option maxRecDepth 10000 in
set_option maxHeartbeats 4000000 in
theorem rX1_put_l73 {d N : Nat} (hd : 0 ≤ d) {q0 : Nat} {x1 : Int32} {x2 : Int32} {x3 : Int32} {kx : iv_H → Option (iv_H)} {r : iv_H} {Q : Option Value → iv_H → Prop} (hk : ∀ (h : iv_H), kx h = some r → Rn d 18 none 125 [none, none, none, none, none, none] [] h Q) (hq : Q none r) : ∀ (n : Nat) (h : iv_H) (x4 : Int32), fX1_put_l73 N q0 x1 x2 x3 kx n h x4 = some r → Rn d 18 none 73 [some (.ref q0), some (.int x1), some (.int x2), some (.int x3), some (.int x4), none] [] h Q := by
  have hT := hX1_put
  intro n
  induction n with
  | zero =>
    intro h x4 e
    rw [fX1_put_l73] at e
    cases e
  | succ n ih =>
    intro h x4 e
    rw [fX1_put_l73] at e
    refine Rn.n hT 2 (pc' := 76) (L' := [some (.ref q0), some (.int x1), some (.int x2), some (.int x3), some (.int x4), none]) (st' := [.int (4 : Int32), .int x4]) rfl ?_
    by_cases c_401 : (4 : Int32) ≤ x4
    · rw [if_pos c_401] at e
      refine Rn.bt hT rfl rfl rfl (decide_eq_true c_401) ?_
      exact Rn.weak (ll_n (ll_n (ll_n (ll_n (ll_n (ll_n ll_e)))))) (hk h e)
    · rw [if_neg c_401] at e
      refine Rn.bf hT rfl rfl rfl (decide_eq_false c_401) ?_
      refine Rn.n hT 1 (pc' := 80) (L' := [some (.ref q0), some (.int x1), some (.int x2), some (.int x3), some (.int x4), none]) (st' := [.ref q0]) rfl ?_
      obtain ⟨v_402, e_403, e⟩ := Option.bind_eq_some_iff.mp e
      refine Rn.hp hT rfl rfl (gR_hp e_403) ?_
      refine Rn.n hT 9 (pc' := 93) (L' := [some (.ref q0), some (.int x1), some (.int x2), some (.int x3), some (.int x4), none]) (st' := [.int (((4 : Int32) * x1) + ((x4 - x3) &&& (3 : Int32))), .ref v_402]) rfl ?_
      obtain ⟨v_404, e_405, e⟩ := Option.bind_eq_some_iff.mp e
      refine Rn.hp hT rfl rfl (aI_hp e_405) ?_
      refine Rn.n hT 2 (pc' := 97) (L' := [some (.ref q0), some (.int x1), some (.int x2), some (.int x3), some (.int x4), some (.int v_404)]) (st' := [.ref q0]) rfl ?_
      obtain ⟨v_406, e_407, e⟩ := Option.bind_eq_some_iff.mp e
      refine Rn.hp hT rfl rfl (gR_hp e_407) ?_
      refine Rn.n hT 7 (pc' := 109) (L' := [some (.ref q0), some (.int x1), some (.int x2), some (.int x3), some (.int x4), some (.int v_404)]) (st' := [.int (3 : Int32), .int v_404, .int (((4 : Int32) * x2) + x4), .ref v_406]) rfl ?_
      by_cases c_408 : v_404 < (3 : Int32)
      · rw [if_pos c_408] at e
        refine Rn.bt hT rfl rfl rfl (decide_eq_true c_408) ?_
        refine Rn.n hT 1 (pc' := 118) (L' := [some (.ref q0), some (.int x1), some (.int x2), some (.int x3), some (.int x4), some (.int v_404)]) (st' := [.int v_404, .int (((4 : Int32) * x2) + x4), .ref v_406]) rfl ?_
        exact Rn.weak (ll_s (ll_s (ll_s (ll_s (ll_s (ll_n ll_e)))))) (rX1_put_b118 hd ih hk hq e)
      · rw [if_neg c_408] at e
        refine Rn.bf hT rfl rfl rfl (decide_eq_false c_408) ?_
        refine Rn.n hT 2 (pc' := 118) (L' := [some (.ref q0), some (.int x1), some (.int x2), some (.int x3), some (.int x4), some (.int v_404)]) (st' := [.int (1 : Int32), .int (((4 : Int32) * x2) + x4), .ref v_406]) rfl ?_
        exact Rn.weak (ll_s (ll_s (ll_s (ll_s (ll_s (ll_n ll_e)))))) (rX1_put_b118 hd ih hk hq e)
def fX1_put (N : Nat) (h : iv_H) (q0 : Nat) (x1 : Int32) (x2 : Int32) (x3 : Int32) : Option (iv_H) := ((gR h 1 5 q0).bind fun v_380 => ((wI h v_380 x1 x2).bind fun h_382 => ((gR h_382 1 6 q0).bind fun v_384 => ((wI h_382 v_384 x1 x3).bind fun h_386 => ((gR h_386 1 7 q0).bind fun v_388 => ((wI h_386 v_388 x2 x1).bind fun h_390 => ((gJ h_390 1 3 q0).bind fun v_392 => ((pV h_390 1 3 q0 (.long ((v_392 &&& (((15 : Int64) <<< ((((4 : Int32) * x1)).toInt64 &&& 63)) ^^^ (-1 : Int64))) ||| ((x2).toInt64 <<< ((((4 : Int32) * x1)).toInt64 &&& 63))))).bind fun h_394 => ((gI h_394 1 4 q0).bind fun v_396 => ((pV h_394 1 4 q0 (.int ((v_396 &&& (((3 : Int32) <<< (((2 : Int32) * x1) &&& 31)) ^^^ (-1 : Int32))) ||| (x3 <<< (((2 : Int32) * x1) &&& 31))))).bind fun h_398 => (fX1_put_l73 N q0 x1 x2 x3 (fun (h_400 : iv_H) => some h_400) N h_398 (0 : Int32))))))))))))
set_option maxRecDepth 10000 in
set_option maxHeartbeats 4000000 in
theorem rX1_put {d N : Nat} (hd : 1 ≤ d) {h : iv_H} {q0 : Nat} {x1 : Int32} {x2 : Int32} {x3 : Int32} {r : iv_H} {Q : Option Value → iv_H → Prop} (e : fX1_put N h q0 x1 x2 x3 = some r) (hq : Q none r) : Cl d 18 [.ref q0, .int x1, .int x2, .int x3] h Q := by
  obtain ⟨d, rfl⟩ : ∃ k, d = k + 1 := ⟨d - 1, by omega⟩
  have hd : 0 ≤ d := by omega
  have hT := hX1_put
  unfold fX1_put at e
  refine Cl.into (by decide) gX1_put rfl ?_
  show Rn d 18 none 0 [some (.ref q0), some (.int x1), some (.int x2), some (.int x3), none, none] [] h Q
  refine Rn.n hT 1 (pc' := 1) (L' := [some (.ref q0), some (.int x1), some (.int x2), some (.int x3), none, none]) (st' := [.ref q0]) rfl ?_
  obtain ⟨v_380, e_381, e⟩ := Option.bind_eq_some_iff.mp e
  refine Rn.hp hT rfl rfl (gR_hp e_381) ?_
  refine Rn.n hT 2 (pc' := 6) (L' := [some (.ref q0), some (.int x1), some (.int x2), some (.int x3), none, none]) (st' := [.int x2, .int x1, .ref v_380]) rfl ?_
  obtain ⟨h_382, e_383, e⟩ := Option.bind_eq_some_iff.mp e
  refine Rn.hp hT rfl rfl (wI_hp e_383) ?_
  refine Rn.n hT 1 (pc' := 8) (L' := [some (.ref q0), some (.int x1), some (.int x2), some (.int x3), none, none]) (st' := [.ref q0]) rfl ?_
  obtain ⟨v_384, e_385, e⟩ := Option.bind_eq_some_iff.mp e
  refine Rn.hp hT rfl rfl (gR_hp e_385) ?_
  refine Rn.n hT 2 (pc' := 13) (L' := [some (.ref q0), some (.int x1), some (.int x2), some (.int x3), none, none]) (st' := [.int x3, .int x1, .ref v_384]) rfl ?_
  obtain ⟨h_386, e_387, e⟩ := Option.bind_eq_some_iff.mp e
  refine Rn.hp hT rfl rfl (wI_hp e_387) ?_
  refine Rn.n hT 1 (pc' := 15) (L' := [some (.ref q0), some (.int x1), some (.int x2), some (.int x3), none, none]) (st' := [.ref q0]) rfl ?_
  obtain ⟨v_388, e_389, e⟩ := Option.bind_eq_some_iff.mp e
  refine Rn.hp hT rfl rfl (gR_hp e_389) ?_
  refine Rn.n hT 2 (pc' := 20) (L' := [some (.ref q0), some (.int x1), some (.int x2), some (.int x3), none, none]) (st' := [.int x1, .int x2, .ref v_388]) rfl ?_
  obtain ⟨h_390, e_391, e⟩ := Option.bind_eq_some_iff.mp e
  refine Rn.hp hT rfl rfl (wI_hp e_391) ?_
  refine Rn.n hT 2 (pc' := 23) (L' := [some (.ref q0), some (.int x1), some (.int x2), some (.int x3), none, none]) (st' := [.ref q0, .ref q0]) rfl ?_
  obtain ⟨v_392, e_393, e⟩ := Option.bind_eq_some_iff.mp e
  refine Rn.hp hT rfl rfl (gJ_hp e_393) ?_
  refine Rn.n hT 15 (pc' := 45) (L' := [some (.ref q0), some (.int x1), some (.int x2), some (.int x3), none, none]) (st' := [.long ((v_392 &&& (((15 : Int64) <<< ((((4 : Int32) * x1)).toInt64 &&& 63)) ^^^ (-1 : Int64))) ||| ((x2).toInt64 <<< ((((4 : Int32) * x1)).toInt64 &&& 63))), .ref q0]) rfl ?_
  obtain ⟨h_394, e_395, e⟩ := Option.bind_eq_some_iff.mp e
  refine Rn.hp hT rfl rfl (pV_hp rfl e_395) ?_
  refine Rn.n hT 2 (pc' := 50) (L' := [some (.ref q0), some (.int x1), some (.int x2), some (.int x3), none, none]) (st' := [.ref q0, .ref q0]) rfl ?_
  obtain ⟨v_396, e_397, e⟩ := Option.bind_eq_some_iff.mp e
  refine Rn.hp hT rfl rfl (gI_hp e_397) ?_
  refine Rn.n hT 14 (pc' := 67) (L' := [some (.ref q0), some (.int x1), some (.int x2), some (.int x3), none, none]) (st' := [.int ((v_396 &&& (((3 : Int32) <<< (((2 : Int32) * x1) &&& 31)) ^^^ (-1 : Int32))) ||| (x3 <<< (((2 : Int32) * x1) &&& 31))), .ref q0]) rfl ?_
  obtain ⟨h_398, e_399, e⟩ := Option.bind_eq_some_iff.mp e
  refine Rn.hp hT rfl rfl (pV_hp rfl e_399) ?_
  refine Rn.n hT 2 (pc' := 73) (L' := [some (.ref q0), some (.int x1), some (.int x2), some (.int x3), some (.int (0 : Int32)), none]) (st' := []) rfl ?_
  refine Rn.weak (ll_s (ll_s (ll_s (ll_s (ll_s (ll_n ll_e)))))) (rX1_put_l73 hd (fun h_400 e => ?_) hq N h_398 (0 : Int32) e)
  try dsimp only at e
  obtain rfl := Option.some.inj e
  exact Rn.ret hT rfl rfl rfl hq
set_option maxRecDepth 10000 in
theorem hX1_arrange : iv_Tb 14 tX1_arrange := iv_tb_of (m := mX1_arrange) rfl
set_option maxRecDepth 10000 in
theorem gX1_arrange : PG.2 14 = some mX1_arrange := iv_pi_of (t := tX1_arrange) rfl (by decide)
def fX1_arrange_l17 (N : Nat) (q0 : Nat) (y1 : Int64) (x3 : Int32) (kx : iv_H → Option (iv_H)) : Nat → iv_H → Int32 → Option (iv_H)
  | 0, _, _ => none
  | n + 1, h, x4 => ((gI h 1 2 q0).bind fun v_420 => (if v_420 ≤ x4 then (kx h) else ((cko h q0 1).bind fun _ => (fX1_put N h q0 x4 (((y1 >>> ((((4 : Int32) * x4)).toInt64 &&& 63))).toInt32 &&& (15 : Int32)) ((x3 >>> (((2 : Int32) * x4) &&& 31)) &&& (3 : Int32))).bind fun h_426 => (fX1_arrange_l17 N q0 y1 x3 kx n h_426 (x4 + (1 : Int32))))))
set_option maxRecDepth 10000 in
set_option maxHeartbeats 4000000 in
theorem rX1_arrange_l17 {d N : Nat} (hd : 2 ≤ d) {q0 : Nat} {y1 : Int64} {x3 : Int32} {kx : iv_H → Option (iv_H)} {r : iv_H} {Q : Option Value → iv_H → Prop} (hk : ∀ (h : iv_H), kx h = some r → Rn d 14 none 56 [none, none, none, none, none] [] h Q) (hq : Q none r) : ∀ (n : Nat) (h : iv_H) (x4 : Int32), fX1_arrange_l17 N q0 y1 x3 kx n h x4 = some r → Rn d 14 none 17 [some (.ref q0), some (.long y1), none, some (.int x3), some (.int x4)] [] h Q := by
  have hT := hX1_arrange
  intro n
  induction n with
  | zero =>
    intro h x4 e
    rw [fX1_arrange_l17] at e
    cases e
  | succ n ih =>
    intro h x4 e
    rw [fX1_arrange_l17] at e
    refine Rn.n hT 2 (pc' := 20) (L' := [some (.ref q0), some (.long y1), none, some (.int x3), some (.int x4)]) (st' := [.ref q0, .int x4]) rfl ?_
    obtain ⟨v_420, e_421, e⟩ := Option.bind_eq_some_iff.mp e
    refine Rn.hp hT rfl rfl (gI_hp e_421) ?_
    by_cases c_422 : v_420 ≤ x4
    · rw [if_pos c_422] at e
      refine Rn.bt hT rfl rfl rfl (decide_eq_true c_422) ?_
      exact Rn.weak (ll_n (ll_n (ll_n (ll_n (ll_n ll_e))))) (hk h e)
    · rw [if_neg c_422] at e
      refine Rn.bf hT rfl rfl rfl (decide_eq_false c_422) ?_
      refine Rn.n hT 17 (pc' := 47) (L' := [some (.ref q0), some (.long y1), none, some (.int x3), some (.int x4)]) (st' := [.int ((x3 >>> (((2 : Int32) * x4) &&& 31)) &&& (3 : Int32)), .int (((y1 >>> ((((4 : Int32) * x4)).toInt64 &&& 63))).toInt32 &&& (15 : Int32)), .int x4, .ref q0]) rfl ?_
      obtain ⟨_, e_424, e⟩ := Option.bind_eq_some_iff.mp e
      obtain ⟨h_426, e_423, e⟩ := Option.bind_eq_some_iff.mp e
      refine Rn.call hT rfl rfl rfl (Nat.le_of_ble_eq_true rfl) (rcv_v gX1_put (by omega) e_424) (rX1_put (by omega) e_423 ?_)
      show Rn d _ _ 50 [some (.ref q0), some (.long y1), none, some (.int x3), some (.int x4)] [] h_426 Q
      refine Rn.n hT 2 (pc' := 17) (L' := [some (.ref q0), some (.long y1), none, some (.int x3), some (.int (x4 + (1 : Int32)))]) (st' := []) rfl ?_
      exact Rn.weak (ll_s (ll_s (ll_n (ll_s (ll_s ll_e))))) (ih h_426 (x4 + (1 : Int32)) e)
def fX1_arrange (N : Nat) (h : iv_H) (q0 : Nat) (y1 : Int64) (x3 : Int32) : Option (iv_H) := ((pV h 1 3 q0 (.long (0 : Int64))).bind fun h_411 => ((pV h_411 1 4 q0 (.int (0 : Int32))).bind fun h_413 => ((cko h_413 q0 1).bind fun _ => (fX1_sweep N h_413 q0).bind fun h_418 => (fX1_arrange_l17 N q0 y1 x3 (fun (h_419 : iv_H) => some h_419) N h_418 (0 : Int32)))))
set_option maxRecDepth 10000 in
set_option maxHeartbeats 4000000 in
theorem rX1_arrange {d N : Nat} (hd : 3 ≤ d) {h : iv_H} {q0 : Nat} {y1 : Int64} {x3 : Int32} {r : iv_H} {Q : Option Value → iv_H → Prop} (e : fX1_arrange N h q0 y1 x3 = some r) (hq : Q none r) : Cl d 14 [.ref q0, .long y1, .int x3] h Q := by
  obtain ⟨d, rfl⟩ : ∃ k, d = k + 1 := ⟨d - 1, by omega⟩
  have hd : 2 ≤ d := by omega
  have hT := hX1_arrange
  unfold fX1_arrange at e
  refine Cl.into (by decide) gX1_arrange rfl ?_
  show Rn d 14 none 0 [some (.ref q0), some (.long y1), none, some (.int x3), none] [] h Q
  refine Rn.n hT 2 (pc' := 2) (L' := [some (.ref q0), some (.long y1), none, some (.int x3), none]) (st' := [.long (0 : Int64), .ref q0]) rfl ?_
  obtain ⟨h_411, e_412, e⟩ := Option.bind_eq_some_iff.mp e
  refine Rn.hp hT rfl rfl (pV_hp rfl e_412) ?_
  refine Rn.n hT 2 (pc' := 7) (L' := [some (.ref q0), some (.long y1), none, some (.int x3), none]) (st' := [.int (0 : Int32), .ref q0]) rfl ?_
  obtain ⟨h_413, e_414, e⟩ := Option.bind_eq_some_iff.mp e
  refine Rn.hp hT rfl rfl (pV_hp rfl e_414) ?_
  refine Rn.n hT 1 (pc' := 11) (L' := [some (.ref q0), some (.long y1), none, some (.int x3), none]) (st' := [.ref q0]) rfl ?_
  obtain ⟨_, e_416, e⟩ := Option.bind_eq_some_iff.mp e
  obtain ⟨h_418, e_415, e⟩ := Option.bind_eq_some_iff.mp e
  refine Rn.call hT rfl rfl rfl (Nat.le_of_ble_eq_true rfl) (rcv_v gX1_sweep (by omega) e_416) (rX1_sweep (by omega) e_415 ?_)
  show Rn d _ _ 14 [some (.ref q0), some (.long y1), none, some (.int x3), none] [] h_418 Q
  refine Rn.n hT 2 (pc' := 17) (L' := [some (.ref q0), some (.long y1), none, some (.int x3), some (.int (0 : Int32))]) (st' := []) rfl ?_
  refine Rn.weak (ll_s (ll_s (ll_n (ll_s (ll_s ll_e))))) (rX1_arrange_l17 hd (fun h_419 e => ?_) hq N h_418 (0 : Int32) e)
  try dsimp only at e
  obtain rfl := Option.some.inj e
  exact Rn.ret hT rfl rfl rfl hq
set_option maxRecDepth 10000 in
theorem hX1_copyFrom : iv_Tb 13 tX1_copyFrom := iv_tb_of (m := mX1_copyFrom) rfl
set_option maxRecDepth 10000 in
theorem gX1_copyFrom : PG.2 13 = some mX1_copyFrom := iv_pi_of (t := tX1_copyFrom) rfl (by decide)
def fX1_copyFrom (N : Nat) (h : iv_H) (q0 : Nat) (q1 : Nat) : Option (iv_H) := ((gI h 1 0 q1).bind fun v_427 => ((pV h 1 0 q0 (.int v_427)).bind fun h_429 => ((gI h_429 1 1 q1).bind fun v_431 => ((pV h_429 1 1 q0 (.int v_431)).bind fun h_433 => ((gI h_433 1 2 q1).bind fun v_435 => ((pV h_433 1 2 q0 (.int v_435)).bind fun h_437 => ((gR h_437 1 8 q1).bind fun v_439 => ((gR h_437 1 8 q0).bind fun v_441 => ((gR h_437 1 8 q0).bind fun v_443 => ((aL h_437 v_443).bind fun v_445 => ((cpA h_437 v_439 (0 : Int32) v_441 (0 : Int32) v_445).bind fun h_448 => ((gR h_448 1 10 q1).bind fun v_449 => ((gR h_448 1 10 q0).bind fun v_451 => ((gR h_448 1 10 q0).bind fun v_453 => ((aL h_448 v_453).bind fun v_455 => ((cpA h_448 v_449 (0 : Int32) v_451 (0 : Int32) v_455).bind fun h_458 => ((gJ h_458 1 3 q1).bind fun v_459 => ((gI h_458 1 4 q1).bind fun v_461 => ((cko h_458 q0 1).bind fun _ => (fX1_arrange N h_458 q0 v_459 v_461).bind fun h_466 => some h_466)))))))))))))))))))
set_option maxRecDepth 10000 in
set_option maxHeartbeats 4000000 in
theorem rX1_copyFrom {d N : Nat} (hd : 4 ≤ d) {h : iv_H} {q0 : Nat} {q1 : Nat} {r : iv_H} {Q : Option Value → iv_H → Prop} (e : fX1_copyFrom N h q0 q1 = some r) (hq : Q none r) : Cl d 13 [.ref q0, .ref q1] h Q := by
  obtain ⟨d, rfl⟩ : ∃ k, d = k + 1 := ⟨d - 1, by omega⟩
  have hd : 3 ≤ d := by omega
  have hT := hX1_copyFrom
  unfold fX1_copyFrom at e
  refine Cl.into (by decide) gX1_copyFrom rfl ?_
  show Rn d 13 none 0 [some (.ref q0), some (.ref q1)] [] h Q
  refine Rn.n hT 2 (pc' := 2) (L' := [some (.ref q0), some (.ref q1)]) (st' := [.ref q1, .ref q0]) rfl ?_
  obtain ⟨v_427, e_428, e⟩ := Option.bind_eq_some_iff.mp e
  refine Rn.hp hT rfl rfl (gI_hp e_428) ?_
  obtain ⟨h_429, e_430, e⟩ := Option.bind_eq_some_iff.mp e
  refine Rn.hp hT rfl rfl (pV_hp rfl e_430) ?_
  refine Rn.n hT 2 (pc' := 10) (L' := [some (.ref q0), some (.ref q1)]) (st' := [.ref q1, .ref q0]) rfl ?_
  obtain ⟨v_431, e_432, e⟩ := Option.bind_eq_some_iff.mp e
  refine Rn.hp hT rfl rfl (gI_hp e_432) ?_
  obtain ⟨h_433, e_434, e⟩ := Option.bind_eq_some_iff.mp e
  refine Rn.hp hT rfl rfl (pV_hp rfl e_434) ?_
  refine Rn.n hT 2 (pc' := 18) (L' := [some (.ref q0), some (.ref q1)]) (st' := [.ref q1, .ref q0]) rfl ?_
  obtain ⟨v_435, e_436, e⟩ := Option.bind_eq_some_iff.mp e
  refine Rn.hp hT rfl rfl (gI_hp e_436) ?_
  obtain ⟨h_437, e_438, e⟩ := Option.bind_eq_some_iff.mp e
  refine Rn.hp hT rfl rfl (pV_hp rfl e_438) ?_
  refine Rn.n hT 1 (pc' := 25) (L' := [some (.ref q0), some (.ref q1)]) (st' := [.ref q1]) rfl ?_
  obtain ⟨v_439, e_440, e⟩ := Option.bind_eq_some_iff.mp e
  refine Rn.hp hT rfl rfl (gR_hp e_440) ?_
  refine Rn.n hT 2 (pc' := 30) (L' := [some (.ref q0), some (.ref q1)]) (st' := [.ref q0, .int (0 : Int32), .ref v_439]) rfl ?_
  obtain ⟨v_441, e_442, e⟩ := Option.bind_eq_some_iff.mp e
  refine Rn.hp hT rfl rfl (gR_hp e_442) ?_
  refine Rn.n hT 2 (pc' := 35) (L' := [some (.ref q0), some (.ref q1)]) (st' := [.ref q0, .int (0 : Int32), .ref v_441, .int (0 : Int32), .ref v_439]) rfl ?_
  obtain ⟨v_443, e_444, e⟩ := Option.bind_eq_some_iff.mp e
  refine Rn.hp hT rfl rfl (gR_hp e_444) ?_
  obtain ⟨v_445, e_446, e⟩ := Option.bind_eq_some_iff.mp e
  refine Rn.hp hT rfl rfl (aL_hp e_446) ?_
  obtain ⟨h_448, e_447, e⟩ := Option.bind_eq_some_iff.mp e
  refine Rn.hp hT rfl rfl (cpA_hp (Nat.le_of_ble_eq_true rfl) e_447) ?_
  refine Rn.n hT 1 (pc' := 43) (L' := [some (.ref q0), some (.ref q1)]) (st' := [.ref q1]) rfl ?_
  obtain ⟨v_449, e_450, e⟩ := Option.bind_eq_some_iff.mp e
  refine Rn.hp hT rfl rfl (gR_hp e_450) ?_
  refine Rn.n hT 2 (pc' := 48) (L' := [some (.ref q0), some (.ref q1)]) (st' := [.ref q0, .int (0 : Int32), .ref v_449]) rfl ?_
  obtain ⟨v_451, e_452, e⟩ := Option.bind_eq_some_iff.mp e
  refine Rn.hp hT rfl rfl (gR_hp e_452) ?_
  refine Rn.n hT 2 (pc' := 53) (L' := [some (.ref q0), some (.ref q1)]) (st' := [.ref q0, .int (0 : Int32), .ref v_451, .int (0 : Int32), .ref v_449]) rfl ?_
  obtain ⟨v_453, e_454, e⟩ := Option.bind_eq_some_iff.mp e
  refine Rn.hp hT rfl rfl (gR_hp e_454) ?_
  obtain ⟨v_455, e_456, e⟩ := Option.bind_eq_some_iff.mp e
  refine Rn.hp hT rfl rfl (aL_hp e_456) ?_
  obtain ⟨h_458, e_457, e⟩ := Option.bind_eq_some_iff.mp e
  refine Rn.hp hT rfl rfl (cpA_hp (Nat.le_of_ble_eq_true rfl) e_457) ?_
  refine Rn.n hT 2 (pc' := 62) (L' := [some (.ref q0), some (.ref q1)]) (st' := [.ref q1, .ref q0]) rfl ?_
  obtain ⟨v_459, e_460, e⟩ := Option.bind_eq_some_iff.mp e
  refine Rn.hp hT rfl rfl (gJ_hp e_460) ?_
  refine Rn.n hT 1 (pc' := 66) (L' := [some (.ref q0), some (.ref q1)]) (st' := [.ref q1, .long v_459, .ref q0]) rfl ?_
  obtain ⟨v_461, e_462, e⟩ := Option.bind_eq_some_iff.mp e
  refine Rn.hp hT rfl rfl (gI_hp e_462) ?_
  obtain ⟨_, e_464, e⟩ := Option.bind_eq_some_iff.mp e
  obtain ⟨h_466, e_463, e⟩ := Option.bind_eq_some_iff.mp e
  refine Rn.call hT rfl rfl rfl (Nat.le_of_ble_eq_true rfl) (rcv_v gX1_arrange (by omega) e_464) (rX1_arrange (by omega) e_463 ?_)
  show Rn d _ _ 72 [some (.ref q0), some (.ref q1)] [] h_466 Q
  obtain rfl := Option.some.inj e
  exact Rn.ret hT rfl rfl rfl hq
set_option maxRecDepth 10000 in
theorem hX1_isEmptyCell : iv_Tb 16 tX1_isEmptyCell := iv_tb_of (m := mX1_isEmptyCell) rfl
set_option maxRecDepth 10000 in
theorem gX1_isEmptyCell : PG.2 16 = some mX1_isEmptyCell := iv_pi_of (t := tX1_isEmptyCell) rfl (by decide)
def fX1_isEmptyCell_b35 (N : Nat) (h : iv_H)  (s0 : Int32) : Option (Int32) := (if s0 = 0 ∨ s0 = 1 then some s0 else none)
set_option maxRecDepth 10000 in
set_option maxHeartbeats 4000000 in
theorem rX1_isEmptyCell_b35 {d N : Nat} (hd : 0 ≤ d) {h : iv_H}  {s0 : Int32} {r : Int32} {Q : Option Value → iv_H → Prop} (hq : Q (some (.int r)) h) (e : fX1_isEmptyCell_b35 N h  s0 = some r) : Rn d 16 (some .boolean) 35 [none, none] [.int s0] h Q := by
  have hT := hX1_isEmptyCell
  unfold fX1_isEmptyCell_b35 at e
  by_cases c_478 : s0 = 0 ∨ s0 = 1
  · rw [if_pos c_478] at e
    obtain rfl := Option.some.inj e
    exact Rn.ret hT rfl rfl (if_pos c_478) hq
  · rw [if_neg c_478] at e
    cases e
def fX1_isEmptyCell_b34 (N : Nat) (h : iv_H)   : Option (Int32) := (fX1_isEmptyCell_b35 N h (0 : Int32))
set_option maxRecDepth 10000 in
set_option maxHeartbeats 4000000 in
theorem rX1_isEmptyCell_b34 {d N : Nat} (hd : 0 ≤ d) {h : iv_H}   {r : Int32} {Q : Option Value → iv_H → Prop} (hq : Q (some (.int r)) h) (e : fX1_isEmptyCell_b34 N h   = some r) : Rn d 16 (some .boolean) 34 [none, none] [] h Q := by
  have hT := hX1_isEmptyCell
  unfold fX1_isEmptyCell_b34 at e
  refine Rn.n hT 1 (pc' := 35) (L' := [none, none]) (st' := [.int (0 : Int32)]) rfl ?_
  exact Rn.weak (ll_n (ll_n ll_e)) (rX1_isEmptyCell_b35 hd hq e)
def fX1_isEmptyCell (N : Nat) (h : iv_H) (q0 : Nat) (x1 : Int32) : Option (Int32) := ((gI h 1 0 q0).bind fun v_467 => (if v_467 ≤ (x1 &&& (3 : Int32)) then (fX1_isEmptyCell_b34 N h) else ((gI h 1 1 q0).bind fun v_470 => (if v_470 ≤ (x1 >>> ((2 : Int32) &&& 31)) then (fX1_isEmptyCell_b34 N h) else ((gR h 1 7 q0).bind fun v_473 => ((aI h v_473 x1).bind fun v_475 => (if v_475 = (-1 : Int32) then (fX1_isEmptyCell_b35 N h (1 : Int32)) else (fX1_isEmptyCell_b34 N h))))))))
set_option maxRecDepth 10000 in
set_option maxHeartbeats 4000000 in
theorem rX1_isEmptyCell {d N : Nat} (hd : 1 ≤ d) {h : iv_H} {q0 : Nat} {x1 : Int32} {r : Int32} {Q : Option Value → iv_H → Prop} (e : fX1_isEmptyCell N h q0 x1 = some r) (hq : Q (some (.int r)) h) : Cl d 16 [.ref q0, .int x1] h Q := by
  obtain ⟨d, rfl⟩ : ∃ k, d = k + 1 := ⟨d - 1, by omega⟩
  have hd : 0 ≤ d := by omega
  have hT := hX1_isEmptyCell
  unfold fX1_isEmptyCell at e
  refine Cl.into (by decide) gX1_isEmptyCell rfl ?_
  show Rn d 16 (some .boolean) 0 [some (.ref q0), some (.int x1)] [] h Q
  refine Rn.n hT 4 (pc' := 4) (L' := [some (.ref q0), some (.int x1)]) (st' := [.ref q0, .int (x1 &&& (3 : Int32))]) rfl ?_
  obtain ⟨v_467, e_468, e⟩ := Option.bind_eq_some_iff.mp e
  refine Rn.hp hT rfl rfl (gI_hp e_468) ?_
  by_cases c_469 : v_467 ≤ (x1 &&& (3 : Int32))
  · rw [if_pos c_469] at e
    refine Rn.bt hT rfl rfl rfl (decide_eq_true c_469) ?_
    exact Rn.weak (ll_n (ll_n ll_e)) (rX1_isEmptyCell_b34 hd hq e)
  · rw [if_neg c_469] at e
    refine Rn.bf hT rfl rfl rfl (decide_eq_false c_469) ?_
    refine Rn.n hT 4 (pc' := 14) (L' := [some (.ref q0), some (.int x1)]) (st' := [.ref q0, .int (x1 >>> ((2 : Int32) &&& 31))]) rfl ?_
    obtain ⟨v_470, e_471, e⟩ := Option.bind_eq_some_iff.mp e
    refine Rn.hp hT rfl rfl (gI_hp e_471) ?_
    by_cases c_472 : v_470 ≤ (x1 >>> ((2 : Int32) &&& 31))
    · rw [if_pos c_472] at e
      refine Rn.bt hT rfl rfl rfl (decide_eq_true c_472) ?_
      exact Rn.weak (ll_n (ll_n ll_e)) (rX1_isEmptyCell_b34 hd hq e)
    · rw [if_neg c_472] at e
      refine Rn.bf hT rfl rfl rfl (decide_eq_false c_472) ?_
      refine Rn.n hT 1 (pc' := 21) (L' := [some (.ref q0), some (.int x1)]) (st' := [.ref q0]) rfl ?_
      obtain ⟨v_473, e_474, e⟩ := Option.bind_eq_some_iff.mp e
      refine Rn.hp hT rfl rfl (gR_hp e_474) ?_
      refine Rn.n hT 1 (pc' := 25) (L' := [some (.ref q0), some (.int x1)]) (st' := [.int x1, .ref v_473]) rfl ?_
      obtain ⟨v_475, e_476, e⟩ := Option.bind_eq_some_iff.mp e
      refine Rn.hp hT rfl rfl (aI_hp e_476) ?_
      refine Rn.n hT 1 (pc' := 27) (L' := [some (.ref q0), some (.int x1)]) (st' := [.int (-1 : Int32), .int v_475]) rfl ?_
      by_cases c_477 : v_475 = (-1 : Int32)
      · rw [if_pos c_477] at e
        refine Rn.bf hT rfl rfl rfl (decide_eq_false (fun z => z c_477)) ?_
        refine Rn.n hT 2 (pc' := 35) (L' := [some (.ref q0), some (.int x1)]) (st' := [.int (1 : Int32)]) rfl ?_
        exact Rn.weak (ll_n (ll_n ll_e)) (rX1_isEmptyCell_b35 hd hq e)
      · rw [if_neg c_477] at e
        refine Rn.bt hT rfl rfl rfl (decide_eq_true c_477) ?_
        exact Rn.weak (ll_n (ll_n ll_e)) (rX1_isEmptyCell_b34 hd hq e)
set_option maxRecDepth 10000 in
theorem hX1_emptyCells : iv_Tb 17 tX1_emptyCells := iv_tb_of (m := mX1_emptyCells) rfl
set_option maxRecDepth 10000 in
theorem gX1_emptyCells : PG.2 17 = some mX1_emptyCells := iv_pi_of (t := tX1_emptyCells) rfl (by decide)
def fX1_emptyCells (N : Nat) (h : iv_H) (q0 : Nat) : Option (Int32) := ((gI h 1 0 q0).bind fun v_479 => ((gI h 1 1 q0).bind fun v_481 => ((gI h 1 2 q0).bind fun v_483 => (some ((v_479 * v_481) - v_483)))))
set_option maxRecDepth 10000 in
set_option maxHeartbeats 4000000 in
theorem rX1_emptyCells {d N : Nat} (hd : 1 ≤ d) {h : iv_H} {q0 : Nat} {r : Int32} {Q : Option Value → iv_H → Prop} (e : fX1_emptyCells N h q0 = some r) (hq : Q (some (.int r)) h) : Cl d 17 [.ref q0] h Q := by
  obtain ⟨d, rfl⟩ : ∃ k, d = k + 1 := ⟨d - 1, by omega⟩
  have hd : 0 ≤ d := by omega
  have hT := hX1_emptyCells
  unfold fX1_emptyCells at e
  refine Cl.into (by decide) gX1_emptyCells rfl ?_
  show Rn d 17 (some .int) 0 [some (.ref q0)] [] h Q
  refine Rn.n hT 1 (pc' := 1) (L' := [some (.ref q0)]) (st' := [.ref q0]) rfl ?_
  obtain ⟨v_479, e_480, e⟩ := Option.bind_eq_some_iff.mp e
  refine Rn.hp hT rfl rfl (gI_hp e_480) ?_
  refine Rn.n hT 1 (pc' := 5) (L' := [some (.ref q0)]) (st' := [.ref q0, .int v_479]) rfl ?_
  obtain ⟨v_481, e_482, e⟩ := Option.bind_eq_some_iff.mp e
  refine Rn.hp hT rfl rfl (gI_hp e_482) ?_
  refine Rn.n hT 2 (pc' := 10) (L' := [some (.ref q0)]) (st' := [.ref q0, .int (v_479 * v_481)]) rfl ?_
  obtain ⟨v_483, e_484, e⟩ := Option.bind_eq_some_iff.mp e
  refine Rn.hp hT rfl rfl (gI_hp e_484) ?_
  refine Rn.n hT 1 (pc' := 14) (L' := [some (.ref q0)]) (st' := [.int ((v_479 * v_481) - v_483)]) rfl ?_
  obtain rfl := Option.some.inj e
  exact Rn.ret hT rfl rfl rfl hq
set_option maxRecDepth 10000 in
theorem hX1_take : iv_Tb 19 tX1_take := iv_tb_of (m := mX1_take) rfl
set_option maxRecDepth 10000 in
theorem gX1_take : PG.2 19 = some mX1_take := iv_pi_of (t := tX1_take) rfl (by decide)
def fX1_take_l16 (N : Nat) (q0 : Nat) (x2 : Int32) (kx : iv_H → Option (iv_H)) : Nat → iv_H → Int32 → Option (iv_H)
  | 0, _, _ => none
  | n + 1, h, x3 => (if (4 : Int32) ≤ x3 then (kx h) else ((gR h 1 9 q0).bind fun v_495 => ((wI h v_495 (((4 : Int32) * x2) + x3) (3 : Int32)).bind fun h_497 => (fX1_take_l16 N q0 x2 kx n h_497 (x3 + (1 : Int32))))))
set_option maxRecDepth 10000 in
set_option maxHeartbeats 4000000 in
theorem rX1_take_l16 {d N : Nat} (hd : 0 ≤ d) {q0 : Nat} {x2 : Int32} {kx : iv_H → Option (iv_H)} {r : iv_H} {Q : Option Value → iv_H → Prop} (hk : ∀ (h : iv_H), kx h = some r → Rn d 19 none 38 [none, none, none, none] [] h Q) (hq : Q none r) : ∀ (n : Nat) (h : iv_H) (x3 : Int32), fX1_take_l16 N q0 x2 kx n h x3 = some r → Rn d 19 none 16 [some (.ref q0), none, some (.int x2), some (.int x3)] [] h Q := by
  have hT := hX1_take
  intro n
  induction n with
  | zero =>
    intro h x3 e
    rw [fX1_take_l16] at e
    cases e
  | succ n ih =>
    intro h x3 e
    rw [fX1_take_l16] at e
    refine Rn.n hT 2 (pc' := 18) (L' := [some (.ref q0), none, some (.int x2), some (.int x3)]) (st' := [.int (4 : Int32), .int x3]) rfl ?_
    by_cases c_494 : (4 : Int32) ≤ x3
    · rw [if_pos c_494] at e
      refine Rn.bt hT rfl rfl rfl (decide_eq_true c_494) ?_
      exact Rn.weak (ll_n (ll_n (ll_n (ll_n ll_e)))) (hk h e)
    · rw [if_neg c_494] at e
      refine Rn.bf hT rfl rfl rfl (decide_eq_false c_494) ?_
      refine Rn.n hT 1 (pc' := 22) (L' := [some (.ref q0), none, some (.int x2), some (.int x3)]) (st' := [.ref q0]) rfl ?_
      obtain ⟨v_495, e_496, e⟩ := Option.bind_eq_some_iff.mp e
      refine Rn.hp hT rfl rfl (gR_hp e_496) ?_
      refine Rn.n hT 6 (pc' := 31) (L' := [some (.ref q0), none, some (.int x2), some (.int x3)]) (st' := [.int (3 : Int32), .int (((4 : Int32) * x2) + x3), .ref v_495]) rfl ?_
      obtain ⟨h_497, e_498, e⟩ := Option.bind_eq_some_iff.mp e
      refine Rn.hp hT rfl rfl (wI_hp e_498) ?_
      refine Rn.n hT 2 (pc' := 16) (L' := [some (.ref q0), none, some (.int x2), some (.int (x3 + (1 : Int32)))]) (st' := []) rfl ?_
      exact Rn.weak (ll_s (ll_n (ll_s (ll_s ll_e)))) (ih h_497 (x3 + (1 : Int32)) e)
def fX1_take (N : Nat) (h : iv_H) (q0 : Nat) (x1 : Int32) : Option (iv_H) := ((gR h 1 5 q0).bind fun v_485 => ((aI h v_485 x1).bind fun v_487 => ((gR h 1 7 q0).bind fun v_489 => ((wI h v_489 v_487 (-1 : Int32)).bind fun h_491 => (fX1_take_l16 N q0 v_487 (fun (h_493 : iv_H) => some h_493) N h_491 (0 : Int32))))))
set_option maxRecDepth 10000 in
set_option maxHeartbeats 4000000 in
theorem rX1_take {d N : Nat} (hd : 1 ≤ d) {h : iv_H} {q0 : Nat} {x1 : Int32} {r : iv_H} {Q : Option Value → iv_H → Prop} (e : fX1_take N h q0 x1 = some r) (hq : Q none r) : Cl d 19 [.ref q0, .int x1] h Q := by
  obtain ⟨d, rfl⟩ : ∃ k, d = k + 1 := ⟨d - 1, by omega⟩
  have hd : 0 ≤ d := by omega
  have hT := hX1_take
  unfold fX1_take at e
  refine Cl.into (by decide) gX1_take rfl ?_
  show Rn d 19 none 0 [some (.ref q0), some (.int x1), none, none] [] h Q
  refine Rn.n hT 1 (pc' := 1) (L' := [some (.ref q0), some (.int x1), none, none]) (st' := [.ref q0]) rfl ?_
  obtain ⟨v_485, e_486, e⟩ := Option.bind_eq_some_iff.mp e
  refine Rn.hp hT rfl rfl (gR_hp e_486) ?_
  refine Rn.n hT 1 (pc' := 5) (L' := [some (.ref q0), some (.int x1), none, none]) (st' := [.int x1, .ref v_485]) rfl ?_
  obtain ⟨v_487, e_488, e⟩ := Option.bind_eq_some_iff.mp e
  refine Rn.hp hT rfl rfl (aI_hp e_488) ?_
  refine Rn.n hT 2 (pc' := 8) (L' := [some (.ref q0), some (.int x1), some (.int v_487), none]) (st' := [.ref q0]) rfl ?_
  obtain ⟨v_489, e_490, e⟩ := Option.bind_eq_some_iff.mp e
  refine Rn.hp hT rfl rfl (gR_hp e_490) ?_
  refine Rn.n hT 2 (pc' := 13) (L' := [some (.ref q0), some (.int x1), some (.int v_487), none]) (st' := [.int (-1 : Int32), .int v_487, .ref v_489]) rfl ?_
  obtain ⟨h_491, e_492, e⟩ := Option.bind_eq_some_iff.mp e
  refine Rn.hp hT rfl rfl (wI_hp e_492) ?_
  refine Rn.n hT 2 (pc' := 16) (L' := [some (.ref q0), some (.int x1), some (.int v_487), some (.int (0 : Int32))]) (st' := []) rfl ?_
  refine Rn.weak (ll_s (ll_n (ll_s (ll_s ll_e)))) (rX1_take_l16 hd (fun h_493 e => ?_) hq N h_491 (0 : Int32) e)
  try dsimp only at e
  obtain rfl := Option.some.inj e
  exact Rn.ret hT rfl rfl rfl hq
set_option maxRecDepth 10000 in
theorem hX1_setSort : iv_Tb 21 tX1_setSort := iv_tb_of (m := mX1_setSort) rfl
set_option maxRecDepth 10000 in
theorem gX1_setSort : PG.2 21 = some mX1_setSort := iv_pi_of (t := tX1_setSort) rfl (by decide)
def fX1_setSort (N : Nat) (h : iv_H) (q0 : Nat) (x1 : Int32) (x2 : Int32) (x3 : Int32) : Option (iv_H) := ((gR h 1 8 q0).bind fun v_499 => ((gR h 1 6 q0).bind fun v_501 => ((aI h v_501 x1).bind fun v_503 => ((wI h v_499 (((4 : Int32) * x1) + ((x2 - v_503) &&& (3 : Int32))) x3).bind fun h_505 => ((gR h_505 1 5 q0).bind fun v_507 => ((aI h_505 v_507 x1).bind fun v_509 => ((gR h_505 1 6 q0).bind fun v_511 => ((aI h_505 v_511 x1).bind fun v_513 => ((cko h_505 q0 1).bind fun _ => (fX1_put N h_505 q0 x1 v_509 v_513).bind fun h_518 => some h_518)))))))))
set_option maxRecDepth 10000 in
set_option maxHeartbeats 4000000 in
theorem rX1_setSort {d N : Nat} (hd : 2 ≤ d) {h : iv_H} {q0 : Nat} {x1 : Int32} {x2 : Int32} {x3 : Int32} {r : iv_H} {Q : Option Value → iv_H → Prop} (e : fX1_setSort N h q0 x1 x2 x3 = some r) (hq : Q none r) : Cl d 21 [.ref q0, .int x1, .int x2, .int x3] h Q := by
  obtain ⟨d, rfl⟩ : ∃ k, d = k + 1 := ⟨d - 1, by omega⟩
  have hd : 1 ≤ d := by omega
  have hT := hX1_setSort
  unfold fX1_setSort at e
  refine Cl.into (by decide) gX1_setSort rfl ?_
  show Rn d 21 none 0 [some (.ref q0), some (.int x1), some (.int x2), some (.int x3)] [] h Q
  refine Rn.n hT 1 (pc' := 1) (L' := [some (.ref q0), some (.int x1), some (.int x2), some (.int x3)]) (st' := [.ref q0]) rfl ?_
  obtain ⟨v_499, e_500, e⟩ := Option.bind_eq_some_iff.mp e
  refine Rn.hp hT rfl rfl (gR_hp e_500) ?_
  refine Rn.n hT 5 (pc' := 9) (L' := [some (.ref q0), some (.int x1), some (.int x2), some (.int x3)]) (st' := [.ref q0, .int x2, .int ((4 : Int32) * x1), .ref v_499]) rfl ?_
  obtain ⟨v_501, e_502, e⟩ := Option.bind_eq_some_iff.mp e
  refine Rn.hp hT rfl rfl (gR_hp e_502) ?_
  refine Rn.n hT 1 (pc' := 13) (L' := [some (.ref q0), some (.int x1), some (.int x2), some (.int x3)]) (st' := [.int x1, .ref v_501, .int x2, .int ((4 : Int32) * x1), .ref v_499]) rfl ?_
  obtain ⟨v_503, e_504, e⟩ := Option.bind_eq_some_iff.mp e
  refine Rn.hp hT rfl rfl (aI_hp e_504) ?_
  refine Rn.n hT 5 (pc' := 19) (L' := [some (.ref q0), some (.int x1), some (.int x2), some (.int x3)]) (st' := [.int x3, .int (((4 : Int32) * x1) + ((x2 - v_503) &&& (3 : Int32))), .ref v_499]) rfl ?_
  obtain ⟨h_505, e_506, e⟩ := Option.bind_eq_some_iff.mp e
  refine Rn.hp hT rfl rfl (wI_hp e_506) ?_
  refine Rn.n hT 3 (pc' := 23) (L' := [some (.ref q0), some (.int x1), some (.int x2), some (.int x3)]) (st' := [.ref q0, .int x1, .ref q0]) rfl ?_
  obtain ⟨v_507, e_508, e⟩ := Option.bind_eq_some_iff.mp e
  refine Rn.hp hT rfl rfl (gR_hp e_508) ?_
  refine Rn.n hT 1 (pc' := 27) (L' := [some (.ref q0), some (.int x1), some (.int x2), some (.int x3)]) (st' := [.int x1, .ref v_507, .int x1, .ref q0]) rfl ?_
  obtain ⟨v_509, e_510, e⟩ := Option.bind_eq_some_iff.mp e
  refine Rn.hp hT rfl rfl (aI_hp e_510) ?_
  refine Rn.n hT 1 (pc' := 29) (L' := [some (.ref q0), some (.int x1), some (.int x2), some (.int x3)]) (st' := [.ref q0, .int v_509, .int x1, .ref q0]) rfl ?_
  obtain ⟨v_511, e_512, e⟩ := Option.bind_eq_some_iff.mp e
  refine Rn.hp hT rfl rfl (gR_hp e_512) ?_
  refine Rn.n hT 1 (pc' := 33) (L' := [some (.ref q0), some (.int x1), some (.int x2), some (.int x3)]) (st' := [.int x1, .ref v_511, .int v_509, .int x1, .ref q0]) rfl ?_
  obtain ⟨v_513, e_514, e⟩ := Option.bind_eq_some_iff.mp e
  refine Rn.hp hT rfl rfl (aI_hp e_514) ?_
  obtain ⟨_, e_516, e⟩ := Option.bind_eq_some_iff.mp e
  obtain ⟨h_518, e_515, e⟩ := Option.bind_eq_some_iff.mp e
  refine Rn.call hT rfl rfl rfl (Nat.le_of_ble_eq_true rfl) (rcv_v gX1_put (by omega) e_516) (rX1_put (by omega) e_515 ?_)
  show Rn d _ _ 37 [some (.ref q0), some (.int x1), some (.int x2), some (.int x3)] [] h_518 Q
  obtain rfl := Option.some.inj e
  exact Rn.ret hT rfl rfl rfl hq
set_option maxRecDepth 10000 in
theorem hX1_sideTo : iv_Tb 22 tX1_sideTo := iv_tb_of (m := mX1_sideTo) rfl
set_option maxRecDepth 10000 in
theorem gX1_sideTo : PG.2 22 = some mX1_sideTo := iv_pi_of (t := tX1_sideTo) rfl (by decide)
def fX1_sideTo_l2 (N : Nat) (h : iv_H) (q0 : Nat) (x1 : Int32) (x2 : Int32) (kx : Unit → Option (Int32)) : Nat → Int32 → Option (Int32)
  | 0, _ => none
  | n + 1, x3 => (if (4 : Int32) ≤ x3 then (kx ()) else ((gR h 1 10 q0).bind fun v_520 => ((aI h v_520 (((4 : Int32) * x1) + x3)).bind fun v_522 => (if v_522 = x2 then (some x3) else (fX1_sideTo_l2 N h q0 x1 x2 kx n (x3 + (1 : Int32)))))))
set_option maxRecDepth 10000 in
set_option maxHeartbeats 4000000 in
theorem rX1_sideTo_l2 {d N : Nat} (hd : 0 ≤ d) {h : iv_H} {q0 : Nat} {x1 : Int32} {x2 : Int32} {kx : Unit → Option (Int32)} {r : Int32} {Q : Option Value → iv_H → Prop} (hk : ∀ (u : Unit), kx u = some r → Rn d 22 (some .int) 29 [none, none, none, none] [] h Q) (hq : Q (some (.int r)) h) : ∀ (n : Nat) (x3 : Int32), fX1_sideTo_l2 N h q0 x1 x2 kx n x3 = some r → Rn d 22 (some .int) 2 [some (.ref q0), some (.int x1), some (.int x2), some (.int x3)] [] h Q := by
  have hT := hX1_sideTo
  intro n
  induction n with
  | zero =>
    intro x3 e
    rw [fX1_sideTo_l2] at e
    cases e
  | succ n ih =>
    intro x3 e
    rw [fX1_sideTo_l2] at e
    refine Rn.n hT 2 (pc' := 4) (L' := [some (.ref q0), some (.int x1), some (.int x2), some (.int x3)]) (st' := [.int (4 : Int32), .int x3]) rfl ?_
    by_cases c_519 : (4 : Int32) ≤ x3
    · rw [if_pos c_519] at e
      refine Rn.bt hT rfl rfl rfl (decide_eq_true c_519) ?_
      exact Rn.weak (ll_n (ll_n (ll_n (ll_n ll_e)))) (hk () e)
    · rw [if_neg c_519] at e
      refine Rn.bf hT rfl rfl rfl (decide_eq_false c_519) ?_
      refine Rn.n hT 1 (pc' := 8) (L' := [some (.ref q0), some (.int x1), some (.int x2), some (.int x3)]) (st' := [.ref q0]) rfl ?_
      obtain ⟨v_520, e_521, e⟩ := Option.bind_eq_some_iff.mp e
      refine Rn.hp hT rfl rfl (gR_hp e_521) ?_
      refine Rn.n hT 5 (pc' := 16) (L' := [some (.ref q0), some (.int x1), some (.int x2), some (.int x3)]) (st' := [.int (((4 : Int32) * x1) + x3), .ref v_520]) rfl ?_
      obtain ⟨v_522, e_523, e⟩ := Option.bind_eq_some_iff.mp e
      refine Rn.hp hT rfl rfl (aI_hp e_523) ?_
      refine Rn.n hT 1 (pc' := 18) (L' := [some (.ref q0), some (.int x1), some (.int x2), some (.int x3)]) (st' := [.int x2, .int v_522]) rfl ?_
      by_cases c_524 : v_522 = x2
      · rw [if_pos c_524] at e
        refine Rn.bf hT rfl rfl rfl (decide_eq_false (fun z => z c_524)) ?_
        refine Rn.n hT 1 (pc' := 22) (L' := [some (.ref q0), some (.int x1), some (.int x2), some (.int x3)]) (st' := [.int x3]) rfl ?_
        obtain rfl := Option.some.inj e
        exact Rn.ret hT rfl rfl rfl hq
      · rw [if_neg c_524] at e
        refine Rn.bt hT rfl rfl rfl (decide_eq_true c_524) ?_
        refine Rn.n hT 2 (pc' := 2) (L' := [some (.ref q0), some (.int x1), some (.int x2), some (.int (x3 + (1 : Int32)))]) (st' := []) rfl ?_
        exact Rn.weak (ll_s (ll_s (ll_s (ll_s ll_e)))) (ih (x3 + (1 : Int32)) e)
def fX1_sideTo (N : Nat) (h : iv_H) (q0 : Nat) (x1 : Int32) (x2 : Int32) : Option (Int32) := (fX1_sideTo_l2 N h q0 x1 x2 (fun (_ : Unit) => (some (-1 : Int32))) N (0 : Int32))
set_option maxRecDepth 10000 in
set_option maxHeartbeats 4000000 in
theorem rX1_sideTo {d N : Nat} (hd : 1 ≤ d) {h : iv_H} {q0 : Nat} {x1 : Int32} {x2 : Int32} {r : Int32} {Q : Option Value → iv_H → Prop} (e : fX1_sideTo N h q0 x1 x2 = some r) (hq : Q (some (.int r)) h) : Cl d 22 [.ref q0, .int x1, .int x2] h Q := by
  obtain ⟨d, rfl⟩ : ∃ k, d = k + 1 := ⟨d - 1, by omega⟩
  have hd : 0 ≤ d := by omega
  have hT := hX1_sideTo
  unfold fX1_sideTo at e
  refine Cl.into (by decide) gX1_sideTo rfl ?_
  show Rn d 22 (some .int) 0 [some (.ref q0), some (.int x1), some (.int x2), none] [] h Q
  refine Rn.n hT 2 (pc' := 2) (L' := [some (.ref q0), some (.int x1), some (.int x2), some (.int (0 : Int32))]) (st' := []) rfl ?_
  refine Rn.weak (ll_s (ll_s (ll_s (ll_s ll_e)))) (rX1_sideTo_l2 hd (fun _ e => ?_) hq N (0 : Int32) e)
  try dsimp only at e
  refine Rn.n hT 1 (pc' := 30) (L' := [none, none, none, none]) (st' := [.int (-1 : Int32)]) rfl ?_
  obtain rfl := Option.some.inj e
  exact Rn.ret hT rfl rfl rfl hq
set_option maxRecDepth 10000 in
theorem hX1_canGo : iv_Tb 23 tX1_canGo := iv_tb_of (m := mX1_canGo) rfl
set_option maxRecDepth 10000 in
theorem gX1_canGo : PG.2 23 = some mX1_canGo := iv_pi_of (t := tX1_canGo) rfl (by decide)
def fX1_canGo_b59 (N : Nat) (h : iv_H)  (s0 : Int32) : Option (Int32) := (if s0 = 0 ∨ s0 = 1 then some s0 else none)
set_option maxRecDepth 10000 in
set_option maxHeartbeats 4000000 in
theorem rX1_canGo_b59 {d N : Nat} (hd : 1 ≤ d) {h : iv_H}  {s0 : Int32} {r : Int32} {Q : Option Value → iv_H → Prop} (hq : Q (some (.int r)) h) (e : fX1_canGo_b59 N h  s0 = some r) : Rn d 23 (some .boolean) 59 [none, none, none, none, none] [.int s0] h Q := by
  have hT := hX1_canGo
  unfold fX1_canGo_b59 at e
  by_cases c_549 : s0 = 0 ∨ s0 = 1
  · rw [if_pos c_549] at e
    obtain rfl := Option.some.inj e
    exact Rn.ret hT rfl rfl (if_pos c_549) hq
  · rw [if_neg c_549] at e
    cases e
def fX1_canGo_b58 (N : Nat) (h : iv_H)   : Option (Int32) := (fX1_canGo_b59 N h (0 : Int32))
set_option maxRecDepth 10000 in
set_option maxHeartbeats 4000000 in
theorem rX1_canGo_b58 {d N : Nat} (hd : 1 ≤ d) {h : iv_H}   {r : Int32} {Q : Option Value → iv_H → Prop} (hq : Q (some (.int r)) h) (e : fX1_canGo_b58 N h   = some r) : Rn d 23 (some .boolean) 58 [none, none, none, none, none] [] h Q := by
  have hT := hX1_canGo
  unfold fX1_canGo_b58 at e
  refine Rn.n hT 1 (pc' := 59) (L' := [none, none, none, none, none]) (st' := [.int (0 : Int32)]) rfl ?_
  exact Rn.weak (ll_n (ll_n (ll_n (ll_n (ll_n ll_e))))) (rX1_canGo_b59 hd hq e)
def fX1_canGo_b88 (N : Nat) (h : iv_H)  (s0 : Int32) : Option (Int32) := (if s0 = 0 ∨ s0 = 1 then some s0 else none)
set_option maxRecDepth 10000 in
set_option maxHeartbeats 4000000 in
theorem rX1_canGo_b88 {d N : Nat} (hd : 1 ≤ d) {h : iv_H}  {s0 : Int32} {r : Int32} {Q : Option Value → iv_H → Prop} (hq : Q (some (.int r)) h) (e : fX1_canGo_b88 N h  s0 = some r) : Rn d 23 (some .boolean) 88 [none, none, none, none, none] [.int s0] h Q := by
  have hT := hX1_canGo
  unfold fX1_canGo_b88 at e
  by_cases c_550 : s0 = 0 ∨ s0 = 1
  · rw [if_pos c_550] at e
    obtain rfl := Option.some.inj e
    exact Rn.ret hT rfl rfl (if_pos c_550) hq
  · rw [if_neg c_550] at e
    cases e
def fX1_canGo_b83 (N : Nat) (h : iv_H)   : Option (Int32) := (fX1_canGo_b88 N h (1 : Int32))
set_option maxRecDepth 10000 in
set_option maxHeartbeats 4000000 in
theorem rX1_canGo_b83 {d N : Nat} (hd : 1 ≤ d) {h : iv_H}   {r : Int32} {Q : Option Value → iv_H → Prop} (hq : Q (some (.int r)) h) (e : fX1_canGo_b83 N h   = some r) : Rn d 23 (some .boolean) 83 [none, none, none, none, none] [] h Q := by
  have hT := hX1_canGo
  unfold fX1_canGo_b83 at e
  refine Rn.n hT 2 (pc' := 88) (L' := [none, none, none, none, none]) (st' := [.int (1 : Int32)]) rfl ?_
  exact Rn.weak (ll_n (ll_n (ll_n (ll_n (ll_n ll_e))))) (rX1_canGo_b88 hd hq e)
def fX1_canGo (N : Nat) (h : iv_H) (q0 : Nat) (x1 : Int32) : Option (Int32) := ((gR h 1 5 q0).bind fun v_525 => ((aI h v_525 ((x1 >>> ((4 : Int32) &&& 31)) &&& (15 : Int32))).bind fun v_527 => (if (x1 >>> ((8 : Int32) &&& 31)) = (1 : Int32) then ((gR h 1 10 q0).bind fun v_539 => ((aI h v_539 (((4 : Int32) * v_527) + (x1 &&& (15 : Int32)))).bind fun v_541 => (if v_541 = (-1 : Int32) then (fX1_canGo_b58 N h) else ((gR h 1 7 q0).bind fun v_544 => ((aI h v_544 v_541).bind fun v_546 => (if v_546 = (-1 : Int32) then (fX1_canGo_b59 N h (1 : Int32)) else (fX1_canGo_b58 N h))))))) else (if (x1 >>> ((8 : Int32) &&& 31)) = (3 : Int32) then (fX1_canGo_b83 N h) else ((gR h 1 5 q0).bind fun v_531 => ((aI h v_531 (x1 &&& (15 : Int32))).bind fun v_533 => ((cko h q0 1).bind fun _ => (fX1_sideTo N h q0 v_527 v_533).bind fun v_537 => (if v_537 = (-1 : Int32) then (fX1_canGo_b88 N h (0 : Int32)) else (fX1_canGo_b83 N h)))))))))
set_option maxRecDepth 10000 in
set_option maxHeartbeats 4000000 in
theorem rX1_canGo {d N : Nat} (hd : 2 ≤ d) {h : iv_H} {q0 : Nat} {x1 : Int32} {r : Int32} {Q : Option Value → iv_H → Prop} (e : fX1_canGo N h q0 x1 = some r) (hq : Q (some (.int r)) h) : Cl d 23 [.ref q0, .int x1] h Q := by
  obtain ⟨d, rfl⟩ : ∃ k, d = k + 1 := ⟨d - 1, by omega⟩
  have hd : 1 ≤ d := by omega
  have hT := hX1_canGo
  unfold fX1_canGo at e
  refine Cl.into (by decide) gX1_canGo rfl ?_
  show Rn d 23 (some .boolean) 0 [some (.ref q0), some (.int x1), none, none, none] [] h Q
  refine Rn.n hT 1 (pc' := 1) (L' := [some (.ref q0), some (.int x1), none, none, none]) (st' := [.ref q0]) rfl ?_
  obtain ⟨v_525, e_526, e⟩ := Option.bind_eq_some_iff.mp e
  refine Rn.hp hT rfl rfl (gR_hp e_526) ?_
  refine Rn.n hT 5 (pc' := 10) (L' := [some (.ref q0), some (.int x1), none, none, none]) (st' := [.int ((x1 >>> ((4 : Int32) &&& 31)) &&& (15 : Int32)), .ref v_525]) rfl ?_
  obtain ⟨v_527, e_528, e⟩ := Option.bind_eq_some_iff.mp e
  refine Rn.hp hT rfl rfl (aI_hp e_528) ?_
  refine Rn.n hT 9 (pc' := 22) (L' := [some (.ref q0), some (.int x1), some (.int v_527), some (.int (x1 &&& (15 : Int32))), none]) (st' := [.int (1 : Int32), .int (x1 >>> ((8 : Int32) &&& 31))]) rfl ?_
  by_cases c_529 : (x1 >>> ((8 : Int32) &&& 31)) = (1 : Int32)
  · rw [if_pos c_529] at e
    refine Rn.bf hT rfl rfl rfl (decide_eq_false (fun z => z c_529)) ?_
    refine Rn.n hT 1 (pc' := 26) (L' := [some (.ref q0), some (.int x1), some (.int v_527), some (.int (x1 &&& (15 : Int32))), none]) (st' := [.ref q0]) rfl ?_
    obtain ⟨v_539, e_540, e⟩ := Option.bind_eq_some_iff.mp e
    refine Rn.hp hT rfl rfl (gR_hp e_540) ?_
    refine Rn.n hT 5 (pc' := 34) (L' := [some (.ref q0), some (.int x1), some (.int v_527), some (.int (x1 &&& (15 : Int32))), none]) (st' := [.int (((4 : Int32) * v_527) + (x1 &&& (15 : Int32))), .ref v_539]) rfl ?_
    obtain ⟨v_541, e_542, e⟩ := Option.bind_eq_some_iff.mp e
    refine Rn.hp hT rfl rfl (aI_hp e_542) ?_
    refine Rn.n hT 3 (pc' := 40) (L' := [some (.ref q0), some (.int x1), some (.int v_527), some (.int (x1 &&& (15 : Int32))), some (.int v_541)]) (st' := [.int (-1 : Int32), .int v_541]) rfl ?_
    by_cases c_543 : v_541 = (-1 : Int32)
    · rw [if_pos c_543] at e
      refine Rn.bt hT rfl rfl rfl (decide_eq_true c_543) ?_
      exact Rn.weak (ll_n (ll_n (ll_n (ll_n (ll_n ll_e))))) (rX1_canGo_b58 hd hq e)
    · rw [if_neg c_543] at e
      refine Rn.bf hT rfl rfl rfl (decide_eq_false c_543) ?_
      refine Rn.n hT 1 (pc' := 44) (L' := [some (.ref q0), some (.int x1), some (.int v_527), some (.int (x1 &&& (15 : Int32))), some (.int v_541)]) (st' := [.ref q0]) rfl ?_
      obtain ⟨v_544, e_545, e⟩ := Option.bind_eq_some_iff.mp e
      refine Rn.hp hT rfl rfl (gR_hp e_545) ?_
      refine Rn.n hT 1 (pc' := 49) (L' := [some (.ref q0), some (.int x1), some (.int v_527), some (.int (x1 &&& (15 : Int32))), some (.int v_541)]) (st' := [.int v_541, .ref v_544]) rfl ?_
      obtain ⟨v_546, e_547, e⟩ := Option.bind_eq_some_iff.mp e
      refine Rn.hp hT rfl rfl (aI_hp e_547) ?_
      refine Rn.n hT 1 (pc' := 51) (L' := [some (.ref q0), some (.int x1), some (.int v_527), some (.int (x1 &&& (15 : Int32))), some (.int v_541)]) (st' := [.int (-1 : Int32), .int v_546]) rfl ?_
      by_cases c_548 : v_546 = (-1 : Int32)
      · rw [if_pos c_548] at e
        refine Rn.bf hT rfl rfl rfl (decide_eq_false (fun z => z c_548)) ?_
        refine Rn.n hT 2 (pc' := 59) (L' := [some (.ref q0), some (.int x1), some (.int v_527), some (.int (x1 &&& (15 : Int32))), some (.int v_541)]) (st' := [.int (1 : Int32)]) rfl ?_
        exact Rn.weak (ll_n (ll_n (ll_n (ll_n (ll_n ll_e))))) (rX1_canGo_b59 hd hq e)
      · rw [if_neg c_548] at e
        refine Rn.bt hT rfl rfl rfl (decide_eq_true c_548) ?_
        exact Rn.weak (ll_n (ll_n (ll_n (ll_n (ll_n ll_e))))) (rX1_canGo_b58 hd hq e)
  · rw [if_neg c_529] at e
    refine Rn.bt hT rfl rfl rfl (decide_eq_true c_529) ?_
    refine Rn.n hT 4 (pc' := 65) (L' := [some (.ref q0), some (.int x1), some (.int v_527), some (.int (x1 &&& (15 : Int32))), none]) (st' := [.int (3 : Int32), .int (x1 >>> ((8 : Int32) &&& 31))]) rfl ?_
    by_cases c_530 : (x1 >>> ((8 : Int32) &&& 31)) = (3 : Int32)
    · rw [if_pos c_530] at e
      refine Rn.bt hT rfl rfl rfl (decide_eq_true c_530) ?_
      exact Rn.weak (ll_n (ll_n (ll_n (ll_n (ll_n ll_e))))) (rX1_canGo_b83 hd hq e)
    · rw [if_neg c_530] at e
      refine Rn.bf hT rfl rfl rfl (decide_eq_false c_530) ?_
      refine Rn.n hT 3 (pc' := 71) (L' := [some (.ref q0), some (.int x1), some (.int v_527), some (.int (x1 &&& (15 : Int32))), none]) (st' := [.ref q0, .int v_527, .ref q0]) rfl ?_
      obtain ⟨v_531, e_532, e⟩ := Option.bind_eq_some_iff.mp e
      refine Rn.hp hT rfl rfl (gR_hp e_532) ?_
      refine Rn.n hT 1 (pc' := 75) (L' := [some (.ref q0), some (.int x1), some (.int v_527), some (.int (x1 &&& (15 : Int32))), none]) (st' := [.int (x1 &&& (15 : Int32)), .ref v_531, .int v_527, .ref q0]) rfl ?_
      obtain ⟨v_533, e_534, e⟩ := Option.bind_eq_some_iff.mp e
      refine Rn.hp hT rfl rfl (aI_hp e_534) ?_
      obtain ⟨_, e_536, e⟩ := Option.bind_eq_some_iff.mp e
      obtain ⟨v_537, e_535, e⟩ := Option.bind_eq_some_iff.mp e
      refine Rn.call hT rfl rfl rfl (Nat.le_of_ble_eq_true rfl) (rcv_v gX1_sideTo (by omega) e_536) (rX1_sideTo (by omega) e_535 ?_)
      show Rn d _ _ 79 [some (.ref q0), some (.int x1), some (.int v_527), some (.int (x1 &&& (15 : Int32))), none] [.int v_537] h Q
      refine Rn.n hT 1 (pc' := 80) (L' := [some (.ref q0), some (.int x1), some (.int v_527), some (.int (x1 &&& (15 : Int32))), none]) (st' := [.int (-1 : Int32), .int v_537]) rfl ?_
      by_cases c_538 : v_537 = (-1 : Int32)
      · rw [if_pos c_538] at e
        refine Rn.bt hT rfl rfl rfl (decide_eq_true c_538) ?_
        refine Rn.n hT 1 (pc' := 88) (L' := [some (.ref q0), some (.int x1), some (.int v_527), some (.int (x1 &&& (15 : Int32))), none]) (st' := [.int (0 : Int32)]) rfl ?_
        exact Rn.weak (ll_n (ll_n (ll_n (ll_n (ll_n ll_e))))) (rX1_canGo_b88 hd hq e)
      · rw [if_neg c_538] at e
        refine Rn.bf hT rfl rfl rfl (decide_eq_false c_538) ?_
        exact Rn.weak (ll_n (ll_n (ll_n (ll_n (ll_n ll_e))))) (rX1_canGo_b83 hd hq e)
