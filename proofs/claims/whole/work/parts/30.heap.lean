-- MIRRORS over the heap of what constructors do (written by wip/whole/mir2.py heap)
set_option maxRecDepth 10000 in
theorem hX0_init : iv_Tb 0 tX0_init := iv_tb_of (m := mX0_init) rfl
set_option maxRecDepth 10000 in
theorem gX0_init : PG.2 0 = some mX0_init := iv_pi_of (t := tX0_init) rfl (by decide)
def fX0_init (N : Nat) (h : iv_H) (q0 : Nat) : Option (iv_H) := ((nA h 0 (384 : Int32)).bind fun p_5 => (fun (v_4 : Nat) (h_2 : iv_H) => ((pV h_2 0 0 q0 (.ref v_4)).bind fun h_6 => ((nA h_6 0 (384 : Int32)).bind fun p_11 => (fun (v_10 : Nat) (h_8 : iv_H) => ((pV h_8 0 1 q0 (.ref v_10)).bind fun h_12 => ((pV h_12 0 2 q0 (.int (0 : Int32))).bind fun h_14 => ((nA h_14 0 (12 : Int32)).bind fun p_19 => (fun (v_18 : Nat) (h_16 : iv_H) => ((pV h_16 0 3 q0 (.ref v_18)).bind fun h_20 => some h_20)) p_19.1 p_19.2)))) p_11.1 p_11.2))) p_5.1 p_5.2)
set_option maxRecDepth 10000 in
set_option maxHeartbeats 4000000 in
theorem rX0_init {d N : Nat} (hd : 1 ≤ d) {h : iv_H} {q0 : Nat} {r : iv_H} {Q : Option Value → iv_H → Prop} (e : fX0_init N h q0 = some r) (hq : Q none r) : Cl d 0 [.ref q0] h Q := by
  obtain ⟨d, rfl⟩ : ∃ k, d = k + 1 := ⟨d - 1, by omega⟩
  have hd : 0 ≤ d := by omega
  have hT := hX0_init
  unfold fX0_init at e
  refine Cl.into (by decide) gX0_init rfl ?_
  show Rn d 0 none 0 [some (.ref q0)] [] h Q
  refine Rn.n hT 1 (pc' := 1) (L' := [some (.ref q0)]) (st' := [.ref q0]) rfl ?_
  refine Rn.hp hT rfl rfl (st' := []) (h1 := h) rfl ?_
  refine Rn.n hT 2 (pc' := 8) (L' := [some (.ref q0)]) (st' := [.int (384 : Int32), .ref q0]) rfl ?_
  obtain ⟨⟨v_4, h_2⟩, e_3, e⟩ := Option.bind_eq_some_iff.mp e
  try dsimp only at e
  refine Rn.hp hT rfl rfl (nA_hp rfl e_3) ?_
  obtain ⟨h_6, e_7, e⟩ := Option.bind_eq_some_iff.mp e
  refine Rn.hp hT rfl rfl (pV_hp rfl e_7) ?_
  refine Rn.n hT 2 (pc' := 17) (L' := [some (.ref q0)]) (st' := [.int (384 : Int32), .ref q0]) rfl ?_
  obtain ⟨⟨v_10, h_8⟩, e_9, e⟩ := Option.bind_eq_some_iff.mp e
  try dsimp only at e
  refine Rn.hp hT rfl rfl (nA_hp rfl e_9) ?_
  obtain ⟨h_12, e_13, e⟩ := Option.bind_eq_some_iff.mp e
  refine Rn.hp hT rfl rfl (pV_hp rfl e_13) ?_
  refine Rn.n hT 2 (pc' := 24) (L' := [some (.ref q0)]) (st' := [.int (0 : Int32), .ref q0]) rfl ?_
  obtain ⟨h_14, e_15, e⟩ := Option.bind_eq_some_iff.mp e
  refine Rn.hp hT rfl rfl (pV_hp rfl e_15) ?_
  refine Rn.n hT 2 (pc' := 30) (L' := [some (.ref q0)]) (st' := [.int (12 : Int32), .ref q0]) rfl ?_
  obtain ⟨⟨v_18, h_16⟩, e_17, e⟩ := Option.bind_eq_some_iff.mp e
  try dsimp only at e
  refine Rn.hp hT rfl rfl (nA_hp rfl e_17) ?_
  obtain ⟨h_20, e_21, e⟩ := Option.bind_eq_some_iff.mp e
  refine Rn.hp hT rfl rfl (pV_hp rfl e_21) ?_
  obtain rfl := Option.some.inj e
  exact Rn.ret hT rfl rfl rfl hq
set_option maxRecDepth 10000 in
theorem hJ7_fill_53178 : iv_Tb 350 tJ7_fill_53178 := iv_tb_of (m := mJ7_fill_53178) rfl
set_option maxRecDepth 10000 in
theorem gJ7_fill_53178 : PG.2 350 = some mJ7_fill_53178 := iv_pi_of (t := tJ7_fill_53178) rfl (by decide)
def fJ7_fill_53178_l5 (N : Nat) (q0 : Nat) (x1 : Int32) (x3 : Int32) (kx : iv_H → Option (iv_H)) : Nat → iv_H → Int32 → Option (iv_H)
  | 0, _, _ => none
  | n + 1, h, x2 => (if x3 ≤ x2 then (kx h) else ((wI h q0 x2 x1).bind fun h_26 => (fJ7_fill_53178_l5 N q0 x1 x3 kx n h_26 (x2 + (1 : Int32)))))
set_option maxRecDepth 10000 in
set_option maxHeartbeats 4000000 in
theorem rJ7_fill_53178_l5 {d N : Nat} (hd : 0 ≤ d) {q0 : Nat} {x1 : Int32} {x3 : Int32} {kx : iv_H → Option (iv_H)} {r : iv_H} {Q : Option Value → iv_H → Prop} (hk : ∀ (h : iv_H), kx h = some r → Rn d 350 none 20 [none, none, none, none] [] h Q) (hq : Q none r) : ∀ (n : Nat) (h : iv_H) (x2 : Int32), fJ7_fill_53178_l5 N q0 x1 x3 kx n h x2 = some r → Rn d 350 none 5 [some (.ref q0), some (.int x1), some (.int x2), some (.int x3)] [] h Q := by
  have hT := hJ7_fill_53178
  intro n
  induction n with
  | zero =>
    intro h x2 e
    rw [fJ7_fill_53178_l5] at e
    cases e
  | succ n ih =>
    intro h x2 e
    rw [fJ7_fill_53178_l5] at e
    refine Rn.n hT 2 (pc' := 7) (L' := [some (.ref q0), some (.int x1), some (.int x2), some (.int x3)]) (st' := [.int x3, .int x2]) rfl ?_
    by_cases c_25 : x3 ≤ x2
    · rw [if_pos c_25] at e
      refine Rn.bt hT rfl rfl rfl (decide_eq_true c_25) ?_
      exact Rn.weak (ll_n (ll_n (ll_n (ll_n ll_e)))) (hk h e)
    · rw [if_neg c_25] at e
      refine Rn.bf hT rfl rfl rfl (decide_eq_false c_25) ?_
      refine Rn.n hT 3 (pc' := 13) (L' := [some (.ref q0), some (.int x1), some (.int x2), some (.int x3)]) (st' := [.int x1, .int x2, .ref q0]) rfl ?_
      obtain ⟨h_26, e_27, e⟩ := Option.bind_eq_some_iff.mp e
      refine Rn.hp hT rfl rfl (wI_hp e_27) ?_
      refine Rn.n hT 2 (pc' := 5) (L' := [some (.ref q0), some (.int x1), some (.int (x2 + (1 : Int32))), some (.int x3)]) (st' := []) rfl ?_
      exact Rn.weak (ll_s (ll_s (ll_s (ll_s ll_e)))) (ih h_26 (x2 + (1 : Int32)) e)
def fJ7_fill_53178 (N : Nat) (h : iv_H) (q0 : Nat) (x1 : Int32) : Option (iv_H) := ((aL h q0).bind fun v_22 => (fJ7_fill_53178_l5 N q0 x1 v_22 (fun (h_24 : iv_H) => some h_24) N h (0 : Int32)))
set_option maxRecDepth 10000 in
set_option maxHeartbeats 4000000 in
theorem rJ7_fill_53178 {d N : Nat} (hd : 1 ≤ d) {h : iv_H} {q0 : Nat} {x1 : Int32} {r : iv_H} {Q : Option Value → iv_H → Prop} (e : fJ7_fill_53178 N h q0 x1 = some r) (hq : Q none r) : Cl d 350 [.ref q0, .int x1] h Q := by
  obtain ⟨d, rfl⟩ : ∃ k, d = k + 1 := ⟨d - 1, by omega⟩
  have hd : 0 ≤ d := by omega
  have hT := hJ7_fill_53178
  unfold fJ7_fill_53178 at e
  refine Cl.into (by decide) gJ7_fill_53178 rfl ?_
  show Rn d 350 none 0 [some (.ref q0), some (.int x1), none, none] [] h Q
  refine Rn.n hT 3 (pc' := 3) (L' := [some (.ref q0), some (.int x1), some (.int (0 : Int32)), none]) (st' := [.ref q0]) rfl ?_
  obtain ⟨v_22, e_23, e⟩ := Option.bind_eq_some_iff.mp e
  refine Rn.hp hT rfl rfl (aL_hp e_23) ?_
  refine Rn.n hT 1 (pc' := 5) (L' := [some (.ref q0), some (.int x1), some (.int (0 : Int32)), some (.int v_22)]) (st' := []) rfl ?_
  refine Rn.weak (ll_s (ll_s (ll_s (ll_s ll_e)))) (rJ7_fill_53178_l5 hd (fun h_24 e => ?_) hq N h (0 : Int32) e)
  try dsimp only at e
  obtain rfl := Option.some.inj e
  exact Rn.ret hT rfl rfl rfl hq
set_option maxRecDepth 10000 in
theorem hX1_init : iv_Tb 10 tX1_init := iv_tb_of (m := mX1_init) rfl
set_option maxRecDepth 10000 in
theorem gX1_init : PG.2 10 = some mX1_init := iv_pi_of (t := tX1_init) rfl (by decide)
def fX1_init (N : Nat) (h : iv_H) (q0 : Nat) : Option (iv_H) := ((pV h 1 0 q0 (.int (0 : Int32))).bind fun h_29 => ((pV h_29 1 1 q0 (.int (0 : Int32))).bind fun h_31 => ((pV h_31 1 2 q0 (.int (0 : Int32))).bind fun h_33 => ((pV h_33 1 3 q0 (.long (0 : Int64))).bind fun h_35 => ((pV h_35 1 4 q0 (.int (0 : Int32))).bind fun h_37 => ((nA h_37 0 (12 : Int32)).bind fun p_42 => (fun (v_41 : Nat) (h_39 : iv_H) => ((pV h_39 1 5 q0 (.ref v_41)).bind fun h_43 => ((nA h_43 0 (12 : Int32)).bind fun p_48 => (fun (v_47 : Nat) (h_45 : iv_H) => ((pV h_45 1 6 q0 (.ref v_47)).bind fun h_49 => ((nA h_49 0 (16 : Int32)).bind fun p_54 => (fun (v_53 : Nat) (h_51 : iv_H) => ((pV h_51 1 7 q0 (.ref v_53)).bind fun h_55 => ((nA h_55 0 (48 : Int32)).bind fun p_60 => (fun (v_59 : Nat) (h_57 : iv_H) => ((pV h_57 1 8 q0 (.ref v_59)).bind fun h_61 => ((nA h_61 0 (64 : Int32)).bind fun p_66 => (fun (v_65 : Nat) (h_63 : iv_H) => ((pV h_63 1 9 q0 (.ref v_65)).bind fun h_67 => ((nA h_67 0 (64 : Int32)).bind fun p_72 => (fun (v_71 : Nat) (h_69 : iv_H) => ((pV h_69 1 10 q0 (.ref v_71)).bind fun h_73 => ((gR h_73 1 7 q0).bind fun v_75 => ((fJ7_fill_53178 N h_73 v_75 (-1 : Int32)).bind fun h_79 => ((gR h_79 1 9 q0).bind fun v_80 => ((fJ7_fill_53178 N h_79 v_80 (3 : Int32)).bind fun h_84 => ((gR h_84 1 10 q0).bind fun v_85 => ((fJ7_fill_53178 N h_84 v_85 (-1 : Int32)).bind fun h_89 => some h_89)))))))) p_72.1 p_72.2))) p_66.1 p_66.2))) p_60.1 p_60.2))) p_54.1 p_54.2))) p_48.1 p_48.2))) p_42.1 p_42.2))))))
set_option maxRecDepth 10000 in
set_option maxHeartbeats 4000000 in
theorem rX1_init {d N : Nat} (hd : 2 ≤ d) {h : iv_H} {q0 : Nat} {r : iv_H} {Q : Option Value → iv_H → Prop} (e : fX1_init N h q0 = some r) (hq : Q none r) : Cl d 10 [.ref q0] h Q := by
  obtain ⟨d, rfl⟩ : ∃ k, d = k + 1 := ⟨d - 1, by omega⟩
  have hd : 1 ≤ d := by omega
  have hT := hX1_init
  unfold fX1_init at e
  refine Cl.into (by decide) gX1_init rfl ?_
  show Rn d 10 none 0 [some (.ref q0)] [] h Q
  refine Rn.n hT 1 (pc' := 1) (L' := [some (.ref q0)]) (st' := [.ref q0]) rfl ?_
  refine Rn.hp hT rfl rfl (st' := []) (h1 := h) rfl ?_
  refine Rn.n hT 2 (pc' := 6) (L' := [some (.ref q0)]) (st' := [.int (0 : Int32), .ref q0]) rfl ?_
  obtain ⟨h_29, e_30, e⟩ := Option.bind_eq_some_iff.mp e
  refine Rn.hp hT rfl rfl (pV_hp rfl e_30) ?_
  refine Rn.n hT 2 (pc' := 11) (L' := [some (.ref q0)]) (st' := [.int (0 : Int32), .ref q0]) rfl ?_
  obtain ⟨h_31, e_32, e⟩ := Option.bind_eq_some_iff.mp e
  refine Rn.hp hT rfl rfl (pV_hp rfl e_32) ?_
  refine Rn.n hT 2 (pc' := 16) (L' := [some (.ref q0)]) (st' := [.int (0 : Int32), .ref q0]) rfl ?_
  obtain ⟨h_33, e_34, e⟩ := Option.bind_eq_some_iff.mp e
  refine Rn.hp hT rfl rfl (pV_hp rfl e_34) ?_
  refine Rn.n hT 2 (pc' := 21) (L' := [some (.ref q0)]) (st' := [.long (0 : Int64), .ref q0]) rfl ?_
  obtain ⟨h_35, e_36, e⟩ := Option.bind_eq_some_iff.mp e
  refine Rn.hp hT rfl rfl (pV_hp rfl e_36) ?_
  refine Rn.n hT 2 (pc' := 26) (L' := [some (.ref q0)]) (st' := [.int (0 : Int32), .ref q0]) rfl ?_
  obtain ⟨h_37, e_38, e⟩ := Option.bind_eq_some_iff.mp e
  refine Rn.hp hT rfl rfl (pV_hp rfl e_38) ?_
  refine Rn.n hT 2 (pc' := 32) (L' := [some (.ref q0)]) (st' := [.int (12 : Int32), .ref q0]) rfl ?_
  obtain ⟨⟨v_41, h_39⟩, e_40, e⟩ := Option.bind_eq_some_iff.mp e
  try dsimp only at e
  refine Rn.hp hT rfl rfl (nA_hp rfl e_40) ?_
  obtain ⟨h_43, e_44, e⟩ := Option.bind_eq_some_iff.mp e
  refine Rn.hp hT rfl rfl (pV_hp rfl e_44) ?_
  refine Rn.n hT 2 (pc' := 40) (L' := [some (.ref q0)]) (st' := [.int (12 : Int32), .ref q0]) rfl ?_
  obtain ⟨⟨v_47, h_45⟩, e_46, e⟩ := Option.bind_eq_some_iff.mp e
  try dsimp only at e
  refine Rn.hp hT rfl rfl (nA_hp rfl e_46) ?_
  obtain ⟨h_49, e_50, e⟩ := Option.bind_eq_some_iff.mp e
  refine Rn.hp hT rfl rfl (pV_hp rfl e_50) ?_
  refine Rn.n hT 2 (pc' := 48) (L' := [some (.ref q0)]) (st' := [.int (16 : Int32), .ref q0]) rfl ?_
  obtain ⟨⟨v_53, h_51⟩, e_52, e⟩ := Option.bind_eq_some_iff.mp e
  try dsimp only at e
  refine Rn.hp hT rfl rfl (nA_hp rfl e_52) ?_
  obtain ⟨h_55, e_56, e⟩ := Option.bind_eq_some_iff.mp e
  refine Rn.hp hT rfl rfl (pV_hp rfl e_56) ?_
  refine Rn.n hT 2 (pc' := 56) (L' := [some (.ref q0)]) (st' := [.int (48 : Int32), .ref q0]) rfl ?_
  obtain ⟨⟨v_59, h_57⟩, e_58, e⟩ := Option.bind_eq_some_iff.mp e
  try dsimp only at e
  refine Rn.hp hT rfl rfl (nA_hp rfl e_58) ?_
  obtain ⟨h_61, e_62, e⟩ := Option.bind_eq_some_iff.mp e
  refine Rn.hp hT rfl rfl (pV_hp rfl e_62) ?_
  refine Rn.n hT 2 (pc' := 64) (L' := [some (.ref q0)]) (st' := [.int (64 : Int32), .ref q0]) rfl ?_
  obtain ⟨⟨v_65, h_63⟩, e_64, e⟩ := Option.bind_eq_some_iff.mp e
  try dsimp only at e
  refine Rn.hp hT rfl rfl (nA_hp rfl e_64) ?_
  obtain ⟨h_67, e_68, e⟩ := Option.bind_eq_some_iff.mp e
  refine Rn.hp hT rfl rfl (pV_hp rfl e_68) ?_
  refine Rn.n hT 2 (pc' := 72) (L' := [some (.ref q0)]) (st' := [.int (64 : Int32), .ref q0]) rfl ?_
  obtain ⟨⟨v_71, h_69⟩, e_70, e⟩ := Option.bind_eq_some_iff.mp e
  try dsimp only at e
  refine Rn.hp hT rfl rfl (nA_hp rfl e_70) ?_
  obtain ⟨h_73, e_74, e⟩ := Option.bind_eq_some_iff.mp e
  refine Rn.hp hT rfl rfl (pV_hp rfl e_74) ?_
  refine Rn.n hT 1 (pc' := 78) (L' := [some (.ref q0)]) (st' := [.ref q0]) rfl ?_
  obtain ⟨v_75, e_76, e⟩ := Option.bind_eq_some_iff.mp e
  refine Rn.hp hT rfl rfl (gR_hp e_76) ?_
  refine Rn.n hT 1 (pc' := 82) (L' := [some (.ref q0)]) (st' := [.int (-1 : Int32), .ref v_75]) rfl ?_
  obtain ⟨h_79, e_77, e⟩ := Option.bind_eq_some_iff.mp e
  refine Rn.call hT rfl rfl rfl (Nat.le_of_ble_eq_true rfl) rfl (rJ7_fill_53178 (by omega) e_77 ?_)
  show Rn d _ _ 85 [some (.ref q0)] [] h_79 Q
  refine Rn.n hT 1 (pc' := 86) (L' := [some (.ref q0)]) (st' := [.ref q0]) rfl ?_
  obtain ⟨v_80, e_81, e⟩ := Option.bind_eq_some_iff.mp e
  refine Rn.hp hT rfl rfl (gR_hp e_81) ?_
  refine Rn.n hT 1 (pc' := 90) (L' := [some (.ref q0)]) (st' := [.int (3 : Int32), .ref v_80]) rfl ?_
  obtain ⟨h_84, e_82, e⟩ := Option.bind_eq_some_iff.mp e
  refine Rn.call hT rfl rfl rfl (Nat.le_of_ble_eq_true rfl) rfl (rJ7_fill_53178 (by omega) e_82 ?_)
  show Rn d _ _ 93 [some (.ref q0)] [] h_84 Q
  refine Rn.n hT 1 (pc' := 94) (L' := [some (.ref q0)]) (st' := [.ref q0]) rfl ?_
  obtain ⟨v_85, e_86, e⟩ := Option.bind_eq_some_iff.mp e
  refine Rn.hp hT rfl rfl (gR_hp e_86) ?_
  refine Rn.n hT 1 (pc' := 98) (L' := [some (.ref q0)]) (st' := [.int (-1 : Int32), .ref v_85]) rfl ?_
  obtain ⟨h_89, e_87, e⟩ := Option.bind_eq_some_iff.mp e
  refine Rn.call hT rfl rfl rfl (Nat.le_of_ble_eq_true rfl) rfl (rJ7_fill_53178 (by omega) e_87 ?_)
  show Rn d _ _ 101 [some (.ref q0)] [] h_89 Q
  obtain rfl := Option.some.inj e
  exact Rn.ret hT rfl rfl rfl hq
set_option maxRecDepth 10000 in
theorem hX7_init : iv_Tb 95 tX7_init := iv_tb_of (m := mX7_init) rfl
set_option maxRecDepth 10000 in
theorem gX7_init : PG.2 95 = some mX7_init := iv_pi_of (t := tX7_init) rfl (by decide)
def fX7_init (N : Nat) (h : iv_H) (q0 : Nat) (x1 : Int32) : Option (iv_H) := ((pV h 7 1 q0 (.int (0 : Int32))).bind fun h_91 => ((nA h_91 1 x1).bind fun p_96 => (fun (v_95 : Nat) (h_93 : iv_H) => ((pV h_93 7 0 q0 (.ref v_95)).bind fun h_97 => some h_97)) p_96.1 p_96.2))
set_option maxRecDepth 10000 in
set_option maxHeartbeats 4000000 in
theorem rX7_init {d N : Nat} (hd : 1 ≤ d) {h : iv_H} {q0 : Nat} {x1 : Int32} {r : iv_H} {Q : Option Value → iv_H → Prop} (e : fX7_init N h q0 x1 = some r) (hq : Q none r) : Cl d 95 [.ref q0, .int x1] h Q := by
  obtain ⟨d, rfl⟩ : ∃ k, d = k + 1 := ⟨d - 1, by omega⟩
  have hd : 0 ≤ d := by omega
  have hT := hX7_init
  unfold fX7_init at e
  refine Cl.into (by decide) gX7_init rfl ?_
  show Rn d 95 none 0 [some (.ref q0), some (.int x1)] [] h Q
  refine Rn.n hT 1 (pc' := 1) (L' := [some (.ref q0), some (.int x1)]) (st' := [.ref q0]) rfl ?_
  refine Rn.hp hT rfl rfl (st' := []) (h1 := h) rfl ?_
  refine Rn.n hT 2 (pc' := 6) (L' := [some (.ref q0), some (.int x1)]) (st' := [.int (0 : Int32), .ref q0]) rfl ?_
  obtain ⟨h_91, e_92, e⟩ := Option.bind_eq_some_iff.mp e
  refine Rn.hp hT rfl rfl (pV_hp rfl e_92) ?_
  refine Rn.n hT 2 (pc' := 11) (L' := [some (.ref q0), some (.int x1)]) (st' := [.int x1, .ref q0]) rfl ?_
  obtain ⟨⟨v_95, h_93⟩, e_94, e⟩ := Option.bind_eq_some_iff.mp e
  try dsimp only at e
  refine Rn.hp hT rfl rfl (nA_hp rfl e_94) ?_
  obtain ⟨h_97, e_98, e⟩ := Option.bind_eq_some_iff.mp e
  refine Rn.hp hT rfl rfl (pV_hp rfl e_98) ?_
  obtain rfl := Option.some.inj e
  exact Rn.ret hT rfl rfl rfl hq
set_option maxRecDepth 10000 in
theorem hX2_init : iv_Tb 43 tX2_init := iv_tb_of (m := mX2_init) rfl
set_option maxRecDepth 10000 in
theorem gX2_init : PG.2 43 = some mX2_init := iv_pi_of (t := tX2_init) rfl (by decide)
def fX2_init (N : Nat) (h : iv_H) (q0 : Nat) : Option (iv_H) := ((pV h 2 0 q0 (.int (0 : Int32))).bind fun h_100 => ((pV h_100 2 1 q0 (.int (0 : Int32))).bind fun h_102 => ((pV h_102 2 2 q0 (.int (0 : Int32))).bind fun h_104 => ((pV h_104 2 3 q0 (.int (0 : Int32))).bind fun h_106 => ((pV h_106 2 4 q0 (.int (0 : Int32))).bind fun h_108 => ((pV h_108 2 5 q0 (.int (-1 : Int32))).bind fun h_110 => ((pV h_110 2 6 q0 (.int (0 : Int32))).bind fun h_112 => ((pV h_112 2 7 q0 (.int (0 : Int32))).bind fun h_114 => ((pV h_114 2 8 q0 (.int (0 : Int32))).bind fun h_116 => ((nO h_116 1).bind fun p_121 => (fun (v_120 : Nat) (h_118 : iv_H) => ((fX1_init N h_118 v_120).bind fun h_124 => ((pV h_124 2 9 q0 (.ref v_120)).bind fun h_125 => ((nA h_125 0 (5 : Int32)).bind fun p_130 => (fun (v_129 : Nat) (h_127 : iv_H) => ((wI h_127 v_129 (0 : Int32) (-1 : Int32)).bind fun h_131 => ((wI h_131 v_129 (1 : Int32) (-1 : Int32)).bind fun h_133 => ((wI h_133 v_129 (2 : Int32) (-1 : Int32)).bind fun h_135 => ((wI h_135 v_129 (3 : Int32) (-1 : Int32)).bind fun h_137 => ((wI h_137 v_129 (4 : Int32) (-1 : Int32)).bind fun h_139 => ((pV h_139 2 10 q0 (.ref v_129)).bind fun h_141 => ((nA h_141 0 (6 : Int32)).bind fun p_146 => (fun (v_145 : Nat) (h_143 : iv_H) => ((pV h_143 2 11 q0 (.ref v_145)).bind fun h_147 => ((nO h_147 7).bind fun p_152 => (fun (v_151 : Nat) (h_149 : iv_H) => ((fX7_init N h_149 v_151 (20 : Int32)).bind fun h_155 => ((pV h_155 2 12 q0 (.ref v_151)).bind fun h_156 => ((nO h_156 7).bind fun p_161 => (fun (v_160 : Nat) (h_158 : iv_H) => ((fX7_init N h_158 v_160 (20 : Int32)).bind fun h_164 => ((pV h_164 2 13 q0 (.ref v_160)).bind fun h_165 => ((nA h_165 1 (4 : Int32)).bind fun p_170 => (fun (v_169 : Nat) (h_167 : iv_H) => ((pV h_167 2 14 q0 (.ref v_169)).bind fun h_171 => ((nA h_171 0 (4 : Int32)).bind fun p_176 => (fun (v_175 : Nat) (h_173 : iv_H) => ((pV h_173 2 15 q0 (.ref v_175)).bind fun h_177 => ((nO h_177 7).bind fun p_182 => (fun (v_181 : Nat) (h_179 : iv_H) => ((fX7_init N h_179 v_181 (10 : Int32)).bind fun h_185 => ((pV h_185 2 16 q0 (.ref v_181)).bind fun h_186 => ((nO h_186 7).bind fun p_191 => (fun (v_190 : Nat) (h_188 : iv_H) => ((fX7_init N h_188 v_190 (12 : Int32)).bind fun h_194 => ((pV h_194 2 17 q0 (.ref v_190)).bind fun h_195 => ((nO h_195 7).bind fun p_200 => (fun (v_199 : Nat) (h_197 : iv_H) => ((fX7_init N h_197 v_199 (8 : Int32)).bind fun h_203 => ((pV h_203 2 18 q0 (.ref v_199)).bind fun h_204 => some h_204))) p_200.1 p_200.2)))) p_191.1 p_191.2)))) p_182.1 p_182.2))) p_176.1 p_176.2))) p_170.1 p_170.2)))) p_161.1 p_161.2)))) p_152.1 p_152.2))) p_146.1 p_146.2)))))))) p_130.1 p_130.2)))) p_121.1 p_121.2))))))))))
set_option maxRecDepth 10000 in
set_option maxHeartbeats 4000000 in
theorem rX2_init {d N : Nat} (hd : 3 ≤ d) {h : iv_H} {q0 : Nat} {r : iv_H} {Q : Option Value → iv_H → Prop} (e : fX2_init N h q0 = some r) (hq : Q none r) : Cl d 43 [.ref q0] h Q := by
  obtain ⟨d, rfl⟩ : ∃ k, d = k + 1 := ⟨d - 1, by omega⟩
  have hd : 2 ≤ d := by omega
  have hT := hX2_init
  unfold fX2_init at e
  refine Cl.into (by decide) gX2_init rfl ?_
  show Rn d 43 none 0 [some (.ref q0)] [] h Q
  refine Rn.n hT 1 (pc' := 1) (L' := [some (.ref q0)]) (st' := [.ref q0]) rfl ?_
  refine Rn.hp hT rfl rfl (st' := []) (h1 := h) rfl ?_
  refine Rn.n hT 2 (pc' := 6) (L' := [some (.ref q0)]) (st' := [.int (0 : Int32), .ref q0]) rfl ?_
  obtain ⟨h_100, e_101, e⟩ := Option.bind_eq_some_iff.mp e
  refine Rn.hp hT rfl rfl (pV_hp (by decide) e_101) ?_
  refine Rn.n hT 2 (pc' := 11) (L' := [some (.ref q0)]) (st' := [.int (0 : Int32), .ref q0]) rfl ?_
  obtain ⟨h_102, e_103, e⟩ := Option.bind_eq_some_iff.mp e
  refine Rn.hp hT rfl rfl (pV_hp rfl e_103) ?_
  refine Rn.n hT 2 (pc' := 16) (L' := [some (.ref q0)]) (st' := [.int (0 : Int32), .ref q0]) rfl ?_
  obtain ⟨h_104, e_105, e⟩ := Option.bind_eq_some_iff.mp e
  refine Rn.hp hT rfl rfl (pV_hp rfl e_105) ?_
  refine Rn.n hT 2 (pc' := 21) (L' := [some (.ref q0)]) (st' := [.int (0 : Int32), .ref q0]) rfl ?_
  obtain ⟨h_106, e_107, e⟩ := Option.bind_eq_some_iff.mp e
  refine Rn.hp hT rfl rfl (pV_hp rfl e_107) ?_
  refine Rn.n hT 2 (pc' := 26) (L' := [some (.ref q0)]) (st' := [.int (0 : Int32), .ref q0]) rfl ?_
  obtain ⟨h_108, e_109, e⟩ := Option.bind_eq_some_iff.mp e
  refine Rn.hp hT rfl rfl (pV_hp rfl e_109) ?_
  refine Rn.n hT 2 (pc' := 31) (L' := [some (.ref q0)]) (st' := [.int (-1 : Int32), .ref q0]) rfl ?_
  obtain ⟨h_110, e_111, e⟩ := Option.bind_eq_some_iff.mp e
  refine Rn.hp hT rfl rfl (pV_hp rfl e_111) ?_
  refine Rn.n hT 2 (pc' := 36) (L' := [some (.ref q0)]) (st' := [.int (0 : Int32), .ref q0]) rfl ?_
  obtain ⟨h_112, e_113, e⟩ := Option.bind_eq_some_iff.mp e
  refine Rn.hp hT rfl rfl (pV_hp rfl e_113) ?_
  refine Rn.n hT 2 (pc' := 41) (L' := [some (.ref q0)]) (st' := [.int (0 : Int32), .ref q0]) rfl ?_
  obtain ⟨h_114, e_115, e⟩ := Option.bind_eq_some_iff.mp e
  refine Rn.hp hT rfl rfl (pV_hp rfl e_115) ?_
  refine Rn.n hT 2 (pc' := 46) (L' := [some (.ref q0)]) (st' := [.int (0 : Int32), .ref q0]) rfl ?_
  obtain ⟨h_116, e_117, e⟩ := Option.bind_eq_some_iff.mp e
  refine Rn.hp hT rfl rfl (pV_hp rfl e_117) ?_
  refine Rn.n hT 1 (pc' := 50) (L' := [some (.ref q0)]) (st' := [.ref q0]) rfl ?_
  obtain ⟨⟨v_120, h_118⟩, e_119, e⟩ := Option.bind_eq_some_iff.mp e
  try dsimp only at e
  refine Rn.hp hT rfl rfl (nO_hp e_119) ?_
  refine Rn.n hT 1 (pc' := 54) (L' := [some (.ref q0)]) (st' := [.ref v_120, .ref v_120, .ref q0]) rfl ?_
  obtain ⟨h_124, e_122, e⟩ := Option.bind_eq_some_iff.mp e
  refine Rn.call hT rfl rfl rfl (Nat.le_of_ble_eq_true rfl) rfl (rX1_init (by omega) e_122 ?_)
  show Rn d _ _ 57 [some (.ref q0)] [.ref v_120, .ref q0] h_124 Q
  obtain ⟨h_125, e_126, e⟩ := Option.bind_eq_some_iff.mp e
  refine Rn.hp hT rfl rfl (pV_hp rfl e_126) ?_
  refine Rn.n hT 2 (pc' := 62) (L' := [some (.ref q0)]) (st' := [.int (5 : Int32), .ref q0]) rfl ?_
  obtain ⟨⟨v_129, h_127⟩, e_128, e⟩ := Option.bind_eq_some_iff.mp e
  try dsimp only at e
  refine Rn.hp hT rfl rfl (nA_hp rfl e_128) ?_
  refine Rn.n hT 3 (pc' := 67) (L' := [some (.ref q0)]) (st' := [.int (-1 : Int32), .int (0 : Int32), .ref v_129, .ref v_129, .ref q0]) rfl ?_
  obtain ⟨h_131, e_132, e⟩ := Option.bind_eq_some_iff.mp e
  refine Rn.hp hT rfl rfl (wI_hp e_132) ?_
  refine Rn.n hT 3 (pc' := 71) (L' := [some (.ref q0)]) (st' := [.int (-1 : Int32), .int (1 : Int32), .ref v_129, .ref v_129, .ref q0]) rfl ?_
  obtain ⟨h_133, e_134, e⟩ := Option.bind_eq_some_iff.mp e
  refine Rn.hp hT rfl rfl (wI_hp e_134) ?_
  refine Rn.n hT 3 (pc' := 75) (L' := [some (.ref q0)]) (st' := [.int (-1 : Int32), .int (2 : Int32), .ref v_129, .ref v_129, .ref q0]) rfl ?_
  obtain ⟨h_135, e_136, e⟩ := Option.bind_eq_some_iff.mp e
  refine Rn.hp hT rfl rfl (wI_hp e_136) ?_
  refine Rn.n hT 3 (pc' := 79) (L' := [some (.ref q0)]) (st' := [.int (-1 : Int32), .int (3 : Int32), .ref v_129, .ref v_129, .ref q0]) rfl ?_
  obtain ⟨h_137, e_138, e⟩ := Option.bind_eq_some_iff.mp e
  refine Rn.hp hT rfl rfl (wI_hp e_138) ?_
  refine Rn.n hT 3 (pc' := 83) (L' := [some (.ref q0)]) (st' := [.int (-1 : Int32), .int (4 : Int32), .ref v_129, .ref v_129, .ref q0]) rfl ?_
  obtain ⟨h_139, e_140, e⟩ := Option.bind_eq_some_iff.mp e
  refine Rn.hp hT rfl rfl (wI_hp e_140) ?_
  obtain ⟨h_141, e_142, e⟩ := Option.bind_eq_some_iff.mp e
  refine Rn.hp hT rfl rfl (pV_hp rfl e_142) ?_
  refine Rn.n hT 2 (pc' := 90) (L' := [some (.ref q0)]) (st' := [.int (6 : Int32), .ref q0]) rfl ?_
  obtain ⟨⟨v_145, h_143⟩, e_144, e⟩ := Option.bind_eq_some_iff.mp e
  try dsimp only at e
  refine Rn.hp hT rfl rfl (nA_hp rfl e_144) ?_
  obtain ⟨h_147, e_148, e⟩ := Option.bind_eq_some_iff.mp e
  refine Rn.hp hT rfl rfl (pV_hp rfl e_148) ?_
  refine Rn.n hT 1 (pc' := 96) (L' := [some (.ref q0)]) (st' := [.ref q0]) rfl ?_
  obtain ⟨⟨v_151, h_149⟩, e_150, e⟩ := Option.bind_eq_some_iff.mp e
  try dsimp only at e
  refine Rn.hp hT rfl rfl (nO_hp e_150) ?_
  refine Rn.n hT 2 (pc' := 102) (L' := [some (.ref q0)]) (st' := [.int (20 : Int32), .ref v_151, .ref v_151, .ref q0]) rfl ?_
  obtain ⟨h_155, e_153, e⟩ := Option.bind_eq_some_iff.mp e
  refine Rn.call hT rfl rfl rfl (Nat.le_of_ble_eq_true rfl) rfl (rX7_init (by omega) e_153 ?_)
  show Rn d _ _ 105 [some (.ref q0)] [.ref v_151, .ref q0] h_155 Q
  obtain ⟨h_156, e_157, e⟩ := Option.bind_eq_some_iff.mp e
  refine Rn.hp hT rfl rfl (pV_hp rfl e_157) ?_
  refine Rn.n hT 1 (pc' := 109) (L' := [some (.ref q0)]) (st' := [.ref q0]) rfl ?_
  obtain ⟨⟨v_160, h_158⟩, e_159, e⟩ := Option.bind_eq_some_iff.mp e
  try dsimp only at e
  refine Rn.hp hT rfl rfl (nO_hp e_159) ?_
  refine Rn.n hT 2 (pc' := 115) (L' := [some (.ref q0)]) (st' := [.int (20 : Int32), .ref v_160, .ref v_160, .ref q0]) rfl ?_
  obtain ⟨h_164, e_162, e⟩ := Option.bind_eq_some_iff.mp e
  refine Rn.call hT rfl rfl rfl (Nat.le_of_ble_eq_true rfl) rfl (rX7_init (by omega) e_162 ?_)
  show Rn d _ _ 118 [some (.ref q0)] [.ref v_160, .ref q0] h_164 Q
  obtain ⟨h_165, e_166, e⟩ := Option.bind_eq_some_iff.mp e
  refine Rn.hp hT rfl rfl (pV_hp rfl e_166) ?_
  refine Rn.n hT 2 (pc' := 123) (L' := [some (.ref q0)]) (st' := [.int (4 : Int32), .ref q0]) rfl ?_
  obtain ⟨⟨v_169, h_167⟩, e_168, e⟩ := Option.bind_eq_some_iff.mp e
  try dsimp only at e
  refine Rn.hp hT rfl rfl (nA_hp rfl e_168) ?_
  obtain ⟨h_171, e_172, e⟩ := Option.bind_eq_some_iff.mp e
  refine Rn.hp hT rfl rfl (pV_hp rfl e_172) ?_
  refine Rn.n hT 2 (pc' := 130) (L' := [some (.ref q0)]) (st' := [.int (4 : Int32), .ref q0]) rfl ?_
  obtain ⟨⟨v_175, h_173⟩, e_174, e⟩ := Option.bind_eq_some_iff.mp e
  try dsimp only at e
  refine Rn.hp hT rfl rfl (nA_hp rfl e_174) ?_
  obtain ⟨h_177, e_178, e⟩ := Option.bind_eq_some_iff.mp e
  refine Rn.hp hT rfl rfl (pV_hp rfl e_178) ?_
  refine Rn.n hT 1 (pc' := 136) (L' := [some (.ref q0)]) (st' := [.ref q0]) rfl ?_
  obtain ⟨⟨v_181, h_179⟩, e_180, e⟩ := Option.bind_eq_some_iff.mp e
  try dsimp only at e
  refine Rn.hp hT rfl rfl (nO_hp e_180) ?_
  refine Rn.n hT 2 (pc' := 142) (L' := [some (.ref q0)]) (st' := [.int (10 : Int32), .ref v_181, .ref v_181, .ref q0]) rfl ?_
  obtain ⟨h_185, e_183, e⟩ := Option.bind_eq_some_iff.mp e
  refine Rn.call hT rfl rfl rfl (Nat.le_of_ble_eq_true rfl) rfl (rX7_init (by omega) e_183 ?_)
  show Rn d _ _ 145 [some (.ref q0)] [.ref v_181, .ref q0] h_185 Q
  obtain ⟨h_186, e_187, e⟩ := Option.bind_eq_some_iff.mp e
  refine Rn.hp hT rfl rfl (pV_hp rfl e_187) ?_
  refine Rn.n hT 1 (pc' := 149) (L' := [some (.ref q0)]) (st' := [.ref q0]) rfl ?_
  obtain ⟨⟨v_190, h_188⟩, e_189, e⟩ := Option.bind_eq_some_iff.mp e
  try dsimp only at e
  refine Rn.hp hT rfl rfl (nO_hp e_189) ?_
  refine Rn.n hT 2 (pc' := 155) (L' := [some (.ref q0)]) (st' := [.int (12 : Int32), .ref v_190, .ref v_190, .ref q0]) rfl ?_
  obtain ⟨h_194, e_192, e⟩ := Option.bind_eq_some_iff.mp e
  refine Rn.call hT rfl rfl rfl (Nat.le_of_ble_eq_true rfl) rfl (rX7_init (by omega) e_192 ?_)
  show Rn d _ _ 158 [some (.ref q0)] [.ref v_190, .ref q0] h_194 Q
  obtain ⟨h_195, e_196, e⟩ := Option.bind_eq_some_iff.mp e
  refine Rn.hp hT rfl rfl (pV_hp rfl e_196) ?_
  refine Rn.n hT 1 (pc' := 162) (L' := [some (.ref q0)]) (st' := [.ref q0]) rfl ?_
  obtain ⟨⟨v_199, h_197⟩, e_198, e⟩ := Option.bind_eq_some_iff.mp e
  try dsimp only at e
  refine Rn.hp hT rfl rfl (nO_hp e_198) ?_
  refine Rn.n hT 2 (pc' := 168) (L' := [some (.ref q0)]) (st' := [.int (8 : Int32), .ref v_199, .ref v_199, .ref q0]) rfl ?_
  obtain ⟨h_203, e_201, e⟩ := Option.bind_eq_some_iff.mp e
  refine Rn.call hT rfl rfl rfl (Nat.le_of_ble_eq_true rfl) rfl (rX7_init (by omega) e_201 ?_)
  show Rn d _ _ 171 [some (.ref q0)] [.ref v_199, .ref q0] h_203 Q
  obtain ⟨h_204, e_205, e⟩ := Option.bind_eq_some_iff.mp e
  refine Rn.hp hT rfl rfl (pV_hp rfl e_205) ?_
  obtain rfl := Option.some.inj e
  exact Rn.ret hT rfl rfl rfl hq
set_option maxRecDepth 10000 in
theorem hX3_init : iv_Tb 59 tX3_init := iv_tb_of (m := mX3_init) rfl
set_option maxRecDepth 10000 in
theorem gX3_init : PG.2 59 = some mX3_init := iv_pi_of (t := tX3_init) rfl (by decide)
def fX3_init (N : Nat) (h : iv_H) (q0 : Nat) : Option (iv_H) := ((pV h 3 0 q0 (.null)).bind fun h_207 => ((pV h_207 3 1 q0 (.null)).bind fun h_209 => ((pV h_209 3 2 q0 (.null)).bind fun h_211 => ((pV h_211 3 3 q0 (.int (0 : Int32))).bind fun h_213 => ((pV h_213 3 4 q0 (.int (0 : Int32))).bind fun h_215 => ((pV h_215 3 5 q0 (.int (0 : Int32))).bind fun h_217 => ((pV h_217 3 6 q0 (.int (0 : Int32))).bind fun h_219 => ((nA h_219 1 (64 : Int32)).bind fun p_224 => (fun (v_223 : Nat) (h_221 : iv_H) => ((pV h_221 3 7 q0 (.ref v_223)).bind fun h_225 => some h_225)) p_224.1 p_224.2))))))))
set_option maxRecDepth 10000 in
set_option maxHeartbeats 4000000 in
theorem rX3_init {d N : Nat} (hd : 1 ≤ d) {h : iv_H} {q0 : Nat} {r : iv_H} {Q : Option Value → iv_H → Prop} (e : fX3_init N h q0 = some r) (hq : Q none r) : Cl d 59 [.ref q0] h Q := by
  obtain ⟨d, rfl⟩ : ∃ k, d = k + 1 := ⟨d - 1, by omega⟩
  have hd : 0 ≤ d := by omega
  have hT := hX3_init
  unfold fX3_init at e
  refine Cl.into (by decide) gX3_init rfl ?_
  show Rn d 59 none 0 [some (.ref q0)] [] h Q
  refine Rn.n hT 1 (pc' := 1) (L' := [some (.ref q0)]) (st' := [.ref q0]) rfl ?_
  refine Rn.hp hT rfl rfl (st' := []) (h1 := h) rfl ?_
  refine Rn.n hT 2 (pc' := 6) (L' := [some (.ref q0)]) (st' := [.null, .ref q0]) rfl ?_
  obtain ⟨h_207, e_208, e⟩ := Option.bind_eq_some_iff.mp e
  refine Rn.hp hT rfl rfl (pV_hp rfl e_208) ?_
  refine Rn.n hT 2 (pc' := 11) (L' := [some (.ref q0)]) (st' := [.null, .ref q0]) rfl ?_
  obtain ⟨h_209, e_210, e⟩ := Option.bind_eq_some_iff.mp e
  refine Rn.hp hT rfl rfl (pV_hp rfl e_210) ?_
  refine Rn.n hT 2 (pc' := 16) (L' := [some (.ref q0)]) (st' := [.null, .ref q0]) rfl ?_
  obtain ⟨h_211, e_212, e⟩ := Option.bind_eq_some_iff.mp e
  refine Rn.hp hT rfl rfl (pV_hp rfl e_212) ?_
  refine Rn.n hT 2 (pc' := 21) (L' := [some (.ref q0)]) (st' := [.int (0 : Int32), .ref q0]) rfl ?_
  obtain ⟨h_213, e_214, e⟩ := Option.bind_eq_some_iff.mp e
  refine Rn.hp hT rfl rfl (pV_hp (by decide) e_214) ?_
  refine Rn.n hT 2 (pc' := 26) (L' := [some (.ref q0)]) (st' := [.int (0 : Int32), .ref q0]) rfl ?_
  obtain ⟨h_215, e_216, e⟩ := Option.bind_eq_some_iff.mp e
  refine Rn.hp hT rfl rfl (pV_hp rfl e_216) ?_
  refine Rn.n hT 2 (pc' := 31) (L' := [some (.ref q0)]) (st' := [.int (0 : Int32), .ref q0]) rfl ?_
  obtain ⟨h_217, e_218, e⟩ := Option.bind_eq_some_iff.mp e
  refine Rn.hp hT rfl rfl (pV_hp rfl e_218) ?_
  refine Rn.n hT 2 (pc' := 36) (L' := [some (.ref q0)]) (st' := [.int (0 : Int32), .ref q0]) rfl ?_
  obtain ⟨h_219, e_220, e⟩ := Option.bind_eq_some_iff.mp e
  refine Rn.hp hT rfl rfl (pV_hp rfl e_220) ?_
  refine Rn.n hT 2 (pc' := 42) (L' := [some (.ref q0)]) (st' := [.int (64 : Int32), .ref q0]) rfl ?_
  obtain ⟨⟨v_223, h_221⟩, e_222, e⟩ := Option.bind_eq_some_iff.mp e
  try dsimp only at e
  refine Rn.hp hT rfl rfl (nA_hp rfl e_222) ?_
  obtain ⟨h_225, e_226, e⟩ := Option.bind_eq_some_iff.mp e
  refine Rn.hp hT rfl rfl (pV_hp rfl e_226) ?_
  obtain rfl := Option.some.inj e
  exact Rn.ret hT rfl rfl rfl hq
set_option maxRecDepth 10000 in
theorem hX4_init : iv_Tb 68 tX4_init := iv_tb_of (m := mX4_init) rfl
set_option maxRecDepth 10000 in
theorem gX4_init : PG.2 68 = some mX4_init := iv_pi_of (t := tX4_init) rfl (by decide)
def fX4_init (N : Nat) (h : iv_H) (q0 : Nat) : Option (iv_H) := ((nO h 1).bind fun p_231 => (fun (v_230 : Nat) (h_228 : iv_H) => ((fX1_init N h_228 v_230).bind fun h_234 => ((pV h_234 4 0 q0 (.ref v_230)).bind fun h_235 => ((pV h_235 4 1 q0 (.int (0 : Int32))).bind fun h_237 => ((pV h_237 4 2 q0 (.int (0 : Int32))).bind fun h_239 => ((pV h_239 4 3 q0 (.int (0 : Int32))).bind fun h_241 => ((nA h_241 0 (6 : Int32)).bind fun p_246 => (fun (v_245 : Nat) (h_243 : iv_H) => ((pV h_243 4 4 q0 (.ref v_245)).bind fun h_247 => ((nA h_247 0 (64 : Int32)).bind fun p_252 => (fun (v_251 : Nat) (h_249 : iv_H) => ((pV h_249 4 5 q0 (.ref v_251)).bind fun h_253 => some h_253)) p_252.1 p_252.2))) p_246.1 p_246.2))))))) p_231.1 p_231.2)
set_option maxRecDepth 10000 in
set_option maxHeartbeats 4000000 in
theorem rX4_init {d N : Nat} (hd : 3 ≤ d) {h : iv_H} {q0 : Nat} {r : iv_H} {Q : Option Value → iv_H → Prop} (e : fX4_init N h q0 = some r) (hq : Q none r) : Cl d 68 [.ref q0] h Q := by
  obtain ⟨d, rfl⟩ : ∃ k, d = k + 1 := ⟨d - 1, by omega⟩
  have hd : 2 ≤ d := by omega
  have hT := hX4_init
  unfold fX4_init at e
  refine Cl.into (by decide) gX4_init rfl ?_
  show Rn d 68 none 0 [some (.ref q0)] [] h Q
  refine Rn.n hT 1 (pc' := 1) (L' := [some (.ref q0)]) (st' := [.ref q0]) rfl ?_
  refine Rn.hp hT rfl rfl (st' := []) (h1 := h) rfl ?_
  refine Rn.n hT 1 (pc' := 5) (L' := [some (.ref q0)]) (st' := [.ref q0]) rfl ?_
  obtain ⟨⟨v_230, h_228⟩, e_229, e⟩ := Option.bind_eq_some_iff.mp e
  try dsimp only at e
  refine Rn.hp hT rfl rfl (nO_hp e_229) ?_
  refine Rn.n hT 1 (pc' := 9) (L' := [some (.ref q0)]) (st' := [.ref v_230, .ref v_230, .ref q0]) rfl ?_
  obtain ⟨h_234, e_232, e⟩ := Option.bind_eq_some_iff.mp e
  refine Rn.call hT rfl rfl rfl (Nat.le_of_ble_eq_true rfl) rfl (rX1_init (by omega) e_232 ?_)
  show Rn d _ _ 12 [some (.ref q0)] [.ref v_230, .ref q0] h_234 Q
  obtain ⟨h_235, e_236, e⟩ := Option.bind_eq_some_iff.mp e
  refine Rn.hp hT rfl rfl (pV_hp rfl e_236) ?_
  refine Rn.n hT 2 (pc' := 17) (L' := [some (.ref q0)]) (st' := [.int (0 : Int32), .ref q0]) rfl ?_
  obtain ⟨h_237, e_238, e⟩ := Option.bind_eq_some_iff.mp e
  refine Rn.hp hT rfl rfl (pV_hp rfl e_238) ?_
  refine Rn.n hT 2 (pc' := 22) (L' := [some (.ref q0)]) (st' := [.int (0 : Int32), .ref q0]) rfl ?_
  obtain ⟨h_239, e_240, e⟩ := Option.bind_eq_some_iff.mp e
  refine Rn.hp hT rfl rfl (pV_hp rfl e_240) ?_
  refine Rn.n hT 2 (pc' := 27) (L' := [some (.ref q0)]) (st' := [.int (0 : Int32), .ref q0]) rfl ?_
  obtain ⟨h_241, e_242, e⟩ := Option.bind_eq_some_iff.mp e
  refine Rn.hp hT rfl rfl (pV_hp (by decide) e_242) ?_
  refine Rn.n hT 2 (pc' := 33) (L' := [some (.ref q0)]) (st' := [.int (6 : Int32), .ref q0]) rfl ?_
  obtain ⟨⟨v_245, h_243⟩, e_244, e⟩ := Option.bind_eq_some_iff.mp e
  try dsimp only at e
  refine Rn.hp hT rfl rfl (nA_hp rfl e_244) ?_
  obtain ⟨h_247, e_248, e⟩ := Option.bind_eq_some_iff.mp e
  refine Rn.hp hT rfl rfl (pV_hp rfl e_248) ?_
  refine Rn.n hT 2 (pc' := 41) (L' := [some (.ref q0)]) (st' := [.int (64 : Int32), .ref q0]) rfl ?_
  obtain ⟨⟨v_251, h_249⟩, e_250, e⟩ := Option.bind_eq_some_iff.mp e
  try dsimp only at e
  refine Rn.hp hT rfl rfl (nA_hp rfl e_250) ?_
  obtain ⟨h_253, e_254, e⟩ := Option.bind_eq_some_iff.mp e
  refine Rn.hp hT rfl rfl (pV_hp rfl e_254) ?_
  obtain rfl := Option.some.inj e
  exact Rn.ret hT rfl rfl rfl hq
set_option maxRecDepth 10000 in
theorem hX6_init : iv_Tb 85 tX6_init := iv_tb_of (m := mX6_init) rfl
set_option maxRecDepth 10000 in
theorem gX6_init : PG.2 85 = some mX6_init := iv_pi_of (t := tX6_init) rfl (by decide)
def fX6_init (N : Nat) (h : iv_H) (q0 : Nat) : Option (iv_H) := ((nA h 2 (0 : Int32)).bind fun p_259 => (fun (v_258 : Nat) (h_256 : iv_H) => ((pV h_256 6 0 q0 (.ref v_258)).bind fun h_260 => ((pV h_260 6 1 q0 (.int (0 : Int32))).bind fun h_262 => ((pV h_262 6 2 q0 (.int (0 : Int32))).bind fun h_264 => ((pV h_264 6 3 q0 (.int (0 : Int32))).bind fun h_266 => ((pV h_266 6 4 q0 (.int (0 : Int32))).bind fun h_268 => some h_268)))))) p_259.1 p_259.2)
set_option maxRecDepth 10000 in
set_option maxHeartbeats 4000000 in
theorem rX6_init {d N : Nat} (hd : 1 ≤ d) {h : iv_H} {q0 : Nat} {r : iv_H} {Q : Option Value → iv_H → Prop} (e : fX6_init N h q0 = some r) (hq : Q none r) : Cl d 85 [.ref q0] h Q := by
  obtain ⟨d, rfl⟩ : ∃ k, d = k + 1 := ⟨d - 1, by omega⟩
  have hd : 0 ≤ d := by omega
  have hT := hX6_init
  unfold fX6_init at e
  refine Cl.into (by decide) gX6_init rfl ?_
  show Rn d 85 none 0 [some (.ref q0)] [] h Q
  refine Rn.n hT 1 (pc' := 1) (L' := [some (.ref q0)]) (st' := [.ref q0]) rfl ?_
  refine Rn.hp hT rfl rfl (st' := []) (h1 := h) rfl ?_
  refine Rn.n hT 2 (pc' := 6) (L' := [some (.ref q0)]) (st' := [.int (0 : Int32), .ref q0]) rfl ?_
  obtain ⟨⟨v_258, h_256⟩, e_257, e⟩ := Option.bind_eq_some_iff.mp e
  try dsimp only at e
  refine Rn.hp hT rfl rfl (nA_hp rfl e_257) ?_
  obtain ⟨h_260, e_261, e⟩ := Option.bind_eq_some_iff.mp e
  refine Rn.hp hT rfl rfl (pV_hp rfl e_261) ?_
  refine Rn.n hT 2 (pc' := 13) (L' := [some (.ref q0)]) (st' := [.int (0 : Int32), .ref q0]) rfl ?_
  obtain ⟨h_262, e_263, e⟩ := Option.bind_eq_some_iff.mp e
  refine Rn.hp hT rfl rfl (pV_hp rfl e_263) ?_
  refine Rn.n hT 2 (pc' := 18) (L' := [some (.ref q0)]) (st' := [.int (0 : Int32), .ref q0]) rfl ?_
  obtain ⟨h_264, e_265, e⟩ := Option.bind_eq_some_iff.mp e
  refine Rn.hp hT rfl rfl (pV_hp rfl e_265) ?_
  refine Rn.n hT 2 (pc' := 23) (L' := [some (.ref q0)]) (st' := [.int (0 : Int32), .ref q0]) rfl ?_
  obtain ⟨h_266, e_267, e⟩ := Option.bind_eq_some_iff.mp e
  refine Rn.hp hT rfl rfl (pV_hp rfl e_267) ?_
  refine Rn.n hT 2 (pc' := 28) (L' := [some (.ref q0)]) (st' := [.int (0 : Int32), .ref q0]) rfl ?_
  obtain ⟨h_268, e_269, e⟩ := Option.bind_eq_some_iff.mp e
  refine Rn.hp hT rfl rfl (pV_hp rfl e_269) ?_
  obtain rfl := Option.some.inj e
  exact Rn.ret hT rfl rfl rfl hq
set_option maxRecDepth 10000 in
theorem hX5_init : iv_Tb 74 tX5_init := iv_tb_of (m := mX5_init) rfl
set_option maxRecDepth 10000 in
theorem gX5_init : PG.2 74 = some mX5_init := iv_pi_of (t := tX5_init) rfl (by decide)
def fX5_init (N : Nat) (h : iv_H) (q0 : Nat) : Option (iv_H) := ((nO h 6).bind fun p_274 => (fun (v_273 : Nat) (h_271 : iv_H) => ((fX6_init N h_271 v_273).bind fun h_277 => ((pV h_277 5 0 q0 (.ref v_273)).bind fun h_278 => ((pV h_278 5 1 q0 (.int (0 : Int32))).bind fun h_280 => some h_280)))) p_274.1 p_274.2)
set_option maxRecDepth 10000 in
set_option maxHeartbeats 4000000 in
theorem rX5_init {d N : Nat} (hd : 2 ≤ d) {h : iv_H} {q0 : Nat} {r : iv_H} {Q : Option Value → iv_H → Prop} (e : fX5_init N h q0 = some r) (hq : Q none r) : Cl d 74 [.ref q0] h Q := by
  obtain ⟨d, rfl⟩ : ∃ k, d = k + 1 := ⟨d - 1, by omega⟩
  have hd : 1 ≤ d := by omega
  have hT := hX5_init
  unfold fX5_init at e
  refine Cl.into (by decide) gX5_init rfl ?_
  show Rn d 74 none 0 [some (.ref q0)] [] h Q
  refine Rn.n hT 1 (pc' := 1) (L' := [some (.ref q0)]) (st' := [.ref q0]) rfl ?_
  refine Rn.hp hT rfl rfl (st' := []) (h1 := h) rfl ?_
  refine Rn.n hT 1 (pc' := 5) (L' := [some (.ref q0)]) (st' := [.ref q0]) rfl ?_
  obtain ⟨⟨v_273, h_271⟩, e_272, e⟩ := Option.bind_eq_some_iff.mp e
  try dsimp only at e
  refine Rn.hp hT rfl rfl (nO_hp e_272) ?_
  refine Rn.n hT 1 (pc' := 9) (L' := [some (.ref q0)]) (st' := [.ref v_273, .ref v_273, .ref q0]) rfl ?_
  obtain ⟨h_277, e_275, e⟩ := Option.bind_eq_some_iff.mp e
  refine Rn.call hT rfl rfl rfl (Nat.le_of_ble_eq_true rfl) rfl (rX6_init (by omega) e_275 ?_)
  show Rn d _ _ 12 [some (.ref q0)] [.ref v_273, .ref q0] h_277 Q
  obtain ⟨h_278, e_279, e⟩ := Option.bind_eq_some_iff.mp e
  refine Rn.hp hT rfl rfl (pV_hp rfl e_279) ?_
  refine Rn.n hT 2 (pc' := 17) (L' := [some (.ref q0)]) (st' := [.int (0 : Int32), .ref q0]) rfl ?_
  obtain ⟨h_280, e_281, e⟩ := Option.bind_eq_some_iff.mp e
  refine Rn.hp hT rfl rfl (pV_hp (by decide) e_281) ?_
  obtain rfl := Option.some.inj e
  exact Rn.ret hT rfl rfl rfl hq
set_option maxRecDepth 10000 in
theorem hX8_init : iv_Tb 99 tX8_init := iv_tb_of (m := mX8_init) rfl
set_option maxRecDepth 10000 in
theorem gX8_init : PG.2 99 = some mX8_init := iv_pi_of (t := tX8_init) rfl (by decide)
def fX8_init (N : Nat) (h : iv_H) (q0 : Nat) : Option (iv_H) := ((nO h 6).bind fun p_286 => (fun (v_285 : Nat) (h_283 : iv_H) => ((fX6_init N h_283 v_285).bind fun h_289 => ((pV h_289 8 0 q0 (.ref v_285)).bind fun h_290 => ((nA h_290 0 (401 : Int32)).bind fun p_295 => (fun (v_294 : Nat) (h_292 : iv_H) => ((pV h_292 8 1 q0 (.ref v_294)).bind fun h_296 => ((pV h_296 8 2 q0 (.int (0 : Int32))).bind fun h_298 => ((nA h_298 0 (64 : Int32)).bind fun p_303 => (fun (v_302 : Nat) (h_300 : iv_H) => ((pV h_300 8 3 q0 (.ref v_302)).bind fun h_304 => ((pV h_304 8 4 q0 (.int (0 : Int32))).bind fun h_306 => ((pV h_306 8 5 q0 (.int (0 : Int32))).bind fun h_308 => ((pV h_308 8 6 q0 (.int (0 : Int32))).bind fun h_310 => ((pV h_310 8 7 q0 (.int (0 : Int32))).bind fun h_312 => ((pV h_312 8 8 q0 (.int (0 : Int32))).bind fun h_314 => ((pV h_314 8 9 q0 (.int (0 : Int32))).bind fun h_316 => ((pV h_316 8 10 q0 (.int (0 : Int32))).bind fun h_318 => some h_318))))))))) p_303.1 p_303.2)))) p_295.1 p_295.2)))) p_286.1 p_286.2)
set_option maxRecDepth 10000 in
set_option maxHeartbeats 4000000 in
theorem rX8_init {d N : Nat} (hd : 2 ≤ d) {h : iv_H} {q0 : Nat} {r : iv_H} {Q : Option Value → iv_H → Prop} (e : fX8_init N h q0 = some r) (hq : Q none r) : Cl d 99 [.ref q0] h Q := by
  obtain ⟨d, rfl⟩ : ∃ k, d = k + 1 := ⟨d - 1, by omega⟩
  have hd : 1 ≤ d := by omega
  have hT := hX8_init
  unfold fX8_init at e
  refine Cl.into (by decide) gX8_init rfl ?_
  show Rn d 99 none 0 [some (.ref q0)] [] h Q
  refine Rn.n hT 1 (pc' := 1) (L' := [some (.ref q0)]) (st' := [.ref q0]) rfl ?_
  refine Rn.hp hT rfl rfl (st' := []) (h1 := h) rfl ?_
  refine Rn.n hT 1 (pc' := 5) (L' := [some (.ref q0)]) (st' := [.ref q0]) rfl ?_
  obtain ⟨⟨v_285, h_283⟩, e_284, e⟩ := Option.bind_eq_some_iff.mp e
  try dsimp only at e
  refine Rn.hp hT rfl rfl (nO_hp e_284) ?_
  refine Rn.n hT 1 (pc' := 9) (L' := [some (.ref q0)]) (st' := [.ref v_285, .ref v_285, .ref q0]) rfl ?_
  obtain ⟨h_289, e_287, e⟩ := Option.bind_eq_some_iff.mp e
  refine Rn.call hT rfl rfl rfl (Nat.le_of_ble_eq_true rfl) rfl (rX6_init (by omega) e_287 ?_)
  show Rn d _ _ 12 [some (.ref q0)] [.ref v_285, .ref q0] h_289 Q
  obtain ⟨h_290, e_291, e⟩ := Option.bind_eq_some_iff.mp e
  refine Rn.hp hT rfl rfl (pV_hp rfl e_291) ?_
  refine Rn.n hT 2 (pc' := 19) (L' := [some (.ref q0)]) (st' := [.int (401 : Int32), .ref q0]) rfl ?_
  obtain ⟨⟨v_294, h_292⟩, e_293, e⟩ := Option.bind_eq_some_iff.mp e
  try dsimp only at e
  refine Rn.hp hT rfl rfl (nA_hp rfl e_293) ?_
  obtain ⟨h_296, e_297, e⟩ := Option.bind_eq_some_iff.mp e
  refine Rn.hp hT rfl rfl (pV_hp rfl e_297) ?_
  refine Rn.n hT 2 (pc' := 26) (L' := [some (.ref q0)]) (st' := [.int (0 : Int32), .ref q0]) rfl ?_
  obtain ⟨h_298, e_299, e⟩ := Option.bind_eq_some_iff.mp e
  refine Rn.hp hT rfl rfl (pV_hp rfl e_299) ?_
  refine Rn.n hT 2 (pc' := 32) (L' := [some (.ref q0)]) (st' := [.int (64 : Int32), .ref q0]) rfl ?_
  obtain ⟨⟨v_302, h_300⟩, e_301, e⟩ := Option.bind_eq_some_iff.mp e
  try dsimp only at e
  refine Rn.hp hT rfl rfl (nA_hp rfl e_301) ?_
  obtain ⟨h_304, e_305, e⟩ := Option.bind_eq_some_iff.mp e
  refine Rn.hp hT rfl rfl (pV_hp rfl e_305) ?_
  refine Rn.n hT 2 (pc' := 39) (L' := [some (.ref q0)]) (st' := [.int (0 : Int32), .ref q0]) rfl ?_
  obtain ⟨h_306, e_307, e⟩ := Option.bind_eq_some_iff.mp e
  refine Rn.hp hT rfl rfl (pV_hp rfl e_307) ?_
  refine Rn.n hT 2 (pc' := 44) (L' := [some (.ref q0)]) (st' := [.int (0 : Int32), .ref q0]) rfl ?_
  obtain ⟨h_308, e_309, e⟩ := Option.bind_eq_some_iff.mp e
  refine Rn.hp hT rfl rfl (pV_hp rfl e_309) ?_
  refine Rn.n hT 2 (pc' := 49) (L' := [some (.ref q0)]) (st' := [.int (0 : Int32), .ref q0]) rfl ?_
  obtain ⟨h_310, e_311, e⟩ := Option.bind_eq_some_iff.mp e
  refine Rn.hp hT rfl rfl (pV_hp (by decide) e_311) ?_
  refine Rn.n hT 2 (pc' := 54) (L' := [some (.ref q0)]) (st' := [.int (0 : Int32), .ref q0]) rfl ?_
  obtain ⟨h_312, e_313, e⟩ := Option.bind_eq_some_iff.mp e
  refine Rn.hp hT rfl rfl (pV_hp rfl e_313) ?_
  refine Rn.n hT 2 (pc' := 59) (L' := [some (.ref q0)]) (st' := [.int (0 : Int32), .ref q0]) rfl ?_
  obtain ⟨h_314, e_315, e⟩ := Option.bind_eq_some_iff.mp e
  refine Rn.hp hT rfl rfl (pV_hp rfl e_315) ?_
  refine Rn.n hT 2 (pc' := 64) (L' := [some (.ref q0)]) (st' := [.int (0 : Int32), .ref q0]) rfl ?_
  obtain ⟨h_316, e_317, e⟩ := Option.bind_eq_some_iff.mp e
  refine Rn.hp hT rfl rfl (pV_hp rfl e_317) ?_
  refine Rn.n hT 2 (pc' := 69) (L' := [some (.ref q0)]) (st' := [.int (0 : Int32), .ref q0]) rfl ?_
  obtain ⟨h_318, e_319, e⟩ := Option.bind_eq_some_iff.mp e
  refine Rn.hp hT rfl rfl (pV_hp rfl e_319) ?_
  obtain rfl := Option.some.inj e
  exact Rn.ret hT rfl rfl rfl hq
set_option maxRecDepth 10000 in
theorem hX9_init : iv_Tb 116 tX9_init := iv_tb_of (m := mX9_init) rfl
set_option maxRecDepth 10000 in
theorem gX9_init : PG.2 116 = some mX9_init := iv_pi_of (t := tX9_init) rfl (by decide)
def fX9_init (N : Nat) (h : iv_H) (q0 : Nat) : Option (iv_H) := ((nA h 1 (1500 : Int32)).bind fun p_324 => (fun (v_323 : Nat) (h_321 : iv_H) => ((pV h_321 9 0 q0 (.ref v_323)).bind fun h_325 => ((nA h_325 0 (1500 : Int32)).bind fun p_330 => (fun (v_329 : Nat) (h_327 : iv_H) => ((pV h_327 9 1 q0 (.ref v_329)).bind fun h_331 => ((nA h_331 0 (1500 : Int32)).bind fun p_336 => (fun (v_335 : Nat) (h_333 : iv_H) => ((pV h_333 9 2 q0 (.ref v_335)).bind fun h_337 => ((nA h_337 0 (1500 : Int32)).bind fun p_342 => (fun (v_341 : Nat) (h_339 : iv_H) => ((pV h_339 9 3 q0 (.ref v_341)).bind fun h_343 => ((pV h_343 9 4 q0 (.int (0 : Int32))).bind fun h_345 => ((nA h_345 0 (4096 : Int32)).bind fun p_350 => (fun (v_349 : Nat) (h_347 : iv_H) => ((pV h_347 9 5 q0 (.ref v_349)).bind fun h_351 => ((nA h_351 0 (126 : Int32)).bind fun p_356 => (fun (v_355 : Nat) (h_353 : iv_H) => ((pV h_353 9 6 q0 (.ref v_355)).bind fun h_357 => ((nO h_357 1).bind fun p_362 => (fun (v_361 : Nat) (h_359 : iv_H) => ((fX1_init N h_359 v_361).bind fun h_365 => ((pV h_365 9 7 q0 (.ref v_361)).bind fun h_366 => ((nO h_366 3).bind fun p_371 => (fun (v_370 : Nat) (h_368 : iv_H) => ((fX3_init N h_368 v_370).bind fun h_374 => ((pV h_374 9 8 q0 (.ref v_370)).bind fun h_375 => ((pV h_375 9 9 q0 (.int (-1 : Int32))).bind fun h_377 => ((pV h_377 9 10 q0 (.int (-1 : Int32))).bind fun h_379 => ((pV h_379 9 11 q0 (.int (0 : Int32))).bind fun h_381 => ((nA h_381 0 (1500 : Int32)).bind fun p_386 => (fun (v_385 : Nat) (h_383 : iv_H) => ((pV h_383 9 12 q0 (.ref v_385)).bind fun h_387 => some h_387)) p_386.1 p_386.2))))))) p_371.1 p_371.2)))) p_362.1 p_362.2))) p_356.1 p_356.2))) p_350.1 p_350.2)))) p_342.1 p_342.2))) p_336.1 p_336.2))) p_330.1 p_330.2))) p_324.1 p_324.2)
set_option maxRecDepth 10000 in
set_option maxHeartbeats 4000000 in
theorem rX9_init {d N : Nat} (hd : 3 ≤ d) {h : iv_H} {q0 : Nat} {r : iv_H} {Q : Option Value → iv_H → Prop} (e : fX9_init N h q0 = some r) (hq : Q none r) : Cl d 116 [.ref q0] h Q := by
  obtain ⟨d, rfl⟩ : ∃ k, d = k + 1 := ⟨d - 1, by omega⟩
  have hd : 2 ≤ d := by omega
  have hT := hX9_init
  unfold fX9_init at e
  refine Cl.into (by decide) gX9_init rfl ?_
  show Rn d 116 none 0 [some (.ref q0)] [] h Q
  refine Rn.n hT 1 (pc' := 1) (L' := [some (.ref q0)]) (st' := [.ref q0]) rfl ?_
  refine Rn.hp hT rfl rfl (st' := []) (h1 := h) rfl ?_
  refine Rn.n hT 2 (pc' := 8) (L' := [some (.ref q0)]) (st' := [.int (1500 : Int32), .ref q0]) rfl ?_
  obtain ⟨⟨v_323, h_321⟩, e_322, e⟩ := Option.bind_eq_some_iff.mp e
  try dsimp only at e
  refine Rn.hp hT rfl rfl (nA_hp rfl e_322) ?_
  obtain ⟨h_325, e_326, e⟩ := Option.bind_eq_some_iff.mp e
  refine Rn.hp hT rfl rfl (pV_hp rfl e_326) ?_
  refine Rn.n hT 2 (pc' := 17) (L' := [some (.ref q0)]) (st' := [.int (1500 : Int32), .ref q0]) rfl ?_
  obtain ⟨⟨v_329, h_327⟩, e_328, e⟩ := Option.bind_eq_some_iff.mp e
  try dsimp only at e
  refine Rn.hp hT rfl rfl (nA_hp rfl e_328) ?_
  obtain ⟨h_331, e_332, e⟩ := Option.bind_eq_some_iff.mp e
  refine Rn.hp hT rfl rfl (pV_hp rfl e_332) ?_
  refine Rn.n hT 2 (pc' := 26) (L' := [some (.ref q0)]) (st' := [.int (1500 : Int32), .ref q0]) rfl ?_
  obtain ⟨⟨v_335, h_333⟩, e_334, e⟩ := Option.bind_eq_some_iff.mp e
  try dsimp only at e
  refine Rn.hp hT rfl rfl (nA_hp rfl e_334) ?_
  obtain ⟨h_337, e_338, e⟩ := Option.bind_eq_some_iff.mp e
  refine Rn.hp hT rfl rfl (pV_hp rfl e_338) ?_
  refine Rn.n hT 2 (pc' := 35) (L' := [some (.ref q0)]) (st' := [.int (1500 : Int32), .ref q0]) rfl ?_
  obtain ⟨⟨v_341, h_339⟩, e_340, e⟩ := Option.bind_eq_some_iff.mp e
  try dsimp only at e
  refine Rn.hp hT rfl rfl (nA_hp rfl e_340) ?_
  obtain ⟨h_343, e_344, e⟩ := Option.bind_eq_some_iff.mp e
  refine Rn.hp hT rfl rfl (pV_hp rfl e_344) ?_
  refine Rn.n hT 2 (pc' := 42) (L' := [some (.ref q0)]) (st' := [.int (0 : Int32), .ref q0]) rfl ?_
  obtain ⟨h_345, e_346, e⟩ := Option.bind_eq_some_iff.mp e
  refine Rn.hp hT rfl rfl (pV_hp rfl e_346) ?_
  refine Rn.n hT 2 (pc' := 49) (L' := [some (.ref q0)]) (st' := [.int (4096 : Int32), .ref q0]) rfl ?_
  obtain ⟨⟨v_349, h_347⟩, e_348, e⟩ := Option.bind_eq_some_iff.mp e
  try dsimp only at e
  refine Rn.hp hT rfl rfl (nA_hp rfl e_348) ?_
  obtain ⟨h_351, e_352, e⟩ := Option.bind_eq_some_iff.mp e
  refine Rn.hp hT rfl rfl (pV_hp rfl e_352) ?_
  refine Rn.n hT 2 (pc' := 57) (L' := [some (.ref q0)]) (st' := [.int (126 : Int32), .ref q0]) rfl ?_
  obtain ⟨⟨v_355, h_353⟩, e_354, e⟩ := Option.bind_eq_some_iff.mp e
  try dsimp only at e
  refine Rn.hp hT rfl rfl (nA_hp rfl e_354) ?_
  obtain ⟨h_357, e_358, e⟩ := Option.bind_eq_some_iff.mp e
  refine Rn.hp hT rfl rfl (pV_hp rfl e_358) ?_
  refine Rn.n hT 1 (pc' := 63) (L' := [some (.ref q0)]) (st' := [.ref q0]) rfl ?_
  obtain ⟨⟨v_361, h_359⟩, e_360, e⟩ := Option.bind_eq_some_iff.mp e
  try dsimp only at e
  refine Rn.hp hT rfl rfl (nO_hp e_360) ?_
  refine Rn.n hT 1 (pc' := 67) (L' := [some (.ref q0)]) (st' := [.ref v_361, .ref v_361, .ref q0]) rfl ?_
  obtain ⟨h_365, e_363, e⟩ := Option.bind_eq_some_iff.mp e
  refine Rn.call hT rfl rfl rfl (Nat.le_of_ble_eq_true rfl) rfl (rX1_init (by omega) e_363 ?_)
  show Rn d _ _ 70 [some (.ref q0)] [.ref v_361, .ref q0] h_365 Q
  obtain ⟨h_366, e_367, e⟩ := Option.bind_eq_some_iff.mp e
  refine Rn.hp hT rfl rfl (pV_hp rfl e_367) ?_
  refine Rn.n hT 1 (pc' := 74) (L' := [some (.ref q0)]) (st' := [.ref q0]) rfl ?_
  obtain ⟨⟨v_370, h_368⟩, e_369, e⟩ := Option.bind_eq_some_iff.mp e
  try dsimp only at e
  refine Rn.hp hT rfl rfl (nO_hp e_369) ?_
  refine Rn.n hT 1 (pc' := 78) (L' := [some (.ref q0)]) (st' := [.ref v_370, .ref v_370, .ref q0]) rfl ?_
  obtain ⟨h_374, e_372, e⟩ := Option.bind_eq_some_iff.mp e
  refine Rn.call hT rfl rfl rfl (Nat.le_of_ble_eq_true rfl) rfl (rX3_init (by omega) e_372 ?_)
  show Rn d _ _ 81 [some (.ref q0)] [.ref v_370, .ref q0] h_374 Q
  obtain ⟨h_375, e_376, e⟩ := Option.bind_eq_some_iff.mp e
  refine Rn.hp hT rfl rfl (pV_hp rfl e_376) ?_
  refine Rn.n hT 2 (pc' := 86) (L' := [some (.ref q0)]) (st' := [.int (-1 : Int32), .ref q0]) rfl ?_
  obtain ⟨h_377, e_378, e⟩ := Option.bind_eq_some_iff.mp e
  refine Rn.hp hT rfl rfl (pV_hp rfl e_378) ?_
  refine Rn.n hT 2 (pc' := 91) (L' := [some (.ref q0)]) (st' := [.int (-1 : Int32), .ref q0]) rfl ?_
  obtain ⟨h_379, e_380, e⟩ := Option.bind_eq_some_iff.mp e
  refine Rn.hp hT rfl rfl (pV_hp rfl e_380) ?_
  refine Rn.n hT 2 (pc' := 96) (L' := [some (.ref q0)]) (st' := [.int (0 : Int32), .ref q0]) rfl ?_
  obtain ⟨h_381, e_382, e⟩ := Option.bind_eq_some_iff.mp e
  refine Rn.hp hT rfl rfl (pV_hp rfl e_382) ?_
  refine Rn.n hT 2 (pc' := 103) (L' := [some (.ref q0)]) (st' := [.int (1500 : Int32), .ref q0]) rfl ?_
  obtain ⟨⟨v_385, h_383⟩, e_384, e⟩ := Option.bind_eq_some_iff.mp e
  try dsimp only at e
  refine Rn.hp hT rfl rfl (nA_hp rfl e_384) ?_
  obtain ⟨h_387, e_388, e⟩ := Option.bind_eq_some_iff.mp e
  refine Rn.hp hT rfl rfl (pV_hp rfl e_388) ?_
  obtain rfl := Option.some.inj e
  exact Rn.ret hT rfl rfl rfl hq
set_option maxRecDepth 10000 in
theorem hX10_init : iv_Tb 124 tX10_init := iv_tb_of (m := mX10_init) rfl
set_option maxRecDepth 10000 in
theorem gX10_init : PG.2 124 = some mX10_init := iv_pi_of (t := tX10_init) rfl (by decide)
def fX10_init (N : Nat) (h : iv_H) (q0 : Nat) : Option (iv_H) := ((nO h 1).bind fun p_393 => (fun (v_392 : Nat) (h_390 : iv_H) => ((fX1_init N h_390 v_392).bind fun h_396 => ((pV h_396 10 0 q0 (.ref v_392)).bind fun h_397 => ((nO h_397 3).bind fun p_402 => (fun (v_401 : Nat) (h_399 : iv_H) => ((fX3_init N h_399 v_401).bind fun h_405 => ((pV h_405 10 1 q0 (.ref v_401)).bind fun h_406 => ((pV h_406 10 2 q0 (.int (0 : Int32))).bind fun h_408 => ((nM h_408 (3 : Int32) (126 : Int32)).bind fun p_413 => (fun (v_412 : Nat) (h_410 : iv_H) => ((pV h_410 10 3 q0 (.ref v_412)).bind fun h_414 => ((nA h_414 0 (3 : Int32)).bind fun p_419 => (fun (v_418 : Nat) (h_416 : iv_H) => ((pV h_416 10 4 q0 (.ref v_418)).bind fun h_420 => ((nA h_420 0 (3 : Int32)).bind fun p_425 => (fun (v_424 : Nat) (h_422 : iv_H) => ((pV h_422 10 5 q0 (.ref v_424)).bind fun h_426 => ((nA h_426 0 (4 : Int32)).bind fun p_431 => (fun (v_430 : Nat) (h_428 : iv_H) => ((pV h_428 10 6 q0 (.ref v_430)).bind fun h_432 => ((pV h_432 10 7 q0 (.int (-1 : Int32))).bind fun h_434 => ((pV h_434 10 8 q0 (.int (-1 : Int32))).bind fun h_436 => ((pV h_436 10 9 q0 (.int (0 : Int32))).bind fun h_438 => ((pV h_438 10 10 q0 (.int (0 : Int32))).bind fun h_440 => ((pV h_440 10 11 q0 (.int (0 : Int32))).bind fun h_442 => some h_442))))))) p_431.1 p_431.2))) p_425.1 p_425.2))) p_419.1 p_419.2))) p_413.1 p_413.2))))) p_402.1 p_402.2)))) p_393.1 p_393.2)
set_option maxRecDepth 10000 in
set_option maxHeartbeats 4000000 in
theorem rX10_init {d N : Nat} (hd : 3 ≤ d) {h : iv_H} {q0 : Nat} {r : iv_H} {Q : Option Value → iv_H → Prop} (e : fX10_init N h q0 = some r) (hq : Q none r) : Cl d 124 [.ref q0] h Q := by
  obtain ⟨d, rfl⟩ : ∃ k, d = k + 1 := ⟨d - 1, by omega⟩
  have hd : 2 ≤ d := by omega
  have hT := hX10_init
  unfold fX10_init at e
  refine Cl.into (by decide) gX10_init rfl ?_
  show Rn d 124 none 0 [some (.ref q0)] [] h Q
  refine Rn.n hT 1 (pc' := 1) (L' := [some (.ref q0)]) (st' := [.ref q0]) rfl ?_
  refine Rn.hp hT rfl rfl (st' := []) (h1 := h) rfl ?_
  refine Rn.n hT 1 (pc' := 5) (L' := [some (.ref q0)]) (st' := [.ref q0]) rfl ?_
  obtain ⟨⟨v_392, h_390⟩, e_391, e⟩ := Option.bind_eq_some_iff.mp e
  try dsimp only at e
  refine Rn.hp hT rfl rfl (nO_hp e_391) ?_
  refine Rn.n hT 1 (pc' := 9) (L' := [some (.ref q0)]) (st' := [.ref v_392, .ref v_392, .ref q0]) rfl ?_
  obtain ⟨h_396, e_394, e⟩ := Option.bind_eq_some_iff.mp e
  refine Rn.call hT rfl rfl rfl (Nat.le_of_ble_eq_true rfl) rfl (rX1_init (by omega) e_394 ?_)
  show Rn d _ _ 12 [some (.ref q0)] [.ref v_392, .ref q0] h_396 Q
  obtain ⟨h_397, e_398, e⟩ := Option.bind_eq_some_iff.mp e
  refine Rn.hp hT rfl rfl (pV_hp rfl e_398) ?_
  refine Rn.n hT 1 (pc' := 16) (L' := [some (.ref q0)]) (st' := [.ref q0]) rfl ?_
  obtain ⟨⟨v_401, h_399⟩, e_400, e⟩ := Option.bind_eq_some_iff.mp e
  try dsimp only at e
  refine Rn.hp hT rfl rfl (nO_hp e_400) ?_
  refine Rn.n hT 1 (pc' := 20) (L' := [some (.ref q0)]) (st' := [.ref v_401, .ref v_401, .ref q0]) rfl ?_
  obtain ⟨h_405, e_403, e⟩ := Option.bind_eq_some_iff.mp e
  refine Rn.call hT rfl rfl rfl (Nat.le_of_ble_eq_true rfl) rfl (rX3_init (by omega) e_403 ?_)
  show Rn d _ _ 23 [some (.ref q0)] [.ref v_401, .ref q0] h_405 Q
  obtain ⟨h_406, e_407, e⟩ := Option.bind_eq_some_iff.mp e
  refine Rn.hp hT rfl rfl (pV_hp rfl e_407) ?_
  refine Rn.n hT 2 (pc' := 28) (L' := [some (.ref q0)]) (st' := [.int (0 : Int32), .ref q0]) rfl ?_
  obtain ⟨h_408, e_409, e⟩ := Option.bind_eq_some_iff.mp e
  refine Rn.hp hT rfl rfl (pV_hp rfl e_409) ?_
  refine Rn.n hT 3 (pc' := 35) (L' := [some (.ref q0)]) (st' := [.int (126 : Int32), .int (3 : Int32), .ref q0]) rfl ?_
  obtain ⟨⟨v_412, h_410⟩, e_411, e⟩ := Option.bind_eq_some_iff.mp e
  try dsimp only at e
  refine Rn.hp hT rfl rfl (nM_hp e_411) ?_
  obtain ⟨h_414, e_415, e⟩ := Option.bind_eq_some_iff.mp e
  refine Rn.hp hT rfl rfl (pV_hp rfl e_415) ?_
  refine Rn.n hT 2 (pc' := 44) (L' := [some (.ref q0)]) (st' := [.int (3 : Int32), .ref q0]) rfl ?_
  obtain ⟨⟨v_418, h_416⟩, e_417, e⟩ := Option.bind_eq_some_iff.mp e
  try dsimp only at e
  refine Rn.hp hT rfl rfl (nA_hp rfl e_417) ?_
  obtain ⟨h_420, e_421, e⟩ := Option.bind_eq_some_iff.mp e
  refine Rn.hp hT rfl rfl (pV_hp rfl e_421) ?_
  refine Rn.n hT 2 (pc' := 51) (L' := [some (.ref q0)]) (st' := [.int (3 : Int32), .ref q0]) rfl ?_
  obtain ⟨⟨v_424, h_422⟩, e_423, e⟩ := Option.bind_eq_some_iff.mp e
  try dsimp only at e
  refine Rn.hp hT rfl rfl (nA_hp rfl e_423) ?_
  obtain ⟨h_426, e_427, e⟩ := Option.bind_eq_some_iff.mp e
  refine Rn.hp hT rfl rfl (pV_hp rfl e_427) ?_
  refine Rn.n hT 2 (pc' := 58) (L' := [some (.ref q0)]) (st' := [.int (4 : Int32), .ref q0]) rfl ?_
  obtain ⟨⟨v_430, h_428⟩, e_429, e⟩ := Option.bind_eq_some_iff.mp e
  try dsimp only at e
  refine Rn.hp hT rfl rfl (nA_hp rfl e_429) ?_
  obtain ⟨h_432, e_433, e⟩ := Option.bind_eq_some_iff.mp e
  refine Rn.hp hT rfl rfl (pV_hp rfl e_433) ?_
  refine Rn.n hT 2 (pc' := 65) (L' := [some (.ref q0)]) (st' := [.int (-1 : Int32), .ref q0]) rfl ?_
  obtain ⟨h_434, e_435, e⟩ := Option.bind_eq_some_iff.mp e
  refine Rn.hp hT rfl rfl (pV_hp rfl e_435) ?_
  refine Rn.n hT 2 (pc' := 70) (L' := [some (.ref q0)]) (st' := [.int (-1 : Int32), .ref q0]) rfl ?_
  obtain ⟨h_436, e_437, e⟩ := Option.bind_eq_some_iff.mp e
  refine Rn.hp hT rfl rfl (pV_hp rfl e_437) ?_
  refine Rn.n hT 2 (pc' := 75) (L' := [some (.ref q0)]) (st' := [.int (0 : Int32), .ref q0]) rfl ?_
  obtain ⟨h_438, e_439, e⟩ := Option.bind_eq_some_iff.mp e
  refine Rn.hp hT rfl rfl (pV_hp rfl e_439) ?_
  refine Rn.n hT 2 (pc' := 80) (L' := [some (.ref q0)]) (st' := [.int (0 : Int32), .ref q0]) rfl ?_
  obtain ⟨h_440, e_441, e⟩ := Option.bind_eq_some_iff.mp e
  refine Rn.hp hT rfl rfl (pV_hp rfl e_441) ?_
  refine Rn.n hT 2 (pc' := 85) (L' := [some (.ref q0)]) (st' := [.int (0 : Int32), .ref q0]) rfl ?_
  obtain ⟨h_442, e_443, e⟩ := Option.bind_eq_some_iff.mp e
  refine Rn.hp hT rfl rfl (pV_hp rfl e_443) ?_
  obtain rfl := Option.some.inj e
  exact Rn.ret hT rfl rfl rfl hq
set_option maxRecDepth 10000 in
theorem hX11_init : iv_Tb 135 tX11_init := iv_tb_of (m := mX11_init) rfl
set_option maxRecDepth 10000 in
theorem gX11_init : PG.2 135 = some mX11_init := iv_pi_of (t := tX11_init) rfl (by decide)
def fX11_init (N : Nat) (h : iv_H) (q0 : Nat) : Option (iv_H) := ((nA h 2 (400 : Int32)).bind fun p_448 => (fun (v_447 : Nat) (h_445 : iv_H) => ((pV h_445 11 0 q0 (.ref v_447)).bind fun h_449 => ((pV h_449 11 1 q0 (.int (0 : Int32))).bind fun h_451 => ((nM h_451 (6 : Int32) (401 : Int32)).bind fun p_456 => (fun (v_455 : Nat) (h_453 : iv_H) => ((pV h_453 11 2 q0 (.ref v_455)).bind fun h_457 => ((pV h_457 11 3 q0 (.int (0 : Int32))).bind fun h_459 => ((nO h_459 2).bind fun p_464 => (fun (v_463 : Nat) (h_461 : iv_H) => ((fX2_init N h_461 v_463).bind fun h_467 => ((pV h_467 11 4 q0 (.ref v_463)).bind fun h_468 => ((nO h_468 2).bind fun p_473 => (fun (v_472 : Nat) (h_470 : iv_H) => ((fX2_init N h_470 v_472).bind fun h_476 => ((pV h_476 11 5 q0 (.ref v_472)).bind fun h_477 => ((nA h_477 4 (4 : Int32)).bind fun p_482 => (fun (v_481 : Nat) (h_479 : iv_H) => ((pV h_479 11 6 q0 (.ref v_481)).bind fun h_483 => ((nO h_483 5).bind fun p_488 => (fun (v_487 : Nat) (h_485 : iv_H) => ((fX5_init N h_485 v_487).bind fun h_491 => ((pV h_491 11 7 q0 (.ref v_487)).bind fun h_492 => ((nO h_492 8).bind fun p_497 => (fun (v_496 : Nat) (h_494 : iv_H) => ((fX8_init N h_494 v_496).bind fun h_500 => ((pV h_500 11 8 q0 (.ref v_496)).bind fun h_501 => ((nO h_501 3).bind fun p_506 => (fun (v_505 : Nat) (h_503 : iv_H) => ((fX3_init N h_503 v_505).bind fun h_509 => ((pV h_509 11 9 q0 (.ref v_505)).bind fun h_510 => ((nO h_510 9).bind fun p_515 => (fun (v_514 : Nat) (h_512 : iv_H) => ((fX9_init N h_512 v_514).bind fun h_518 => ((pV h_518 11 10 q0 (.ref v_514)).bind fun h_519 => ((nO h_519 10).bind fun p_524 => (fun (v_523 : Nat) (h_521 : iv_H) => ((fX10_init N h_521 v_523).bind fun h_527 => ((pV h_527 11 11 q0 (.ref v_523)).bind fun h_528 => ((nO h_528 0).bind fun p_533 => (fun (v_532 : Nat) (h_530 : iv_H) => ((fX0_init N h_530 v_532).bind fun h_536 => ((pV h_536 11 12 q0 (.ref v_532)).bind fun h_537 => ((nO h_537 4).bind fun p_542 => (fun (v_541 : Nat) (h_539 : iv_H) => ((fX4_init N h_539 v_541).bind fun h_545 => ((pV h_545 11 13 q0 (.ref v_541)).bind fun h_546 => ((nA h_546 0 (126 : Int32)).bind fun p_551 => (fun (v_550 : Nat) (h_548 : iv_H) => ((pV h_548 11 14 q0 (.ref v_550)).bind fun h_552 => ((pV h_552 11 15 q0 (.int (0 : Int32))).bind fun h_554 => some h_554))) p_551.1 p_551.2)))) p_542.1 p_542.2)))) p_533.1 p_533.2)))) p_524.1 p_524.2)))) p_515.1 p_515.2)))) p_506.1 p_506.2)))) p_497.1 p_497.2)))) p_488.1 p_488.2))) p_482.1 p_482.2)))) p_473.1 p_473.2)))) p_464.1 p_464.2)))) p_456.1 p_456.2)))) p_448.1 p_448.2)
set_option maxRecDepth 10000 in
set_option maxHeartbeats 4000000 in
theorem rX11_init {d N : Nat} (hd : 4 ≤ d) {h : iv_H} {q0 : Nat} {r : iv_H} {Q : Option Value → iv_H → Prop} (e : fX11_init N h q0 = some r) (hq : Q none r) : Cl d 135 [.ref q0] h Q := by
  obtain ⟨d, rfl⟩ : ∃ k, d = k + 1 := ⟨d - 1, by omega⟩
  have hd : 3 ≤ d := by omega
  have hT := hX11_init
  unfold fX11_init at e
  refine Cl.into (by decide) gX11_init rfl ?_
  show Rn d 135 none 0 [some (.ref q0)] [] h Q
  refine Rn.n hT 1 (pc' := 1) (L' := [some (.ref q0)]) (st' := [.ref q0]) rfl ?_
  refine Rn.hp hT rfl rfl (st' := []) (h1 := h) rfl ?_
  refine Rn.n hT 2 (pc' := 8) (L' := [some (.ref q0)]) (st' := [.int (400 : Int32), .ref q0]) rfl ?_
  obtain ⟨⟨v_447, h_445⟩, e_446, e⟩ := Option.bind_eq_some_iff.mp e
  try dsimp only at e
  refine Rn.hp hT rfl rfl (nA_hp rfl e_446) ?_
  obtain ⟨h_449, e_450, e⟩ := Option.bind_eq_some_iff.mp e
  refine Rn.hp hT rfl rfl (pV_hp rfl e_450) ?_
  refine Rn.n hT 2 (pc' := 15) (L' := [some (.ref q0)]) (st' := [.int (0 : Int32), .ref q0]) rfl ?_
  obtain ⟨h_451, e_452, e⟩ := Option.bind_eq_some_iff.mp e
  refine Rn.hp hT rfl rfl (pV_hp rfl e_452) ?_
  refine Rn.n hT 3 (pc' := 24) (L' := [some (.ref q0)]) (st' := [.int (401 : Int32), .int (6 : Int32), .ref q0]) rfl ?_
  obtain ⟨⟨v_455, h_453⟩, e_454, e⟩ := Option.bind_eq_some_iff.mp e
  try dsimp only at e
  refine Rn.hp hT rfl rfl (nM_hp e_454) ?_
  obtain ⟨h_457, e_458, e⟩ := Option.bind_eq_some_iff.mp e
  refine Rn.hp hT rfl rfl (pV_hp rfl e_458) ?_
  refine Rn.n hT 2 (pc' := 33) (L' := [some (.ref q0)]) (st' := [.int (0 : Int32), .ref q0]) rfl ?_
  obtain ⟨h_459, e_460, e⟩ := Option.bind_eq_some_iff.mp e
  refine Rn.hp hT rfl rfl (pV_hp rfl e_460) ?_
  refine Rn.n hT 1 (pc' := 37) (L' := [some (.ref q0)]) (st' := [.ref q0]) rfl ?_
  obtain ⟨⟨v_463, h_461⟩, e_462, e⟩ := Option.bind_eq_some_iff.mp e
  try dsimp only at e
  refine Rn.hp hT rfl rfl (nO_hp e_462) ?_
  refine Rn.n hT 1 (pc' := 41) (L' := [some (.ref q0)]) (st' := [.ref v_463, .ref v_463, .ref q0]) rfl ?_
  obtain ⟨h_467, e_465, e⟩ := Option.bind_eq_some_iff.mp e
  refine Rn.call hT rfl rfl rfl (Nat.le_of_ble_eq_true rfl) rfl (rX2_init (by omega) e_465 ?_)
  show Rn d _ _ 44 [some (.ref q0)] [.ref v_463, .ref q0] h_467 Q
  obtain ⟨h_468, e_469, e⟩ := Option.bind_eq_some_iff.mp e
  refine Rn.hp hT rfl rfl (pV_hp rfl e_469) ?_
  refine Rn.n hT 1 (pc' := 48) (L' := [some (.ref q0)]) (st' := [.ref q0]) rfl ?_
  obtain ⟨⟨v_472, h_470⟩, e_471, e⟩ := Option.bind_eq_some_iff.mp e
  try dsimp only at e
  refine Rn.hp hT rfl rfl (nO_hp e_471) ?_
  refine Rn.n hT 1 (pc' := 52) (L' := [some (.ref q0)]) (st' := [.ref v_472, .ref v_472, .ref q0]) rfl ?_
  obtain ⟨h_476, e_474, e⟩ := Option.bind_eq_some_iff.mp e
  refine Rn.call hT rfl rfl rfl (Nat.le_of_ble_eq_true rfl) rfl (rX2_init (by omega) e_474 ?_)
  show Rn d _ _ 55 [some (.ref q0)] [.ref v_472, .ref q0] h_476 Q
  obtain ⟨h_477, e_478, e⟩ := Option.bind_eq_some_iff.mp e
  refine Rn.hp hT rfl rfl (pV_hp rfl e_478) ?_
  refine Rn.n hT 2 (pc' := 60) (L' := [some (.ref q0)]) (st' := [.int (4 : Int32), .ref q0]) rfl ?_
  obtain ⟨⟨v_481, h_479⟩, e_480, e⟩ := Option.bind_eq_some_iff.mp e
  try dsimp only at e
  refine Rn.hp hT rfl rfl (nQ_hp e_480) ?_
  obtain ⟨h_483, e_484, e⟩ := Option.bind_eq_some_iff.mp e
  refine Rn.hp hT rfl rfl (pV_hp rfl e_484) ?_
  refine Rn.n hT 1 (pc' := 67) (L' := [some (.ref q0)]) (st' := [.ref q0]) rfl ?_
  obtain ⟨⟨v_487, h_485⟩, e_486, e⟩ := Option.bind_eq_some_iff.mp e
  try dsimp only at e
  refine Rn.hp hT rfl rfl (nO_hp e_486) ?_
  refine Rn.n hT 1 (pc' := 71) (L' := [some (.ref q0)]) (st' := [.ref v_487, .ref v_487, .ref q0]) rfl ?_
  obtain ⟨h_491, e_489, e⟩ := Option.bind_eq_some_iff.mp e
  refine Rn.call hT rfl rfl rfl (Nat.le_of_ble_eq_true rfl) rfl (rX5_init (by omega) e_489 ?_)
  show Rn d _ _ 74 [some (.ref q0)] [.ref v_487, .ref q0] h_491 Q
  obtain ⟨h_492, e_493, e⟩ := Option.bind_eq_some_iff.mp e
  refine Rn.hp hT rfl rfl (pV_hp rfl e_493) ?_
  refine Rn.n hT 1 (pc' := 78) (L' := [some (.ref q0)]) (st' := [.ref q0]) rfl ?_
  obtain ⟨⟨v_496, h_494⟩, e_495, e⟩ := Option.bind_eq_some_iff.mp e
  try dsimp only at e
  refine Rn.hp hT rfl rfl (nO_hp e_495) ?_
  refine Rn.n hT 1 (pc' := 82) (L' := [some (.ref q0)]) (st' := [.ref v_496, .ref v_496, .ref q0]) rfl ?_
  obtain ⟨h_500, e_498, e⟩ := Option.bind_eq_some_iff.mp e
  refine Rn.call hT rfl rfl rfl (Nat.le_of_ble_eq_true rfl) rfl (rX8_init (by omega) e_498 ?_)
  show Rn d _ _ 85 [some (.ref q0)] [.ref v_496, .ref q0] h_500 Q
  obtain ⟨h_501, e_502, e⟩ := Option.bind_eq_some_iff.mp e
  refine Rn.hp hT rfl rfl (pV_hp rfl e_502) ?_
  refine Rn.n hT 1 (pc' := 89) (L' := [some (.ref q0)]) (st' := [.ref q0]) rfl ?_
  obtain ⟨⟨v_505, h_503⟩, e_504, e⟩ := Option.bind_eq_some_iff.mp e
  try dsimp only at e
  refine Rn.hp hT rfl rfl (nO_hp e_504) ?_
  refine Rn.n hT 1 (pc' := 93) (L' := [some (.ref q0)]) (st' := [.ref v_505, .ref v_505, .ref q0]) rfl ?_
  obtain ⟨h_509, e_507, e⟩ := Option.bind_eq_some_iff.mp e
  refine Rn.call hT rfl rfl rfl (Nat.le_of_ble_eq_true rfl) rfl (rX3_init (by omega) e_507 ?_)
  show Rn d _ _ 96 [some (.ref q0)] [.ref v_505, .ref q0] h_509 Q
  obtain ⟨h_510, e_511, e⟩ := Option.bind_eq_some_iff.mp e
  refine Rn.hp hT rfl rfl (pV_hp rfl e_511) ?_
  refine Rn.n hT 1 (pc' := 100) (L' := [some (.ref q0)]) (st' := [.ref q0]) rfl ?_
  obtain ⟨⟨v_514, h_512⟩, e_513, e⟩ := Option.bind_eq_some_iff.mp e
  try dsimp only at e
  refine Rn.hp hT rfl rfl (nO_hp e_513) ?_
  refine Rn.n hT 1 (pc' := 104) (L' := [some (.ref q0)]) (st' := [.ref v_514, .ref v_514, .ref q0]) rfl ?_
  obtain ⟨h_518, e_516, e⟩ := Option.bind_eq_some_iff.mp e
  refine Rn.call hT rfl rfl rfl (Nat.le_of_ble_eq_true rfl) rfl (rX9_init (by omega) e_516 ?_)
  show Rn d _ _ 107 [some (.ref q0)] [.ref v_514, .ref q0] h_518 Q
  obtain ⟨h_519, e_520, e⟩ := Option.bind_eq_some_iff.mp e
  refine Rn.hp hT rfl rfl (pV_hp rfl e_520) ?_
  refine Rn.n hT 1 (pc' := 111) (L' := [some (.ref q0)]) (st' := [.ref q0]) rfl ?_
  obtain ⟨⟨v_523, h_521⟩, e_522, e⟩ := Option.bind_eq_some_iff.mp e
  try dsimp only at e
  refine Rn.hp hT rfl rfl (nO_hp e_522) ?_
  refine Rn.n hT 1 (pc' := 115) (L' := [some (.ref q0)]) (st' := [.ref v_523, .ref v_523, .ref q0]) rfl ?_
  obtain ⟨h_527, e_525, e⟩ := Option.bind_eq_some_iff.mp e
  refine Rn.call hT rfl rfl rfl (Nat.le_of_ble_eq_true rfl) rfl (rX10_init (by omega) e_525 ?_)
  show Rn d _ _ 118 [some (.ref q0)] [.ref v_523, .ref q0] h_527 Q
  obtain ⟨h_528, e_529, e⟩ := Option.bind_eq_some_iff.mp e
  refine Rn.hp hT rfl rfl (pV_hp rfl e_529) ?_
  refine Rn.n hT 1 (pc' := 122) (L' := [some (.ref q0)]) (st' := [.ref q0]) rfl ?_
  obtain ⟨⟨v_532, h_530⟩, e_531, e⟩ := Option.bind_eq_some_iff.mp e
  try dsimp only at e
  refine Rn.hp hT rfl rfl (nO_hp e_531) ?_
  refine Rn.n hT 1 (pc' := 126) (L' := [some (.ref q0)]) (st' := [.ref v_532, .ref v_532, .ref q0]) rfl ?_
  obtain ⟨h_536, e_534, e⟩ := Option.bind_eq_some_iff.mp e
  refine Rn.call hT rfl rfl rfl (Nat.le_of_ble_eq_true rfl) rfl (rX0_init (by omega) e_534 ?_)
  show Rn d _ _ 129 [some (.ref q0)] [.ref v_532, .ref q0] h_536 Q
  obtain ⟨h_537, e_538, e⟩ := Option.bind_eq_some_iff.mp e
  refine Rn.hp hT rfl rfl (pV_hp rfl e_538) ?_
  refine Rn.n hT 1 (pc' := 133) (L' := [some (.ref q0)]) (st' := [.ref q0]) rfl ?_
  obtain ⟨⟨v_541, h_539⟩, e_540, e⟩ := Option.bind_eq_some_iff.mp e
  try dsimp only at e
  refine Rn.hp hT rfl rfl (nO_hp e_540) ?_
  refine Rn.n hT 1 (pc' := 137) (L' := [some (.ref q0)]) (st' := [.ref v_541, .ref v_541, .ref q0]) rfl ?_
  obtain ⟨h_545, e_543, e⟩ := Option.bind_eq_some_iff.mp e
  refine Rn.call hT rfl rfl rfl (Nat.le_of_ble_eq_true rfl) rfl (rX4_init (by omega) e_543 ?_)
  show Rn d _ _ 140 [some (.ref q0)] [.ref v_541, .ref q0] h_545 Q
  obtain ⟨h_546, e_547, e⟩ := Option.bind_eq_some_iff.mp e
  refine Rn.hp hT rfl rfl (pV_hp rfl e_547) ?_
  refine Rn.n hT 2 (pc' := 146) (L' := [some (.ref q0)]) (st' := [.int (126 : Int32), .ref q0]) rfl ?_
  obtain ⟨⟨v_550, h_548⟩, e_549, e⟩ := Option.bind_eq_some_iff.mp e
  try dsimp only at e
  refine Rn.hp hT rfl rfl (nA_hp rfl e_549) ?_
  obtain ⟨h_552, e_553, e⟩ := Option.bind_eq_some_iff.mp e
  refine Rn.hp hT rfl rfl (pV_hp rfl e_553) ?_
  refine Rn.n hT 2 (pc' := 153) (L' := [some (.ref q0)]) (st' := [.int (0 : Int32), .ref q0]) rfl ?_
  obtain ⟨h_554, e_555, e⟩ := Option.bind_eq_some_iff.mp e
  refine Rn.hp hT rfl rfl (pV_hp rfl e_555) ?_
  obtain rfl := Option.some.inj e
  exact Rn.ret hT rfl rfl rfl hq
set_option maxRecDepth 10000 in
theorem hX12_init : iv_Tb 189 tX12_init := iv_tb_of (m := mX12_init) rfl
set_option maxRecDepth 10000 in
theorem gX12_init : PG.2 189 = some mX12_init := iv_pi_of (t := tX12_init) rfl (by decide)
set_option maxRecDepth 100000 in
def fX12_init (N : Nat) (h : iv_H) (q0 : Nat) : Option (iv_H) := ((nA h 0 (14 : Int32)).bind fun p_560 => (fun (v_559 : Nat) (h_557 : iv_H) => ((wI h_557 v_559 (0 : Int32) (0 : Int32)).bind fun h_561 => ((wI h_561 v_559 (1 : Int32) (0 : Int32)).bind fun h_563 => ((wI h_563 v_559 (2 : Int32) (0 : Int32)).bind fun h_565 => ((wI h_565 v_559 (3 : Int32) (0 : Int32)).bind fun h_567 => ((wI h_567 v_559 (4 : Int32) (0 : Int32)).bind fun h_569 => ((wI h_569 v_559 (5 : Int32) (0 : Int32)).bind fun h_571 => ((wI h_571 v_559 (6 : Int32) (0 : Int32)).bind fun h_573 => ((wI h_573 v_559 (7 : Int32) (0 : Int32)).bind fun h_575 => ((wI h_575 v_559 (8 : Int32) (0 : Int32)).bind fun h_577 => ((wI h_577 v_559 (9 : Int32) (0 : Int32)).bind fun h_579 => ((wI h_579 v_559 (10 : Int32) (0 : Int32)).bind fun h_581 => ((wI h_581 v_559 (11 : Int32) (0 : Int32)).bind fun h_583 => ((wI h_583 v_559 (12 : Int32) (-1 : Int32)).bind fun h_585 => ((wI h_585 v_559 (13 : Int32) (0 : Int32)).bind fun h_587 => ((pV h_587 12 1 q0 (.ref v_559)).bind fun h_589 => ((nA h_589 0 (48 : Int32)).bind fun p_594 => (fun (v_593 : Nat) (h_591 : iv_H) => ((pV h_591 12 2 q0 (.ref v_593)).bind fun h_595 => ((nA h_595 0 (12 : Int32)).bind fun p_600 => (fun (v_599 : Nat) (h_597 : iv_H) => ((pV h_597 12 3 q0 (.ref v_599)).bind fun h_601 => ((nA h_601 0 (12 : Int32)).bind fun p_606 => (fun (v_605 : Nat) (h_603 : iv_H) => ((pV h_603 12 4 q0 (.ref v_605)).bind fun h_607 => ((nA h_607 0 (12 : Int32)).bind fun p_612 => (fun (v_611 : Nat) (h_609 : iv_H) => ((pV h_609 12 5 q0 (.ref v_611)).bind fun h_613 => ((nA h_613 0 (4 : Int32)).bind fun p_618 => (fun (v_617 : Nat) (h_615 : iv_H) => ((wI h_615 v_617 (0 : Int32) (-1 : Int32)).bind fun h_619 => ((wI h_619 v_617 (1 : Int32) (-1 : Int32)).bind fun h_621 => ((wI h_621 v_617 (2 : Int32) (-1 : Int32)).bind fun h_623 => ((wI h_623 v_617 (3 : Int32) (-1 : Int32)).bind fun h_625 => ((pV h_625 12 6 q0 (.ref v_617)).bind fun h_627 => ((nA h_627 0 (6 : Int32)).bind fun p_632 => (fun (v_631 : Nat) (h_629 : iv_H) => ((pV h_629 12 7 q0 (.ref v_631)).bind fun h_633 => ((nA h_633 0 (16 : Int32)).bind fun p_638 => (fun (v_637 : Nat) (h_635 : iv_H) => ((wI h_635 v_637 (0 : Int32) (-1 : Int32)).bind fun h_639 => ((wI h_639 v_637 (1 : Int32) (-1 : Int32)).bind fun h_641 => ((wI h_641 v_637 (2 : Int32) (-1 : Int32)).bind fun h_643 => ((wI h_643 v_637 (3 : Int32) (-1 : Int32)).bind fun h_645 => ((wI h_645 v_637 (4 : Int32) (-1 : Int32)).bind fun h_647 => ((wI h_647 v_637 (5 : Int32) (-1 : Int32)).bind fun h_649 => ((wI h_649 v_637 (6 : Int32) (-1 : Int32)).bind fun h_651 => ((wI h_651 v_637 (7 : Int32) (-1 : Int32)).bind fun h_653 => ((wI h_653 v_637 (8 : Int32) (-1 : Int32)).bind fun h_655 => ((wI h_655 v_637 (9 : Int32) (-1 : Int32)).bind fun h_657 => ((wI h_657 v_637 (10 : Int32) (-1 : Int32)).bind fun h_659 => ((wI h_659 v_637 (11 : Int32) (-1 : Int32)).bind fun h_661 => ((wI h_661 v_637 (12 : Int32) (-1 : Int32)).bind fun h_663 => ((wI h_663 v_637 (13 : Int32) (-1 : Int32)).bind fun h_665 => ((wI h_665 v_637 (14 : Int32) (-1 : Int32)).bind fun h_667 => ((wI h_667 v_637 (15 : Int32) (-1 : Int32)).bind fun h_669 => ((pV h_669 12 8 q0 (.ref v_637)).bind fun h_671 => ((nA h_671 0 (480 : Int32)).bind fun p_676 => (fun (v_675 : Nat) (h_673 : iv_H) => ((pV h_673 12 9 q0 (.ref v_675)).bind fun h_677 => ((nA h_677 0 (96 : Int32)).bind fun p_682 => (fun (v_681 : Nat) (h_679 : iv_H) => ((pV h_679 12 10 q0 (.ref v_681)).bind fun h_683 => ((nA h_683 0 (10 : Int32)).bind fun p_688 => (fun (v_687 : Nat) (h_685 : iv_H) => ((pV h_685 12 11 q0 (.ref v_687)).bind fun h_689 => ((nA h_689 0 (10 : Int32)).bind fun p_694 => (fun (v_693 : Nat) (h_691 : iv_H) => ((pV h_691 12 12 q0 (.ref v_693)).bind fun h_695 => ((nA h_695 0 (10 : Int32)).bind fun p_700 => (fun (v_699 : Nat) (h_697 : iv_H) => ((pV h_697 12 13 q0 (.ref v_699)).bind fun h_701 => ((nA h_701 0 (12 : Int32)).bind fun p_706 => (fun (v_705 : Nat) (h_703 : iv_H) => ((pV h_703 12 14 q0 (.ref v_705)).bind fun h_707 => ((nA h_707 0 (12 : Int32)).bind fun p_712 => (fun (v_711 : Nat) (h_709 : iv_H) => ((pV h_709 12 15 q0 (.ref v_711)).bind fun h_713 => ((nA h_713 0 (12 : Int32)).bind fun p_718 => (fun (v_717 : Nat) (h_715 : iv_H) => ((pV h_715 12 16 q0 (.ref v_717)).bind fun h_719 => ((nA h_719 0 (8 : Int32)).bind fun p_724 => (fun (v_723 : Nat) (h_721 : iv_H) => ((pV h_721 12 17 q0 (.ref v_723)).bind fun h_725 => ((nA h_725 0 (8 : Int32)).bind fun p_730 => (fun (v_729 : Nat) (h_727 : iv_H) => ((pV h_727 12 18 q0 (.ref v_729)).bind fun h_731 => ((nA h_731 0 (5 : Int32)).bind fun p_736 => (fun (v_735 : Nat) (h_733 : iv_H) => ((pV h_733 12 19 q0 (.ref v_735)).bind fun h_737 => ((nA h_737 0 (48 : Int32)).bind fun p_742 => (fun (v_741 : Nat) (h_739 : iv_H) => ((pV h_739 12 20 q0 (.ref v_741)).bind fun h_743 => ((nA h_743 0 (12 : Int32)).bind fun p_748 => (fun (v_747 : Nat) (h_745 : iv_H) => ((pV h_745 12 21 q0 (.ref v_747)).bind fun h_749 => ((nA h_749 0 (12 : Int32)).bind fun p_754 => (fun (v_753 : Nat) (h_751 : iv_H) => ((pV h_751 12 22 q0 (.ref v_753)).bind fun h_755 => ((nA h_755 0 (4 : Int32)).bind fun p_760 => (fun (v_759 : Nat) (h_757 : iv_H) => ((pV h_757 12 23 q0 (.ref v_759)).bind fun h_761 => ((nA h_761 0 (6 : Int32)).bind fun p_766 => (fun (v_765 : Nat) (h_763 : iv_H) => ((pV h_763 12 24 q0 (.ref v_765)).bind fun h_767 => ((nA h_767 0 (16 : Int32)).bind fun p_772 => (fun (v_771 : Nat) (h_769 : iv_H) => ((pV h_769 12 25 q0 (.ref v_771)).bind fun h_773 => ((pV h_773 12 37 q0 (.int (13 : Int32))).bind fun h_775 => ((nA h_775 2 (400 : Int32)).bind fun p_780 => (fun (v_779 : Nat) (h_777 : iv_H) => ((pV h_777 12 39 q0 (.ref v_779)).bind fun h_781 => ((nA h_781 0 (1800 : Int32)).bind fun p_786 => (fun (v_785 : Nat) (h_783 : iv_H) => ((pV h_783 12 40 q0 (.ref v_785)).bind fun h_787 => ((nA h_787 0 (1800 : Int32)).bind fun p_792 => (fun (v_791 : Nat) (h_789 : iv_H) => ((pV h_789 12 41 q0 (.ref v_791)).bind fun h_793 => ((nA h_793 0 (6 : Int32)).bind fun p_798 => (fun (v_797 : Nat) (h_795 : iv_H) => ((pV h_795 12 42 q0 (.ref v_797)).bind fun h_799 => ((nA h_799 0 (72 : Int32)).bind fun p_804 => (fun (v_803 : Nat) (h_801 : iv_H) => ((pV h_801 12 43 q0 (.ref v_803)).bind fun h_805 => ((nA h_805 0 (72 : Int32)).bind fun p_810 => (fun (v_809 : Nat) (h_807 : iv_H) => ((pV h_807 12 44 q0 (.ref v_809)).bind fun h_811 => ((nA h_811 0 (402 : Int32)).bind fun p_816 => (fun (v_815 : Nat) (h_813 : iv_H) => ((pV h_813 12 45 q0 (.ref v_815)).bind fun h_817 => ((nA h_817 1 (13 : Int32)).bind fun p_822 => (fun (v_821 : Nat) (h_819 : iv_H) => ((pV h_819 12 46 q0 (.ref v_821)).bind fun h_823 => ((nA h_823 1 (300 : Int32)).bind fun p_828 => (fun (v_827 : Nat) (h_825 : iv_H) => ((pV h_825 12 47 q0 (.ref v_827)).bind fun h_829 => ((nA h_829 1 (1501 : Int32)).bind fun p_834 => (fun (v_833 : Nat) (h_831 : iv_H) => ((pV h_831 12 49 q0 (.ref v_833)).bind fun h_835 => ((nA h_835 0 (1501 : Int32)).bind fun p_840 => (fun (v_839 : Nat) (h_837 : iv_H) => ((pV h_837 12 50 q0 (.ref v_839)).bind fun h_841 => ((nA h_841 0 (1501 : Int32)).bind fun p_846 => (fun (v_845 : Nat) (h_843 : iv_H) => ((pV h_843 12 51 q0 (.ref v_845)).bind fun h_847 => ((nA h_847 0 (1501 : Int32)).bind fun p_852 => (fun (v_851 : Nat) (h_849 : iv_H) => ((pV h_849 12 52 q0 (.ref v_851)).bind fun h_853 => ((nA h_853 0 (4096 : Int32)).bind fun p_858 => (fun (v_857 : Nat) (h_855 : iv_H) => ((pV h_855 12 53 q0 (.ref v_857)).bind fun h_859 => ((nA h_859 0 (4096 : Int32)).bind fun p_864 => (fun (v_863 : Nat) (h_861 : iv_H) => ((pV h_861 12 54 q0 (.ref v_863)).bind fun h_865 => ((nA h_865 0 (24 : Int32)).bind fun p_870 => (fun (v_869 : Nat) (h_867 : iv_H) => ((pV h_867 12 55 q0 (.ref v_869)).bind fun h_871 => ((nA h_871 0 (16 : Int32)).bind fun p_876 => (fun (v_875 : Nat) (h_873 : iv_H) => ((pV h_873 12 59 q0 (.ref v_875)).bind fun h_877 => ((nA h_877 0 (16 : Int32)).bind fun p_882 => (fun (v_881 : Nat) (h_879 : iv_H) => ((pV h_879 12 60 q0 (.ref v_881)).bind fun h_883 => ((nA h_883 0 (12 : Int32)).bind fun p_888 => (fun (v_887 : Nat) (h_885 : iv_H) => ((pV h_885 12 61 q0 (.ref v_887)).bind fun h_889 => ((nA h_889 0 (13 : Int32)).bind fun p_894 => (fun (v_893 : Nat) (h_891 : iv_H) => ((pV h_891 12 62 q0 (.ref v_893)).bind fun h_895 => ((nA h_895 0 (12 : Int32)).bind fun p_900 => (fun (v_899 : Nat) (h_897 : iv_H) => ((pV h_897 12 63 q0 (.ref v_899)).bind fun h_901 => ((nA h_901 0 (192 : Int32)).bind fun p_906 => (fun (v_905 : Nat) (h_903 : iv_H) => ((pV h_903 12 64 q0 (.ref v_905)).bind fun h_907 => ((nA h_907 0 (192 : Int32)).bind fun p_912 => (fun (v_911 : Nat) (h_909 : iv_H) => ((pV h_909 12 65 q0 (.ref v_911)).bind fun h_913 => ((nA h_913 0 (132 : Int32)).bind fun p_918 => (fun (v_917 : Nat) (h_915 : iv_H) => ((pV h_915 12 67 q0 (.ref v_917)).bind fun h_919 => ((nA h_919 0 (6 : Int32)).bind fun p_924 => (fun (v_923 : Nat) (h_921 : iv_H) => ((pV h_921 12 69 q0 (.ref v_923)).bind fun h_925 => ((nA h_925 0 (7 : Int32)).bind fun p_930 => (fun (v_929 : Nat) (h_927 : iv_H) => ((pV h_927 12 70 q0 (.ref v_929)).bind fun h_931 => ((nA h_931 0 (7 : Int32)).bind fun p_936 => (fun (v_935 : Nat) (h_933 : iv_H) => ((pV h_933 12 71 q0 (.ref v_935)).bind fun h_937 => ((nA h_937 0 (6 : Int32)).bind fun p_942 => (fun (v_941 : Nat) (h_939 : iv_H) => ((pV h_939 12 72 q0 (.ref v_941)).bind fun h_943 => ((nA h_943 0 (72 : Int32)).bind fun p_948 => (fun (v_947 : Nat) (h_945 : iv_H) => ((pV h_945 12 73 q0 (.ref v_947)).bind fun h_949 => ((nA h_949 0 (4 : Int32)).bind fun p_954 => (fun (v_953 : Nat) (h_951 : iv_H) => ((pV h_951 12 74 q0 (.ref v_953)).bind fun h_955 => ((nA h_955 0 (4 : Int32)).bind fun p_960 => (fun (v_959 : Nat) (h_957 : iv_H) => ((pV h_957 12 75 q0 (.ref v_959)).bind fun h_961 => ((nA h_961 0 (3 : Int32)).bind fun p_966 => (fun (v_965 : Nat) (h_963 : iv_H) => ((pV h_963 12 76 q0 (.ref v_965)).bind fun h_967 => ((nA h_967 0 (4 : Int32)).bind fun p_972 => (fun (v_971 : Nat) (h_969 : iv_H) => ((pV h_969 12 77 q0 (.ref v_971)).bind fun h_973 => ((nA h_973 0 (3440 : Int32)).bind fun p_978 => (fun (v_977 : Nat) (h_975 : iv_H) => ((pV h_975 12 79 q0 (.ref v_977)).bind fun h_979 => ((nA h_979 3 (4 : Int32)).bind fun p_984 => (fun (v_983 : Nat) (h_981 : iv_H) => ((pV h_981 12 80 q0 (.ref v_983)).bind fun h_985 => some h_985)) p_984.1 p_984.2))) p_978.1 p_978.2))) p_972.1 p_972.2))) p_966.1 p_966.2))) p_960.1 p_960.2))) p_954.1 p_954.2))) p_948.1 p_948.2))) p_942.1 p_942.2))) p_936.1 p_936.2))) p_930.1 p_930.2))) p_924.1 p_924.2))) p_918.1 p_918.2))) p_912.1 p_912.2))) p_906.1 p_906.2))) p_900.1 p_900.2))) p_894.1 p_894.2))) p_888.1 p_888.2))) p_882.1 p_882.2))) p_876.1 p_876.2))) p_870.1 p_870.2))) p_864.1 p_864.2))) p_858.1 p_858.2))) p_852.1 p_852.2))) p_846.1 p_846.2))) p_840.1 p_840.2))) p_834.1 p_834.2))) p_828.1 p_828.2))) p_822.1 p_822.2))) p_816.1 p_816.2))) p_810.1 p_810.2))) p_804.1 p_804.2))) p_798.1 p_798.2))) p_792.1 p_792.2))) p_786.1 p_786.2))) p_780.1 p_780.2)))) p_772.1 p_772.2))) p_766.1 p_766.2))) p_760.1 p_760.2))) p_754.1 p_754.2))) p_748.1 p_748.2))) p_742.1 p_742.2))) p_736.1 p_736.2))) p_730.1 p_730.2))) p_724.1 p_724.2))) p_718.1 p_718.2))) p_712.1 p_712.2))) p_706.1 p_706.2))) p_700.1 p_700.2))) p_694.1 p_694.2))) p_688.1 p_688.2))) p_682.1 p_682.2))) p_676.1 p_676.2))))))))))))))))))) p_638.1 p_638.2))) p_632.1 p_632.2))))))) p_618.1 p_618.2))) p_612.1 p_612.2))) p_606.1 p_606.2))) p_600.1 p_600.2))) p_594.1 p_594.2))))))))))))))))) p_560.1 p_560.2)
set_option maxRecDepth 10000 in
set_option maxHeartbeats 4000000 in
theorem rX12_init {d N : Nat} (hd : 1 ≤ d) {h : iv_H} {q0 : Nat} {r : iv_H} {Q : Option Value → iv_H → Prop} (e : fX12_init N h q0 = some r) (hq : Q none r) : Cl d 189 [.ref q0] h Q := by
  obtain ⟨d, rfl⟩ : ∃ k, d = k + 1 := ⟨d - 1, by omega⟩
  have hd : 0 ≤ d := by omega
  have hT := hX12_init
  unfold fX12_init at e
  refine Cl.into (by decide) gX12_init rfl ?_
  show Rn d 189 none 0 [some (.ref q0)] [] h Q
  refine Rn.n hT 1 (pc' := 1) (L' := [some (.ref q0)]) (st' := [.ref q0]) rfl ?_
  refine Rn.hp hT rfl rfl (st' := []) (h1 := h) rfl ?_
  refine Rn.n hT 2 (pc' := 7) (L' := [some (.ref q0)]) (st' := [.int (14 : Int32), .ref q0]) rfl ?_
  obtain ⟨⟨v_559, h_557⟩, e_558, e⟩ := Option.bind_eq_some_iff.mp e
  try dsimp only at e
  refine Rn.hp hT rfl rfl (nA_hp rfl e_558) ?_
  refine Rn.n hT 3 (pc' := 12) (L' := [some (.ref q0)]) (st' := [.int (0 : Int32), .int (0 : Int32), .ref v_559, .ref v_559, .ref q0]) rfl ?_
  obtain ⟨h_561, e_562, e⟩ := Option.bind_eq_some_iff.mp e
  refine Rn.hp hT rfl rfl (wI_hp e_562) ?_
  refine Rn.n hT 3 (pc' := 16) (L' := [some (.ref q0)]) (st' := [.int (0 : Int32), .int (1 : Int32), .ref v_559, .ref v_559, .ref q0]) rfl ?_
  obtain ⟨h_563, e_564, e⟩ := Option.bind_eq_some_iff.mp e
  refine Rn.hp hT rfl rfl (wI_hp e_564) ?_
  refine Rn.n hT 3 (pc' := 20) (L' := [some (.ref q0)]) (st' := [.int (0 : Int32), .int (2 : Int32), .ref v_559, .ref v_559, .ref q0]) rfl ?_
  obtain ⟨h_565, e_566, e⟩ := Option.bind_eq_some_iff.mp e
  refine Rn.hp hT rfl rfl (wI_hp e_566) ?_
  refine Rn.n hT 3 (pc' := 24) (L' := [some (.ref q0)]) (st' := [.int (0 : Int32), .int (3 : Int32), .ref v_559, .ref v_559, .ref q0]) rfl ?_
  obtain ⟨h_567, e_568, e⟩ := Option.bind_eq_some_iff.mp e
  refine Rn.hp hT rfl rfl (wI_hp e_568) ?_
  refine Rn.n hT 3 (pc' := 28) (L' := [some (.ref q0)]) (st' := [.int (0 : Int32), .int (4 : Int32), .ref v_559, .ref v_559, .ref q0]) rfl ?_
  obtain ⟨h_569, e_570, e⟩ := Option.bind_eq_some_iff.mp e
  refine Rn.hp hT rfl rfl (wI_hp e_570) ?_
  refine Rn.n hT 3 (pc' := 32) (L' := [some (.ref q0)]) (st' := [.int (0 : Int32), .int (5 : Int32), .ref v_559, .ref v_559, .ref q0]) rfl ?_
  obtain ⟨h_571, e_572, e⟩ := Option.bind_eq_some_iff.mp e
  refine Rn.hp hT rfl rfl (wI_hp e_572) ?_
  refine Rn.n hT 3 (pc' := 37) (L' := [some (.ref q0)]) (st' := [.int (0 : Int32), .int (6 : Int32), .ref v_559, .ref v_559, .ref q0]) rfl ?_
  obtain ⟨h_573, e_574, e⟩ := Option.bind_eq_some_iff.mp e
  refine Rn.hp hT rfl rfl (wI_hp e_574) ?_
  refine Rn.n hT 3 (pc' := 42) (L' := [some (.ref q0)]) (st' := [.int (0 : Int32), .int (7 : Int32), .ref v_559, .ref v_559, .ref q0]) rfl ?_
  obtain ⟨h_575, e_576, e⟩ := Option.bind_eq_some_iff.mp e
  refine Rn.hp hT rfl rfl (wI_hp e_576) ?_
  refine Rn.n hT 3 (pc' := 47) (L' := [some (.ref q0)]) (st' := [.int (0 : Int32), .int (8 : Int32), .ref v_559, .ref v_559, .ref q0]) rfl ?_
  obtain ⟨h_577, e_578, e⟩ := Option.bind_eq_some_iff.mp e
  refine Rn.hp hT rfl rfl (wI_hp e_578) ?_
  refine Rn.n hT 3 (pc' := 52) (L' := [some (.ref q0)]) (st' := [.int (0 : Int32), .int (9 : Int32), .ref v_559, .ref v_559, .ref q0]) rfl ?_
  obtain ⟨h_579, e_580, e⟩ := Option.bind_eq_some_iff.mp e
  refine Rn.hp hT rfl rfl (wI_hp e_580) ?_
  refine Rn.n hT 3 (pc' := 57) (L' := [some (.ref q0)]) (st' := [.int (0 : Int32), .int (10 : Int32), .ref v_559, .ref v_559, .ref q0]) rfl ?_
  obtain ⟨h_581, e_582, e⟩ := Option.bind_eq_some_iff.mp e
  refine Rn.hp hT rfl rfl (wI_hp e_582) ?_
  refine Rn.n hT 3 (pc' := 62) (L' := [some (.ref q0)]) (st' := [.int (0 : Int32), .int (11 : Int32), .ref v_559, .ref v_559, .ref q0]) rfl ?_
  obtain ⟨h_583, e_584, e⟩ := Option.bind_eq_some_iff.mp e
  refine Rn.hp hT rfl rfl (wI_hp e_584) ?_
  refine Rn.n hT 3 (pc' := 67) (L' := [some (.ref q0)]) (st' := [.int (-1 : Int32), .int (12 : Int32), .ref v_559, .ref v_559, .ref q0]) rfl ?_
  obtain ⟨h_585, e_586, e⟩ := Option.bind_eq_some_iff.mp e
  refine Rn.hp hT rfl rfl (wI_hp e_586) ?_
  refine Rn.n hT 3 (pc' := 72) (L' := [some (.ref q0)]) (st' := [.int (0 : Int32), .int (13 : Int32), .ref v_559, .ref v_559, .ref q0]) rfl ?_
  obtain ⟨h_587, e_588, e⟩ := Option.bind_eq_some_iff.mp e
  refine Rn.hp hT rfl rfl (wI_hp e_588) ?_
  obtain ⟨h_589, e_590, e⟩ := Option.bind_eq_some_iff.mp e
  refine Rn.hp hT rfl rfl (pV_hp rfl e_590) ?_
  refine Rn.n hT 2 (pc' := 79) (L' := [some (.ref q0)]) (st' := [.int (48 : Int32), .ref q0]) rfl ?_
  obtain ⟨⟨v_593, h_591⟩, e_592, e⟩ := Option.bind_eq_some_iff.mp e
  try dsimp only at e
  refine Rn.hp hT rfl rfl (nA_hp rfl e_592) ?_
  obtain ⟨h_595, e_596, e⟩ := Option.bind_eq_some_iff.mp e
  refine Rn.hp hT rfl rfl (pV_hp rfl e_596) ?_
  refine Rn.n hT 2 (pc' := 87) (L' := [some (.ref q0)]) (st' := [.int (12 : Int32), .ref q0]) rfl ?_
  obtain ⟨⟨v_599, h_597⟩, e_598, e⟩ := Option.bind_eq_some_iff.mp e
  try dsimp only at e
  refine Rn.hp hT rfl rfl (nA_hp rfl e_598) ?_
  obtain ⟨h_601, e_602, e⟩ := Option.bind_eq_some_iff.mp e
  refine Rn.hp hT rfl rfl (pV_hp rfl e_602) ?_
  refine Rn.n hT 2 (pc' := 95) (L' := [some (.ref q0)]) (st' := [.int (12 : Int32), .ref q0]) rfl ?_
  obtain ⟨⟨v_605, h_603⟩, e_604, e⟩ := Option.bind_eq_some_iff.mp e
  try dsimp only at e
  refine Rn.hp hT rfl rfl (nA_hp rfl e_604) ?_
  obtain ⟨h_607, e_608, e⟩ := Option.bind_eq_some_iff.mp e
  refine Rn.hp hT rfl rfl (pV_hp rfl e_608) ?_
  refine Rn.n hT 2 (pc' := 103) (L' := [some (.ref q0)]) (st' := [.int (12 : Int32), .ref q0]) rfl ?_
  obtain ⟨⟨v_611, h_609⟩, e_610, e⟩ := Option.bind_eq_some_iff.mp e
  try dsimp only at e
  refine Rn.hp hT rfl rfl (nA_hp rfl e_610) ?_
  obtain ⟨h_613, e_614, e⟩ := Option.bind_eq_some_iff.mp e
  refine Rn.hp hT rfl rfl (pV_hp rfl e_614) ?_
  refine Rn.n hT 2 (pc' := 110) (L' := [some (.ref q0)]) (st' := [.int (4 : Int32), .ref q0]) rfl ?_
  obtain ⟨⟨v_617, h_615⟩, e_616, e⟩ := Option.bind_eq_some_iff.mp e
  try dsimp only at e
  refine Rn.hp hT rfl rfl (nA_hp rfl e_616) ?_
  refine Rn.n hT 3 (pc' := 115) (L' := [some (.ref q0)]) (st' := [.int (-1 : Int32), .int (0 : Int32), .ref v_617, .ref v_617, .ref q0]) rfl ?_
  obtain ⟨h_619, e_620, e⟩ := Option.bind_eq_some_iff.mp e
  refine Rn.hp hT rfl rfl (wI_hp e_620) ?_
  refine Rn.n hT 3 (pc' := 119) (L' := [some (.ref q0)]) (st' := [.int (-1 : Int32), .int (1 : Int32), .ref v_617, .ref v_617, .ref q0]) rfl ?_
  obtain ⟨h_621, e_622, e⟩ := Option.bind_eq_some_iff.mp e
  refine Rn.hp hT rfl rfl (wI_hp e_622) ?_
  refine Rn.n hT 3 (pc' := 123) (L' := [some (.ref q0)]) (st' := [.int (-1 : Int32), .int (2 : Int32), .ref v_617, .ref v_617, .ref q0]) rfl ?_
  obtain ⟨h_623, e_624, e⟩ := Option.bind_eq_some_iff.mp e
  refine Rn.hp hT rfl rfl (wI_hp e_624) ?_
  refine Rn.n hT 3 (pc' := 127) (L' := [some (.ref q0)]) (st' := [.int (-1 : Int32), .int (3 : Int32), .ref v_617, .ref v_617, .ref q0]) rfl ?_
  obtain ⟨h_625, e_626, e⟩ := Option.bind_eq_some_iff.mp e
  refine Rn.hp hT rfl rfl (wI_hp e_626) ?_
  obtain ⟨h_627, e_628, e⟩ := Option.bind_eq_some_iff.mp e
  refine Rn.hp hT rfl rfl (pV_hp rfl e_628) ?_
  refine Rn.n hT 2 (pc' := 134) (L' := [some (.ref q0)]) (st' := [.int (6 : Int32), .ref q0]) rfl ?_
  obtain ⟨⟨v_631, h_629⟩, e_630, e⟩ := Option.bind_eq_some_iff.mp e
  try dsimp only at e
  refine Rn.hp hT rfl rfl (nA_hp rfl e_630) ?_
  obtain ⟨h_633, e_634, e⟩ := Option.bind_eq_some_iff.mp e
  refine Rn.hp hT rfl rfl (pV_hp rfl e_634) ?_
  refine Rn.n hT 2 (pc' := 142) (L' := [some (.ref q0)]) (st' := [.int (16 : Int32), .ref q0]) rfl ?_
  obtain ⟨⟨v_637, h_635⟩, e_636, e⟩ := Option.bind_eq_some_iff.mp e
  try dsimp only at e
  refine Rn.hp hT rfl rfl (nA_hp rfl e_636) ?_
  refine Rn.n hT 3 (pc' := 147) (L' := [some (.ref q0)]) (st' := [.int (-1 : Int32), .int (0 : Int32), .ref v_637, .ref v_637, .ref q0]) rfl ?_
  obtain ⟨h_639, e_640, e⟩ := Option.bind_eq_some_iff.mp e
  refine Rn.hp hT rfl rfl (wI_hp e_640) ?_
  refine Rn.n hT 3 (pc' := 151) (L' := [some (.ref q0)]) (st' := [.int (-1 : Int32), .int (1 : Int32), .ref v_637, .ref v_637, .ref q0]) rfl ?_
  obtain ⟨h_641, e_642, e⟩ := Option.bind_eq_some_iff.mp e
  refine Rn.hp hT rfl rfl (wI_hp e_642) ?_
  refine Rn.n hT 3 (pc' := 155) (L' := [some (.ref q0)]) (st' := [.int (-1 : Int32), .int (2 : Int32), .ref v_637, .ref v_637, .ref q0]) rfl ?_
  obtain ⟨h_643, e_644, e⟩ := Option.bind_eq_some_iff.mp e
  refine Rn.hp hT rfl rfl (wI_hp e_644) ?_
  refine Rn.n hT 3 (pc' := 159) (L' := [some (.ref q0)]) (st' := [.int (-1 : Int32), .int (3 : Int32), .ref v_637, .ref v_637, .ref q0]) rfl ?_
  obtain ⟨h_645, e_646, e⟩ := Option.bind_eq_some_iff.mp e
  refine Rn.hp hT rfl rfl (wI_hp e_646) ?_
  refine Rn.n hT 3 (pc' := 163) (L' := [some (.ref q0)]) (st' := [.int (-1 : Int32), .int (4 : Int32), .ref v_637, .ref v_637, .ref q0]) rfl ?_
  obtain ⟨h_647, e_648, e⟩ := Option.bind_eq_some_iff.mp e
  refine Rn.hp hT rfl rfl (wI_hp e_648) ?_
  refine Rn.n hT 3 (pc' := 167) (L' := [some (.ref q0)]) (st' := [.int (-1 : Int32), .int (5 : Int32), .ref v_637, .ref v_637, .ref q0]) rfl ?_
  obtain ⟨h_649, e_650, e⟩ := Option.bind_eq_some_iff.mp e
  refine Rn.hp hT rfl rfl (wI_hp e_650) ?_
  refine Rn.n hT 3 (pc' := 172) (L' := [some (.ref q0)]) (st' := [.int (-1 : Int32), .int (6 : Int32), .ref v_637, .ref v_637, .ref q0]) rfl ?_
  obtain ⟨h_651, e_652, e⟩ := Option.bind_eq_some_iff.mp e
  refine Rn.hp hT rfl rfl (wI_hp e_652) ?_
  refine Rn.n hT 3 (pc' := 177) (L' := [some (.ref q0)]) (st' := [.int (-1 : Int32), .int (7 : Int32), .ref v_637, .ref v_637, .ref q0]) rfl ?_
  obtain ⟨h_653, e_654, e⟩ := Option.bind_eq_some_iff.mp e
  refine Rn.hp hT rfl rfl (wI_hp e_654) ?_
  refine Rn.n hT 3 (pc' := 182) (L' := [some (.ref q0)]) (st' := [.int (-1 : Int32), .int (8 : Int32), .ref v_637, .ref v_637, .ref q0]) rfl ?_
  obtain ⟨h_655, e_656, e⟩ := Option.bind_eq_some_iff.mp e
  refine Rn.hp hT rfl rfl (wI_hp e_656) ?_
  refine Rn.n hT 3 (pc' := 187) (L' := [some (.ref q0)]) (st' := [.int (-1 : Int32), .int (9 : Int32), .ref v_637, .ref v_637, .ref q0]) rfl ?_
  obtain ⟨h_657, e_658, e⟩ := Option.bind_eq_some_iff.mp e
  refine Rn.hp hT rfl rfl (wI_hp e_658) ?_
  refine Rn.n hT 3 (pc' := 192) (L' := [some (.ref q0)]) (st' := [.int (-1 : Int32), .int (10 : Int32), .ref v_637, .ref v_637, .ref q0]) rfl ?_
  obtain ⟨h_659, e_660, e⟩ := Option.bind_eq_some_iff.mp e
  refine Rn.hp hT rfl rfl (wI_hp e_660) ?_
  refine Rn.n hT 3 (pc' := 197) (L' := [some (.ref q0)]) (st' := [.int (-1 : Int32), .int (11 : Int32), .ref v_637, .ref v_637, .ref q0]) rfl ?_
  obtain ⟨h_661, e_662, e⟩ := Option.bind_eq_some_iff.mp e
  refine Rn.hp hT rfl rfl (wI_hp e_662) ?_
  refine Rn.n hT 3 (pc' := 202) (L' := [some (.ref q0)]) (st' := [.int (-1 : Int32), .int (12 : Int32), .ref v_637, .ref v_637, .ref q0]) rfl ?_
  obtain ⟨h_663, e_664, e⟩ := Option.bind_eq_some_iff.mp e
  refine Rn.hp hT rfl rfl (wI_hp e_664) ?_
  refine Rn.n hT 3 (pc' := 207) (L' := [some (.ref q0)]) (st' := [.int (-1 : Int32), .int (13 : Int32), .ref v_637, .ref v_637, .ref q0]) rfl ?_
  obtain ⟨h_665, e_666, e⟩ := Option.bind_eq_some_iff.mp e
  refine Rn.hp hT rfl rfl (wI_hp e_666) ?_
  refine Rn.n hT 3 (pc' := 212) (L' := [some (.ref q0)]) (st' := [.int (-1 : Int32), .int (14 : Int32), .ref v_637, .ref v_637, .ref q0]) rfl ?_
  obtain ⟨h_667, e_668, e⟩ := Option.bind_eq_some_iff.mp e
  refine Rn.hp hT rfl rfl (wI_hp e_668) ?_
  refine Rn.n hT 3 (pc' := 217) (L' := [some (.ref q0)]) (st' := [.int (-1 : Int32), .int (15 : Int32), .ref v_637, .ref v_637, .ref q0]) rfl ?_
  obtain ⟨h_669, e_670, e⟩ := Option.bind_eq_some_iff.mp e
  refine Rn.hp hT rfl rfl (wI_hp e_670) ?_
  obtain ⟨h_671, e_672, e⟩ := Option.bind_eq_some_iff.mp e
  refine Rn.hp hT rfl rfl (pV_hp rfl e_672) ?_
  refine Rn.n hT 2 (pc' := 225) (L' := [some (.ref q0)]) (st' := [.int (480 : Int32), .ref q0]) rfl ?_
  obtain ⟨⟨v_675, h_673⟩, e_674, e⟩ := Option.bind_eq_some_iff.mp e
  try dsimp only at e
  refine Rn.hp hT rfl rfl (nA_hp rfl e_674) ?_
  obtain ⟨h_677, e_678, e⟩ := Option.bind_eq_some_iff.mp e
  refine Rn.hp hT rfl rfl (pV_hp rfl e_678) ?_
  refine Rn.n hT 2 (pc' := 233) (L' := [some (.ref q0)]) (st' := [.int (96 : Int32), .ref q0]) rfl ?_
  obtain ⟨⟨v_681, h_679⟩, e_680, e⟩ := Option.bind_eq_some_iff.mp e
  try dsimp only at e
  refine Rn.hp hT rfl rfl (nA_hp rfl e_680) ?_
  obtain ⟨h_683, e_684, e⟩ := Option.bind_eq_some_iff.mp e
  refine Rn.hp hT rfl rfl (pV_hp rfl e_684) ?_
  refine Rn.n hT 2 (pc' := 241) (L' := [some (.ref q0)]) (st' := [.int (10 : Int32), .ref q0]) rfl ?_
  obtain ⟨⟨v_687, h_685⟩, e_686, e⟩ := Option.bind_eq_some_iff.mp e
  try dsimp only at e
  refine Rn.hp hT rfl rfl (nA_hp rfl e_686) ?_
  obtain ⟨h_689, e_690, e⟩ := Option.bind_eq_some_iff.mp e
  refine Rn.hp hT rfl rfl (pV_hp rfl e_690) ?_
  refine Rn.n hT 2 (pc' := 249) (L' := [some (.ref q0)]) (st' := [.int (10 : Int32), .ref q0]) rfl ?_
  obtain ⟨⟨v_693, h_691⟩, e_692, e⟩ := Option.bind_eq_some_iff.mp e
  try dsimp only at e
  refine Rn.hp hT rfl rfl (nA_hp rfl e_692) ?_
  obtain ⟨h_695, e_696, e⟩ := Option.bind_eq_some_iff.mp e
  refine Rn.hp hT rfl rfl (pV_hp rfl e_696) ?_
  refine Rn.n hT 2 (pc' := 257) (L' := [some (.ref q0)]) (st' := [.int (10 : Int32), .ref q0]) rfl ?_
  obtain ⟨⟨v_699, h_697⟩, e_698, e⟩ := Option.bind_eq_some_iff.mp e
  try dsimp only at e
  refine Rn.hp hT rfl rfl (nA_hp rfl e_698) ?_
  obtain ⟨h_701, e_702, e⟩ := Option.bind_eq_some_iff.mp e
  refine Rn.hp hT rfl rfl (pV_hp rfl e_702) ?_
  refine Rn.n hT 2 (pc' := 265) (L' := [some (.ref q0)]) (st' := [.int (12 : Int32), .ref q0]) rfl ?_
  obtain ⟨⟨v_705, h_703⟩, e_704, e⟩ := Option.bind_eq_some_iff.mp e
  try dsimp only at e
  refine Rn.hp hT rfl rfl (nA_hp rfl e_704) ?_
  obtain ⟨h_707, e_708, e⟩ := Option.bind_eq_some_iff.mp e
  refine Rn.hp hT rfl rfl (pV_hp rfl e_708) ?_
  refine Rn.n hT 2 (pc' := 273) (L' := [some (.ref q0)]) (st' := [.int (12 : Int32), .ref q0]) rfl ?_
  obtain ⟨⟨v_711, h_709⟩, e_710, e⟩ := Option.bind_eq_some_iff.mp e
  try dsimp only at e
  refine Rn.hp hT rfl rfl (nA_hp rfl e_710) ?_
  obtain ⟨h_713, e_714, e⟩ := Option.bind_eq_some_iff.mp e
  refine Rn.hp hT rfl rfl (pV_hp rfl e_714) ?_
  refine Rn.n hT 2 (pc' := 281) (L' := [some (.ref q0)]) (st' := [.int (12 : Int32), .ref q0]) rfl ?_
  obtain ⟨⟨v_717, h_715⟩, e_716, e⟩ := Option.bind_eq_some_iff.mp e
  try dsimp only at e
  refine Rn.hp hT rfl rfl (nA_hp rfl e_716) ?_
  obtain ⟨h_719, e_720, e⟩ := Option.bind_eq_some_iff.mp e
  refine Rn.hp hT rfl rfl (pV_hp rfl e_720) ?_
  refine Rn.n hT 2 (pc' := 289) (L' := [some (.ref q0)]) (st' := [.int (8 : Int32), .ref q0]) rfl ?_
  obtain ⟨⟨v_723, h_721⟩, e_722, e⟩ := Option.bind_eq_some_iff.mp e
  try dsimp only at e
  refine Rn.hp hT rfl rfl (nA_hp rfl e_722) ?_
  obtain ⟨h_725, e_726, e⟩ := Option.bind_eq_some_iff.mp e
  refine Rn.hp hT rfl rfl (pV_hp rfl e_726) ?_
  refine Rn.n hT 2 (pc' := 297) (L' := [some (.ref q0)]) (st' := [.int (8 : Int32), .ref q0]) rfl ?_
  obtain ⟨⟨v_729, h_727⟩, e_728, e⟩ := Option.bind_eq_some_iff.mp e
  try dsimp only at e
  refine Rn.hp hT rfl rfl (nA_hp rfl e_728) ?_
  obtain ⟨h_731, e_732, e⟩ := Option.bind_eq_some_iff.mp e
  refine Rn.hp hT rfl rfl (pV_hp rfl e_732) ?_
  refine Rn.n hT 2 (pc' := 304) (L' := [some (.ref q0)]) (st' := [.int (5 : Int32), .ref q0]) rfl ?_
  obtain ⟨⟨v_735, h_733⟩, e_734, e⟩ := Option.bind_eq_some_iff.mp e
  try dsimp only at e
  refine Rn.hp hT rfl rfl (nA_hp rfl e_734) ?_
  obtain ⟨h_737, e_738, e⟩ := Option.bind_eq_some_iff.mp e
  refine Rn.hp hT rfl rfl (pV_hp rfl e_738) ?_
  refine Rn.n hT 2 (pc' := 312) (L' := [some (.ref q0)]) (st' := [.int (48 : Int32), .ref q0]) rfl ?_
  obtain ⟨⟨v_741, h_739⟩, e_740, e⟩ := Option.bind_eq_some_iff.mp e
  try dsimp only at e
  refine Rn.hp hT rfl rfl (nA_hp rfl e_740) ?_
  obtain ⟨h_743, e_744, e⟩ := Option.bind_eq_some_iff.mp e
  refine Rn.hp hT rfl rfl (pV_hp rfl e_744) ?_
  refine Rn.n hT 2 (pc' := 320) (L' := [some (.ref q0)]) (st' := [.int (12 : Int32), .ref q0]) rfl ?_
  obtain ⟨⟨v_747, h_745⟩, e_746, e⟩ := Option.bind_eq_some_iff.mp e
  try dsimp only at e
  refine Rn.hp hT rfl rfl (nA_hp rfl e_746) ?_
  obtain ⟨h_749, e_750, e⟩ := Option.bind_eq_some_iff.mp e
  refine Rn.hp hT rfl rfl (pV_hp rfl e_750) ?_
  refine Rn.n hT 2 (pc' := 328) (L' := [some (.ref q0)]) (st' := [.int (12 : Int32), .ref q0]) rfl ?_
  obtain ⟨⟨v_753, h_751⟩, e_752, e⟩ := Option.bind_eq_some_iff.mp e
  try dsimp only at e
  refine Rn.hp hT rfl rfl (nA_hp rfl e_752) ?_
  obtain ⟨h_755, e_756, e⟩ := Option.bind_eq_some_iff.mp e
  refine Rn.hp hT rfl rfl (pV_hp rfl e_756) ?_
  refine Rn.n hT 2 (pc' := 335) (L' := [some (.ref q0)]) (st' := [.int (4 : Int32), .ref q0]) rfl ?_
  obtain ⟨⟨v_759, h_757⟩, e_758, e⟩ := Option.bind_eq_some_iff.mp e
  try dsimp only at e
  refine Rn.hp hT rfl rfl (nA_hp rfl e_758) ?_
  obtain ⟨h_761, e_762, e⟩ := Option.bind_eq_some_iff.mp e
  refine Rn.hp hT rfl rfl (pV_hp rfl e_762) ?_
  refine Rn.n hT 2 (pc' := 343) (L' := [some (.ref q0)]) (st' := [.int (6 : Int32), .ref q0]) rfl ?_
  obtain ⟨⟨v_765, h_763⟩, e_764, e⟩ := Option.bind_eq_some_iff.mp e
  try dsimp only at e
  refine Rn.hp hT rfl rfl (nA_hp rfl e_764) ?_
  obtain ⟨h_767, e_768, e⟩ := Option.bind_eq_some_iff.mp e
  refine Rn.hp hT rfl rfl (pV_hp rfl e_768) ?_
  refine Rn.n hT 2 (pc' := 351) (L' := [some (.ref q0)]) (st' := [.int (16 : Int32), .ref q0]) rfl ?_
  obtain ⟨⟨v_771, h_769⟩, e_770, e⟩ := Option.bind_eq_some_iff.mp e
  try dsimp only at e
  refine Rn.hp hT rfl rfl (nA_hp rfl e_770) ?_
  obtain ⟨h_773, e_774, e⟩ := Option.bind_eq_some_iff.mp e
  refine Rn.hp hT rfl rfl (pV_hp rfl e_774) ?_
  refine Rn.n hT 2 (pc' := 359) (L' := [some (.ref q0)]) (st' := [.int (13 : Int32), .ref q0]) rfl ?_
  obtain ⟨h_775, e_776, e⟩ := Option.bind_eq_some_iff.mp e
  refine Rn.hp hT rfl rfl (pV_hp rfl e_776) ?_
  refine Rn.n hT 2 (pc' := 366) (L' := [some (.ref q0)]) (st' := [.int (400 : Int32), .ref q0]) rfl ?_
  obtain ⟨⟨v_779, h_777⟩, e_778, e⟩ := Option.bind_eq_some_iff.mp e
  try dsimp only at e
  refine Rn.hp hT rfl rfl (nA_hp rfl e_778) ?_
  obtain ⟨h_781, e_782, e⟩ := Option.bind_eq_some_iff.mp e
  refine Rn.hp hT rfl rfl (pV_hp rfl e_782) ?_
  refine Rn.n hT 2 (pc' := 375) (L' := [some (.ref q0)]) (st' := [.int (1800 : Int32), .ref q0]) rfl ?_
  obtain ⟨⟨v_785, h_783⟩, e_784, e⟩ := Option.bind_eq_some_iff.mp e
  try dsimp only at e
  refine Rn.hp hT rfl rfl (nA_hp rfl e_784) ?_
  obtain ⟨h_787, e_788, e⟩ := Option.bind_eq_some_iff.mp e
  refine Rn.hp hT rfl rfl (pV_hp rfl e_788) ?_
  refine Rn.n hT 2 (pc' := 384) (L' := [some (.ref q0)]) (st' := [.int (1800 : Int32), .ref q0]) rfl ?_
  obtain ⟨⟨v_791, h_789⟩, e_790, e⟩ := Option.bind_eq_some_iff.mp e
  try dsimp only at e
  refine Rn.hp hT rfl rfl (nA_hp rfl e_790) ?_
  obtain ⟨h_793, e_794, e⟩ := Option.bind_eq_some_iff.mp e
  refine Rn.hp hT rfl rfl (pV_hp rfl e_794) ?_
  refine Rn.n hT 2 (pc' := 392) (L' := [some (.ref q0)]) (st' := [.int (6 : Int32), .ref q0]) rfl ?_
  obtain ⟨⟨v_797, h_795⟩, e_796, e⟩ := Option.bind_eq_some_iff.mp e
  try dsimp only at e
  refine Rn.hp hT rfl rfl (nA_hp rfl e_796) ?_
  obtain ⟨h_799, e_800, e⟩ := Option.bind_eq_some_iff.mp e
  refine Rn.hp hT rfl rfl (pV_hp rfl e_800) ?_
  refine Rn.n hT 2 (pc' := 400) (L' := [some (.ref q0)]) (st' := [.int (72 : Int32), .ref q0]) rfl ?_
  obtain ⟨⟨v_803, h_801⟩, e_802, e⟩ := Option.bind_eq_some_iff.mp e
  try dsimp only at e
  refine Rn.hp hT rfl rfl (nA_hp rfl e_802) ?_
  obtain ⟨h_805, e_806, e⟩ := Option.bind_eq_some_iff.mp e
  refine Rn.hp hT rfl rfl (pV_hp rfl e_806) ?_
  refine Rn.n hT 2 (pc' := 408) (L' := [some (.ref q0)]) (st' := [.int (72 : Int32), .ref q0]) rfl ?_
  obtain ⟨⟨v_809, h_807⟩, e_808, e⟩ := Option.bind_eq_some_iff.mp e
  try dsimp only at e
  refine Rn.hp hT rfl rfl (nA_hp rfl e_808) ?_
  obtain ⟨h_811, e_812, e⟩ := Option.bind_eq_some_iff.mp e
  refine Rn.hp hT rfl rfl (pV_hp rfl e_812) ?_
  refine Rn.n hT 2 (pc' := 417) (L' := [some (.ref q0)]) (st' := [.int (402 : Int32), .ref q0]) rfl ?_
  obtain ⟨⟨v_815, h_813⟩, e_814, e⟩ := Option.bind_eq_some_iff.mp e
  try dsimp only at e
  refine Rn.hp hT rfl rfl (nA_hp rfl e_814) ?_
  obtain ⟨h_817, e_818, e⟩ := Option.bind_eq_some_iff.mp e
  refine Rn.hp hT rfl rfl (pV_hp rfl e_818) ?_
  refine Rn.n hT 2 (pc' := 425) (L' := [some (.ref q0)]) (st' := [.int (13 : Int32), .ref q0]) rfl ?_
  obtain ⟨⟨v_821, h_819⟩, e_820, e⟩ := Option.bind_eq_some_iff.mp e
  try dsimp only at e
  refine Rn.hp hT rfl rfl (nA_hp rfl e_820) ?_
  obtain ⟨h_823, e_824, e⟩ := Option.bind_eq_some_iff.mp e
  refine Rn.hp hT rfl rfl (pV_hp rfl e_824) ?_
  refine Rn.n hT 2 (pc' := 434) (L' := [some (.ref q0)]) (st' := [.int (300 : Int32), .ref q0]) rfl ?_
  obtain ⟨⟨v_827, h_825⟩, e_826, e⟩ := Option.bind_eq_some_iff.mp e
  try dsimp only at e
  refine Rn.hp hT rfl rfl (nA_hp rfl e_826) ?_
  obtain ⟨h_829, e_830, e⟩ := Option.bind_eq_some_iff.mp e
  refine Rn.hp hT rfl rfl (pV_hp rfl e_830) ?_
  refine Rn.n hT 2 (pc' := 443) (L' := [some (.ref q0)]) (st' := [.int (1501 : Int32), .ref q0]) rfl ?_
  obtain ⟨⟨v_833, h_831⟩, e_832, e⟩ := Option.bind_eq_some_iff.mp e
  try dsimp only at e
  refine Rn.hp hT rfl rfl (nA_hp rfl e_832) ?_
  obtain ⟨h_835, e_836, e⟩ := Option.bind_eq_some_iff.mp e
  refine Rn.hp hT rfl rfl (pV_hp rfl e_836) ?_
  refine Rn.n hT 2 (pc' := 452) (L' := [some (.ref q0)]) (st' := [.int (1501 : Int32), .ref q0]) rfl ?_
  obtain ⟨⟨v_839, h_837⟩, e_838, e⟩ := Option.bind_eq_some_iff.mp e
  try dsimp only at e
  refine Rn.hp hT rfl rfl (nA_hp rfl e_838) ?_
  obtain ⟨h_841, e_842, e⟩ := Option.bind_eq_some_iff.mp e
  refine Rn.hp hT rfl rfl (pV_hp rfl e_842) ?_
  refine Rn.n hT 2 (pc' := 461) (L' := [some (.ref q0)]) (st' := [.int (1501 : Int32), .ref q0]) rfl ?_
  obtain ⟨⟨v_845, h_843⟩, e_844, e⟩ := Option.bind_eq_some_iff.mp e
  try dsimp only at e
  refine Rn.hp hT rfl rfl (nA_hp rfl e_844) ?_
  obtain ⟨h_847, e_848, e⟩ := Option.bind_eq_some_iff.mp e
  refine Rn.hp hT rfl rfl (pV_hp rfl e_848) ?_
  refine Rn.n hT 2 (pc' := 470) (L' := [some (.ref q0)]) (st' := [.int (1501 : Int32), .ref q0]) rfl ?_
  obtain ⟨⟨v_851, h_849⟩, e_850, e⟩ := Option.bind_eq_some_iff.mp e
  try dsimp only at e
  refine Rn.hp hT rfl rfl (nA_hp rfl e_850) ?_
  obtain ⟨h_853, e_854, e⟩ := Option.bind_eq_some_iff.mp e
  refine Rn.hp hT rfl rfl (pV_hp rfl e_854) ?_
  refine Rn.n hT 2 (pc' := 479) (L' := [some (.ref q0)]) (st' := [.int (4096 : Int32), .ref q0]) rfl ?_
  obtain ⟨⟨v_857, h_855⟩, e_856, e⟩ := Option.bind_eq_some_iff.mp e
  try dsimp only at e
  refine Rn.hp hT rfl rfl (nA_hp rfl e_856) ?_
  obtain ⟨h_859, e_860, e⟩ := Option.bind_eq_some_iff.mp e
  refine Rn.hp hT rfl rfl (pV_hp rfl e_860) ?_
  refine Rn.n hT 2 (pc' := 488) (L' := [some (.ref q0)]) (st' := [.int (4096 : Int32), .ref q0]) rfl ?_
  obtain ⟨⟨v_863, h_861⟩, e_862, e⟩ := Option.bind_eq_some_iff.mp e
  try dsimp only at e
  refine Rn.hp hT rfl rfl (nA_hp rfl e_862) ?_
  obtain ⟨h_865, e_866, e⟩ := Option.bind_eq_some_iff.mp e
  refine Rn.hp hT rfl rfl (pV_hp rfl e_866) ?_
  refine Rn.n hT 2 (pc' := 496) (L' := [some (.ref q0)]) (st' := [.int (24 : Int32), .ref q0]) rfl ?_
  obtain ⟨⟨v_869, h_867⟩, e_868, e⟩ := Option.bind_eq_some_iff.mp e
  try dsimp only at e
  refine Rn.hp hT rfl rfl (nA_hp rfl e_868) ?_
  obtain ⟨h_871, e_872, e⟩ := Option.bind_eq_some_iff.mp e
  refine Rn.hp hT rfl rfl (pV_hp rfl e_872) ?_
  refine Rn.n hT 2 (pc' := 504) (L' := [some (.ref q0)]) (st' := [.int (16 : Int32), .ref q0]) rfl ?_
  obtain ⟨⟨v_875, h_873⟩, e_874, e⟩ := Option.bind_eq_some_iff.mp e
  try dsimp only at e
  refine Rn.hp hT rfl rfl (nA_hp rfl e_874) ?_
  obtain ⟨h_877, e_878, e⟩ := Option.bind_eq_some_iff.mp e
  refine Rn.hp hT rfl rfl (pV_hp rfl e_878) ?_
  refine Rn.n hT 2 (pc' := 512) (L' := [some (.ref q0)]) (st' := [.int (16 : Int32), .ref q0]) rfl ?_
  obtain ⟨⟨v_881, h_879⟩, e_880, e⟩ := Option.bind_eq_some_iff.mp e
  try dsimp only at e
  refine Rn.hp hT rfl rfl (nA_hp rfl e_880) ?_
  obtain ⟨h_883, e_884, e⟩ := Option.bind_eq_some_iff.mp e
  refine Rn.hp hT rfl rfl (pV_hp rfl e_884) ?_
  refine Rn.n hT 2 (pc' := 520) (L' := [some (.ref q0)]) (st' := [.int (12 : Int32), .ref q0]) rfl ?_
  obtain ⟨⟨v_887, h_885⟩, e_886, e⟩ := Option.bind_eq_some_iff.mp e
  try dsimp only at e
  refine Rn.hp hT rfl rfl (nA_hp rfl e_886) ?_
  obtain ⟨h_889, e_890, e⟩ := Option.bind_eq_some_iff.mp e
  refine Rn.hp hT rfl rfl (pV_hp rfl e_890) ?_
  refine Rn.n hT 2 (pc' := 528) (L' := [some (.ref q0)]) (st' := [.int (13 : Int32), .ref q0]) rfl ?_
  obtain ⟨⟨v_893, h_891⟩, e_892, e⟩ := Option.bind_eq_some_iff.mp e
  try dsimp only at e
  refine Rn.hp hT rfl rfl (nA_hp rfl e_892) ?_
  obtain ⟨h_895, e_896, e⟩ := Option.bind_eq_some_iff.mp e
  refine Rn.hp hT rfl rfl (pV_hp rfl e_896) ?_
  refine Rn.n hT 2 (pc' := 536) (L' := [some (.ref q0)]) (st' := [.int (12 : Int32), .ref q0]) rfl ?_
  obtain ⟨⟨v_899, h_897⟩, e_898, e⟩ := Option.bind_eq_some_iff.mp e
  try dsimp only at e
  refine Rn.hp hT rfl rfl (nA_hp rfl e_898) ?_
  obtain ⟨h_901, e_902, e⟩ := Option.bind_eq_some_iff.mp e
  refine Rn.hp hT rfl rfl (pV_hp rfl e_902) ?_
  refine Rn.n hT 2 (pc' := 545) (L' := [some (.ref q0)]) (st' := [.int (192 : Int32), .ref q0]) rfl ?_
  obtain ⟨⟨v_905, h_903⟩, e_904, e⟩ := Option.bind_eq_some_iff.mp e
  try dsimp only at e
  refine Rn.hp hT rfl rfl (nA_hp rfl e_904) ?_
  obtain ⟨h_907, e_908, e⟩ := Option.bind_eq_some_iff.mp e
  refine Rn.hp hT rfl rfl (pV_hp rfl e_908) ?_
  refine Rn.n hT 2 (pc' := 554) (L' := [some (.ref q0)]) (st' := [.int (192 : Int32), .ref q0]) rfl ?_
  obtain ⟨⟨v_911, h_909⟩, e_910, e⟩ := Option.bind_eq_some_iff.mp e
  try dsimp only at e
  refine Rn.hp hT rfl rfl (nA_hp rfl e_910) ?_
  obtain ⟨h_913, e_914, e⟩ := Option.bind_eq_some_iff.mp e
  refine Rn.hp hT rfl rfl (pV_hp rfl e_914) ?_
  refine Rn.n hT 2 (pc' := 563) (L' := [some (.ref q0)]) (st' := [.int (132 : Int32), .ref q0]) rfl ?_
  obtain ⟨⟨v_917, h_915⟩, e_916, e⟩ := Option.bind_eq_some_iff.mp e
  try dsimp only at e
  refine Rn.hp hT rfl rfl (nA_hp rfl e_916) ?_
  obtain ⟨h_919, e_920, e⟩ := Option.bind_eq_some_iff.mp e
  refine Rn.hp hT rfl rfl (pV_hp rfl e_920) ?_
  refine Rn.n hT 2 (pc' := 571) (L' := [some (.ref q0)]) (st' := [.int (6 : Int32), .ref q0]) rfl ?_
  obtain ⟨⟨v_923, h_921⟩, e_922, e⟩ := Option.bind_eq_some_iff.mp e
  try dsimp only at e
  refine Rn.hp hT rfl rfl (nA_hp rfl e_922) ?_
  obtain ⟨h_925, e_926, e⟩ := Option.bind_eq_some_iff.mp e
  refine Rn.hp hT rfl rfl (pV_hp rfl e_926) ?_
  refine Rn.n hT 2 (pc' := 579) (L' := [some (.ref q0)]) (st' := [.int (7 : Int32), .ref q0]) rfl ?_
  obtain ⟨⟨v_929, h_927⟩, e_928, e⟩ := Option.bind_eq_some_iff.mp e
  try dsimp only at e
  refine Rn.hp hT rfl rfl (nA_hp rfl e_928) ?_
  obtain ⟨h_931, e_932, e⟩ := Option.bind_eq_some_iff.mp e
  refine Rn.hp hT rfl rfl (pV_hp rfl e_932) ?_
  refine Rn.n hT 2 (pc' := 587) (L' := [some (.ref q0)]) (st' := [.int (7 : Int32), .ref q0]) rfl ?_
  obtain ⟨⟨v_935, h_933⟩, e_934, e⟩ := Option.bind_eq_some_iff.mp e
  try dsimp only at e
  refine Rn.hp hT rfl rfl (nA_hp rfl e_934) ?_
  obtain ⟨h_937, e_938, e⟩ := Option.bind_eq_some_iff.mp e
  refine Rn.hp hT rfl rfl (pV_hp rfl e_938) ?_
  refine Rn.n hT 2 (pc' := 595) (L' := [some (.ref q0)]) (st' := [.int (6 : Int32), .ref q0]) rfl ?_
  obtain ⟨⟨v_941, h_939⟩, e_940, e⟩ := Option.bind_eq_some_iff.mp e
  try dsimp only at e
  refine Rn.hp hT rfl rfl (nA_hp rfl e_940) ?_
  obtain ⟨h_943, e_944, e⟩ := Option.bind_eq_some_iff.mp e
  refine Rn.hp hT rfl rfl (pV_hp rfl e_944) ?_
  refine Rn.n hT 2 (pc' := 603) (L' := [some (.ref q0)]) (st' := [.int (72 : Int32), .ref q0]) rfl ?_
  obtain ⟨⟨v_947, h_945⟩, e_946, e⟩ := Option.bind_eq_some_iff.mp e
  try dsimp only at e
  refine Rn.hp hT rfl rfl (nA_hp rfl e_946) ?_
  obtain ⟨h_949, e_950, e⟩ := Option.bind_eq_some_iff.mp e
  refine Rn.hp hT rfl rfl (pV_hp rfl e_950) ?_
  refine Rn.n hT 2 (pc' := 610) (L' := [some (.ref q0)]) (st' := [.int (4 : Int32), .ref q0]) rfl ?_
  obtain ⟨⟨v_953, h_951⟩, e_952, e⟩ := Option.bind_eq_some_iff.mp e
  try dsimp only at e
  refine Rn.hp hT rfl rfl (nA_hp rfl e_952) ?_
  obtain ⟨h_955, e_956, e⟩ := Option.bind_eq_some_iff.mp e
  refine Rn.hp hT rfl rfl (pV_hp rfl e_956) ?_
  refine Rn.n hT 2 (pc' := 617) (L' := [some (.ref q0)]) (st' := [.int (4 : Int32), .ref q0]) rfl ?_
  obtain ⟨⟨v_959, h_957⟩, e_958, e⟩ := Option.bind_eq_some_iff.mp e
  try dsimp only at e
  refine Rn.hp hT rfl rfl (nA_hp rfl e_958) ?_
  obtain ⟨h_961, e_962, e⟩ := Option.bind_eq_some_iff.mp e
  refine Rn.hp hT rfl rfl (pV_hp rfl e_962) ?_
  refine Rn.n hT 2 (pc' := 624) (L' := [some (.ref q0)]) (st' := [.int (3 : Int32), .ref q0]) rfl ?_
  obtain ⟨⟨v_965, h_963⟩, e_964, e⟩ := Option.bind_eq_some_iff.mp e
  try dsimp only at e
  refine Rn.hp hT rfl rfl (nA_hp rfl e_964) ?_
  obtain ⟨h_967, e_968, e⟩ := Option.bind_eq_some_iff.mp e
  refine Rn.hp hT rfl rfl (pV_hp rfl e_968) ?_
  refine Rn.n hT 2 (pc' := 631) (L' := [some (.ref q0)]) (st' := [.int (4 : Int32), .ref q0]) rfl ?_
  obtain ⟨⟨v_971, h_969⟩, e_970, e⟩ := Option.bind_eq_some_iff.mp e
  try dsimp only at e
  refine Rn.hp hT rfl rfl (nA_hp rfl e_970) ?_
  obtain ⟨h_973, e_974, e⟩ := Option.bind_eq_some_iff.mp e
  refine Rn.hp hT rfl rfl (pV_hp rfl e_974) ?_
  refine Rn.n hT 2 (pc' := 640) (L' := [some (.ref q0)]) (st' := [.int (3440 : Int32), .ref q0]) rfl ?_
  obtain ⟨⟨v_977, h_975⟩, e_976, e⟩ := Option.bind_eq_some_iff.mp e
  try dsimp only at e
  refine Rn.hp hT rfl rfl (nA_hp rfl e_976) ?_
  obtain ⟨h_979, e_980, e⟩ := Option.bind_eq_some_iff.mp e
  refine Rn.hp hT rfl rfl (pV_hp rfl e_980) ?_
  refine Rn.n hT 2 (pc' := 647) (L' := [some (.ref q0)]) (st' := [.int (4 : Int32), .ref q0]) rfl ?_
  obtain ⟨⟨v_983, h_981⟩, e_982, e⟩ := Option.bind_eq_some_iff.mp e
  try dsimp only at e
  refine Rn.hp hT rfl rfl (nA_hp rfl e_982) ?_
  obtain ⟨h_985, e_986, e⟩ := Option.bind_eq_some_iff.mp e
  refine Rn.hp hT rfl rfl (pV_hp rfl e_986) ?_
  obtain rfl := Option.some.inj e
  exact Rn.ret hT rfl rfl rfl hq
