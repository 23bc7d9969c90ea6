-- MIRRORS, 9 (written by wip/whole/mir.py)
set_option maxRecDepth 10000 in
theorem hX12_rule : iv_Tb 241 tX12_rule := iv_tb_of (m := mX12_rule) rfl
set_option maxRecDepth 10000 in
theorem gX12_rule : PG.2 241 = some mX12_rule := iv_pi_of (t := tX12_rule) rfl (by decide)
def fX12_rule_l27 (N : Nat) (q0 : Nat) (kx : iv_H → Int32 → Option (Int32 × iv_H)) : Nat → iv_H → Int32 → Int32 → Option (Int32 × iv_H)
  | 0, _, _, _ => none
  | n + 1, h, x1, x2 => (if x2 = 0 then (kx h x1) else ((cko h q0 12).bind fun _ => (fX12_ruleClause N h q0 x1).bind fun h_7156 => ((cko h_7156 q0 12).bind fun _ => (fX12_goesOn N h_7156 q0).bind fun p_7161 => (fun (v_7159 : Int32) (h_7160 : iv_H) => (fX12_rule_l27 N q0 kx n h_7160 (x1 + (1 : Int32)) v_7159)) p_7161.1 p_7161.2)))
set_option maxRecDepth 10000 in
set_option maxHeartbeats 4000000 in
theorem rX12_rule_l27 {d N : Nat} (hd : 18 ≤ d) {q0 : Nat} {kx : iv_H → Int32 → Option (Int32 × iv_H)} {r : Int32 × iv_H} {Q : Option Value → iv_H → Prop} (hk : ∀ (h : iv_H) (x1 : Int32), kx h x1 = some r → Rn d 241 (some .int) 47 [some (.ref q0), some (.int x1), none] [] h Q) (hq : Q (some (.int r.1)) r.2) : ∀ (n : Nat) (h : iv_H) (x1 : Int32) (x2 : Int32), fX12_rule_l27 N q0 kx n h x1 x2 = some r → Rn d 241 (some .int) 27 [some (.ref q0), some (.int x1), some (.int x2)] [] h Q := by
  have hT := hX12_rule
  intro n
  induction n with
  | zero =>
    intro h x1 x2 e
    rw [fX12_rule_l27] at e
    cases e
  | succ n ih =>
    intro h x1 x2 e
    rw [fX12_rule_l27] at e
    refine Rn.n hT 1 (pc' := 28) (L' := [some (.ref q0), some (.int x1), some (.int x2)]) (st' := [.int x2]) rfl ?_
    by_cases c_7152 : x2 = 0
    · rw [if_pos c_7152] at e
      refine Rn.bt hT rfl rfl rfl (decide_eq_true c_7152) ?_
      exact Rn.weak (ll_s (ll_s (ll_n ll_e))) (hk h x1 e)
    · rw [if_neg c_7152] at e
      refine Rn.bf hT rfl rfl rfl (decide_eq_false c_7152) ?_
      refine Rn.n hT 2 (pc' := 33) (L' := [some (.ref q0), some (.int x1), some (.int x2)]) (st' := [.int x1, .ref q0]) rfl ?_
      obtain ⟨_, e_7154, e⟩ := Option.bind_eq_some_iff.mp e
      obtain ⟨h_7156, e_7153, e⟩ := Option.bind_eq_some_iff.mp e
      refine Rn.call hT rfl rfl rfl (Nat.le_of_ble_eq_true rfl) (rcv_v gX12_ruleClause (by omega) e_7154) (rX12_ruleClause (by omega) e_7153 ?_)
      show Rn d _ _ 36 [some (.ref q0), some (.int x1), some (.int x2)] [] h_7156 Q
      refine Rn.n hT 2 (pc' := 40) (L' := [some (.ref q0), some (.int (x1 + (1 : Int32))), some (.int x2)]) (st' := [.ref q0]) rfl ?_
      obtain ⟨_, e_7158, e⟩ := Option.bind_eq_some_iff.mp e
      obtain ⟨⟨v_7159, h_7160⟩, e_7157, e⟩ := Option.bind_eq_some_iff.mp e
      try dsimp only at e
      try dsimp only at e
      refine Rn.call hT rfl rfl rfl (Nat.le_of_ble_eq_true rfl) (rcv_v gX12_goesOn (by omega) e_7158) (rX12_goesOn (by omega) e_7157 ?_)
      show Rn d _ _ 43 [some (.ref q0), some (.int (x1 + (1 : Int32))), some (.int x2)] [.int v_7159] h_7160 Q
      refine Rn.n hT 2 (pc' := 27) (L' := [some (.ref q0), some (.int (x1 + (1 : Int32))), some (.int v_7159)]) (st' := []) rfl ?_
      exact Rn.weak (ll_s (ll_s (ll_s ll_e))) (ih h_7160 (x1 + (1 : Int32)) v_7159 e)
def fX12_rule_b106 (N : Nat) (h : iv_H)  (s0 : Int32) : Option (Int32 × iv_H) := (some (s0, h))
set_option maxRecDepth 10000 in
set_option maxHeartbeats 4000000 in
theorem rX12_rule_b106 {d N : Nat} (hd : 18 ≤ d) {h : iv_H}  {s0 : Int32} {r : Int32 × iv_H} {Q : Option Value → iv_H → Prop} (hq : Q (some (.int r.1)) r.2) (e : fX12_rule_b106 N h  s0 = some r) : Rn d 241 (some .int) 106 [none, none, none] [.int s0] h Q := by
  have hT := hX12_rule
  unfold fX12_rule_b106 at e
  obtain rfl := Option.some.inj e
  exact Rn.ret hT rfl rfl rfl hq
def fX12_rule_b79 (N : Nat) (h : iv_H) (q0 : Nat) (s0 : Int32) (s1 : Int32) (sq2 : Nat) : Option (Int32 × iv_H) := ((pV h 12 32 sq2 (.int (s1 + s0))).bind fun h_7162 => ((gI h_7162 12 30 q0).bind fun v_7164 => (if v_7164 ≤ 0 then ((gI h_7162 12 32 q0).bind fun v_7167 => (fX12_rule_b106 N h_7162 (v_7167 - (1 : Int32)))) else ((gI h_7162 12 30 q0).bind fun v_7169 => (fX12_rule_b106 N h_7162 ((-2 : Int32) - v_7169))))))
set_option maxRecDepth 10000 in
set_option maxHeartbeats 4000000 in
theorem rX12_rule_b79 {d N : Nat} (hd : 18 ≤ d) {h : iv_H} {q0 : Nat} {s0 : Int32} {s1 : Int32} {sq2 : Nat} {r : Int32 × iv_H} {Q : Option Value → iv_H → Prop} (hq : Q (some (.int r.1)) r.2) (e : fX12_rule_b79 N h q0 s0 s1 sq2 = some r) : Rn d 241 (some .int) 79 [some (.ref q0), none, none] [.int s0, .int s1, .ref sq2] h Q := by
  have hT := hX12_rule
  unfold fX12_rule_b79 at e
  refine Rn.n hT 1 (pc' := 80) (L' := [some (.ref q0), none, none]) (st' := [.int (s1 + s0), .ref sq2]) rfl ?_
  obtain ⟨h_7162, e_7163, e⟩ := Option.bind_eq_some_iff.mp e
  refine Rn.hp hT rfl rfl (pV_hp rfl e_7163) ?_
  refine Rn.n hT 1 (pc' := 84) (L' := [some (.ref q0), none, none]) (st' := [.ref q0]) rfl ?_
  obtain ⟨v_7164, e_7165, e⟩ := Option.bind_eq_some_iff.mp e
  refine Rn.hp hT rfl rfl (gI_hp e_7165) ?_
  by_cases c_7166 : v_7164 ≤ 0
  · rw [if_pos c_7166] at e
    refine Rn.bt hT rfl rfl rfl (decide_eq_true c_7166) ?_
    refine Rn.n hT 1 (pc' := 101) (L' := [some (.ref q0), none, none]) (st' := [.ref q0]) rfl ?_
    obtain ⟨v_7167, e_7168, e⟩ := Option.bind_eq_some_iff.mp e
    refine Rn.hp hT rfl rfl (gI_hp e_7168) ?_
    refine Rn.n hT 2 (pc' := 106) (L' := [some (.ref q0), none, none]) (st' := [.int (v_7167 - (1 : Int32))]) rfl ?_
    exact Rn.weak (ll_n (ll_n (ll_n ll_e))) (rX12_rule_b106 hd hq e)
  · rw [if_neg c_7166] at e
    refine Rn.bf hT rfl rfl rfl (decide_eq_false c_7166) ?_
    refine Rn.n hT 2 (pc' := 93) (L' := [some (.ref q0), none, none]) (st' := [.ref q0, .int (-2 : Int32)]) rfl ?_
    obtain ⟨v_7169, e_7170, e⟩ := Option.bind_eq_some_iff.mp e
    refine Rn.hp hT rfl rfl (gI_hp e_7170) ?_
    refine Rn.n hT 2 (pc' := 106) (L' := [some (.ref q0), none, none]) (st' := [.int ((-2 : Int32) - v_7169)]) rfl ?_
    exact Rn.weak (ll_n (ll_n (ll_n ll_e))) (rX12_rule_b106 hd hq e)
def fX12_rule (N : Nat) (h : iv_H) (q0 : Nat) : Option (Int32 × iv_H) := ((gI h 12 32 q0).bind fun v_7126 => (if v_7126 = (6 : Int32) then (some ((-1 : Int32), h)) else ((gI h 12 32 q0).bind fun v_7129 => ((pV h 12 31 q0 (.int v_7129)).bind fun h_7131 => ((cko h_7131 q0 12).bind fun _ => (fX12_starts N h_7131 q0).bind fun h_7136 => (fX12_rule_l27 N q0 (fun (h_7137 : iv_H) (z_7138 : Int32) => ((pV h_7137 12 28 q0 (.int (0 : Int32))).bind fun h_7139 => ((gR h_7139 12 42 q0).bind fun v_7141 => ((gI h_7139 12 31 q0).bind fun v_7143 => ((wI h_7139 v_7141 v_7143 z_7138).bind fun h_7145 => ((gI h_7145 12 32 q0).bind fun v_7147 => ((gI h_7145 12 30 q0).bind fun v_7149 => (if v_7149 = 0 then (fX12_rule_b79 N h_7145 q0 (1 : Int32) v_7147 q0) else (fX12_rule_b79 N h_7145 q0 (0 : Int32) v_7147 q0))))))))) N h_7136 (0 : Int32) (1 : Int32)))))))
set_option maxRecDepth 10000 in
set_option maxHeartbeats 4000000 in
theorem rX12_rule {d N : Nat} (hd : 19 ≤ d) {h : iv_H} {q0 : Nat} {r : Int32 × iv_H} {Q : Option Value → iv_H → Prop} (e : fX12_rule N h q0 = some r) (hq : Q (some (.int r.1)) r.2) : Cl d 241 [.ref q0] h Q := by
  obtain ⟨d, rfl⟩ : ∃ k, d = k + 1 := ⟨d - 1, by omega⟩
  have hd : 18 ≤ d := by omega
  have hT := hX12_rule
  unfold fX12_rule at e
  refine Cl.into (by decide) gX12_rule rfl ?_
  show Rn d 241 (some .int) 0 [some (.ref q0), none, none] [] h Q
  refine Rn.n hT 1 (pc' := 1) (L' := [some (.ref q0), none, none]) (st' := [.ref q0]) rfl ?_
  obtain ⟨v_7126, e_7127, e⟩ := Option.bind_eq_some_iff.mp e
  refine Rn.hp hT rfl rfl (gI_hp e_7127) ?_
  refine Rn.n hT 1 (pc' := 6) (L' := [some (.ref q0), none, none]) (st' := [.int (6 : Int32), .int v_7126]) rfl ?_
  by_cases c_7128 : v_7126 = (6 : Int32)
  · rw [if_pos c_7128] at e
    refine Rn.bf hT rfl rfl rfl (decide_eq_false (fun z => z c_7128)) ?_
    refine Rn.n hT 1 (pc' := 10) (L' := [some (.ref q0), none, none]) (st' := [.int (-1 : Int32)]) rfl ?_
    obtain rfl := Option.some.inj e
    exact Rn.ret hT rfl rfl rfl hq
  · rw [if_neg c_7128] at e
    refine Rn.bt hT rfl rfl rfl (decide_eq_true c_7128) ?_
    refine Rn.n hT 2 (pc' := 13) (L' := [some (.ref q0), none, none]) (st' := [.ref q0, .ref q0]) rfl ?_
    obtain ⟨v_7129, e_7130, e⟩ := Option.bind_eq_some_iff.mp e
    refine Rn.hp hT rfl rfl (gI_hp e_7130) ?_
    obtain ⟨h_7131, e_7132, e⟩ := Option.bind_eq_some_iff.mp e
    refine Rn.hp hT rfl rfl (pV_hp rfl e_7132) ?_
    refine Rn.n hT 1 (pc' := 20) (L' := [some (.ref q0), none, none]) (st' := [.ref q0]) rfl ?_
    obtain ⟨_, e_7134, e⟩ := Option.bind_eq_some_iff.mp e
    obtain ⟨h_7136, e_7133, e⟩ := Option.bind_eq_some_iff.mp e
    refine Rn.call hT rfl rfl rfl (Nat.le_of_ble_eq_true rfl) (rcv_v gX12_starts (by omega) e_7134) (rX12_starts (by omega) e_7133 ?_)
    show Rn d _ _ 23 [some (.ref q0), none, none] [] h_7136 Q
    refine Rn.n hT 4 (pc' := 27) (L' := [some (.ref q0), some (.int (0 : Int32)), some (.int (1 : Int32))]) (st' := []) rfl ?_
    refine Rn.weak (ll_s (ll_s (ll_s ll_e))) (rX12_rule_l27 hd (fun h_7137 z_7138 e => ?_) hq N h_7136 (0 : Int32) (1 : Int32) e)
    try dsimp only at e
    refine Rn.n hT 2 (pc' := 49) (L' := [some (.ref q0), some (.int z_7138), none]) (st' := [.int (0 : Int32), .ref q0]) rfl ?_
    obtain ⟨h_7139, e_7140, e⟩ := Option.bind_eq_some_iff.mp e
    refine Rn.hp hT rfl rfl (pV_hp rfl e_7140) ?_
    refine Rn.n hT 1 (pc' := 53) (L' := [some (.ref q0), some (.int z_7138), none]) (st' := [.ref q0]) rfl ?_
    obtain ⟨v_7141, e_7142, e⟩ := Option.bind_eq_some_iff.mp e
    refine Rn.hp hT rfl rfl (gR_hp e_7142) ?_
    refine Rn.n hT 1 (pc' := 57) (L' := [some (.ref q0), some (.int z_7138), none]) (st' := [.ref q0, .ref v_7141]) rfl ?_
    obtain ⟨v_7143, e_7144, e⟩ := Option.bind_eq_some_iff.mp e
    refine Rn.hp hT rfl rfl (gI_hp e_7144) ?_
    refine Rn.n hT 1 (pc' := 61) (L' := [some (.ref q0), some (.int z_7138), none]) (st' := [.int z_7138, .int v_7143, .ref v_7141]) rfl ?_
    obtain ⟨h_7145, e_7146, e⟩ := Option.bind_eq_some_iff.mp e
    refine Rn.hp hT rfl rfl (wI_hp e_7146) ?_
    refine Rn.n hT 2 (pc' := 64) (L' := [some (.ref q0), some (.int z_7138), none]) (st' := [.ref q0, .ref q0]) rfl ?_
    obtain ⟨v_7147, e_7148, e⟩ := Option.bind_eq_some_iff.mp e
    refine Rn.hp hT rfl rfl (gI_hp e_7148) ?_
    refine Rn.n hT 1 (pc' := 68) (L' := [some (.ref q0), some (.int z_7138), none]) (st' := [.ref q0, .int v_7147, .ref q0]) rfl ?_
    obtain ⟨v_7149, e_7150, e⟩ := Option.bind_eq_some_iff.mp e
    refine Rn.hp hT rfl rfl (gI_hp e_7150) ?_
    by_cases c_7151 : v_7149 = 0
    · rw [if_pos c_7151] at e
      refine Rn.bf hT rfl rfl rfl (decide_eq_false (fun z => z c_7151)) ?_
      refine Rn.n hT 2 (pc' := 79) (L' := [some (.ref q0), some (.int z_7138), none]) (st' := [.int (1 : Int32), .int v_7147, .ref q0]) rfl ?_
      exact Rn.weak (ll_s (ll_n (ll_n ll_e))) (rX12_rule_b79 hd hq e)
    · rw [if_neg c_7151] at e
      refine Rn.bt hT rfl rfl rfl (decide_eq_true c_7151) ?_
      refine Rn.n hT 1 (pc' := 79) (L' := [some (.ref q0), some (.int z_7138), none]) (st' := [.int (0 : Int32), .int v_7147, .ref q0]) rfl ?_
      exact Rn.weak (ll_s (ll_n (ll_n ll_e))) (rX12_rule_b79 hd hq e)
set_option maxRecDepth 10000 in
theorem hX12_force : iv_Tb 242 tX12_force := iv_tb_of (m := mX12_force) rfl
set_option maxRecDepth 10000 in
theorem gX12_force : PG.2 242 = some mX12_force := iv_pi_of (t := tX12_force) rfl (by decide)
def fX12_force_b25 (N : Nat) (h : iv_H)   : Option (Int32 × iv_H) := (some ((-2 : Int32), h))
set_option maxRecDepth 10000 in
set_option maxHeartbeats 4000000 in
theorem rX12_force_b25 {d N : Nat} (hd : 1 ≤ d) {h : iv_H}   {r : Int32 × iv_H} {Q : Option Value → iv_H → Prop} (hq : Q (some (.int r.1)) r.2) (e : fX12_force_b25 N h   = some r) : Rn d 242 (some .int) 25 [none, none, none] [] h Q := by
  have hT := hX12_force
  unfold fX12_force_b25 at e
  refine Rn.n hT 1 (pc' := 27) (L' := [none, none, none]) (st' := [.int (-2 : Int32)]) rfl ?_
  obtain rfl := Option.some.inj e
  exact Rn.ret hT rfl rfl rfl hq
def fX12_force (N : Nat) (h : iv_H) (q0 : Nat) (x1 : Int32) : Option (Int32 × iv_H) := ((cko h q0 12).bind fun _ => (fX12_isPalace N h q0).bind fun v_7173 => (if v_7173 = 0 then (fX12_force_b25 N h) else ((gI h 12 32 q0).bind fun v_7175 => ((fX12_in N h ((x1).toInt64) (-1 : Int64) (((v_7175 - (1 : Int32))).toInt64)).bind fun v_7178 => (if v_7178 = 0 then (fX12_force_b25 N h) else ((gR h 12 1 q0).bind fun v_7180 => ((aI h v_7180 (12 : Int32)).bind fun v_7182 => ((gR h 12 1 q0).bind fun v_7184 => ((wI h v_7184 (12 : Int32) x1).bind fun h_7186 => (some (v_7182, h_7186)))))))))))
set_option maxRecDepth 10000 in
set_option maxHeartbeats 4000000 in
theorem rX12_force {d N : Nat} (hd : 2 ≤ d) {h : iv_H} {q0 : Nat} {x1 : Int32} {r : Int32 × iv_H} {Q : Option Value → iv_H → Prop} (e : fX12_force N h q0 x1 = some r) (hq : Q (some (.int r.1)) r.2) : Cl d 242 [.ref q0, .int x1] h Q := by
  obtain ⟨d, rfl⟩ : ∃ k, d = k + 1 := ⟨d - 1, by omega⟩
  have hd : 1 ≤ d := by omega
  have hT := hX12_force
  unfold fX12_force at e
  refine Cl.into (by decide) gX12_force rfl ?_
  show Rn d 242 (some .int) 0 [some (.ref q0), some (.int x1), none] [] h Q
  refine Rn.n hT 1 (pc' := 1) (L' := [some (.ref q0), some (.int x1), none]) (st' := [.ref q0]) rfl ?_
  obtain ⟨_, e_7172, e⟩ := Option.bind_eq_some_iff.mp e
  obtain ⟨v_7173, e_7171, e⟩ := Option.bind_eq_some_iff.mp e
  refine Rn.call hT rfl rfl rfl (Nat.le_of_ble_eq_true rfl) (rcv_v gX12_isPalace (by omega) e_7172) (rX12_isPalace (by omega) e_7171 ?_)
  show Rn d _ _ 4 [some (.ref q0), some (.int x1), none] [.int v_7173] h Q
  by_cases c_7174 : v_7173 = 0
  · rw [if_pos c_7174] at e
    refine Rn.bt hT rfl rfl rfl (decide_eq_true c_7174) ?_
    exact Rn.weak (ll_n (ll_n (ll_n ll_e))) (rX12_force_b25 hd hq e)
  · rw [if_neg c_7174] at e
    refine Rn.bf hT rfl rfl rfl (decide_eq_false c_7174) ?_
    refine Rn.n hT 4 (pc' := 13) (L' := [some (.ref q0), some (.int x1), none]) (st' := [.ref q0, .long (-1 : Int64), .long ((x1).toInt64)]) rfl ?_
    obtain ⟨v_7175, e_7176, e⟩ := Option.bind_eq_some_iff.mp e
    refine Rn.hp hT rfl rfl (gI_hp e_7176) ?_
    refine Rn.n hT 3 (pc' := 19) (L' := [some (.ref q0), some (.int x1), none]) (st' := [.long (((v_7175 - (1 : Int32))).toInt64), .long (-1 : Int64), .long ((x1).toInt64)]) rfl ?_
    obtain ⟨v_7178, e_7177, e⟩ := Option.bind_eq_some_iff.mp e
    refine Rn.call hT rfl rfl rfl (Nat.le_of_ble_eq_true rfl) rfl (rX12_in (by omega) e_7177 ?_)
    show Rn d _ _ 22 [some (.ref q0), some (.int x1), none] [.int v_7178] h Q
    by_cases c_7179 : v_7178 = 0
    · rw [if_pos c_7179] at e
      refine Rn.bf hT rfl rfl rfl (decide_eq_false (fun z => z c_7179)) ?_
      exact Rn.weak (ll_n (ll_n (ll_n ll_e))) (rX12_force_b25 hd hq e)
    · rw [if_neg c_7179] at e
      refine Rn.bt hT rfl rfl rfl (decide_eq_true c_7179) ?_
      refine Rn.n hT 1 (pc' := 29) (L' := [some (.ref q0), some (.int x1), none]) (st' := [.ref q0]) rfl ?_
      obtain ⟨v_7180, e_7181, e⟩ := Option.bind_eq_some_iff.mp e
      refine Rn.hp hT rfl rfl (gR_hp e_7181) ?_
      refine Rn.n hT 1 (pc' := 34) (L' := [some (.ref q0), some (.int x1), none]) (st' := [.int (12 : Int32), .ref v_7180]) rfl ?_
      obtain ⟨v_7182, e_7183, e⟩ := Option.bind_eq_some_iff.mp e
      refine Rn.hp hT rfl rfl (aI_hp e_7183) ?_
      refine Rn.n hT 2 (pc' := 37) (L' := [some (.ref q0), some (.int x1), some (.int v_7182)]) (st' := [.ref q0]) rfl ?_
      obtain ⟨v_7184, e_7185, e⟩ := Option.bind_eq_some_iff.mp e
      refine Rn.hp hT rfl rfl (gR_hp e_7185) ?_
      refine Rn.n hT 2 (pc' := 43) (L' := [some (.ref q0), some (.int x1), some (.int v_7182)]) (st' := [.int x1, .int (12 : Int32), .ref v_7184]) rfl ?_
      obtain ⟨h_7186, e_7187, e⟩ := Option.bind_eq_some_iff.mp e
      refine Rn.hp hT rfl rfl (wI_hp e_7187) ?_
      refine Rn.n hT 1 (pc' := 45) (L' := [some (.ref q0), some (.int x1), some (.int v_7182)]) (st' := [.int v_7182]) rfl ?_
      obtain rfl := Option.some.inj e
      exact Rn.ret hT rfl rfl rfl hq
set_option maxRecDepth 10000 in
theorem hX12_law : iv_Tb 243 tX12_law := iv_tb_of (m := mX12_law) rfl
set_option maxRecDepth 10000 in
theorem gX12_law : PG.2 243 = some mX12_law := iv_pi_of (t := tX12_law) rfl (by decide)
def fX12_law_b19 (N : Nat) (h : iv_H)   : Option (Int32 × iv_H) := (some ((-2 : Int32), h))
set_option maxRecDepth 10000 in
set_option maxHeartbeats 4000000 in
theorem rX12_law_b19 {d N : Nat} (hd : 1 ≤ d) {h : iv_H}   {r : Int32 × iv_H} {Q : Option Value → iv_H → Prop} (hq : Q (some (.int r.1)) r.2) (e : fX12_law_b19 N h   = some r) : Rn d 243 (some .int) 19 [none, none, none] [] h Q := by
  have hT := hX12_law
  unfold fX12_law_b19 at e
  refine Rn.n hT 1 (pc' := 21) (L' := [none, none, none]) (st' := [.int (-2 : Int32)]) rfl ?_
  obtain rfl := Option.some.inj e
  exact Rn.ret hT rfl rfl rfl hq
def fX12_law (N : Nat) (h : iv_H) (q0 : Nat) (x1 : Int32) : Option (Int32 × iv_H) := ((cko h q0 12).bind fun _ => (fX12_isPalace N h q0).bind fun v_7190 => (if v_7190 = 0 then (fX12_law_b19 N h) else ((fX12_in N h ((x1).toInt64) (0 : Int64) (2 : Int64)).bind fun v_7193 => (if v_7193 = 0 then (fX12_law_b19 N h) else ((gR h 12 1 q0).bind fun v_7195 => ((aI h v_7195 (5 : Int32)).bind fun v_7197 => ((gR h 12 1 q0).bind fun v_7199 => ((wI h v_7199 (5 : Int32) x1).bind fun h_7201 => (some (v_7197, h_7201))))))))))
set_option maxRecDepth 10000 in
set_option maxHeartbeats 4000000 in
theorem rX12_law {d N : Nat} (hd : 2 ≤ d) {h : iv_H} {q0 : Nat} {x1 : Int32} {r : Int32 × iv_H} {Q : Option Value → iv_H → Prop} (e : fX12_law N h q0 x1 = some r) (hq : Q (some (.int r.1)) r.2) : Cl d 243 [.ref q0, .int x1] h Q := by
  obtain ⟨d, rfl⟩ : ∃ k, d = k + 1 := ⟨d - 1, by omega⟩
  have hd : 1 ≤ d := by omega
  have hT := hX12_law
  unfold fX12_law at e
  refine Cl.into (by decide) gX12_law rfl ?_
  show Rn d 243 (some .int) 0 [some (.ref q0), some (.int x1), none] [] h Q
  refine Rn.n hT 1 (pc' := 1) (L' := [some (.ref q0), some (.int x1), none]) (st' := [.ref q0]) rfl ?_
  obtain ⟨_, e_7189, e⟩ := Option.bind_eq_some_iff.mp e
  obtain ⟨v_7190, e_7188, e⟩ := Option.bind_eq_some_iff.mp e
  refine Rn.call hT rfl rfl rfl (Nat.le_of_ble_eq_true rfl) (rcv_v gX12_isPalace (by omega) e_7189) (rX12_isPalace (by omega) e_7188 ?_)
  show Rn d _ _ 4 [some (.ref q0), some (.int x1), none] [.int v_7190] h Q
  by_cases c_7191 : v_7190 = 0
  · rw [if_pos c_7191] at e
    refine Rn.bt hT rfl rfl rfl (decide_eq_true c_7191) ?_
    exact Rn.weak (ll_n (ll_n (ll_n ll_e))) (rX12_law_b19 hd hq e)
  · rw [if_neg c_7191] at e
    refine Rn.bf hT rfl rfl rfl (decide_eq_false c_7191) ?_
    refine Rn.n hT 4 (pc' := 13) (L' := [some (.ref q0), some (.int x1), none]) (st' := [.long (2 : Int64), .long (0 : Int64), .long ((x1).toInt64)]) rfl ?_
    obtain ⟨v_7193, e_7192, e⟩ := Option.bind_eq_some_iff.mp e
    refine Rn.call hT rfl rfl rfl (Nat.le_of_ble_eq_true rfl) rfl (rX12_in (by omega) e_7192 ?_)
    show Rn d _ _ 16 [some (.ref q0), some (.int x1), none] [.int v_7193] h Q
    by_cases c_7194 : v_7193 = 0
    · rw [if_pos c_7194] at e
      refine Rn.bf hT rfl rfl rfl (decide_eq_false (fun z => z c_7194)) ?_
      exact Rn.weak (ll_n (ll_n (ll_n ll_e))) (rX12_law_b19 hd hq e)
    · rw [if_neg c_7194] at e
      refine Rn.bt hT rfl rfl rfl (decide_eq_true c_7194) ?_
      refine Rn.n hT 1 (pc' := 23) (L' := [some (.ref q0), some (.int x1), none]) (st' := [.ref q0]) rfl ?_
      obtain ⟨v_7195, e_7196, e⟩ := Option.bind_eq_some_iff.mp e
      refine Rn.hp hT rfl rfl (gR_hp e_7196) ?_
      refine Rn.n hT 1 (pc' := 27) (L' := [some (.ref q0), some (.int x1), none]) (st' := [.int (5 : Int32), .ref v_7195]) rfl ?_
      obtain ⟨v_7197, e_7198, e⟩ := Option.bind_eq_some_iff.mp e
      refine Rn.hp hT rfl rfl (aI_hp e_7198) ?_
      refine Rn.n hT 2 (pc' := 30) (L' := [some (.ref q0), some (.int x1), some (.int v_7197)]) (st' := [.ref q0]) rfl ?_
      obtain ⟨v_7199, e_7200, e⟩ := Option.bind_eq_some_iff.mp e
      refine Rn.hp hT rfl rfl (gR_hp e_7200) ?_
      refine Rn.n hT 2 (pc' := 35) (L' := [some (.ref q0), some (.int x1), some (.int v_7197)]) (st' := [.int x1, .int (5 : Int32), .ref v_7199]) rfl ?_
      obtain ⟨h_7201, e_7202, e⟩ := Option.bind_eq_some_iff.mp e
      refine Rn.hp hT rfl rfl (wI_hp e_7202) ?_
      refine Rn.n hT 1 (pc' := 37) (L' := [some (.ref q0), some (.int x1), some (.int v_7197)]) (st' := [.int v_7197]) rfl ?_
      obtain rfl := Option.some.inj e
      exact Rn.ret hT rfl rfl rfl hq
set_option maxRecDepth 10000 in
theorem hX12_truth : iv_Tb 244 tX12_truth := iv_tb_of (m := mX12_truth) rfl
set_option maxRecDepth 10000 in
theorem gX12_truth : PG.2 244 = some mX12_truth := iv_pi_of (t := tX12_truth) rfl (by decide)
def fX12_truth_b9 (N : Nat) (h : iv_H)  (sj0 : Int64) : Option (Int64) := (some sj0)
set_option maxRecDepth 10000 in
set_option maxHeartbeats 4000000 in
theorem rX12_truth_b9 {d N : Nat} (hd : 0 ≤ d) {h : iv_H}  {sj0 : Int64} {r : Int64} {Q : Option Value → iv_H → Prop} (hq : Q (some (.long r)) h) (e : fX12_truth_b9 N h  sj0 = some r) : Rn d 244 (some .long) 9 [none] [.long sj0] h Q := by
  have hT := hX12_truth
  unfold fX12_truth_b9 at e
  obtain rfl := Option.some.inj e
  exact Rn.ret hT rfl rfl rfl hq
def fX12_truth (N : Nat) (h : iv_H) (x0 : Int32) : Option (Int64) := (if x0 = 0 then (fX12_truth_b9 N h (0 : Int64)) else (fX12_truth_b9 N h (1 : Int64)))
set_option maxRecDepth 10000 in
set_option maxHeartbeats 4000000 in
theorem rX12_truth {d N : Nat} (hd : 1 ≤ d) {h : iv_H} {x0 : Int32} {r : Int64} {Q : Option Value → iv_H → Prop} (e : fX12_truth N h x0 = some r) (hq : Q (some (.long r)) h) : Cl d 244 [.int x0] h Q := by
  obtain ⟨d, rfl⟩ : ∃ k, d = k + 1 := ⟨d - 1, by omega⟩
  have hd : 0 ≤ d := by omega
  have hT := hX12_truth
  unfold fX12_truth at e
  refine Cl.into (by decide) gX12_truth rfl ?_
  show Rn d 244 (some .long) 0 [some (.int x0)] [] h Q
  refine Rn.n hT 1 (pc' := 1) (L' := [some (.int x0)]) (st' := [.int x0]) rfl ?_
  by_cases c_7203 : x0 = 0
  · rw [if_pos c_7203] at e
    refine Rn.bt hT rfl rfl rfl (decide_eq_true c_7203) ?_
    refine Rn.n hT 1 (pc' := 9) (L' := [some (.int x0)]) (st' := [.long (0 : Int64)]) rfl ?_
    exact Rn.weak (ll_n ll_e) (rX12_truth_b9 hd hq e)
  · rw [if_neg c_7203] at e
    refine Rn.bf hT rfl rfl rfl (decide_eq_false c_7203) ?_
    refine Rn.n hT 2 (pc' := 9) (L' := [some (.int x0)]) (st' := [.long (1 : Int64)]) rfl ?_
    exact Rn.weak (ll_n ll_e) (rX12_truth_b9 hd hq e)
set_option maxRecDepth 10000 in
theorem hX12_both : iv_Tb 245 tX12_both := iv_tb_of (m := mX12_both) rfl
set_option maxRecDepth 10000 in
theorem gX12_both : PG.2 245 = some mX12_both := iv_pi_of (t := tX12_both) rfl (by decide)
def fX12_both_b97 (N : Nat) (h : iv_H)  (sj0 : Int64) : Option (Int64) := (some sj0)
set_option maxRecDepth 10000 in
set_option maxHeartbeats 4000000 in
theorem rX12_both_b97 {d N : Nat} (hd : 1 ≤ d) {h : iv_H}  {sj0 : Int64} {r : Int64} {Q : Option Value → iv_H → Prop} (hq : Q (some (.long r)) h) (e : fX12_both_b97 N h  sj0 = some r) : Rn d 245 (some .long) 97 [none, none, none, none, none] [.long sj0] h Q := by
  have hT := hX12_both
  unfold fX12_both_b97 at e
  obtain rfl := Option.some.inj e
  exact Rn.ret hT rfl rfl rfl hq
def fX12_both_b111 (N : Nat) (h : iv_H)  (sj0 : Int64) : Option (Int64) := (some sj0)
set_option maxRecDepth 10000 in
set_option maxHeartbeats 4000000 in
theorem rX12_both_b111 {d N : Nat} (hd : 1 ≤ d) {h : iv_H}  {sj0 : Int64} {r : Int64} {Q : Option Value → iv_H → Prop} (hq : Q (some (.long r)) h) (e : fX12_both_b111 N h  sj0 = some r) : Rn d 245 (some .long) 111 [none, none, none, none, none] [.long sj0] h Q := by
  have hT := hX12_both
  unfold fX12_both_b111 at e
  obtain rfl := Option.some.inj e
  exact Rn.ret hT rfl rfl rfl hq
def fX12_both_b123 (N : Nat) (h : iv_H)  (s0 : Int32) : Option (Int64) := ((fX12_truth N h s0).bind fun v_7228 => (some v_7228))
set_option maxRecDepth 10000 in
set_option maxHeartbeats 4000000 in
theorem rX12_both_b123 {d N : Nat} (hd : 1 ≤ d) {h : iv_H}  {s0 : Int32} {r : Int64} {Q : Option Value → iv_H → Prop} (hq : Q (some (.long r)) h) (e : fX12_both_b123 N h  s0 = some r) : Rn d 245 (some .long) 123 [none, none, none, none, none] [.int s0] h Q := by
  have hT := hX12_both
  unfold fX12_both_b123 at e
  obtain ⟨v_7228, e_7227, e⟩ := Option.bind_eq_some_iff.mp e
  refine Rn.call hT rfl rfl rfl (Nat.le_of_ble_eq_true rfl) rfl (rX12_truth (by omega) e_7227 ?_)
  show Rn d _ _ 126 [none, none, none, none, none] [.long v_7228] h Q
  obtain rfl := Option.some.inj e
  exact Rn.ret hT rfl rfl rfl hq
def fX12_both_b138 (N : Nat) (h : iv_H)  (s0 : Int32) : Option (Int64) := ((fX12_truth N h s0).bind fun v_7230 => (some v_7230))
set_option maxRecDepth 10000 in
set_option maxHeartbeats 4000000 in
theorem rX12_both_b138 {d N : Nat} (hd : 1 ≤ d) {h : iv_H}  {s0 : Int32} {r : Int64} {Q : Option Value → iv_H → Prop} (hq : Q (some (.long r)) h) (e : fX12_both_b138 N h  s0 = some r) : Rn d 245 (some .long) 138 [none, none, none, none, none] [.int s0] h Q := by
  have hT := hX12_both
  unfold fX12_both_b138 at e
  obtain ⟨v_7230, e_7229, e⟩ := Option.bind_eq_some_iff.mp e
  refine Rn.call hT rfl rfl rfl (Nat.le_of_ble_eq_true rfl) rfl (rX12_truth (by omega) e_7229 ?_)
  show Rn d _ _ 141 [none, none, none, none, none] [.long v_7230] h Q
  obtain rfl := Option.some.inj e
  exact Rn.ret hT rfl rfl rfl hq
def fX12_both_b153 (N : Nat) (h : iv_H)  (s0 : Int32) : Option (Int64) := ((fX12_truth N h s0).bind fun v_7232 => (some v_7232))
set_option maxRecDepth 10000 in
set_option maxHeartbeats 4000000 in
theorem rX12_both_b153 {d N : Nat} (hd : 1 ≤ d) {h : iv_H}  {s0 : Int32} {r : Int64} {Q : Option Value → iv_H → Prop} (hq : Q (some (.long r)) h) (e : fX12_both_b153 N h  s0 = some r) : Rn d 245 (some .long) 153 [none, none, none, none, none] [.int s0] h Q := by
  have hT := hX12_both
  unfold fX12_both_b153 at e
  obtain ⟨v_7232, e_7231, e⟩ := Option.bind_eq_some_iff.mp e
  refine Rn.call hT rfl rfl rfl (Nat.le_of_ble_eq_true rfl) rfl (rX12_truth (by omega) e_7231 ?_)
  show Rn d _ _ 156 [none, none, none, none, none] [.long v_7232] h Q
  obtain rfl := Option.some.inj e
  exact Rn.ret hT rfl rfl rfl hq
def fX12_both_b168 (N : Nat) (h : iv_H)  (s0 : Int32) : Option (Int64) := ((fX12_truth N h s0).bind fun v_7234 => (some v_7234))
set_option maxRecDepth 10000 in
set_option maxHeartbeats 4000000 in
theorem rX12_both_b168 {d N : Nat} (hd : 1 ≤ d) {h : iv_H}  {s0 : Int32} {r : Int64} {Q : Option Value → iv_H → Prop} (hq : Q (some (.long r)) h) (e : fX12_both_b168 N h  s0 = some r) : Rn d 245 (some .long) 168 [none, none, none, none, none] [.int s0] h Q := by
  have hT := hX12_both
  unfold fX12_both_b168 at e
  obtain ⟨v_7234, e_7233, e⟩ := Option.bind_eq_some_iff.mp e
  refine Rn.call hT rfl rfl rfl (Nat.le_of_ble_eq_true rfl) rfl (rX12_truth (by omega) e_7233 ?_)
  show Rn d _ _ 171 [none, none, none, none, none] [.long v_7234] h Q
  obtain rfl := Option.some.inj e
  exact Rn.ret hT rfl rfl rfl hq
def fX12_both_b183 (N : Nat) (h : iv_H)  (s0 : Int32) : Option (Int64) := ((fX12_truth N h s0).bind fun v_7236 => (some v_7236))
set_option maxRecDepth 10000 in
set_option maxHeartbeats 4000000 in
theorem rX12_both_b183 {d N : Nat} (hd : 1 ≤ d) {h : iv_H}  {s0 : Int32} {r : Int64} {Q : Option Value → iv_H → Prop} (hq : Q (some (.long r)) h) (e : fX12_both_b183 N h  s0 = some r) : Rn d 245 (some .long) 183 [none, none, none, none, none] [.int s0] h Q := by
  have hT := hX12_both
  unfold fX12_both_b183 at e
  obtain ⟨v_7236, e_7235, e⟩ := Option.bind_eq_some_iff.mp e
  refine Rn.call hT rfl rfl rfl (Nat.le_of_ble_eq_true rfl) rfl (rX12_truth (by omega) e_7235 ?_)
  show Rn d _ _ 186 [none, none, none, none, none] [.long v_7236] h Q
  obtain rfl := Option.some.inj e
  exact Rn.ret hT rfl rfl rfl hq
def fX12_both (N : Nat) (h : iv_H) (x0 : Int32) (y1 : Int64) (y3 : Int64) : Option (Int64) := (if x0 = (2 : Int32) then (some (y1 + y3)) else (if x0 = (3 : Int32) then (some (y1 - y3)) else (if x0 = (4 : Int32) then (if 0 ≤ (lg_cmp y1 y3) then (fX12_both_b123 N h (0 : Int32)) else (fX12_both_b123 N h (1 : Int32))) else (if x0 = (5 : Int32) then (if 0 < (lg_cmp y1 y3) then (fX12_both_b138 N h (0 : Int32)) else (fX12_both_b138 N h (1 : Int32))) else (if x0 = (6 : Int32) then (if (lg_cmp y1 y3) = 0 then (fX12_both_b153 N h (1 : Int32)) else (fX12_both_b153 N h (0 : Int32))) else (if x0 = (7 : Int32) then (if (lg_cmp y1 y3) < 0 then (fX12_both_b168 N h (0 : Int32)) else (fX12_both_b168 N h (1 : Int32))) else (if x0 = (8 : Int32) then (if (lg_cmp y1 y3) ≤ 0 then (fX12_both_b183 N h (0 : Int32)) else (fX12_both_b183 N h (1 : Int32))) else (if x0 = (9 : Int32) then (some (y1 ||| y3)) else (if x0 = (10 : Int32) then (some (y1 &&& y3)) else (if x0 = (11 : Int32) then (some (y1 ||| y3)) else (if x0 = (12 : Int32) then (some (y1 ||| y3)) else (if x0 = (13 : Int32) then (some (y1 * y3)) else (if x0 = (14 : Int32) then (if (lg_cmp y3 (0 : Int64)) = 0 then (fX12_both_b97 N h (0 : Int64)) else (if y3 = 0 then none else (fX12_both_b97 N h (y1 / y3)))) else (if x0 = (15 : Int32) then (if (lg_cmp y3 (0 : Int64)) = 0 then (fX12_both_b111 N h (0 : Int64)) else (if y3 = 0 then none else (fX12_both_b111 N h (y1 - y1 / y3 * y3)))) else (some (y1 ||| y3))))))))))))))))
set_option maxRecDepth 10000 in
set_option maxHeartbeats 4000000 in
theorem rX12_both {d N : Nat} (hd : 2 ≤ d) {h : iv_H} {x0 : Int32} {y1 : Int64} {y3 : Int64} {r : Int64} {Q : Option Value → iv_H → Prop} (e : fX12_both N h x0 y1 y3 = some r) (hq : Q (some (.long r)) h) : Cl d 245 [.int x0, .long y1, .long y3] h Q := by
  obtain ⟨d, rfl⟩ : ∃ k, d = k + 1 := ⟨d - 1, by omega⟩
  have hd : 1 ≤ d := by omega
  have hT := hX12_both
  unfold fX12_both at e
  refine Cl.into (by decide) gX12_both rfl ?_
  show Rn d 245 (some .long) 0 [some (.int x0), some (.long y1), none, some (.long y3), none] [] h Q
  refine Rn.n hT 1 (pc' := 1) (L' := [some (.int x0), some (.long y1), none, some (.long y3), none]) (st' := [.int x0]) rfl ?_
  by_cases c_7204 : x0 = (2 : Int32)
  · rw [if_pos c_7204] at e
    refine Rn.sw2 hT rfl rfl rfl (if_pos c_7204) ?_
    refine Rn.n hT 3 (pc' := 75) (L' := [some (.int x0), some (.long y1), none, some (.long y3), none]) (st' := [.long (y1 + y3)]) rfl ?_
    obtain rfl := Option.some.inj e
    exact Rn.ret hT rfl rfl rfl hq
  · rw [if_neg c_7204] at e
    by_cases c_7205 : x0 = (3 : Int32)
    · rw [if_pos c_7205] at e
      refine Rn.sw2 hT rfl rfl rfl ((if_neg c_7204).trans (if_pos c_7205)) ?_
      refine Rn.n hT 3 (pc' := 79) (L' := [some (.int x0), some (.long y1), none, some (.long y3), none]) (st' := [.long (y1 - y3)]) rfl ?_
      obtain rfl := Option.some.inj e
      exact Rn.ret hT rfl rfl rfl hq
    · rw [if_neg c_7205] at e
      by_cases c_7206 : x0 = (4 : Int32)
      · rw [if_pos c_7206] at e
        refine Rn.sw2 hT rfl rfl rfl ((if_neg c_7204).trans ((if_neg c_7205).trans (if_pos c_7206))) ?_
        refine Rn.n hT 3 (pc' := 115) (L' := [some (.int x0), some (.long y1), none, some (.long y3), none]) (st' := [.int (lg_cmp y1 y3)]) rfl ?_
        by_cases c_7207 : 0 ≤ (lg_cmp y1 y3)
        · rw [if_pos c_7207] at e
          refine Rn.bt hT rfl rfl rfl (decide_eq_true c_7207) ?_
          refine Rn.n hT 1 (pc' := 123) (L' := [some (.int x0), some (.long y1), none, some (.long y3), none]) (st' := [.int (0 : Int32)]) rfl ?_
          exact Rn.weak (ll_n (ll_n (ll_n (ll_n (ll_n ll_e))))) (rX12_both_b123 hd hq e)
        · rw [if_neg c_7207] at e
          refine Rn.bf hT rfl rfl rfl (decide_eq_false c_7207) ?_
          refine Rn.n hT 2 (pc' := 123) (L' := [some (.int x0), some (.long y1), none, some (.long y3), none]) (st' := [.int (1 : Int32)]) rfl ?_
          exact Rn.weak (ll_n (ll_n (ll_n (ll_n (ll_n ll_e))))) (rX12_both_b123 hd hq e)
      · rw [if_neg c_7206] at e
        by_cases c_7208 : x0 = (5 : Int32)
        · rw [if_pos c_7208] at e
          refine Rn.sw2 hT rfl rfl rfl ((if_neg c_7204).trans ((if_neg c_7205).trans ((if_neg c_7206).trans (if_pos c_7208)))) ?_
          refine Rn.n hT 3 (pc' := 130) (L' := [some (.int x0), some (.long y1), none, some (.long y3), none]) (st' := [.int (lg_cmp y1 y3)]) rfl ?_
          by_cases c_7209 : 0 < (lg_cmp y1 y3)
          · rw [if_pos c_7209] at e
            refine Rn.bt hT rfl rfl rfl (decide_eq_true c_7209) ?_
            refine Rn.n hT 1 (pc' := 138) (L' := [some (.int x0), some (.long y1), none, some (.long y3), none]) (st' := [.int (0 : Int32)]) rfl ?_
            exact Rn.weak (ll_n (ll_n (ll_n (ll_n (ll_n ll_e))))) (rX12_both_b138 hd hq e)
          · rw [if_neg c_7209] at e
            refine Rn.bf hT rfl rfl rfl (decide_eq_false c_7209) ?_
            refine Rn.n hT 2 (pc' := 138) (L' := [some (.int x0), some (.long y1), none, some (.long y3), none]) (st' := [.int (1 : Int32)]) rfl ?_
            exact Rn.weak (ll_n (ll_n (ll_n (ll_n (ll_n ll_e))))) (rX12_both_b138 hd hq e)
        · rw [if_neg c_7208] at e
          by_cases c_7210 : x0 = (6 : Int32)
          · rw [if_pos c_7210] at e
            refine Rn.sw2 hT rfl rfl rfl ((if_neg c_7204).trans ((if_neg c_7205).trans ((if_neg c_7206).trans ((if_neg c_7208).trans (if_pos c_7210))))) ?_
            refine Rn.n hT 3 (pc' := 145) (L' := [some (.int x0), some (.long y1), none, some (.long y3), none]) (st' := [.int (lg_cmp y1 y3)]) rfl ?_
            by_cases c_7211 : (lg_cmp y1 y3) = 0
            · rw [if_pos c_7211] at e
              refine Rn.bf hT rfl rfl rfl (decide_eq_false (fun z => z c_7211)) ?_
              refine Rn.n hT 2 (pc' := 153) (L' := [some (.int x0), some (.long y1), none, some (.long y3), none]) (st' := [.int (1 : Int32)]) rfl ?_
              exact Rn.weak (ll_n (ll_n (ll_n (ll_n (ll_n ll_e))))) (rX12_both_b153 hd hq e)
            · rw [if_neg c_7211] at e
              refine Rn.bt hT rfl rfl rfl (decide_eq_true c_7211) ?_
              refine Rn.n hT 1 (pc' := 153) (L' := [some (.int x0), some (.long y1), none, some (.long y3), none]) (st' := [.int (0 : Int32)]) rfl ?_
              exact Rn.weak (ll_n (ll_n (ll_n (ll_n (ll_n ll_e))))) (rX12_both_b153 hd hq e)
          · rw [if_neg c_7210] at e
            by_cases c_7212 : x0 = (7 : Int32)
            · rw [if_pos c_7212] at e
              refine Rn.sw2 hT rfl rfl rfl ((if_neg c_7204).trans ((if_neg c_7205).trans ((if_neg c_7206).trans ((if_neg c_7208).trans ((if_neg c_7210).trans (if_pos c_7212)))))) ?_
              refine Rn.n hT 3 (pc' := 160) (L' := [some (.int x0), some (.long y1), none, some (.long y3), none]) (st' := [.int (lg_cmp y1 y3)]) rfl ?_
              by_cases c_7213 : (lg_cmp y1 y3) < 0
              · rw [if_pos c_7213] at e
                refine Rn.bt hT rfl rfl rfl (decide_eq_true c_7213) ?_
                refine Rn.n hT 1 (pc' := 168) (L' := [some (.int x0), some (.long y1), none, some (.long y3), none]) (st' := [.int (0 : Int32)]) rfl ?_
                exact Rn.weak (ll_n (ll_n (ll_n (ll_n (ll_n ll_e))))) (rX12_both_b168 hd hq e)
              · rw [if_neg c_7213] at e
                refine Rn.bf hT rfl rfl rfl (decide_eq_false c_7213) ?_
                refine Rn.n hT 2 (pc' := 168) (L' := [some (.int x0), some (.long y1), none, some (.long y3), none]) (st' := [.int (1 : Int32)]) rfl ?_
                exact Rn.weak (ll_n (ll_n (ll_n (ll_n (ll_n ll_e))))) (rX12_both_b168 hd hq e)
            · rw [if_neg c_7212] at e
              by_cases c_7214 : x0 = (8 : Int32)
              · rw [if_pos c_7214] at e
                refine Rn.sw2 hT rfl rfl rfl ((if_neg c_7204).trans ((if_neg c_7205).trans ((if_neg c_7206).trans ((if_neg c_7208).trans ((if_neg c_7210).trans ((if_neg c_7212).trans (if_pos c_7214))))))) ?_
                refine Rn.n hT 3 (pc' := 175) (L' := [some (.int x0), some (.long y1), none, some (.long y3), none]) (st' := [.int (lg_cmp y1 y3)]) rfl ?_
                by_cases c_7215 : (lg_cmp y1 y3) ≤ 0
                · rw [if_pos c_7215] at e
                  refine Rn.bt hT rfl rfl rfl (decide_eq_true c_7215) ?_
                  refine Rn.n hT 1 (pc' := 183) (L' := [some (.int x0), some (.long y1), none, some (.long y3), none]) (st' := [.int (0 : Int32)]) rfl ?_
                  exact Rn.weak (ll_n (ll_n (ll_n (ll_n (ll_n ll_e))))) (rX12_both_b183 hd hq e)
                · rw [if_neg c_7215] at e
                  refine Rn.bf hT rfl rfl rfl (decide_eq_false c_7215) ?_
                  refine Rn.n hT 2 (pc' := 183) (L' := [some (.int x0), some (.long y1), none, some (.long y3), none]) (st' := [.int (1 : Int32)]) rfl ?_
                  exact Rn.weak (ll_n (ll_n (ll_n (ll_n (ll_n ll_e))))) (rX12_both_b183 hd hq e)
              · rw [if_neg c_7214] at e
                by_cases c_7216 : x0 = (9 : Int32)
                · rw [if_pos c_7216] at e
                  refine Rn.sw2 hT rfl rfl rfl ((if_neg c_7204).trans ((if_neg c_7205).trans ((if_neg c_7206).trans ((if_neg c_7208).trans ((if_neg c_7210).trans ((if_neg c_7212).trans ((if_neg c_7214).trans (if_pos c_7216)))))))) ?_
                  refine Rn.n hT 3 (pc' := 194) (L' := [some (.int x0), some (.long y1), none, some (.long y3), none]) (st' := [.long (y1 ||| y3)]) rfl ?_
                  obtain rfl := Option.some.inj e
                  exact Rn.ret hT rfl rfl rfl hq
                · rw [if_neg c_7216] at e
                  by_cases c_7217 : x0 = (10 : Int32)
                  · rw [if_pos c_7217] at e
                    refine Rn.sw2 hT rfl rfl rfl ((if_neg c_7204).trans ((if_neg c_7205).trans ((if_neg c_7206).trans ((if_neg c_7208).trans ((if_neg c_7210).trans ((if_neg c_7212).trans ((if_neg c_7214).trans ((if_neg c_7216).trans (if_pos c_7217))))))))) ?_
                    refine Rn.n hT 3 (pc' := 190) (L' := [some (.int x0), some (.long y1), none, some (.long y3), none]) (st' := [.long (y1 &&& y3)]) rfl ?_
                    obtain rfl := Option.some.inj e
                    exact Rn.ret hT rfl rfl rfl hq
                  · rw [if_neg c_7217] at e
                    by_cases c_7218 : x0 = (11 : Int32)
                    · rw [if_pos c_7218] at e
                      refine Rn.sw2 hT rfl rfl rfl ((if_neg c_7204).trans ((if_neg c_7205).trans ((if_neg c_7206).trans ((if_neg c_7208).trans ((if_neg c_7210).trans ((if_neg c_7212).trans ((if_neg c_7214).trans ((if_neg c_7216).trans ((if_neg c_7217).trans (if_pos c_7218)))))))))) ?_
                      refine Rn.n hT 3 (pc' := 194) (L' := [some (.int x0), some (.long y1), none, some (.long y3), none]) (st' := [.long (y1 ||| y3)]) rfl ?_
                      obtain rfl := Option.some.inj e
                      exact Rn.ret hT rfl rfl rfl hq
                    · rw [if_neg c_7218] at e
                      by_cases c_7219 : x0 = (12 : Int32)
                      · rw [if_pos c_7219] at e
                        refine Rn.sw2 hT rfl rfl rfl ((if_neg c_7204).trans ((if_neg c_7205).trans ((if_neg c_7206).trans ((if_neg c_7208).trans ((if_neg c_7210).trans ((if_neg c_7212).trans ((if_neg c_7214).trans ((if_neg c_7216).trans ((if_neg c_7217).trans ((if_neg c_7218).trans (if_pos c_7219))))))))))) ?_
                        refine Rn.n hT 3 (pc' := 194) (L' := [some (.int x0), some (.long y1), none, some (.long y3), none]) (st' := [.long (y1 ||| y3)]) rfl ?_
                        obtain rfl := Option.some.inj e
                        exact Rn.ret hT rfl rfl rfl hq
                      · rw [if_neg c_7219] at e
                        by_cases c_7220 : x0 = (13 : Int32)
                        · rw [if_pos c_7220] at e
                          refine Rn.sw2 hT rfl rfl rfl ((if_neg c_7204).trans ((if_neg c_7205).trans ((if_neg c_7206).trans ((if_neg c_7208).trans ((if_neg c_7210).trans ((if_neg c_7212).trans ((if_neg c_7214).trans ((if_neg c_7216).trans ((if_neg c_7217).trans ((if_neg c_7218).trans ((if_neg c_7219).trans (if_pos c_7220)))))))))))) ?_
                          refine Rn.n hT 3 (pc' := 83) (L' := [some (.int x0), some (.long y1), none, some (.long y3), none]) (st' := [.long (y1 * y3)]) rfl ?_
                          obtain rfl := Option.some.inj e
                          exact Rn.ret hT rfl rfl rfl hq
                        · rw [if_neg c_7220] at e
                          by_cases c_7221 : x0 = (14 : Int32)
                          · rw [if_pos c_7221] at e
                            refine Rn.sw2 hT rfl rfl rfl ((if_neg c_7204).trans ((if_neg c_7205).trans ((if_neg c_7206).trans ((if_neg c_7208).trans ((if_neg c_7210).trans ((if_neg c_7212).trans ((if_neg c_7214).trans ((if_neg c_7216).trans ((if_neg c_7217).trans ((if_neg c_7218).trans ((if_neg c_7219).trans ((if_neg c_7220).trans (if_pos c_7221))))))))))))) ?_
                            refine Rn.n hT 3 (pc' := 87) (L' := [some (.int x0), some (.long y1), none, some (.long y3), none]) (st' := [.int (lg_cmp y3 (0 : Int64))]) rfl ?_
                            by_cases c_7222 : (lg_cmp y3 (0 : Int64)) = 0
                            · rw [if_pos c_7222] at e
                              refine Rn.bf hT rfl rfl rfl (decide_eq_false (fun z => z c_7222)) ?_
                              refine Rn.n hT 2 (pc' := 97) (L' := [some (.int x0), some (.long y1), none, some (.long y3), none]) (st' := [.long (0 : Int64)]) rfl ?_
                              exact Rn.weak (ll_n (ll_n (ll_n (ll_n (ll_n ll_e))))) (rX12_both_b97 hd hq e)
                            · rw [if_neg c_7222] at e
                              refine Rn.bt hT rfl rfl rfl (decide_eq_true c_7222) ?_
                              refine Rn.n hT 2 (pc' := 96) (L' := [some (.int x0), some (.long y1), none, some (.long y3), none]) (st' := [.long y3, .long y1]) rfl ?_
                              by_cases c_7223 : y3 = 0
                              · rw [if_pos c_7223] at e
                                cases e
                              · rw [if_neg c_7223] at e
                                refine Rn.pu hT rfl rfl (st' := [.long (y1 / y3)]) (if_neg c_7223) ?_
                                exact Rn.weak (ll_n (ll_n (ll_n (ll_n (ll_n ll_e))))) (rX12_both_b97 hd hq e)
                          · rw [if_neg c_7221] at e
                            by_cases c_7224 : x0 = (15 : Int32)
                            · rw [if_pos c_7224] at e
                              refine Rn.sw2 hT rfl rfl rfl ((if_neg c_7204).trans ((if_neg c_7205).trans ((if_neg c_7206).trans ((if_neg c_7208).trans ((if_neg c_7210).trans ((if_neg c_7212).trans ((if_neg c_7214).trans ((if_neg c_7216).trans ((if_neg c_7217).trans ((if_neg c_7218).trans ((if_neg c_7219).trans ((if_neg c_7220).trans ((if_neg c_7221).trans (if_pos c_7224)))))))))))))) ?_
                              refine Rn.n hT 3 (pc' := 101) (L' := [some (.int x0), some (.long y1), none, some (.long y3), none]) (st' := [.int (lg_cmp y3 (0 : Int64))]) rfl ?_
                              by_cases c_7225 : (lg_cmp y3 (0 : Int64)) = 0
                              · rw [if_pos c_7225] at e
                                refine Rn.bf hT rfl rfl rfl (decide_eq_false (fun z => z c_7225)) ?_
                                refine Rn.n hT 2 (pc' := 111) (L' := [some (.int x0), some (.long y1), none, some (.long y3), none]) (st' := [.long (0 : Int64)]) rfl ?_
                                exact Rn.weak (ll_n (ll_n (ll_n (ll_n (ll_n ll_e))))) (rX12_both_b111 hd hq e)
                              · rw [if_neg c_7225] at e
                                refine Rn.bt hT rfl rfl rfl (decide_eq_true c_7225) ?_
                                refine Rn.n hT 2 (pc' := 110) (L' := [some (.int x0), some (.long y1), none, some (.long y3), none]) (st' := [.long y3, .long y1]) rfl ?_
                                by_cases c_7226 : y3 = 0
                                · rw [if_pos c_7226] at e
                                  cases e
                                · rw [if_neg c_7226] at e
                                  refine Rn.pu hT rfl rfl (st' := [.long (y1 - y1 / y3 * y3)]) (if_neg c_7226) ?_
                                  exact Rn.weak (ll_n (ll_n (ll_n (ll_n (ll_n ll_e))))) (rX12_both_b111 hd hq e)
                            · rw [if_neg c_7224] at e
                              refine Rn.sw2 hT rfl rfl rfl ((if_neg c_7204).trans ((if_neg c_7205).trans ((if_neg c_7206).trans ((if_neg c_7208).trans ((if_neg c_7210).trans ((if_neg c_7212).trans ((if_neg c_7214).trans ((if_neg c_7216).trans ((if_neg c_7217).trans ((if_neg c_7218).trans ((if_neg c_7219).trans ((if_neg c_7220).trans ((if_neg c_7221).trans ((if_neg c_7224).trans rfl)))))))))))))) ?_
                              refine Rn.n hT 3 (pc' := 194) (L' := [some (.int x0), some (.long y1), none, some (.long y3), none]) (st' := [.long (y1 ||| y3)]) rfl ?_
                              obtain rfl := Option.some.inj e
                              exact Rn.ret hT rfl rfl rfl hq
set_option maxRecDepth 10000 in
theorem hX12_answer : iv_Tb 246 tX12_answer := iv_tb_of (m := mX12_answer) rfl
set_option maxRecDepth 10000 in
theorem gX12_answer : PG.2 246 = some mX12_answer := iv_pi_of (t := tX12_answer) rfl (by decide)
def fX12_answer_b147 (N : Nat) (h : iv_H) (q0 : Nat) (x1 : Int32) (x3 : Int32) (x4 : Int32) (x5 : Int32)  (kb : iv_H → Int32 → Int32 → Option (Int64 × iv_H)) (kx : iv_H → Option (Int64 × iv_H)) : Option (Int64 × iv_H) := (kb h x4 (x5 + (1 : Int32)))
set_option maxRecDepth 10000 in
set_option maxHeartbeats 4000000 in
theorem rX12_answer_b147 {d N : Nat} (hd : 2 ≤ d) {h : iv_H} {q0 : Nat} {x1 : Int32} {x3 : Int32} {x4 : Int32} {x5 : Int32}  {kb : iv_H → Int32 → Int32 → Option (Int64 × iv_H)} {kx : iv_H → Option (Int64 × iv_H)} {r : Int64 × iv_H} {Q : Option Value → iv_H → Prop} (hb : ∀ (h : iv_H) (w4 : Int32) (w5 : Int32), kb h w4 w5 = some r → Rn d 246 (some .long) 6 [some (.ref q0), some (.int x1), none, some (.int x3), some (.int w4), some (.int w5), none, none] [] h Q) (hk : ∀ (h : iv_H), kx h = some r → Rn d 246 (some .long) 153 [some (.ref q0), none, none, none, none, none, none, none] [] h Q) (hq : Q (some (.long r.1)) r.2) (e : fX12_answer_b147 N h q0 x1 x3 x4 x5  kb kx = some r) : Rn d 246 (some .long) 147 [some (.ref q0), some (.int x1), none, some (.int x3), some (.int x4), some (.int x5), none, none] [] h Q := by
  have hT := hX12_answer
  unfold fX12_answer_b147 at e
  refine Rn.n hT 2 (pc' := 6) (L' := [some (.ref q0), some (.int x1), none, some (.int x3), some (.int x4), some (.int (x5 + (1 : Int32))), none, none]) (st' := []) rfl ?_
  exact Rn.weak (ll_s (ll_s (ll_n (ll_s (ll_s (ll_s (ll_n (ll_n ll_e)))))))) (hb h x4 (x5 + (1 : Int32)) e)
def fX12_answer_b77 (N : Nat) (h : iv_H) (q0 : Nat) (x1 : Int32) (x3 : Int32) (x4 : Int32) (x5 : Int32) (sj0 : Int64) (s1 : Int32) (sq2 : Nat) (kb : iv_H → Int32 → Int32 → Option (Int64 × iv_H)) (kx : iv_H → Option (Int64 × iv_H)) : Option (Int64 × iv_H) := ((wJ h sq2 s1 sj0).bind fun h_7283 => (fX12_answer_b147 N h_7283 q0 x1 x3 (x4 + (1 : Int32)) x5 kb kx))
set_option maxRecDepth 10000 in
set_option maxHeartbeats 4000000 in
theorem rX12_answer_b77 {d N : Nat} (hd : 2 ≤ d) {h : iv_H} {q0 : Nat} {x1 : Int32} {x3 : Int32} {x4 : Int32} {x5 : Int32} {sj0 : Int64} {s1 : Int32} {sq2 : Nat} {kb : iv_H → Int32 → Int32 → Option (Int64 × iv_H)} {kx : iv_H → Option (Int64 × iv_H)} {r : Int64 × iv_H} {Q : Option Value → iv_H → Prop} (hb : ∀ (h : iv_H) (w4 : Int32) (w5 : Int32), kb h w4 w5 = some r → Rn d 246 (some .long) 6 [some (.ref q0), some (.int x1), none, some (.int x3), some (.int w4), some (.int w5), none, none] [] h Q) (hk : ∀ (h : iv_H), kx h = some r → Rn d 246 (some .long) 153 [some (.ref q0), none, none, none, none, none, none, none] [] h Q) (hq : Q (some (.long r.1)) r.2) (e : fX12_answer_b77 N h q0 x1 x3 x4 x5 sj0 s1 sq2 kb kx = some r) : Rn d 246 (some .long) 77 [some (.ref q0), some (.int x1), none, some (.int x3), some (.int x4), some (.int x5), none, none] [.long sj0, .int s1, .ref sq2] h Q := by
  have hT := hX12_answer
  unfold fX12_answer_b77 at e
  obtain ⟨h_7283, e_7284, e⟩ := Option.bind_eq_some_iff.mp e
  refine Rn.hp hT rfl rfl (wJ_hp e_7284) ?_
  refine Rn.n hT 2 (pc' := 147) (L' := [some (.ref q0), some (.int x1), none, some (.int x3), some (.int (x4 + (1 : Int32))), some (.int x5), none, none]) (st' := []) rfl ?_
  exact Rn.weak (ll_s (ll_s (ll_n (ll_s (ll_s (ll_s (ll_n (ll_n ll_e)))))))) (rX12_answer_b147 hd hb hk hq e)
def fX12_answer_b53 (N : Nat) (h : iv_H) (q0 : Nat) (x1 : Int32) (x3 : Int32) (x4 : Int32) (x5 : Int32) (x6 : Int32) (x7 : Int32)  (kb : iv_H → Int32 → Int32 → Option (Int64 × iv_H)) (kx : iv_H → Option (Int64 × iv_H)) : Option (Int64 × iv_H) := ((gR h 12 47 q0).bind fun v_7276 => (if x6 = 0 then (fX12_answer_b77 N h q0 x1 x3 x4 x5 ((x7).toInt64) x4 v_7276 kb kx) else ((gR h 12 46 q0).bind fun v_7279 => ((aJ h v_7279 x7).bind fun v_7281 => (fX12_answer_b77 N h q0 x1 x3 x4 x5 v_7281 x4 v_7276 kb kx)))))
set_option maxRecDepth 10000 in
set_option maxHeartbeats 4000000 in
theorem rX12_answer_b53 {d N : Nat} (hd : 2 ≤ d) {h : iv_H} {q0 : Nat} {x1 : Int32} {x3 : Int32} {x4 : Int32} {x5 : Int32} {x6 : Int32} {x7 : Int32}  {kb : iv_H → Int32 → Int32 → Option (Int64 × iv_H)} {kx : iv_H → Option (Int64 × iv_H)} {r : Int64 × iv_H} {Q : Option Value → iv_H → Prop} (hb : ∀ (h : iv_H) (w4 : Int32) (w5 : Int32), kb h w4 w5 = some r → Rn d 246 (some .long) 6 [some (.ref q0), some (.int x1), none, some (.int x3), some (.int w4), some (.int w5), none, none] [] h Q) (hk : ∀ (h : iv_H), kx h = some r → Rn d 246 (some .long) 153 [some (.ref q0), none, none, none, none, none, none, none] [] h Q) (hq : Q (some (.long r.1)) r.2) (e : fX12_answer_b53 N h q0 x1 x3 x4 x5 x6 x7  kb kx = some r) : Rn d 246 (some .long) 53 [some (.ref q0), some (.int x1), none, some (.int x3), some (.int x4), some (.int x5), some (.int x6), some (.int x7)] [] h Q := by
  have hT := hX12_answer
  unfold fX12_answer_b53 at e
  refine Rn.n hT 1 (pc' := 54) (L' := [some (.ref q0), some (.int x1), none, some (.int x3), some (.int x4), some (.int x5), some (.int x6), some (.int x7)]) (st' := [.ref q0]) rfl ?_
  obtain ⟨v_7276, e_7277, e⟩ := Option.bind_eq_some_iff.mp e
  refine Rn.hp hT rfl rfl (gR_hp e_7277) ?_
  refine Rn.n hT 2 (pc' := 61) (L' := [some (.ref q0), some (.int x1), none, some (.int x3), some (.int x4), some (.int x5), some (.int x6), some (.int x7)]) (st' := [.int x6, .int x4, .ref v_7276]) rfl ?_
  by_cases c_7278 : x6 = 0
  · rw [if_pos c_7278] at e
    refine Rn.bf hT rfl rfl rfl (decide_eq_false (fun z => z c_7278)) ?_
    refine Rn.n hT 3 (pc' := 77) (L' := [some (.ref q0), some (.int x1), none, some (.int x3), some (.int x4), some (.int x5), some (.int x6), some (.int x7)]) (st' := [.long ((x7).toInt64), .int x4, .ref v_7276]) rfl ?_
    exact Rn.weak (ll_s (ll_s (ll_n (ll_s (ll_s (ll_s (ll_n (ll_n ll_e)))))))) (rX12_answer_b77 hd hb hk hq e)
  · rw [if_neg c_7278] at e
    refine Rn.bt hT rfl rfl rfl (decide_eq_true c_7278) ?_
    refine Rn.n hT 1 (pc' := 71) (L' := [some (.ref q0), some (.int x1), none, some (.int x3), some (.int x4), some (.int x5), some (.int x6), some (.int x7)]) (st' := [.ref q0, .int x4, .ref v_7276]) rfl ?_
    obtain ⟨v_7279, e_7280, e⟩ := Option.bind_eq_some_iff.mp e
    refine Rn.hp hT rfl rfl (gR_hp e_7280) ?_
    refine Rn.n hT 1 (pc' := 76) (L' := [some (.ref q0), some (.int x1), none, some (.int x3), some (.int x4), some (.int x5), some (.int x6), some (.int x7)]) (st' := [.int x7, .ref v_7279, .int x4, .ref v_7276]) rfl ?_
    obtain ⟨v_7281, e_7282, e⟩ := Option.bind_eq_some_iff.mp e
    refine Rn.hp hT rfl rfl (aJ_hp e_7282) ?_
    exact Rn.weak (ll_s (ll_s (ll_n (ll_s (ll_s (ll_s (ll_n (ll_n ll_e)))))))) (rX12_answer_b77 hd hb hk hq e)
def fX12_answer_l6 (N : Nat) (q0 : Nat) (x1 : Int32) (x3 : Int32) (kx : iv_H → Option (Int64 × iv_H)) : Nat → iv_H → Int32 → Int32 → Option (Int64 × iv_H)
  | 0, _, _, _ => none
  | n + 1, h, x4, x5 => (if x3 ≤ x5 then (kx h) else ((gR h 12 40 q0).bind fun v_7243 => ((aI h v_7243 (((300 : Int32) * x1) + x5)).bind fun v_7245 => ((gR h 12 41 q0).bind fun v_7247 => ((aI h v_7247 (((300 : Int32) * x1) + x5)).bind fun v_7249 => (if v_7245 = 0 then (fX12_answer_b53 N h q0 x1 x3 x4 x5 v_7245 v_7249 (fX12_answer_l6 N q0 x1 x3 kx n) kx) else (if v_7245 = (1 : Int32) then (fX12_answer_b53 N h q0 x1 x3 x4 x5 v_7245 v_7249 (fX12_answer_l6 N q0 x1 x3 kx n) kx) else (if v_7245 = (9 : Int32) then ((gR h 12 47 q0).bind fun v_7268 => ((gR h 12 47 q0).bind fun v_7270 => ((aJ h v_7270 (x4 - (1 : Int32))).bind fun v_7272 => ((wJ h v_7268 (x4 - (1 : Int32)) ((1 : Int64) - v_7272)).bind fun h_7274 => (fX12_answer_b147 N h_7274 q0 x1 x3 x4 x5 (fX12_answer_l6 N q0 x1 x3 kx n) kx))))) else ((gR h 12 47 q0).bind fun v_7254 => ((gR h 12 47 q0).bind fun v_7256 => ((aJ h v_7256 ((x4 + (-1 : Int32)) - (1 : Int32))).bind fun v_7258 => ((gR h 12 47 q0).bind fun v_7260 => ((aJ h v_7260 (x4 + (-1 : Int32))).bind fun v_7262 => ((fX12_both N h v_7245 v_7258 v_7262).bind fun v_7265 => ((wJ h v_7254 ((x4 + (-1 : Int32)) - (1 : Int32)) v_7265).bind fun h_7266 => (fX12_answer_b147 N h_7266 q0 x1 x3 (x4 + (-1 : Int32)) x5 (fX12_answer_l6 N q0 x1 x3 kx n) kx))))))))))))))))
set_option maxRecDepth 10000 in
set_option maxHeartbeats 4000000 in
theorem rX12_answer_l6 {d N : Nat} (hd : 2 ≤ d) {q0 : Nat} {x1 : Int32} {x3 : Int32} {kx : iv_H → Option (Int64 × iv_H)} {r : Int64 × iv_H} {Q : Option Value → iv_H → Prop} (hk : ∀ (h : iv_H), kx h = some r → Rn d 246 (some .long) 153 [some (.ref q0), none, none, none, none, none, none, none] [] h Q) (hq : Q (some (.long r.1)) r.2) : ∀ (n : Nat) (h : iv_H) (x4 : Int32) (x5 : Int32), fX12_answer_l6 N q0 x1 x3 kx n h x4 x5 = some r → Rn d 246 (some .long) 6 [some (.ref q0), some (.int x1), none, some (.int x3), some (.int x4), some (.int x5), none, none] [] h Q := by
  have hT := hX12_answer
  intro n
  induction n with
  | zero =>
    intro h x4 x5 e
    rw [fX12_answer_l6] at e
    cases e
  | succ n ih =>
    intro h x4 x5 e
    rw [fX12_answer_l6] at e
    refine Rn.n hT 2 (pc' := 9) (L' := [some (.ref q0), some (.int x1), none, some (.int x3), some (.int x4), some (.int x5), none, none]) (st' := [.int x3, .int x5]) rfl ?_
    by_cases c_7242 : x3 ≤ x5
    · rw [if_pos c_7242] at e
      refine Rn.bt hT rfl rfl rfl (decide_eq_true c_7242) ?_
      exact Rn.weak (ll_s (ll_n (ll_n (ll_n (ll_n (ll_n (ll_n (ll_n ll_e)))))))) (hk h e)
    · rw [if_neg c_7242] at e
      refine Rn.bf hT rfl rfl rfl (decide_eq_false c_7242) ?_
      refine Rn.n hT 1 (pc' := 13) (L' := [some (.ref q0), some (.int x1), none, some (.int x3), some (.int x4), some (.int x5), none, none]) (st' := [.ref q0]) rfl ?_
      obtain ⟨v_7243, e_7244, e⟩ := Option.bind_eq_some_iff.mp e
      refine Rn.hp hT rfl rfl (gR_hp e_7244) ?_
      refine Rn.n hT 5 (pc' := 24) (L' := [some (.ref q0), some (.int x1), none, some (.int x3), some (.int x4), some (.int x5), none, none]) (st' := [.int (((300 : Int32) * x1) + x5), .ref v_7243]) rfl ?_
      obtain ⟨v_7245, e_7246, e⟩ := Option.bind_eq_some_iff.mp e
      refine Rn.hp hT rfl rfl (aI_hp e_7246) ?_
      refine Rn.n hT 2 (pc' := 28) (L' := [some (.ref q0), some (.int x1), none, some (.int x3), some (.int x4), some (.int x5), some (.int v_7245), none]) (st' := [.ref q0]) rfl ?_
      obtain ⟨v_7247, e_7248, e⟩ := Option.bind_eq_some_iff.mp e
      refine Rn.hp hT rfl rfl (gR_hp e_7248) ?_
      refine Rn.n hT 5 (pc' := 39) (L' := [some (.ref q0), some (.int x1), none, some (.int x3), some (.int x4), some (.int x5), some (.int v_7245), none]) (st' := [.int (((300 : Int32) * x1) + x5), .ref v_7247]) rfl ?_
      obtain ⟨v_7249, e_7250, e⟩ := Option.bind_eq_some_iff.mp e
      refine Rn.hp hT rfl rfl (aI_hp e_7250) ?_
      refine Rn.n hT 2 (pc' := 44) (L' := [some (.ref q0), some (.int x1), none, some (.int x3), some (.int x4), some (.int x5), some (.int v_7245), some (.int v_7249)]) (st' := [.int v_7245]) rfl ?_
      by_cases c_7251 : v_7245 = 0
      · rw [if_pos c_7251] at e
        refine Rn.bt hT rfl rfl rfl (decide_eq_true c_7251) ?_
        exact Rn.weak (ll_s (ll_s (ll_n (ll_s (ll_s (ll_s (ll_s (ll_s ll_e)))))))) (rX12_answer_b53 hd ih hk hq e)
      · rw [if_neg c_7251] at e
        refine Rn.bf hT rfl rfl rfl (decide_eq_false c_7251) ?_
        refine Rn.n hT 2 (pc' := 50) (L' := [some (.ref q0), some (.int x1), none, some (.int x3), some (.int x4), some (.int x5), some (.int v_7245), some (.int v_7249)]) (st' := [.int (1 : Int32), .int v_7245]) rfl ?_
        by_cases c_7252 : v_7245 = (1 : Int32)
        · rw [if_pos c_7252] at e
          refine Rn.bf hT rfl rfl rfl (decide_eq_false (fun z => z c_7252)) ?_
          exact Rn.weak (ll_s (ll_s (ll_n (ll_s (ll_s (ll_s (ll_s (ll_s ll_e)))))))) (rX12_answer_b53 hd ih hk hq e)
        · rw [if_neg c_7252] at e
          refine Rn.bt hT rfl rfl rfl (decide_eq_true c_7252) ?_
          refine Rn.n hT 2 (pc' := 88) (L' := [some (.ref q0), some (.int x1), none, some (.int x3), some (.int x4), some (.int x5), some (.int v_7245), some (.int v_7249)]) (st' := [.int (9 : Int32), .int v_7245]) rfl ?_
          by_cases c_7253 : v_7245 = (9 : Int32)
          · rw [if_pos c_7253] at e
            refine Rn.bf hT rfl rfl rfl (decide_eq_false (fun z => z c_7253)) ?_
            refine Rn.n hT 1 (pc' := 92) (L' := [some (.ref q0), some (.int x1), none, some (.int x3), some (.int x4), some (.int x5), some (.int v_7245), some (.int v_7249)]) (st' := [.ref q0]) rfl ?_
            obtain ⟨v_7268, e_7269, e⟩ := Option.bind_eq_some_iff.mp e
            refine Rn.hp hT rfl rfl (gR_hp e_7269) ?_
            refine Rn.n hT 5 (pc' := 101) (L' := [some (.ref q0), some (.int x1), none, some (.int x3), some (.int x4), some (.int x5), some (.int v_7245), some (.int v_7249)]) (st' := [.ref q0, .long (1 : Int64), .int (x4 - (1 : Int32)), .ref v_7268]) rfl ?_
            obtain ⟨v_7270, e_7271, e⟩ := Option.bind_eq_some_iff.mp e
            refine Rn.hp hT rfl rfl (gR_hp e_7271) ?_
            refine Rn.n hT 3 (pc' := 108) (L' := [some (.ref q0), some (.int x1), none, some (.int x3), some (.int x4), some (.int x5), some (.int v_7245), some (.int v_7249)]) (st' := [.int (x4 - (1 : Int32)), .ref v_7270, .long (1 : Int64), .int (x4 - (1 : Int32)), .ref v_7268]) rfl ?_
            obtain ⟨v_7272, e_7273, e⟩ := Option.bind_eq_some_iff.mp e
            refine Rn.hp hT rfl rfl (aJ_hp e_7273) ?_
            refine Rn.n hT 1 (pc' := 110) (L' := [some (.ref q0), some (.int x1), none, some (.int x3), some (.int x4), some (.int x5), some (.int v_7245), some (.int v_7249)]) (st' := [.long ((1 : Int64) - v_7272), .int (x4 - (1 : Int32)), .ref v_7268]) rfl ?_
            obtain ⟨h_7274, e_7275, e⟩ := Option.bind_eq_some_iff.mp e
            refine Rn.hp hT rfl rfl (wJ_hp e_7275) ?_
            refine Rn.n hT 1 (pc' := 147) (L' := [some (.ref q0), some (.int x1), none, some (.int x3), some (.int x4), some (.int x5), some (.int v_7245), some (.int v_7249)]) (st' := []) rfl ?_
            exact Rn.weak (ll_s (ll_s (ll_n (ll_s (ll_s (ll_s (ll_n (ll_n ll_e)))))))) (rX12_answer_b147 hd ih hk hq e)
          · rw [if_neg c_7253] at e
            refine Rn.bt hT rfl rfl rfl (decide_eq_true c_7253) ?_
            refine Rn.n hT 2 (pc' := 118) (L' := [some (.ref q0), some (.int x1), none, some (.int x3), some (.int (x4 + (-1 : Int32))), some (.int x5), some (.int v_7245), some (.int v_7249)]) (st' := [.ref q0]) rfl ?_
            obtain ⟨v_7254, e_7255, e⟩ := Option.bind_eq_some_iff.mp e
            refine Rn.hp hT rfl rfl (gR_hp e_7255) ?_
            refine Rn.n hT 5 (pc' := 128) (L' := [some (.ref q0), some (.int x1), none, some (.int x3), some (.int (x4 + (-1 : Int32))), some (.int x5), some (.int v_7245), some (.int v_7249)]) (st' := [.ref q0, .int v_7245, .int ((x4 + (-1 : Int32)) - (1 : Int32)), .ref v_7254]) rfl ?_
            obtain ⟨v_7256, e_7257, e⟩ := Option.bind_eq_some_iff.mp e
            refine Rn.hp hT rfl rfl (gR_hp e_7257) ?_
            refine Rn.n hT 3 (pc' := 135) (L' := [some (.ref q0), some (.int x1), none, some (.int x3), some (.int (x4 + (-1 : Int32))), some (.int x5), some (.int v_7245), some (.int v_7249)]) (st' := [.int ((x4 + (-1 : Int32)) - (1 : Int32)), .ref v_7256, .int v_7245, .int ((x4 + (-1 : Int32)) - (1 : Int32)), .ref v_7254]) rfl ?_
            obtain ⟨v_7258, e_7259, e⟩ := Option.bind_eq_some_iff.mp e
            refine Rn.hp hT rfl rfl (aJ_hp e_7259) ?_
            refine Rn.n hT 1 (pc' := 137) (L' := [some (.ref q0), some (.int x1), none, some (.int x3), some (.int (x4 + (-1 : Int32))), some (.int x5), some (.int v_7245), some (.int v_7249)]) (st' := [.ref q0, .long v_7258, .int v_7245, .int ((x4 + (-1 : Int32)) - (1 : Int32)), .ref v_7254]) rfl ?_
            obtain ⟨v_7260, e_7261, e⟩ := Option.bind_eq_some_iff.mp e
            refine Rn.hp hT rfl rfl (gR_hp e_7261) ?_
            refine Rn.n hT 1 (pc' := 142) (L' := [some (.ref q0), some (.int x1), none, some (.int x3), some (.int (x4 + (-1 : Int32))), some (.int x5), some (.int v_7245), some (.int v_7249)]) (st' := [.int (x4 + (-1 : Int32)), .ref v_7260, .long v_7258, .int v_7245, .int ((x4 + (-1 : Int32)) - (1 : Int32)), .ref v_7254]) rfl ?_
            obtain ⟨v_7262, e_7263, e⟩ := Option.bind_eq_some_iff.mp e
            refine Rn.hp hT rfl rfl (aJ_hp e_7263) ?_
            obtain ⟨v_7265, e_7264, e⟩ := Option.bind_eq_some_iff.mp e
            refine Rn.call hT rfl rfl rfl (Nat.le_of_ble_eq_true rfl) rfl (rX12_both (by omega) e_7264 ?_)
            show Rn d _ _ 146 [some (.ref q0), some (.int x1), none, some (.int x3), some (.int (x4 + (-1 : Int32))), some (.int x5), some (.int v_7245), some (.int v_7249)] [.long v_7265, .int ((x4 + (-1 : Int32)) - (1 : Int32)), .ref v_7254] h Q
            obtain ⟨h_7266, e_7267, e⟩ := Option.bind_eq_some_iff.mp e
            refine Rn.hp hT rfl rfl (wJ_hp e_7267) ?_
            exact Rn.weak (ll_s (ll_s (ll_n (ll_s (ll_s (ll_s (ll_n (ll_n ll_e)))))))) (rX12_answer_b147 hd ih hk hq e)
def fX12_answer (N : Nat) (h : iv_H) (q0 : Nat) (x1 : Int32) (x2 : Int32) (x3 : Int32) : Option (Int64 × iv_H) := (fX12_answer_l6 N q0 x1 x3 (fun (h_7237 : iv_H) => ((gR h_7237 12 47 q0).bind fun v_7238 => ((aJ h_7237 v_7238 (0 : Int32)).bind fun v_7240 => (some (v_7240, h_7237))))) N h (0 : Int32) x2)
set_option maxRecDepth 10000 in
set_option maxHeartbeats 4000000 in
theorem rX12_answer {d N : Nat} (hd : 3 ≤ d) {h : iv_H} {q0 : Nat} {x1 : Int32} {x2 : Int32} {x3 : Int32} {r : Int64 × iv_H} {Q : Option Value → iv_H → Prop} (e : fX12_answer N h q0 x1 x2 x3 = some r) (hq : Q (some (.long r.1)) r.2) : Cl d 246 [.ref q0, .int x1, .int x2, .int x3] h Q := by
  obtain ⟨d, rfl⟩ : ∃ k, d = k + 1 := ⟨d - 1, by omega⟩
  have hd : 2 ≤ d := by omega
  have hT := hX12_answer
  unfold fX12_answer at e
  refine Cl.into (by decide) gX12_answer rfl ?_
  show Rn d 246 (some .long) 0 [some (.ref q0), some (.int x1), some (.int x2), some (.int x3), none, none, none, none] [] h Q
  refine Rn.n hT 4 (pc' := 6) (L' := [some (.ref q0), some (.int x1), some (.int x2), some (.int x3), some (.int (0 : Int32)), some (.int x2), none, none]) (st' := []) rfl ?_
  refine Rn.weak (ll_s (ll_s (ll_n (ll_s (ll_s (ll_s (ll_n (ll_n ll_e)))))))) (rX12_answer_l6 hd (fun h_7237 e => ?_) hq N h (0 : Int32) x2 e)
  try dsimp only at e
  refine Rn.n hT 1 (pc' := 154) (L' := [some (.ref q0), none, none, none, none, none, none, none]) (st' := [.ref q0]) rfl ?_
  obtain ⟨v_7238, e_7239, e⟩ := Option.bind_eq_some_iff.mp e
  refine Rn.hp hT rfl rfl (gR_hp e_7239) ?_
  refine Rn.n hT 1 (pc' := 158) (L' := [some (.ref q0), none, none, none, none, none, none, none]) (st' := [.int (0 : Int32), .ref v_7238]) rfl ?_
  obtain ⟨v_7240, e_7241, e⟩ := Option.bind_eq_some_iff.mp e
  refine Rn.hp hT rfl rfl (aJ_hp e_7241) ?_
  obtain rfl := Option.some.inj e
  exact Rn.ret hT rfl rfl rfl hq
set_option maxRecDepth 10000 in
theorem hX12_areNeighbours : iv_Tb 247 tX12_areNeighbours := iv_tb_of (m := mX12_areNeighbours) rfl
set_option maxRecDepth 10000 in
theorem gX12_areNeighbours : PG.2 247 = some mX12_areNeighbours := iv_pi_of (t := tX12_areNeighbours) rfl (by decide)
def fX12_areNeighbours_b31 (N : Nat) (h : iv_H) (q0 : Nat) (x1 : Int32) (x2 : Int32) (x4 : Int32) (s0 : Int32) (kb : Int32 → Int32 → Option (Int32)) (kx : Int32 → Option (Int32)) : Option (Int32) := (kb s0 (x4 + (1 : Int32)))
set_option maxRecDepth 10000 in
set_option maxHeartbeats 4000000 in
theorem rX12_areNeighbours_b31 {d N : Nat} (hd : 4 ≤ d) {h : iv_H} {q0 : Nat} {x1 : Int32} {x2 : Int32} {x4 : Int32} {s0 : Int32} {kb : Int32 → Int32 → Option (Int32)} {kx : Int32 → Option (Int32)} {r : Int32} {Q : Option Value → iv_H → Prop} (hb : ∀ (w3 : Int32) (w4 : Int32), kb w3 w4 = some r → Rn d 247 (some .boolean) 5 [some (.ref q0), some (.int x1), some (.int x2), some (.int w3), some (.int w4)] [] h Q) (hk : ∀ (w3 : Int32), kx w3 = some r → Rn d 247 (some .boolean) 38 [none, none, none, some (.int w3), none] [] h Q) (hq : Q (some (.int r)) h) (e : fX12_areNeighbours_b31 N h q0 x1 x2 x4 s0 kb kx = some r) : Rn d 247 (some .boolean) 31 [some (.ref q0), some (.int x1), some (.int x2), none, some (.int x4)] [.int s0] h Q := by
  have hT := hX12_areNeighbours
  unfold fX12_areNeighbours_b31 at e
  refine Rn.n hT 3 (pc' := 5) (L' := [some (.ref q0), some (.int x1), some (.int x2), some (.int s0), some (.int (x4 + (1 : Int32)))]) (st' := []) rfl ?_
  exact Rn.weak (ll_s (ll_s (ll_s (ll_s (ll_s ll_e))))) (hb s0 (x4 + (1 : Int32)) e)
def fX12_areNeighbours_b26 (N : Nat) (h : iv_H) (q0 : Nat) (x1 : Int32) (x2 : Int32) (x4 : Int32)  (kb : Int32 → Int32 → Option (Int32)) (kx : Int32 → Option (Int32)) : Option (Int32) := (fX12_areNeighbours_b31 N h q0 x1 x2 x4 (1 : Int32) kb kx)
set_option maxRecDepth 10000 in
set_option maxHeartbeats 4000000 in
theorem rX12_areNeighbours_b26 {d N : Nat} (hd : 4 ≤ d) {h : iv_H} {q0 : Nat} {x1 : Int32} {x2 : Int32} {x4 : Int32}  {kb : Int32 → Int32 → Option (Int32)} {kx : Int32 → Option (Int32)} {r : Int32} {Q : Option Value → iv_H → Prop} (hb : ∀ (w3 : Int32) (w4 : Int32), kb w3 w4 = some r → Rn d 247 (some .boolean) 5 [some (.ref q0), some (.int x1), some (.int x2), some (.int w3), some (.int w4)] [] h Q) (hk : ∀ (w3 : Int32), kx w3 = some r → Rn d 247 (some .boolean) 38 [none, none, none, some (.int w3), none] [] h Q) (hq : Q (some (.int r)) h) (e : fX12_areNeighbours_b26 N h q0 x1 x2 x4  kb kx = some r) : Rn d 247 (some .boolean) 26 [some (.ref q0), some (.int x1), some (.int x2), none, some (.int x4)] [] h Q := by
  have hT := hX12_areNeighbours
  unfold fX12_areNeighbours_b26 at e
  refine Rn.n hT 2 (pc' := 31) (L' := [some (.ref q0), some (.int x1), some (.int x2), none, some (.int x4)]) (st' := [.int (1 : Int32)]) rfl ?_
  exact Rn.weak (ll_s (ll_s (ll_s (ll_n (ll_s ll_e))))) (rX12_areNeighbours_b31 hd hb hk hq e)
def fX12_areNeighbours_l5 (N : Nat) (h : iv_H) (q0 : Nat) (x1 : Int32) (x2 : Int32) (kx : Int32 → Option (Int32)) : Nat → Int32 → Int32 → Option (Int32)
  | 0, _, _ => none
  | n + 1, x3, x4 => (if (4 : Int32) ≤ x4 then (kx x3) else (if x3 = 0 then ((cko h q0 12).bind fun _ => (fX12_faced N h q0 x1 x4).bind fun v_7291 => (if v_7291 = x2 then (fX12_areNeighbours_b26 N h q0 x1 x2 x4 (fX12_areNeighbours_l5 N h q0 x1 x2 kx n) kx) else (fX12_areNeighbours_b31 N h q0 x1 x2 x4 (0 : Int32) (fX12_areNeighbours_l5 N h q0 x1 x2 kx n) kx))) else (fX12_areNeighbours_b26 N h q0 x1 x2 x4 (fX12_areNeighbours_l5 N h q0 x1 x2 kx n) kx)))
set_option maxRecDepth 10000 in
set_option maxHeartbeats 4000000 in
theorem rX12_areNeighbours_l5 {d N : Nat} (hd : 4 ≤ d) {h : iv_H} {q0 : Nat} {x1 : Int32} {x2 : Int32} {kx : Int32 → Option (Int32)} {r : Int32} {Q : Option Value → iv_H → Prop} (hk : ∀ (x3 : Int32), kx x3 = some r → Rn d 247 (some .boolean) 38 [none, none, none, some (.int x3), none] [] h Q) (hq : Q (some (.int r)) h) : ∀ (n : Nat) (x3 : Int32) (x4 : Int32), fX12_areNeighbours_l5 N h q0 x1 x2 kx n x3 x4 = some r → Rn d 247 (some .boolean) 5 [some (.ref q0), some (.int x1), some (.int x2), some (.int x3), some (.int x4)] [] h Q := by
  have hT := hX12_areNeighbours
  intro n
  induction n with
  | zero =>
    intro x3 x4 e
    rw [fX12_areNeighbours_l5] at e
    cases e
  | succ n ih =>
    intro x3 x4 e
    rw [fX12_areNeighbours_l5] at e
    refine Rn.n hT 2 (pc' := 8) (L' := [some (.ref q0), some (.int x1), some (.int x2), some (.int x3), some (.int x4)]) (st' := [.int (4 : Int32), .int x4]) rfl ?_
    by_cases c_7287 : (4 : Int32) ≤ x4
    · rw [if_pos c_7287] at e
      refine Rn.bt hT rfl rfl rfl (decide_eq_true c_7287) ?_
      exact Rn.weak (ll_n (ll_n (ll_n (ll_s (ll_n ll_e))))) (hk x3 e)
    · rw [if_neg c_7287] at e
      refine Rn.bf hT rfl rfl rfl (decide_eq_false c_7287) ?_
      refine Rn.n hT 1 (pc' := 12) (L' := [some (.ref q0), some (.int x1), some (.int x2), some (.int x3), some (.int x4)]) (st' := [.int x3]) rfl ?_
      by_cases c_7288 : x3 = 0
      · rw [if_pos c_7288] at e
        refine Rn.bf hT rfl rfl rfl (decide_eq_false (fun z => z c_7288)) ?_
        refine Rn.n hT 3 (pc' := 19) (L' := [some (.ref q0), some (.int x1), some (.int x2), some (.int x3), some (.int x4)]) (st' := [.int x4, .int x1, .ref q0]) rfl ?_
        obtain ⟨_, e_7290, e⟩ := Option.bind_eq_some_iff.mp e
        obtain ⟨v_7291, e_7289, e⟩ := Option.bind_eq_some_iff.mp e
        refine Rn.call hT rfl rfl rfl (Nat.le_of_ble_eq_true rfl) (rcv_v gX12_faced (by omega) e_7290) (rX12_faced (by omega) e_7289 ?_)
        show Rn d _ _ 22 [some (.ref q0), some (.int x1), some (.int x2), some (.int x3), some (.int x4)] [.int v_7291] h Q
        refine Rn.n hT 1 (pc' := 23) (L' := [some (.ref q0), some (.int x1), some (.int x2), some (.int x3), some (.int x4)]) (st' := [.int x2, .int v_7291]) rfl ?_
        by_cases c_7292 : v_7291 = x2
        · rw [if_pos c_7292] at e
          refine Rn.bf hT rfl rfl rfl (decide_eq_false (fun z => z c_7292)) ?_
          exact Rn.weak (ll_s (ll_s (ll_s (ll_n (ll_s ll_e))))) (rX12_areNeighbours_b26 hd ih hk hq e)
        · rw [if_neg c_7292] at e
          refine Rn.bt hT rfl rfl rfl (decide_eq_true c_7292) ?_
          refine Rn.n hT 1 (pc' := 31) (L' := [some (.ref q0), some (.int x1), some (.int x2), some (.int x3), some (.int x4)]) (st' := [.int (0 : Int32)]) rfl ?_
          exact Rn.weak (ll_s (ll_s (ll_s (ll_n (ll_s ll_e))))) (rX12_areNeighbours_b31 hd ih hk hq e)
      · rw [if_neg c_7288] at e
        refine Rn.bt hT rfl rfl rfl (decide_eq_true c_7288) ?_
        exact Rn.weak (ll_s (ll_s (ll_s (ll_n (ll_s ll_e))))) (rX12_areNeighbours_b26 hd ih hk hq e)
def fX12_areNeighbours (N : Nat) (h : iv_H) (q0 : Nat) (x1 : Int32) (x2 : Int32) : Option (Int32) := (fX12_areNeighbours_l5 N h q0 x1 x2 (fun (z_7285 : Int32) => (if z_7285 = 0 ∨ z_7285 = 1 then some z_7285 else none)) N (0 : Int32) (0 : Int32))
set_option maxRecDepth 10000 in
set_option maxHeartbeats 4000000 in
theorem rX12_areNeighbours {d N : Nat} (hd : 5 ≤ d) {h : iv_H} {q0 : Nat} {x1 : Int32} {x2 : Int32} {r : Int32} {Q : Option Value → iv_H → Prop} (e : fX12_areNeighbours N h q0 x1 x2 = some r) (hq : Q (some (.int r)) h) : Cl d 247 [.ref q0, .int x1, .int x2] h Q := by
  obtain ⟨d, rfl⟩ : ∃ k, d = k + 1 := ⟨d - 1, by omega⟩
  have hd : 4 ≤ d := by omega
  have hT := hX12_areNeighbours
  unfold fX12_areNeighbours at e
  refine Cl.into (by decide) gX12_areNeighbours rfl ?_
  show Rn d 247 (some .boolean) 0 [some (.ref q0), some (.int x1), some (.int x2), none, none] [] h Q
  refine Rn.n hT 4 (pc' := 5) (L' := [some (.ref q0), some (.int x1), some (.int x2), some (.int (0 : Int32)), some (.int (0 : Int32))]) (st' := []) rfl ?_
  refine Rn.weak (ll_s (ll_s (ll_s (ll_s (ll_s ll_e))))) (rX12_areNeighbours_l5 hd (fun z_7285 e => ?_) hq N (0 : Int32) (0 : Int32) e)
  try dsimp only at e
  refine Rn.n hT 1 (pc' := 39) (L' := [none, none, none, some (.int z_7285), none]) (st' := [.int z_7285]) rfl ?_
  by_cases c_7286 : z_7285 = 0 ∨ z_7285 = 1
  · rw [if_pos c_7286] at e
    obtain rfl := Option.some.inj e
    exact Rn.ret hT rfl rfl (if_pos c_7286) hq
  · rw [if_neg c_7286] at e
    cases e
set_option maxRecDepth 10000 in
theorem hX12_goesTo : iv_Tb 248 tX12_goesTo := iv_tb_of (m := mX12_goesTo) rfl
set_option maxRecDepth 10000 in
theorem gX12_goesTo : PG.2 248 = some mX12_goesTo := iv_pi_of (t := tX12_goesTo) rfl (by decide)
def fX12_goesTo (N : Nat) (h : iv_H) (q0 : Nat) (x1 : Int32) (x2 : Int32) : Option (iv_H) := ((gR h 12 8 q0).bind fun v_7293 => ((gR h 12 3 q0).bind fun v_7295 => ((aI h v_7295 x1).bind fun v_7297 => ((wI h v_7293 v_7297 (-1 : Int32)).bind fun h_7299 => ((gR h_7299 12 3 q0).bind fun v_7301 => ((wI h_7299 v_7301 x1 x2).bind fun h_7303 => ((gR h_7303 12 8 q0).bind fun v_7305 => ((wI h_7303 v_7305 x2 x1).bind fun h_7307 => some h_7307))))))))
set_option maxRecDepth 10000 in
set_option maxHeartbeats 4000000 in
theorem rX12_goesTo {d N : Nat} (hd : 1 ≤ d) {h : iv_H} {q0 : Nat} {x1 : Int32} {x2 : Int32} {r : iv_H} {Q : Option Value → iv_H → Prop} (e : fX12_goesTo N h q0 x1 x2 = some r) (hq : Q none r) : Cl d 248 [.ref q0, .int x1, .int x2] h Q := by
  obtain ⟨d, rfl⟩ : ∃ k, d = k + 1 := ⟨d - 1, by omega⟩
  have hd : 0 ≤ d := by omega
  have hT := hX12_goesTo
  unfold fX12_goesTo at e
  refine Cl.into (by decide) gX12_goesTo rfl ?_
  show Rn d 248 none 0 [some (.ref q0), some (.int x1), some (.int x2)] [] h Q
  refine Rn.n hT 1 (pc' := 1) (L' := [some (.ref q0), some (.int x1), some (.int x2)]) (st' := [.ref q0]) rfl ?_
  obtain ⟨v_7293, e_7294, e⟩ := Option.bind_eq_some_iff.mp e
  refine Rn.hp hT rfl rfl (gR_hp e_7294) ?_
  refine Rn.n hT 1 (pc' := 5) (L' := [some (.ref q0), some (.int x1), some (.int x2)]) (st' := [.ref q0, .ref v_7293]) rfl ?_
  obtain ⟨v_7295, e_7296, e⟩ := Option.bind_eq_some_iff.mp e
  refine Rn.hp hT rfl rfl (gR_hp e_7296) ?_
  refine Rn.n hT 1 (pc' := 9) (L' := [some (.ref q0), some (.int x1), some (.int x2)]) (st' := [.int x1, .ref v_7295, .ref v_7293]) rfl ?_
  obtain ⟨v_7297, e_7298, e⟩ := Option.bind_eq_some_iff.mp e
  refine Rn.hp hT rfl rfl (aI_hp e_7298) ?_
  refine Rn.n hT 1 (pc' := 11) (L' := [some (.ref q0), some (.int x1), some (.int x2)]) (st' := [.int (-1 : Int32), .int v_7297, .ref v_7293]) rfl ?_
  obtain ⟨h_7299, e_7300, e⟩ := Option.bind_eq_some_iff.mp e
  refine Rn.hp hT rfl rfl (wI_hp e_7300) ?_
  refine Rn.n hT 1 (pc' := 13) (L' := [some (.ref q0), some (.int x1), some (.int x2)]) (st' := [.ref q0]) rfl ?_
  obtain ⟨v_7301, e_7302, e⟩ := Option.bind_eq_some_iff.mp e
  refine Rn.hp hT rfl rfl (gR_hp e_7302) ?_
  refine Rn.n hT 2 (pc' := 18) (L' := [some (.ref q0), some (.int x1), some (.int x2)]) (st' := [.int x2, .int x1, .ref v_7301]) rfl ?_
  obtain ⟨h_7303, e_7304, e⟩ := Option.bind_eq_some_iff.mp e
  refine Rn.hp hT rfl rfl (wI_hp e_7304) ?_
  refine Rn.n hT 1 (pc' := 20) (L' := [some (.ref q0), some (.int x1), some (.int x2)]) (st' := [.ref q0]) rfl ?_
  obtain ⟨v_7305, e_7306, e⟩ := Option.bind_eq_some_iff.mp e
  refine Rn.hp hT rfl rfl (gR_hp e_7306) ?_
  refine Rn.n hT 2 (pc' := 25) (L' := [some (.ref q0), some (.int x1), some (.int x2)]) (st' := [.int x1, .int x2, .ref v_7305]) rfl ?_
  obtain ⟨h_7307, e_7308, e⟩ := Option.bind_eq_some_iff.mp e
  refine Rn.hp hT rfl rfl (wI_hp e_7308) ?_
  obtain rfl := Option.some.inj e
  exact Rn.ret hT rfl rfl rfl hq
set_option maxRecDepth 10000 in
theorem hX12_swaps : iv_Tb 249 tX12_swaps := iv_tb_of (m := mX12_swaps) rfl
set_option maxRecDepth 10000 in
theorem gX12_swaps : PG.2 249 = some mX12_swaps := iv_pi_of (t := tX12_swaps) rfl (by decide)
def fX12_swaps (N : Nat) (h : iv_H) (q0 : Nat) (x1 : Int32) (x2 : Int32) : Option (iv_H) := ((gR h 12 3 q0).bind fun v_7309 => ((aI h v_7309 x1).bind fun v_7311 => ((gR h 12 3 q0).bind fun v_7313 => ((gR h 12 3 q0).bind fun v_7315 => ((aI h v_7315 x2).bind fun v_7317 => ((wI h v_7313 x1 v_7317).bind fun h_7319 => ((gR h_7319 12 3 q0).bind fun v_7321 => ((wI h_7319 v_7321 x2 v_7311).bind fun h_7323 => ((gR h_7323 12 8 q0).bind fun v_7325 => ((gR h_7323 12 3 q0).bind fun v_7327 => ((aI h_7323 v_7327 x1).bind fun v_7329 => ((wI h_7323 v_7325 v_7329 x1).bind fun h_7331 => ((gR h_7331 12 8 q0).bind fun v_7333 => ((gR h_7331 12 3 q0).bind fun v_7335 => ((aI h_7331 v_7335 x2).bind fun v_7337 => ((wI h_7331 v_7333 v_7337 x2).bind fun h_7339 => some h_7339))))))))))))))))
set_option maxRecDepth 10000 in
set_option maxHeartbeats 4000000 in
theorem rX12_swaps {d N : Nat} (hd : 1 ≤ d) {h : iv_H} {q0 : Nat} {x1 : Int32} {x2 : Int32} {r : iv_H} {Q : Option Value → iv_H → Prop} (e : fX12_swaps N h q0 x1 x2 = some r) (hq : Q none r) : Cl d 249 [.ref q0, .int x1, .int x2] h Q := by
  obtain ⟨d, rfl⟩ : ∃ k, d = k + 1 := ⟨d - 1, by omega⟩
  have hd : 0 ≤ d := by omega
  have hT := hX12_swaps
  unfold fX12_swaps at e
  refine Cl.into (by decide) gX12_swaps rfl ?_
  show Rn d 249 none 0 [some (.ref q0), some (.int x1), some (.int x2), none] [] h Q
  refine Rn.n hT 1 (pc' := 1) (L' := [some (.ref q0), some (.int x1), some (.int x2), none]) (st' := [.ref q0]) rfl ?_
  obtain ⟨v_7309, e_7310, e⟩ := Option.bind_eq_some_iff.mp e
  refine Rn.hp hT rfl rfl (gR_hp e_7310) ?_
  refine Rn.n hT 1 (pc' := 5) (L' := [some (.ref q0), some (.int x1), some (.int x2), none]) (st' := [.int x1, .ref v_7309]) rfl ?_
  obtain ⟨v_7311, e_7312, e⟩ := Option.bind_eq_some_iff.mp e
  refine Rn.hp hT rfl rfl (aI_hp e_7312) ?_
  refine Rn.n hT 2 (pc' := 8) (L' := [some (.ref q0), some (.int x1), some (.int x2), some (.int v_7311)]) (st' := [.ref q0]) rfl ?_
  obtain ⟨v_7313, e_7314, e⟩ := Option.bind_eq_some_iff.mp e
  refine Rn.hp hT rfl rfl (gR_hp e_7314) ?_
  refine Rn.n hT 2 (pc' := 13) (L' := [some (.ref q0), some (.int x1), some (.int x2), some (.int v_7311)]) (st' := [.ref q0, .int x1, .ref v_7313]) rfl ?_
  obtain ⟨v_7315, e_7316, e⟩ := Option.bind_eq_some_iff.mp e
  refine Rn.hp hT rfl rfl (gR_hp e_7316) ?_
  refine Rn.n hT 1 (pc' := 17) (L' := [some (.ref q0), some (.int x1), some (.int x2), some (.int v_7311)]) (st' := [.int x2, .ref v_7315, .int x1, .ref v_7313]) rfl ?_
  obtain ⟨v_7317, e_7318, e⟩ := Option.bind_eq_some_iff.mp e
  refine Rn.hp hT rfl rfl (aI_hp e_7318) ?_
  obtain ⟨h_7319, e_7320, e⟩ := Option.bind_eq_some_iff.mp e
  refine Rn.hp hT rfl rfl (wI_hp e_7320) ?_
  refine Rn.n hT 1 (pc' := 20) (L' := [some (.ref q0), some (.int x1), some (.int x2), some (.int v_7311)]) (st' := [.ref q0]) rfl ?_
  obtain ⟨v_7321, e_7322, e⟩ := Option.bind_eq_some_iff.mp e
  refine Rn.hp hT rfl rfl (gR_hp e_7322) ?_
  refine Rn.n hT 2 (pc' := 25) (L' := [some (.ref q0), some (.int x1), some (.int x2), some (.int v_7311)]) (st' := [.int v_7311, .int x2, .ref v_7321]) rfl ?_
  obtain ⟨h_7323, e_7324, e⟩ := Option.bind_eq_some_iff.mp e
  refine Rn.hp hT rfl rfl (wI_hp e_7324) ?_
  refine Rn.n hT 1 (pc' := 27) (L' := [some (.ref q0), some (.int x1), some (.int x2), some (.int v_7311)]) (st' := [.ref q0]) rfl ?_
  obtain ⟨v_7325, e_7326, e⟩ := Option.bind_eq_some_iff.mp e
  refine Rn.hp hT rfl rfl (gR_hp e_7326) ?_
  refine Rn.n hT 1 (pc' := 31) (L' := [some (.ref q0), some (.int x1), some (.int x2), some (.int v_7311)]) (st' := [.ref q0, .ref v_7325]) rfl ?_
  obtain ⟨v_7327, e_7328, e⟩ := Option.bind_eq_some_iff.mp e
  refine Rn.hp hT rfl rfl (gR_hp e_7328) ?_
  refine Rn.n hT 1 (pc' := 35) (L' := [some (.ref q0), some (.int x1), some (.int x2), some (.int v_7311)]) (st' := [.int x1, .ref v_7327, .ref v_7325]) rfl ?_
  obtain ⟨v_7329, e_7330, e⟩ := Option.bind_eq_some_iff.mp e
  refine Rn.hp hT rfl rfl (aI_hp e_7330) ?_
  refine Rn.n hT 1 (pc' := 37) (L' := [some (.ref q0), some (.int x1), some (.int x2), some (.int v_7311)]) (st' := [.int x1, .int v_7329, .ref v_7325]) rfl ?_
  obtain ⟨h_7331, e_7332, e⟩ := Option.bind_eq_some_iff.mp e
  refine Rn.hp hT rfl rfl (wI_hp e_7332) ?_
  refine Rn.n hT 1 (pc' := 39) (L' := [some (.ref q0), some (.int x1), some (.int x2), some (.int v_7311)]) (st' := [.ref q0]) rfl ?_
  obtain ⟨v_7333, e_7334, e⟩ := Option.bind_eq_some_iff.mp e
  refine Rn.hp hT rfl rfl (gR_hp e_7334) ?_
  refine Rn.n hT 1 (pc' := 43) (L' := [some (.ref q0), some (.int x1), some (.int x2), some (.int v_7311)]) (st' := [.ref q0, .ref v_7333]) rfl ?_
  obtain ⟨v_7335, e_7336, e⟩ := Option.bind_eq_some_iff.mp e
  refine Rn.hp hT rfl rfl (gR_hp e_7336) ?_
  refine Rn.n hT 1 (pc' := 47) (L' := [some (.ref q0), some (.int x1), some (.int x2), some (.int v_7311)]) (st' := [.int x2, .ref v_7335, .ref v_7333]) rfl ?_
  obtain ⟨v_7337, e_7338, e⟩ := Option.bind_eq_some_iff.mp e
  refine Rn.hp hT rfl rfl (aI_hp e_7338) ?_
  refine Rn.n hT 1 (pc' := 49) (L' := [some (.ref q0), some (.int x1), some (.int x2), some (.int v_7311)]) (st' := [.int x2, .int v_7337, .ref v_7333]) rfl ?_
  obtain ⟨h_7339, e_7340, e⟩ := Option.bind_eq_some_iff.mp e
  refine Rn.hp hT rfl rfl (wI_hp e_7340) ?_
  obtain rfl := Option.some.inj e
  exact Rn.ret hT rfl rfl rfl hq
set_option maxRecDepth 10000 in
theorem hX12_walks : iv_Tb 250 tX12_walks := iv_tb_of (m := mX12_walks) rfl
set_option maxRecDepth 10000 in
theorem gX12_walks : PG.2 250 = some mX12_walks := iv_pi_of (t := tX12_walks) rfl (by decide)
def fX12_walks_b72 (N : Nat) (h : iv_H)   : Option (iv_H) := some h
set_option maxRecDepth 10000 in
set_option maxHeartbeats 4000000 in
theorem rX12_walks_b72 {d N : Nat} (hd : 3 ≤ d) {h : iv_H}   {r : iv_H} {Q : Option Value → iv_H → Prop} (hq : Q none r) (e : fX12_walks_b72 N h   = some r) : Rn d 250 none 72 [none, none, none, none] [] h Q := by
  have hT := hX12_walks
  unfold fX12_walks_b72 at e
  obtain rfl := Option.some.inj e
  exact Rn.ret hT rfl rfl rfl hq
def fX12_walks (N : Nat) (h : iv_H) (q0 : Nat) (x1 : Int32) (x2 : Int32) (x3 : Int32) : Option (iv_H) := (if x1 = (1 : Int32) then ((gR h 12 3 q0).bind fun v_7342 => ((aI h v_7342 x2).bind fun v_7344 => ((cko h q0 12).bind fun _ => (fX12_by N h q0 v_7344 x3).bind fun v_7348 => ((cko h q0 12).bind fun _ => (fX12_goesTo N h q0 x2 v_7348).bind fun h_7352 => (fX12_walks_b72 N h_7352))))) else (if x1 = (2 : Int32) then ((cko h q0 12).bind fun _ => (fX12_swaps N h q0 x2 x3).bind fun h_7357 => (fX12_walks_b72 N h_7357)) else ((gR h 12 4 q0).bind fun v_7358 => ((gR h 12 4 q0).bind fun v_7360 => ((aI h v_7360 x2).bind fun v_7362 => ((wI h v_7358 x2 ((v_7362 + (1 : Int32)) &&& (3 : Int32))).bind fun h_7364 => (fX12_walks_b72 N h_7364)))))))
set_option maxRecDepth 10000 in
set_option maxHeartbeats 4000000 in
theorem rX12_walks {d N : Nat} (hd : 4 ≤ d) {h : iv_H} {q0 : Nat} {x1 : Int32} {x2 : Int32} {x3 : Int32} {r : iv_H} {Q : Option Value → iv_H → Prop} (e : fX12_walks N h q0 x1 x2 x3 = some r) (hq : Q none r) : Cl d 250 [.ref q0, .int x1, .int x2, .int x3] h Q := by
  obtain ⟨d, rfl⟩ : ∃ k, d = k + 1 := ⟨d - 1, by omega⟩
  have hd : 3 ≤ d := by omega
  have hT := hX12_walks
  unfold fX12_walks at e
  refine Cl.into (by decide) gX12_walks rfl ?_
  show Rn d 250 none 0 [some (.ref q0), some (.int x1), some (.int x2), some (.int x3)] [] h Q
  refine Rn.n hT 1 (pc' := 1) (L' := [some (.ref q0), some (.int x1), some (.int x2), some (.int x3)]) (st' := [.int x1]) rfl ?_
  by_cases c_7341 : x1 = (1 : Int32)
  · rw [if_pos c_7341] at e
    refine Rn.sw2 hT rfl rfl rfl (if_pos c_7341) ?_
    refine Rn.n hT 4 (pc' := 32) (L' := [some (.ref q0), some (.int x1), some (.int x2), some (.int x3)]) (st' := [.ref q0, .ref q0, .int x2, .ref q0]) rfl ?_
    obtain ⟨v_7342, e_7343, e⟩ := Option.bind_eq_some_iff.mp e
    refine Rn.hp hT rfl rfl (gR_hp e_7343) ?_
    refine Rn.n hT 1 (pc' := 36) (L' := [some (.ref q0), some (.int x1), some (.int x2), some (.int x3)]) (st' := [.int x2, .ref v_7342, .ref q0, .int x2, .ref q0]) rfl ?_
    obtain ⟨v_7344, e_7345, e⟩ := Option.bind_eq_some_iff.mp e
    refine Rn.hp hT rfl rfl (aI_hp e_7345) ?_
    refine Rn.n hT 1 (pc' := 38) (L' := [some (.ref q0), some (.int x1), some (.int x2), some (.int x3)]) (st' := [.int x3, .int v_7344, .ref q0, .int x2, .ref q0]) rfl ?_
    obtain ⟨_, e_7347, e⟩ := Option.bind_eq_some_iff.mp e
    obtain ⟨v_7348, e_7346, e⟩ := Option.bind_eq_some_iff.mp e
    refine Rn.call hT rfl rfl rfl (Nat.le_of_ble_eq_true rfl) (rcv_v gX12_by (by omega) e_7347) (rX12_by (by omega) e_7346 ?_)
    show Rn d _ _ 41 [some (.ref q0), some (.int x1), some (.int x2), some (.int x3)] [.int v_7348, .int x2, .ref q0] h Q
    obtain ⟨_, e_7350, e⟩ := Option.bind_eq_some_iff.mp e
    obtain ⟨h_7352, e_7349, e⟩ := Option.bind_eq_some_iff.mp e
    refine Rn.call hT rfl rfl rfl (Nat.le_of_ble_eq_true rfl) (rcv_v gX12_goesTo (by omega) e_7350) (rX12_goesTo (by omega) e_7349 ?_)
    show Rn d _ _ 44 [some (.ref q0), some (.int x1), some (.int x2), some (.int x3)] [] h_7352 Q
    refine Rn.n hT 1 (pc' := 72) (L' := [some (.ref q0), some (.int x1), some (.int x2), some (.int x3)]) (st' := []) rfl ?_
    exact Rn.weak (ll_n (ll_n (ll_n (ll_n ll_e)))) (rX12_walks_b72 hd hq e)
  · rw [if_neg c_7341] at e
    by_cases c_7353 : x1 = (2 : Int32)
    · rw [if_pos c_7353] at e
      refine Rn.sw2 hT rfl rfl rfl ((if_neg c_7341).trans (if_pos c_7353)) ?_
      refine Rn.n hT 3 (pc' := 50) (L' := [some (.ref q0), some (.int x1), some (.int x2), some (.int x3)]) (st' := [.int x3, .int x2, .ref q0]) rfl ?_
      obtain ⟨_, e_7355, e⟩ := Option.bind_eq_some_iff.mp e
      obtain ⟨h_7357, e_7354, e⟩ := Option.bind_eq_some_iff.mp e
      refine Rn.call hT rfl rfl rfl (Nat.le_of_ble_eq_true rfl) (rcv_v gX12_swaps (by omega) e_7355) (rX12_swaps (by omega) e_7354 ?_)
      show Rn d _ _ 53 [some (.ref q0), some (.int x1), some (.int x2), some (.int x3)] [] h_7357 Q
      refine Rn.n hT 1 (pc' := 72) (L' := [some (.ref q0), some (.int x1), some (.int x2), some (.int x3)]) (st' := []) rfl ?_
      exact Rn.weak (ll_n (ll_n (ll_n (ll_n ll_e)))) (rX12_walks_b72 hd hq e)
    · rw [if_neg c_7353] at e
      refine Rn.sw2 hT rfl rfl rfl ((if_neg c_7341).trans ((if_neg c_7353).trans rfl)) ?_
      refine Rn.n hT 1 (pc' := 57) (L' := [some (.ref q0), some (.int x1), some (.int x2), some (.int x3)]) (st' := [.ref q0]) rfl ?_
      obtain ⟨v_7358, e_7359, e⟩ := Option.bind_eq_some_iff.mp e
      refine Rn.hp hT rfl rfl (gR_hp e_7359) ?_
      refine Rn.n hT 2 (pc' := 62) (L' := [some (.ref q0), some (.int x1), some (.int x2), some (.int x3)]) (st' := [.ref q0, .int x2, .ref v_7358]) rfl ?_
      obtain ⟨v_7360, e_7361, e⟩ := Option.bind_eq_some_iff.mp e
      refine Rn.hp hT rfl rfl (gR_hp e_7361) ?_
      refine Rn.n hT 1 (pc' := 66) (L' := [some (.ref q0), some (.int x1), some (.int x2), some (.int x3)]) (st' := [.int x2, .ref v_7360, .int x2, .ref v_7358]) rfl ?_
      obtain ⟨v_7362, e_7363, e⟩ := Option.bind_eq_some_iff.mp e
      refine Rn.hp hT rfl rfl (aI_hp e_7363) ?_
      refine Rn.n hT 4 (pc' := 71) (L' := [some (.ref q0), some (.int x1), some (.int x2), some (.int x3)]) (st' := [.int ((v_7362 + (1 : Int32)) &&& (3 : Int32)), .int x2, .ref v_7358]) rfl ?_
      obtain ⟨h_7364, e_7365, e⟩ := Option.bind_eq_some_iff.mp e
      refine Rn.hp hT rfl rfl (wI_hp e_7365) ?_
      exact Rn.weak (ll_n (ll_n (ll_n (ll_n ll_e)))) (rX12_walks_b72 hd hq e)
set_option maxRecDepth 10000 in
theorem hX12_walksBack : iv_Tb 251 tX12_walksBack := iv_tb_of (m := mX12_walksBack) rfl
set_option maxRecDepth 10000 in
theorem gX12_walksBack : PG.2 251 = some mX12_walksBack := iv_pi_of (t := tX12_walksBack) rfl (by decide)
def fX12_walksBack_b76 (N : Nat) (h : iv_H)   : Option (iv_H) := some h
set_option maxRecDepth 10000 in
set_option maxHeartbeats 4000000 in
theorem rX12_walksBack_b76 {d N : Nat} (hd : 3 ≤ d) {h : iv_H}   {r : iv_H} {Q : Option Value → iv_H → Prop} (hq : Q none r) (e : fX12_walksBack_b76 N h   = some r) : Rn d 251 none 76 [none, none, none, none] [] h Q := by
  have hT := hX12_walksBack
  unfold fX12_walksBack_b76 at e
  obtain rfl := Option.some.inj e
  exact Rn.ret hT rfl rfl rfl hq
def fX12_walksBack (N : Nat) (h : iv_H) (q0 : Nat) (x1 : Int32) (x2 : Int32) (x3 : Int32) : Option (iv_H) := (if x1 = (1 : Int32) then ((gR h 12 3 q0).bind fun v_7367 => ((aI h v_7367 x2).bind fun v_7369 => ((cko h q0 12).bind fun _ => (fX12_by N h q0 v_7369 ((x3 + (2 : Int32)) &&& (3 : Int32))).bind fun v_7373 => ((cko h q0 12).bind fun _ => (fX12_goesTo N h q0 x2 v_7373).bind fun h_7377 => (fX12_walksBack_b76 N h_7377))))) else (if x1 = (2 : Int32) then ((cko h q0 12).bind fun _ => (fX12_swaps N h q0 x2 x3).bind fun h_7382 => (fX12_walksBack_b76 N h_7382)) else ((gR h 12 4 q0).bind fun v_7383 => ((gR h 12 4 q0).bind fun v_7385 => ((aI h v_7385 x2).bind fun v_7387 => ((wI h v_7383 x2 ((v_7387 + (3 : Int32)) &&& (3 : Int32))).bind fun h_7389 => (fX12_walksBack_b76 N h_7389)))))))
set_option maxRecDepth 10000 in
set_option maxHeartbeats 4000000 in
theorem rX12_walksBack {d N : Nat} (hd : 4 ≤ d) {h : iv_H} {q0 : Nat} {x1 : Int32} {x2 : Int32} {x3 : Int32} {r : iv_H} {Q : Option Value → iv_H → Prop} (e : fX12_walksBack N h q0 x1 x2 x3 = some r) (hq : Q none r) : Cl d 251 [.ref q0, .int x1, .int x2, .int x3] h Q := by
  obtain ⟨d, rfl⟩ : ∃ k, d = k + 1 := ⟨d - 1, by omega⟩
  have hd : 3 ≤ d := by omega
  have hT := hX12_walksBack
  unfold fX12_walksBack at e
  refine Cl.into (by decide) gX12_walksBack rfl ?_
  show Rn d 251 none 0 [some (.ref q0), some (.int x1), some (.int x2), some (.int x3)] [] h Q
  refine Rn.n hT 1 (pc' := 1) (L' := [some (.ref q0), some (.int x1), some (.int x2), some (.int x3)]) (st' := [.int x1]) rfl ?_
  by_cases c_7366 : x1 = (1 : Int32)
  · rw [if_pos c_7366] at e
    refine Rn.sw2 hT rfl rfl rfl (if_pos c_7366) ?_
    refine Rn.n hT 4 (pc' := 32) (L' := [some (.ref q0), some (.int x1), some (.int x2), some (.int x3)]) (st' := [.ref q0, .ref q0, .int x2, .ref q0]) rfl ?_
    obtain ⟨v_7367, e_7368, e⟩ := Option.bind_eq_some_iff.mp e
    refine Rn.hp hT rfl rfl (gR_hp e_7368) ?_
    refine Rn.n hT 1 (pc' := 36) (L' := [some (.ref q0), some (.int x1), some (.int x2), some (.int x3)]) (st' := [.int x2, .ref v_7367, .ref q0, .int x2, .ref q0]) rfl ?_
    obtain ⟨v_7369, e_7370, e⟩ := Option.bind_eq_some_iff.mp e
    refine Rn.hp hT rfl rfl (aI_hp e_7370) ?_
    refine Rn.n hT 5 (pc' := 42) (L' := [some (.ref q0), some (.int x1), some (.int x2), some (.int x3)]) (st' := [.int ((x3 + (2 : Int32)) &&& (3 : Int32)), .int v_7369, .ref q0, .int x2, .ref q0]) rfl ?_
    obtain ⟨_, e_7372, e⟩ := Option.bind_eq_some_iff.mp e
    obtain ⟨v_7373, e_7371, e⟩ := Option.bind_eq_some_iff.mp e
    refine Rn.call hT rfl rfl rfl (Nat.le_of_ble_eq_true rfl) (rcv_v gX12_by (by omega) e_7372) (rX12_by (by omega) e_7371 ?_)
    show Rn d _ _ 45 [some (.ref q0), some (.int x1), some (.int x2), some (.int x3)] [.int v_7373, .int x2, .ref q0] h Q
    obtain ⟨_, e_7375, e⟩ := Option.bind_eq_some_iff.mp e
    obtain ⟨h_7377, e_7374, e⟩ := Option.bind_eq_some_iff.mp e
    refine Rn.call hT rfl rfl rfl (Nat.le_of_ble_eq_true rfl) (rcv_v gX12_goesTo (by omega) e_7375) (rX12_goesTo (by omega) e_7374 ?_)
    show Rn d _ _ 48 [some (.ref q0), some (.int x1), some (.int x2), some (.int x3)] [] h_7377 Q
    refine Rn.n hT 1 (pc' := 76) (L' := [some (.ref q0), some (.int x1), some (.int x2), some (.int x3)]) (st' := []) rfl ?_
    exact Rn.weak (ll_n (ll_n (ll_n (ll_n ll_e)))) (rX12_walksBack_b76 hd hq e)
  · rw [if_neg c_7366] at e
    by_cases c_7378 : x1 = (2 : Int32)
    · rw [if_pos c_7378] at e
      refine Rn.sw2 hT rfl rfl rfl ((if_neg c_7366).trans (if_pos c_7378)) ?_
      refine Rn.n hT 3 (pc' := 54) (L' := [some (.ref q0), some (.int x1), some (.int x2), some (.int x3)]) (st' := [.int x3, .int x2, .ref q0]) rfl ?_
      obtain ⟨_, e_7380, e⟩ := Option.bind_eq_some_iff.mp e
      obtain ⟨h_7382, e_7379, e⟩ := Option.bind_eq_some_iff.mp e
      refine Rn.call hT rfl rfl rfl (Nat.le_of_ble_eq_true rfl) (rcv_v gX12_swaps (by omega) e_7380) (rX12_swaps (by omega) e_7379 ?_)
      show Rn d _ _ 57 [some (.ref q0), some (.int x1), some (.int x2), some (.int x3)] [] h_7382 Q
      refine Rn.n hT 1 (pc' := 76) (L' := [some (.ref q0), some (.int x1), some (.int x2), some (.int x3)]) (st' := []) rfl ?_
      exact Rn.weak (ll_n (ll_n (ll_n (ll_n ll_e)))) (rX12_walksBack_b76 hd hq e)
    · rw [if_neg c_7378] at e
      refine Rn.sw2 hT rfl rfl rfl ((if_neg c_7366).trans ((if_neg c_7378).trans rfl)) ?_
      refine Rn.n hT 1 (pc' := 61) (L' := [some (.ref q0), some (.int x1), some (.int x2), some (.int x3)]) (st' := [.ref q0]) rfl ?_
      obtain ⟨v_7383, e_7384, e⟩ := Option.bind_eq_some_iff.mp e
      refine Rn.hp hT rfl rfl (gR_hp e_7384) ?_
      refine Rn.n hT 2 (pc' := 66) (L' := [some (.ref q0), some (.int x1), some (.int x2), some (.int x3)]) (st' := [.ref q0, .int x2, .ref v_7383]) rfl ?_
      obtain ⟨v_7385, e_7386, e⟩ := Option.bind_eq_some_iff.mp e
      refine Rn.hp hT rfl rfl (gR_hp e_7386) ?_
      refine Rn.n hT 1 (pc' := 70) (L' := [some (.ref q0), some (.int x1), some (.int x2), some (.int x3)]) (st' := [.int x2, .ref v_7385, .int x2, .ref v_7383]) rfl ?_
      obtain ⟨v_7387, e_7388, e⟩ := Option.bind_eq_some_iff.mp e
      refine Rn.hp hT rfl rfl (aI_hp e_7388) ?_
      refine Rn.n hT 4 (pc' := 75) (L' := [some (.ref q0), some (.int x1), some (.int x2), some (.int x3)]) (st' := [.int ((v_7387 + (3 : Int32)) &&& (3 : Int32)), .int x2, .ref v_7383]) rfl ?_
      obtain ⟨h_7389, e_7390, e⟩ := Option.bind_eq_some_iff.mp e
      refine Rn.hp hT rfl rfl (wI_hp e_7390) ?_
      exact Rn.weak (ll_n (ll_n (ll_n (ll_n ll_e)))) (rX12_walksBack_b76 hd hq e)
set_option maxRecDepth 10000 in
theorem hX12_canBe : iv_Tb 252 tX12_canBe := iv_tb_of (m := mX12_canBe) rfl
set_option maxRecDepth 10000 in
theorem gX12_canBe : PG.2 252 = some mX12_canBe := iv_pi_of (t := tX12_canBe) rfl (by decide)
def fX12_canBe_b63 (N : Nat) (h : iv_H)  (s0 : Int32) : Option (Int32) := (if s0 = 0 ∨ s0 = 1 then some s0 else none)
set_option maxRecDepth 10000 in
set_option maxHeartbeats 4000000 in
theorem rX12_canBe_b63 {d N : Nat} (hd : 5 ≤ d) {h : iv_H}  {s0 : Int32} {r : Int32} {Q : Option Value → iv_H → Prop} (hq : Q (some (.int r)) h) (e : fX12_canBe_b63 N h  s0 = some r) : Rn d 252 (some .boolean) 63 [none, none, none, none, none] [.int s0] h Q := by
  have hT := hX12_canBe
  unfold fX12_canBe_b63 at e
  by_cases c_7410 : s0 = 0 ∨ s0 = 1
  · rw [if_pos c_7410] at e
    obtain rfl := Option.some.inj e
    exact Rn.ret hT rfl rfl (if_pos c_7410) hq
  · rw [if_neg c_7410] at e
    cases e
def fX12_canBe_b62 (N : Nat) (h : iv_H)   : Option (Int32) := (fX12_canBe_b63 N h (0 : Int32))
set_option maxRecDepth 10000 in
set_option maxHeartbeats 4000000 in
theorem rX12_canBe_b62 {d N : Nat} (hd : 5 ≤ d) {h : iv_H}   {r : Int32} {Q : Option Value → iv_H → Prop} (hq : Q (some (.int r)) h) (e : fX12_canBe_b62 N h   = some r) : Rn d 252 (some .boolean) 62 [none, none, none, none, none] [] h Q := by
  have hT := hX12_canBe
  unfold fX12_canBe_b62 at e
  refine Rn.n hT 1 (pc' := 63) (L' := [none, none, none, none, none]) (st' := [.int (0 : Int32)]) rfl ?_
  exact Rn.weak (ll_n (ll_n (ll_n (ll_n (ll_n ll_e))))) (rX12_canBe_b63 hd hq e)
def fX12_canBe (N : Nat) (h : iv_H) (q0 : Nat) (x1 : Int32) (x2 : Int32) (x3 : Int32) : Option (Int32) := (if x1 = (1 : Int32) then ((gR h 12 3 q0).bind fun v_7392 => ((aI h v_7392 x2).bind fun v_7394 => ((cko h q0 12).bind fun _ => (fX12_by N h q0 v_7394 x3).bind fun v_7398 => (if v_7398 = (-1 : Int32) then (fX12_canBe_b62 N h) else ((gR h 12 8 q0).bind fun v_7400 => ((aI h v_7400 v_7398).bind fun v_7402 => (if v_7402 = (-1 : Int32) then (fX12_canBe_b63 N h (1 : Int32)) else (fX12_canBe_b62 N h)))))))) else (if x1 = (2 : Int32) then ((cko h q0 12).bind fun _ => (fX12_areNeighbours N h q0 x2 x3).bind fun v_7408 => (if v_7408 = 0 ∨ v_7408 = 1 then some v_7408 else none)) else (some (1 : Int32))))
set_option maxRecDepth 10000 in
set_option maxHeartbeats 4000000 in
theorem rX12_canBe {d N : Nat} (hd : 6 ≤ d) {h : iv_H} {q0 : Nat} {x1 : Int32} {x2 : Int32} {x3 : Int32} {r : Int32} {Q : Option Value → iv_H → Prop} (e : fX12_canBe N h q0 x1 x2 x3 = some r) (hq : Q (some (.int r)) h) : Cl d 252 [.ref q0, .int x1, .int x2, .int x3] h Q := by
  obtain ⟨d, rfl⟩ : ∃ k, d = k + 1 := ⟨d - 1, by omega⟩
  have hd : 5 ≤ d := by omega
  have hT := hX12_canBe
  unfold fX12_canBe at e
  refine Cl.into (by decide) gX12_canBe rfl ?_
  show Rn d 252 (some .boolean) 0 [some (.ref q0), some (.int x1), some (.int x2), some (.int x3), none] [] h Q
  refine Rn.n hT 1 (pc' := 1) (L' := [some (.ref q0), some (.int x1), some (.int x2), some (.int x3), none]) (st' := [.int x1]) rfl ?_
  by_cases c_7391 : x1 = (1 : Int32)
  · rw [if_pos c_7391] at e
    refine Rn.sw2 hT rfl rfl rfl (if_pos c_7391) ?_
    refine Rn.n hT 2 (pc' := 30) (L' := [some (.ref q0), some (.int x1), some (.int x2), some (.int x3), none]) (st' := [.ref q0, .ref q0]) rfl ?_
    obtain ⟨v_7392, e_7393, e⟩ := Option.bind_eq_some_iff.mp e
    refine Rn.hp hT rfl rfl (gR_hp e_7393) ?_
    refine Rn.n hT 1 (pc' := 34) (L' := [some (.ref q0), some (.int x1), some (.int x2), some (.int x3), none]) (st' := [.int x2, .ref v_7392, .ref q0]) rfl ?_
    obtain ⟨v_7394, e_7395, e⟩ := Option.bind_eq_some_iff.mp e
    refine Rn.hp hT rfl rfl (aI_hp e_7395) ?_
    refine Rn.n hT 1 (pc' := 36) (L' := [some (.ref q0), some (.int x1), some (.int x2), some (.int x3), none]) (st' := [.int x3, .int v_7394, .ref q0]) rfl ?_
    obtain ⟨_, e_7397, e⟩ := Option.bind_eq_some_iff.mp e
    obtain ⟨v_7398, e_7396, e⟩ := Option.bind_eq_some_iff.mp e
    refine Rn.call hT rfl rfl rfl (Nat.le_of_ble_eq_true rfl) (rcv_v gX12_by (by omega) e_7397) (rX12_by (by omega) e_7396 ?_)
    show Rn d _ _ 39 [some (.ref q0), some (.int x1), some (.int x2), some (.int x3), none] [.int v_7398] h Q
    refine Rn.n hT 3 (pc' := 44) (L' := [some (.ref q0), some (.int x1), some (.int x2), some (.int x3), some (.int v_7398)]) (st' := [.int (-1 : Int32), .int v_7398]) rfl ?_
    by_cases c_7399 : v_7398 = (-1 : Int32)
    · rw [if_pos c_7399] at e
      refine Rn.bt hT rfl rfl rfl (decide_eq_true c_7399) ?_
      exact Rn.weak (ll_n (ll_n (ll_n (ll_n (ll_n ll_e))))) (rX12_canBe_b62 hd hq e)
    · rw [if_neg c_7399] at e
      refine Rn.bf hT rfl rfl rfl (decide_eq_false c_7399) ?_
      refine Rn.n hT 1 (pc' := 48) (L' := [some (.ref q0), some (.int x1), some (.int x2), some (.int x3), some (.int v_7398)]) (st' := [.ref q0]) rfl ?_
      obtain ⟨v_7400, e_7401, e⟩ := Option.bind_eq_some_iff.mp e
      refine Rn.hp hT rfl rfl (gR_hp e_7401) ?_
      refine Rn.n hT 1 (pc' := 53) (L' := [some (.ref q0), some (.int x1), some (.int x2), some (.int x3), some (.int v_7398)]) (st' := [.int v_7398, .ref v_7400]) rfl ?_
      obtain ⟨v_7402, e_7403, e⟩ := Option.bind_eq_some_iff.mp e
      refine Rn.hp hT rfl rfl (aI_hp e_7403) ?_
      refine Rn.n hT 1 (pc' := 55) (L' := [some (.ref q0), some (.int x1), some (.int x2), some (.int x3), some (.int v_7398)]) (st' := [.int (-1 : Int32), .int v_7402]) rfl ?_
      by_cases c_7404 : v_7402 = (-1 : Int32)
      · rw [if_pos c_7404] at e
        refine Rn.bf hT rfl rfl rfl (decide_eq_false (fun z => z c_7404)) ?_
        refine Rn.n hT 2 (pc' := 63) (L' := [some (.ref q0), some (.int x1), some (.int x2), some (.int x3), some (.int v_7398)]) (st' := [.int (1 : Int32)]) rfl ?_
        exact Rn.weak (ll_n (ll_n (ll_n (ll_n (ll_n ll_e))))) (rX12_canBe_b63 hd hq e)
      · rw [if_neg c_7404] at e
        refine Rn.bt hT rfl rfl rfl (decide_eq_true c_7404) ?_
        exact Rn.weak (ll_n (ll_n (ll_n (ll_n (ll_n ll_e))))) (rX12_canBe_b62 hd hq e)
  · rw [if_neg c_7391] at e
    by_cases c_7405 : x1 = (2 : Int32)
    · rw [if_pos c_7405] at e
      refine Rn.sw2 hT rfl rfl rfl ((if_neg c_7391).trans (if_pos c_7405)) ?_
      refine Rn.n hT 3 (pc' := 67) (L' := [some (.ref q0), some (.int x1), some (.int x2), some (.int x3), none]) (st' := [.int x3, .int x2, .ref q0]) rfl ?_
      obtain ⟨_, e_7407, e⟩ := Option.bind_eq_some_iff.mp e
      obtain ⟨v_7408, e_7406, e⟩ := Option.bind_eq_some_iff.mp e
      refine Rn.call hT rfl rfl rfl (Nat.le_of_ble_eq_true rfl) (rcv_v gX12_areNeighbours (by omega) e_7407) (rX12_areNeighbours (by omega) e_7406 ?_)
      show Rn d _ _ 70 [some (.ref q0), some (.int x1), some (.int x2), some (.int x3), none] [.int v_7408] h Q
      by_cases c_7409 : v_7408 = 0 ∨ v_7408 = 1
      · rw [if_pos c_7409] at e
        obtain rfl := Option.some.inj e
        exact Rn.ret hT rfl rfl (if_pos c_7409) hq
      · rw [if_neg c_7409] at e
        cases e
    · rw [if_neg c_7405] at e
      refine Rn.sw2 hT rfl rfl rfl ((if_neg c_7391).trans ((if_neg c_7405).trans rfl)) ?_
      refine Rn.n hT 1 (pc' := 72) (L' := [some (.ref q0), some (.int x1), some (.int x2), some (.int x3), none]) (st' := [.int (1 : Int32)]) rfl ?_
      obtain rfl := Option.some.inj e
      exact Rn.ret hT rfl rfl rfl hq
set_option maxRecDepth 10000 in
theorem hX12_doorsOf : iv_Tb 253 tX12_doorsOf := iv_tb_of (m := mX12_doorsOf) rfl
set_option maxRecDepth 10000 in
theorem gX12_doorsOf : PG.2 253 = some mX12_doorsOf := iv_pi_of (t := tX12_doorsOf) rfl (by decide)
def fX12_doorsOf_b51 (N : Nat) (h : iv_H) (q0 : Nat) (x1 : Int32) (x2 : Int32) (x4 : Int32) (s0 : Int32) (s1 : Int32) (kb : Int32 → Int32 → Option (Int32)) (kx : Int32 → Option (Int32)) : Option (Int32) := (kb (s1 + s0) (x4 + (1 : Int32)))
set_option maxRecDepth 10000 in
set_option maxHeartbeats 4000000 in
theorem rX12_doorsOf_b51 {d N : Nat} (hd : 3 ≤ d) {h : iv_H} {q0 : Nat} {x1 : Int32} {x2 : Int32} {x4 : Int32} {s0 : Int32} {s1 : Int32} {kb : Int32 → Int32 → Option (Int32)} {kx : Int32 → Option (Int32)} {r : Int32} {Q : Option Value → iv_H → Prop} (hb : ∀ (w3 : Int32) (w4 : Int32), kb w3 w4 = some r → Rn d 253 (some .int) 5 [some (.ref q0), some (.int x1), some (.int x2), some (.int w3), some (.int w4)] [] h Q) (hk : ∀ (w3 : Int32), kx w3 = some r → Rn d 253 (some .int) 59 [none, none, none, some (.int w3), none] [] h Q) (hq : Q (some (.int r)) h) (e : fX12_doorsOf_b51 N h q0 x1 x2 x4 s0 s1 kb kx = some r) : Rn d 253 (some .int) 51 [some (.ref q0), some (.int x1), some (.int x2), none, some (.int x4)] [.int s0, .int s1] h Q := by
  have hT := hX12_doorsOf
  unfold fX12_doorsOf_b51 at e
  refine Rn.n hT 4 (pc' := 5) (L' := [some (.ref q0), some (.int x1), some (.int x2), some (.int (s1 + s0)), some (.int (x4 + (1 : Int32)))]) (st' := []) rfl ?_
  exact Rn.weak (ll_s (ll_s (ll_s (ll_s (ll_s ll_e))))) (hb (s1 + s0) (x4 + (1 : Int32)) e)
def fX12_doorsOf_l5 (N : Nat) (h : iv_H) (q0 : Nat) (x1 : Int32) (x2 : Int32) (kx : Int32 → Option (Int32)) : Nat → Int32 → Int32 → Option (Int32)
  | 0, _, _ => none
  | n + 1, x3, x4 => (if (4 : Int32) ≤ x4 then (kx x3) else (if x2 = 0 then ((cko h q0 12).bind fun _ => (fX12_sortAt N h q0 x1 x4).bind fun v_7416 => (if v_7416 = (1 : Int32) then (fX12_doorsOf_b51 N h q0 x1 x2 x4 (1 : Int32) x3 (fX12_doorsOf_l5 N h q0 x1 x2 kx n) kx) else (fX12_doorsOf_b51 N h q0 x1 x2 x4 (0 : Int32) x3 (fX12_doorsOf_l5 N h q0 x1 x2 kx n) kx))) else ((cko h q0 12).bind fun _ => (fX12_sideOf N h q0 x1 x4).bind fun v_7420 => (if v_7420 < (3 : Int32) then (fX12_doorsOf_b51 N h q0 x1 x2 x4 (0 : Int32) x3 (fX12_doorsOf_l5 N h q0 x1 x2 kx n) kx) else (fX12_doorsOf_b51 N h q0 x1 x2 x4 (1 : Int32) x3 (fX12_doorsOf_l5 N h q0 x1 x2 kx n) kx)))))
set_option maxRecDepth 10000 in
set_option maxHeartbeats 4000000 in
theorem rX12_doorsOf_l5 {d N : Nat} (hd : 3 ≤ d) {h : iv_H} {q0 : Nat} {x1 : Int32} {x2 : Int32} {kx : Int32 → Option (Int32)} {r : Int32} {Q : Option Value → iv_H → Prop} (hk : ∀ (x3 : Int32), kx x3 = some r → Rn d 253 (some .int) 59 [none, none, none, some (.int x3), none] [] h Q) (hq : Q (some (.int r)) h) : ∀ (n : Nat) (x3 : Int32) (x4 : Int32), fX12_doorsOf_l5 N h q0 x1 x2 kx n x3 x4 = some r → Rn d 253 (some .int) 5 [some (.ref q0), some (.int x1), some (.int x2), some (.int x3), some (.int x4)] [] h Q := by
  have hT := hX12_doorsOf
  intro n
  induction n with
  | zero =>
    intro x3 x4 e
    rw [fX12_doorsOf_l5] at e
    cases e
  | succ n ih =>
    intro x3 x4 e
    rw [fX12_doorsOf_l5] at e
    refine Rn.n hT 2 (pc' := 8) (L' := [some (.ref q0), some (.int x1), some (.int x2), some (.int x3), some (.int x4)]) (st' := [.int (4 : Int32), .int x4]) rfl ?_
    by_cases c_7412 : (4 : Int32) ≤ x4
    · rw [if_pos c_7412] at e
      refine Rn.bt hT rfl rfl rfl (decide_eq_true c_7412) ?_
      exact Rn.weak (ll_n (ll_n (ll_n (ll_s (ll_n ll_e))))) (hk x3 e)
    · rw [if_neg c_7412] at e
      refine Rn.bf hT rfl rfl rfl (decide_eq_false c_7412) ?_
      refine Rn.n hT 2 (pc' := 13) (L' := [some (.ref q0), some (.int x1), some (.int x2), some (.int x3), some (.int x4)]) (st' := [.int x2, .int x3]) rfl ?_
      by_cases c_7413 : x2 = 0
      · rw [if_pos c_7413] at e
        refine Rn.bt hT rfl rfl rfl (decide_eq_true c_7413) ?_
        refine Rn.n hT 3 (pc' := 39) (L' := [some (.ref q0), some (.int x1), some (.int x2), some (.int x3), some (.int x4)]) (st' := [.int x4, .int x1, .ref q0, .int x3]) rfl ?_
        obtain ⟨_, e_7415, e⟩ := Option.bind_eq_some_iff.mp e
        obtain ⟨v_7416, e_7414, e⟩ := Option.bind_eq_some_iff.mp e
        refine Rn.call hT rfl rfl rfl (Nat.le_of_ble_eq_true rfl) (rcv_v gX12_sortAt (by omega) e_7415) (rX12_sortAt (by omega) e_7414 ?_)
        show Rn d _ _ 42 [some (.ref q0), some (.int x1), some (.int x2), some (.int x3), some (.int x4)] [.int v_7416, .int x3] h Q
        refine Rn.n hT 1 (pc' := 43) (L' := [some (.ref q0), some (.int x1), some (.int x2), some (.int x3), some (.int x4)]) (st' := [.int (1 : Int32), .int v_7416, .int x3]) rfl ?_
        by_cases c_7417 : v_7416 = (1 : Int32)
        · rw [if_pos c_7417] at e
          refine Rn.bf hT rfl rfl rfl (decide_eq_false (fun z => z c_7417)) ?_
          refine Rn.n hT 2 (pc' := 51) (L' := [some (.ref q0), some (.int x1), some (.int x2), some (.int x3), some (.int x4)]) (st' := [.int (1 : Int32), .int x3]) rfl ?_
          exact Rn.weak (ll_s (ll_s (ll_s (ll_n (ll_s ll_e))))) (rX12_doorsOf_b51 hd ih hk hq e)
        · rw [if_neg c_7417] at e
          refine Rn.bt hT rfl rfl rfl (decide_eq_true c_7417) ?_
          refine Rn.n hT 1 (pc' := 51) (L' := [some (.ref q0), some (.int x1), some (.int x2), some (.int x3), some (.int x4)]) (st' := [.int (0 : Int32), .int x3]) rfl ?_
          exact Rn.weak (ll_s (ll_s (ll_s (ll_n (ll_s ll_e))))) (rX12_doorsOf_b51 hd ih hk hq e)
      · rw [if_neg c_7413] at e
        refine Rn.bf hT rfl rfl rfl (decide_eq_false c_7413) ?_
        refine Rn.n hT 3 (pc' := 20) (L' := [some (.ref q0), some (.int x1), some (.int x2), some (.int x3), some (.int x4)]) (st' := [.int x4, .int x1, .ref q0, .int x3]) rfl ?_
        obtain ⟨_, e_7419, e⟩ := Option.bind_eq_some_iff.mp e
        obtain ⟨v_7420, e_7418, e⟩ := Option.bind_eq_some_iff.mp e
        refine Rn.call hT rfl rfl rfl (Nat.le_of_ble_eq_true rfl) (rcv_v gX12_sideOf (by omega) e_7419) (rX12_sideOf (by omega) e_7418 ?_)
        show Rn d _ _ 23 [some (.ref q0), some (.int x1), some (.int x2), some (.int x3), some (.int x4)] [.int v_7420, .int x3] h Q
        refine Rn.n hT 1 (pc' := 24) (L' := [some (.ref q0), some (.int x1), some (.int x2), some (.int x3), some (.int x4)]) (st' := [.int (3 : Int32), .int v_7420, .int x3]) rfl ?_
        by_cases c_7421 : v_7420 < (3 : Int32)
        · rw [if_pos c_7421] at e
          refine Rn.bt hT rfl rfl rfl (decide_eq_true c_7421) ?_
          refine Rn.n hT 2 (pc' := 51) (L' := [some (.ref q0), some (.int x1), some (.int x2), some (.int x3), some (.int x4)]) (st' := [.int (0 : Int32), .int x3]) rfl ?_
          exact Rn.weak (ll_s (ll_s (ll_s (ll_n (ll_s ll_e))))) (rX12_doorsOf_b51 hd ih hk hq e)
        · rw [if_neg c_7421] at e
          refine Rn.bf hT rfl rfl rfl (decide_eq_false c_7421) ?_
          refine Rn.n hT 2 (pc' := 51) (L' := [some (.ref q0), some (.int x1), some (.int x2), some (.int x3), some (.int x4)]) (st' := [.int (1 : Int32), .int x3]) rfl ?_
          exact Rn.weak (ll_s (ll_s (ll_s (ll_n (ll_s ll_e))))) (rX12_doorsOf_b51 hd ih hk hq e)
def fX12_doorsOf (N : Nat) (h : iv_H) (q0 : Nat) (x1 : Int32) (x2 : Int32) : Option (Int32) := (fX12_doorsOf_l5 N h q0 x1 x2 (fun (z_7411 : Int32) => (some z_7411)) N (0 : Int32) (0 : Int32))
set_option maxRecDepth 10000 in
set_option maxHeartbeats 4000000 in
theorem rX12_doorsOf {d N : Nat} (hd : 4 ≤ d) {h : iv_H} {q0 : Nat} {x1 : Int32} {x2 : Int32} {r : Int32} {Q : Option Value → iv_H → Prop} (e : fX12_doorsOf N h q0 x1 x2 = some r) (hq : Q (some (.int r)) h) : Cl d 253 [.ref q0, .int x1, .int x2] h Q := by
  obtain ⟨d, rfl⟩ : ∃ k, d = k + 1 := ⟨d - 1, by omega⟩
  have hd : 3 ≤ d := by omega
  have hT := hX12_doorsOf
  unfold fX12_doorsOf at e
  refine Cl.into (by decide) gX12_doorsOf rfl ?_
  show Rn d 253 (some .int) 0 [some (.ref q0), some (.int x1), some (.int x2), none, none] [] h Q
  refine Rn.n hT 4 (pc' := 5) (L' := [some (.ref q0), some (.int x1), some (.int x2), some (.int (0 : Int32)), some (.int (0 : Int32))]) (st' := []) rfl ?_
  refine Rn.weak (ll_s (ll_s (ll_s (ll_s (ll_s ll_e))))) (rX12_doorsOf_l5 hd (fun z_7411 e => ?_) hq N (0 : Int32) (0 : Int32) e)
  try dsimp only at e
  refine Rn.n hT 1 (pc' := 60) (L' := [none, none, none, some (.int z_7411), none]) (st' := [.int z_7411]) rfl ?_
  obtain rfl := Option.some.inj e
  exact Rn.ret hT rfl rfl rfl hq
set_option maxRecDepth 10000 in
theorem hX12_sleepers : iv_Tb 254 tX12_sleepers := iv_tb_of (m := mX12_sleepers) rfl
set_option maxRecDepth 10000 in
theorem gX12_sleepers : PG.2 254 = some mX12_sleepers := iv_pi_of (t := tX12_sleepers) rfl (by decide)
def fX12_sleepers_b32 (N : Nat) (h : iv_H) (q0 : Nat) (x1 : Int32) (x3 : Int32) (s0 : Int32) (s1 : Int32) (kb : Int32 → Int32 → Option (Int32)) (kx : Int32 → Option (Int32)) : Option (Int32) := (kb (s1 ||| s0) (x3 + (1 : Int32)))
set_option maxRecDepth 10000 in
set_option maxHeartbeats 4000000 in
theorem rX12_sleepers_b32 {d N : Nat} (hd : 0 ≤ d) {h : iv_H} {q0 : Nat} {x1 : Int32} {x3 : Int32} {s0 : Int32} {s1 : Int32} {kb : Int32 → Int32 → Option (Int32)} {kx : Int32 → Option (Int32)} {r : Int32} {Q : Option Value → iv_H → Prop} (hb : ∀ (w2 : Int32) (w3 : Int32), kb w2 w3 = some r → Rn d 254 (some .int) 4 [some (.ref q0), some (.int x1), some (.int w2), some (.int w3)] [] h Q) (hk : ∀ (w2 : Int32), kx w2 = some r → Rn d 254 (some .int) 40 [none, none, some (.int w2), none] [] h Q) (hq : Q (some (.int r)) h) (e : fX12_sleepers_b32 N h q0 x1 x3 s0 s1 kb kx = some r) : Rn d 254 (some .int) 32 [some (.ref q0), some (.int x1), none, some (.int x3)] [.int s0, .int s1] h Q := by
  have hT := hX12_sleepers
  unfold fX12_sleepers_b32 at e
  refine Rn.n hT 4 (pc' := 4) (L' := [some (.ref q0), some (.int x1), some (.int (s1 ||| s0)), some (.int (x3 + (1 : Int32)))]) (st' := []) rfl ?_
  exact Rn.weak (ll_s (ll_s (ll_s (ll_s ll_e)))) (hb (s1 ||| s0) (x3 + (1 : Int32)) e)
def fX12_sleepers_l4 (N : Nat) (h : iv_H) (q0 : Nat) (x1 : Int32) (kx : Int32 → Option (Int32)) : Nat → Int32 → Int32 → Option (Int32)
  | 0, _, _ => none
  | n + 1, x2, x3 => ((gR h 12 1 q0).bind fun v_7423 => ((aI h v_7423 (3 : Int32)).bind fun v_7425 => (if v_7425 ≤ x3 then (kx x2) else ((gR h 12 7 q0).bind fun v_7428 => ((aI h v_7428 x3).bind fun v_7430 => (if v_7430 = x1 then (fX12_sleepers_b32 N h q0 x1 x3 ((1 : Int32) <<< (x3 &&& 31)) x2 (fX12_sleepers_l4 N h q0 x1 kx n) kx) else (fX12_sleepers_b32 N h q0 x1 x3 (0 : Int32) x2 (fX12_sleepers_l4 N h q0 x1 kx n) kx)))))))
set_option maxRecDepth 10000 in
set_option maxHeartbeats 4000000 in
theorem rX12_sleepers_l4 {d N : Nat} (hd : 0 ≤ d) {h : iv_H} {q0 : Nat} {x1 : Int32} {kx : Int32 → Option (Int32)} {r : Int32} {Q : Option Value → iv_H → Prop} (hk : ∀ (x2 : Int32), kx x2 = some r → Rn d 254 (some .int) 40 [none, none, some (.int x2), none] [] h Q) (hq : Q (some (.int r)) h) : ∀ (n : Nat) (x2 : Int32) (x3 : Int32), fX12_sleepers_l4 N h q0 x1 kx n x2 x3 = some r → Rn d 254 (some .int) 4 [some (.ref q0), some (.int x1), some (.int x2), some (.int x3)] [] h Q := by
  have hT := hX12_sleepers
  intro n
  induction n with
  | zero =>
    intro x2 x3 e
    rw [fX12_sleepers_l4] at e
    cases e
  | succ n ih =>
    intro x2 x3 e
    rw [fX12_sleepers_l4] at e
    refine Rn.n hT 2 (pc' := 6) (L' := [some (.ref q0), some (.int x1), some (.int x2), some (.int x3)]) (st' := [.ref q0, .int x3]) rfl ?_
    obtain ⟨v_7423, e_7424, e⟩ := Option.bind_eq_some_iff.mp e
    refine Rn.hp hT rfl rfl (gR_hp e_7424) ?_
    refine Rn.n hT 1 (pc' := 10) (L' := [some (.ref q0), some (.int x1), some (.int x2), some (.int x3)]) (st' := [.int (3 : Int32), .ref v_7423, .int x3]) rfl ?_
    obtain ⟨v_7425, e_7426, e⟩ := Option.bind_eq_some_iff.mp e
    refine Rn.hp hT rfl rfl (aI_hp e_7426) ?_
    by_cases c_7427 : v_7425 ≤ x3
    · rw [if_pos c_7427] at e
      refine Rn.bt hT rfl rfl rfl (decide_eq_true c_7427) ?_
      exact Rn.weak (ll_n (ll_n (ll_s (ll_n ll_e)))) (hk x2 e)
    · rw [if_neg c_7427] at e
      refine Rn.bf hT rfl rfl rfl (decide_eq_false c_7427) ?_
      refine Rn.n hT 2 (pc' := 16) (L' := [some (.ref q0), some (.int x1), some (.int x2), some (.int x3)]) (st' := [.ref q0, .int x2]) rfl ?_
      obtain ⟨v_7428, e_7429, e⟩ := Option.bind_eq_some_iff.mp e
      refine Rn.hp hT rfl rfl (gR_hp e_7429) ?_
      refine Rn.n hT 1 (pc' := 20) (L' := [some (.ref q0), some (.int x1), some (.int x2), some (.int x3)]) (st' := [.int x3, .ref v_7428, .int x2]) rfl ?_
      obtain ⟨v_7430, e_7431, e⟩ := Option.bind_eq_some_iff.mp e
      refine Rn.hp hT rfl rfl (aI_hp e_7431) ?_
      refine Rn.n hT 1 (pc' := 22) (L' := [some (.ref q0), some (.int x1), some (.int x2), some (.int x3)]) (st' := [.int x1, .int v_7430, .int x2]) rfl ?_
      by_cases c_7432 : v_7430 = x1
      · rw [if_pos c_7432] at e
        refine Rn.bf hT rfl rfl rfl (decide_eq_false (fun z => z c_7432)) ?_
        refine Rn.n hT 4 (pc' := 32) (L' := [some (.ref q0), some (.int x1), some (.int x2), some (.int x3)]) (st' := [.int ((1 : Int32) <<< (x3 &&& 31)), .int x2]) rfl ?_
        exact Rn.weak (ll_s (ll_s (ll_n (ll_s ll_e)))) (rX12_sleepers_b32 hd ih hk hq e)
      · rw [if_neg c_7432] at e
        refine Rn.bt hT rfl rfl rfl (decide_eq_true c_7432) ?_
        refine Rn.n hT 1 (pc' := 32) (L' := [some (.ref q0), some (.int x1), some (.int x2), some (.int x3)]) (st' := [.int (0 : Int32), .int x2]) rfl ?_
        exact Rn.weak (ll_s (ll_s (ll_n (ll_s ll_e)))) (rX12_sleepers_b32 hd ih hk hq e)
def fX12_sleepers (N : Nat) (h : iv_H) (q0 : Nat) (x1 : Int32) : Option (Int32) := (fX12_sleepers_l4 N h q0 x1 (fun (z_7422 : Int32) => (some z_7422)) N (0 : Int32) (0 : Int32))
set_option maxRecDepth 10000 in
set_option maxHeartbeats 4000000 in
theorem rX12_sleepers {d N : Nat} (hd : 1 ≤ d) {h : iv_H} {q0 : Nat} {x1 : Int32} {r : Int32} {Q : Option Value → iv_H → Prop} (e : fX12_sleepers N h q0 x1 = some r) (hq : Q (some (.int r)) h) : Cl d 254 [.ref q0, .int x1] h Q := by
  obtain ⟨d, rfl⟩ : ∃ k, d = k + 1 := ⟨d - 1, by omega⟩
  have hd : 0 ≤ d := by omega
  have hT := hX12_sleepers
  unfold fX12_sleepers at e
  refine Cl.into (by decide) gX12_sleepers rfl ?_
  show Rn d 254 (some .int) 0 [some (.ref q0), some (.int x1), none, none] [] h Q
  refine Rn.n hT 4 (pc' := 4) (L' := [some (.ref q0), some (.int x1), some (.int (0 : Int32)), some (.int (0 : Int32))]) (st' := []) rfl ?_
  refine Rn.weak (ll_s (ll_s (ll_s (ll_s ll_e)))) (rX12_sleepers_l4 hd (fun z_7422 e => ?_) hq N (0 : Int32) (0 : Int32) e)
  try dsimp only at e
  refine Rn.n hT 1 (pc' := 41) (L' := [none, none, some (.int z_7422), none]) (st' := [.int z_7422]) rfl ?_
  obtain rfl := Option.some.inj e
  exact Rn.ret hT rfl rfl rfl hq
set_option maxRecDepth 10000 in
theorem hX12_isBarred : iv_Tb 255 tX12_isBarred := iv_tb_of (m := mX12_isBarred) rfl
set_option maxRecDepth 10000 in
theorem gX12_isBarred : PG.2 255 = some mX12_isBarred := iv_pi_of (t := tX12_isBarred) rfl (by decide)
def fX12_isBarred_l232 (N : Nat) (q0 : Nat) (x6 : Int32) (kx : iv_H → Option (Int32 × iv_H)) : Nat → iv_H → Int32 → Option (Int32 × iv_H)
  | 0, _, _ => none
  | n + 1, h, x8 => ((gR h 12 42 q0).bind fun v_7532 => ((aI h v_7532 x6).bind fun v_7534 => (if (((12 : Int32) * x6) + v_7534) ≤ x8 then (kx h) else ((gR h 12 43 q0).bind fun v_7537 => ((aI h v_7537 x8).bind fun v_7539 => ((gR h 12 44 q0).bind fun v_7541 => ((aI h v_7541 x8).bind fun v_7543 => ((cko h q0 12).bind fun _ => (fX12_answer N h q0 x6 v_7539 v_7543).bind fun p_7550 => (fun (v_7547 : Int64) (h_7548 : iv_H) => (if (lg_cmp v_7547 (1 : Int64)) = 0 then (some ((1 : Int32), h_7548)) else (fX12_isBarred_l232 N q0 x6 kx n h_7548 (x8 + (1 : Int32))))) p_7550.1 p_7550.2))))))))
set_option maxRecDepth 10000 in
set_option maxHeartbeats 4000000 in
theorem rX12_isBarred_l232 {d N : Nat} (hd : 4 ≤ d) {q0 : Nat} {x6 : Int32} {kx : iv_H → Option (Int32 × iv_H)} {r : Int32 × iv_H} {Q : Option Value → iv_H → Prop} (hk : ∀ (h : iv_H), kx h = some r → Rn d 255 (some .boolean) 283 [none, none, none, none, none, none, none, none, none] [] h Q) (hq : Q (some (.int r.1)) r.2) : ∀ (n : Nat) (h : iv_H) (x8 : Int32), fX12_isBarred_l232 N q0 x6 kx n h x8 = some r → Rn d 255 (some .boolean) 232 [some (.ref q0), none, none, none, none, none, some (.int x6), none, some (.int x8)] [] h Q := by
  have hT := hX12_isBarred
  intro n
  induction n with
  | zero =>
    intro h x8 e
    rw [fX12_isBarred_l232] at e
    cases e
  | succ n ih =>
    intro h x8 e
    rw [fX12_isBarred_l232] at e
    refine Rn.n hT 5 (pc' := 240) (L' := [some (.ref q0), none, none, none, none, none, some (.int x6), none, some (.int x8)]) (st' := [.ref q0, .int ((12 : Int32) * x6), .int x8]) rfl ?_
    obtain ⟨v_7532, e_7533, e⟩ := Option.bind_eq_some_iff.mp e
    refine Rn.hp hT rfl rfl (gR_hp e_7533) ?_
    refine Rn.n hT 1 (pc' := 245) (L' := [some (.ref q0), none, none, none, none, none, some (.int x6), none, some (.int x8)]) (st' := [.int x6, .ref v_7532, .int ((12 : Int32) * x6), .int x8]) rfl ?_
    obtain ⟨v_7534, e_7535, e⟩ := Option.bind_eq_some_iff.mp e
    refine Rn.hp hT rfl rfl (aI_hp e_7535) ?_
    refine Rn.n hT 1 (pc' := 247) (L' := [some (.ref q0), none, none, none, none, none, some (.int x6), none, some (.int x8)]) (st' := [.int (((12 : Int32) * x6) + v_7534), .int x8]) rfl ?_
    by_cases c_7536 : (((12 : Int32) * x6) + v_7534) ≤ x8
    · rw [if_pos c_7536] at e
      refine Rn.bt hT rfl rfl rfl (decide_eq_true c_7536) ?_
      exact Rn.weak (ll_n (ll_n (ll_n (ll_n (ll_n (ll_n (ll_n (ll_n (ll_n ll_e))))))))) (hk h e)
    · rw [if_neg c_7536] at e
      refine Rn.bf hT rfl rfl rfl (decide_eq_false c_7536) ?_
      refine Rn.n hT 3 (pc' := 254) (L' := [some (.ref q0), none, none, none, none, none, some (.int x6), none, some (.int x8)]) (st' := [.ref q0, .int x6, .ref q0]) rfl ?_
      obtain ⟨v_7537, e_7538, e⟩ := Option.bind_eq_some_iff.mp e
      refine Rn.hp hT rfl rfl (gR_hp e_7538) ?_
      refine Rn.n hT 1 (pc' := 259) (L' := [some (.ref q0), none, none, none, none, none, some (.int x6), none, some (.int x8)]) (st' := [.int x8, .ref v_7537, .int x6, .ref q0]) rfl ?_
      obtain ⟨v_7539, e_7540, e⟩ := Option.bind_eq_some_iff.mp e
      refine Rn.hp hT rfl rfl (aI_hp e_7540) ?_
      refine Rn.n hT 1 (pc' := 261) (L' := [some (.ref q0), none, none, none, none, none, some (.int x6), none, some (.int x8)]) (st' := [.ref q0, .int v_7539, .int x6, .ref q0]) rfl ?_
      obtain ⟨v_7541, e_7542, e⟩ := Option.bind_eq_some_iff.mp e
      refine Rn.hp hT rfl rfl (gR_hp e_7542) ?_
      refine Rn.n hT 1 (pc' := 266) (L' := [some (.ref q0), none, none, none, none, none, some (.int x6), none, some (.int x8)]) (st' := [.int x8, .ref v_7541, .int v_7539, .int x6, .ref q0]) rfl ?_
      obtain ⟨v_7543, e_7544, e⟩ := Option.bind_eq_some_iff.mp e
      refine Rn.hp hT rfl rfl (aI_hp e_7544) ?_
      obtain ⟨_, e_7546, e⟩ := Option.bind_eq_some_iff.mp e
      obtain ⟨⟨v_7547, h_7548⟩, e_7545, e⟩ := Option.bind_eq_some_iff.mp e
      try dsimp only at e
      try dsimp only at e
      refine Rn.call hT rfl rfl rfl (Nat.le_of_ble_eq_true rfl) (rcv_v gX12_answer (by omega) e_7546) (rX12_answer (by omega) e_7545 ?_)
      show Rn d _ _ 270 [some (.ref q0), none, none, none, none, none, some (.int x6), none, some (.int x8)] [.long v_7547] h_7548 Q
      refine Rn.n hT 2 (pc' := 272) (L' := [some (.ref q0), none, none, none, none, none, some (.int x6), none, some (.int x8)]) (st' := [.int (lg_cmp v_7547 (1 : Int64))]) rfl ?_
      by_cases c_7549 : (lg_cmp v_7547 (1 : Int64)) = 0
      · rw [if_pos c_7549] at e
        refine Rn.bf hT rfl rfl rfl (decide_eq_false (fun z => z c_7549)) ?_
        refine Rn.n hT 1 (pc' := 276) (L' := [some (.ref q0), none, none, none, none, none, some (.int x6), none, some (.int x8)]) (st' := [.int (1 : Int32)]) rfl ?_
        obtain rfl := Option.some.inj e
        exact Rn.ret hT rfl rfl rfl hq
      · rw [if_neg c_7549] at e
        refine Rn.bt hT rfl rfl rfl (decide_eq_true c_7549) ?_
        refine Rn.n hT 2 (pc' := 232) (L' := [some (.ref q0), none, none, none, none, none, some (.int x6), none, some (.int (x8 + (1 : Int32)))]) (st' := []) rfl ?_
        exact Rn.weak (ll_s (ll_n (ll_n (ll_n (ll_n (ll_n (ll_s (ll_n (ll_s ll_e))))))))) (ih h_7548 (x8 + (1 : Int32)) e)
def fX12_isBarred_b92 (N : Nat) (h : iv_H) (q0 : Nat) (x2 : Int32) (x4 : Int32) (x5 : Int32) (x6 : Int32) (x7 : Int32) (sj0 : Int64) (s1 : Int32) (sq2 : Nat) : Option (Int32 × iv_H) := ((wJ h sq2 s1 sj0).bind fun h_7466 => ((gR h_7466 12 46 q0).bind fun v_7468 => ((gR h_7466 12 3 q0).bind fun v_7470 => ((aI h_7466 v_7470 x2).bind fun v_7472 => ((wJ h_7466 v_7468 (3 : Int32) (((v_7472 - v_7472 / (4 : Int32) * (4 : Int32))).toInt64)).bind fun h_7474 => ((gR h_7474 12 46 q0).bind fun v_7476 => ((gR h_7474 12 3 q0).bind fun v_7478 => ((aI h_7474 v_7478 x2).bind fun v_7480 => ((wJ h_7474 v_7476 (4 : Int32) (((v_7480 / (4 : Int32))).toInt64)).bind fun h_7482 => ((gR h_7482 12 46 q0).bind fun v_7484 => ((wJ h_7482 v_7484 (5 : Int32) (((x7 - x7 / (4 : Int32) * (4 : Int32))).toInt64)).bind fun h_7486 => ((gR h_7486 12 46 q0).bind fun v_7488 => ((wJ h_7486 v_7488 (6 : Int32) (((x7 / (4 : Int32))).toInt64)).bind fun h_7490 => ((gR h_7490 12 46 q0).bind fun v_7492 => ((cko h_7490 q0 12).bind fun _ => (fX12_doorsOf N h_7490 q0 x2 (0 : Int32)).bind fun v_7496 => ((wJ h_7490 v_7492 (7 : Int32) ((v_7496).toInt64)).bind fun h_7497 => ((gR h_7497 12 46 q0).bind fun v_7499 => ((cko h_7497 q0 12).bind fun _ => (fX12_doorsOf N h_7497 q0 x2 (1 : Int32)).bind fun v_7503 => ((wJ h_7497 v_7499 (8 : Int32) ((v_7503).toInt64)).bind fun h_7504 => ((gR h_7504 12 46 q0).bind fun v_7506 => ((cko h_7504 q0 12).bind fun _ => (fX12_sleepers N h_7504 q0 x2).bind fun v_7510 => ((fX12_bits N h_7504 v_7510).bind fun v_7512 => ((wJ h_7504 v_7506 (9 : Int32) ((v_7512).toInt64)).bind fun h_7513 => ((gR h_7513 12 46 q0).bind fun v_7515 => ((gR h_7513 12 1 q0).bind fun v_7517 => ((aI h_7513 v_7517 (6 : Int32)).bind fun v_7519 => ((wJ h_7513 v_7515 (10 : Int32) ((v_7519).toInt64)).bind fun h_7521 => ((gR h_7521 12 46 q0).bind fun v_7523 => ((wJ h_7521 v_7523 (11 : Int32) ((x4).toInt64)).bind fun h_7525 => ((gR h_7525 12 46 q0).bind fun v_7527 => ((wJ h_7525 v_7527 (12 : Int32) ((x5).toInt64)).bind fun h_7529 => (fX12_isBarred_l232 N q0 x6 (fun (h_7531 : iv_H) => (some ((0 : Int32), h_7531))) N h_7529 ((12 : Int32) * x6)))))))))))))))))))))))))))))))))
set_option maxRecDepth 10000 in
set_option maxHeartbeats 4000000 in
theorem rX12_isBarred_b92 {d N : Nat} (hd : 4 ≤ d) {h : iv_H} {q0 : Nat} {x2 : Int32} {x4 : Int32} {x5 : Int32} {x6 : Int32} {x7 : Int32} {sj0 : Int64} {s1 : Int32} {sq2 : Nat} {r : Int32 × iv_H} {Q : Option Value → iv_H → Prop} (hq : Q (some (.int r.1)) r.2) (e : fX12_isBarred_b92 N h q0 x2 x4 x5 x6 x7 sj0 s1 sq2 = some r) : Rn d 255 (some .boolean) 92 [some (.ref q0), none, some (.int x2), none, some (.int x4), some (.int x5), some (.int x6), some (.int x7), none] [.long sj0, .int s1, .ref sq2] h Q := by
  have hT := hX12_isBarred
  unfold fX12_isBarred_b92 at e
  obtain ⟨h_7466, e_7467, e⟩ := Option.bind_eq_some_iff.mp e
  refine Rn.hp hT rfl rfl (wJ_hp e_7467) ?_
  refine Rn.n hT 1 (pc' := 94) (L' := [some (.ref q0), none, some (.int x2), none, some (.int x4), some (.int x5), some (.int x6), some (.int x7), none]) (st' := [.ref q0]) rfl ?_
  obtain ⟨v_7468, e_7469, e⟩ := Option.bind_eq_some_iff.mp e
  refine Rn.hp hT rfl rfl (gR_hp e_7469) ?_
  refine Rn.n hT 2 (pc' := 99) (L' := [some (.ref q0), none, some (.int x2), none, some (.int x4), some (.int x5), some (.int x6), some (.int x7), none]) (st' := [.ref q0, .int (3 : Int32), .ref v_7468]) rfl ?_
  obtain ⟨v_7470, e_7471, e⟩ := Option.bind_eq_some_iff.mp e
  refine Rn.hp hT rfl rfl (gR_hp e_7471) ?_
  refine Rn.n hT 1 (pc' := 103) (L' := [some (.ref q0), none, some (.int x2), none, some (.int x4), some (.int x5), some (.int x6), some (.int x7), none]) (st' := [.int x2, .ref v_7470, .int (3 : Int32), .ref v_7468]) rfl ?_
  obtain ⟨v_7472, e_7473, e⟩ := Option.bind_eq_some_iff.mp e
  refine Rn.hp hT rfl rfl (aI_hp e_7473) ?_
  refine Rn.n hT 3 (pc' := 107) (L' := [some (.ref q0), none, some (.int x2), none, some (.int x4), some (.int x5), some (.int x6), some (.int x7), none]) (st' := [.long (((v_7472 - v_7472 / (4 : Int32) * (4 : Int32))).toInt64), .int (3 : Int32), .ref v_7468]) rfl ?_
  obtain ⟨h_7474, e_7475, e⟩ := Option.bind_eq_some_iff.mp e
  refine Rn.hp hT rfl rfl (wJ_hp e_7475) ?_
  refine Rn.n hT 1 (pc' := 109) (L' := [some (.ref q0), none, some (.int x2), none, some (.int x4), some (.int x5), some (.int x6), some (.int x7), none]) (st' := [.ref q0]) rfl ?_
  obtain ⟨v_7476, e_7477, e⟩ := Option.bind_eq_some_iff.mp e
  refine Rn.hp hT rfl rfl (gR_hp e_7477) ?_
  refine Rn.n hT 2 (pc' := 114) (L' := [some (.ref q0), none, some (.int x2), none, some (.int x4), some (.int x5), some (.int x6), some (.int x7), none]) (st' := [.ref q0, .int (4 : Int32), .ref v_7476]) rfl ?_
  obtain ⟨v_7478, e_7479, e⟩ := Option.bind_eq_some_iff.mp e
  refine Rn.hp hT rfl rfl (gR_hp e_7479) ?_
  refine Rn.n hT 1 (pc' := 118) (L' := [some (.ref q0), none, some (.int x2), none, some (.int x4), some (.int x5), some (.int x6), some (.int x7), none]) (st' := [.int x2, .ref v_7478, .int (4 : Int32), .ref v_7476]) rfl ?_
  obtain ⟨v_7480, e_7481, e⟩ := Option.bind_eq_some_iff.mp e
  refine Rn.hp hT rfl rfl (aI_hp e_7481) ?_
  refine Rn.n hT 3 (pc' := 122) (L' := [some (.ref q0), none, some (.int x2), none, some (.int x4), some (.int x5), some (.int x6), some (.int x7), none]) (st' := [.long (((v_7480 / (4 : Int32))).toInt64), .int (4 : Int32), .ref v_7476]) rfl ?_
  obtain ⟨h_7482, e_7483, e⟩ := Option.bind_eq_some_iff.mp e
  refine Rn.hp hT rfl rfl (wJ_hp e_7483) ?_
  refine Rn.n hT 1 (pc' := 124) (L' := [some (.ref q0), none, some (.int x2), none, some (.int x4), some (.int x5), some (.int x6), some (.int x7), none]) (st' := [.ref q0]) rfl ?_
  obtain ⟨v_7484, e_7485, e⟩ := Option.bind_eq_some_iff.mp e
  refine Rn.hp hT rfl rfl (gR_hp e_7485) ?_
  refine Rn.n hT 5 (pc' := 133) (L' := [some (.ref q0), none, some (.int x2), none, some (.int x4), some (.int x5), some (.int x6), some (.int x7), none]) (st' := [.long (((x7 - x7 / (4 : Int32) * (4 : Int32))).toInt64), .int (5 : Int32), .ref v_7484]) rfl ?_
  obtain ⟨h_7486, e_7487, e⟩ := Option.bind_eq_some_iff.mp e
  refine Rn.hp hT rfl rfl (wJ_hp e_7487) ?_
  refine Rn.n hT 1 (pc' := 135) (L' := [some (.ref q0), none, some (.int x2), none, some (.int x4), some (.int x5), some (.int x6), some (.int x7), none]) (st' := [.ref q0]) rfl ?_
  obtain ⟨v_7488, e_7489, e⟩ := Option.bind_eq_some_iff.mp e
  refine Rn.hp hT rfl rfl (gR_hp e_7489) ?_
  refine Rn.n hT 5 (pc' := 145) (L' := [some (.ref q0), none, some (.int x2), none, some (.int x4), some (.int x5), some (.int x6), some (.int x7), none]) (st' := [.long (((x7 / (4 : Int32))).toInt64), .int (6 : Int32), .ref v_7488]) rfl ?_
  obtain ⟨h_7490, e_7491, e⟩ := Option.bind_eq_some_iff.mp e
  refine Rn.hp hT rfl rfl (wJ_hp e_7491) ?_
  refine Rn.n hT 1 (pc' := 147) (L' := [some (.ref q0), none, some (.int x2), none, some (.int x4), some (.int x5), some (.int x6), some (.int x7), none]) (st' := [.ref q0]) rfl ?_
  obtain ⟨v_7492, e_7493, e⟩ := Option.bind_eq_some_iff.mp e
  refine Rn.hp hT rfl rfl (gR_hp e_7493) ?_
  refine Rn.n hT 4 (pc' := 155) (L' := [some (.ref q0), none, some (.int x2), none, some (.int x4), some (.int x5), some (.int x6), some (.int x7), none]) (st' := [.int (0 : Int32), .int x2, .ref q0, .int (7 : Int32), .ref v_7492]) rfl ?_
  obtain ⟨_, e_7495, e⟩ := Option.bind_eq_some_iff.mp e
  obtain ⟨v_7496, e_7494, e⟩ := Option.bind_eq_some_iff.mp e
  refine Rn.call hT rfl rfl rfl (Nat.le_of_ble_eq_true rfl) (rcv_v gX12_doorsOf (by omega) e_7495) (rX12_doorsOf (by omega) e_7494 ?_)
  show Rn d _ _ 158 [some (.ref q0), none, some (.int x2), none, some (.int x4), some (.int x5), some (.int x6), some (.int x7), none] [.int v_7496, .int (7 : Int32), .ref v_7492] h_7490 Q
  refine Rn.n hT 1 (pc' := 159) (L' := [some (.ref q0), none, some (.int x2), none, some (.int x4), some (.int x5), some (.int x6), some (.int x7), none]) (st' := [.long ((v_7496).toInt64), .int (7 : Int32), .ref v_7492]) rfl ?_
  obtain ⟨h_7497, e_7498, e⟩ := Option.bind_eq_some_iff.mp e
  refine Rn.hp hT rfl rfl (wJ_hp e_7498) ?_
  refine Rn.n hT 1 (pc' := 161) (L' := [some (.ref q0), none, some (.int x2), none, some (.int x4), some (.int x5), some (.int x6), some (.int x7), none]) (st' := [.ref q0]) rfl ?_
  obtain ⟨v_7499, e_7500, e⟩ := Option.bind_eq_some_iff.mp e
  refine Rn.hp hT rfl rfl (gR_hp e_7500) ?_
  refine Rn.n hT 4 (pc' := 169) (L' := [some (.ref q0), none, some (.int x2), none, some (.int x4), some (.int x5), some (.int x6), some (.int x7), none]) (st' := [.int (1 : Int32), .int x2, .ref q0, .int (8 : Int32), .ref v_7499]) rfl ?_
  obtain ⟨_, e_7502, e⟩ := Option.bind_eq_some_iff.mp e
  obtain ⟨v_7503, e_7501, e⟩ := Option.bind_eq_some_iff.mp e
  refine Rn.call hT rfl rfl rfl (Nat.le_of_ble_eq_true rfl) (rcv_v gX12_doorsOf (by omega) e_7502) (rX12_doorsOf (by omega) e_7501 ?_)
  show Rn d _ _ 172 [some (.ref q0), none, some (.int x2), none, some (.int x4), some (.int x5), some (.int x6), some (.int x7), none] [.int v_7503, .int (8 : Int32), .ref v_7499] h_7497 Q
  refine Rn.n hT 1 (pc' := 173) (L' := [some (.ref q0), none, some (.int x2), none, some (.int x4), some (.int x5), some (.int x6), some (.int x7), none]) (st' := [.long ((v_7503).toInt64), .int (8 : Int32), .ref v_7499]) rfl ?_
  obtain ⟨h_7504, e_7505, e⟩ := Option.bind_eq_some_iff.mp e
  refine Rn.hp hT rfl rfl (wJ_hp e_7505) ?_
  refine Rn.n hT 1 (pc' := 175) (L' := [some (.ref q0), none, some (.int x2), none, some (.int x4), some (.int x5), some (.int x6), some (.int x7), none]) (st' := [.ref q0]) rfl ?_
  obtain ⟨v_7506, e_7507, e⟩ := Option.bind_eq_some_iff.mp e
  refine Rn.hp hT rfl rfl (gR_hp e_7507) ?_
  refine Rn.n hT 3 (pc' := 182) (L' := [some (.ref q0), none, some (.int x2), none, some (.int x4), some (.int x5), some (.int x6), some (.int x7), none]) (st' := [.int x2, .ref q0, .int (9 : Int32), .ref v_7506]) rfl ?_
  obtain ⟨_, e_7509, e⟩ := Option.bind_eq_some_iff.mp e
  obtain ⟨v_7510, e_7508, e⟩ := Option.bind_eq_some_iff.mp e
  refine Rn.call hT rfl rfl rfl (Nat.le_of_ble_eq_true rfl) (rcv_v gX12_sleepers (by omega) e_7509) (rX12_sleepers (by omega) e_7508 ?_)
  show Rn d _ _ 185 [some (.ref q0), none, some (.int x2), none, some (.int x4), some (.int x5), some (.int x6), some (.int x7), none] [.int v_7510, .int (9 : Int32), .ref v_7506] h_7504 Q
  obtain ⟨v_7512, e_7511, e⟩ := Option.bind_eq_some_iff.mp e
  refine Rn.call hT rfl rfl rfl (Nat.le_of_ble_eq_true rfl) rfl (rX12_bits (by omega) e_7511 ?_)
  show Rn d _ _ 188 [some (.ref q0), none, some (.int x2), none, some (.int x4), some (.int x5), some (.int x6), some (.int x7), none] [.int v_7512, .int (9 : Int32), .ref v_7506] h_7504 Q
  refine Rn.n hT 1 (pc' := 189) (L' := [some (.ref q0), none, some (.int x2), none, some (.int x4), some (.int x5), some (.int x6), some (.int x7), none]) (st' := [.long ((v_7512).toInt64), .int (9 : Int32), .ref v_7506]) rfl ?_
  obtain ⟨h_7513, e_7514, e⟩ := Option.bind_eq_some_iff.mp e
  refine Rn.hp hT rfl rfl (wJ_hp e_7514) ?_
  refine Rn.n hT 1 (pc' := 191) (L' := [some (.ref q0), none, some (.int x2), none, some (.int x4), some (.int x5), some (.int x6), some (.int x7), none]) (st' := [.ref q0]) rfl ?_
  obtain ⟨v_7515, e_7516, e⟩ := Option.bind_eq_some_iff.mp e
  refine Rn.hp hT rfl rfl (gR_hp e_7516) ?_
  refine Rn.n hT 2 (pc' := 197) (L' := [some (.ref q0), none, some (.int x2), none, some (.int x4), some (.int x5), some (.int x6), some (.int x7), none]) (st' := [.ref q0, .int (10 : Int32), .ref v_7515]) rfl ?_
  obtain ⟨v_7517, e_7518, e⟩ := Option.bind_eq_some_iff.mp e
  refine Rn.hp hT rfl rfl (gR_hp e_7518) ?_
  refine Rn.n hT 1 (pc' := 202) (L' := [some (.ref q0), none, some (.int x2), none, some (.int x4), some (.int x5), some (.int x6), some (.int x7), none]) (st' := [.int (6 : Int32), .ref v_7517, .int (10 : Int32), .ref v_7515]) rfl ?_
  obtain ⟨v_7519, e_7520, e⟩ := Option.bind_eq_some_iff.mp e
  refine Rn.hp hT rfl rfl (aI_hp e_7520) ?_
  refine Rn.n hT 1 (pc' := 204) (L' := [some (.ref q0), none, some (.int x2), none, some (.int x4), some (.int x5), some (.int x6), some (.int x7), none]) (st' := [.long ((v_7519).toInt64), .int (10 : Int32), .ref v_7515]) rfl ?_
  obtain ⟨h_7521, e_7522, e⟩ := Option.bind_eq_some_iff.mp e
  refine Rn.hp hT rfl rfl (wJ_hp e_7522) ?_
  refine Rn.n hT 1 (pc' := 206) (L' := [some (.ref q0), none, some (.int x2), none, some (.int x4), some (.int x5), some (.int x6), some (.int x7), none]) (st' := [.ref q0]) rfl ?_
  obtain ⟨v_7523, e_7524, e⟩ := Option.bind_eq_some_iff.mp e
  refine Rn.hp hT rfl rfl (gR_hp e_7524) ?_
  refine Rn.n hT 3 (pc' := 214) (L' := [some (.ref q0), none, some (.int x2), none, some (.int x4), some (.int x5), some (.int x6), some (.int x7), none]) (st' := [.long ((x4).toInt64), .int (11 : Int32), .ref v_7523]) rfl ?_
  obtain ⟨h_7525, e_7526, e⟩ := Option.bind_eq_some_iff.mp e
  refine Rn.hp hT rfl rfl (wJ_hp e_7526) ?_
  refine Rn.n hT 1 (pc' := 216) (L' := [some (.ref q0), none, some (.int x2), none, some (.int x4), some (.int x5), some (.int x6), some (.int x7), none]) (st' := [.ref q0]) rfl ?_
  obtain ⟨v_7527, e_7528, e⟩ := Option.bind_eq_some_iff.mp e
  refine Rn.hp hT rfl rfl (gR_hp e_7528) ?_
  refine Rn.n hT 3 (pc' := 224) (L' := [some (.ref q0), none, some (.int x2), none, some (.int x4), some (.int x5), some (.int x6), some (.int x7), none]) (st' := [.long ((x5).toInt64), .int (12 : Int32), .ref v_7527]) rfl ?_
  obtain ⟨h_7529, e_7530, e⟩ := Option.bind_eq_some_iff.mp e
  refine Rn.hp hT rfl rfl (wJ_hp e_7530) ?_
  refine Rn.n hT 4 (pc' := 232) (L' := [some (.ref q0), none, some (.int x2), none, some (.int x4), some (.int x5), some (.int x6), some (.int x7), some (.int ((12 : Int32) * x6))]) (st' := []) rfl ?_
  refine Rn.weak (ll_s (ll_n (ll_n (ll_n (ll_n (ll_n (ll_s (ll_n (ll_s ll_e))))))))) (rX12_isBarred_l232 hd (fun h_7531 e => ?_) hq N h_7529 ((12 : Int32) * x6) e)
  try dsimp only at e
  refine Rn.n hT 1 (pc' := 284) (L' := [none, none, none, none, none, none, none, none, none]) (st' := [.int (0 : Int32)]) rfl ?_
  obtain rfl := Option.some.inj e
  exact Rn.ret hT rfl rfl rfl hq
def fX12_isBarred_b56 (N : Nat) (h : iv_H) (q0 : Nat) (x1 : Int32) (x2 : Int32) (x3 : Int32) (x4 : Int32) (x5 : Int32) (x6 : Int32) (s0 : Int32) : Option (Int32 × iv_H) := ((gR h 12 46 q0).bind fun v_7455 => ((wJ h v_7455 (0 : Int32) ((x1).toInt64)).bind fun h_7457 => ((gR h_7457 12 46 q0).bind fun v_7459 => ((wJ h_7457 v_7459 (1 : Int32) ((x2).toInt64)).bind fun h_7461 => ((gR h_7461 12 46 q0).bind fun v_7463 => (if x1 = (2 : Int32) then (fX12_isBarred_b92 N h_7461 q0 x2 x4 x5 x6 s0 ((x3).toInt64) (2 : Int32) v_7463) else (fX12_isBarred_b92 N h_7461 q0 x2 x4 x5 x6 s0 (99 : Int64) (2 : Int32) v_7463)))))))
set_option maxRecDepth 10000 in
set_option maxHeartbeats 4000000 in
theorem rX12_isBarred_b56 {d N : Nat} (hd : 4 ≤ d) {h : iv_H} {q0 : Nat} {x1 : Int32} {x2 : Int32} {x3 : Int32} {x4 : Int32} {x5 : Int32} {x6 : Int32} {s0 : Int32} {r : Int32 × iv_H} {Q : Option Value → iv_H → Prop} (hq : Q (some (.int r.1)) r.2) (e : fX12_isBarred_b56 N h q0 x1 x2 x3 x4 x5 x6 s0 = some r) : Rn d 255 (some .boolean) 56 [some (.ref q0), some (.int x1), some (.int x2), some (.int x3), some (.int x4), some (.int x5), some (.int x6), none, none] [.int s0] h Q := by
  have hT := hX12_isBarred
  unfold fX12_isBarred_b56 at e
  refine Rn.n hT 2 (pc' := 59) (L' := [some (.ref q0), some (.int x1), some (.int x2), some (.int x3), some (.int x4), some (.int x5), some (.int x6), some (.int s0), none]) (st' := [.ref q0]) rfl ?_
  obtain ⟨v_7455, e_7456, e⟩ := Option.bind_eq_some_iff.mp e
  refine Rn.hp hT rfl rfl (gR_hp e_7456) ?_
  refine Rn.n hT 3 (pc' := 65) (L' := [some (.ref q0), some (.int x1), some (.int x2), some (.int x3), some (.int x4), some (.int x5), some (.int x6), some (.int s0), none]) (st' := [.long ((x1).toInt64), .int (0 : Int32), .ref v_7455]) rfl ?_
  obtain ⟨h_7457, e_7458, e⟩ := Option.bind_eq_some_iff.mp e
  refine Rn.hp hT rfl rfl (wJ_hp e_7458) ?_
  refine Rn.n hT 1 (pc' := 67) (L' := [some (.ref q0), some (.int x1), some (.int x2), some (.int x3), some (.int x4), some (.int x5), some (.int x6), some (.int s0), none]) (st' := [.ref q0]) rfl ?_
  obtain ⟨v_7459, e_7460, e⟩ := Option.bind_eq_some_iff.mp e
  refine Rn.hp hT rfl rfl (gR_hp e_7460) ?_
  refine Rn.n hT 3 (pc' := 73) (L' := [some (.ref q0), some (.int x1), some (.int x2), some (.int x3), some (.int x4), some (.int x5), some (.int x6), some (.int s0), none]) (st' := [.long ((x2).toInt64), .int (1 : Int32), .ref v_7459]) rfl ?_
  obtain ⟨h_7461, e_7462, e⟩ := Option.bind_eq_some_iff.mp e
  refine Rn.hp hT rfl rfl (wJ_hp e_7462) ?_
  refine Rn.n hT 1 (pc' := 75) (L' := [some (.ref q0), some (.int x1), some (.int x2), some (.int x3), some (.int x4), some (.int x5), some (.int x6), some (.int s0), none]) (st' := [.ref q0]) rfl ?_
  obtain ⟨v_7463, e_7464, e⟩ := Option.bind_eq_some_iff.mp e
  refine Rn.hp hT rfl rfl (gR_hp e_7464) ?_
  refine Rn.n hT 3 (pc' := 81) (L' := [some (.ref q0), some (.int x1), some (.int x2), some (.int x3), some (.int x4), some (.int x5), some (.int x6), some (.int s0), none]) (st' := [.int (2 : Int32), .int x1, .int (2 : Int32), .ref v_7463]) rfl ?_
  by_cases c_7465 : x1 = (2 : Int32)
  · rw [if_pos c_7465] at e
    refine Rn.bf hT rfl rfl rfl (decide_eq_false (fun z => z c_7465)) ?_
    refine Rn.n hT 3 (pc' := 92) (L' := [some (.ref q0), some (.int x1), some (.int x2), some (.int x3), some (.int x4), some (.int x5), some (.int x6), some (.int s0), none]) (st' := [.long ((x3).toInt64), .int (2 : Int32), .ref v_7463]) rfl ?_
    exact Rn.weak (ll_s (ll_n (ll_s (ll_n (ll_s (ll_s (ll_s (ll_s (ll_n ll_e))))))))) (rX12_isBarred_b92 hd hq e)
  · rw [if_neg c_7465] at e
    refine Rn.bt hT rfl rfl rfl (decide_eq_true c_7465) ?_
    refine Rn.n hT 1 (pc' := 92) (L' := [some (.ref q0), some (.int x1), some (.int x2), some (.int x3), some (.int x4), some (.int x5), some (.int x6), some (.int s0), none]) (st' := [.long (99 : Int64), .int (2 : Int32), .ref v_7463]) rfl ?_
    exact Rn.weak (ll_s (ll_n (ll_s (ll_n (ll_s (ll_s (ll_s (ll_s (ll_n ll_e))))))))) (rX12_isBarred_b92 hd hq e)
def fX12_isBarred (N : Nat) (h : iv_H) (q0 : Nat) (x1 : Int32) (x2 : Int32) (x3 : Int32) (x4 : Int32) (x5 : Int32) : Option (Int32 × iv_H) := ((gR h 12 1 q0).bind fun v_7433 => ((aI h v_7433 (12 : Int32)).bind fun v_7435 => (if v_7435 = (-1 : Int32) then (some ((0 : Int32), h)) else (if x1 = (1 : Int32) then ((gR h 12 3 q0).bind fun v_7448 => ((aI h v_7448 x2).bind fun v_7450 => ((cko h q0 12).bind fun _ => (fX12_by N h q0 v_7450 x3).bind fun v_7454 => (fX12_isBarred_b56 N h q0 x1 x2 x3 x4 x5 v_7435 v_7454)))) else (if x1 = (2 : Int32) then ((gR h 12 3 q0).bind fun v_7444 => ((aI h v_7444 x3).bind fun v_7446 => (fX12_isBarred_b56 N h q0 x1 x2 x3 x4 x5 v_7435 v_7446))) else ((gR h 12 3 q0).bind fun v_7440 => ((aI h v_7440 x2).bind fun v_7442 => (fX12_isBarred_b56 N h q0 x1 x2 x3 x4 x5 v_7435 v_7442))))))))
set_option maxRecDepth 10000 in
set_option maxHeartbeats 4000000 in
theorem rX12_isBarred {d N : Nat} (hd : 5 ≤ d) {h : iv_H} {q0 : Nat} {x1 : Int32} {x2 : Int32} {x3 : Int32} {x4 : Int32} {x5 : Int32} {r : Int32 × iv_H} {Q : Option Value → iv_H → Prop} (e : fX12_isBarred N h q0 x1 x2 x3 x4 x5 = some r) (hq : Q (some (.int r.1)) r.2) : Cl d 255 [.ref q0, .int x1, .int x2, .int x3, .int x4, .int x5] h Q := by
  obtain ⟨d, rfl⟩ : ∃ k, d = k + 1 := ⟨d - 1, by omega⟩
  have hd : 4 ≤ d := by omega
  have hT := hX12_isBarred
  unfold fX12_isBarred at e
  refine Cl.into (by decide) gX12_isBarred rfl ?_
  show Rn d 255 (some .boolean) 0 [some (.ref q0), some (.int x1), some (.int x2), some (.int x3), some (.int x4), some (.int x5), none, none, none] [] h Q
  refine Rn.n hT 1 (pc' := 1) (L' := [some (.ref q0), some (.int x1), some (.int x2), some (.int x3), some (.int x4), some (.int x5), none, none, none]) (st' := [.ref q0]) rfl ?_
  obtain ⟨v_7433, e_7434, e⟩ := Option.bind_eq_some_iff.mp e
  refine Rn.hp hT rfl rfl (gR_hp e_7434) ?_
  refine Rn.n hT 1 (pc' := 6) (L' := [some (.ref q0), some (.int x1), some (.int x2), some (.int x3), some (.int x4), some (.int x5), none, none, none]) (st' := [.int (12 : Int32), .ref v_7433]) rfl ?_
  obtain ⟨v_7435, e_7436, e⟩ := Option.bind_eq_some_iff.mp e
  refine Rn.hp hT rfl rfl (aI_hp e_7436) ?_
  refine Rn.n hT 3 (pc' := 12) (L' := [some (.ref q0), some (.int x1), some (.int x2), some (.int x3), some (.int x4), some (.int x5), some (.int v_7435), none, none]) (st' := [.int (-1 : Int32), .int v_7435]) rfl ?_
  by_cases c_7437 : v_7435 = (-1 : Int32)
  · rw [if_pos c_7437] at e
    refine Rn.bf hT rfl rfl rfl (decide_eq_false (fun z => z c_7437)) ?_
    refine Rn.n hT 1 (pc' := 16) (L' := [some (.ref q0), some (.int x1), some (.int x2), some (.int x3), some (.int x4), some (.int x5), some (.int v_7435), none, none]) (st' := [.int (0 : Int32)]) rfl ?_
    obtain rfl := Option.some.inj e
    exact Rn.ret hT rfl rfl rfl hq
  · rw [if_neg c_7437] at e
    refine Rn.bt hT rfl rfl rfl (decide_eq_true c_7437) ?_
    refine Rn.n hT 2 (pc' := 19) (L' := [some (.ref q0), some (.int x1), some (.int x2), some (.int x3), some (.int x4), some (.int x5), some (.int v_7435), none, none]) (st' := [.int (1 : Int32), .int x1]) rfl ?_
    by_cases c_7438 : x1 = (1 : Int32)
    · rw [if_pos c_7438] at e
      refine Rn.bf hT rfl rfl rfl (decide_eq_false (fun z => z c_7438)) ?_
      refine Rn.n hT 2 (pc' := 24) (L' := [some (.ref q0), some (.int x1), some (.int x2), some (.int x3), some (.int x4), some (.int x5), some (.int v_7435), none, none]) (st' := [.ref q0, .ref q0]) rfl ?_
      obtain ⟨v_7448, e_7449, e⟩ := Option.bind_eq_some_iff.mp e
      refine Rn.hp hT rfl rfl (gR_hp e_7449) ?_
      refine Rn.n hT 1 (pc' := 28) (L' := [some (.ref q0), some (.int x1), some (.int x2), some (.int x3), some (.int x4), some (.int x5), some (.int v_7435), none, none]) (st' := [.int x2, .ref v_7448, .ref q0]) rfl ?_
      obtain ⟨v_7450, e_7451, e⟩ := Option.bind_eq_some_iff.mp e
      refine Rn.hp hT rfl rfl (aI_hp e_7451) ?_
      refine Rn.n hT 1 (pc' := 30) (L' := [some (.ref q0), some (.int x1), some (.int x2), some (.int x3), some (.int x4), some (.int x5), some (.int v_7435), none, none]) (st' := [.int x3, .int v_7450, .ref q0]) rfl ?_
      obtain ⟨_, e_7453, e⟩ := Option.bind_eq_some_iff.mp e
      obtain ⟨v_7454, e_7452, e⟩ := Option.bind_eq_some_iff.mp e
      refine Rn.call hT rfl rfl rfl (Nat.le_of_ble_eq_true rfl) (rcv_v gX12_by (by omega) e_7453) (rX12_by (by omega) e_7452 ?_)
      show Rn d _ _ 33 [some (.ref q0), some (.int x1), some (.int x2), some (.int x3), some (.int x4), some (.int x5), some (.int v_7435), none, none] [.int v_7454] h Q
      refine Rn.n hT 1 (pc' := 56) (L' := [some (.ref q0), some (.int x1), some (.int x2), some (.int x3), some (.int x4), some (.int x5), some (.int v_7435), none, none]) (st' := [.int v_7454]) rfl ?_
      exact Rn.weak (ll_s (ll_s (ll_s (ll_s (ll_s (ll_s (ll_s (ll_n (ll_n ll_e))))))))) (rX12_isBarred_b56 hd hq e)
    · rw [if_neg c_7438] at e
      refine Rn.bt hT rfl rfl rfl (decide_eq_true c_7438) ?_
      refine Rn.n hT 2 (pc' := 38) (L' := [some (.ref q0), some (.int x1), some (.int x2), some (.int x3), some (.int x4), some (.int x5), some (.int v_7435), none, none]) (st' := [.int (2 : Int32), .int x1]) rfl ?_
      by_cases c_7439 : x1 = (2 : Int32)
      · rw [if_pos c_7439] at e
        refine Rn.bf hT rfl rfl rfl (decide_eq_false (fun z => z c_7439)) ?_
        refine Rn.n hT 1 (pc' := 42) (L' := [some (.ref q0), some (.int x1), some (.int x2), some (.int x3), some (.int x4), some (.int x5), some (.int v_7435), none, none]) (st' := [.ref q0]) rfl ?_
        obtain ⟨v_7444, e_7445, e⟩ := Option.bind_eq_some_iff.mp e
        refine Rn.hp hT rfl rfl (gR_hp e_7445) ?_
        refine Rn.n hT 1 (pc' := 46) (L' := [some (.ref q0), some (.int x1), some (.int x2), some (.int x3), some (.int x4), some (.int x5), some (.int v_7435), none, none]) (st' := [.int x3, .ref v_7444]) rfl ?_
        obtain ⟨v_7446, e_7447, e⟩ := Option.bind_eq_some_iff.mp e
        refine Rn.hp hT rfl rfl (aI_hp e_7447) ?_
        refine Rn.n hT 1 (pc' := 56) (L' := [some (.ref q0), some (.int x1), some (.int x2), some (.int x3), some (.int x4), some (.int x5), some (.int v_7435), none, none]) (st' := [.int v_7446]) rfl ?_
        exact Rn.weak (ll_s (ll_s (ll_s (ll_s (ll_s (ll_s (ll_s (ll_n (ll_n ll_e))))))))) (rX12_isBarred_b56 hd hq e)
      · rw [if_neg c_7439] at e
        refine Rn.bt hT rfl rfl rfl (decide_eq_true c_7439) ?_
        refine Rn.n hT 1 (pc' := 51) (L' := [some (.ref q0), some (.int x1), some (.int x2), some (.int x3), some (.int x4), some (.int x5), some (.int v_7435), none, none]) (st' := [.ref q0]) rfl ?_
        obtain ⟨v_7440, e_7441, e⟩ := Option.bind_eq_some_iff.mp e
        refine Rn.hp hT rfl rfl (gR_hp e_7441) ?_
        refine Rn.n hT 1 (pc' := 55) (L' := [some (.ref q0), some (.int x1), some (.int x2), some (.int x3), some (.int x4), some (.int x5), some (.int v_7435), none, none]) (st' := [.int x2, .ref v_7440]) rfl ?_
        obtain ⟨v_7442, e_7443, e⟩ := Option.bind_eq_some_iff.mp e
        refine Rn.hp hT rfl rfl (aI_hp e_7443) ?_
        exact Rn.weak (ll_s (ll_s (ll_s (ll_s (ll_s (ll_s (ll_s (ll_n (ll_n ll_e))))))))) (rX12_isBarred_b56 hd hq e)
set_option maxRecDepth 10000 in
theorem hX12_lawOf : iv_Tb 256 tX12_lawOf := iv_tb_of (m := mX12_lawOf) rfl
set_option maxRecDepth 10000 in
theorem gX12_lawOf : PG.2 256 = some mX12_lawOf := iv_pi_of (t := tX12_lawOf) rfl (by decide)
def fX12_lawOf_b40 (N : Nat) (h : iv_H)   : Option (Int32 × iv_H) := (some ((1 : Int32), h))
set_option maxRecDepth 10000 in
set_option maxHeartbeats 4000000 in
theorem rX12_lawOf_b40 {d N : Nat} (hd : 6 ≤ d) {h : iv_H}   {r : Int32 × iv_H} {Q : Option Value → iv_H → Prop} (hq : Q (some (.int r.1)) r.2) (e : fX12_lawOf_b40 N h   = some r) : Rn d 256 (some .int) 40 [none, none, none, none, none] [] h Q := by
  have hT := hX12_lawOf
  unfold fX12_lawOf_b40 at e
  refine Rn.n hT 1 (pc' := 41) (L' := [none, none, none, none, none]) (st' := [.int (1 : Int32)]) rfl ?_
  obtain rfl := Option.some.inj e
  exact Rn.ret hT rfl rfl rfl hq
def fX12_lawOf_b118 (N : Nat) (h : iv_H)   : Option (Int32 × iv_H) := (some ((3 : Int32), h))
set_option maxRecDepth 10000 in
set_option maxHeartbeats 4000000 in
theorem rX12_lawOf_b118 {d N : Nat} (hd : 6 ≤ d) {h : iv_H}   {r : Int32 × iv_H} {Q : Option Value → iv_H → Prop} (hq : Q (some (.int r.1)) r.2) (e : fX12_lawOf_b118 N h   = some r) : Rn d 256 (some .int) 118 [none, none, none, none, none] [] h Q := by
  have hT := hX12_lawOf
  unfold fX12_lawOf_b118 at e
  refine Rn.n hT 1 (pc' := 119) (L' := [none, none, none, none, none]) (st' := [.int (3 : Int32)]) rfl ?_
  obtain rfl := Option.some.inj e
  exact Rn.ret hT rfl rfl rfl hq
def fX12_lawOf_b141 (N : Nat) (h : iv_H)  (s0 : Int32) : Option (Int32 × iv_H) := (some (s0, h))
set_option maxRecDepth 10000 in
set_option maxHeartbeats 4000000 in
theorem rX12_lawOf_b141 {d N : Nat} (hd : 6 ≤ d) {h : iv_H}  {s0 : Int32} {r : Int32 × iv_H} {Q : Option Value → iv_H → Prop} (hq : Q (some (.int r.1)) r.2) (e : fX12_lawOf_b141 N h  s0 = some r) : Rn d 256 (some .int) 141 [none, none, none, none, none] [.int s0] h Q := by
  have hT := hX12_lawOf
  unfold fX12_lawOf_b141 at e
  obtain rfl := Option.some.inj e
  exact Rn.ret hT rfl rfl rfl hq
def fX12_lawOf_b120 (N : Nat) (h : iv_H) (q0 : Nat) (x1 : Int32) (x2 : Int32) (x3 : Int32) (x4 : Int32)  : Option (Int32 × iv_H) := ((gI h 12 48 q0).bind fun v_7607 => ((cko h q0 12).bind fun _ => (fX12_isBarred N h q0 x1 x2 x3 x4 v_7607).bind fun p_7614 => (fun (v_7611 : Int32) (h_7612 : iv_H) => (if v_7611 = 0 then (fX12_lawOf_b141 N h_7612 (0 : Int32)) else (fX12_lawOf_b141 N h_7612 (4 : Int32)))) p_7614.1 p_7614.2))
set_option maxRecDepth 10000 in
set_option maxHeartbeats 4000000 in
theorem rX12_lawOf_b120 {d N : Nat} (hd : 6 ≤ d) {h : iv_H} {q0 : Nat} {x1 : Int32} {x2 : Int32} {x3 : Int32} {x4 : Int32}  {r : Int32 × iv_H} {Q : Option Value → iv_H → Prop} (hq : Q (some (.int r.1)) r.2) (e : fX12_lawOf_b120 N h q0 x1 x2 x3 x4  = some r) : Rn d 256 (some .int) 120 [some (.ref q0), some (.int x1), some (.int x2), some (.int x3), some (.int x4)] [] h Q := by
  have hT := hX12_lawOf
  unfold fX12_lawOf_b120 at e
  refine Rn.n hT 6 (pc' := 127) (L' := [some (.ref q0), some (.int x1), some (.int x2), some (.int x3), some (.int x4)]) (st' := [.ref q0, .int x4, .int x3, .int x2, .int x1, .ref q0]) rfl ?_
  obtain ⟨v_7607, e_7608, e⟩ := Option.bind_eq_some_iff.mp e
  refine Rn.hp hT rfl rfl (gI_hp e_7608) ?_
  obtain ⟨_, e_7610, e⟩ := Option.bind_eq_some_iff.mp e
  obtain ⟨⟨v_7611, h_7612⟩, e_7609, e⟩ := Option.bind_eq_some_iff.mp e
  try dsimp only at e
  try dsimp only at e
  refine Rn.call hT rfl rfl rfl (Nat.le_of_ble_eq_true rfl) (rcv_v gX12_isBarred (by omega) e_7610) (rX12_isBarred (by omega) e_7609 ?_)
  show Rn d _ _ 133 [some (.ref q0), some (.int x1), some (.int x2), some (.int x3), some (.int x4)] [.int v_7611] h_7612 Q
  by_cases c_7613 : v_7611 = 0
  · rw [if_pos c_7613] at e
    refine Rn.bt hT rfl rfl rfl (decide_eq_true c_7613) ?_
    refine Rn.n hT 1 (pc' := 141) (L' := [some (.ref q0), some (.int x1), some (.int x2), some (.int x3), some (.int x4)]) (st' := [.int (0 : Int32)]) rfl ?_
    exact Rn.weak (ll_n (ll_n (ll_n (ll_n (ll_n ll_e))))) (rX12_lawOf_b141 hd hq e)
  · rw [if_neg c_7613] at e
    refine Rn.bf hT rfl rfl rfl (decide_eq_false c_7613) ?_
    refine Rn.n hT 2 (pc' := 141) (L' := [some (.ref q0), some (.int x1), some (.int x2), some (.int x3), some (.int x4)]) (st' := [.int (4 : Int32)]) rfl ?_
    exact Rn.weak (ll_n (ll_n (ll_n (ll_n (ll_n ll_e))))) (rX12_lawOf_b141 hd hq e)
def fX12_lawOf_b101 (N : Nat) (h : iv_H) (q0 : Nat) (x1 : Int32) (x2 : Int32) (x3 : Int32) (x4 : Int32)  : Option (Int32 × iv_H) := ((gR h 12 1 q0).bind fun v_7599 => ((aI h v_7599 (5 : Int32)).bind fun v_7601 => (if v_7601 = (2 : Int32) then ((gI h 12 48 q0).bind fun v_7604 => (if v_7604 ≤ 0 then (fX12_lawOf_b120 N h q0 x1 x2 x3 x4) else (fX12_lawOf_b118 N h))) else (fX12_lawOf_b120 N h q0 x1 x2 x3 x4))))
set_option maxRecDepth 10000 in
set_option maxHeartbeats 4000000 in
theorem rX12_lawOf_b101 {d N : Nat} (hd : 6 ≤ d) {h : iv_H} {q0 : Nat} {x1 : Int32} {x2 : Int32} {x3 : Int32} {x4 : Int32}  {r : Int32 × iv_H} {Q : Option Value → iv_H → Prop} (hq : Q (some (.int r.1)) r.2) (e : fX12_lawOf_b101 N h q0 x1 x2 x3 x4  = some r) : Rn d 256 (some .int) 101 [some (.ref q0), some (.int x1), some (.int x2), some (.int x3), some (.int x4)] [] h Q := by
  have hT := hX12_lawOf
  unfold fX12_lawOf_b101 at e
  refine Rn.n hT 1 (pc' := 102) (L' := [some (.ref q0), some (.int x1), some (.int x2), some (.int x3), some (.int x4)]) (st' := [.ref q0]) rfl ?_
  obtain ⟨v_7599, e_7600, e⟩ := Option.bind_eq_some_iff.mp e
  refine Rn.hp hT rfl rfl (gR_hp e_7600) ?_
  refine Rn.n hT 1 (pc' := 106) (L' := [some (.ref q0), some (.int x1), some (.int x2), some (.int x3), some (.int x4)]) (st' := [.int (5 : Int32), .ref v_7599]) rfl ?_
  obtain ⟨v_7601, e_7602, e⟩ := Option.bind_eq_some_iff.mp e
  refine Rn.hp hT rfl rfl (aI_hp e_7602) ?_
  refine Rn.n hT 1 (pc' := 108) (L' := [some (.ref q0), some (.int x1), some (.int x2), some (.int x3), some (.int x4)]) (st' := [.int (2 : Int32), .int v_7601]) rfl ?_
  by_cases c_7603 : v_7601 = (2 : Int32)
  · rw [if_pos c_7603] at e
    refine Rn.bf hT rfl rfl rfl (decide_eq_false (fun z => z c_7603)) ?_
    refine Rn.n hT 1 (pc' := 112) (L' := [some (.ref q0), some (.int x1), some (.int x2), some (.int x3), some (.int x4)]) (st' := [.ref q0]) rfl ?_
    obtain ⟨v_7604, e_7605, e⟩ := Option.bind_eq_some_iff.mp e
    refine Rn.hp hT rfl rfl (gI_hp e_7605) ?_
    by_cases c_7606 : v_7604 ≤ 0
    · rw [if_pos c_7606] at e
      refine Rn.bt hT rfl rfl rfl (decide_eq_true c_7606) ?_
      exact Rn.weak (ll_s (ll_s (ll_s (ll_s (ll_s ll_e))))) (rX12_lawOf_b120 hd hq e)
    · rw [if_neg c_7606] at e
      refine Rn.bf hT rfl rfl rfl (decide_eq_false c_7606) ?_
      exact Rn.weak (ll_n (ll_n (ll_n (ll_n (ll_n ll_e))))) (rX12_lawOf_b118 hd hq e)
  · rw [if_neg c_7603] at e
    refine Rn.bt hT rfl rfl rfl (decide_eq_true c_7603) ?_
    exact Rn.weak (ll_s (ll_s (ll_s (ll_s (ll_s ll_e))))) (rX12_lawOf_b120 hd hq e)
def fX12_lawOf_b42 (N : Nat) (h : iv_H) (q0 : Nat) (x1 : Int32) (x2 : Int32) (x3 : Int32)  : Option (Int32 × iv_H) := ((cko h q0 12).bind fun _ => (fX12_canBe N h q0 x1 x2 x3).bind fun v_7569 => (if v_7569 = 0 then (some ((2 : Int32), h)) else ((cko h q0 12).bind fun _ => (fX12_mismatches N h q0).bind fun p_7598 => (fun (v_7573 : Int32) (h_7574 : iv_H) => ((cko h_7574 q0 12).bind fun _ => (fX12_walks N h_7574 q0 x1 x2 x3).bind fun h_7578 => ((cko h_7578 q0 12).bind fun _ => (fX12_mismatches N h_7578 q0).bind fun p_7597 => (fun (v_7581 : Int32) (h_7582 : iv_H) => ((pV h_7582 12 48 q0 (.int v_7581)).bind fun h_7583 => ((cko h_7583 q0 12).bind fun _ => (fX12_walksBack N h_7583 q0 x1 x2 x3).bind fun h_7588 => ((gR h_7588 12 1 q0).bind fun v_7589 => ((aI h_7588 v_7589 (5 : Int32)).bind fun v_7591 => (if v_7591 = (1 : Int32) then ((gI h_7588 12 48 q0).bind fun v_7594 => (if v_7573 < v_7594 then (fX12_lawOf_b118 N h_7588) else (fX12_lawOf_b101 N h_7588 q0 x1 x2 x3 v_7573))) else (fX12_lawOf_b101 N h_7588 q0 x1 x2 x3 v_7573))))))) p_7597.1 p_7597.2))) p_7598.1 p_7598.2)))
set_option maxRecDepth 10000 in
set_option maxHeartbeats 4000000 in
theorem rX12_lawOf_b42 {d N : Nat} (hd : 6 ≤ d) {h : iv_H} {q0 : Nat} {x1 : Int32} {x2 : Int32} {x3 : Int32}  {r : Int32 × iv_H} {Q : Option Value → iv_H → Prop} (hq : Q (some (.int r.1)) r.2) (e : fX12_lawOf_b42 N h q0 x1 x2 x3  = some r) : Rn d 256 (some .int) 42 [some (.ref q0), some (.int x1), some (.int x2), some (.int x3), none] [] h Q := by
  have hT := hX12_lawOf
  unfold fX12_lawOf_b42 at e
  refine Rn.n hT 4 (pc' := 46) (L' := [some (.ref q0), some (.int x1), some (.int x2), some (.int x3), none]) (st' := [.int x3, .int x2, .int x1, .ref q0]) rfl ?_
  obtain ⟨_, e_7568, e⟩ := Option.bind_eq_some_iff.mp e
  obtain ⟨v_7569, e_7567, e⟩ := Option.bind_eq_some_iff.mp e
  refine Rn.call hT rfl rfl rfl (Nat.le_of_ble_eq_true rfl) (rcv_v gX12_canBe (by omega) e_7568) (rX12_canBe (by omega) e_7567 ?_)
  show Rn d _ _ 49 [some (.ref q0), some (.int x1), some (.int x2), some (.int x3), none] [.int v_7569] h Q
  by_cases c_7570 : v_7569 = 0
  · rw [if_pos c_7570] at e
    refine Rn.bf hT rfl rfl rfl (decide_eq_false (fun z => z c_7570)) ?_
    refine Rn.n hT 1 (pc' := 53) (L' := [some (.ref q0), some (.int x1), some (.int x2), some (.int x3), none]) (st' := [.int (2 : Int32)]) rfl ?_
    obtain rfl := Option.some.inj e
    exact Rn.ret hT rfl rfl rfl hq
  · rw [if_neg c_7570] at e
    refine Rn.bt hT rfl rfl rfl (decide_eq_true c_7570) ?_
    refine Rn.n hT 1 (pc' := 55) (L' := [some (.ref q0), some (.int x1), some (.int x2), some (.int x3), none]) (st' := [.ref q0]) rfl ?_
    obtain ⟨_, e_7572, e⟩ := Option.bind_eq_some_iff.mp e
    obtain ⟨⟨v_7573, h_7574⟩, e_7571, e⟩ := Option.bind_eq_some_iff.mp e
    try dsimp only at e
    try dsimp only at e
    refine Rn.call hT rfl rfl rfl (Nat.le_of_ble_eq_true rfl) (rcv_v gX12_mismatches (by omega) e_7572) (rX12_mismatches (by omega) e_7571 ?_)
    show Rn d _ _ 58 [some (.ref q0), some (.int x1), some (.int x2), some (.int x3), none] [.int v_7573] h_7574 Q
    refine Rn.n hT 5 (pc' := 64) (L' := [some (.ref q0), some (.int x1), some (.int x2), some (.int x3), some (.int v_7573)]) (st' := [.int x3, .int x2, .int x1, .ref q0]) rfl ?_
    obtain ⟨_, e_7576, e⟩ := Option.bind_eq_some_iff.mp e
    obtain ⟨h_7578, e_7575, e⟩ := Option.bind_eq_some_iff.mp e
    refine Rn.call hT rfl rfl rfl (Nat.le_of_ble_eq_true rfl) (rcv_v gX12_walks (by omega) e_7576) (rX12_walks (by omega) e_7575 ?_)
    show Rn d _ _ 67 [some (.ref q0), some (.int x1), some (.int x2), some (.int x3), some (.int v_7573)] [] h_7578 Q
    refine Rn.n hT 2 (pc' := 69) (L' := [some (.ref q0), some (.int x1), some (.int x2), some (.int x3), some (.int v_7573)]) (st' := [.ref q0, .ref q0]) rfl ?_
    obtain ⟨_, e_7580, e⟩ := Option.bind_eq_some_iff.mp e
    obtain ⟨⟨v_7581, h_7582⟩, e_7579, e⟩ := Option.bind_eq_some_iff.mp e
    try dsimp only at e
    try dsimp only at e
    refine Rn.call hT rfl rfl rfl (Nat.le_of_ble_eq_true rfl) (rcv_v gX12_mismatches (by omega) e_7580) (rX12_mismatches (by omega) e_7579 ?_)
    show Rn d _ _ 72 [some (.ref q0), some (.int x1), some (.int x2), some (.int x3), some (.int v_7573)] [.int v_7581, .ref q0] h_7582 Q
    obtain ⟨h_7583, e_7584, e⟩ := Option.bind_eq_some_iff.mp e
    refine Rn.hp hT rfl rfl (pV_hp rfl e_7584) ?_
    refine Rn.n hT 4 (pc' := 79) (L' := [some (.ref q0), some (.int x1), some (.int x2), some (.int x3), some (.int v_7573)]) (st' := [.int x3, .int x2, .int x1, .ref q0]) rfl ?_
    obtain ⟨_, e_7586, e⟩ := Option.bind_eq_some_iff.mp e
    obtain ⟨h_7588, e_7585, e⟩ := Option.bind_eq_some_iff.mp e
    refine Rn.call hT rfl rfl rfl (Nat.le_of_ble_eq_true rfl) (rcv_v gX12_walksBack (by omega) e_7586) (rX12_walksBack (by omega) e_7585 ?_)
    show Rn d _ _ 82 [some (.ref q0), some (.int x1), some (.int x2), some (.int x3), some (.int v_7573)] [] h_7588 Q
    refine Rn.n hT 1 (pc' := 83) (L' := [some (.ref q0), some (.int x1), some (.int x2), some (.int x3), some (.int v_7573)]) (st' := [.ref q0]) rfl ?_
    obtain ⟨v_7589, e_7590, e⟩ := Option.bind_eq_some_iff.mp e
    refine Rn.hp hT rfl rfl (gR_hp e_7590) ?_
    refine Rn.n hT 1 (pc' := 87) (L' := [some (.ref q0), some (.int x1), some (.int x2), some (.int x3), some (.int v_7573)]) (st' := [.int (5 : Int32), .ref v_7589]) rfl ?_
    obtain ⟨v_7591, e_7592, e⟩ := Option.bind_eq_some_iff.mp e
    refine Rn.hp hT rfl rfl (aI_hp e_7592) ?_
    refine Rn.n hT 1 (pc' := 89) (L' := [some (.ref q0), some (.int x1), some (.int x2), some (.int x3), some (.int v_7573)]) (st' := [.int (1 : Int32), .int v_7591]) rfl ?_
    by_cases c_7593 : v_7591 = (1 : Int32)
    · rw [if_pos c_7593] at e
      refine Rn.bf hT rfl rfl rfl (decide_eq_false (fun z => z c_7593)) ?_
      refine Rn.n hT 1 (pc' := 93) (L' := [some (.ref q0), some (.int x1), some (.int x2), some (.int x3), some (.int v_7573)]) (st' := [.ref q0]) rfl ?_
      obtain ⟨v_7594, e_7595, e⟩ := Option.bind_eq_some_iff.mp e
      refine Rn.hp hT rfl rfl (gI_hp e_7595) ?_
      refine Rn.n hT 1 (pc' := 98) (L' := [some (.ref q0), some (.int x1), some (.int x2), some (.int x3), some (.int v_7573)]) (st' := [.int v_7573, .int v_7594]) rfl ?_
      by_cases c_7596 : v_7573 < v_7594
      · rw [if_pos c_7596] at e
        refine Rn.bt hT rfl rfl rfl (decide_eq_true c_7596) ?_
        exact Rn.weak (ll_n (ll_n (ll_n (ll_n (ll_n ll_e))))) (rX12_lawOf_b118 hd hq e)
      · rw [if_neg c_7596] at e
        refine Rn.bf hT rfl rfl rfl (decide_eq_false c_7596) ?_
        exact Rn.weak (ll_s (ll_s (ll_s (ll_s (ll_s ll_e))))) (rX12_lawOf_b101 hd hq e)
    · rw [if_neg c_7593] at e
      refine Rn.bt hT rfl rfl rfl (decide_eq_true c_7593) ?_
      exact Rn.weak (ll_s (ll_s (ll_s (ll_s (ll_s ll_e))))) (rX12_lawOf_b101 hd hq e)
def fX12_lawOf (N : Nat) (h : iv_H) (q0 : Nat) (x1 : Int32) (x2 : Int32) (x3 : Int32) : Option (Int32 × iv_H) := ((gR h 12 1 q0).bind fun v_7551 => ((aI h v_7551 (4 : Int32)).bind fun v_7553 => (if ((v_7553 >>> ((x1 - (1 : Int32)) &&& 31)) &&& (1 : Int32)) = 0 then (fX12_lawOf_b40 N h) else ((gR h 12 5 q0).bind fun v_7556 => ((aI h v_7556 x2).bind fun v_7558 => (if v_7558 = (1 : Int32) then (fX12_lawOf_b40 N h) else (if x1 = (2 : Int32) then ((gR h 12 5 q0).bind fun v_7562 => ((aI h v_7562 x3).bind fun v_7564 => (if v_7564 = (1 : Int32) then (fX12_lawOf_b40 N h) else (fX12_lawOf_b42 N h q0 x1 x2 x3)))) else (fX12_lawOf_b42 N h q0 x1 x2 x3))))))))
set_option maxRecDepth 10000 in
set_option maxHeartbeats 4000000 in
theorem rX12_lawOf {d N : Nat} (hd : 7 ≤ d) {h : iv_H} {q0 : Nat} {x1 : Int32} {x2 : Int32} {x3 : Int32} {r : Int32 × iv_H} {Q : Option Value → iv_H → Prop} (e : fX12_lawOf N h q0 x1 x2 x3 = some r) (hq : Q (some (.int r.1)) r.2) : Cl d 256 [.ref q0, .int x1, .int x2, .int x3] h Q := by
  obtain ⟨d, rfl⟩ : ∃ k, d = k + 1 := ⟨d - 1, by omega⟩
  have hd : 6 ≤ d := by omega
  have hT := hX12_lawOf
  unfold fX12_lawOf at e
  refine Cl.into (by decide) gX12_lawOf rfl ?_
  show Rn d 256 (some .int) 0 [some (.ref q0), some (.int x1), some (.int x2), some (.int x3), none] [] h Q
  refine Rn.n hT 1 (pc' := 1) (L' := [some (.ref q0), some (.int x1), some (.int x2), some (.int x3), none]) (st' := [.ref q0]) rfl ?_
  obtain ⟨v_7551, e_7552, e⟩ := Option.bind_eq_some_iff.mp e
  refine Rn.hp hT rfl rfl (gR_hp e_7552) ?_
  refine Rn.n hT 1 (pc' := 5) (L' := [some (.ref q0), some (.int x1), some (.int x2), some (.int x3), none]) (st' := [.int (4 : Int32), .ref v_7551]) rfl ?_
  obtain ⟨v_7553, e_7554, e⟩ := Option.bind_eq_some_iff.mp e
  refine Rn.hp hT rfl rfl (aI_hp e_7554) ?_
  refine Rn.n hT 6 (pc' := 12) (L' := [some (.ref q0), some (.int x1), some (.int x2), some (.int x3), none]) (st' := [.int ((v_7553 >>> ((x1 - (1 : Int32)) &&& 31)) &&& (1 : Int32))]) rfl ?_
  by_cases c_7555 : ((v_7553 >>> ((x1 - (1 : Int32)) &&& 31)) &&& (1 : Int32)) = 0
  · rw [if_pos c_7555] at e
    refine Rn.bt hT rfl rfl rfl (decide_eq_true c_7555) ?_
    exact Rn.weak (ll_n (ll_n (ll_n (ll_n (ll_n ll_e))))) (rX12_lawOf_b40 hd hq e)
  · rw [if_neg c_7555] at e
    refine Rn.bf hT rfl rfl rfl (decide_eq_false c_7555) ?_
    refine Rn.n hT 1 (pc' := 16) (L' := [some (.ref q0), some (.int x1), some (.int x2), some (.int x3), none]) (st' := [.ref q0]) rfl ?_
    obtain ⟨v_7556, e_7557, e⟩ := Option.bind_eq_some_iff.mp e
    refine Rn.hp hT rfl rfl (gR_hp e_7557) ?_
    refine Rn.n hT 1 (pc' := 20) (L' := [some (.ref q0), some (.int x1), some (.int x2), some (.int x3), none]) (st' := [.int x2, .ref v_7556]) rfl ?_
    obtain ⟨v_7558, e_7559, e⟩ := Option.bind_eq_some_iff.mp e
    refine Rn.hp hT rfl rfl (aI_hp e_7559) ?_
    refine Rn.n hT 1 (pc' := 22) (L' := [some (.ref q0), some (.int x1), some (.int x2), some (.int x3), none]) (st' := [.int (1 : Int32), .int v_7558]) rfl ?_
    by_cases c_7560 : v_7558 = (1 : Int32)
    · rw [if_pos c_7560] at e
      refine Rn.bt hT rfl rfl rfl (decide_eq_true c_7560) ?_
      exact Rn.weak (ll_n (ll_n (ll_n (ll_n (ll_n ll_e))))) (rX12_lawOf_b40 hd hq e)
    · rw [if_neg c_7560] at e
      refine Rn.bf hT rfl rfl rfl (decide_eq_false c_7560) ?_
      refine Rn.n hT 2 (pc' := 27) (L' := [some (.ref q0), some (.int x1), some (.int x2), some (.int x3), none]) (st' := [.int (2 : Int32), .int x1]) rfl ?_
      by_cases c_7561 : x1 = (2 : Int32)
      · rw [if_pos c_7561] at e
        refine Rn.bf hT rfl rfl rfl (decide_eq_false (fun z => z c_7561)) ?_
        refine Rn.n hT 1 (pc' := 31) (L' := [some (.ref q0), some (.int x1), some (.int x2), some (.int x3), none]) (st' := [.ref q0]) rfl ?_
        obtain ⟨v_7562, e_7563, e⟩ := Option.bind_eq_some_iff.mp e
        refine Rn.hp hT rfl rfl (gR_hp e_7563) ?_
        refine Rn.n hT 1 (pc' := 35) (L' := [some (.ref q0), some (.int x1), some (.int x2), some (.int x3), none]) (st' := [.int x3, .ref v_7562]) rfl ?_
        obtain ⟨v_7564, e_7565, e⟩ := Option.bind_eq_some_iff.mp e
        refine Rn.hp hT rfl rfl (aI_hp e_7565) ?_
        refine Rn.n hT 1 (pc' := 37) (L' := [some (.ref q0), some (.int x1), some (.int x2), some (.int x3), none]) (st' := [.int (1 : Int32), .int v_7564]) rfl ?_
        by_cases c_7566 : v_7564 = (1 : Int32)
        · rw [if_pos c_7566] at e
          refine Rn.bf hT rfl rfl rfl (decide_eq_false (fun z => z c_7566)) ?_
          exact Rn.weak (ll_n (ll_n (ll_n (ll_n (ll_n ll_e))))) (rX12_lawOf_b40 hd hq e)
        · rw [if_neg c_7566] at e
          refine Rn.bt hT rfl rfl rfl (decide_eq_true c_7566) ?_
          exact Rn.weak (ll_s (ll_s (ll_s (ll_s (ll_n ll_e))))) (rX12_lawOf_b42 hd hq e)
      · rw [if_neg c_7561] at e
        refine Rn.bt hT rfl rfl rfl (decide_eq_true c_7561) ?_
        exact Rn.weak (ll_s (ll_s (ll_s (ll_s (ll_n ll_e))))) (rX12_lawOf_b42 hd hq e)
set_option maxRecDepth 10000 in
theorem hX12_kindOf : iv_Tb 257 tX12_kindOf := iv_tb_of (m := mX12_kindOf) rfl
set_option maxRecDepth 10000 in
theorem gX12_kindOf : PG.2 257 = some mX12_kindOf := iv_pi_of (t := tX12_kindOf) rfl (by decide)
def fX12_kindOf_b22 (N : Nat) (h : iv_H)  (s0 : Int32) : Option (Int32) := (some s0)
set_option maxRecDepth 10000 in
set_option maxHeartbeats 4000000 in
theorem rX12_kindOf_b22 {d N : Nat} (hd : 0 ≤ d) {h : iv_H}  {s0 : Int32} {r : Int32} {Q : Option Value → iv_H → Prop} (hq : Q (some (.int r)) h) (e : fX12_kindOf_b22 N h  s0 = some r) : Rn d 257 (some .int) 22 [none] [.int s0] h Q := by
  have hT := hX12_kindOf
  unfold fX12_kindOf_b22 at e
  obtain rfl := Option.some.inj e
  exact Rn.ret hT rfl rfl rfl hq
def fX12_kindOf (N : Nat) (h : iv_H) (x0 : Int32) : Option (Int32) := (if (48 : Int32) ≤ x0 then (if (192 : Int32) ≤ x0 then (fX12_kindOf_b22 N h (3 : Int32)) else (fX12_kindOf_b22 N h (2 : Int32))) else (fX12_kindOf_b22 N h (1 : Int32)))
set_option maxRecDepth 10000 in
set_option maxHeartbeats 4000000 in
theorem rX12_kindOf {d N : Nat} (hd : 1 ≤ d) {h : iv_H} {x0 : Int32} {r : Int32} {Q : Option Value → iv_H → Prop} (e : fX12_kindOf N h x0 = some r) (hq : Q (some (.int r)) h) : Cl d 257 [.int x0] h Q := by
  obtain ⟨d, rfl⟩ : ∃ k, d = k + 1 := ⟨d - 1, by omega⟩
  have hd : 0 ≤ d := by omega
  have hT := hX12_kindOf
  unfold fX12_kindOf at e
  refine Cl.into (by decide) gX12_kindOf rfl ?_
  show Rn d 257 (some .int) 0 [some (.int x0)] [] h Q
  refine Rn.n hT 2 (pc' := 3) (L' := [some (.int x0)]) (st' := [.int (48 : Int32), .int x0]) rfl ?_
  by_cases c_7615 : (48 : Int32) ≤ x0
  · rw [if_pos c_7615] at e
    refine Rn.bt hT rfl rfl rfl (decide_eq_true c_7615) ?_
    refine Rn.n hT 2 (pc' := 14) (L' := [some (.int x0)]) (st' := [.int (192 : Int32), .int x0]) rfl ?_
    by_cases c_7616 : (192 : Int32) ≤ x0
    · rw [if_pos c_7616] at e
      refine Rn.bt hT rfl rfl rfl (decide_eq_true c_7616) ?_
      refine Rn.n hT 1 (pc' := 22) (L' := [some (.int x0)]) (st' := [.int (3 : Int32)]) rfl ?_
      exact Rn.weak (ll_n ll_e) (rX12_kindOf_b22 hd hq e)
    · rw [if_neg c_7616] at e
      refine Rn.bf hT rfl rfl rfl (decide_eq_false c_7616) ?_
      refine Rn.n hT 2 (pc' := 22) (L' := [some (.int x0)]) (st' := [.int (2 : Int32)]) rfl ?_
      exact Rn.weak (ll_n ll_e) (rX12_kindOf_b22 hd hq e)
  · rw [if_neg c_7615] at e
    refine Rn.bf hT rfl rfl rfl (decide_eq_false c_7615) ?_
    refine Rn.n hT 2 (pc' := 22) (L' := [some (.int x0)]) (st' := [.int (1 : Int32)]) rfl ?_
    exact Rn.weak (ll_n ll_e) (rX12_kindOf_b22 hd hq e)
set_option maxRecDepth 10000 in
theorem hX12_roomOf : iv_Tb 258 tX12_roomOf := iv_tb_of (m := mX12_roomOf) rfl
set_option maxRecDepth 10000 in
theorem gX12_roomOf : PG.2 258 = some mX12_roomOf := iv_pi_of (t := tX12_roomOf) rfl (by decide)
def fX12_roomOf_b37 (N : Nat) (h : iv_H)  (s0 : Int32) : Option (Int32) := (some s0)
set_option maxRecDepth 10000 in
set_option maxHeartbeats 4000000 in
theorem rX12_roomOf_b37 {d N : Nat} (hd : 0 ≤ d) {h : iv_H}  {s0 : Int32} {r : Int32} {Q : Option Value → iv_H → Prop} (hq : Q (some (.int r)) h) (e : fX12_roomOf_b37 N h  s0 = some r) : Rn d 258 (some .int) 37 [none] [.int s0] h Q := by
  have hT := hX12_roomOf
  unfold fX12_roomOf_b37 at e
  obtain rfl := Option.some.inj e
  exact Rn.ret hT rfl rfl rfl hq
def fX12_roomOf (N : Nat) (h : iv_H) (x0 : Int32) : Option (Int32) := (if (48 : Int32) ≤ x0 then (if (192 : Int32) ≤ x0 then (fX12_roomOf_b37 N h ((x0 - (48 : Int32)) - (144 : Int32))) else (fX12_roomOf_b37 N h ((x0 - (48 : Int32)) / (12 : Int32)))) else (fX12_roomOf_b37 N h (x0 / (4 : Int32))))
set_option maxRecDepth 10000 in
set_option maxHeartbeats 4000000 in
theorem rX12_roomOf {d N : Nat} (hd : 1 ≤ d) {h : iv_H} {x0 : Int32} {r : Int32} {Q : Option Value → iv_H → Prop} (e : fX12_roomOf N h x0 = some r) (hq : Q (some (.int r)) h) : Cl d 258 [.int x0] h Q := by
  obtain ⟨d, rfl⟩ : ∃ k, d = k + 1 := ⟨d - 1, by omega⟩
  have hd : 0 ≤ d := by omega
  have hT := hX12_roomOf
  unfold fX12_roomOf at e
  refine Cl.into (by decide) gX12_roomOf rfl ?_
  show Rn d 258 (some .int) 0 [some (.int x0)] [] h Q
  refine Rn.n hT 2 (pc' := 3) (L' := [some (.int x0)]) (st' := [.int (48 : Int32), .int x0]) rfl ?_
  by_cases c_7617 : (48 : Int32) ≤ x0
  · rw [if_pos c_7617] at e
    refine Rn.bt hT rfl rfl rfl (decide_eq_true c_7617) ?_
    refine Rn.n hT 2 (pc' := 16) (L' := [some (.int x0)]) (st' := [.int (192 : Int32), .int x0]) rfl ?_
    by_cases c_7618 : (192 : Int32) ≤ x0
    · rw [if_pos c_7618] at e
      refine Rn.bt hT rfl rfl rfl (decide_eq_true c_7618) ?_
      refine Rn.n hT 5 (pc' := 37) (L' := [some (.int x0)]) (st' := [.int ((x0 - (48 : Int32)) - (144 : Int32))]) rfl ?_
      exact Rn.weak (ll_n ll_e) (rX12_roomOf_b37 hd hq e)
    · rw [if_neg c_7618] at e
      refine Rn.bf hT rfl rfl rfl (decide_eq_false c_7618) ?_
      refine Rn.n hT 6 (pc' := 37) (L' := [some (.int x0)]) (st' := [.int ((x0 - (48 : Int32)) / (12 : Int32))]) rfl ?_
      exact Rn.weak (ll_n ll_e) (rX12_roomOf_b37 hd hq e)
  · rw [if_neg c_7617] at e
    refine Rn.bf hT rfl rfl rfl (decide_eq_false c_7617) ?_
    refine Rn.n hT 4 (pc' := 37) (L' := [some (.int x0)]) (st' := [.int (x0 / (4 : Int32))]) rfl ?_
    exact Rn.weak (ll_n ll_e) (rX12_roomOf_b37 hd hq e)
set_option maxRecDepth 10000 in
theorem hX12_otherOf : iv_Tb 259 tX12_otherOf := iv_tb_of (m := mX12_otherOf) rfl
set_option maxRecDepth 10000 in
theorem gX12_otherOf : PG.2 259 = some mX12_otherOf := iv_pi_of (t := tX12_otherOf) rfl (by decide)
def fX12_otherOf_b30 (N : Nat) (h : iv_H)  (s0 : Int32) : Option (Int32) := (some s0)
set_option maxRecDepth 10000 in
set_option maxHeartbeats 4000000 in
theorem rX12_otherOf_b30 {d N : Nat} (hd : 0 ≤ d) {h : iv_H}  {s0 : Int32} {r : Int32} {Q : Option Value → iv_H → Prop} (hq : Q (some (.int r)) h) (e : fX12_otherOf_b30 N h  s0 = some r) : Rn d 259 (some .int) 30 [none] [.int s0] h Q := by
  have hT := hX12_otherOf
  unfold fX12_otherOf_b30 at e
  obtain rfl := Option.some.inj e
  exact Rn.ret hT rfl rfl rfl hq
def fX12_otherOf (N : Nat) (h : iv_H) (x0 : Int32) : Option (Int32) := (if (48 : Int32) ≤ x0 then (if (192 : Int32) ≤ x0 then (fX12_otherOf_b30 N h (0 : Int32)) else (fX12_otherOf_b30 N h ((x0 - (48 : Int32)) - (x0 - (48 : Int32)) / (12 : Int32) * (12 : Int32)))) else (fX12_otherOf_b30 N h (x0 - x0 / (4 : Int32) * (4 : Int32))))
set_option maxRecDepth 10000 in
set_option maxHeartbeats 4000000 in
theorem rX12_otherOf {d N : Nat} (hd : 1 ≤ d) {h : iv_H} {x0 : Int32} {r : Int32} {Q : Option Value → iv_H → Prop} (e : fX12_otherOf N h x0 = some r) (hq : Q (some (.int r)) h) : Cl d 259 [.int x0] h Q := by
  obtain ⟨d, rfl⟩ : ∃ k, d = k + 1 := ⟨d - 1, by omega⟩
  have hd : 0 ≤ d := by omega
  have hT := hX12_otherOf
  unfold fX12_otherOf at e
  refine Cl.into (by decide) gX12_otherOf rfl ?_
  show Rn d 259 (some .int) 0 [some (.int x0)] [] h Q
  refine Rn.n hT 2 (pc' := 3) (L' := [some (.int x0)]) (st' := [.int (48 : Int32), .int x0]) rfl ?_
  by_cases c_7619 : (48 : Int32) ≤ x0
  · rw [if_pos c_7619] at e
    refine Rn.bt hT rfl rfl rfl (decide_eq_true c_7619) ?_
    refine Rn.n hT 2 (pc' := 16) (L' := [some (.int x0)]) (st' := [.int (192 : Int32), .int x0]) rfl ?_
    by_cases c_7620 : (192 : Int32) ≤ x0
    · rw [if_pos c_7620] at e
      refine Rn.bt hT rfl rfl rfl (decide_eq_true c_7620) ?_
      refine Rn.n hT 1 (pc' := 30) (L' := [some (.int x0)]) (st' := [.int (0 : Int32)]) rfl ?_
      exact Rn.weak (ll_n ll_e) (rX12_otherOf_b30 hd hq e)
    · rw [if_neg c_7620] at e
      refine Rn.bf hT rfl rfl rfl (decide_eq_false c_7620) ?_
      refine Rn.n hT 6 (pc' := 30) (L' := [some (.int x0)]) (st' := [.int ((x0 - (48 : Int32)) - (x0 - (48 : Int32)) / (12 : Int32) * (12 : Int32))]) rfl ?_
      exact Rn.weak (ll_n ll_e) (rX12_otherOf_b30 hd hq e)
  · rw [if_neg c_7619] at e
    refine Rn.bf hT rfl rfl rfl (decide_eq_false c_7619) ?_
    refine Rn.n hT 4 (pc' := 30) (L' := [some (.int x0)]) (st' := [.int (x0 - x0 / (4 : Int32) * (4 : Int32))]) rfl ?_
    exact Rn.weak (ll_n ll_e) (rX12_otherOf_b30 hd hq e)
set_option maxRecDepth 10000 in
theorem hX12_mayBe : iv_Tb 260 tX12_mayBe := iv_tb_of (m := mX12_mayBe) rfl
set_option maxRecDepth 10000 in
theorem gX12_mayBe : PG.2 260 = some mX12_mayBe := iv_pi_of (t := tX12_mayBe) rfl (by decide)
def fX12_mayBe_b75 (N : Nat) (h : iv_H)  (s0 : Int32) : Option (Int32 × iv_H) := (if s0 = 0 ∨ s0 = 1 then some (s0, h) else none)
set_option maxRecDepth 10000 in
set_option maxHeartbeats 4000000 in
theorem rX12_mayBe_b75 {d N : Nat} (hd : 7 ≤ d) {h : iv_H}  {s0 : Int32} {r : Int32 × iv_H} {Q : Option Value → iv_H → Prop} (hq : Q (some (.int r.1)) r.2) (e : fX12_mayBe_b75 N h  s0 = some r) : Rn d 260 (some .boolean) 75 [none, none, none] [.int s0] h Q := by
  have hT := hX12_mayBe
  unfold fX12_mayBe_b75 at e
  by_cases c_7654 : s0 = 0 ∨ s0 = 1
  · rw [if_pos c_7654] at e
    obtain rfl := Option.some.inj e
    exact Rn.ret hT rfl rfl (if_pos c_7654) hq
  · rw [if_neg c_7654] at e
    cases e
def fX12_mayBe_b74 (N : Nat) (h : iv_H)   : Option (Int32 × iv_H) := (fX12_mayBe_b75 N h (0 : Int32))
set_option maxRecDepth 10000 in
set_option maxHeartbeats 4000000 in
theorem rX12_mayBe_b74 {d N : Nat} (hd : 7 ≤ d) {h : iv_H}   {r : Int32 × iv_H} {Q : Option Value → iv_H → Prop} (hq : Q (some (.int r.1)) r.2) (e : fX12_mayBe_b74 N h   = some r) : Rn d 260 (some .boolean) 74 [none, none, none] [] h Q := by
  have hT := hX12_mayBe
  unfold fX12_mayBe_b74 at e
  refine Rn.n hT 1 (pc' := 75) (L' := [none, none, none]) (st' := [.int (0 : Int32)]) rfl ?_
  exact Rn.weak (ll_n (ll_n (ll_n ll_e))) (rX12_mayBe_b75 hd hq e)
def fX12_mayBe_b46 (N : Nat) (h : iv_H) (q0 : Nat) (x1 : Int32) (s0 : Int32) : Option (Int32 × iv_H) := (if s0 = 0 then (fX12_mayBe_b74 N h) else ((fX12_kindOf N h x1).bind fun v_7643 => ((fX12_roomOf N h x1).bind fun v_7645 => ((fX12_otherOf N h x1).bind fun v_7647 => ((cko h q0 12).bind fun _ => (fX12_lawOf N h q0 v_7643 v_7645 v_7647).bind fun p_7653 => (fun (v_7650 : Int32) (h_7651 : iv_H) => (if v_7650 = 0 then (fX12_mayBe_b75 N h_7651 (1 : Int32)) else (fX12_mayBe_b74 N h_7651))) p_7653.1 p_7653.2)))))
set_option maxRecDepth 10000 in
set_option maxHeartbeats 4000000 in
theorem rX12_mayBe_b46 {d N : Nat} (hd : 7 ≤ d) {h : iv_H} {q0 : Nat} {x1 : Int32} {s0 : Int32} {r : Int32 × iv_H} {Q : Option Value → iv_H → Prop} (hq : Q (some (.int r.1)) r.2) (e : fX12_mayBe_b46 N h q0 x1 s0 = some r) : Rn d 260 (some .boolean) 46 [some (.ref q0), some (.int x1), none] [.int s0] h Q := by
  have hT := hX12_mayBe
  unfold fX12_mayBe_b46 at e
  refine Rn.n hT 2 (pc' := 48) (L' := [some (.ref q0), some (.int x1), some (.int s0)]) (st' := [.int s0]) rfl ?_
  by_cases c_7641 : s0 = 0
  · rw [if_pos c_7641] at e
    refine Rn.bt hT rfl rfl rfl (decide_eq_true c_7641) ?_
    exact Rn.weak (ll_n (ll_n (ll_n ll_e))) (rX12_mayBe_b74 hd hq e)
  · rw [if_neg c_7641] at e
    refine Rn.bf hT rfl rfl rfl (decide_eq_false c_7641) ?_
    refine Rn.n hT 2 (pc' := 53) (L' := [some (.ref q0), some (.int x1), some (.int s0)]) (st' := [.int x1, .ref q0]) rfl ?_
    obtain ⟨v_7643, e_7642, e⟩ := Option.bind_eq_some_iff.mp e
    refine Rn.call hT rfl rfl rfl (Nat.le_of_ble_eq_true rfl) rfl (rX12_kindOf (by omega) e_7642 ?_)
    show Rn d _ _ 56 [some (.ref q0), some (.int x1), some (.int s0)] [.int v_7643, .ref q0] h Q
    refine Rn.n hT 1 (pc' := 57) (L' := [some (.ref q0), some (.int x1), some (.int s0)]) (st' := [.int x1, .int v_7643, .ref q0]) rfl ?_
    obtain ⟨v_7645, e_7644, e⟩ := Option.bind_eq_some_iff.mp e
    refine Rn.call hT rfl rfl rfl (Nat.le_of_ble_eq_true rfl) rfl (rX12_roomOf (by omega) e_7644 ?_)
    show Rn d _ _ 60 [some (.ref q0), some (.int x1), some (.int s0)] [.int v_7645, .int v_7643, .ref q0] h Q
    refine Rn.n hT 1 (pc' := 61) (L' := [some (.ref q0), some (.int x1), some (.int s0)]) (st' := [.int x1, .int v_7645, .int v_7643, .ref q0]) rfl ?_
    obtain ⟨v_7647, e_7646, e⟩ := Option.bind_eq_some_iff.mp e
    refine Rn.call hT rfl rfl rfl (Nat.le_of_ble_eq_true rfl) rfl (rX12_otherOf (by omega) e_7646 ?_)
    show Rn d _ _ 64 [some (.ref q0), some (.int x1), some (.int s0)] [.int v_7647, .int v_7645, .int v_7643, .ref q0] h Q
    obtain ⟨_, e_7649, e⟩ := Option.bind_eq_some_iff.mp e
    obtain ⟨⟨v_7650, h_7651⟩, e_7648, e⟩ := Option.bind_eq_some_iff.mp e
    try dsimp only at e
    try dsimp only at e
    refine Rn.call hT rfl rfl rfl (Nat.le_of_ble_eq_true rfl) (rcv_v gX12_lawOf (by omega) e_7649) (rX12_lawOf (by omega) e_7648 ?_)
    show Rn d _ _ 67 [some (.ref q0), some (.int x1), some (.int s0)] [.int v_7650] h_7651 Q
    by_cases c_7652 : v_7650 = 0
    · rw [if_pos c_7652] at e
      refine Rn.bf hT rfl rfl rfl (decide_eq_false (fun z => z c_7652)) ?_
      refine Rn.n hT 2 (pc' := 75) (L' := [some (.ref q0), some (.int x1), some (.int s0)]) (st' := [.int (1 : Int32)]) rfl ?_
      exact Rn.weak (ll_n (ll_n (ll_n ll_e))) (rX12_mayBe_b75 hd hq e)
    · rw [if_neg c_7652] at e
      refine Rn.bt hT rfl rfl rfl (decide_eq_true c_7652) ?_
      exact Rn.weak (ll_n (ll_n (ll_n ll_e))) (rX12_mayBe_b74 hd hq e)
def fX12_mayBe_b41 (N : Nat) (h : iv_H) (q0 : Nat) (x1 : Int32)  : Option (Int32 × iv_H) := (fX12_mayBe_b46 N h q0 x1 (1 : Int32))
set_option maxRecDepth 10000 in
set_option maxHeartbeats 4000000 in
theorem rX12_mayBe_b41 {d N : Nat} (hd : 7 ≤ d) {h : iv_H} {q0 : Nat} {x1 : Int32}  {r : Int32 × iv_H} {Q : Option Value → iv_H → Prop} (hq : Q (some (.int r.1)) r.2) (e : fX12_mayBe_b41 N h q0 x1  = some r) : Rn d 260 (some .boolean) 41 [some (.ref q0), some (.int x1), none] [] h Q := by
  have hT := hX12_mayBe
  unfold fX12_mayBe_b41 at e
  refine Rn.n hT 2 (pc' := 46) (L' := [some (.ref q0), some (.int x1), none]) (st' := [.int (1 : Int32)]) rfl ?_
  exact Rn.weak (ll_s (ll_s (ll_n ll_e))) (rX12_mayBe_b46 hd hq e)
def fX12_mayBe_b45 (N : Nat) (h : iv_H) (q0 : Nat) (x1 : Int32)  : Option (Int32 × iv_H) := (fX12_mayBe_b46 N h q0 x1 (0 : Int32))
set_option maxRecDepth 10000 in
set_option maxHeartbeats 4000000 in
theorem rX12_mayBe_b45 {d N : Nat} (hd : 7 ≤ d) {h : iv_H} {q0 : Nat} {x1 : Int32}  {r : Int32 × iv_H} {Q : Option Value → iv_H → Prop} (hq : Q (some (.int r.1)) r.2) (e : fX12_mayBe_b45 N h q0 x1  = some r) : Rn d 260 (some .boolean) 45 [some (.ref q0), some (.int x1), none] [] h Q := by
  have hT := hX12_mayBe
  unfold fX12_mayBe_b45 at e
  refine Rn.n hT 1 (pc' := 46) (L' := [some (.ref q0), some (.int x1), none]) (st' := [.int (0 : Int32)]) rfl ?_
  exact Rn.weak (ll_s (ll_s (ll_n ll_e))) (rX12_mayBe_b46 hd hq e)
def fX12_mayBe (N : Nat) (h : iv_H) (q0 : Nat) (x1 : Int32) : Option (Int32 × iv_H) := ((fX12_roomOf N h x1).bind fun v_7622 => ((cko h q0 12).bind fun _ => (fX12_isRoom N h q0 v_7622).bind fun v_7625 => (if v_7625 = 0 then (fX12_mayBe_b45 N h q0 x1) else ((fX12_kindOf N h x1).bind fun v_7628 => (if v_7628 = (2 : Int32) then ((fX12_otherOf N h x1).bind fun v_7631 => ((cko h q0 12).bind fun _ => (fX12_isRoom N h q0 v_7631).bind fun v_7634 => (if v_7634 = 0 then (fX12_mayBe_b45 N h q0 x1) else ((fX12_roomOf N h x1).bind fun v_7637 => ((fX12_otherOf N h x1).bind fun v_7639 => (if v_7639 ≤ v_7637 then (fX12_mayBe_b45 N h q0 x1) else (fX12_mayBe_b41 N h q0 x1))))))) else (fX12_mayBe_b41 N h q0 x1))))))
set_option maxRecDepth 10000 in
set_option maxHeartbeats 4000000 in
theorem rX12_mayBe {d N : Nat} (hd : 8 ≤ d) {h : iv_H} {q0 : Nat} {x1 : Int32} {r : Int32 × iv_H} {Q : Option Value → iv_H → Prop} (e : fX12_mayBe N h q0 x1 = some r) (hq : Q (some (.int r.1)) r.2) : Cl d 260 [.ref q0, .int x1] h Q := by
  obtain ⟨d, rfl⟩ : ∃ k, d = k + 1 := ⟨d - 1, by omega⟩
  have hd : 7 ≤ d := by omega
  have hT := hX12_mayBe
  unfold fX12_mayBe at e
  refine Cl.into (by decide) gX12_mayBe rfl ?_
  show Rn d 260 (some .boolean) 0 [some (.ref q0), some (.int x1), none] [] h Q
  refine Rn.n hT 2 (pc' := 2) (L' := [some (.ref q0), some (.int x1), none]) (st' := [.int x1, .ref q0]) rfl ?_
  obtain ⟨v_7622, e_7621, e⟩ := Option.bind_eq_some_iff.mp e
  refine Rn.call hT rfl rfl rfl (Nat.le_of_ble_eq_true rfl) rfl (rX12_roomOf (by omega) e_7621 ?_)
  show Rn d _ _ 5 [some (.ref q0), some (.int x1), none] [.int v_7622, .ref q0] h Q
  obtain ⟨_, e_7624, e⟩ := Option.bind_eq_some_iff.mp e
  obtain ⟨v_7625, e_7623, e⟩ := Option.bind_eq_some_iff.mp e
  refine Rn.call hT rfl rfl rfl (Nat.le_of_ble_eq_true rfl) (rcv_v gX12_isRoom (by omega) e_7624) (rX12_isRoom (by omega) e_7623 ?_)
  show Rn d _ _ 8 [some (.ref q0), some (.int x1), none] [.int v_7625] h Q
  by_cases c_7626 : v_7625 = 0
  · rw [if_pos c_7626] at e
    refine Rn.bt hT rfl rfl rfl (decide_eq_true c_7626) ?_
    exact Rn.weak (ll_s (ll_s (ll_n ll_e))) (rX12_mayBe_b45 hd hq e)
  · rw [if_neg c_7626] at e
    refine Rn.bf hT rfl rfl rfl (decide_eq_false c_7626) ?_
    refine Rn.n hT 1 (pc' := 12) (L' := [some (.ref q0), some (.int x1), none]) (st' := [.int x1]) rfl ?_
    obtain ⟨v_7628, e_7627, e⟩ := Option.bind_eq_some_iff.mp e
    refine Rn.call hT rfl rfl rfl (Nat.le_of_ble_eq_true rfl) rfl (rX12_kindOf (by omega) e_7627 ?_)
    show Rn d _ _ 15 [some (.ref q0), some (.int x1), none] [.int v_7628] h Q
    refine Rn.n hT 1 (pc' := 16) (L' := [some (.ref q0), some (.int x1), none]) (st' := [.int (2 : Int32), .int v_7628]) rfl ?_
    by_cases c_7629 : v_7628 = (2 : Int32)
    · rw [if_pos c_7629] at e
      refine Rn.bf hT rfl rfl rfl (decide_eq_false (fun z => z c_7629)) ?_
      refine Rn.n hT 2 (pc' := 21) (L' := [some (.ref q0), some (.int x1), none]) (st' := [.int x1, .ref q0]) rfl ?_
      obtain ⟨v_7631, e_7630, e⟩ := Option.bind_eq_some_iff.mp e
      refine Rn.call hT rfl rfl rfl (Nat.le_of_ble_eq_true rfl) rfl (rX12_otherOf (by omega) e_7630 ?_)
      show Rn d _ _ 24 [some (.ref q0), some (.int x1), none] [.int v_7631, .ref q0] h Q
      obtain ⟨_, e_7633, e⟩ := Option.bind_eq_some_iff.mp e
      obtain ⟨v_7634, e_7632, e⟩ := Option.bind_eq_some_iff.mp e
      refine Rn.call hT rfl rfl rfl (Nat.le_of_ble_eq_true rfl) (rcv_v gX12_isRoom (by omega) e_7633) (rX12_isRoom (by omega) e_7632 ?_)
      show Rn d _ _ 27 [some (.ref q0), some (.int x1), none] [.int v_7634] h Q
      by_cases c_7635 : v_7634 = 0
      · rw [if_pos c_7635] at e
        refine Rn.bt hT rfl rfl rfl (decide_eq_true c_7635) ?_
        exact Rn.weak (ll_s (ll_s (ll_n ll_e))) (rX12_mayBe_b45 hd hq e)
      · rw [if_neg c_7635] at e
        refine Rn.bf hT rfl rfl rfl (decide_eq_false c_7635) ?_
        refine Rn.n hT 1 (pc' := 31) (L' := [some (.ref q0), some (.int x1), none]) (st' := [.int x1]) rfl ?_
        obtain ⟨v_7637, e_7636, e⟩ := Option.bind_eq_some_iff.mp e
        refine Rn.call hT rfl rfl rfl (Nat.le_of_ble_eq_true rfl) rfl (rX12_roomOf (by omega) e_7636 ?_)
        show Rn d _ _ 34 [some (.ref q0), some (.int x1), none] [.int v_7637] h Q
        refine Rn.n hT 1 (pc' := 35) (L' := [some (.ref q0), some (.int x1), none]) (st' := [.int x1, .int v_7637]) rfl ?_
        obtain ⟨v_7639, e_7638, e⟩ := Option.bind_eq_some_iff.mp e
        refine Rn.call hT rfl rfl rfl (Nat.le_of_ble_eq_true rfl) rfl (rX12_otherOf (by omega) e_7638 ?_)
        show Rn d _ _ 38 [some (.ref q0), some (.int x1), none] [.int v_7639, .int v_7637] h Q
        by_cases c_7640 : v_7639 ≤ v_7637
        · rw [if_pos c_7640] at e
          refine Rn.bt hT rfl rfl rfl (decide_eq_true c_7640) ?_
          exact Rn.weak (ll_s (ll_s (ll_n ll_e))) (rX12_mayBe_b45 hd hq e)
        · rw [if_neg c_7640] at e
          refine Rn.bf hT rfl rfl rfl (decide_eq_false c_7640) ?_
          exact Rn.weak (ll_s (ll_s (ll_n ll_e))) (rX12_mayBe_b41 hd hq e)
    · rw [if_neg c_7629] at e
      refine Rn.bt hT rfl rfl rfl (decide_eq_true c_7629) ?_
      exact Rn.weak (ll_s (ll_s (ll_n ll_e))) (rX12_mayBe_b41 hd hq e)
set_option maxRecDepth 10000 in
theorem hX12_canNow : iv_Tb 261 tX12_canNow := iv_tb_of (m := mX12_canNow) rfl
set_option maxRecDepth 10000 in
theorem gX12_canNow : PG.2 261 = some mX12_canNow := iv_pi_of (t := tX12_canNow) rfl (by decide)
def fX12_canNow_b25 (N : Nat) (h : iv_H) (q0 : Nat) (x2 : Int32) (s0 : Int32) (s1 : Int32) (kb : iv_H → Int32 → Int32 → Option (Int32 × iv_H)) (kx : iv_H → Int32 → Option (Int32 × iv_H)) : Option (Int32 × iv_H) := (kb h (s1 + s0) (x2 + (1 : Int32)))
set_option maxRecDepth 10000 in
set_option maxHeartbeats 4000000 in
theorem rX12_canNow_b25 {d N : Nat} (hd : 8 ≤ d) {h : iv_H} {q0 : Nat} {x2 : Int32} {s0 : Int32} {s1 : Int32} {kb : iv_H → Int32 → Int32 → Option (Int32 × iv_H)} {kx : iv_H → Int32 → Option (Int32 × iv_H)} {r : Int32 × iv_H} {Q : Option Value → iv_H → Prop} (hb : ∀ (h : iv_H) (w1 : Int32) (w2 : Int32), kb h w1 w2 = some r → Rn d 261 (some .int) 4 [some (.ref q0), some (.int w1), some (.int w2)] [] h Q) (hk : ∀ (h : iv_H) (w1 : Int32), kx h w1 = some r → Rn d 261 (some .int) 33 [none, some (.int w1), none] [] h Q) (hq : Q (some (.int r.1)) r.2) (e : fX12_canNow_b25 N h q0 x2 s0 s1 kb kx = some r) : Rn d 261 (some .int) 25 [some (.ref q0), none, some (.int x2)] [.int s0, .int s1] h Q := by
  have hT := hX12_canNow
  unfold fX12_canNow_b25 at e
  refine Rn.n hT 4 (pc' := 4) (L' := [some (.ref q0), some (.int (s1 + s0)), some (.int (x2 + (1 : Int32)))]) (st' := []) rfl ?_
  exact Rn.weak (ll_s (ll_s (ll_s ll_e))) (hb h (s1 + s0) (x2 + (1 : Int32)) e)
def fX12_canNow_l4 (N : Nat) (q0 : Nat) (kx : iv_H → Int32 → Option (Int32 × iv_H)) : Nat → iv_H → Int32 → Int32 → Option (Int32 × iv_H)
  | 0, _, _, _ => none
  | n + 1, h, x1, x2 => (if (204 : Int32) ≤ x2 then (kx h x1) else ((cko h q0 12).bind fun _ => (fX12_mayBe N h q0 x2).bind fun p_7663 => (fun (v_7660 : Int32) (h_7661 : iv_H) => (if v_7660 = 0 then (fX12_canNow_b25 N h_7661 q0 x2 (0 : Int32) x1 (fX12_canNow_l4 N q0 kx n) kx) else (fX12_canNow_b25 N h_7661 q0 x2 (1 : Int32) x1 (fX12_canNow_l4 N q0 kx n) kx))) p_7663.1 p_7663.2))
set_option maxRecDepth 10000 in
set_option maxHeartbeats 4000000 in
theorem rX12_canNow_l4 {d N : Nat} (hd : 8 ≤ d) {q0 : Nat} {kx : iv_H → Int32 → Option (Int32 × iv_H)} {r : Int32 × iv_H} {Q : Option Value → iv_H → Prop} (hk : ∀ (h : iv_H) (x1 : Int32), kx h x1 = some r → Rn d 261 (some .int) 33 [none, some (.int x1), none] [] h Q) (hq : Q (some (.int r.1)) r.2) : ∀ (n : Nat) (h : iv_H) (x1 : Int32) (x2 : Int32), fX12_canNow_l4 N q0 kx n h x1 x2 = some r → Rn d 261 (some .int) 4 [some (.ref q0), some (.int x1), some (.int x2)] [] h Q := by
  have hT := hX12_canNow
  intro n
  induction n with
  | zero =>
    intro h x1 x2 e
    rw [fX12_canNow_l4] at e
    cases e
  | succ n ih =>
    intro h x1 x2 e
    rw [fX12_canNow_l4] at e
    refine Rn.n hT 2 (pc' := 8) (L' := [some (.ref q0), some (.int x1), some (.int x2)]) (st' := [.int (204 : Int32), .int x2]) rfl ?_
    by_cases c_7657 : (204 : Int32) ≤ x2
    · rw [if_pos c_7657] at e
      refine Rn.bt hT rfl rfl rfl (decide_eq_true c_7657) ?_
      exact Rn.weak (ll_n (ll_s (ll_n ll_e))) (hk h x1 e)
    · rw [if_neg c_7657] at e
      refine Rn.bf hT rfl rfl rfl (decide_eq_false c_7657) ?_
      refine Rn.n hT 3 (pc' := 14) (L' := [some (.ref q0), some (.int x1), some (.int x2)]) (st' := [.int x2, .ref q0, .int x1]) rfl ?_
      obtain ⟨_, e_7659, e⟩ := Option.bind_eq_some_iff.mp e
      obtain ⟨⟨v_7660, h_7661⟩, e_7658, e⟩ := Option.bind_eq_some_iff.mp e
      try dsimp only at e
      try dsimp only at e
      refine Rn.call hT rfl rfl rfl (Nat.le_of_ble_eq_true rfl) (rcv_v gX12_mayBe (by omega) e_7659) (rX12_mayBe (by omega) e_7658 ?_)
      show Rn d _ _ 17 [some (.ref q0), some (.int x1), some (.int x2)] [.int v_7660, .int x1] h_7661 Q
      by_cases c_7662 : v_7660 = 0
      · rw [if_pos c_7662] at e
        refine Rn.bt hT rfl rfl rfl (decide_eq_true c_7662) ?_
        refine Rn.n hT 1 (pc' := 25) (L' := [some (.ref q0), some (.int x1), some (.int x2)]) (st' := [.int (0 : Int32), .int x1]) rfl ?_
        exact Rn.weak (ll_s (ll_n (ll_s ll_e))) (rX12_canNow_b25 hd ih hk hq e)
      · rw [if_neg c_7662] at e
        refine Rn.bf hT rfl rfl rfl (decide_eq_false c_7662) ?_
        refine Rn.n hT 2 (pc' := 25) (L' := [some (.ref q0), some (.int x1), some (.int x2)]) (st' := [.int (1 : Int32), .int x1]) rfl ?_
        exact Rn.weak (ll_s (ll_n (ll_s ll_e))) (rX12_canNow_b25 hd ih hk hq e)
def fX12_canNow (N : Nat) (h : iv_H) (q0 : Nat) : Option (Int32 × iv_H) := (fX12_canNow_l4 N q0 (fun (h_7655 : iv_H) (z_7656 : Int32) => (some (z_7656, h_7655))) N h (0 : Int32) (0 : Int32))
set_option maxRecDepth 10000 in
set_option maxHeartbeats 4000000 in
theorem rX12_canNow {d N : Nat} (hd : 9 ≤ d) {h : iv_H} {q0 : Nat} {r : Int32 × iv_H} {Q : Option Value → iv_H → Prop} (e : fX12_canNow N h q0 = some r) (hq : Q (some (.int r.1)) r.2) : Cl d 261 [.ref q0] h Q := by
  obtain ⟨d, rfl⟩ : ∃ k, d = k + 1 := ⟨d - 1, by omega⟩
  have hd : 8 ≤ d := by omega
  have hT := hX12_canNow
  unfold fX12_canNow at e
  refine Cl.into (by decide) gX12_canNow rfl ?_
  show Rn d 261 (some .int) 0 [some (.ref q0), none, none] [] h Q
  refine Rn.n hT 4 (pc' := 4) (L' := [some (.ref q0), some (.int (0 : Int32)), some (.int (0 : Int32))]) (st' := []) rfl ?_
  refine Rn.weak (ll_s (ll_s (ll_s ll_e))) (rX12_canNow_l4 hd (fun h_7655 z_7656 e => ?_) hq N h (0 : Int32) (0 : Int32) e)
  try dsimp only at e
  refine Rn.n hT 1 (pc' := 34) (L' := [none, some (.int z_7656), none]) (st' := [.int z_7656]) rfl ?_
  obtain rfl := Option.some.inj e
  exact Rn.ret hT rfl rfl rfl hq
set_option maxRecDepth 10000 in
theorem hX12_codeAt : iv_Tb 262 tX12_codeAt := iv_tb_of (m := mX12_codeAt) rfl
set_option maxRecDepth 10000 in
theorem gX12_codeAt : PG.2 262 = some mX12_codeAt := iv_pi_of (t := tX12_codeAt) rfl (by decide)
def fX12_codeAt_b29 (N : Nat) (h : iv_H) (q0 : Nat) (x1 : Int32) (x2 : Int32) (x3 : Int32)  (kb : iv_H → Int32 → Int32 → Option (Int32 × iv_H)) (kx : iv_H → Option (Int32 × iv_H)) : Option (Int32 × iv_H) := (kb h x2 (x3 + (1 : Int32)))
set_option maxRecDepth 10000 in
set_option maxHeartbeats 4000000 in
theorem rX12_codeAt_b29 {d N : Nat} (hd : 8 ≤ d) {h : iv_H} {q0 : Nat} {x1 : Int32} {x2 : Int32} {x3 : Int32}  {kb : iv_H → Int32 → Int32 → Option (Int32 × iv_H)} {kx : iv_H → Option (Int32 × iv_H)} {r : Int32 × iv_H} {Q : Option Value → iv_H → Prop} (hb : ∀ (h : iv_H) (w2 : Int32) (w3 : Int32), kb h w2 w3 = some r → Rn d 262 (some .int) 4 [some (.ref q0), some (.int x1), some (.int w2), some (.int w3)] [] h Q) (hk : ∀ (h : iv_H), kx h = some r → Rn d 262 (some .int) 35 [none, none, none, none] [] h Q) (hq : Q (some (.int r.1)) r.2) (e : fX12_codeAt_b29 N h q0 x1 x2 x3  kb kx = some r) : Rn d 262 (some .int) 29 [some (.ref q0), some (.int x1), some (.int x2), some (.int x3)] [] h Q := by
  have hT := hX12_codeAt
  unfold fX12_codeAt_b29 at e
  refine Rn.n hT 2 (pc' := 4) (L' := [some (.ref q0), some (.int x1), some (.int x2), some (.int (x3 + (1 : Int32)))]) (st' := []) rfl ?_
  exact Rn.weak (ll_s (ll_s (ll_s (ll_s ll_e)))) (hb h x2 (x3 + (1 : Int32)) e)
def fX12_codeAt_l4 (N : Nat) (q0 : Nat) (x1 : Int32) (kx : iv_H → Option (Int32 × iv_H)) : Nat → iv_H → Int32 → Int32 → Option (Int32 × iv_H)
  | 0, _, _, _ => none
  | n + 1, h, x2, x3 => (if (204 : Int32) ≤ x3 then (kx h) else ((cko h q0 12).bind fun _ => (fX12_mayBe N h q0 x3).bind fun p_7672 => (fun (v_7668 : Int32) (h_7669 : iv_H) => (if v_7668 = 0 then (fX12_codeAt_b29 N h_7669 q0 x1 x2 x3 (fX12_codeAt_l4 N q0 x1 kx n) kx) else (if x2 = x1 then (some (x3, h_7669)) else (fX12_codeAt_b29 N h_7669 q0 x1 (x2 + (1 : Int32)) x3 (fX12_codeAt_l4 N q0 x1 kx n) kx)))) p_7672.1 p_7672.2))
set_option maxRecDepth 10000 in
set_option maxHeartbeats 4000000 in
theorem rX12_codeAt_l4 {d N : Nat} (hd : 8 ≤ d) {q0 : Nat} {x1 : Int32} {kx : iv_H → Option (Int32 × iv_H)} {r : Int32 × iv_H} {Q : Option Value → iv_H → Prop} (hk : ∀ (h : iv_H), kx h = some r → Rn d 262 (some .int) 35 [none, none, none, none] [] h Q) (hq : Q (some (.int r.1)) r.2) : ∀ (n : Nat) (h : iv_H) (x2 : Int32) (x3 : Int32), fX12_codeAt_l4 N q0 x1 kx n h x2 x3 = some r → Rn d 262 (some .int) 4 [some (.ref q0), some (.int x1), some (.int x2), some (.int x3)] [] h Q := by
  have hT := hX12_codeAt
  intro n
  induction n with
  | zero =>
    intro h x2 x3 e
    rw [fX12_codeAt_l4] at e
    cases e
  | succ n ih =>
    intro h x2 x3 e
    rw [fX12_codeAt_l4] at e
    refine Rn.n hT 2 (pc' := 8) (L' := [some (.ref q0), some (.int x1), some (.int x2), some (.int x3)]) (st' := [.int (204 : Int32), .int x3]) rfl ?_
    by_cases c_7665 : (204 : Int32) ≤ x3
    · rw [if_pos c_7665] at e
      refine Rn.bt hT rfl rfl rfl (decide_eq_true c_7665) ?_
      exact Rn.weak (ll_n (ll_n (ll_n (ll_n ll_e)))) (hk h e)
    · rw [if_neg c_7665] at e
      refine Rn.bf hT rfl rfl rfl (decide_eq_false c_7665) ?_
      refine Rn.n hT 2 (pc' := 13) (L' := [some (.ref q0), some (.int x1), some (.int x2), some (.int x3)]) (st' := [.int x3, .ref q0]) rfl ?_
      obtain ⟨_, e_7667, e⟩ := Option.bind_eq_some_iff.mp e
      obtain ⟨⟨v_7668, h_7669⟩, e_7666, e⟩ := Option.bind_eq_some_iff.mp e
      try dsimp only at e
      try dsimp only at e
      refine Rn.call hT rfl rfl rfl (Nat.le_of_ble_eq_true rfl) (rcv_v gX12_mayBe (by omega) e_7667) (rX12_mayBe (by omega) e_7666 ?_)
      show Rn d _ _ 16 [some (.ref q0), some (.int x1), some (.int x2), some (.int x3)] [.int v_7668] h_7669 Q
      by_cases c_7670 : v_7668 = 0
      · rw [if_pos c_7670] at e
        refine Rn.bt hT rfl rfl rfl (decide_eq_true c_7670) ?_
        exact Rn.weak (ll_s (ll_s (ll_s (ll_s ll_e)))) (rX12_codeAt_b29 hd ih hk hq e)
      · rw [if_neg c_7670] at e
        refine Rn.bf hT rfl rfl rfl (decide_eq_false c_7670) ?_
        refine Rn.n hT 2 (pc' := 21) (L' := [some (.ref q0), some (.int x1), some (.int x2), some (.int x3)]) (st' := [.int x1, .int x2]) rfl ?_
        by_cases c_7671 : x2 = x1
        · rw [if_pos c_7671] at e
          refine Rn.bf hT rfl rfl rfl (decide_eq_false (fun z => z c_7671)) ?_
          refine Rn.n hT 1 (pc' := 25) (L' := [some (.ref q0), some (.int x1), some (.int x2), some (.int x3)]) (st' := [.int x3]) rfl ?_
          obtain rfl := Option.some.inj e
          exact Rn.ret hT rfl rfl rfl hq
        · rw [if_neg c_7671] at e
          refine Rn.bt hT rfl rfl rfl (decide_eq_true c_7671) ?_
          refine Rn.n hT 1 (pc' := 29) (L' := [some (.ref q0), some (.int x1), some (.int (x2 + (1 : Int32))), some (.int x3)]) (st' := []) rfl ?_
          exact Rn.weak (ll_s (ll_s (ll_s (ll_s ll_e)))) (rX12_codeAt_b29 hd ih hk hq e)
def fX12_codeAt (N : Nat) (h : iv_H) (q0 : Nat) (x1 : Int32) : Option (Int32 × iv_H) := (fX12_codeAt_l4 N q0 x1 (fun (h_7664 : iv_H) => (some ((-1 : Int32), h_7664))) N h (0 : Int32) (0 : Int32))
set_option maxRecDepth 10000 in
set_option maxHeartbeats 4000000 in
theorem rX12_codeAt {d N : Nat} (hd : 9 ≤ d) {h : iv_H} {q0 : Nat} {x1 : Int32} {r : Int32 × iv_H} {Q : Option Value → iv_H → Prop} (e : fX12_codeAt N h q0 x1 = some r) (hq : Q (some (.int r.1)) r.2) : Cl d 262 [.ref q0, .int x1] h Q := by
  obtain ⟨d, rfl⟩ : ∃ k, d = k + 1 := ⟨d - 1, by omega⟩
  have hd : 8 ≤ d := by omega
  have hT := hX12_codeAt
  unfold fX12_codeAt at e
  refine Cl.into (by decide) gX12_codeAt rfl ?_
  show Rn d 262 (some .int) 0 [some (.ref q0), some (.int x1), none, none] [] h Q
  refine Rn.n hT 4 (pc' := 4) (L' := [some (.ref q0), some (.int x1), some (.int (0 : Int32)), some (.int (0 : Int32))]) (st' := []) rfl ?_
  refine Rn.weak (ll_s (ll_s (ll_s (ll_s ll_e)))) (rX12_codeAt_l4 hd (fun h_7664 e => ?_) hq N h (0 : Int32) (0 : Int32) e)
  try dsimp only at e
  refine Rn.n hT 1 (pc' := 36) (L' := [none, none, none, none]) (st' := [.int (-1 : Int32)]) rfl ?_
  obtain rfl := Option.some.inj e
  exact Rn.ret hT rfl rfl rfl hq
set_option maxRecDepth 10000 in
theorem hX12_does : iv_Tb 263 tX12_does := iv_tb_of (m := mX12_does) rfl
set_option maxRecDepth 10000 in
theorem gX12_does : PG.2 263 = some mX12_does := iv_pi_of (t := tX12_does) rfl (by decide)
def fX12_does (N : Nat) (h : iv_H) (q0 : Nat) (x1 : Int32) : Option (iv_H) := ((fX12_kindOf N h x1).bind fun v_7674 => ((fX12_roomOf N h x1).bind fun v_7676 => ((fX12_otherOf N h x1).bind fun v_7678 => ((cko h q0 12).bind fun _ => (fX12_walks N h q0 v_7674 v_7676 v_7678).bind fun h_7682 => some h_7682))))
set_option maxRecDepth 10000 in
set_option maxHeartbeats 4000000 in
theorem rX12_does {d N : Nat} (hd : 5 ≤ d) {h : iv_H} {q0 : Nat} {x1 : Int32} {r : iv_H} {Q : Option Value → iv_H → Prop} (e : fX12_does N h q0 x1 = some r) (hq : Q none r) : Cl d 263 [.ref q0, .int x1] h Q := by
  obtain ⟨d, rfl⟩ : ∃ k, d = k + 1 := ⟨d - 1, by omega⟩
  have hd : 4 ≤ d := by omega
  have hT := hX12_does
  unfold fX12_does at e
  refine Cl.into (by decide) gX12_does rfl ?_
  show Rn d 263 none 0 [some (.ref q0), some (.int x1)] [] h Q
  refine Rn.n hT 2 (pc' := 2) (L' := [some (.ref q0), some (.int x1)]) (st' := [.int x1, .ref q0]) rfl ?_
  obtain ⟨v_7674, e_7673, e⟩ := Option.bind_eq_some_iff.mp e
  refine Rn.call hT rfl rfl rfl (Nat.le_of_ble_eq_true rfl) rfl (rX12_kindOf (by omega) e_7673 ?_)
  show Rn d _ _ 5 [some (.ref q0), some (.int x1)] [.int v_7674, .ref q0] h Q
  refine Rn.n hT 1 (pc' := 6) (L' := [some (.ref q0), some (.int x1)]) (st' := [.int x1, .int v_7674, .ref q0]) rfl ?_
  obtain ⟨v_7676, e_7675, e⟩ := Option.bind_eq_some_iff.mp e
  refine Rn.call hT rfl rfl rfl (Nat.le_of_ble_eq_true rfl) rfl (rX12_roomOf (by omega) e_7675 ?_)
  show Rn d _ _ 9 [some (.ref q0), some (.int x1)] [.int v_7676, .int v_7674, .ref q0] h Q
  refine Rn.n hT 1 (pc' := 10) (L' := [some (.ref q0), some (.int x1)]) (st' := [.int x1, .int v_7676, .int v_7674, .ref q0]) rfl ?_
  obtain ⟨v_7678, e_7677, e⟩ := Option.bind_eq_some_iff.mp e
  refine Rn.call hT rfl rfl rfl (Nat.le_of_ble_eq_true rfl) rfl (rX12_otherOf (by omega) e_7677 ?_)
  show Rn d _ _ 13 [some (.ref q0), some (.int x1)] [.int v_7678, .int v_7676, .int v_7674, .ref q0] h Q
  obtain ⟨_, e_7680, e⟩ := Option.bind_eq_some_iff.mp e
  obtain ⟨h_7682, e_7679, e⟩ := Option.bind_eq_some_iff.mp e
  refine Rn.call hT rfl rfl rfl (Nat.le_of_ble_eq_true rfl) (rcv_v gX12_walks (by omega) e_7680) (rX12_walks (by omega) e_7679 ?_)
  show Rn d _ _ 16 [some (.ref q0), some (.int x1)] [] h_7682 Q
  obtain rfl := Option.some.inj e
  exact Rn.ret hT rfl rfl rfl hq
set_option maxRecDepth 10000 in
theorem hX12_doesBack : iv_Tb 264 tX12_doesBack := iv_tb_of (m := mX12_doesBack) rfl
set_option maxRecDepth 10000 in
theorem gX12_doesBack : PG.2 264 = some mX12_doesBack := iv_pi_of (t := tX12_doesBack) rfl (by decide)
def fX12_doesBack (N : Nat) (h : iv_H) (q0 : Nat) (x1 : Int32) : Option (iv_H) := ((fX12_kindOf N h x1).bind fun v_7684 => ((fX12_roomOf N h x1).bind fun v_7686 => ((fX12_otherOf N h x1).bind fun v_7688 => ((cko h q0 12).bind fun _ => (fX12_walksBack N h q0 v_7684 v_7686 v_7688).bind fun h_7692 => some h_7692))))
set_option maxRecDepth 10000 in
set_option maxHeartbeats 4000000 in
theorem rX12_doesBack {d N : Nat} (hd : 5 ≤ d) {h : iv_H} {q0 : Nat} {x1 : Int32} {r : iv_H} {Q : Option Value → iv_H → Prop} (e : fX12_doesBack N h q0 x1 = some r) (hq : Q none r) : Cl d 264 [.ref q0, .int x1] h Q := by
  obtain ⟨d, rfl⟩ : ∃ k, d = k + 1 := ⟨d - 1, by omega⟩
  have hd : 4 ≤ d := by omega
  have hT := hX12_doesBack
  unfold fX12_doesBack at e
  refine Cl.into (by decide) gX12_doesBack rfl ?_
  show Rn d 264 none 0 [some (.ref q0), some (.int x1)] [] h Q
  refine Rn.n hT 2 (pc' := 2) (L' := [some (.ref q0), some (.int x1)]) (st' := [.int x1, .ref q0]) rfl ?_
  obtain ⟨v_7684, e_7683, e⟩ := Option.bind_eq_some_iff.mp e
  refine Rn.call hT rfl rfl rfl (Nat.le_of_ble_eq_true rfl) rfl (rX12_kindOf (by omega) e_7683 ?_)
  show Rn d _ _ 5 [some (.ref q0), some (.int x1)] [.int v_7684, .ref q0] h Q
  refine Rn.n hT 1 (pc' := 6) (L' := [some (.ref q0), some (.int x1)]) (st' := [.int x1, .int v_7684, .ref q0]) rfl ?_
  obtain ⟨v_7686, e_7685, e⟩ := Option.bind_eq_some_iff.mp e
  refine Rn.call hT rfl rfl rfl (Nat.le_of_ble_eq_true rfl) rfl (rX12_roomOf (by omega) e_7685 ?_)
  show Rn d _ _ 9 [some (.ref q0), some (.int x1)] [.int v_7686, .int v_7684, .ref q0] h Q
  refine Rn.n hT 1 (pc' := 10) (L' := [some (.ref q0), some (.int x1)]) (st' := [.int x1, .int v_7686, .int v_7684, .ref q0]) rfl ?_
  obtain ⟨v_7688, e_7687, e⟩ := Option.bind_eq_some_iff.mp e
  refine Rn.call hT rfl rfl rfl (Nat.le_of_ble_eq_true rfl) rfl (rX12_otherOf (by omega) e_7687 ?_)
  show Rn d _ _ 13 [some (.ref q0), some (.int x1)] [.int v_7688, .int v_7686, .int v_7684, .ref q0] h Q
  obtain ⟨_, e_7690, e⟩ := Option.bind_eq_some_iff.mp e
  obtain ⟨h_7692, e_7689, e⟩ := Option.bind_eq_some_iff.mp e
  refine Rn.call hT rfl rfl rfl (Nat.le_of_ble_eq_true rfl) (rcv_v gX12_walksBack (by omega) e_7690) (rX12_walksBack (by omega) e_7689 ?_)
  show Rn d _ _ 16 [some (.ref q0), some (.int x1)] [] h_7692 Q
  obtain rfl := Option.some.inj e
  exact Rn.ret hT rfl rfl rfl hq
set_option maxRecDepth 10000 in
theorem hX12_part : iv_Tb 265 tX12_part := iv_tb_of (m := mX12_part) rfl
set_option maxRecDepth 10000 in
theorem gX12_part : PG.2 265 = some mX12_part := iv_pi_of (t := tX12_part) rfl (by decide)
def fX12_part_b27 (N : Nat) (h : iv_H)  (s0 : Int32) : Option (Int32) := (some s0)
set_option maxRecDepth 10000 in
set_option maxHeartbeats 4000000 in
theorem rX12_part_b27 {d N : Nat} (hd : 1 ≤ d) {h : iv_H}  {s0 : Int32} {r : Int32} {Q : Option Value → iv_H → Prop} (hq : Q (some (.int r)) h) (e : fX12_part_b27 N h  s0 = some r) : Rn d 265 (some .int) 27 [none, none] [.int s0] h Q := by
  have hT := hX12_part
  unfold fX12_part_b27 at e
  obtain rfl := Option.some.inj e
  exact Rn.ret hT rfl rfl rfl hq
def fX12_part (N : Nat) (h : iv_H) (x0 : Int32) (x1 : Int32) : Option (Int32) := (if x1 = 0 then ((fX12_kindOf N h x0).bind fun v_7700 => (fX12_part_b27 N h v_7700)) else (if x1 = (1 : Int32) then ((fX12_roomOf N h x0).bind fun v_7698 => (fX12_part_b27 N h v_7698)) else ((fX12_otherOf N h x0).bind fun v_7696 => (fX12_part_b27 N h v_7696))))
set_option maxRecDepth 10000 in
set_option maxHeartbeats 4000000 in
theorem rX12_part {d N : Nat} (hd : 2 ≤ d) {h : iv_H} {x0 : Int32} {x1 : Int32} {r : Int32} {Q : Option Value → iv_H → Prop} (e : fX12_part N h x0 x1 = some r) (hq : Q (some (.int r)) h) : Cl d 265 [.int x0, .int x1] h Q := by
  obtain ⟨d, rfl⟩ : ∃ k, d = k + 1 := ⟨d - 1, by omega⟩
  have hd : 1 ≤ d := by omega
  have hT := hX12_part
  unfold fX12_part at e
  refine Cl.into (by decide) gX12_part rfl ?_
  show Rn d 265 (some .int) 0 [some (.int x0), some (.int x1)] [] h Q
  refine Rn.n hT 1 (pc' := 1) (L' := [some (.int x0), some (.int x1)]) (st' := [.int x1]) rfl ?_
  by_cases c_7693 : x1 = 0
  · rw [if_pos c_7693] at e
    refine Rn.bf hT rfl rfl rfl (decide_eq_false (fun z => z c_7693)) ?_
    refine Rn.n hT 1 (pc' := 5) (L' := [some (.int x0), some (.int x1)]) (st' := [.int x0]) rfl ?_
    obtain ⟨v_7700, e_7699, e⟩ := Option.bind_eq_some_iff.mp e
    refine Rn.call hT rfl rfl rfl (Nat.le_of_ble_eq_true rfl) rfl (rX12_kindOf (by omega) e_7699 ?_)
    show Rn d _ _ 8 [some (.int x0), some (.int x1)] [.int v_7700] h Q
    refine Rn.n hT 1 (pc' := 27) (L' := [some (.int x0), some (.int x1)]) (st' := [.int v_7700]) rfl ?_
    exact Rn.weak (ll_n (ll_n ll_e)) (rX12_part_b27 hd hq e)
  · rw [if_neg c_7693] at e
    refine Rn.bt hT rfl rfl rfl (decide_eq_true c_7693) ?_
    refine Rn.n hT 2 (pc' := 13) (L' := [some (.int x0), some (.int x1)]) (st' := [.int (1 : Int32), .int x1]) rfl ?_
    by_cases c_7694 : x1 = (1 : Int32)
    · rw [if_pos c_7694] at e
      refine Rn.bf hT rfl rfl rfl (decide_eq_false (fun z => z c_7694)) ?_
      refine Rn.n hT 1 (pc' := 17) (L' := [some (.int x0), some (.int x1)]) (st' := [.int x0]) rfl ?_
      obtain ⟨v_7698, e_7697, e⟩ := Option.bind_eq_some_iff.mp e
      refine Rn.call hT rfl rfl rfl (Nat.le_of_ble_eq_true rfl) rfl (rX12_roomOf (by omega) e_7697 ?_)
      show Rn d _ _ 20 [some (.int x0), some (.int x1)] [.int v_7698] h Q
      refine Rn.n hT 1 (pc' := 27) (L' := [some (.int x0), some (.int x1)]) (st' := [.int v_7698]) rfl ?_
      exact Rn.weak (ll_n (ll_n ll_e)) (rX12_part_b27 hd hq e)
    · rw [if_neg c_7694] at e
      refine Rn.bt hT rfl rfl rfl (decide_eq_true c_7694) ?_
      refine Rn.n hT 1 (pc' := 24) (L' := [some (.int x0), some (.int x1)]) (st' := [.int x0]) rfl ?_
      obtain ⟨v_7696, e_7695, e⟩ := Option.bind_eq_some_iff.mp e
      refine Rn.call hT rfl rfl rfl (Nat.le_of_ble_eq_true rfl) rfl (rX12_otherOf (by omega) e_7695 ?_)
      show Rn d _ _ 27 [some (.int x0), some (.int x1)] [.int v_7696] h Q
      exact Rn.weak (ll_n (ll_n ll_e)) (rX12_part_b27 hd hq e)
set_option maxRecDepth 10000 in
theorem hX12_keysIn : iv_Tb 266 tX12_keysIn := iv_tb_of (m := mX12_keysIn) rfl
set_option maxRecDepth 10000 in
theorem gX12_keysIn : PG.2 266 = some mX12_keysIn := iv_pi_of (t := tX12_keysIn) rfl (by decide)
def fX12_keysIn_b27 (N : Nat) (h : iv_H) (q0 : Nat) (x1 : Int32) (x3 : Int32) (s0 : Int32) (s1 : Int32) (kb : Int32 → Int32 → Option (Int32)) (kx : Int32 → Option (Int32)) : Option (Int32) := (kb (s1 ||| s0) (x3 + (1 : Int32)))
set_option maxRecDepth 10000 in
set_option maxHeartbeats 4000000 in
theorem rX12_keysIn_b27 {d N : Nat} (hd : 0 ≤ d) {h : iv_H} {q0 : Nat} {x1 : Int32} {x3 : Int32} {s0 : Int32} {s1 : Int32} {kb : Int32 → Int32 → Option (Int32)} {kx : Int32 → Option (Int32)} {r : Int32} {Q : Option Value → iv_H → Prop} (hb : ∀ (w2 : Int32) (w3 : Int32), kb w2 w3 = some r → Rn d 266 (some .int) 4 [some (.ref q0), some (.int x1), some (.int w2), some (.int w3)] [] h Q) (hk : ∀ (w2 : Int32), kx w2 = some r → Rn d 266 (some .int) 35 [none, none, some (.int w2), none] [] h Q) (hq : Q (some (.int r)) h) (e : fX12_keysIn_b27 N h q0 x1 x3 s0 s1 kb kx = some r) : Rn d 266 (some .int) 27 [some (.ref q0), some (.int x1), none, some (.int x3)] [.int s0, .int s1] h Q := by
  have hT := hX12_keysIn
  unfold fX12_keysIn_b27 at e
  refine Rn.n hT 4 (pc' := 4) (L' := [some (.ref q0), some (.int x1), some (.int (s1 ||| s0)), some (.int (x3 + (1 : Int32)))]) (st' := []) rfl ?_
  exact Rn.weak (ll_s (ll_s (ll_s (ll_s ll_e)))) (hb (s1 ||| s0) (x3 + (1 : Int32)) e)
def fX12_keysIn_l4 (N : Nat) (h : iv_H) (q0 : Nat) (x1 : Int32) (kx : Int32 → Option (Int32)) : Nat → Int32 → Int32 → Option (Int32)
  | 0, _, _ => none
  | n + 1, x2, x3 => (if (4 : Int32) ≤ x3 then (kx x2) else ((gR h 12 6 q0).bind fun v_7703 => ((aI h v_7703 x3).bind fun v_7705 => (if v_7705 = x1 then (fX12_keysIn_b27 N h q0 x1 x3 ((2 : Int32) <<< (x3 &&& 31)) x2 (fX12_keysIn_l4 N h q0 x1 kx n) kx) else (fX12_keysIn_b27 N h q0 x1 x3 (0 : Int32) x2 (fX12_keysIn_l4 N h q0 x1 kx n) kx)))))
set_option maxRecDepth 10000 in
set_option maxHeartbeats 4000000 in
theorem rX12_keysIn_l4 {d N : Nat} (hd : 0 ≤ d) {h : iv_H} {q0 : Nat} {x1 : Int32} {kx : Int32 → Option (Int32)} {r : Int32} {Q : Option Value → iv_H → Prop} (hk : ∀ (x2 : Int32), kx x2 = some r → Rn d 266 (some .int) 35 [none, none, some (.int x2), none] [] h Q) (hq : Q (some (.int r)) h) : ∀ (n : Nat) (x2 : Int32) (x3 : Int32), fX12_keysIn_l4 N h q0 x1 kx n x2 x3 = some r → Rn d 266 (some .int) 4 [some (.ref q0), some (.int x1), some (.int x2), some (.int x3)] [] h Q := by
  have hT := hX12_keysIn
  intro n
  induction n with
  | zero =>
    intro x2 x3 e
    rw [fX12_keysIn_l4] at e
    cases e
  | succ n ih =>
    intro x2 x3 e
    rw [fX12_keysIn_l4] at e
    refine Rn.n hT 2 (pc' := 6) (L' := [some (.ref q0), some (.int x1), some (.int x2), some (.int x3)]) (st' := [.int (4 : Int32), .int x3]) rfl ?_
    by_cases c_7702 : (4 : Int32) ≤ x3
    · rw [if_pos c_7702] at e
      refine Rn.bt hT rfl rfl rfl (decide_eq_true c_7702) ?_
      exact Rn.weak (ll_n (ll_n (ll_s (ll_n ll_e)))) (hk x2 e)
    · rw [if_neg c_7702] at e
      refine Rn.bf hT rfl rfl rfl (decide_eq_false c_7702) ?_
      refine Rn.n hT 2 (pc' := 11) (L' := [some (.ref q0), some (.int x1), some (.int x2), some (.int x3)]) (st' := [.ref q0, .int x2]) rfl ?_
      obtain ⟨v_7703, e_7704, e⟩ := Option.bind_eq_some_iff.mp e
      refine Rn.hp hT rfl rfl (gR_hp e_7704) ?_
      refine Rn.n hT 1 (pc' := 15) (L' := [some (.ref q0), some (.int x1), some (.int x2), some (.int x3)]) (st' := [.int x3, .ref v_7703, .int x2]) rfl ?_
      obtain ⟨v_7705, e_7706, e⟩ := Option.bind_eq_some_iff.mp e
      refine Rn.hp hT rfl rfl (aI_hp e_7706) ?_
      refine Rn.n hT 1 (pc' := 17) (L' := [some (.ref q0), some (.int x1), some (.int x2), some (.int x3)]) (st' := [.int x1, .int v_7705, .int x2]) rfl ?_
      by_cases c_7707 : v_7705 = x1
      · rw [if_pos c_7707] at e
        refine Rn.bf hT rfl rfl rfl (decide_eq_false (fun z => z c_7707)) ?_
        refine Rn.n hT 4 (pc' := 27) (L' := [some (.ref q0), some (.int x1), some (.int x2), some (.int x3)]) (st' := [.int ((2 : Int32) <<< (x3 &&& 31)), .int x2]) rfl ?_
        exact Rn.weak (ll_s (ll_s (ll_n (ll_s ll_e)))) (rX12_keysIn_b27 hd ih hk hq e)
      · rw [if_neg c_7707] at e
        refine Rn.bt hT rfl rfl rfl (decide_eq_true c_7707) ?_
        refine Rn.n hT 1 (pc' := 27) (L' := [some (.ref q0), some (.int x1), some (.int x2), some (.int x3)]) (st' := [.int (0 : Int32), .int x2]) rfl ?_
        exact Rn.weak (ll_s (ll_s (ll_n (ll_s ll_e)))) (rX12_keysIn_b27 hd ih hk hq e)
def fX12_keysIn (N : Nat) (h : iv_H) (q0 : Nat) (x1 : Int32) : Option (Int32) := (fX12_keysIn_l4 N h q0 x1 (fun (z_7701 : Int32) => (some z_7701)) N (0 : Int32) (0 : Int32))
set_option maxRecDepth 10000 in
set_option maxHeartbeats 4000000 in
theorem rX12_keysIn {d N : Nat} (hd : 1 ≤ d) {h : iv_H} {q0 : Nat} {x1 : Int32} {r : Int32} {Q : Option Value → iv_H → Prop} (e : fX12_keysIn N h q0 x1 = some r) (hq : Q (some (.int r)) h) : Cl d 266 [.ref q0, .int x1] h Q := by
  obtain ⟨d, rfl⟩ : ∃ k, d = k + 1 := ⟨d - 1, by omega⟩
  have hd : 0 ≤ d := by omega
  have hT := hX12_keysIn
  unfold fX12_keysIn at e
  refine Cl.into (by decide) gX12_keysIn rfl ?_
  show Rn d 266 (some .int) 0 [some (.ref q0), some (.int x1), none, none] [] h Q
  refine Rn.n hT 4 (pc' := 4) (L' := [some (.ref q0), some (.int x1), some (.int (0 : Int32)), some (.int (0 : Int32))]) (st' := []) rfl ?_
  refine Rn.weak (ll_s (ll_s (ll_s (ll_s ll_e)))) (rX12_keysIn_l4 hd (fun z_7701 e => ?_) hq N (0 : Int32) (0 : Int32) e)
  try dsimp only at e
  refine Rn.n hT 1 (pc' := 36) (L' := [none, none, some (.int z_7701), none]) (st' := [.int z_7701]) rfl ?_
  obtain rfl := Option.some.inj e
  exact Rn.ret hT rfl rfl rfl hq
set_option maxRecDepth 10000 in
theorem hX12_room : iv_Tb 267 tX12_room := iv_tb_of (m := mX12_room) rfl
set_option maxRecDepth 10000 in
theorem gX12_room : PG.2 267 = some mX12_room := iv_pi_of (t := tX12_room) rfl (by decide)
def fX12_room (N : Nat) (h : iv_H) (q0 : Nat) (x1 : Int32) (x2 : Int32) : Option (Int32) := ((cko h q0 12).bind fun _ => (fX12_isRoom N h q0 x1).bind fun v_7710 => (if v_7710 = 0 then (some (-1 : Int32)) else (if x2 = (0 : Int32) then ((gR h 12 3 q0).bind fun v_7713 => ((aI h v_7713 x1).bind fun v_7715 => (some v_7715))) else (if x2 = (1 : Int32) then ((gR h 12 4 q0).bind fun v_7718 => ((aI h v_7718 x1).bind fun v_7720 => (some v_7720))) else (if x2 = (2 : Int32) then ((cko h q0 12).bind fun _ => (fX12_sideOf N h q0 x1 (x2 - (2 : Int32))).bind fun v_7725 => (some v_7725)) else (if x2 = (3 : Int32) then ((cko h q0 12).bind fun _ => (fX12_sideOf N h q0 x1 (x2 - (2 : Int32))).bind fun v_7729 => (some v_7729)) else (if x2 = (4 : Int32) then ((cko h q0 12).bind fun _ => (fX12_sideOf N h q0 x1 (x2 - (2 : Int32))).bind fun v_7733 => (some v_7733)) else (if x2 = (5 : Int32) then ((cko h q0 12).bind fun _ => (fX12_sideOf N h q0 x1 (x2 - (2 : Int32))).bind fun v_7737 => (some v_7737)) else (if x2 = (6 : Int32) then ((gR h 12 5 q0).bind fun v_7739 => ((aI h v_7739 x1).bind fun v_7741 => (some v_7741))) else (if x2 = (7 : Int32) then ((cko h q0 12).bind fun _ => (fX12_keysIn N h q0 x1).bind fun v_7746 => (some v_7746)) else (if x2 = (8 : Int32) then ((cko h q0 12).bind fun _ => (fX12_sleepers N h q0 x1).bind fun v_7750 => (some v_7750)) else (some (-1 : Int32)))))))))))))
set_option maxRecDepth 10000 in
set_option maxHeartbeats 4000000 in
theorem rX12_room {d N : Nat} (hd : 3 ≤ d) {h : iv_H} {q0 : Nat} {x1 : Int32} {x2 : Int32} {r : Int32} {Q : Option Value → iv_H → Prop} (e : fX12_room N h q0 x1 x2 = some r) (hq : Q (some (.int r)) h) : Cl d 267 [.ref q0, .int x1, .int x2] h Q := by
  obtain ⟨d, rfl⟩ : ∃ k, d = k + 1 := ⟨d - 1, by omega⟩
  have hd : 2 ≤ d := by omega
  have hT := hX12_room
  unfold fX12_room at e
  refine Cl.into (by decide) gX12_room rfl ?_
  show Rn d 267 (some .int) 0 [some (.ref q0), some (.int x1), some (.int x2)] [] h Q
  refine Rn.n hT 2 (pc' := 2) (L' := [some (.ref q0), some (.int x1), some (.int x2)]) (st' := [.int x1, .ref q0]) rfl ?_
  obtain ⟨_, e_7709, e⟩ := Option.bind_eq_some_iff.mp e
  obtain ⟨v_7710, e_7708, e⟩ := Option.bind_eq_some_iff.mp e
  refine Rn.call hT rfl rfl rfl (Nat.le_of_ble_eq_true rfl) (rcv_v gX12_isRoom (by omega) e_7709) (rX12_isRoom (by omega) e_7708 ?_)
  show Rn d _ _ 5 [some (.ref q0), some (.int x1), some (.int x2)] [.int v_7710] h Q
  by_cases c_7711 : v_7710 = 0
  · rw [if_pos c_7711] at e
    refine Rn.bf hT rfl rfl rfl (decide_eq_false (fun z => z c_7711)) ?_
    refine Rn.n hT 1 (pc' := 9) (L' := [some (.ref q0), some (.int x1), some (.int x2)]) (st' := [.int (-1 : Int32)]) rfl ?_
    obtain rfl := Option.some.inj e
    exact Rn.ret hT rfl rfl rfl hq
  · rw [if_neg c_7711] at e
    refine Rn.bt hT rfl rfl rfl (decide_eq_true c_7711) ?_
    refine Rn.n hT 1 (pc' := 11) (L' := [some (.ref q0), some (.int x1), some (.int x2)]) (st' := [.int x2]) rfl ?_
    by_cases c_7712 : x2 = (0 : Int32)
    · rw [if_pos c_7712] at e
      refine Rn.sw2 hT rfl rfl rfl (if_pos c_7712) ?_
      refine Rn.n hT 1 (pc' := 61) (L' := [some (.ref q0), some (.int x1), some (.int x2)]) (st' := [.ref q0]) rfl ?_
      obtain ⟨v_7713, e_7714, e⟩ := Option.bind_eq_some_iff.mp e
      refine Rn.hp hT rfl rfl (gR_hp e_7714) ?_
      refine Rn.n hT 1 (pc' := 65) (L' := [some (.ref q0), some (.int x1), some (.int x2)]) (st' := [.int x1, .ref v_7713]) rfl ?_
      obtain ⟨v_7715, e_7716, e⟩ := Option.bind_eq_some_iff.mp e
      refine Rn.hp hT rfl rfl (aI_hp e_7716) ?_
      obtain rfl := Option.some.inj e
      exact Rn.ret hT rfl rfl rfl hq
    · rw [if_neg c_7712] at e
      by_cases c_7717 : x2 = (1 : Int32)
      · rw [if_pos c_7717] at e
        refine Rn.sw2 hT rfl rfl rfl ((if_neg c_7712).trans (if_pos c_7717)) ?_
        refine Rn.n hT 1 (pc' := 68) (L' := [some (.ref q0), some (.int x1), some (.int x2)]) (st' := [.ref q0]) rfl ?_
        obtain ⟨v_7718, e_7719, e⟩ := Option.bind_eq_some_iff.mp e
        refine Rn.hp hT rfl rfl (gR_hp e_7719) ?_
        refine Rn.n hT 1 (pc' := 72) (L' := [some (.ref q0), some (.int x1), some (.int x2)]) (st' := [.int x1, .ref v_7718]) rfl ?_
        obtain ⟨v_7720, e_7721, e⟩ := Option.bind_eq_some_iff.mp e
        refine Rn.hp hT rfl rfl (aI_hp e_7721) ?_
        obtain rfl := Option.some.inj e
        exact Rn.ret hT rfl rfl rfl hq
      · rw [if_neg c_7717] at e
        by_cases c_7722 : x2 = (2 : Int32)
        · rw [if_pos c_7722] at e
          refine Rn.sw2 hT rfl rfl rfl ((if_neg c_7712).trans ((if_neg c_7717).trans (if_pos c_7722))) ?_
          refine Rn.n hT 5 (pc' := 79) (L' := [some (.ref q0), some (.int x1), some (.int x2)]) (st' := [.int (x2 - (2 : Int32)), .int x1, .ref q0]) rfl ?_
          obtain ⟨_, e_7724, e⟩ := Option.bind_eq_some_iff.mp e
          obtain ⟨v_7725, e_7723, e⟩ := Option.bind_eq_some_iff.mp e
          refine Rn.call hT rfl rfl rfl (Nat.le_of_ble_eq_true rfl) (rcv_v gX12_sideOf (by omega) e_7724) (rX12_sideOf (by omega) e_7723 ?_)
          show Rn d _ _ 82 [some (.ref q0), some (.int x1), some (.int x2)] [.int v_7725] h Q
          obtain rfl := Option.some.inj e
          exact Rn.ret hT rfl rfl rfl hq
        · rw [if_neg c_7722] at e
          by_cases c_7726 : x2 = (3 : Int32)
          · rw [if_pos c_7726] at e
            refine Rn.sw2 hT rfl rfl rfl ((if_neg c_7712).trans ((if_neg c_7717).trans ((if_neg c_7722).trans (if_pos c_7726)))) ?_
            refine Rn.n hT 5 (pc' := 79) (L' := [some (.ref q0), some (.int x1), some (.int x2)]) (st' := [.int (x2 - (2 : Int32)), .int x1, .ref q0]) rfl ?_
            obtain ⟨_, e_7728, e⟩ := Option.bind_eq_some_iff.mp e
            obtain ⟨v_7729, e_7727, e⟩ := Option.bind_eq_some_iff.mp e
            refine Rn.call hT rfl rfl rfl (Nat.le_of_ble_eq_true rfl) (rcv_v gX12_sideOf (by omega) e_7728) (rX12_sideOf (by omega) e_7727 ?_)
            show Rn d _ _ 82 [some (.ref q0), some (.int x1), some (.int x2)] [.int v_7729] h Q
            obtain rfl := Option.some.inj e
            exact Rn.ret hT rfl rfl rfl hq
          · rw [if_neg c_7726] at e
            by_cases c_7730 : x2 = (4 : Int32)
            · rw [if_pos c_7730] at e
              refine Rn.sw2 hT rfl rfl rfl ((if_neg c_7712).trans ((if_neg c_7717).trans ((if_neg c_7722).trans ((if_neg c_7726).trans (if_pos c_7730))))) ?_
              refine Rn.n hT 5 (pc' := 79) (L' := [some (.ref q0), some (.int x1), some (.int x2)]) (st' := [.int (x2 - (2 : Int32)), .int x1, .ref q0]) rfl ?_
              obtain ⟨_, e_7732, e⟩ := Option.bind_eq_some_iff.mp e
              obtain ⟨v_7733, e_7731, e⟩ := Option.bind_eq_some_iff.mp e
              refine Rn.call hT rfl rfl rfl (Nat.le_of_ble_eq_true rfl) (rcv_v gX12_sideOf (by omega) e_7732) (rX12_sideOf (by omega) e_7731 ?_)
              show Rn d _ _ 82 [some (.ref q0), some (.int x1), some (.int x2)] [.int v_7733] h Q
              obtain rfl := Option.some.inj e
              exact Rn.ret hT rfl rfl rfl hq
            · rw [if_neg c_7730] at e
              by_cases c_7734 : x2 = (5 : Int32)
              · rw [if_pos c_7734] at e
                refine Rn.sw2 hT rfl rfl rfl ((if_neg c_7712).trans ((if_neg c_7717).trans ((if_neg c_7722).trans ((if_neg c_7726).trans ((if_neg c_7730).trans (if_pos c_7734)))))) ?_
                refine Rn.n hT 5 (pc' := 79) (L' := [some (.ref q0), some (.int x1), some (.int x2)]) (st' := [.int (x2 - (2 : Int32)), .int x1, .ref q0]) rfl ?_
                obtain ⟨_, e_7736, e⟩ := Option.bind_eq_some_iff.mp e
                obtain ⟨v_7737, e_7735, e⟩ := Option.bind_eq_some_iff.mp e
                refine Rn.call hT rfl rfl rfl (Nat.le_of_ble_eq_true rfl) (rcv_v gX12_sideOf (by omega) e_7736) (rX12_sideOf (by omega) e_7735 ?_)
                show Rn d _ _ 82 [some (.ref q0), some (.int x1), some (.int x2)] [.int v_7737] h Q
                obtain rfl := Option.some.inj e
                exact Rn.ret hT rfl rfl rfl hq
              · rw [if_neg c_7734] at e
                by_cases c_7738 : x2 = (6 : Int32)
                · rw [if_pos c_7738] at e
                  refine Rn.sw2 hT rfl rfl rfl ((if_neg c_7712).trans ((if_neg c_7717).trans ((if_neg c_7722).trans ((if_neg c_7726).trans ((if_neg c_7730).trans ((if_neg c_7734).trans (if_pos c_7738))))))) ?_
                  refine Rn.n hT 1 (pc' := 84) (L' := [some (.ref q0), some (.int x1), some (.int x2)]) (st' := [.ref q0]) rfl ?_
                  obtain ⟨v_7739, e_7740, e⟩ := Option.bind_eq_some_iff.mp e
                  refine Rn.hp hT rfl rfl (gR_hp e_7740) ?_
                  refine Rn.n hT 1 (pc' := 88) (L' := [some (.ref q0), some (.int x1), some (.int x2)]) (st' := [.int x1, .ref v_7739]) rfl ?_
                  obtain ⟨v_7741, e_7742, e⟩ := Option.bind_eq_some_iff.mp e
                  refine Rn.hp hT rfl rfl (aI_hp e_7742) ?_
                  obtain rfl := Option.some.inj e
                  exact Rn.ret hT rfl rfl rfl hq
                · rw [if_neg c_7738] at e
                  by_cases c_7743 : x2 = (7 : Int32)
                  · rw [if_pos c_7743] at e
                    refine Rn.sw2 hT rfl rfl rfl ((if_neg c_7712).trans ((if_neg c_7717).trans ((if_neg c_7722).trans ((if_neg c_7726).trans ((if_neg c_7730).trans ((if_neg c_7734).trans ((if_neg c_7738).trans (if_pos c_7743)))))))) ?_
                    refine Rn.n hT 2 (pc' := 92) (L' := [some (.ref q0), some (.int x1), some (.int x2)]) (st' := [.int x1, .ref q0]) rfl ?_
                    obtain ⟨_, e_7745, e⟩ := Option.bind_eq_some_iff.mp e
                    obtain ⟨v_7746, e_7744, e⟩ := Option.bind_eq_some_iff.mp e
                    refine Rn.call hT rfl rfl rfl (Nat.le_of_ble_eq_true rfl) (rcv_v gX12_keysIn (by omega) e_7745) (rX12_keysIn (by omega) e_7744 ?_)
                    show Rn d _ _ 95 [some (.ref q0), some (.int x1), some (.int x2)] [.int v_7746] h Q
                    obtain rfl := Option.some.inj e
                    exact Rn.ret hT rfl rfl rfl hq
                  · rw [if_neg c_7743] at e
                    by_cases c_7747 : x2 = (8 : Int32)
                    · rw [if_pos c_7747] at e
                      refine Rn.sw2 hT rfl rfl rfl ((if_neg c_7712).trans ((if_neg c_7717).trans ((if_neg c_7722).trans ((if_neg c_7726).trans ((if_neg c_7730).trans ((if_neg c_7734).trans ((if_neg c_7738).trans ((if_neg c_7743).trans (if_pos c_7747))))))))) ?_
                      refine Rn.n hT 2 (pc' := 98) (L' := [some (.ref q0), some (.int x1), some (.int x2)]) (st' := [.int x1, .ref q0]) rfl ?_
                      obtain ⟨_, e_7749, e⟩ := Option.bind_eq_some_iff.mp e
                      obtain ⟨v_7750, e_7748, e⟩ := Option.bind_eq_some_iff.mp e
                      refine Rn.call hT rfl rfl rfl (Nat.le_of_ble_eq_true rfl) (rcv_v gX12_sleepers (by omega) e_7749) (rX12_sleepers (by omega) e_7748 ?_)
                      show Rn d _ _ 101 [some (.ref q0), some (.int x1), some (.int x2)] [.int v_7750] h Q
                      obtain rfl := Option.some.inj e
                      exact Rn.ret hT rfl rfl rfl hq
                    · rw [if_neg c_7747] at e
                      refine Rn.sw2 hT rfl rfl rfl ((if_neg c_7712).trans ((if_neg c_7717).trans ((if_neg c_7722).trans ((if_neg c_7726).trans ((if_neg c_7730).trans ((if_neg c_7734).trans ((if_neg c_7738).trans ((if_neg c_7743).trans ((if_neg c_7747).trans rfl))))))))) ?_
                      refine Rn.n hT 1 (pc' := 103) (L' := [some (.ref q0), some (.int x1), some (.int x2)]) (st' := [.int (-1 : Int32)]) rfl ?_
                      obtain rfl := Option.some.inj e
                      exact Rn.ret hT rfl rfl rfl hq
set_option maxRecDepth 10000 in
theorem hX12_at : iv_Tb 268 tX12_at := iv_tb_of (m := mX12_at) rfl
set_option maxRecDepth 10000 in
theorem gX12_at : PG.2 268 = some mX12_at := iv_pi_of (t := tX12_at) rfl (by decide)
def fX12_at_b24 (N : Nat) (h : iv_H)  (s0 : Int32) : Option (Int32) := (some s0)
set_option maxRecDepth 10000 in
set_option maxHeartbeats 4000000 in
theorem rX12_at_b24 {d N : Nat} (hd : 2 ≤ d) {h : iv_H}  {s0 : Int32} {r : Int32} {Q : Option Value → iv_H → Prop} (hq : Q (some (.int r)) h) (e : fX12_at_b24 N h  s0 = some r) : Rn d 268 (some .int) 24 [none, none, none] [.int s0] h Q := by
  have hT := hX12_at
  unfold fX12_at_b24 at e
  obtain rfl := Option.some.inj e
  exact Rn.ret hT rfl rfl rfl hq
def fX12_at (N : Nat) (h : iv_H) (q0 : Nat) (x1 : Int32) (x2 : Int32) : Option (Int32) := ((cko h q0 12).bind fun _ => (fX12_isCell N h q0 x1 x2).bind fun v_7753 => (if v_7753 = 0 then (fX12_at_b24 N h (-2 : Int32)) else ((gR h 12 8 q0).bind fun v_7755 => ((aI h v_7755 (((4 : Int32) * x2) + x1)).bind fun v_7757 => (fX12_at_b24 N h v_7757)))))
set_option maxRecDepth 10000 in
set_option maxHeartbeats 4000000 in
theorem rX12_at {d N : Nat} (hd : 3 ≤ d) {h : iv_H} {q0 : Nat} {x1 : Int32} {x2 : Int32} {r : Int32} {Q : Option Value → iv_H → Prop} (e : fX12_at N h q0 x1 x2 = some r) (hq : Q (some (.int r)) h) : Cl d 268 [.ref q0, .int x1, .int x2] h Q := by
  obtain ⟨d, rfl⟩ : ∃ k, d = k + 1 := ⟨d - 1, by omega⟩
  have hd : 2 ≤ d := by omega
  have hT := hX12_at
  unfold fX12_at at e
  refine Cl.into (by decide) gX12_at rfl ?_
  show Rn d 268 (some .int) 0 [some (.ref q0), some (.int x1), some (.int x2)] [] h Q
  refine Rn.n hT 3 (pc' := 3) (L' := [some (.ref q0), some (.int x1), some (.int x2)]) (st' := [.int x2, .int x1, .ref q0]) rfl ?_
  obtain ⟨_, e_7752, e⟩ := Option.bind_eq_some_iff.mp e
  obtain ⟨v_7753, e_7751, e⟩ := Option.bind_eq_some_iff.mp e
  refine Rn.call hT rfl rfl rfl (Nat.le_of_ble_eq_true rfl) (rcv_v gX12_isCell (by omega) e_7752) (rX12_isCell (by omega) e_7751 ?_)
  show Rn d _ _ 6 [some (.ref q0), some (.int x1), some (.int x2)] [.int v_7753] h Q
  by_cases c_7754 : v_7753 = 0
  · rw [if_pos c_7754] at e
    refine Rn.bt hT rfl rfl rfl (decide_eq_true c_7754) ?_
    refine Rn.n hT 1 (pc' := 24) (L' := [some (.ref q0), some (.int x1), some (.int x2)]) (st' := [.int (-2 : Int32)]) rfl ?_
    exact Rn.weak (ll_n (ll_n (ll_n ll_e))) (rX12_at_b24 hd hq e)
  · rw [if_neg c_7754] at e
    refine Rn.bf hT rfl rfl rfl (decide_eq_false c_7754) ?_
    refine Rn.n hT 1 (pc' := 10) (L' := [some (.ref q0), some (.int x1), some (.int x2)]) (st' := [.ref q0]) rfl ?_
    obtain ⟨v_7755, e_7756, e⟩ := Option.bind_eq_some_iff.mp e
    refine Rn.hp hT rfl rfl (gR_hp e_7756) ?_
    refine Rn.n hT 5 (pc' := 18) (L' := [some (.ref q0), some (.int x1), some (.int x2)]) (st' := [.int (((4 : Int32) * x2) + x1), .ref v_7755]) rfl ?_
    obtain ⟨v_7757, e_7758, e⟩ := Option.bind_eq_some_iff.mp e
    refine Rn.hp hT rfl rfl (aI_hp e_7758) ?_
    refine Rn.n hT 1 (pc' := 24) (L' := [some (.ref q0), some (.int x1), some (.int x2)]) (st' := [.int v_7757]) rfl ?_
    exact Rn.weak (ll_n (ll_n (ll_n ll_e))) (rX12_at_b24 hd hq e)
set_option maxRecDepth 10000 in
theorem hX12_sleeps : iv_Tb 269 tX12_sleeps := iv_tb_of (m := mX12_sleeps) rfl
set_option maxRecDepth 10000 in
theorem gX12_sleeps : PG.2 269 = some mX12_sleeps := iv_pi_of (t := tX12_sleeps) rfl (by decide)
def fX12_sleeps_b18 (N : Nat) (h : iv_H)  (s0 : Int32) : Option (Int32) := (some s0)
set_option maxRecDepth 10000 in
set_option maxHeartbeats 4000000 in
theorem rX12_sleeps_b18 {d N : Nat} (hd : 2 ≤ d) {h : iv_H}  {s0 : Int32} {r : Int32} {Q : Option Value → iv_H → Prop} (hq : Q (some (.int r)) h) (e : fX12_sleeps_b18 N h  s0 = some r) : Rn d 269 (some .int) 18 [none, none] [.int s0] h Q := by
  have hT := hX12_sleeps
  unfold fX12_sleeps_b18 at e
  obtain rfl := Option.some.inj e
  exact Rn.ret hT rfl rfl rfl hq
def fX12_sleeps (N : Nat) (h : iv_H) (q0 : Nat) (x1 : Int32) : Option (Int32) := ((cko h q0 12).bind fun _ => (fX12_isPerson N h q0 x1).bind fun v_7761 => (if v_7761 = 0 then (fX12_sleeps_b18 N h (-1 : Int32)) else ((gR h 12 7 q0).bind fun v_7763 => ((aI h v_7763 x1).bind fun v_7765 => (fX12_sleeps_b18 N h v_7765)))))
set_option maxRecDepth 10000 in
set_option maxHeartbeats 4000000 in
theorem rX12_sleeps {d N : Nat} (hd : 3 ≤ d) {h : iv_H} {q0 : Nat} {x1 : Int32} {r : Int32} {Q : Option Value → iv_H → Prop} (e : fX12_sleeps N h q0 x1 = some r) (hq : Q (some (.int r)) h) : Cl d 269 [.ref q0, .int x1] h Q := by
  obtain ⟨d, rfl⟩ : ∃ k, d = k + 1 := ⟨d - 1, by omega⟩
  have hd : 2 ≤ d := by omega
  have hT := hX12_sleeps
  unfold fX12_sleeps at e
  refine Cl.into (by decide) gX12_sleeps rfl ?_
  show Rn d 269 (some .int) 0 [some (.ref q0), some (.int x1)] [] h Q
  refine Rn.n hT 2 (pc' := 2) (L' := [some (.ref q0), some (.int x1)]) (st' := [.int x1, .ref q0]) rfl ?_
  obtain ⟨_, e_7760, e⟩ := Option.bind_eq_some_iff.mp e
  obtain ⟨v_7761, e_7759, e⟩ := Option.bind_eq_some_iff.mp e
  refine Rn.call hT rfl rfl rfl (Nat.le_of_ble_eq_true rfl) (rcv_v gX12_isPerson (by omega) e_7760) (rX12_isPerson (by omega) e_7759 ?_)
  show Rn d _ _ 5 [some (.ref q0), some (.int x1)] [.int v_7761] h Q
  by_cases c_7762 : v_7761 = 0
  · rw [if_pos c_7762] at e
    refine Rn.bt hT rfl rfl rfl (decide_eq_true c_7762) ?_
    refine Rn.n hT 1 (pc' := 18) (L' := [some (.ref q0), some (.int x1)]) (st' := [.int (-1 : Int32)]) rfl ?_
    exact Rn.weak (ll_n (ll_n ll_e)) (rX12_sleeps_b18 hd hq e)
  · rw [if_neg c_7762] at e
    refine Rn.bf hT rfl rfl rfl (decide_eq_false c_7762) ?_
    refine Rn.n hT 1 (pc' := 9) (L' := [some (.ref q0), some (.int x1)]) (st' := [.ref q0]) rfl ?_
    obtain ⟨v_7763, e_7764, e⟩ := Option.bind_eq_some_iff.mp e
    refine Rn.hp hT rfl rfl (gR_hp e_7764) ?_
    refine Rn.n hT 1 (pc' := 13) (L' := [some (.ref q0), some (.int x1)]) (st' := [.int x1, .ref v_7763]) rfl ?_
    obtain ⟨v_7765, e_7766, e⟩ := Option.bind_eq_some_iff.mp e
    refine Rn.hp hT rfl rfl (aI_hp e_7766) ?_
    refine Rn.n hT 1 (pc' := 18) (L' := [some (.ref q0), some (.int x1)]) (st' := [.int v_7765]) rfl ?_
    exact Rn.weak (ll_n (ll_n ll_e)) (rX12_sleeps_b18 hd hq e)
set_option maxRecDepth 10000 in
theorem hX12_mismatch : iv_Tb 270 tX12_mismatch := iv_tb_of (m := mX12_mismatch) rfl
set_option maxRecDepth 10000 in
theorem gX12_mismatch : PG.2 270 = some mX12_mismatch := iv_pi_of (t := tX12_mismatch) rfl (by decide)
def fX12_mismatch_b19 (N : Nat) (h : iv_H)   : Option (Int32 × iv_H) := (some ((-1 : Int32), h))
set_option maxRecDepth 10000 in
set_option maxHeartbeats 4000000 in
theorem rX12_mismatch_b19 {d N : Nat} (hd : 6 ≤ d) {h : iv_H}   {r : Int32 × iv_H} {Q : Option Value → iv_H → Prop} (hq : Q (some (.int r.1)) r.2) (e : fX12_mismatch_b19 N h   = some r) : Rn d 270 (some .int) 19 [none, none, none] [] h Q := by
  have hT := hX12_mismatch
  unfold fX12_mismatch_b19 at e
  refine Rn.n hT 1 (pc' := 20) (L' := [none, none, none]) (st' := [.int (-1 : Int32)]) rfl ?_
  obtain rfl := Option.some.inj e
  exact Rn.ret hT rfl rfl rfl hq
def fX12_mismatch_b48 (N : Nat) (h : iv_H)  (s0 : Int32) : Option (Int32 × iv_H) := (some (s0, h))
set_option maxRecDepth 10000 in
set_option maxHeartbeats 4000000 in
theorem rX12_mismatch_b48 {d N : Nat} (hd : 6 ≤ d) {h : iv_H}  {s0 : Int32} {r : Int32 × iv_H} {Q : Option Value → iv_H → Prop} (hq : Q (some (.int r.1)) r.2) (e : fX12_mismatch_b48 N h  s0 = some r) : Rn d 270 (some .int) 48 [none, none, none] [.int s0] h Q := by
  have hT := hX12_mismatch
  unfold fX12_mismatch_b48 at e
  obtain rfl := Option.some.inj e
  exact Rn.ret hT rfl rfl rfl hq
def fX12_mismatch_b47 (N : Nat) (h : iv_H) (x2 : Int32)  : Option (Int32 × iv_H) := (fX12_mismatch_b48 N h x2)
set_option maxRecDepth 10000 in
set_option maxHeartbeats 4000000 in
theorem rX12_mismatch_b47 {d N : Nat} (hd : 6 ≤ d) {h : iv_H} {x2 : Int32}  {r : Int32 × iv_H} {Q : Option Value → iv_H → Prop} (hq : Q (some (.int r.1)) r.2) (e : fX12_mismatch_b47 N h x2  = some r) : Rn d 270 (some .int) 47 [none, none, some (.int x2)] [] h Q := by
  have hT := hX12_mismatch
  unfold fX12_mismatch_b47 at e
  refine Rn.n hT 1 (pc' := 48) (L' := [none, none, some (.int x2)]) (st' := [.int x2]) rfl ?_
  exact Rn.weak (ll_n (ll_n (ll_n ll_e))) (rX12_mismatch_b48 hd hq e)
def fX12_mismatch_b34 (N : Nat) (h : iv_H) (x1 : Int32) (x2 : Int32)  : Option (Int32 × iv_H) := (if x2 = 0 then (if x1 ≤ 0 then (fX12_mismatch_b47 N h x2) else (fX12_mismatch_b48 N h (-2 : Int32))) else (fX12_mismatch_b47 N h x2))
set_option maxRecDepth 10000 in
set_option maxHeartbeats 4000000 in
theorem rX12_mismatch_b34 {d N : Nat} (hd : 6 ≤ d) {h : iv_H} {x1 : Int32} {x2 : Int32}  {r : Int32 × iv_H} {Q : Option Value → iv_H → Prop} (hq : Q (some (.int r.1)) r.2) (e : fX12_mismatch_b34 N h x1 x2  = some r) : Rn d 270 (some .int) 34 [none, some (.int x1), some (.int x2)] [] h Q := by
  have hT := hX12_mismatch
  unfold fX12_mismatch_b34 at e
  refine Rn.n hT 1 (pc' := 35) (L' := [none, some (.int x1), some (.int x2)]) (st' := [.int x2]) rfl ?_
  by_cases c_7789 : x2 = 0
  · rw [if_pos c_7789] at e
    refine Rn.bf hT rfl rfl rfl (decide_eq_false (fun z => z c_7789)) ?_
    refine Rn.n hT 1 (pc' := 39) (L' := [none, some (.int x1), some (.int x2)]) (st' := [.int x1]) rfl ?_
    by_cases c_7790 : x1 ≤ 0
    · rw [if_pos c_7790] at e
      refine Rn.bt hT rfl rfl rfl (decide_eq_true c_7790) ?_
      exact Rn.weak (ll_n (ll_n (ll_s ll_e))) (rX12_mismatch_b47 hd hq e)
    · rw [if_neg c_7790] at e
      refine Rn.bf hT rfl rfl rfl (decide_eq_false c_7790) ?_
      refine Rn.n hT 2 (pc' := 48) (L' := [none, some (.int x1), some (.int x2)]) (st' := [.int (-2 : Int32)]) rfl ?_
      exact Rn.weak (ll_n (ll_n (ll_n ll_e))) (rX12_mismatch_b48 hd hq e)
  · rw [if_neg c_7789] at e
    refine Rn.bt hT rfl rfl rfl (decide_eq_true c_7789) ?_
    exact Rn.weak (ll_n (ll_n (ll_s ll_e))) (rX12_mismatch_b47 hd hq e)
def fX12_mismatch_b81 (N : Nat) (h : iv_H)  (s0 : Int32) : Option (Int32 × iv_H) := (some (s0, h))
set_option maxRecDepth 10000 in
set_option maxHeartbeats 4000000 in
theorem rX12_mismatch_b81 {d N : Nat} (hd : 6 ≤ d) {h : iv_H}  {s0 : Int32} {r : Int32 × iv_H} {Q : Option Value → iv_H → Prop} (hq : Q (some (.int r.1)) r.2) (e : fX12_mismatch_b81 N h  s0 = some r) : Rn d 270 (some .int) 81 [none, none, none] [.int s0] h Q := by
  have hT := hX12_mismatch
  unfold fX12_mismatch_b81 at e
  obtain rfl := Option.some.inj e
  exact Rn.ret hT rfl rfl rfl hq
def fX12_mismatch (N : Nat) (h : iv_H) (q0 : Nat) (x1 : Int32) : Option (Int32 × iv_H) := ((cko h q0 12).bind fun _ => (fX12_isPalace N h q0).bind fun v_7769 => (if v_7769 = 0 then (fX12_mismatch_b19 N h) else ((fX12_in N h ((x1).toInt64) (0 : Int64) (3 : Int64)).bind fun v_7772 => (if v_7772 = 0 then (fX12_mismatch_b19 N h) else ((cko h q0 12).bind fun _ => (fX12_mismatches N h q0).bind fun p_7788 => (fun (v_7776 : Int32) (h_7777 : iv_H) => (if x1 = 0 then (fX12_mismatch_b34 N h_7777 x1 v_7776) else (if v_7776 = 0 then (fX12_mismatch_b34 N h_7777 x1 v_7776) else (if x1 = (1 : Int32) then ((gI h_7777 12 26 q0).bind fun v_7786 => (fX12_mismatch_b81 N h_7777 (v_7786 - v_7786 / (4 : Int32) * (4 : Int32)))) else (if x1 = (2 : Int32) then ((gI h_7777 12 26 q0).bind fun v_7784 => (fX12_mismatch_b81 N h_7777 (v_7784 / (4 : Int32)))) else ((gI h_7777 12 27 q0).bind fun v_7782 => (fX12_mismatch_b81 N h_7777 v_7782))))))) p_7788.1 p_7788.2)))))
set_option maxRecDepth 10000 in
set_option maxHeartbeats 4000000 in
theorem rX12_mismatch {d N : Nat} (hd : 7 ≤ d) {h : iv_H} {q0 : Nat} {x1 : Int32} {r : Int32 × iv_H} {Q : Option Value → iv_H → Prop} (e : fX12_mismatch N h q0 x1 = some r) (hq : Q (some (.int r.1)) r.2) : Cl d 270 [.ref q0, .int x1] h Q := by
  obtain ⟨d, rfl⟩ : ∃ k, d = k + 1 := ⟨d - 1, by omega⟩
  have hd : 6 ≤ d := by omega
  have hT := hX12_mismatch
  unfold fX12_mismatch at e
  refine Cl.into (by decide) gX12_mismatch rfl ?_
  show Rn d 270 (some .int) 0 [some (.ref q0), some (.int x1), none] [] h Q
  refine Rn.n hT 1 (pc' := 1) (L' := [some (.ref q0), some (.int x1), none]) (st' := [.ref q0]) rfl ?_
  obtain ⟨_, e_7768, e⟩ := Option.bind_eq_some_iff.mp e
  obtain ⟨v_7769, e_7767, e⟩ := Option.bind_eq_some_iff.mp e
  refine Rn.call hT rfl rfl rfl (Nat.le_of_ble_eq_true rfl) (rcv_v gX12_isPalace (by omega) e_7768) (rX12_isPalace (by omega) e_7767 ?_)
  show Rn d _ _ 4 [some (.ref q0), some (.int x1), none] [.int v_7769] h Q
  by_cases c_7770 : v_7769 = 0
  · rw [if_pos c_7770] at e
    refine Rn.bt hT rfl rfl rfl (decide_eq_true c_7770) ?_
    exact Rn.weak (ll_n (ll_n (ll_n ll_e))) (rX12_mismatch_b19 hd hq e)
  · rw [if_neg c_7770] at e
    refine Rn.bf hT rfl rfl rfl (decide_eq_false c_7770) ?_
    refine Rn.n hT 4 (pc' := 13) (L' := [some (.ref q0), some (.int x1), none]) (st' := [.long (3 : Int64), .long (0 : Int64), .long ((x1).toInt64)]) rfl ?_
    obtain ⟨v_7772, e_7771, e⟩ := Option.bind_eq_some_iff.mp e
    refine Rn.call hT rfl rfl rfl (Nat.le_of_ble_eq_true rfl) rfl (rX12_in (by omega) e_7771 ?_)
    show Rn d _ _ 16 [some (.ref q0), some (.int x1), none] [.int v_7772] h Q
    by_cases c_7773 : v_7772 = 0
    · rw [if_pos c_7773] at e
      refine Rn.bf hT rfl rfl rfl (decide_eq_false (fun z => z c_7773)) ?_
      exact Rn.weak (ll_n (ll_n (ll_n ll_e))) (rX12_mismatch_b19 hd hq e)
    · rw [if_neg c_7773] at e
      refine Rn.bt hT rfl rfl rfl (decide_eq_true c_7773) ?_
      refine Rn.n hT 1 (pc' := 22) (L' := [some (.ref q0), some (.int x1), none]) (st' := [.ref q0]) rfl ?_
      obtain ⟨_, e_7775, e⟩ := Option.bind_eq_some_iff.mp e
      obtain ⟨⟨v_7776, h_7777⟩, e_7774, e⟩ := Option.bind_eq_some_iff.mp e
      try dsimp only at e
      try dsimp only at e
      refine Rn.call hT rfl rfl rfl (Nat.le_of_ble_eq_true rfl) (rcv_v gX12_mismatches (by omega) e_7775) (rX12_mismatches (by omega) e_7774 ?_)
      show Rn d _ _ 25 [some (.ref q0), some (.int x1), none] [.int v_7776] h_7777 Q
      refine Rn.n hT 2 (pc' := 27) (L' := [some (.ref q0), some (.int x1), some (.int v_7776)]) (st' := [.int x1]) rfl ?_
      by_cases c_7778 : x1 = 0
      · rw [if_pos c_7778] at e
        refine Rn.bt hT rfl rfl rfl (decide_eq_true c_7778) ?_
        exact Rn.weak (ll_n (ll_s (ll_s ll_e))) (rX12_mismatch_b34 hd hq e)
      · rw [if_neg c_7778] at e
        refine Rn.bf hT rfl rfl rfl (decide_eq_false c_7778) ?_
        refine Rn.n hT 1 (pc' := 31) (L' := [some (.ref q0), some (.int x1), some (.int v_7776)]) (st' := [.int v_7776]) rfl ?_
        by_cases c_7779 : v_7776 = 0
        · rw [if_pos c_7779] at e
          refine Rn.bf hT rfl rfl rfl (decide_eq_false (fun z => z c_7779)) ?_
          exact Rn.weak (ll_n (ll_s (ll_s ll_e))) (rX12_mismatch_b34 hd hq e)
        · rw [if_neg c_7779] at e
          refine Rn.bt hT rfl rfl rfl (decide_eq_true c_7779) ?_
          refine Rn.n hT 2 (pc' := 51) (L' := [some (.ref q0), some (.int x1), some (.int v_7776)]) (st' := [.int (1 : Int32), .int x1]) rfl ?_
          by_cases c_7780 : x1 = (1 : Int32)
          · rw [if_pos c_7780] at e
            refine Rn.bf hT rfl rfl rfl (decide_eq_false (fun z => z c_7780)) ?_
            refine Rn.n hT 1 (pc' := 55) (L' := [some (.ref q0), some (.int x1), some (.int v_7776)]) (st' := [.ref q0]) rfl ?_
            obtain ⟨v_7786, e_7787, e⟩ := Option.bind_eq_some_iff.mp e
            refine Rn.hp hT rfl rfl (gI_hp e_7787) ?_
            refine Rn.n hT 3 (pc' := 81) (L' := [some (.ref q0), some (.int x1), some (.int v_7776)]) (st' := [.int (v_7786 - v_7786 / (4 : Int32) * (4 : Int32))]) rfl ?_
            exact Rn.weak (ll_n (ll_n (ll_n ll_e))) (rX12_mismatch_b81 hd hq e)
          · rw [if_neg c_7780] at e
            refine Rn.bt hT rfl rfl rfl (decide_eq_true c_7780) ?_
            refine Rn.n hT 2 (pc' := 65) (L' := [some (.ref q0), some (.int x1), some (.int v_7776)]) (st' := [.int (2 : Int32), .int x1]) rfl ?_
            by_cases c_7781 : x1 = (2 : Int32)
            · rw [if_pos c_7781] at e
              refine Rn.bf hT rfl rfl rfl (decide_eq_false (fun z => z c_7781)) ?_
              refine Rn.n hT 1 (pc' := 69) (L' := [some (.ref q0), some (.int x1), some (.int v_7776)]) (st' := [.ref q0]) rfl ?_
              obtain ⟨v_7784, e_7785, e⟩ := Option.bind_eq_some_iff.mp e
              refine Rn.hp hT rfl rfl (gI_hp e_7785) ?_
              refine Rn.n hT 3 (pc' := 81) (L' := [some (.ref q0), some (.int x1), some (.int v_7776)]) (st' := [.int (v_7784 / (4 : Int32))]) rfl ?_
              exact Rn.weak (ll_n (ll_n (ll_n ll_e))) (rX12_mismatch_b81 hd hq e)
            · rw [if_neg c_7781] at e
              refine Rn.bt hT rfl rfl rfl (decide_eq_true c_7781) ?_
              refine Rn.n hT 1 (pc' := 78) (L' := [some (.ref q0), some (.int x1), some (.int v_7776)]) (st' := [.ref q0]) rfl ?_
              obtain ⟨v_7782, e_7783, e⟩ := Option.bind_eq_some_iff.mp e
              refine Rn.hp hT rfl rfl (gI_hp e_7783) ?_
              exact Rn.weak (ll_n (ll_n (ll_n ll_e))) (rX12_mismatch_b81 hd hq e)
set_option maxRecDepth 10000 in
theorem hX12_can : iv_Tb 271 tX12_can := iv_tb_of (m := mX12_can) rfl
set_option maxRecDepth 10000 in
theorem gX12_can : PG.2 271 = some mX12_can := iv_pi_of (t := tX12_can) rfl (by decide)
def fX12_can_b15 (N : Nat) (h : iv_H)  (s0 : Int32) : Option (Int32 × iv_H) := (some (s0, h))
set_option maxRecDepth 10000 in
set_option maxHeartbeats 4000000 in
theorem rX12_can_b15 {d N : Nat} (hd : 9 ≤ d) {h : iv_H}  {s0 : Int32} {r : Int32 × iv_H} {Q : Option Value → iv_H → Prop} (hq : Q (some (.int r.1)) r.2) (e : fX12_can_b15 N h  s0 = some r) : Rn d 271 (some .int) 15 [none] [.int s0] h Q := by
  have hT := hX12_can
  unfold fX12_can_b15 at e
  obtain rfl := Option.some.inj e
  exact Rn.ret hT rfl rfl rfl hq
def fX12_can (N : Nat) (h : iv_H) (q0 : Nat) : Option (Int32 × iv_H) := ((cko h q0 12).bind fun _ => (fX12_isPalace N h q0).bind fun v_7793 => (if v_7793 = 0 then (fX12_can_b15 N h (-1 : Int32)) else ((cko h q0 12).bind fun _ => (fX12_canNow N h q0).bind fun p_7799 => (fun (v_7797 : Int32) (h_7798 : iv_H) => (fX12_can_b15 N h_7798 v_7797)) p_7799.1 p_7799.2)))
set_option maxRecDepth 10000 in
set_option maxHeartbeats 4000000 in
theorem rX12_can {d N : Nat} (hd : 10 ≤ d) {h : iv_H} {q0 : Nat} {r : Int32 × iv_H} {Q : Option Value → iv_H → Prop} (e : fX12_can N h q0 = some r) (hq : Q (some (.int r.1)) r.2) : Cl d 271 [.ref q0] h Q := by
  obtain ⟨d, rfl⟩ : ∃ k, d = k + 1 := ⟨d - 1, by omega⟩
  have hd : 9 ≤ d := by omega
  have hT := hX12_can
  unfold fX12_can at e
  refine Cl.into (by decide) gX12_can rfl ?_
  show Rn d 271 (some .int) 0 [some (.ref q0)] [] h Q
  refine Rn.n hT 1 (pc' := 1) (L' := [some (.ref q0)]) (st' := [.ref q0]) rfl ?_
  obtain ⟨_, e_7792, e⟩ := Option.bind_eq_some_iff.mp e
  obtain ⟨v_7793, e_7791, e⟩ := Option.bind_eq_some_iff.mp e
  refine Rn.call hT rfl rfl rfl (Nat.le_of_ble_eq_true rfl) (rcv_v gX12_isPalace (by omega) e_7792) (rX12_isPalace (by omega) e_7791 ?_)
  show Rn d _ _ 4 [some (.ref q0)] [.int v_7793] h Q
  by_cases c_7794 : v_7793 = 0
  · rw [if_pos c_7794] at e
    refine Rn.bt hT rfl rfl rfl (decide_eq_true c_7794) ?_
    refine Rn.n hT 1 (pc' := 15) (L' := [some (.ref q0)]) (st' := [.int (-1 : Int32)]) rfl ?_
    exact Rn.weak (ll_n ll_e) (rX12_can_b15 hd hq e)
  · rw [if_neg c_7794] at e
    refine Rn.bf hT rfl rfl rfl (decide_eq_false c_7794) ?_
    refine Rn.n hT 1 (pc' := 8) (L' := [some (.ref q0)]) (st' := [.ref q0]) rfl ?_
    obtain ⟨_, e_7796, e⟩ := Option.bind_eq_some_iff.mp e
    obtain ⟨⟨v_7797, h_7798⟩, e_7795, e⟩ := Option.bind_eq_some_iff.mp e
    try dsimp only at e
    try dsimp only at e
    refine Rn.call hT rfl rfl rfl (Nat.le_of_ble_eq_true rfl) (rcv_v gX12_canNow (by omega) e_7796) (rX12_canNow (by omega) e_7795 ?_)
    show Rn d _ _ 11 [some (.ref q0)] [.int v_7797] h_7798 Q
    refine Rn.n hT 1 (pc' := 15) (L' := [some (.ref q0)]) (st' := [.int v_7797]) rfl ?_
    exact Rn.weak (ll_n ll_e) (rX12_can_b15 hd hq e)
