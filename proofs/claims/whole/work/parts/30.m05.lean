-- MIRRORS, 5 (written by wip/whole/mir.py)
set_option maxRecDepth 10000 in
theorem hX10_roomsWished : iv_Tb 128 tX10_roomsWished := iv_tb_of (m := mX10_roomsWished) rfl
set_option maxRecDepth 10000 in
theorem gX10_roomsWished : PG.2 128 = some mX10_roomsWished := iv_pi_of (t := tX10_roomsWished) rfl (by decide)
def fX10_roomsWished_b161 (N : Nat) (h : iv_H) (q0 : Nat) (q1 : Nat) (q3 : Nat) (x4 : Int32) (x5 : Int32) (x6 : Int32)  (kb : iv_H → Int32 → Option (iv_H)) (kx : iv_H → Option (iv_H)) : Option (iv_H) := (kb h (x6 + (1 : Int32)))
set_option maxRecDepth 10000 in
set_option maxHeartbeats 4000000 in
theorem rX10_roomsWished_b161 {d N : Nat} (hd : 5 ≤ d) {h : iv_H} {q0 : Nat} {q1 : Nat} {q3 : Nat} {x4 : Int32} {x5 : Int32} {x6 : Int32}  {kb : iv_H → Int32 → Option (iv_H)} {kx : iv_H → Option (iv_H)} {r : iv_H} {Q : Option Value → iv_H → Prop} (hb : ∀ (h : iv_H) (w6 : Int32), kb h w6 = some r → Rn d 128 none 80 [some (.ref q0), some (.ref q1), none, some (.ref q3), some (.int x4), some (.int x5), some (.int w6), none, none] [] h Q) (hk : ∀ (h : iv_H), kx h = some r → Rn d 128 none 167 [some (.ref q0), some (.ref q1), none, some (.ref q3), some (.int x4), none, none, none, none] [] h Q) (hq : Q none r) (e : fX10_roomsWished_b161 N h q0 q1 q3 x4 x5 x6  kb kx = some r) : Rn d 128 none 161 [some (.ref q0), some (.ref q1), none, some (.ref q3), some (.int x4), some (.int x5), some (.int x6), none, none] [] h Q := by
  have hT := hX10_roomsWished
  unfold fX10_roomsWished_b161 at e
  refine Rn.n hT 2 (pc' := 80) (L' := [some (.ref q0), some (.ref q1), none, some (.ref q3), some (.int x4), some (.int x5), some (.int (x6 + (1 : Int32))), none, none]) (st' := []) rfl ?_
  exact Rn.weak (ll_s (ll_s (ll_n (ll_s (ll_s (ll_s (ll_s (ll_n (ll_n ll_e))))))))) (hb h (x6 + (1 : Int32)) e)
def fX10_roomsWished_b159 (N : Nat) (h : iv_H) (q0 : Nat) (q1 : Nat) (q3 : Nat) (x4 : Int32) (x5 : Int32) (x6 : Int32) (s0 : Int32) (s1 : Int32) (s2 : Int32) (sq3 : Nat) (kb : iv_H → Int32 → Option (iv_H)) (kx : iv_H → Option (iv_H)) : Option (iv_H) := ((wI h sq3 s2 (s1 &&& s0)).bind fun h_3576 => (fX10_roomsWished_b161 N h_3576 q0 q1 q3 x4 x5 x6 kb kx))
set_option maxRecDepth 10000 in
set_option maxHeartbeats 4000000 in
theorem rX10_roomsWished_b159 {d N : Nat} (hd : 5 ≤ d) {h : iv_H} {q0 : Nat} {q1 : Nat} {q3 : Nat} {x4 : Int32} {x5 : Int32} {x6 : Int32} {s0 : Int32} {s1 : Int32} {s2 : Int32} {sq3 : Nat} {kb : iv_H → Int32 → Option (iv_H)} {kx : iv_H → Option (iv_H)} {r : iv_H} {Q : Option Value → iv_H → Prop} (hb : ∀ (h : iv_H) (w6 : Int32), kb h w6 = some r → Rn d 128 none 80 [some (.ref q0), some (.ref q1), none, some (.ref q3), some (.int x4), some (.int x5), some (.int w6), none, none] [] h Q) (hk : ∀ (h : iv_H), kx h = some r → Rn d 128 none 167 [some (.ref q0), some (.ref q1), none, some (.ref q3), some (.int x4), none, none, none, none] [] h Q) (hq : Q none r) (e : fX10_roomsWished_b159 N h q0 q1 q3 x4 x5 x6 s0 s1 s2 sq3 kb kx = some r) : Rn d 128 none 159 [some (.ref q0), some (.ref q1), none, some (.ref q3), some (.int x4), some (.int x5), some (.int x6), none, none] [.int s0, .int s1, .int s2, .ref sq3] h Q := by
  have hT := hX10_roomsWished
  unfold fX10_roomsWished_b159 at e
  refine Rn.n hT 1 (pc' := 160) (L' := [some (.ref q0), some (.ref q1), none, some (.ref q3), some (.int x4), some (.int x5), some (.int x6), none, none]) (st' := [.int (s1 &&& s0), .int s2, .ref sq3]) rfl ?_
  obtain ⟨h_3576, e_3577, e⟩ := Option.bind_eq_some_iff.mp e
  refine Rn.hp hT rfl rfl (wI_hp e_3577) ?_
  exact Rn.weak (ll_s (ll_s (ll_n (ll_s (ll_s (ll_s (ll_s (ll_n (ll_n ll_e))))))))) (rX10_roomsWished_b161 hd hb hk hq e)
def fX10_roomsWished_b158 (N : Nat) (h : iv_H) (q0 : Nat) (q1 : Nat) (q3 : Nat) (x4 : Int32) (x5 : Int32) (x6 : Int32) (s0 : Int32) (s1 : Int32) (sq2 : Nat) (kb : iv_H → Int32 → Option (iv_H)) (kx : iv_H → Option (iv_H)) : Option (iv_H) := (fX10_roomsWished_b159 N h q0 q1 q3 x4 x5 x6 (0 : Int32) s0 s1 sq2 kb kx)
set_option maxRecDepth 10000 in
set_option maxHeartbeats 4000000 in
theorem rX10_roomsWished_b158 {d N : Nat} (hd : 5 ≤ d) {h : iv_H} {q0 : Nat} {q1 : Nat} {q3 : Nat} {x4 : Int32} {x5 : Int32} {x6 : Int32} {s0 : Int32} {s1 : Int32} {sq2 : Nat} {kb : iv_H → Int32 → Option (iv_H)} {kx : iv_H → Option (iv_H)} {r : iv_H} {Q : Option Value → iv_H → Prop} (hb : ∀ (h : iv_H) (w6 : Int32), kb h w6 = some r → Rn d 128 none 80 [some (.ref q0), some (.ref q1), none, some (.ref q3), some (.int x4), some (.int x5), some (.int w6), none, none] [] h Q) (hk : ∀ (h : iv_H), kx h = some r → Rn d 128 none 167 [some (.ref q0), some (.ref q1), none, some (.ref q3), some (.int x4), none, none, none, none] [] h Q) (hq : Q none r) (e : fX10_roomsWished_b158 N h q0 q1 q3 x4 x5 x6 s0 s1 sq2 kb kx = some r) : Rn d 128 none 158 [some (.ref q0), some (.ref q1), none, some (.ref q3), some (.int x4), some (.int x5), some (.int x6), none, none] [.int s0, .int s1, .ref sq2] h Q := by
  have hT := hX10_roomsWished
  unfold fX10_roomsWished_b158 at e
  refine Rn.n hT 1 (pc' := 159) (L' := [some (.ref q0), some (.ref q1), none, some (.ref q3), some (.int x4), some (.int x5), some (.int x6), none, none]) (st' := [.int (0 : Int32), .int s0, .int s1, .ref sq2]) rfl ?_
  exact Rn.weak (ll_s (ll_s (ll_n (ll_s (ll_s (ll_s (ll_s (ll_n (ll_n ll_e))))))))) (rX10_roomsWished_b159 hd hb hk hq e)
def fX10_roomsWished_l80 (N : Nat) (q0 : Nat) (q1 : Nat) (q3 : Nat) (x4 : Int32) (x5 : Int32) (kx : iv_H → Option (iv_H)) : Nat → iv_H → Int32 → Option (iv_H)
  | 0, _, _ => none
  | n + 1, h, x6 => ((gR h 2 17 q1).bind fun v_3554 => ((gI h 7 1 v_3554).bind fun v_3556 => (if v_3556 ≤ x6 then (kx h) else ((gR h 2 17 q1).bind fun v_3559 => ((gR h 7 0 v_3559).bind fun v_3561 => ((aJ h v_3561 x6).bind fun v_3563 => (if (((v_3563).toInt32 >>> ((4 : Int32) &&& 31)) &&& (15 : Int32)) = x4 then ((gR h 10 0 q0).bind fun v_3566 => ((gR h 1 7 v_3566).bind fun v_3568 => ((aI h v_3568 ((v_3563).toInt32 &&& (15 : Int32))).bind fun v_3570 => ((aI h q3 ((v_3563).toInt32 >>> ((8 : Int32) &&& 31))).bind fun v_3572 => (if x5 = 0 then (fX10_roomsWished_b158 N h q0 q1 q3 x4 x5 x6 v_3572 ((v_3563).toInt32 >>> ((8 : Int32) &&& 31)) q3 (fX10_roomsWished_l80 N q0 q1 q3 x4 x5 kx n) kx) else (if v_3570 = (-1 : Int32) then (fX10_roomsWished_b158 N h q0 q1 q3 x4 x5 x6 v_3572 ((v_3563).toInt32 >>> ((8 : Int32) &&& 31)) q3 (fX10_roomsWished_l80 N q0 q1 q3 x4 x5 kx n) kx) else (fX10_roomsWished_b159 N h q0 q1 q3 x4 x5 x6 ((1 : Int32) <<< (v_3570 &&& 31)) v_3572 ((v_3563).toInt32 >>> ((8 : Int32) &&& 31)) q3 (fX10_roomsWished_l80 N q0 q1 q3 x4 x5 kx n) kx))))))) else (fX10_roomsWished_b161 N h q0 q1 q3 x4 x5 x6 (fX10_roomsWished_l80 N q0 q1 q3 x4 x5 kx n) kx))))))))
set_option maxRecDepth 10000 in
set_option maxHeartbeats 4000000 in
theorem rX10_roomsWished_l80 {d N : Nat} (hd : 5 ≤ d) {q0 : Nat} {q1 : Nat} {q3 : Nat} {x4 : Int32} {x5 : Int32} {kx : iv_H → Option (iv_H)} {r : iv_H} {Q : Option Value → iv_H → Prop} (hk : ∀ (h : iv_H), kx h = some r → Rn d 128 none 167 [some (.ref q0), some (.ref q1), none, some (.ref q3), some (.int x4), none, none, none, none] [] h Q) (hq : Q none r) : ∀ (n : Nat) (h : iv_H) (x6 : Int32), fX10_roomsWished_l80 N q0 q1 q3 x4 x5 kx n h x6 = some r → Rn d 128 none 80 [some (.ref q0), some (.ref q1), none, some (.ref q3), some (.int x4), some (.int x5), some (.int x6), none, none] [] h Q := by
  have hT := hX10_roomsWished
  intro n
  induction n with
  | zero =>
    intro h x6 e
    rw [fX10_roomsWished_l80] at e
    cases e
  | succ n ih =>
    intro h x6 e
    rw [fX10_roomsWished_l80] at e
    refine Rn.n hT 2 (pc' := 83) (L' := [some (.ref q0), some (.ref q1), none, some (.ref q3), some (.int x4), some (.int x5), some (.int x6), none, none]) (st' := [.ref q1, .int x6]) rfl ?_
    obtain ⟨v_3554, e_3555, e⟩ := Option.bind_eq_some_iff.mp e
    refine Rn.hp hT rfl rfl (gR_hp e_3555) ?_
    obtain ⟨v_3556, e_3557, e⟩ := Option.bind_eq_some_iff.mp e
    refine Rn.hp hT rfl rfl (gI_hp e_3557) ?_
    by_cases c_3558 : v_3556 ≤ x6
    · rw [if_pos c_3558] at e
      refine Rn.bt hT rfl rfl rfl (decide_eq_true c_3558) ?_
      exact Rn.weak (ll_s (ll_s (ll_n (ll_s (ll_s (ll_n (ll_n (ll_n (ll_n ll_e))))))))) (hk h e)
    · rw [if_neg c_3558] at e
      refine Rn.bf hT rfl rfl rfl (decide_eq_false c_3558) ?_
      refine Rn.n hT 1 (pc' := 93) (L' := [some (.ref q0), some (.ref q1), none, some (.ref q3), some (.int x4), some (.int x5), some (.int x6), none, none]) (st' := [.ref q1]) rfl ?_
      obtain ⟨v_3559, e_3560, e⟩ := Option.bind_eq_some_iff.mp e
      refine Rn.hp hT rfl rfl (gR_hp e_3560) ?_
      obtain ⟨v_3561, e_3562, e⟩ := Option.bind_eq_some_iff.mp e
      refine Rn.hp hT rfl rfl (gR_hp e_3562) ?_
      refine Rn.n hT 1 (pc' := 101) (L' := [some (.ref q0), some (.ref q1), none, some (.ref q3), some (.int x4), some (.int x5), some (.int x6), none, none]) (st' := [.int x6, .ref v_3561]) rfl ?_
      obtain ⟨v_3563, e_3564, e⟩ := Option.bind_eq_some_iff.mp e
      refine Rn.hp hT rfl rfl (aJ_hp e_3564) ?_
      refine Rn.n hT 8 (pc' := 114) (L' := [some (.ref q0), some (.ref q1), none, some (.ref q3), some (.int x4), some (.int x5), some (.int x6), some (.int ((v_3563).toInt32)), none]) (st' := [.int x4, .int (((v_3563).toInt32 >>> ((4 : Int32) &&& 31)) &&& (15 : Int32))]) rfl ?_
      by_cases c_3565 : (((v_3563).toInt32 >>> ((4 : Int32) &&& 31)) &&& (15 : Int32)) = x4
      · rw [if_pos c_3565] at e
        refine Rn.bf hT rfl rfl rfl (decide_eq_false (fun z => z c_3565)) ?_
        refine Rn.n hT 1 (pc' := 118) (L' := [some (.ref q0), some (.ref q1), none, some (.ref q3), some (.int x4), some (.int x5), some (.int x6), some (.int ((v_3563).toInt32)), none]) (st' := [.ref q0]) rfl ?_
        obtain ⟨v_3566, e_3567, e⟩ := Option.bind_eq_some_iff.mp e
        refine Rn.hp hT rfl rfl (gR_hp e_3567) ?_
        obtain ⟨v_3568, e_3569, e⟩ := Option.bind_eq_some_iff.mp e
        refine Rn.hp hT rfl rfl (gR_hp e_3569) ?_
        refine Rn.n hT 3 (pc' := 129) (L' := [some (.ref q0), some (.ref q1), none, some (.ref q3), some (.int x4), some (.int x5), some (.int x6), some (.int ((v_3563).toInt32)), none]) (st' := [.int ((v_3563).toInt32 &&& (15 : Int32)), .ref v_3568]) rfl ?_
        obtain ⟨v_3570, e_3571, e⟩ := Option.bind_eq_some_iff.mp e
        refine Rn.hp hT rfl rfl (aI_hp e_3571) ?_
        refine Rn.n hT 6 (pc' := 139) (L' := [some (.ref q0), some (.ref q1), none, some (.ref q3), some (.int x4), some (.int x5), some (.int x6), some (.int ((v_3563).toInt32)), some (.int v_3570)]) (st' := [.int ((v_3563).toInt32 >>> ((8 : Int32) &&& 31)), .ref q3, .int ((v_3563).toInt32 >>> ((8 : Int32) &&& 31)), .ref q3]) rfl ?_
        obtain ⟨v_3572, e_3573, e⟩ := Option.bind_eq_some_iff.mp e
        refine Rn.hp hT rfl rfl (aI_hp e_3573) ?_
        refine Rn.n hT 1 (pc' := 142) (L' := [some (.ref q0), some (.ref q1), none, some (.ref q3), some (.int x4), some (.int x5), some (.int x6), some (.int ((v_3563).toInt32)), some (.int v_3570)]) (st' := [.int x5, .int v_3572, .int ((v_3563).toInt32 >>> ((8 : Int32) &&& 31)), .ref q3]) rfl ?_
        by_cases c_3574 : x5 = 0
        · rw [if_pos c_3574] at e
          refine Rn.bt hT rfl rfl rfl (decide_eq_true c_3574) ?_
          exact Rn.weak (ll_s (ll_s (ll_n (ll_s (ll_s (ll_s (ll_s (ll_n (ll_n ll_e))))))))) (rX10_roomsWished_b158 hd ih hk hq e)
        · rw [if_neg c_3574] at e
          refine Rn.bf hT rfl rfl rfl (decide_eq_false c_3574) ?_
          refine Rn.n hT 2 (pc' := 148) (L' := [some (.ref q0), some (.ref q1), none, some (.ref q3), some (.int x4), some (.int x5), some (.int x6), some (.int ((v_3563).toInt32)), some (.int v_3570)]) (st' := [.int (-1 : Int32), .int v_3570, .int v_3572, .int ((v_3563).toInt32 >>> ((8 : Int32) &&& 31)), .ref q3]) rfl ?_
          by_cases c_3575 : v_3570 = (-1 : Int32)
          · rw [if_pos c_3575] at e
            refine Rn.bt hT rfl rfl rfl (decide_eq_true c_3575) ?_
            exact Rn.weak (ll_s (ll_s (ll_n (ll_s (ll_s (ll_s (ll_s (ll_n (ll_n ll_e))))))))) (rX10_roomsWished_b158 hd ih hk hq e)
          · rw [if_neg c_3575] at e
            refine Rn.bf hT rfl rfl rfl (decide_eq_false c_3575) ?_
            refine Rn.n hT 4 (pc' := 159) (L' := [some (.ref q0), some (.ref q1), none, some (.ref q3), some (.int x4), some (.int x5), some (.int x6), some (.int ((v_3563).toInt32)), some (.int v_3570)]) (st' := [.int ((1 : Int32) <<< (v_3570 &&& 31)), .int v_3572, .int ((v_3563).toInt32 >>> ((8 : Int32) &&& 31)), .ref q3]) rfl ?_
            exact Rn.weak (ll_s (ll_s (ll_n (ll_s (ll_s (ll_s (ll_s (ll_n (ll_n ll_e))))))))) (rX10_roomsWished_b159 hd ih hk hq e)
      · rw [if_neg c_3565] at e
        refine Rn.bt hT rfl rfl rfl (decide_eq_true c_3565) ?_
        exact Rn.weak (ll_s (ll_s (ll_n (ll_s (ll_s (ll_s (ll_s (ll_n (ll_n ll_e))))))))) (rX10_roomsWished_b161 hd ih hk hq e)
def fX10_roomsWished_b77 (N : Nat) (h : iv_H) (q0 : Nat) (q1 : Nat) (q3 : Nat) (x4 : Int32) (x5 : Int32)  (kb : iv_H → Int32 → Option (iv_H)) (kx : iv_H → Option (iv_H)) : Option (iv_H) := (fX10_roomsWished_l80 N q0 q1 q3 x4 x5 (fun (h_3553 : iv_H) => (kb h_3553 (x4 + (1 : Int32)))) N h (0 : Int32))
set_option maxRecDepth 10000 in
set_option maxHeartbeats 4000000 in
theorem rX10_roomsWished_b77 {d N : Nat} (hd : 5 ≤ d) {h : iv_H} {q0 : Nat} {q1 : Nat} {q3 : Nat} {x4 : Int32} {x5 : Int32}  {kb : iv_H → Int32 → Option (iv_H)} {kx : iv_H → Option (iv_H)} {r : iv_H} {Q : Option Value → iv_H → Prop} (hb : ∀ (h : iv_H) (w4 : Int32), kb h w4 = some r → Rn d 128 none 24 [some (.ref q0), some (.ref q1), none, some (.ref q3), some (.int w4), none, none, none, none] [] h Q) (hk : ∀ (h : iv_H), kx h = some r → Rn d 128 none 173 [none, none, none, none, none, none, none, none, none] [] h Q) (hq : Q none r) (e : fX10_roomsWished_b77 N h q0 q1 q3 x4 x5  kb kx = some r) : Rn d 128 none 77 [some (.ref q0), some (.ref q1), none, some (.ref q3), some (.int x4), some (.int x5), none, none, none] [] h Q := by
  have hT := hX10_roomsWished
  unfold fX10_roomsWished_b77 at e
  refine Rn.n hT 2 (pc' := 80) (L' := [some (.ref q0), some (.ref q1), none, some (.ref q3), some (.int x4), some (.int x5), some (.int (0 : Int32)), none, none]) (st' := []) rfl ?_
  refine Rn.weak (ll_s (ll_s (ll_n (ll_s (ll_s (ll_s (ll_s (ll_n (ll_n ll_e))))))))) (rX10_roomsWished_l80 hd (fun h_3553 e => ?_) hq N h (0 : Int32) e)
  try dsimp only at e
  refine Rn.n hT 2 (pc' := 24) (L' := [some (.ref q0), some (.ref q1), none, some (.ref q3), some (.int (x4 + (1 : Int32))), none, none, none, none]) (st' := []) rfl ?_
  exact Rn.weak (ll_s (ll_s (ll_n (ll_s (ll_s (ll_n (ll_n (ll_n (ll_n ll_e))))))))) (hb h_3553 (x4 + (1 : Int32)) e)
def fX10_roomsWished_b48 (N : Nat) (h : iv_H) (q0 : Nat) (q1 : Nat) (q3 : Nat) (x4 : Int32) (s0 : Int32) (kb : iv_H → Int32 → Option (iv_H)) (kx : iv_H → Option (iv_H)) : Option (iv_H) := (if s0 = 0 then (fX10_roomsWished_b77 N h q0 q1 q3 x4 s0 kb kx) else (if x4 ≤ 0 then (fX10_roomsWished_b77 N h q0 q1 q3 x4 s0 kb kx) else ((gR h 2 16 q1).bind fun v_3543 => ((gR h 7 0 v_3543).bind fun v_3545 => ((aJ h v_3545 (x4 - (1 : Int32))).bind fun v_3547 => ((cko h q0 10).bind fun _ => (fX10_liveOne N h q0 ((v_3547).toInt32)).bind fun h_3552 => (fX10_roomsWished_b77 N h_3552 q0 q1 q3 x4 s0 kb kx)))))))
set_option maxRecDepth 10000 in
set_option maxHeartbeats 4000000 in
theorem rX10_roomsWished_b48 {d N : Nat} (hd : 5 ≤ d) {h : iv_H} {q0 : Nat} {q1 : Nat} {q3 : Nat} {x4 : Int32} {s0 : Int32} {kb : iv_H → Int32 → Option (iv_H)} {kx : iv_H → Option (iv_H)} {r : iv_H} {Q : Option Value → iv_H → Prop} (hb : ∀ (h : iv_H) (w4 : Int32), kb h w4 = some r → Rn d 128 none 24 [some (.ref q0), some (.ref q1), none, some (.ref q3), some (.int w4), none, none, none, none] [] h Q) (hk : ∀ (h : iv_H), kx h = some r → Rn d 128 none 173 [none, none, none, none, none, none, none, none, none] [] h Q) (hq : Q none r) (e : fX10_roomsWished_b48 N h q0 q1 q3 x4 s0 kb kx = some r) : Rn d 128 none 48 [some (.ref q0), some (.ref q1), none, some (.ref q3), some (.int x4), none, none, none, none] [.int s0] h Q := by
  have hT := hX10_roomsWished
  unfold fX10_roomsWished_b48 at e
  refine Rn.n hT 2 (pc' := 52) (L' := [some (.ref q0), some (.ref q1), none, some (.ref q3), some (.int x4), some (.int s0), none, none, none]) (st' := [.int s0]) rfl ?_
  by_cases c_3541 : s0 = 0
  · rw [if_pos c_3541] at e
    refine Rn.bt hT rfl rfl rfl (decide_eq_true c_3541) ?_
    exact Rn.weak (ll_s (ll_s (ll_n (ll_s (ll_s (ll_s (ll_n (ll_n (ll_n ll_e))))))))) (rX10_roomsWished_b77 hd hb hk hq e)
  · rw [if_neg c_3541] at e
    refine Rn.bf hT rfl rfl rfl (decide_eq_false c_3541) ?_
    refine Rn.n hT 1 (pc' := 57) (L' := [some (.ref q0), some (.ref q1), none, some (.ref q3), some (.int x4), some (.int s0), none, none, none]) (st' := [.int x4]) rfl ?_
    by_cases c_3542 : x4 ≤ 0
    · rw [if_pos c_3542] at e
      refine Rn.bt hT rfl rfl rfl (decide_eq_true c_3542) ?_
      exact Rn.weak (ll_s (ll_s (ll_n (ll_s (ll_s (ll_s (ll_n (ll_n (ll_n ll_e))))))))) (rX10_roomsWished_b77 hd hb hk hq e)
    · rw [if_neg c_3542] at e
      refine Rn.bf hT rfl rfl rfl (decide_eq_false c_3542) ?_
      refine Rn.n hT 2 (pc' := 62) (L' := [some (.ref q0), some (.ref q1), none, some (.ref q3), some (.int x4), some (.int s0), none, none, none]) (st' := [.ref q1, .ref q0]) rfl ?_
      obtain ⟨v_3543, e_3544, e⟩ := Option.bind_eq_some_iff.mp e
      refine Rn.hp hT rfl rfl (gR_hp e_3544) ?_
      obtain ⟨v_3545, e_3546, e⟩ := Option.bind_eq_some_iff.mp e
      refine Rn.hp hT rfl rfl (gR_hp e_3546) ?_
      refine Rn.n hT 3 (pc' := 72) (L' := [some (.ref q0), some (.ref q1), none, some (.ref q3), some (.int x4), some (.int s0), none, none, none]) (st' := [.int (x4 - (1 : Int32)), .ref v_3545, .ref q0]) rfl ?_
      obtain ⟨v_3547, e_3548, e⟩ := Option.bind_eq_some_iff.mp e
      refine Rn.hp hT rfl rfl (aJ_hp e_3548) ?_
      refine Rn.n hT 1 (pc' := 74) (L' := [some (.ref q0), some (.ref q1), none, some (.ref q3), some (.int x4), some (.int s0), none, none, none]) (st' := [.int ((v_3547).toInt32), .ref q0]) rfl ?_
      obtain ⟨_, e_3550, e⟩ := Option.bind_eq_some_iff.mp e
      obtain ⟨h_3552, e_3549, e⟩ := Option.bind_eq_some_iff.mp e
      refine Rn.call hT rfl rfl rfl (Nat.le_of_ble_eq_true rfl) (rcv_v gX10_liveOne (by omega) e_3550) (rX10_liveOne (by omega) e_3549 ?_)
      show Rn d _ _ 77 [some (.ref q0), some (.ref q1), none, some (.ref q3), some (.int x4), some (.int s0), none, none, none] [] h_3552 Q
      exact Rn.weak (ll_s (ll_s (ll_n (ll_s (ll_s (ll_s (ll_n (ll_n (ll_n ll_e))))))))) (rX10_roomsWished_b77 hd hb hk hq e)
def fX10_roomsWished_l24 (N : Nat) (q0 : Nat) (q1 : Nat) (q3 : Nat) (kx : iv_H → Option (iv_H)) : Nat → iv_H → Int32 → Option (iv_H)
  | 0, _, _ => none
  | n + 1, h, x4 => (if (10 : Int32) < x4 then (kx h) else ((gR h 2 16 q1).bind fun v_3536 => ((gI h 7 1 v_3536).bind fun v_3538 => (if v_3538 < x4 then (fX10_roomsWished_b48 N h q0 q1 q3 x4 (0 : Int32) (fX10_roomsWished_l24 N q0 q1 q3 kx n) kx) else (fX10_roomsWished_b48 N h q0 q1 q3 x4 (1 : Int32) (fX10_roomsWished_l24 N q0 q1 q3 kx n) kx)))))
set_option maxRecDepth 10000 in
set_option maxHeartbeats 4000000 in
theorem rX10_roomsWished_l24 {d N : Nat} (hd : 5 ≤ d) {q0 : Nat} {q1 : Nat} {q3 : Nat} {kx : iv_H → Option (iv_H)} {r : iv_H} {Q : Option Value → iv_H → Prop} (hk : ∀ (h : iv_H), kx h = some r → Rn d 128 none 173 [none, none, none, none, none, none, none, none, none] [] h Q) (hq : Q none r) : ∀ (n : Nat) (h : iv_H) (x4 : Int32), fX10_roomsWished_l24 N q0 q1 q3 kx n h x4 = some r → Rn d 128 none 24 [some (.ref q0), some (.ref q1), none, some (.ref q3), some (.int x4), none, none, none, none] [] h Q := by
  have hT := hX10_roomsWished
  intro n
  induction n with
  | zero =>
    intro h x4 e
    rw [fX10_roomsWished_l24] at e
    cases e
  | succ n ih =>
    intro h x4 e
    rw [fX10_roomsWished_l24] at e
    refine Rn.n hT 2 (pc' := 28) (L' := [some (.ref q0), some (.ref q1), none, some (.ref q3), some (.int x4), none, none, none, none]) (st' := [.int (10 : Int32), .int x4]) rfl ?_
    by_cases c_3535 : (10 : Int32) < x4
    · rw [if_pos c_3535] at e
      refine Rn.bt hT rfl rfl rfl (decide_eq_true c_3535) ?_
      exact Rn.weak (ll_n (ll_n (ll_n (ll_n (ll_n (ll_n (ll_n (ll_n (ll_n ll_e))))))))) (hk h e)
    · rw [if_neg c_3535] at e
      refine Rn.bf hT rfl rfl rfl (decide_eq_false c_3535) ?_
      refine Rn.n hT 2 (pc' := 34) (L' := [some (.ref q0), some (.ref q1), none, some (.ref q3), some (.int x4), none, none, none, none]) (st' := [.ref q1, .int x4]) rfl ?_
      obtain ⟨v_3536, e_3537, e⟩ := Option.bind_eq_some_iff.mp e
      refine Rn.hp hT rfl rfl (gR_hp e_3537) ?_
      obtain ⟨v_3538, e_3539, e⟩ := Option.bind_eq_some_iff.mp e
      refine Rn.hp hT rfl rfl (gI_hp e_3539) ?_
      by_cases c_3540 : v_3538 < x4
      · rw [if_pos c_3540] at e
        refine Rn.bt hT rfl rfl rfl (decide_eq_true c_3540) ?_
        refine Rn.n hT 1 (pc' := 48) (L' := [some (.ref q0), some (.ref q1), none, some (.ref q3), some (.int x4), none, none, none, none]) (st' := [.int (0 : Int32)]) rfl ?_
        exact Rn.weak (ll_s (ll_s (ll_n (ll_s (ll_s (ll_n (ll_n (ll_n (ll_n ll_e))))))))) (rX10_roomsWished_b48 hd ih hk hq e)
      · rw [if_neg c_3540] at e
        refine Rn.bf hT rfl rfl rfl (decide_eq_false c_3540) ?_
        refine Rn.n hT 2 (pc' := 48) (L' := [some (.ref q0), some (.ref q1), none, some (.ref q3), some (.int x4), none, none, none, none]) (st' := [.int (1 : Int32)]) rfl ?_
        exact Rn.weak (ll_s (ll_s (ll_n (ll_s (ll_s (ll_n (ll_n (ll_n (ll_n ll_e))))))))) (rX10_roomsWished_b48 hd ih hk hq e)
def fX10_roomsWished (N : Nat) (h : iv_H) (q0 : Nat) (q1 : Nat) (o2 : Option Nat) (q3 : Nat) : Option (iv_H) := ((cko h q0 10).bind fun _ => (fX10_begin N h q0 q1 o2).bind fun h_3526 => ((gR h_3526 2 9 q1).bind fun v_3527 => ((gI h_3526 1 2 v_3527).bind fun v_3529 => ((fJ7_fill_53178 N h_3526 q3 (((1 : Int32) <<< (v_3529 &&& 31)) - (1 : Int32))).bind fun h_3533 => (fX10_roomsWished_l24 N q0 q1 q3 (fun (h_3534 : iv_H) => some h_3534) N h_3533 (0 : Int32))))))
set_option maxRecDepth 10000 in
set_option maxHeartbeats 4000000 in
theorem rX10_roomsWished {d N : Nat} (hd : 6 ≤ d) {h : iv_H} {q0 : Nat} {q1 : Nat} {o2 : Option Nat} {q3 : Nat} {r : iv_H} {Q : Option Value → iv_H → Prop} (e : fX10_roomsWished N h q0 q1 o2 q3 = some r) (hq : Q none r) : Cl d 128 [.ref q0, .ref q1, iv_rf o2, .ref q3] h Q := by
  obtain ⟨d, rfl⟩ : ∃ k, d = k + 1 := ⟨d - 1, by omega⟩
  have hd : 5 ≤ d := by omega
  have hT := hX10_roomsWished
  unfold fX10_roomsWished at e
  have he : iv_ent 9 [.ref q0, .ref q1, iv_rf o2, .ref q3] = [some (.ref q0), some (.ref q1), some (iv_rf o2), some (.ref q3), none, none, none, none, none] := by cases o2 <;> rfl
  refine Cl.into (by decide) gX10_roomsWished (by rw [he]; rfl) ?_
  rw [he]
  refine Rn.n hT 2 (pc' := 2) (L' := [some (.ref q0), some (.ref q1), some (iv_rf o2), some (.ref q3), none, none, none, none, none]) (st' := [.ref q1, .ref q0]) rfl ?_
  refine Rn.lo hT rfl rfl (L' := [some (.ref q0), some (.ref q1), some (iv_rf o2), some (.ref q3), none, none, none, none, none]) (st' := [iv_rf o2, .ref q1, .ref q0]) (ldN (o := o2) rfl) ?_
  obtain ⟨_, e_3524, e⟩ := Option.bind_eq_some_iff.mp e
  obtain ⟨h_3526, e_3523, e⟩ := Option.bind_eq_some_iff.mp e
  refine Rn.call hT rfl rfl rfl (Nat.le_of_ble_eq_true rfl) (rcv_v gX10_begin (by omega) e_3524) (rX10_begin (by omega) e_3523 ?_)
  show Rn d _ _ 6 [some (.ref q0), some (.ref q1), some (iv_rf o2), some (.ref q3), none, none, none, none, none] [] h_3526 Q
  refine Rn.n hT 3 (pc' := 9) (L' := [some (.ref q0), some (.ref q1), some (iv_rf o2), some (.ref q3), none, none, none, none, none]) (st' := [.ref q1, .int (1 : Int32), .ref q3]) rfl ?_
  obtain ⟨v_3527, e_3528, e⟩ := Option.bind_eq_some_iff.mp e
  refine Rn.hp hT rfl rfl (gR_hp e_3528) ?_
  obtain ⟨v_3529, e_3530, e⟩ := Option.bind_eq_some_iff.mp e
  refine Rn.hp hT rfl rfl (gI_hp e_3530) ?_
  refine Rn.n hT 3 (pc' := 18) (L' := [some (.ref q0), some (.ref q1), some (iv_rf o2), some (.ref q3), none, none, none, none, none]) (st' := [.int (((1 : Int32) <<< (v_3529 &&& 31)) - (1 : Int32)), .ref q3]) rfl ?_
  obtain ⟨h_3533, e_3531, e⟩ := Option.bind_eq_some_iff.mp e
  refine Rn.call hT rfl rfl rfl (Nat.le_of_ble_eq_true rfl) rfl (rJ7_fill_53178 (by omega) e_3531 ?_)
  show Rn d _ _ 21 [some (.ref q0), some (.ref q1), some (iv_rf o2), some (.ref q3), none, none, none, none, none] [] h_3533 Q
  refine Rn.n hT 2 (pc' := 24) (L' := [some (.ref q0), some (.ref q1), some (iv_rf o2), some (.ref q3), some (.int (0 : Int32)), none, none, none, none]) (st' := []) rfl ?_
  refine Rn.weak (ll_s (ll_s (ll_n (ll_s (ll_s (ll_n (ll_n (ll_n (ll_n ll_e))))))))) (rX10_roomsWished_l24 hd (fun h_3534 e => ?_) hq N h_3533 (0 : Int32) e)
  try dsimp only at e
  obtain rfl := Option.some.inj e
  exact Rn.ret hT rfl rfl rfl hq
set_option maxRecDepth 10000 in
theorem hX10_redraws : iv_Tb 129 tX10_redraws := iv_tb_of (m := mX10_redraws) rfl
set_option maxRecDepth 10000 in
theorem gX10_redraws : PG.2 129 = some mX10_redraws := iv_pi_of (t := tX10_redraws) rfl (by decide)
def fX10_redraws_b51 (N : Nat) (h : iv_H) (q0 : Nat) (x3 : Int32)  : Option (Int32 × iv_H) := ((gR h 10 0 q0).bind fun v_3607 => ((cko h v_3607 1).bind fun _ => (fX1_go N h v_3607 x3).bind fun h_3612 => (some ((1 : Int32), h_3612))))
set_option maxRecDepth 10000 in
set_option maxHeartbeats 4000000 in
theorem rX10_redraws_b51 {d N : Nat} (hd : 4 ≤ d) {h : iv_H} {q0 : Nat} {x3 : Int32}  {r : Int32 × iv_H} {Q : Option Value → iv_H → Prop} (hq : Q (some (.int r.1)) r.2) (e : fX10_redraws_b51 N h q0 x3  = some r) : Rn d 129 (some .boolean) 51 [some (.ref q0), none, none, some (.int x3)] [] h Q := by
  have hT := hX10_redraws
  unfold fX10_redraws_b51 at e
  refine Rn.n hT 1 (pc' := 52) (L' := [some (.ref q0), none, none, some (.int x3)]) (st' := [.ref q0]) rfl ?_
  obtain ⟨v_3607, e_3608, e⟩ := Option.bind_eq_some_iff.mp e
  refine Rn.hp hT rfl rfl (gR_hp e_3608) ?_
  refine Rn.n hT 1 (pc' := 56) (L' := [some (.ref q0), none, none, some (.int x3)]) (st' := [.int x3, .ref v_3607]) rfl ?_
  obtain ⟨_, e_3610, e⟩ := Option.bind_eq_some_iff.mp e
  obtain ⟨h_3612, e_3609, e⟩ := Option.bind_eq_some_iff.mp e
  refine Rn.call hT rfl rfl rfl (Nat.le_of_ble_eq_true rfl) (rcv_v gX1_go (by omega) e_3610) (rX1_go (by omega) e_3609 ?_)
  show Rn d _ _ 59 [some (.ref q0), none, none, some (.int x3)] [] h_3612 Q
  refine Rn.n hT 1 (pc' := 60) (L' := [some (.ref q0), none, none, some (.int x3)]) (st' := [.int (1 : Int32)]) rfl ?_
  obtain rfl := Option.some.inj e
  exact Rn.ret hT rfl rfl rfl hq
def fX10_redraws (N : Nat) (h : iv_H) (q0 : Nat) (q1 : Nat) (x2 : Int32) (x3 : Int32) : Option (Int32 × iv_H) := ((gR h 10 0 q0).bind fun v_3578 => ((gR h 2 9 q1).bind fun v_3580 => ((cko h v_3578 1).bind fun _ => (fX1_copyFrom N h v_3578 v_3580).bind fun h_3585 => ((gR h_3585 10 0 q0).bind fun v_3586 => ((gR h_3585 2 14 q1).bind fun v_3588 => ((aJ h_3585 v_3588 x2).bind fun v_3590 => ((gR h_3585 2 15 q1).bind fun v_3592 => ((aI h_3585 v_3592 x2).bind fun v_3594 => ((cko h_3585 v_3586 1).bind fun _ => (fX1_arrange N h_3585 v_3586 v_3590 v_3594).bind fun h_3599 => (if (x3 >>> ((8 : Int32) &&& 31)) = (1 : Int32) then ((gR h_3599 10 0 q0).bind fun v_3601 => ((cko h_3599 v_3601 1).bind fun _ => (fX1_canGo N h_3599 v_3601 x3).bind fun v_3605 => (if v_3605 = 0 then (some ((0 : Int32), h_3599)) else (fX10_redraws_b51 N h_3599 q0 x3)))) else (fX10_redraws_b51 N h_3599 q0 x3)))))))))))
set_option maxRecDepth 10000 in
set_option maxHeartbeats 4000000 in
theorem rX10_redraws {d N : Nat} (hd : 5 ≤ d) {h : iv_H} {q0 : Nat} {q1 : Nat} {x2 : Int32} {x3 : Int32} {r : Int32 × iv_H} {Q : Option Value → iv_H → Prop} (e : fX10_redraws N h q0 q1 x2 x3 = some r) (hq : Q (some (.int r.1)) r.2) : Cl d 129 [.ref q0, .ref q1, .int x2, .int x3] h Q := by
  obtain ⟨d, rfl⟩ : ∃ k, d = k + 1 := ⟨d - 1, by omega⟩
  have hd : 4 ≤ d := by omega
  have hT := hX10_redraws
  unfold fX10_redraws at e
  refine Cl.into (by decide) gX10_redraws rfl ?_
  show Rn d 129 (some .boolean) 0 [some (.ref q0), some (.ref q1), some (.int x2), some (.int x3)] [] h Q
  refine Rn.n hT 1 (pc' := 1) (L' := [some (.ref q0), some (.ref q1), some (.int x2), some (.int x3)]) (st' := [.ref q0]) rfl ?_
  obtain ⟨v_3578, e_3579, e⟩ := Option.bind_eq_some_iff.mp e
  refine Rn.hp hT rfl rfl (gR_hp e_3579) ?_
  refine Rn.n hT 1 (pc' := 5) (L' := [some (.ref q0), some (.ref q1), some (.int x2), some (.int x3)]) (st' := [.ref q1, .ref v_3578]) rfl ?_
  obtain ⟨v_3580, e_3581, e⟩ := Option.bind_eq_some_iff.mp e
  refine Rn.hp hT rfl rfl (gR_hp e_3581) ?_
  obtain ⟨_, e_3583, e⟩ := Option.bind_eq_some_iff.mp e
  obtain ⟨h_3585, e_3582, e⟩ := Option.bind_eq_some_iff.mp e
  refine Rn.call hT rfl rfl rfl (Nat.le_of_ble_eq_true rfl) (rcv_v gX1_copyFrom (by omega) e_3583) (rX1_copyFrom (by omega) e_3582 ?_)
  show Rn d _ _ 11 [some (.ref q0), some (.ref q1), some (.int x2), some (.int x3)] [] h_3585 Q
  refine Rn.n hT 1 (pc' := 12) (L' := [some (.ref q0), some (.ref q1), some (.int x2), some (.int x3)]) (st' := [.ref q0]) rfl ?_
  obtain ⟨v_3586, e_3587, e⟩ := Option.bind_eq_some_iff.mp e
  refine Rn.hp hT rfl rfl (gR_hp e_3587) ?_
  refine Rn.n hT 1 (pc' := 16) (L' := [some (.ref q0), some (.ref q1), some (.int x2), some (.int x3)]) (st' := [.ref q1, .ref v_3586]) rfl ?_
  obtain ⟨v_3588, e_3589, e⟩ := Option.bind_eq_some_iff.mp e
  refine Rn.hp hT rfl rfl (gR_hp e_3589) ?_
  refine Rn.n hT 1 (pc' := 20) (L' := [some (.ref q0), some (.ref q1), some (.int x2), some (.int x3)]) (st' := [.int x2, .ref v_3588, .ref v_3586]) rfl ?_
  obtain ⟨v_3590, e_3591, e⟩ := Option.bind_eq_some_iff.mp e
  refine Rn.hp hT rfl rfl (aJ_hp e_3591) ?_
  refine Rn.n hT 1 (pc' := 22) (L' := [some (.ref q0), some (.ref q1), some (.int x2), some (.int x3)]) (st' := [.ref q1, .long v_3590, .ref v_3586]) rfl ?_
  obtain ⟨v_3592, e_3593, e⟩ := Option.bind_eq_some_iff.mp e
  refine Rn.hp hT rfl rfl (gR_hp e_3593) ?_
  refine Rn.n hT 1 (pc' := 26) (L' := [some (.ref q0), some (.ref q1), some (.int x2), some (.int x3)]) (st' := [.int x2, .ref v_3592, .long v_3590, .ref v_3586]) rfl ?_
  obtain ⟨v_3594, e_3595, e⟩ := Option.bind_eq_some_iff.mp e
  refine Rn.hp hT rfl rfl (aI_hp e_3595) ?_
  obtain ⟨_, e_3597, e⟩ := Option.bind_eq_some_iff.mp e
  obtain ⟨h_3599, e_3596, e⟩ := Option.bind_eq_some_iff.mp e
  refine Rn.call hT rfl rfl rfl (Nat.le_of_ble_eq_true rfl) (rcv_v gX1_arrange (by omega) e_3597) (rX1_arrange (by omega) e_3596 ?_)
  show Rn d _ _ 30 [some (.ref q0), some (.ref q1), some (.int x2), some (.int x3)] [] h_3599 Q
  refine Rn.n hT 4 (pc' := 35) (L' := [some (.ref q0), some (.ref q1), some (.int x2), some (.int x3)]) (st' := [.int (1 : Int32), .int (x3 >>> ((8 : Int32) &&& 31))]) rfl ?_
  by_cases c_3600 : (x3 >>> ((8 : Int32) &&& 31)) = (1 : Int32)
  · rw [if_pos c_3600] at e
    refine Rn.bf hT rfl rfl rfl (decide_eq_false (fun z => z c_3600)) ?_
    refine Rn.n hT 1 (pc' := 39) (L' := [some (.ref q0), some (.ref q1), some (.int x2), some (.int x3)]) (st' := [.ref q0]) rfl ?_
    obtain ⟨v_3601, e_3602, e⟩ := Option.bind_eq_some_iff.mp e
    refine Rn.hp hT rfl rfl (gR_hp e_3602) ?_
    refine Rn.n hT 1 (pc' := 43) (L' := [some (.ref q0), some (.ref q1), some (.int x2), some (.int x3)]) (st' := [.int x3, .ref v_3601]) rfl ?_
    obtain ⟨_, e_3604, e⟩ := Option.bind_eq_some_iff.mp e
    obtain ⟨v_3605, e_3603, e⟩ := Option.bind_eq_some_iff.mp e
    refine Rn.call hT rfl rfl rfl (Nat.le_of_ble_eq_true rfl) (rcv_v gX1_canGo (by omega) e_3604) (rX1_canGo (by omega) e_3603 ?_)
    show Rn d _ _ 46 [some (.ref q0), some (.ref q1), some (.int x2), some (.int x3)] [.int v_3605] h_3599 Q
    by_cases c_3606 : v_3605 = 0
    · rw [if_pos c_3606] at e
      refine Rn.bf hT rfl rfl rfl (decide_eq_false (fun z => z c_3606)) ?_
      refine Rn.n hT 1 (pc' := 50) (L' := [some (.ref q0), some (.ref q1), some (.int x2), some (.int x3)]) (st' := [.int (0 : Int32)]) rfl ?_
      obtain rfl := Option.some.inj e
      exact Rn.ret hT rfl rfl rfl hq
    · rw [if_neg c_3606] at e
      refine Rn.bt hT rfl rfl rfl (decide_eq_true c_3606) ?_
      exact Rn.weak (ll_s (ll_n (ll_n (ll_s ll_e)))) (rX10_redraws_b51 hd hq e)
  · rw [if_neg c_3600] at e
    refine Rn.bt hT rfl rfl rfl (decide_eq_true c_3600) ?_
    exact Rn.weak (ll_s (ll_n (ll_n (ll_s ll_e)))) (rX10_redraws_b51 hd hq e)
set_option maxRecDepth 10000 in
theorem hX10_isAsTheyWoke : iv_Tb 132 tX10_isAsTheyWoke := iv_tb_of (m := mX10_isAsTheyWoke) rfl
set_option maxRecDepth 10000 in
theorem gX10_isAsTheyWoke : PG.2 132 = some mX10_isAsTheyWoke := iv_pi_of (t := tX10_isAsTheyWoke) rfl (by decide)
def fX10_isAsTheyWoke_l2 (N : Nat) (h : iv_H) (q0 : Nat) (q1 : Nat) (kx : Unit → Option (Int32)) : Nat → Int32 → Option (Int32)
  | 0, _ => none
  | n + 1, x2 => ((gR h 2 18 q1).bind fun v_3613 => ((gI h 7 1 v_3613).bind fun v_3615 => (if v_3615 ≤ x2 then (kx ()) else ((gR h 2 18 q1).bind fun v_3618 => ((gR h 7 0 v_3618).bind fun v_3620 => ((aJ h v_3620 x2).bind fun v_3622 => ((gR h 10 0 q0).bind fun v_3624 => ((gR h 1 5 v_3624).bind fun v_3626 => ((aI h v_3626 ((v_3622).toInt32 >>> ((4 : Int32) &&& 31))).bind fun v_3628 => (if v_3628 = ((v_3622).toInt32 &&& (15 : Int32)) then (fX10_isAsTheyWoke_l2 N h q0 q1 kx n (x2 + (1 : Int32))) else (some (0 : Int32))))))))))))
set_option maxRecDepth 10000 in
set_option maxHeartbeats 4000000 in
theorem rX10_isAsTheyWoke_l2 {d N : Nat} (hd : 0 ≤ d) {h : iv_H} {q0 : Nat} {q1 : Nat} {kx : Unit → Option (Int32)} {r : Int32} {Q : Option Value → iv_H → Prop} (hk : ∀ (u : Unit), kx u = some r → Rn d 132 (some .boolean) 50 [none, none, none, none] [] h Q) (hq : Q (some (.int r)) h) : ∀ (n : Nat) (x2 : Int32), fX10_isAsTheyWoke_l2 N h q0 q1 kx n x2 = some r → Rn d 132 (some .boolean) 2 [some (.ref q0), some (.ref q1), some (.int x2), none] [] h Q := by
  have hT := hX10_isAsTheyWoke
  intro n
  induction n with
  | zero =>
    intro x2 e
    rw [fX10_isAsTheyWoke_l2] at e
    cases e
  | succ n ih =>
    intro x2 e
    rw [fX10_isAsTheyWoke_l2] at e
    refine Rn.n hT 2 (pc' := 4) (L' := [some (.ref q0), some (.ref q1), some (.int x2), none]) (st' := [.ref q1, .int x2]) rfl ?_
    obtain ⟨v_3613, e_3614, e⟩ := Option.bind_eq_some_iff.mp e
    refine Rn.hp hT rfl rfl (gR_hp e_3614) ?_
    obtain ⟨v_3615, e_3616, e⟩ := Option.bind_eq_some_iff.mp e
    refine Rn.hp hT rfl rfl (gI_hp e_3616) ?_
    by_cases c_3617 : v_3615 ≤ x2
    · rw [if_pos c_3617] at e
      refine Rn.bt hT rfl rfl rfl (decide_eq_true c_3617) ?_
      exact Rn.weak (ll_n (ll_n (ll_n (ll_n ll_e)))) (hk () e)
    · rw [if_neg c_3617] at e
      refine Rn.bf hT rfl rfl rfl (decide_eq_false c_3617) ?_
      refine Rn.n hT 1 (pc' := 14) (L' := [some (.ref q0), some (.ref q1), some (.int x2), none]) (st' := [.ref q1]) rfl ?_
      obtain ⟨v_3618, e_3619, e⟩ := Option.bind_eq_some_iff.mp e
      refine Rn.hp hT rfl rfl (gR_hp e_3619) ?_
      obtain ⟨v_3620, e_3621, e⟩ := Option.bind_eq_some_iff.mp e
      refine Rn.hp hT rfl rfl (gR_hp e_3621) ?_
      refine Rn.n hT 1 (pc' := 21) (L' := [some (.ref q0), some (.ref q1), some (.int x2), none]) (st' := [.int x2, .ref v_3620]) rfl ?_
      obtain ⟨v_3622, e_3623, e⟩ := Option.bind_eq_some_iff.mp e
      refine Rn.hp hT rfl rfl (aJ_hp e_3623) ?_
      refine Rn.n hT 3 (pc' := 25) (L' := [some (.ref q0), some (.ref q1), some (.int x2), some (.int ((v_3622).toInt32))]) (st' := [.ref q0]) rfl ?_
      obtain ⟨v_3624, e_3625, e⟩ := Option.bind_eq_some_iff.mp e
      refine Rn.hp hT rfl rfl (gR_hp e_3625) ?_
      obtain ⟨v_3626, e_3627, e⟩ := Option.bind_eq_some_iff.mp e
      refine Rn.hp hT rfl rfl (gR_hp e_3627) ?_
      refine Rn.n hT 3 (pc' := 34) (L' := [some (.ref q0), some (.ref q1), some (.int x2), some (.int ((v_3622).toInt32))]) (st' := [.int ((v_3622).toInt32 >>> ((4 : Int32) &&& 31)), .ref v_3626]) rfl ?_
      obtain ⟨v_3628, e_3629, e⟩ := Option.bind_eq_some_iff.mp e
      refine Rn.hp hT rfl rfl (aI_hp e_3629) ?_
      refine Rn.n hT 3 (pc' := 39) (L' := [some (.ref q0), some (.ref q1), some (.int x2), some (.int ((v_3622).toInt32))]) (st' := [.int ((v_3622).toInt32 &&& (15 : Int32)), .int v_3628]) rfl ?_
      by_cases c_3630 : v_3628 = ((v_3622).toInt32 &&& (15 : Int32))
      · rw [if_pos c_3630] at e
        refine Rn.bt hT rfl rfl rfl (decide_eq_true c_3630) ?_
        refine Rn.n hT 2 (pc' := 2) (L' := [some (.ref q0), some (.ref q1), some (.int (x2 + (1 : Int32))), some (.int ((v_3622).toInt32))]) (st' := []) rfl ?_
        exact Rn.weak (ll_s (ll_s (ll_s (ll_n ll_e)))) (ih (x2 + (1 : Int32)) e)
      · rw [if_neg c_3630] at e
        refine Rn.bf hT rfl rfl rfl (decide_eq_false c_3630) ?_
        refine Rn.n hT 1 (pc' := 43) (L' := [some (.ref q0), some (.ref q1), some (.int x2), some (.int ((v_3622).toInt32))]) (st' := [.int (0 : Int32)]) rfl ?_
        obtain rfl := Option.some.inj e
        exact Rn.ret hT rfl rfl rfl hq
def fX10_isAsTheyWoke (N : Nat) (h : iv_H) (q0 : Nat) (q1 : Nat) : Option (Int32) := (fX10_isAsTheyWoke_l2 N h q0 q1 (fun (_ : Unit) => (some (1 : Int32))) N (0 : Int32))
set_option maxRecDepth 10000 in
set_option maxHeartbeats 4000000 in
theorem rX10_isAsTheyWoke {d N : Nat} (hd : 1 ≤ d) {h : iv_H} {q0 : Nat} {q1 : Nat} {r : Int32} {Q : Option Value → iv_H → Prop} (e : fX10_isAsTheyWoke N h q0 q1 = some r) (hq : Q (some (.int r)) h) : Cl d 132 [.ref q0, .ref q1] h Q := by
  obtain ⟨d, rfl⟩ : ∃ k, d = k + 1 := ⟨d - 1, by omega⟩
  have hd : 0 ≤ d := by omega
  have hT := hX10_isAsTheyWoke
  unfold fX10_isAsTheyWoke at e
  refine Cl.into (by decide) gX10_isAsTheyWoke rfl ?_
  show Rn d 132 (some .boolean) 0 [some (.ref q0), some (.ref q1), none, none] [] h Q
  refine Rn.n hT 2 (pc' := 2) (L' := [some (.ref q0), some (.ref q1), some (.int (0 : Int32)), none]) (st' := []) rfl ?_
  refine Rn.weak (ll_s (ll_s (ll_s (ll_n ll_e)))) (rX10_isAsTheyWoke_l2 hd (fun _ e => ?_) hq N (0 : Int32) e)
  try dsimp only at e
  refine Rn.n hT 1 (pc' := 51) (L' := [none, none, none, none]) (st' := [.int (1 : Int32)]) rfl ?_
  obtain rfl := Option.some.inj e
  exact Rn.ret hT rfl rfl rfl hq
set_option maxRecDepth 10000 in
theorem hX10_tally : iv_Tb 133 tX10_tally := iv_tb_of (m := mX10_tally) rfl
set_option maxRecDepth 10000 in
theorem gX10_tally : PG.2 133 = some mX10_tally := iv_pi_of (t := tX10_tally) rfl (by decide)
def fX10_tally_b69 (N : Nat) (h : iv_H) (q0 : Nat) (x1 : Int32) (x2 : Int32)  (kb : iv_H → Int32 → Option (iv_H)) (kx : iv_H → Option (iv_H)) : Option (iv_H) := (kb h (x2 + (1 : Int32)))
set_option maxRecDepth 10000 in
set_option maxHeartbeats 4000000 in
theorem rX10_tally_b69 {d N : Nat} (hd : 0 ≤ d) {h : iv_H} {q0 : Nat} {x1 : Int32} {x2 : Int32}  {kb : iv_H → Int32 → Option (iv_H)} {kx : iv_H → Option (iv_H)} {r : iv_H} {Q : Option Value → iv_H → Prop} (hb : ∀ (h : iv_H) (w2 : Int32), kb h w2 = some r → Rn d 133 none 12 [some (.ref q0), some (.int x1), some (.int w2)] [] h Q) (hk : ∀ (h : iv_H), kx h = some r → Rn d 133 none 75 [none, none, none] [] h Q) (hq : Q none r) (e : fX10_tally_b69 N h q0 x1 x2  kb kx = some r) : Rn d 133 none 69 [some (.ref q0), some (.int x1), some (.int x2)] [] h Q := by
  have hT := hX10_tally
  unfold fX10_tally_b69 at e
  refine Rn.n hT 2 (pc' := 12) (L' := [some (.ref q0), some (.int x1), some (.int (x2 + (1 : Int32)))]) (st' := []) rfl ?_
  exact Rn.weak (ll_s (ll_s (ll_s ll_e))) (hb h (x2 + (1 : Int32)) e)
def fX10_tally_l12 (N : Nat) (q0 : Nat) (x1 : Int32) (kx : iv_H → Option (iv_H)) : Nat → iv_H → Int32 → Option (iv_H)
  | 0, _, _ => none
  | n + 1, h, x2 => (if x1 ≤ x2 then (kx h) else (if (3 : Int32) ≤ x2 then (kx h) else ((gR h 10 6 q0).bind fun v_3640 => ((gR h 10 3 q0).bind fun v_3642 => ((aR h v_3642 x2).bind fun v_3644 => ((gR h 10 4 q0).bind fun v_3646 => ((aI h v_3646 x2).bind fun v_3648 => ((aI h v_3644 v_3648).bind fun v_3650 => ((aI h v_3640 (v_3650 >>> ((8 : Int32) &&& 31))).bind fun v_3652 => ((wI h v_3640 (v_3650 >>> ((8 : Int32) &&& 31)) (v_3652 + (1 : Int32))).bind fun h_3654 => ((gR h_3654 10 6 q0).bind fun v_3656 => ((aI h_3654 v_3656 (0 : Int32)).bind fun v_3658 => (if v_3658 = (1 : Int32) then ((gR h_3654 10 5 q0).bind fun v_3661 => ((gR h_3654 10 4 q0).bind fun v_3663 => ((aI h_3654 v_3663 x2).bind fun v_3665 => ((wI h_3654 v_3661 x2 v_3665).bind fun h_3667 => (fX10_tally_b69 N h_3667 q0 x1 x2 (fX10_tally_l12 N q0 x1 kx n) kx))))) else (fX10_tally_b69 N h_3654 q0 x1 x2 (fX10_tally_l12 N q0 x1 kx n) kx))))))))))))))
set_option maxRecDepth 10000 in
set_option maxHeartbeats 4000000 in
theorem rX10_tally_l12 {d N : Nat} (hd : 0 ≤ d) {q0 : Nat} {x1 : Int32} {kx : iv_H → Option (iv_H)} {r : iv_H} {Q : Option Value → iv_H → Prop} (hk : ∀ (h : iv_H), kx h = some r → Rn d 133 none 75 [none, none, none] [] h Q) (hq : Q none r) : ∀ (n : Nat) (h : iv_H) (x2 : Int32), fX10_tally_l12 N q0 x1 kx n h x2 = some r → Rn d 133 none 12 [some (.ref q0), some (.int x1), some (.int x2)] [] h Q := by
  have hT := hX10_tally
  intro n
  induction n with
  | zero =>
    intro h x2 e
    rw [fX10_tally_l12] at e
    cases e
  | succ n ih =>
    intro h x2 e
    rw [fX10_tally_l12] at e
    refine Rn.n hT 2 (pc' := 14) (L' := [some (.ref q0), some (.int x1), some (.int x2)]) (st' := [.int x1, .int x2]) rfl ?_
    by_cases c_3638 : x1 ≤ x2
    · rw [if_pos c_3638] at e
      refine Rn.bt hT rfl rfl rfl (decide_eq_true c_3638) ?_
      exact Rn.weak (ll_n (ll_n (ll_n ll_e))) (hk h e)
    · rw [if_neg c_3638] at e
      refine Rn.bf hT rfl rfl rfl (decide_eq_false c_3638) ?_
      refine Rn.n hT 2 (pc' := 19) (L' := [some (.ref q0), some (.int x1), some (.int x2)]) (st' := [.int (3 : Int32), .int x2]) rfl ?_
      by_cases c_3639 : (3 : Int32) ≤ x2
      · rw [if_pos c_3639] at e
        refine Rn.bt hT rfl rfl rfl (decide_eq_true c_3639) ?_
        exact Rn.weak (ll_n (ll_n (ll_n ll_e))) (hk h e)
      · rw [if_neg c_3639] at e
        refine Rn.bf hT rfl rfl rfl (decide_eq_false c_3639) ?_
        refine Rn.n hT 1 (pc' := 23) (L' := [some (.ref q0), some (.int x1), some (.int x2)]) (st' := [.ref q0]) rfl ?_
        obtain ⟨v_3640, e_3641, e⟩ := Option.bind_eq_some_iff.mp e
        refine Rn.hp hT rfl rfl (gR_hp e_3641) ?_
        refine Rn.n hT 1 (pc' := 27) (L' := [some (.ref q0), some (.int x1), some (.int x2)]) (st' := [.ref q0, .ref v_3640]) rfl ?_
        obtain ⟨v_3642, e_3643, e⟩ := Option.bind_eq_some_iff.mp e
        refine Rn.hp hT rfl rfl (gR_hp e_3643) ?_
        refine Rn.n hT 1 (pc' := 31) (L' := [some (.ref q0), some (.int x1), some (.int x2)]) (st' := [.int x2, .ref v_3642, .ref v_3640]) rfl ?_
        obtain ⟨v_3644, e_3645, e⟩ := Option.bind_eq_some_iff.mp e
        refine Rn.hp hT rfl rfl (aR_hp e_3645) ?_
        refine Rn.n hT 1 (pc' := 33) (L' := [some (.ref q0), some (.int x1), some (.int x2)]) (st' := [.ref q0, .ref v_3644, .ref v_3640]) rfl ?_
        obtain ⟨v_3646, e_3647, e⟩ := Option.bind_eq_some_iff.mp e
        refine Rn.hp hT rfl rfl (gR_hp e_3647) ?_
        refine Rn.n hT 1 (pc' := 37) (L' := [some (.ref q0), some (.int x1), some (.int x2)]) (st' := [.int x2, .ref v_3646, .ref v_3644, .ref v_3640]) rfl ?_
        obtain ⟨v_3648, e_3649, e⟩ := Option.bind_eq_some_iff.mp e
        refine Rn.hp hT rfl rfl (aI_hp e_3649) ?_
        obtain ⟨v_3650, e_3651, e⟩ := Option.bind_eq_some_iff.mp e
        refine Rn.hp hT rfl rfl (aI_hp e_3651) ?_
        refine Rn.n hT 3 (pc' := 43) (L' := [some (.ref q0), some (.int x1), some (.int x2)]) (st' := [.int (v_3650 >>> ((8 : Int32) &&& 31)), .ref v_3640, .int (v_3650 >>> ((8 : Int32) &&& 31)), .ref v_3640]) rfl ?_
        obtain ⟨v_3652, e_3653, e⟩ := Option.bind_eq_some_iff.mp e
        refine Rn.hp hT rfl rfl (aI_hp e_3653) ?_
        refine Rn.n hT 2 (pc' := 46) (L' := [some (.ref q0), some (.int x1), some (.int x2)]) (st' := [.int (v_3652 + (1 : Int32)), .int (v_3650 >>> ((8 : Int32) &&& 31)), .ref v_3640]) rfl ?_
        obtain ⟨h_3654, e_3655, e⟩ := Option.bind_eq_some_iff.mp e
        refine Rn.hp hT rfl rfl (wI_hp e_3655) ?_
        refine Rn.n hT 1 (pc' := 48) (L' := [some (.ref q0), some (.int x1), some (.int x2)]) (st' := [.ref q0]) rfl ?_
        obtain ⟨v_3656, e_3657, e⟩ := Option.bind_eq_some_iff.mp e
        refine Rn.hp hT rfl rfl (gR_hp e_3657) ?_
        refine Rn.n hT 1 (pc' := 52) (L' := [some (.ref q0), some (.int x1), some (.int x2)]) (st' := [.int (0 : Int32), .ref v_3656]) rfl ?_
        obtain ⟨v_3658, e_3659, e⟩ := Option.bind_eq_some_iff.mp e
        refine Rn.hp hT rfl rfl (aI_hp e_3659) ?_
        refine Rn.n hT 1 (pc' := 54) (L' := [some (.ref q0), some (.int x1), some (.int x2)]) (st' := [.int (1 : Int32), .int v_3658]) rfl ?_
        by_cases c_3660 : v_3658 = (1 : Int32)
        · rw [if_pos c_3660] at e
          refine Rn.bf hT rfl rfl rfl (decide_eq_false (fun z => z c_3660)) ?_
          refine Rn.n hT 1 (pc' := 58) (L' := [some (.ref q0), some (.int x1), some (.int x2)]) (st' := [.ref q0]) rfl ?_
          obtain ⟨v_3661, e_3662, e⟩ := Option.bind_eq_some_iff.mp e
          refine Rn.hp hT rfl rfl (gR_hp e_3662) ?_
          refine Rn.n hT 2 (pc' := 63) (L' := [some (.ref q0), some (.int x1), some (.int x2)]) (st' := [.ref q0, .int x2, .ref v_3661]) rfl ?_
          obtain ⟨v_3663, e_3664, e⟩ := Option.bind_eq_some_iff.mp e
          refine Rn.hp hT rfl rfl (gR_hp e_3664) ?_
          refine Rn.n hT 1 (pc' := 67) (L' := [some (.ref q0), some (.int x1), some (.int x2)]) (st' := [.int x2, .ref v_3663, .int x2, .ref v_3661]) rfl ?_
          obtain ⟨v_3665, e_3666, e⟩ := Option.bind_eq_some_iff.mp e
          refine Rn.hp hT rfl rfl (aI_hp e_3666) ?_
          obtain ⟨h_3667, e_3668, e⟩ := Option.bind_eq_some_iff.mp e
          refine Rn.hp hT rfl rfl (wI_hp e_3668) ?_
          exact Rn.weak (ll_s (ll_s (ll_s ll_e))) (rX10_tally_b69 hd ih hk hq e)
        · rw [if_neg c_3660] at e
          refine Rn.bt hT rfl rfl rfl (decide_eq_true c_3660) ?_
          exact Rn.weak (ll_s (ll_s (ll_s ll_e))) (rX10_tally_b69 hd ih hk hq e)
def fX10_tally_b75 (N : Nat) (h : iv_H)   : Option (iv_H) := some h
set_option maxRecDepth 10000 in
set_option maxHeartbeats 4000000 in
theorem rX10_tally_b75 {d N : Nat} (hd : 0 ≤ d) {h : iv_H}   {r : iv_H} {Q : Option Value → iv_H → Prop} (hq : Q none r) (e : fX10_tally_b75 N h   = some r) : Rn d 133 none 75 [none, none, none] [] h Q := by
  have hT := hX10_tally
  unfold fX10_tally_b75 at e
  obtain rfl := Option.some.inj e
  exact Rn.ret hT rfl rfl rfl hq
def fX10_tally (N : Nat) (h : iv_H) (q0 : Nat) (x1 : Int32) : Option (iv_H) := ((gR h 10 6 q0).bind fun v_3631 => ((aI h v_3631 (0 : Int32)).bind fun v_3633 => ((wI h v_3631 (0 : Int32) (v_3633 + (1 : Int32))).bind fun h_3635 => (fX10_tally_l12 N q0 x1 (fun (h_3637 : iv_H) => (fX10_tally_b75 N h_3637)) N h_3635 (0 : Int32)))))
set_option maxRecDepth 10000 in
set_option maxHeartbeats 4000000 in
theorem rX10_tally {d N : Nat} (hd : 1 ≤ d) {h : iv_H} {q0 : Nat} {x1 : Int32} {r : iv_H} {Q : Option Value → iv_H → Prop} (e : fX10_tally N h q0 x1 = some r) (hq : Q none r) : Cl d 133 [.ref q0, .int x1] h Q := by
  obtain ⟨d, rfl⟩ : ∃ k, d = k + 1 := ⟨d - 1, by omega⟩
  have hd : 0 ≤ d := by omega
  have hT := hX10_tally
  unfold fX10_tally at e
  refine Cl.into (by decide) gX10_tally rfl ?_
  show Rn d 133 none 0 [some (.ref q0), some (.int x1), none] [] h Q
  refine Rn.n hT 1 (pc' := 1) (L' := [some (.ref q0), some (.int x1), none]) (st' := [.ref q0]) rfl ?_
  obtain ⟨v_3631, e_3632, e⟩ := Option.bind_eq_some_iff.mp e
  refine Rn.hp hT rfl rfl (gR_hp e_3632) ?_
  refine Rn.n hT 2 (pc' := 6) (L' := [some (.ref q0), some (.int x1), none]) (st' := [.int (0 : Int32), .ref v_3631, .int (0 : Int32), .ref v_3631]) rfl ?_
  obtain ⟨v_3633, e_3634, e⟩ := Option.bind_eq_some_iff.mp e
  refine Rn.hp hT rfl rfl (aI_hp e_3634) ?_
  refine Rn.n hT 2 (pc' := 9) (L' := [some (.ref q0), some (.int x1), none]) (st' := [.int (v_3633 + (1 : Int32)), .int (0 : Int32), .ref v_3631]) rfl ?_
  obtain ⟨h_3635, e_3636, e⟩ := Option.bind_eq_some_iff.mp e
  refine Rn.hp hT rfl rfl (wI_hp e_3636) ?_
  refine Rn.n hT 2 (pc' := 12) (L' := [some (.ref q0), some (.int x1), some (.int (0 : Int32))]) (st' := []) rfl ?_
  refine Rn.weak (ll_s (ll_s (ll_s ll_e))) (rX10_tally_l12 hd (fun h_3637 e => ?_) hq N h_3635 (0 : Int32) e)
  try dsimp only at e
  exact Rn.weak (ll_n (ll_n (ll_n ll_e))) (rX10_tally_b75 hd hq e)
set_option maxRecDepth 10000 in
theorem hX10_goRows : iv_Tb 131 tX10_goRows := iv_tb_of (m := mX10_goRows) rfl
set_option maxRecDepth 10000 in
theorem gX10_goRows : PG.2 131 = some mX10_goRows := iv_pi_of (t := tX10_goRows) rfl (by decide)
def fX10_goRows_b23 (N : Nat) (rc : iv_H → Nat → Nat → Int32 → Int32 → Option iv_H) (h : iv_H)   : Option (iv_H) := some h
set_option maxRecDepth 10000 in
set_option maxHeartbeats 4000000 in
theorem rX10_goRows_b23 {d N : Nat} (hd : 5 ≤ d) {rc : iv_H → Nat → Nat → Int32 → Int32 → Option iv_H} (hrc : ∀ {h : iv_H} {q0 q1 : Nat} {x2 x3 : Int32} {r : iv_H} {Q : Option Value → iv_H → Prop}, rc h q0 q1 x2 x3 = some r → Q none r → Cl d 131 [.ref q0, .ref q1, .int x2, .int x3] h Q) {h : iv_H}   {r : iv_H} {Q : Option Value → iv_H → Prop} (hq : Q none r) (e : fX10_goRows_b23 N rc h   = some r) : Rn d 131 none 23 [none, none, none, none, none, none, none, none] [] h Q := by
  have hT := hX10_goRows
  unfold fX10_goRows_b23 at e
  obtain rfl := Option.some.inj e
  exact Rn.ret hT rfl rfl rfl hq
def fX10_goRows_b10 (N : Nat) (rc : iv_H → Nat → Nat → Int32 → Int32 → Option iv_H) (h : iv_H) (q0 : Nat) (q1 : Nat) (x3 : Int32)  : Option (iv_H) := ((cko h q0 10).bind fun _ => (fX10_isAsTheyWoke N h q0 q1).bind fun v_3689 => (if v_3689 = 0 then (fX10_goRows_b23 N rc h) else ((cko h q0 10).bind fun _ => (fX10_tally N h q0 x3).bind fun h_3694 => (fX10_goRows_b23 N rc h_3694))))
set_option maxRecDepth 10000 in
set_option maxHeartbeats 4000000 in
theorem rX10_goRows_b10 {d N : Nat} (hd : 5 ≤ d) {rc : iv_H → Nat → Nat → Int32 → Int32 → Option iv_H} (hrc : ∀ {h : iv_H} {q0 q1 : Nat} {x2 x3 : Int32} {r : iv_H} {Q : Option Value → iv_H → Prop}, rc h q0 q1 x2 x3 = some r → Q none r → Cl d 131 [.ref q0, .ref q1, .int x2, .int x3] h Q) {h : iv_H} {q0 : Nat} {q1 : Nat} {x3 : Int32}  {r : iv_H} {Q : Option Value → iv_H → Prop} (hq : Q none r) (e : fX10_goRows_b10 N rc h q0 q1 x3  = some r) : Rn d 131 none 10 [some (.ref q0), some (.ref q1), none, some (.int x3), none, none, none, none] [] h Q := by
  have hT := hX10_goRows
  unfold fX10_goRows_b10 at e
  refine Rn.n hT 2 (pc' := 12) (L' := [some (.ref q0), some (.ref q1), none, some (.int x3), none, none, none, none]) (st' := [.ref q1, .ref q0]) rfl ?_
  obtain ⟨_, e_3688, e⟩ := Option.bind_eq_some_iff.mp e
  obtain ⟨v_3689, e_3687, e⟩ := Option.bind_eq_some_iff.mp e
  refine Rn.call hT rfl rfl rfl (Nat.le_of_ble_eq_true rfl) (rcv_v gX10_isAsTheyWoke (by omega) e_3688) (rX10_isAsTheyWoke (by omega) e_3687 ?_)
  show Rn d _ _ 15 [some (.ref q0), some (.ref q1), none, some (.int x3), none, none, none, none] [.int v_3689] h Q
  by_cases c_3690 : v_3689 = 0
  · rw [if_pos c_3690] at e
    refine Rn.bt hT rfl rfl rfl (decide_eq_true c_3690) ?_
    exact Rn.weak (ll_n (ll_n (ll_n (ll_n (ll_n (ll_n (ll_n (ll_n ll_e)))))))) (rX10_goRows_b23 hd hrc hq e)
  · rw [if_neg c_3690] at e
    refine Rn.bf hT rfl rfl rfl (decide_eq_false c_3690) ?_
    refine Rn.n hT 2 (pc' := 20) (L' := [some (.ref q0), some (.ref q1), none, some (.int x3), none, none, none, none]) (st' := [.int x3, .ref q0]) rfl ?_
    obtain ⟨_, e_3692, e⟩ := Option.bind_eq_some_iff.mp e
    obtain ⟨h_3694, e_3691, e⟩ := Option.bind_eq_some_iff.mp e
    refine Rn.call hT rfl rfl rfl (Nat.le_of_ble_eq_true rfl) (rcv_v gX10_tally (by omega) e_3692) (rX10_tally (by omega) e_3691 ?_)
    show Rn d _ _ 23 [some (.ref q0), some (.ref q1), none, some (.int x3), none, none, none, none] [] h_3694 Q
    exact Rn.weak (ll_n (ll_n (ll_n (ll_n (ll_n (ll_n (ll_n (ll_n ll_e)))))))) (rX10_goRows_b23 hd hrc hq e)
def fX10_goRows_b96 (N : Nat) (rc : iv_H → Nat → Nat → Int32 → Int32 → Option iv_H) (h : iv_H) (q0 : Nat) (q1 : Nat) (x2 : Int32) (x3 : Int32) (q4 : Nat) (x5 : Int32) (x6 : Int32) (x7 : Int32)  (kb : iv_H → Int32 → Option (iv_H)) (kx : iv_H → Option (iv_H)) : Option (iv_H) := ((cko h q0 10).bind fun _ => (rc h q0 q1 (x2 + (1 : Int32)) x3).bind fun h_3718 => ((gR h_3718 10 0 q0).bind fun v_3719 => ((aI h_3718 q4 x7).bind fun v_3721 => ((cko h_3718 v_3719 1).bind fun _ => (fX1_goBack N h_3718 v_3719 v_3721).bind fun h_3726 => ((gR h_3726 10 1 q0).bind fun v_3727 => ((pV h_3726 3 5 v_3727 (.int x6)).bind fun h_3729 => (kb h_3729 (x7 + (1 : Int32)))))))))
set_option maxRecDepth 10000 in
set_option maxHeartbeats 4000000 in
theorem rX10_goRows_b96 {d N : Nat} (hd : 5 ≤ d) {rc : iv_H → Nat → Nat → Int32 → Int32 → Option iv_H} (hrc : ∀ {h : iv_H} {q0 q1 : Nat} {x2 x3 : Int32} {r : iv_H} {Q : Option Value → iv_H → Prop}, rc h q0 q1 x2 x3 = some r → Q none r → Cl d 131 [.ref q0, .ref q1, .int x2, .int x3] h Q) {h : iv_H} {q0 : Nat} {q1 : Nat} {x2 : Int32} {x3 : Int32} {q4 : Nat} {x5 : Int32} {x6 : Int32} {x7 : Int32}  {kb : iv_H → Int32 → Option (iv_H)} {kx : iv_H → Option (iv_H)} {r : iv_H} {Q : Option Value → iv_H → Prop} (hb : ∀ (h : iv_H) (w7 : Int32), kb h w7 = some r → Rn d 131 none 55 [some (.ref q0), some (.ref q1), some (.int x2), some (.int x3), some (.ref q4), some (.int x5), some (.int x6), some (.int w7)] [] h Q) (hk : ∀ (h : iv_H), kx h = some r → Rn d 131 none 132 [none, none, none, none, none, none, none, none] [] h Q) (hq : Q none r) (e : fX10_goRows_b96 N rc h q0 q1 x2 x3 q4 x5 x6 x7  kb kx = some r) : Rn d 131 none 96 [some (.ref q0), some (.ref q1), some (.int x2), some (.int x3), some (.ref q4), some (.int x5), some (.int x6), some (.int x7)] [] h Q := by
  have hT := hX10_goRows
  unfold fX10_goRows_b96 at e
  refine Rn.n hT 6 (pc' := 102) (L' := [some (.ref q0), some (.ref q1), some (.int x2), some (.int x3), some (.ref q4), some (.int x5), some (.int x6), some (.int x7)]) (st' := [.int x3, .int (x2 + (1 : Int32)), .ref q1, .ref q0]) rfl ?_
  obtain ⟨_, e_3716, e⟩ := Option.bind_eq_some_iff.mp e
  obtain ⟨h_3718, e_3715, e⟩ := Option.bind_eq_some_iff.mp e
  refine Rn.call hT rfl rfl rfl (Nat.le_of_ble_eq_true rfl) (rcv_v gX10_goRows (by omega) e_3716) (hrc e_3715 ?_)
  show Rn d _ _ 105 [some (.ref q0), some (.ref q1), some (.int x2), some (.int x3), some (.ref q4), some (.int x5), some (.int x6), some (.int x7)] [] h_3718 Q
  refine Rn.n hT 1 (pc' := 106) (L' := [some (.ref q0), some (.ref q1), some (.int x2), some (.int x3), some (.ref q4), some (.int x5), some (.int x6), some (.int x7)]) (st' := [.ref q0]) rfl ?_
  obtain ⟨v_3719, e_3720, e⟩ := Option.bind_eq_some_iff.mp e
  refine Rn.hp hT rfl rfl (gR_hp e_3720) ?_
  refine Rn.n hT 2 (pc' := 113) (L' := [some (.ref q0), some (.ref q1), some (.int x2), some (.int x3), some (.ref q4), some (.int x5), some (.int x6), some (.int x7)]) (st' := [.int x7, .ref q4, .ref v_3719]) rfl ?_
  obtain ⟨v_3721, e_3722, e⟩ := Option.bind_eq_some_iff.mp e
  refine Rn.hp hT rfl rfl (aI_hp e_3722) ?_
  obtain ⟨_, e_3724, e⟩ := Option.bind_eq_some_iff.mp e
  obtain ⟨h_3726, e_3723, e⟩ := Option.bind_eq_some_iff.mp e
  refine Rn.call hT rfl rfl rfl (Nat.le_of_ble_eq_true rfl) (rcv_v gX1_goBack (by omega) e_3724) (rX1_goBack (by omega) e_3723 ?_)
  show Rn d _ _ 117 [some (.ref q0), some (.ref q1), some (.int x2), some (.int x3), some (.ref q4), some (.int x5), some (.int x6), some (.int x7)] [] h_3726 Q
  refine Rn.n hT 1 (pc' := 118) (L' := [some (.ref q0), some (.ref q1), some (.int x2), some (.int x3), some (.ref q4), some (.int x5), some (.int x6), some (.int x7)]) (st' := [.ref q0]) rfl ?_
  obtain ⟨v_3727, e_3728, e⟩ := Option.bind_eq_some_iff.mp e
  refine Rn.hp hT rfl rfl (gR_hp e_3728) ?_
  refine Rn.n hT 1 (pc' := 123) (L' := [some (.ref q0), some (.ref q1), some (.int x2), some (.int x3), some (.ref q4), some (.int x5), some (.int x6), some (.int x7)]) (st' := [.int x6, .ref v_3727]) rfl ?_
  obtain ⟨h_3729, e_3730, e⟩ := Option.bind_eq_some_iff.mp e
  refine Rn.hp hT rfl rfl (pV_hp rfl e_3730) ?_
  refine Rn.n hT 2 (pc' := 55) (L' := [some (.ref q0), some (.ref q1), some (.int x2), some (.int x3), some (.ref q4), some (.int x5), some (.int x6), some (.int (x7 + (1 : Int32)))]) (st' := []) rfl ?_
  exact Rn.weak (ll_s (ll_s (ll_s (ll_s (ll_s (ll_s (ll_s (ll_s ll_e)))))))) (hb h_3729 (x7 + (1 : Int32)) e)
def fX10_goRows_l55 (N : Nat) (rc : iv_H → Nat → Nat → Int32 → Int32 → Option iv_H) (q0 : Nat) (q1 : Nat) (x2 : Int32) (x3 : Int32) (q4 : Nat) (x5 : Int32) (x6 : Int32) (kx : iv_H → Option (iv_H)) : Nat → iv_H → Int32 → Option (iv_H)
  | 0, _, _ => none
  | n + 1, h, x7 => (if x5 ≤ x7 then (kx h) else ((gR h 10 4 q0).bind fun v_3696 => ((wI h v_3696 x2 x7).bind fun h_3698 => ((gR h_3698 10 0 q0).bind fun v_3700 => ((aI h_3698 q4 x7).bind fun v_3702 => ((cko h_3698 v_3700 1).bind fun _ => (fX1_go N h_3698 v_3700 v_3702).bind fun h_3707 => (if x3 ≤ (x2 + (1 : Int32)) then (fX10_goRows_b96 N rc h_3707 q0 q1 x2 x3 q4 x5 x6 x7 (fX10_goRows_l55 N rc q0 q1 x2 x3 q4 x5 x6 kx n) kx) else ((gR h_3707 10 1 q0).bind fun v_3709 => ((cko h_3707 v_3709 3).bind fun _ => (fX3_look N h_3707 v_3709).bind fun h_3714 => (fX10_goRows_b96 N rc h_3714 q0 q1 x2 x3 q4 x5 x6 x7 (fX10_goRows_l55 N rc q0 q1 x2 x3 q4 x5 x6 kx n) kx))))))))))
set_option maxRecDepth 10000 in
set_option maxHeartbeats 4000000 in
theorem rX10_goRows_l55 {d N : Nat} (hd : 5 ≤ d) {rc : iv_H → Nat → Nat → Int32 → Int32 → Option iv_H} (hrc : ∀ {h : iv_H} {q0 q1 : Nat} {x2 x3 : Int32} {r : iv_H} {Q : Option Value → iv_H → Prop}, rc h q0 q1 x2 x3 = some r → Q none r → Cl d 131 [.ref q0, .ref q1, .int x2, .int x3] h Q) {q0 : Nat} {q1 : Nat} {x2 : Int32} {x3 : Int32} {q4 : Nat} {x5 : Int32} {x6 : Int32} {kx : iv_H → Option (iv_H)} {r : iv_H} {Q : Option Value → iv_H → Prop} (hk : ∀ (h : iv_H), kx h = some r → Rn d 131 none 132 [none, none, none, none, none, none, none, none] [] h Q) (hq : Q none r) : ∀ (n : Nat) (h : iv_H) (x7 : Int32), fX10_goRows_l55 N rc q0 q1 x2 x3 q4 x5 x6 kx n h x7 = some r → Rn d 131 none 55 [some (.ref q0), some (.ref q1), some (.int x2), some (.int x3), some (.ref q4), some (.int x5), some (.int x6), some (.int x7)] [] h Q := by
  have hT := hX10_goRows
  intro n
  induction n with
  | zero =>
    intro h x7 e
    rw [fX10_goRows_l55] at e
    cases e
  | succ n ih =>
    intro h x7 e
    rw [fX10_goRows_l55] at e
    refine Rn.n hT 2 (pc' := 59) (L' := [some (.ref q0), some (.ref q1), some (.int x2), some (.int x3), some (.ref q4), some (.int x5), some (.int x6), some (.int x7)]) (st' := [.int x5, .int x7]) rfl ?_
    by_cases c_3695 : x5 ≤ x7
    · rw [if_pos c_3695] at e
      refine Rn.bt hT rfl rfl rfl (decide_eq_true c_3695) ?_
      exact Rn.weak (ll_n (ll_n (ll_n (ll_n (ll_n (ll_n (ll_n (ll_n ll_e)))))))) (hk h e)
    · rw [if_neg c_3695] at e
      refine Rn.bf hT rfl rfl rfl (decide_eq_false c_3695) ?_
      refine Rn.n hT 1 (pc' := 63) (L' := [some (.ref q0), some (.ref q1), some (.int x2), some (.int x3), some (.ref q4), some (.int x5), some (.int x6), some (.int x7)]) (st' := [.ref q0]) rfl ?_
      obtain ⟨v_3696, e_3697, e⟩ := Option.bind_eq_some_iff.mp e
      refine Rn.hp hT rfl rfl (gR_hp e_3697) ?_
      refine Rn.n hT 2 (pc' := 69) (L' := [some (.ref q0), some (.ref q1), some (.int x2), some (.int x3), some (.ref q4), some (.int x5), some (.int x6), some (.int x7)]) (st' := [.int x7, .int x2, .ref v_3696]) rfl ?_
      obtain ⟨h_3698, e_3699, e⟩ := Option.bind_eq_some_iff.mp e
      refine Rn.hp hT rfl rfl (wI_hp e_3699) ?_
      refine Rn.n hT 1 (pc' := 71) (L' := [some (.ref q0), some (.ref q1), some (.int x2), some (.int x3), some (.ref q4), some (.int x5), some (.int x6), some (.int x7)]) (st' := [.ref q0]) rfl ?_
      obtain ⟨v_3700, e_3701, e⟩ := Option.bind_eq_some_iff.mp e
      refine Rn.hp hT rfl rfl (gR_hp e_3701) ?_
      refine Rn.n hT 2 (pc' := 78) (L' := [some (.ref q0), some (.ref q1), some (.int x2), some (.int x3), some (.ref q4), some (.int x5), some (.int x6), some (.int x7)]) (st' := [.int x7, .ref q4, .ref v_3700]) rfl ?_
      obtain ⟨v_3702, e_3703, e⟩ := Option.bind_eq_some_iff.mp e
      refine Rn.hp hT rfl rfl (aI_hp e_3703) ?_
      obtain ⟨_, e_3705, e⟩ := Option.bind_eq_some_iff.mp e
      obtain ⟨h_3707, e_3704, e⟩ := Option.bind_eq_some_iff.mp e
      refine Rn.call hT rfl rfl rfl (Nat.le_of_ble_eq_true rfl) (rcv_v gX1_go (by omega) e_3705) (rX1_go (by omega) e_3704 ?_)
      show Rn d _ _ 82 [some (.ref q0), some (.ref q1), some (.int x2), some (.int x3), some (.ref q4), some (.int x5), some (.int x6), some (.int x7)] [] h_3707 Q
      refine Rn.n hT 4 (pc' := 86) (L' := [some (.ref q0), some (.ref q1), some (.int x2), some (.int x3), some (.ref q4), some (.int x5), some (.int x6), some (.int x7)]) (st' := [.int x3, .int (x2 + (1 : Int32))]) rfl ?_
      by_cases c_3708 : x3 ≤ (x2 + (1 : Int32))
      · rw [if_pos c_3708] at e
        refine Rn.bt hT rfl rfl rfl (decide_eq_true c_3708) ?_
        exact Rn.weak (ll_s (ll_s (ll_s (ll_s (ll_s (ll_s (ll_s (ll_s ll_e)))))))) (rX10_goRows_b96 hd hrc ih hk hq e)
      · rw [if_neg c_3708] at e
        refine Rn.bf hT rfl rfl rfl (decide_eq_false c_3708) ?_
        refine Rn.n hT 1 (pc' := 90) (L' := [some (.ref q0), some (.ref q1), some (.int x2), some (.int x3), some (.ref q4), some (.int x5), some (.int x6), some (.int x7)]) (st' := [.ref q0]) rfl ?_
        obtain ⟨v_3709, e_3710, e⟩ := Option.bind_eq_some_iff.mp e
        refine Rn.hp hT rfl rfl (gR_hp e_3710) ?_
        obtain ⟨_, e_3712, e⟩ := Option.bind_eq_some_iff.mp e
        obtain ⟨h_3714, e_3711, e⟩ := Option.bind_eq_some_iff.mp e
        refine Rn.call hT rfl rfl rfl (Nat.le_of_ble_eq_true rfl) (rcv_v gX3_look (by omega) e_3712) (rX3_look (by omega) e_3711 ?_)
        show Rn d _ _ 96 [some (.ref q0), some (.ref q1), some (.int x2), some (.int x3), some (.ref q4), some (.int x5), some (.int x6), some (.int x7)] [] h_3714 Q
        exact Rn.weak (ll_s (ll_s (ll_s (ll_s (ll_s (ll_s (ll_s (ll_s ll_e)))))))) (rX10_goRows_b96 hd hrc ih hk hq e)
def fX10_goRows_s (N : Nat) (rc : iv_H → Nat → Nat → Int32 → Int32 → Option iv_H) (h : iv_H) (q0 : Nat) (q1 : Nat) (x2 : Int32) (x3 : Int32) : Option (iv_H) := (if x3 ≤ x2 then (fX10_goRows_b10 N rc h q0 q1 x3) else (if x2 < (3 : Int32) then ((gR h 10 3 q0).bind fun v_3671 => ((aR h v_3671 x2).bind fun v_3673 => ((gR h 10 1 q0).bind fun v_3675 => ((cko h v_3675 3).bind fun _ => (fX3_list N h v_3675 v_3673).bind fun p_3686 => (fun (v_3679 : Int32) (h_3680 : iv_H) => ((gR h_3680 10 1 q0).bind fun v_3681 => ((gI h_3680 3 5 v_3681).bind fun v_3683 => (fX10_goRows_l55 N rc q0 q1 x2 x3 v_3673 v_3679 v_3683 (fun (h_3685 : iv_H) => some h_3685) N h_3680 (0 : Int32))))) p_3686.1 p_3686.2)))) else (fX10_goRows_b10 N rc h q0 q1 x3)))
set_option maxRecDepth 10000 in
set_option maxHeartbeats 4000000 in
theorem rX10_goRows_s {d N : Nat} (hd : 6 ≤ d) {rc : iv_H → Nat → Nat → Int32 → Int32 → Option iv_H} (hrc : ∀ {h : iv_H} {q0 q1 : Nat} {x2 x3 : Int32} {r : iv_H} {Q : Option Value → iv_H → Prop}, rc h q0 q1 x2 x3 = some r → Q none r → Cl (d - 1) 131 [.ref q0, .ref q1, .int x2, .int x3] h Q) {h : iv_H} {q0 : Nat} {q1 : Nat} {x2 : Int32} {x3 : Int32} {r : iv_H} {Q : Option Value → iv_H → Prop} (e : fX10_goRows_s N rc h q0 q1 x2 x3 = some r) (hq : Q none r) : Cl d 131 [.ref q0, .ref q1, .int x2, .int x3] h Q := by
  obtain ⟨d, rfl⟩ : ∃ k, d = k + 1 := ⟨d - 1, by omega⟩
  have hd : 5 ≤ d := by omega
  have hT := hX10_goRows
  unfold fX10_goRows_s at e
  rw [show d + 1 - 1 = d from by omega] at hrc
  refine Cl.into (by decide) gX10_goRows rfl ?_
  show Rn d 131 none 0 [some (.ref q0), some (.ref q1), some (.int x2), some (.int x3), none, none, none, none] [] h Q
  refine Rn.n hT 2 (pc' := 2) (L' := [some (.ref q0), some (.ref q1), some (.int x2), some (.int x3), none, none, none, none]) (st' := [.int x3, .int x2]) rfl ?_
  by_cases c_3669 : x3 ≤ x2
  · rw [if_pos c_3669] at e
    refine Rn.bt hT rfl rfl rfl (decide_eq_true c_3669) ?_
    exact Rn.weak (ll_s (ll_s (ll_n (ll_s (ll_n (ll_n (ll_n (ll_n ll_e)))))))) (rX10_goRows_b10 hd hrc hq e)
  · rw [if_neg c_3669] at e
    refine Rn.bf hT rfl rfl rfl (decide_eq_false c_3669) ?_
    refine Rn.n hT 2 (pc' := 7) (L' := [some (.ref q0), some (.ref q1), some (.int x2), some (.int x3), none, none, none, none]) (st' := [.int (3 : Int32), .int x2]) rfl ?_
    by_cases c_3670 : x2 < (3 : Int32)
    · rw [if_pos c_3670] at e
      refine Rn.bt hT rfl rfl rfl (decide_eq_true c_3670) ?_
      refine Rn.n hT 1 (pc' := 25) (L' := [some (.ref q0), some (.ref q1), some (.int x2), some (.int x3), none, none, none, none]) (st' := [.ref q0]) rfl ?_
      obtain ⟨v_3671, e_3672, e⟩ := Option.bind_eq_some_iff.mp e
      refine Rn.hp hT rfl rfl (gR_hp e_3672) ?_
      refine Rn.n hT 1 (pc' := 29) (L' := [some (.ref q0), some (.ref q1), some (.int x2), some (.int x3), none, none, none, none]) (st' := [.int x2, .ref v_3671]) rfl ?_
      obtain ⟨v_3673, e_3674, e⟩ := Option.bind_eq_some_iff.mp e
      refine Rn.hp hT rfl rfl (aR_hp e_3674) ?_
      refine Rn.n hT 2 (pc' := 33) (L' := [some (.ref q0), some (.ref q1), some (.int x2), some (.int x3), some (.ref v_3673), none, none, none]) (st' := [.ref q0]) rfl ?_
      obtain ⟨v_3675, e_3676, e⟩ := Option.bind_eq_some_iff.mp e
      refine Rn.hp hT rfl rfl (gR_hp e_3676) ?_
      refine Rn.n hT 1 (pc' := 38) (L' := [some (.ref q0), some (.ref q1), some (.int x2), some (.int x3), some (.ref v_3673), none, none, none]) (st' := [.ref v_3673, .ref v_3675]) rfl ?_
      obtain ⟨_, e_3678, e⟩ := Option.bind_eq_some_iff.mp e
      obtain ⟨⟨v_3679, h_3680⟩, e_3677, e⟩ := Option.bind_eq_some_iff.mp e
      try dsimp only at e
      try dsimp only at e
      refine Rn.call hT rfl rfl rfl (Nat.le_of_ble_eq_true rfl) (rcv_v gX3_list (by omega) e_3678) (rX3_list (by omega) e_3677 ?_)
      show Rn d _ _ 41 [some (.ref q0), some (.ref q1), some (.int x2), some (.int x3), some (.ref v_3673), none, none, none] [.int v_3679] h_3680 Q
      refine Rn.n hT 2 (pc' := 44) (L' := [some (.ref q0), some (.ref q1), some (.int x2), some (.int x3), some (.ref v_3673), some (.int v_3679), none, none]) (st' := [.ref q0]) rfl ?_
      obtain ⟨v_3681, e_3682, e⟩ := Option.bind_eq_some_iff.mp e
      refine Rn.hp hT rfl rfl (gR_hp e_3682) ?_
      obtain ⟨v_3683, e_3684, e⟩ := Option.bind_eq_some_iff.mp e
      refine Rn.hp hT rfl rfl (gI_hp e_3684) ?_
      refine Rn.n hT 3 (pc' := 55) (L' := [some (.ref q0), some (.ref q1), some (.int x2), some (.int x3), some (.ref v_3673), some (.int v_3679), some (.int v_3683), some (.int (0 : Int32))]) (st' := []) rfl ?_
      refine Rn.weak (ll_s (ll_s (ll_s (ll_s (ll_s (ll_s (ll_s (ll_s ll_e)))))))) (rX10_goRows_l55 hd hrc (fun h_3685 e => ?_) hq N h_3680 (0 : Int32) e)
      try dsimp only at e
      obtain rfl := Option.some.inj e
      exact Rn.ret hT rfl rfl rfl hq
    · rw [if_neg c_3670] at e
      refine Rn.bf hT rfl rfl rfl (decide_eq_false c_3670) ?_
      exact Rn.weak (ll_s (ll_s (ll_n (ll_s (ll_n (ll_n (ll_n (ll_n ll_e)))))))) (rX10_goRows_b10 hd hrc hq e)
def fX10_goRows (N : Nat) : Nat → iv_H → Nat → Nat → Int32 → Int32 → Option iv_H
  | 0, _, _, _, _, _ => none
  | n + 1, h, q0, q1, x2, x3 => fX10_goRows_s N (fX10_goRows N n) h q0 q1 x2 x3
theorem rX10_goRows {N : Nat} : ∀ (n : Nat) {d : Nat} (_ : 6 + 1 * n ≤ d) {h : iv_H} {q0 : Nat} {q1 : Nat} {x2 : Int32} {x3 : Int32} {r : iv_H} {Q : Option Value → iv_H → Prop} (_ : fX10_goRows N n h q0 q1 x2 x3 = some r) (_ : Q none r), Cl d 131 [.ref q0, .ref q1, .int x2, .int x3] h Q := by
  intro n
  induction n with
  | zero => intro d hd h q0 q1 x2 x3 r Q e hq; rw [fX10_goRows] at e; cases e
  | succ n ih =>
    intro d hd h q0 q1 x2 x3 r Q e hq
    rw [fX10_goRows] at e
    exact rX10_goRows_s (by omega) (fun e hq => ih (by omega) e hq) e hq
set_option maxRecDepth 10000 in
theorem hX10_askRows : iv_Tb 130 tX10_askRows := iv_tb_of (m := mX10_askRows) rfl
set_option maxRecDepth 10000 in
theorem gX10_askRows : PG.2 130 = some mX10_askRows := iv_pi_of (t := tX10_askRows) rfl (by decide)
def fX10_askRows_b18 (N : Nat) (h : iv_H) (q0 : Nat) (q1 : Nat) (o2 : Option Nat) (x3 : Int32) (x4 : Int32)  : Option (iv_H) := ((pV h 10 7 q0 (.int x4)).bind fun h_3737 => ((pV h_3737 10 8 q0 (.int x3)).bind fun h_3739 => ((cko h_3739 q0 10).bind fun _ => (fX10_begin N h_3739 q0 q1 o2).bind fun h_3744 => ((gR h_3744 10 6 q0).bind fun v_3745 => ((fJ7_fill_53178 N h_3744 v_3745 (0 : Int32)).bind fun h_3749 => ((cko h_3749 q0 10).bind fun _ => (fX10_goRows N 6 h_3749 q0 q1 (0 : Int32) x3).bind fun h_3753 => some h_3753))))))
set_option maxRecDepth 10000 in
set_option maxHeartbeats 4000000 in
theorem rX10_askRows_b18 {d N : Nat} (hd : 12 ≤ d) {h : iv_H} {q0 : Nat} {q1 : Nat} {o2 : Option Nat} {x3 : Int32} {x4 : Int32}  {r : iv_H} {Q : Option Value → iv_H → Prop} (hq : Q none r) (e : fX10_askRows_b18 N h q0 q1 o2 x3 x4  = some r) : Rn d 130 none 18 [some (.ref q0), some (.ref q1), some (iv_rf o2), some (.int x3), some (.int x4)] [] h Q := by
  have hT := hX10_askRows
  unfold fX10_askRows_b18 at e
  refine Rn.n hT 2 (pc' := 21) (L' := [some (.ref q0), some (.ref q1), some (iv_rf o2), some (.int x3), some (.int x4)]) (st' := [.int x4, .ref q0]) rfl ?_
  obtain ⟨h_3737, e_3738, e⟩ := Option.bind_eq_some_iff.mp e
  refine Rn.hp hT rfl rfl (pV_hp rfl e_3738) ?_
  refine Rn.n hT 2 (pc' := 26) (L' := [some (.ref q0), some (.ref q1), some (iv_rf o2), some (.int x3), some (.int x4)]) (st' := [.int x3, .ref q0]) rfl ?_
  obtain ⟨h_3739, e_3740, e⟩ := Option.bind_eq_some_iff.mp e
  refine Rn.hp hT rfl rfl (pV_hp rfl e_3740) ?_
  refine Rn.n hT 2 (pc' := 31) (L' := [some (.ref q0), some (.ref q1), some (iv_rf o2), some (.int x3), some (.int x4)]) (st' := [.ref q1, .ref q0]) rfl ?_
  refine Rn.lo hT rfl rfl (L' := [some (.ref q0), some (.ref q1), some (iv_rf o2), some (.int x3), some (.int x4)]) (st' := [iv_rf o2, .ref q1, .ref q0]) (ldN (o := o2) rfl) ?_
  obtain ⟨_, e_3742, e⟩ := Option.bind_eq_some_iff.mp e
  obtain ⟨h_3744, e_3741, e⟩ := Option.bind_eq_some_iff.mp e
  refine Rn.call hT rfl rfl rfl (Nat.le_of_ble_eq_true rfl) (rcv_v gX10_begin (by omega) e_3742) (rX10_begin (by omega) e_3741 ?_)
  show Rn d _ _ 35 [some (.ref q0), some (.ref q1), some (iv_rf o2), some (.int x3), some (.int x4)] [] h_3744 Q
  refine Rn.n hT 1 (pc' := 36) (L' := [some (.ref q0), some (.ref q1), some (iv_rf o2), some (.int x3), some (.int x4)]) (st' := [.ref q0]) rfl ?_
  obtain ⟨v_3745, e_3746, e⟩ := Option.bind_eq_some_iff.mp e
  refine Rn.hp hT rfl rfl (gR_hp e_3746) ?_
  refine Rn.n hT 1 (pc' := 40) (L' := [some (.ref q0), some (.ref q1), some (iv_rf o2), some (.int x3), some (.int x4)]) (st' := [.int (0 : Int32), .ref v_3745]) rfl ?_
  obtain ⟨h_3749, e_3747, e⟩ := Option.bind_eq_some_iff.mp e
  refine Rn.call hT rfl rfl rfl (Nat.le_of_ble_eq_true rfl) rfl (rJ7_fill_53178 (by omega) e_3747 ?_)
  show Rn d _ _ 43 [some (.ref q0), some (.ref q1), some (iv_rf o2), some (.int x3), some (.int x4)] [] h_3749 Q
  refine Rn.n hT 4 (pc' := 47) (L' := [some (.ref q0), some (.ref q1), some (iv_rf o2), some (.int x3), some (.int x4)]) (st' := [.int x3, .int (0 : Int32), .ref q1, .ref q0]) rfl ?_
  obtain ⟨_, e_3751, e⟩ := Option.bind_eq_some_iff.mp e
  obtain ⟨h_3753, e_3750, e⟩ := Option.bind_eq_some_iff.mp e
  refine Rn.call hT rfl rfl rfl (Nat.le_of_ble_eq_true rfl) (rcv_v gX10_goRows (by omega) e_3751) (rX10_goRows 6 (by omega) e_3750 ?_)
  show Rn d _ _ 50 [some (.ref q0), some (.ref q1), some (iv_rf o2), some (.int x3), some (.int x4)] [] h_3753 Q
  obtain rfl := Option.some.inj e
  exact Rn.ret hT rfl rfl rfl hq
def fX10_askRows (N : Nat) (h : iv_H) (q0 : Nat) (q1 : Nat) (o2 : Option Nat) (x3 : Int32) (x4 : Int32) : Option (iv_H) := ((gI h 10 7 q0).bind fun v_3731 => (if v_3731 = x4 then ((gI h 10 8 q0).bind fun v_3734 => (if v_3734 = x3 then some h else (fX10_askRows_b18 N h q0 q1 o2 x3 x4))) else (fX10_askRows_b18 N h q0 q1 o2 x3 x4)))
set_option maxRecDepth 10000 in
set_option maxHeartbeats 4000000 in
theorem rX10_askRows {d N : Nat} (hd : 13 ≤ d) {h : iv_H} {q0 : Nat} {q1 : Nat} {o2 : Option Nat} {x3 : Int32} {x4 : Int32} {r : iv_H} {Q : Option Value → iv_H → Prop} (e : fX10_askRows N h q0 q1 o2 x3 x4 = some r) (hq : Q none r) : Cl d 130 [.ref q0, .ref q1, iv_rf o2, .int x3, .int x4] h Q := by
  obtain ⟨d, rfl⟩ : ∃ k, d = k + 1 := ⟨d - 1, by omega⟩
  have hd : 12 ≤ d := by omega
  have hT := hX10_askRows
  unfold fX10_askRows at e
  have he : iv_ent 5 [.ref q0, .ref q1, iv_rf o2, .int x3, .int x4] = [some (.ref q0), some (.ref q1), some (iv_rf o2), some (.int x3), some (.int x4)] := by cases o2 <;> rfl
  refine Cl.into (by decide) gX10_askRows (by rw [he]; rfl) ?_
  rw [he]
  refine Rn.n hT 1 (pc' := 1) (L' := [some (.ref q0), some (.ref q1), some (iv_rf o2), some (.int x3), some (.int x4)]) (st' := [.ref q0]) rfl ?_
  obtain ⟨v_3731, e_3732, e⟩ := Option.bind_eq_some_iff.mp e
  refine Rn.hp hT rfl rfl (gI_hp e_3732) ?_
  refine Rn.n hT 1 (pc' := 6) (L' := [some (.ref q0), some (.ref q1), some (iv_rf o2), some (.int x3), some (.int x4)]) (st' := [.int x4, .int v_3731]) rfl ?_
  by_cases c_3733 : v_3731 = x4
  · rw [if_pos c_3733] at e
    refine Rn.bf hT rfl rfl rfl (decide_eq_false (fun z => z c_3733)) ?_
    refine Rn.n hT 1 (pc' := 10) (L' := [some (.ref q0), some (.ref q1), some (iv_rf o2), some (.int x3), some (.int x4)]) (st' := [.ref q0]) rfl ?_
    obtain ⟨v_3734, e_3735, e⟩ := Option.bind_eq_some_iff.mp e
    refine Rn.hp hT rfl rfl (gI_hp e_3735) ?_
    refine Rn.n hT 1 (pc' := 14) (L' := [some (.ref q0), some (.ref q1), some (iv_rf o2), some (.int x3), some (.int x4)]) (st' := [.int x3, .int v_3734]) rfl ?_
    by_cases c_3736 : v_3734 = x3
    · rw [if_pos c_3736] at e
      refine Rn.bf hT rfl rfl rfl (decide_eq_false (fun z => z c_3736)) ?_
      obtain rfl := Option.some.inj e
      exact Rn.ret hT rfl rfl rfl hq
    · rw [if_neg c_3736] at e
      refine Rn.bt hT rfl rfl rfl (decide_eq_true c_3736) ?_
      exact Rn.weak (ll_s (ll_s (ll_s (ll_s (ll_s ll_e))))) (rX10_askRows_b18 hd hq e)
  · rw [if_neg c_3733] at e
    refine Rn.bt hT rfl rfl rfl (decide_eq_true c_3733) ?_
    exact Rn.weak (ll_s (ll_s (ll_s (ll_s (ll_s ll_e))))) (rX10_askRows_b18 hd hq e)
set_option maxRecDepth 10000 in
theorem hX10_drawTimes : iv_Tb 134 tX10_drawTimes := iv_tb_of (m := mX10_drawTimes) rfl
set_option maxRecDepth 10000 in
theorem gX10_drawTimes : PG.2 134 = some mX10_drawTimes := iv_pi_of (t := tX10_drawTimes) rfl (by decide)
def fX10_drawTimes_b125 (N : Nat) (h : iv_H) (q0 : Nat) (q1 : Nat) (o2 : Option Nat) (x3 : Int32) (x4 : Int32) (x5 : Int32) (x6 : Int32) (y7 : Int64) (x9 : Int32) (x10 : Int32)  (kb : iv_H → Int64 → Int32 → Option (iv_H)) (kx : iv_H → Int64 → Option (iv_H)) : Option (iv_H) := ((gR h 10 1 q0).bind fun v_3823 => ((gI h 3 4 v_3823).bind fun v_3825 => ((pV h 3 4 v_3823 (.int (v_3825 + (1 : Int32)))).bind fun h_3827 => (kb h_3827 y7 (x10 + (1 : Int32))))))
set_option maxRecDepth 10000 in
set_option maxHeartbeats 4000000 in
theorem rX10_drawTimes_b125 {d N : Nat} (hd : 5 ≤ d) {h : iv_H} {q0 : Nat} {q1 : Nat} {o2 : Option Nat} {x3 : Int32} {x4 : Int32} {x5 : Int32} {x6 : Int32} {y7 : Int64} {x9 : Int32} {x10 : Int32}  {kb : iv_H → Int64 → Int32 → Option (iv_H)} {kx : iv_H → Int64 → Option (iv_H)} {r : iv_H} {Q : Option Value → iv_H → Prop} (hb : ∀ (h : iv_H) (w7 : Int64) (w10 : Int32), kb h w7 w10 = some r → Rn d 134 none 40 [some (.ref q0), some (.ref q1), some (iv_rf o2), some (.int x3), some (.int x4), some (.int x5), some (.int x6), some (.long w7), none, some (.int x9), some (.int w10), none] [] h Q) (hk : ∀ (h : iv_H) (w7 : Int64), kx h w7 = some r → Rn d 134 none 144 [some (.ref q0), some (.ref q1), some (iv_rf o2), some (.int x3), some (.int x4), some (.int x5), some (.int x6), some (.long w7), none, some (.int x9), none, none] [] h Q) (hq : Q none r) (e : fX10_drawTimes_b125 N h q0 q1 o2 x3 x4 x5 x6 y7 x9 x10  kb kx = some r) : Rn d 134 none 125 [some (.ref q0), some (.ref q1), some (iv_rf o2), some (.int x3), some (.int x4), some (.int x5), some (.int x6), some (.long y7), none, some (.int x9), some (.int x10), none] [] h Q := by
  have hT := hX10_drawTimes
  unfold fX10_drawTimes_b125 at e
  refine Rn.n hT 1 (pc' := 126) (L' := [some (.ref q0), some (.ref q1), some (iv_rf o2), some (.int x3), some (.int x4), some (.int x5), some (.int x6), some (.long y7), none, some (.int x9), some (.int x10), none]) (st' := [.ref q0]) rfl ?_
  obtain ⟨v_3823, e_3824, e⟩ := Option.bind_eq_some_iff.mp e
  refine Rn.hp hT rfl rfl (gR_hp e_3824) ?_
  refine Rn.n hT 1 (pc' := 130) (L' := [some (.ref q0), some (.ref q1), some (iv_rf o2), some (.int x3), some (.int x4), some (.int x5), some (.int x6), some (.long y7), none, some (.int x9), some (.int x10), none]) (st' := [.ref v_3823, .ref v_3823]) rfl ?_
  obtain ⟨v_3825, e_3826, e⟩ := Option.bind_eq_some_iff.mp e
  refine Rn.hp hT rfl rfl (gI_hp e_3826) ?_
  refine Rn.n hT 2 (pc' := 135) (L' := [some (.ref q0), some (.ref q1), some (iv_rf o2), some (.int x3), some (.int x4), some (.int x5), some (.int x6), some (.long y7), none, some (.int x9), some (.int x10), none]) (st' := [.int (v_3825 + (1 : Int32)), .ref v_3823]) rfl ?_
  obtain ⟨h_3827, e_3828, e⟩ := Option.bind_eq_some_iff.mp e
  refine Rn.hp hT rfl rfl (pV_hp rfl e_3828) ?_
  refine Rn.n hT 2 (pc' := 40) (L' := [some (.ref q0), some (.ref q1), some (iv_rf o2), some (.int x3), some (.int x4), some (.int x5), some (.int x6), some (.long y7), none, some (.int x9), some (.int (x10 + (1 : Int32))), none]) (st' := []) rfl ?_
  exact Rn.weak (ll_s (ll_s (ll_s (ll_s (ll_s (ll_s (ll_s (ll_s (ll_n (ll_s (ll_s (ll_n ll_e)))))))))))) (hb h_3827 y7 (x10 + (1 : Int32)) e)
def fX10_drawTimes_l40 (N : Nat) (q0 : Nat) (q1 : Nat) (o2 : Option Nat) (x3 : Int32) (x4 : Int32) (x5 : Int32) (x6 : Int32) (x9 : Int32) (kx : iv_H → Int64 → Option (iv_H)) : Nat → iv_H → Int64 → Int32 → Option (iv_H)
  | 0, _, _, _ => none
  | n + 1, h, y7, x10 => (if x4 ≤ x10 then (kx h y7) else ((gR h 10 1 q0).bind fun v_3788 => ((gR h 10 3 q0).bind fun v_3790 => ((aR h v_3790 (0 : Int32)).bind fun v_3792 => ((cko h v_3788 3).bind fun _ => (fX3_list N h v_3788 v_3792).bind fun p_3822 => (fun (v_3796 : Int32) (h_3797 : iv_H) => (if v_3796 ≤ 0 then (fX10_drawTimes_b125 N h_3797 q0 q1 o2 x3 x4 x5 x6 y7 x9 x10 (fX10_drawTimes_l40 N q0 q1 o2 x3 x4 x5 x6 x9 kx n) kx) else ((gR h_3797 10 0 q0).bind fun v_3799 => ((gR h_3797 10 3 q0).bind fun v_3801 => ((aR h_3797 v_3801 (0 : Int32)).bind fun v_3803 => (if (v_3796).toInt64 = 0 then none else ((aI h_3797 v_3803 (((((((y7 * (1103515245 : Int64)) + (12345 : Int64)) &&& (2147483647 : Int64)) / (65536 : Int64)) - ((((y7 * (1103515245 : Int64)) + (12345 : Int64)) &&& (2147483647 : Int64)) / (65536 : Int64)) / (v_3796).toInt64 * (v_3796).toInt64)).toInt32)).bind fun v_3806 => ((cko h_3797 v_3799 1).bind fun _ => (fX1_go N h_3797 v_3799 v_3806).bind fun h_3811 => ((gR h_3811 10 1 q0).bind fun v_3812 => ((cko h_3811 v_3812 3).bind fun _ => (fX3_look N h_3811 v_3812).bind fun h_3817 => ((gI h_3817 10 11 q0).bind fun v_3818 => ((pV h_3817 10 11 q0 (.int (v_3818 + (1 : Int32)))).bind fun h_3820 => (fX10_drawTimes_b125 N h_3820 q0 q1 o2 x3 x4 x5 x6 (((y7 * (1103515245 : Int64)) + (12345 : Int64)) &&& (2147483647 : Int64)) x9 x10 (fX10_drawTimes_l40 N q0 q1 o2 x3 x4 x5 x6 x9 kx n) kx))))))))))))) p_3822.1 p_3822.2)))))
set_option maxRecDepth 10000 in
set_option maxHeartbeats 4000000 in
theorem rX10_drawTimes_l40 {d N : Nat} (hd : 5 ≤ d) {q0 : Nat} {q1 : Nat} {o2 : Option Nat} {x3 : Int32} {x4 : Int32} {x5 : Int32} {x6 : Int32} {x9 : Int32} {kx : iv_H → Int64 → Option (iv_H)} {r : iv_H} {Q : Option Value → iv_H → Prop} (hk : ∀ (h : iv_H) (y7 : Int64), kx h y7 = some r → Rn d 134 none 144 [some (.ref q0), some (.ref q1), some (iv_rf o2), some (.int x3), some (.int x4), some (.int x5), some (.int x6), some (.long y7), none, some (.int x9), none, none] [] h Q) (hq : Q none r) : ∀ (n : Nat) (h : iv_H) (y7 : Int64) (x10 : Int32), fX10_drawTimes_l40 N q0 q1 o2 x3 x4 x5 x6 x9 kx n h y7 x10 = some r → Rn d 134 none 40 [some (.ref q0), some (.ref q1), some (iv_rf o2), some (.int x3), some (.int x4), some (.int x5), some (.int x6), some (.long y7), none, some (.int x9), some (.int x10), none] [] h Q := by
  have hT := hX10_drawTimes
  intro n
  induction n with
  | zero =>
    intro h y7 x10 e
    rw [fX10_drawTimes_l40] at e
    cases e
  | succ n ih =>
    intro h y7 x10 e
    rw [fX10_drawTimes_l40] at e
    refine Rn.n hT 2 (pc' := 44) (L' := [some (.ref q0), some (.ref q1), some (iv_rf o2), some (.int x3), some (.int x4), some (.int x5), some (.int x6), some (.long y7), none, some (.int x9), some (.int x10), none]) (st' := [.int x4, .int x10]) rfl ?_
    by_cases c_3787 : x4 ≤ x10
    · rw [if_pos c_3787] at e
      refine Rn.bt hT rfl rfl rfl (decide_eq_true c_3787) ?_
      exact Rn.weak (ll_s (ll_s (ll_s (ll_s (ll_s (ll_s (ll_s (ll_s (ll_n (ll_s (ll_n (ll_n ll_e)))))))))))) (hk h y7 e)
    · rw [if_neg c_3787] at e
      refine Rn.bf hT rfl rfl rfl (decide_eq_false c_3787) ?_
      refine Rn.n hT 1 (pc' := 48) (L' := [some (.ref q0), some (.ref q1), some (iv_rf o2), some (.int x3), some (.int x4), some (.int x5), some (.int x6), some (.long y7), none, some (.int x9), some (.int x10), none]) (st' := [.ref q0]) rfl ?_
      obtain ⟨v_3788, e_3789, e⟩ := Option.bind_eq_some_iff.mp e
      refine Rn.hp hT rfl rfl (gR_hp e_3789) ?_
      refine Rn.n hT 1 (pc' := 52) (L' := [some (.ref q0), some (.ref q1), some (iv_rf o2), some (.int x3), some (.int x4), some (.int x5), some (.int x6), some (.long y7), none, some (.int x9), some (.int x10), none]) (st' := [.ref q0, .ref v_3788]) rfl ?_
      obtain ⟨v_3790, e_3791, e⟩ := Option.bind_eq_some_iff.mp e
      refine Rn.hp hT rfl rfl (gR_hp e_3791) ?_
      refine Rn.n hT 1 (pc' := 56) (L' := [some (.ref q0), some (.ref q1), some (iv_rf o2), some (.int x3), some (.int x4), some (.int x5), some (.int x6), some (.long y7), none, some (.int x9), some (.int x10), none]) (st' := [.int (0 : Int32), .ref v_3790, .ref v_3788]) rfl ?_
      obtain ⟨v_3792, e_3793, e⟩ := Option.bind_eq_some_iff.mp e
      refine Rn.hp hT rfl rfl (aR_hp e_3793) ?_
      obtain ⟨_, e_3795, e⟩ := Option.bind_eq_some_iff.mp e
      obtain ⟨⟨v_3796, h_3797⟩, e_3794, e⟩ := Option.bind_eq_some_iff.mp e
      try dsimp only at e
      try dsimp only at e
      refine Rn.call hT rfl rfl rfl (Nat.le_of_ble_eq_true rfl) (rcv_v gX3_list (by omega) e_3795) (rX3_list (by omega) e_3794 ?_)
      show Rn d _ _ 60 [some (.ref q0), some (.ref q1), some (iv_rf o2), some (.int x3), some (.int x4), some (.int x5), some (.int x6), some (.long y7), none, some (.int x9), some (.int x10), none] [.int v_3796] h_3797 Q
      refine Rn.n hT 2 (pc' := 64) (L' := [some (.ref q0), some (.ref q1), some (iv_rf o2), some (.int x3), some (.int x4), some (.int x5), some (.int x6), some (.long y7), none, some (.int x9), some (.int x10), some (.int v_3796)]) (st' := [.int v_3796]) rfl ?_
      by_cases c_3798 : v_3796 ≤ 0
      · rw [if_pos c_3798] at e
        refine Rn.bt hT rfl rfl rfl (decide_eq_true c_3798) ?_
        exact Rn.weak (ll_s (ll_s (ll_s (ll_s (ll_s (ll_s (ll_s (ll_s (ll_n (ll_s (ll_s (ll_n ll_e)))))))))))) (rX10_drawTimes_b125 hd ih hk hq e)
      · rw [if_neg c_3798] at e
        refine Rn.bf hT rfl rfl rfl (decide_eq_false c_3798) ?_
        refine Rn.n hT 9 (pc' := 84) (L' := [some (.ref q0), some (.ref q1), some (iv_rf o2), some (.int x3), some (.int x4), some (.int x5), some (.int x6), some (.long (((y7 * (1103515245 : Int64)) + (12345 : Int64)) &&& (2147483647 : Int64))), none, some (.int x9), some (.int x10), some (.int v_3796)]) (st' := [.ref q0]) rfl ?_
        obtain ⟨v_3799, e_3800, e⟩ := Option.bind_eq_some_iff.mp e
        refine Rn.hp hT rfl rfl (gR_hp e_3800) ?_
        refine Rn.n hT 1 (pc' := 88) (L' := [some (.ref q0), some (.ref q1), some (iv_rf o2), some (.int x3), some (.int x4), some (.int x5), some (.int x6), some (.long (((y7 * (1103515245 : Int64)) + (12345 : Int64)) &&& (2147483647 : Int64))), none, some (.int x9), some (.int x10), some (.int v_3796)]) (st' := [.ref q0, .ref v_3799]) rfl ?_
        obtain ⟨v_3801, e_3802, e⟩ := Option.bind_eq_some_iff.mp e
        refine Rn.hp hT rfl rfl (gR_hp e_3802) ?_
        refine Rn.n hT 1 (pc' := 92) (L' := [some (.ref q0), some (.ref q1), some (iv_rf o2), some (.int x3), some (.int x4), some (.int x5), some (.int x6), some (.long (((y7 * (1103515245 : Int64)) + (12345 : Int64)) &&& (2147483647 : Int64))), none, some (.int x9), some (.int x10), some (.int v_3796)]) (st' := [.int (0 : Int32), .ref v_3801, .ref v_3799]) rfl ?_
        obtain ⟨v_3803, e_3804, e⟩ := Option.bind_eq_some_iff.mp e
        refine Rn.hp hT rfl rfl (aR_hp e_3804) ?_
        refine Rn.n hT 5 (pc' := 102) (L' := [some (.ref q0), some (.ref q1), some (iv_rf o2), some (.int x3), some (.int x4), some (.int x5), some (.int x6), some (.long (((y7 * (1103515245 : Int64)) + (12345 : Int64)) &&& (2147483647 : Int64))), none, some (.int x9), some (.int x10), some (.int v_3796)]) (st' := [.long ((v_3796).toInt64), .long ((((y7 * (1103515245 : Int64)) + (12345 : Int64)) &&& (2147483647 : Int64)) / (65536 : Int64)), .ref v_3803, .ref v_3799]) rfl ?_
        by_cases c_3805 : (v_3796).toInt64 = 0
        · rw [if_pos c_3805] at e
          cases e
        · rw [if_neg c_3805] at e
          refine Rn.pu hT rfl rfl (st' := [.long (((((y7 * (1103515245 : Int64)) + (12345 : Int64)) &&& (2147483647 : Int64)) / (65536 : Int64)) - ((((y7 * (1103515245 : Int64)) + (12345 : Int64)) &&& (2147483647 : Int64)) / (65536 : Int64)) / (v_3796).toInt64 * (v_3796).toInt64), .ref v_3803, .ref v_3799]) (if_neg c_3805) ?_
          refine Rn.n hT 1 (pc' := 104) (L' := [some (.ref q0), some (.ref q1), some (iv_rf o2), some (.int x3), some (.int x4), some (.int x5), some (.int x6), some (.long (((y7 * (1103515245 : Int64)) + (12345 : Int64)) &&& (2147483647 : Int64))), none, some (.int x9), some (.int x10), some (.int v_3796)]) (st' := [.int (((((((y7 * (1103515245 : Int64)) + (12345 : Int64)) &&& (2147483647 : Int64)) / (65536 : Int64)) - ((((y7 * (1103515245 : Int64)) + (12345 : Int64)) &&& (2147483647 : Int64)) / (65536 : Int64)) / (v_3796).toInt64 * (v_3796).toInt64)).toInt32), .ref v_3803, .ref v_3799]) rfl ?_
          obtain ⟨v_3806, e_3807, e⟩ := Option.bind_eq_some_iff.mp e
          refine Rn.hp hT rfl rfl (aI_hp e_3807) ?_
          obtain ⟨_, e_3809, e⟩ := Option.bind_eq_some_iff.mp e
          obtain ⟨h_3811, e_3808, e⟩ := Option.bind_eq_some_iff.mp e
          refine Rn.call hT rfl rfl rfl (Nat.le_of_ble_eq_true rfl) (rcv_v gX1_go (by omega) e_3809) (rX1_go (by omega) e_3808 ?_)
          show Rn d _ _ 108 [some (.ref q0), some (.ref q1), some (iv_rf o2), some (.int x3), some (.int x4), some (.int x5), some (.int x6), some (.long (((y7 * (1103515245 : Int64)) + (12345 : Int64)) &&& (2147483647 : Int64))), none, some (.int x9), some (.int x10), some (.int v_3796)] [] h_3811 Q
          refine Rn.n hT 1 (pc' := 109) (L' := [some (.ref q0), some (.ref q1), some (iv_rf o2), some (.int x3), some (.int x4), some (.int x5), some (.int x6), some (.long (((y7 * (1103515245 : Int64)) + (12345 : Int64)) &&& (2147483647 : Int64))), none, some (.int x9), some (.int x10), some (.int v_3796)]) (st' := [.ref q0]) rfl ?_
          obtain ⟨v_3812, e_3813, e⟩ := Option.bind_eq_some_iff.mp e
          refine Rn.hp hT rfl rfl (gR_hp e_3813) ?_
          obtain ⟨_, e_3815, e⟩ := Option.bind_eq_some_iff.mp e
          obtain ⟨h_3817, e_3814, e⟩ := Option.bind_eq_some_iff.mp e
          refine Rn.call hT rfl rfl rfl (Nat.le_of_ble_eq_true rfl) (rcv_v gX3_look (by omega) e_3815) (rX3_look (by omega) e_3814 ?_)
          show Rn d _ _ 115 [some (.ref q0), some (.ref q1), some (iv_rf o2), some (.int x3), some (.int x4), some (.int x5), some (.int x6), some (.long (((y7 * (1103515245 : Int64)) + (12345 : Int64)) &&& (2147483647 : Int64))), none, some (.int x9), some (.int x10), some (.int v_3796)] [] h_3817 Q
          refine Rn.n hT 2 (pc' := 117) (L' := [some (.ref q0), some (.ref q1), some (iv_rf o2), some (.int x3), some (.int x4), some (.int x5), some (.int x6), some (.long (((y7 * (1103515245 : Int64)) + (12345 : Int64)) &&& (2147483647 : Int64))), none, some (.int x9), some (.int x10), some (.int v_3796)]) (st' := [.ref q0, .ref q0]) rfl ?_
          obtain ⟨v_3818, e_3819, e⟩ := Option.bind_eq_some_iff.mp e
          refine Rn.hp hT rfl rfl (gI_hp e_3819) ?_
          refine Rn.n hT 2 (pc' := 122) (L' := [some (.ref q0), some (.ref q1), some (iv_rf o2), some (.int x3), some (.int x4), some (.int x5), some (.int x6), some (.long (((y7 * (1103515245 : Int64)) + (12345 : Int64)) &&& (2147483647 : Int64))), none, some (.int x9), some (.int x10), some (.int v_3796)]) (st' := [.int (v_3818 + (1 : Int32)), .ref q0]) rfl ?_
          obtain ⟨h_3820, e_3821, e⟩ := Option.bind_eq_some_iff.mp e
          refine Rn.hp hT rfl rfl (pV_hp rfl e_3821) ?_
          exact Rn.weak (ll_s (ll_s (ll_s (ll_s (ll_s (ll_s (ll_s (ll_s (ll_n (ll_s (ll_s (ll_n ll_e)))))))))))) (rX10_drawTimes_b125 hd ih hk hq e)
def fX10_drawTimes_b184 (N : Nat) (h : iv_H) (q0 : Nat) (q1 : Nat) (o2 : Option Nat) (x3 : Int32) (x4 : Int32) (x5 : Int32) (x6 : Int32) (y7 : Int64) (x9 : Int32) (s0 : Int32) (s1 : Int32) (sq2 : Nat) (kb : iv_H → Int64 → Int32 → Option (iv_H)) (kx : iv_H → Option (iv_H)) : Option (iv_H) := ((pV h 10 10 sq2 (.int (s1 + s0))).bind fun h_3829 => (kb h_3829 y7 (x9 + (1 : Int32))))
set_option maxRecDepth 10000 in
set_option maxHeartbeats 4000000 in
theorem rX10_drawTimes_b184 {d N : Nat} (hd : 5 ≤ d) {h : iv_H} {q0 : Nat} {q1 : Nat} {o2 : Option Nat} {x3 : Int32} {x4 : Int32} {x5 : Int32} {x6 : Int32} {y7 : Int64} {x9 : Int32} {s0 : Int32} {s1 : Int32} {sq2 : Nat} {kb : iv_H → Int64 → Int32 → Option (iv_H)} {kx : iv_H → Option (iv_H)} {r : iv_H} {Q : Option Value → iv_H → Prop} (hb : ∀ (h : iv_H) (w7 : Int64) (w9 : Int32), kb h w7 w9 = some r → Rn d 134 none 25 [some (.ref q0), some (.ref q1), some (iv_rf o2), some (.int x3), some (.int x4), some (.int x5), some (.int x6), some (.long w7), none, some (.int w9), none, none] [] h Q) (hk : ∀ (h : iv_H), kx h = some r → Rn d 134 none 194 [none, none, none, none, none, none, none, none, none, none, none, none] [] h Q) (hq : Q none r) (e : fX10_drawTimes_b184 N h q0 q1 o2 x3 x4 x5 x6 y7 x9 s0 s1 sq2 kb kx = some r) : Rn d 134 none 184 [some (.ref q0), some (.ref q1), some (iv_rf o2), some (.int x3), some (.int x4), some (.int x5), some (.int x6), some (.long y7), none, some (.int x9), none, none] [.int s0, .int s1, .ref sq2] h Q := by
  have hT := hX10_drawTimes
  unfold fX10_drawTimes_b184 at e
  refine Rn.n hT 1 (pc' := 185) (L' := [some (.ref q0), some (.ref q1), some (iv_rf o2), some (.int x3), some (.int x4), some (.int x5), some (.int x6), some (.long y7), none, some (.int x9), none, none]) (st' := [.int (s1 + s0), .ref sq2]) rfl ?_
  obtain ⟨h_3829, e_3830, e⟩ := Option.bind_eq_some_iff.mp e
  refine Rn.hp hT rfl rfl (pV_hp rfl e_3830) ?_
  refine Rn.n hT 2 (pc' := 25) (L' := [some (.ref q0), some (.ref q1), some (iv_rf o2), some (.int x3), some (.int x4), some (.int x5), some (.int x6), some (.long y7), none, some (.int (x9 + (1 : Int32))), none, none]) (st' := []) rfl ?_
  exact Rn.weak (ll_s (ll_s (ll_s (ll_s (ll_s (ll_s (ll_s (ll_s (ll_n (ll_s (ll_n (ll_n ll_e)))))))))))) (hb h_3829 y7 (x9 + (1 : Int32)) e)
def fX10_drawTimes_l25 (N : Nat) (q0 : Nat) (q1 : Nat) (o2 : Option Nat) (x3 : Int32) (x4 : Int32) (x5 : Int32) (x6 : Int32) (kx : iv_H → Option (iv_H)) : Nat → iv_H → Int64 → Int32 → Option (iv_H)
  | 0, _, _, _ => none
  | n + 1, h, y7, x9 => (if x3 ≤ x9 then (kx h) else ((cko h q0 10).bind fun _ => (fX10_begin N h q0 q1 o2).bind fun h_3767 => (fX10_drawTimes_l40 N q0 q1 o2 x3 x4 x5 x6 x9 (fun (h_3768 : iv_H) (z_3769 : Int64) => ((gI h_3768 10 9 q0).bind fun v_3770 => ((gR h_3768 10 0 q0).bind fun v_3772 => ((cko h_3768 v_3772 1).bind fun _ => (fX1_mismatches N h_3768 v_3772).bind fun v_3776 => ((pV h_3768 10 9 q0 (.int (v_3770 + v_3776))).bind fun h_3777 => ((gI h_3777 10 10 q0).bind fun v_3779 => ((gR h_3777 10 0 q0).bind fun v_3781 => ((cko h_3777 v_3781 1).bind fun _ => (fX1_doorToDoor N h_3777 v_3781 x5 x6).bind fun v_3785 => (if v_3785 = 0 then (fX10_drawTimes_b184 N h_3777 q0 q1 o2 x3 x4 x5 x6 z_3769 x9 (0 : Int32) v_3779 q0 (fX10_drawTimes_l25 N q0 q1 o2 x3 x4 x5 x6 kx n) kx) else (fX10_drawTimes_b184 N h_3777 q0 q1 o2 x3 x4 x5 x6 z_3769 x9 (1 : Int32) v_3779 q0 (fX10_drawTimes_l25 N q0 q1 o2 x3 x4 x5 x6 kx n) kx)))))))))) N h_3767 y7 (0 : Int32))))
set_option maxRecDepth 10000 in
set_option maxHeartbeats 4000000 in
theorem rX10_drawTimes_l25 {d N : Nat} (hd : 5 ≤ d) {q0 : Nat} {q1 : Nat} {o2 : Option Nat} {x3 : Int32} {x4 : Int32} {x5 : Int32} {x6 : Int32} {kx : iv_H → Option (iv_H)} {r : iv_H} {Q : Option Value → iv_H → Prop} (hk : ∀ (h : iv_H), kx h = some r → Rn d 134 none 194 [none, none, none, none, none, none, none, none, none, none, none, none] [] h Q) (hq : Q none r) : ∀ (n : Nat) (h : iv_H) (y7 : Int64) (x9 : Int32), fX10_drawTimes_l25 N q0 q1 o2 x3 x4 x5 x6 kx n h y7 x9 = some r → Rn d 134 none 25 [some (.ref q0), some (.ref q1), some (iv_rf o2), some (.int x3), some (.int x4), some (.int x5), some (.int x6), some (.long y7), none, some (.int x9), none, none] [] h Q := by
  have hT := hX10_drawTimes
  intro n
  induction n with
  | zero =>
    intro h y7 x9 e
    rw [fX10_drawTimes_l25] at e
    cases e
  | succ n ih =>
    intro h y7 x9 e
    rw [fX10_drawTimes_l25] at e
    refine Rn.n hT 2 (pc' := 28) (L' := [some (.ref q0), some (.ref q1), some (iv_rf o2), some (.int x3), some (.int x4), some (.int x5), some (.int x6), some (.long y7), none, some (.int x9), none, none]) (st' := [.int x3, .int x9]) rfl ?_
    by_cases c_3763 : x3 ≤ x9
    · rw [if_pos c_3763] at e
      refine Rn.bt hT rfl rfl rfl (decide_eq_true c_3763) ?_
      exact Rn.weak (ll_n (ll_n (ll_n (ll_n (ll_n (ll_n (ll_n (ll_n (ll_n (ll_n (ll_n (ll_n ll_e)))))))))))) (hk h e)
    · rw [if_neg c_3763] at e
      refine Rn.bf hT rfl rfl rfl (decide_eq_false c_3763) ?_
      refine Rn.n hT 2 (pc' := 33) (L' := [some (.ref q0), some (.ref q1), some (iv_rf o2), some (.int x3), some (.int x4), some (.int x5), some (.int x6), some (.long y7), none, some (.int x9), none, none]) (st' := [.ref q1, .ref q0]) rfl ?_
      refine Rn.lo hT rfl rfl (L' := [some (.ref q0), some (.ref q1), some (iv_rf o2), some (.int x3), some (.int x4), some (.int x5), some (.int x6), some (.long y7), none, some (.int x9), none, none]) (st' := [iv_rf o2, .ref q1, .ref q0]) (ldN (o := o2) rfl) ?_
      obtain ⟨_, e_3765, e⟩ := Option.bind_eq_some_iff.mp e
      obtain ⟨h_3767, e_3764, e⟩ := Option.bind_eq_some_iff.mp e
      refine Rn.call hT rfl rfl rfl (Nat.le_of_ble_eq_true rfl) (rcv_v gX10_begin (by omega) e_3765) (rX10_begin (by omega) e_3764 ?_)
      show Rn d _ _ 37 [some (.ref q0), some (.ref q1), some (iv_rf o2), some (.int x3), some (.int x4), some (.int x5), some (.int x6), some (.long y7), none, some (.int x9), none, none] [] h_3767 Q
      refine Rn.n hT 2 (pc' := 40) (L' := [some (.ref q0), some (.ref q1), some (iv_rf o2), some (.int x3), some (.int x4), some (.int x5), some (.int x6), some (.long y7), none, some (.int x9), some (.int (0 : Int32)), none]) (st' := []) rfl ?_
      refine Rn.weak (ll_s (ll_s (ll_s (ll_s (ll_s (ll_s (ll_s (ll_s (ll_n (ll_s (ll_s (ll_n ll_e)))))))))))) (rX10_drawTimes_l40 hd (fun h_3768 z_3769 e => ?_) hq N h_3767 y7 (0 : Int32) e)
      try dsimp only at e
      refine Rn.n hT 2 (pc' := 146) (L' := [some (.ref q0), some (.ref q1), some (iv_rf o2), some (.int x3), some (.int x4), some (.int x5), some (.int x6), some (.long z_3769), none, some (.int x9), none, none]) (st' := [.ref q0, .ref q0]) rfl ?_
      obtain ⟨v_3770, e_3771, e⟩ := Option.bind_eq_some_iff.mp e
      refine Rn.hp hT rfl rfl (gI_hp e_3771) ?_
      refine Rn.n hT 1 (pc' := 150) (L' := [some (.ref q0), some (.ref q1), some (iv_rf o2), some (.int x3), some (.int x4), some (.int x5), some (.int x6), some (.long z_3769), none, some (.int x9), none, none]) (st' := [.ref q0, .int v_3770, .ref q0]) rfl ?_
      obtain ⟨v_3772, e_3773, e⟩ := Option.bind_eq_some_iff.mp e
      refine Rn.hp hT rfl rfl (gR_hp e_3773) ?_
      obtain ⟨_, e_3775, e⟩ := Option.bind_eq_some_iff.mp e
      obtain ⟨v_3776, e_3774, e⟩ := Option.bind_eq_some_iff.mp e
      refine Rn.call hT rfl rfl rfl (Nat.le_of_ble_eq_true rfl) (rcv_v gX1_mismatches (by omega) e_3775) (rX1_mismatches (by omega) e_3774 ?_)
      show Rn d _ _ 156 [some (.ref q0), some (.ref q1), some (iv_rf o2), some (.int x3), some (.int x4), some (.int x5), some (.int x6), some (.long z_3769), none, some (.int x9), none, none] [.int v_3776, .int v_3770, .ref q0] h_3768 Q
      refine Rn.n hT 1 (pc' := 157) (L' := [some (.ref q0), some (.ref q1), some (iv_rf o2), some (.int x3), some (.int x4), some (.int x5), some (.int x6), some (.long z_3769), none, some (.int x9), none, none]) (st' := [.int (v_3770 + v_3776), .ref q0]) rfl ?_
      obtain ⟨h_3777, e_3778, e⟩ := Option.bind_eq_some_iff.mp e
      refine Rn.hp hT rfl rfl (pV_hp rfl e_3778) ?_
      refine Rn.n hT 2 (pc' := 162) (L' := [some (.ref q0), some (.ref q1), some (iv_rf o2), some (.int x3), some (.int x4), some (.int x5), some (.int x6), some (.long z_3769), none, some (.int x9), none, none]) (st' := [.ref q0, .ref q0]) rfl ?_
      obtain ⟨v_3779, e_3780, e⟩ := Option.bind_eq_some_iff.mp e
      refine Rn.hp hT rfl rfl (gI_hp e_3780) ?_
      refine Rn.n hT 1 (pc' := 166) (L' := [some (.ref q0), some (.ref q1), some (iv_rf o2), some (.int x3), some (.int x4), some (.int x5), some (.int x6), some (.long z_3769), none, some (.int x9), none, none]) (st' := [.ref q0, .int v_3779, .ref q0]) rfl ?_
      obtain ⟨v_3781, e_3782, e⟩ := Option.bind_eq_some_iff.mp e
      refine Rn.hp hT rfl rfl (gR_hp e_3782) ?_
      refine Rn.n hT 2 (pc' := 173) (L' := [some (.ref q0), some (.ref q1), some (iv_rf o2), some (.int x3), some (.int x4), some (.int x5), some (.int x6), some (.long z_3769), none, some (.int x9), none, none]) (st' := [.int x6, .int x5, .ref v_3781, .int v_3779, .ref q0]) rfl ?_
      obtain ⟨_, e_3784, e⟩ := Option.bind_eq_some_iff.mp e
      obtain ⟨v_3785, e_3783, e⟩ := Option.bind_eq_some_iff.mp e
      refine Rn.call hT rfl rfl rfl (Nat.le_of_ble_eq_true rfl) (rcv_v gX1_doorToDoor (by omega) e_3784) (rX1_doorToDoor (by omega) e_3783 ?_)
      show Rn d _ _ 176 [some (.ref q0), some (.ref q1), some (iv_rf o2), some (.int x3), some (.int x4), some (.int x5), some (.int x6), some (.long z_3769), none, some (.int x9), none, none] [.int v_3785, .int v_3779, .ref q0] h_3777 Q
      by_cases c_3786 : v_3785 = 0
      · rw [if_pos c_3786] at e
        refine Rn.bt hT rfl rfl rfl (decide_eq_true c_3786) ?_
        refine Rn.n hT 1 (pc' := 184) (L' := [some (.ref q0), some (.ref q1), some (iv_rf o2), some (.int x3), some (.int x4), some (.int x5), some (.int x6), some (.long z_3769), none, some (.int x9), none, none]) (st' := [.int (0 : Int32), .int v_3779, .ref q0]) rfl ?_
        exact Rn.weak (ll_s (ll_s (ll_s (ll_s (ll_s (ll_s (ll_s (ll_s (ll_n (ll_s (ll_n (ll_n ll_e)))))))))))) (rX10_drawTimes_b184 hd ih hk hq e)
      · rw [if_neg c_3786] at e
        refine Rn.bf hT rfl rfl rfl (decide_eq_false c_3786) ?_
        refine Rn.n hT 2 (pc' := 184) (L' := [some (.ref q0), some (.ref q1), some (iv_rf o2), some (.int x3), some (.int x4), some (.int x5), some (.int x6), some (.long z_3769), none, some (.int x9), none, none]) (st' := [.int (1 : Int32), .int v_3779, .ref q0]) rfl ?_
        exact Rn.weak (ll_s (ll_s (ll_s (ll_s (ll_s (ll_s (ll_s (ll_s (ll_n (ll_s (ll_n (ll_n ll_e)))))))))))) (rX10_drawTimes_b184 hd ih hk hq e)
def fX10_drawTimes (N : Nat) (h : iv_H) (q0 : Nat) (q1 : Nat) (o2 : Option Nat) (x3 : Int32) (x4 : Int32) (x5 : Int32) (x6 : Int32) : Option (iv_H) := ((pV h 10 9 q0 (.int (0 : Int32))).bind fun h_3754 => ((pV h_3754 10 10 q0 (.int (0 : Int32))).bind fun h_3756 => ((pV h_3756 10 11 q0 (.int (0 : Int32))).bind fun h_3758 => ((gI h_3758 2 7 q1).bind fun v_3760 => (fX10_drawTimes_l25 N q0 q1 o2 x3 x4 x5 x6 (fun (h_3762 : iv_H) => some h_3762) N h_3758 ((v_3760).toInt64) (0 : Int32))))))
set_option maxRecDepth 10000 in
set_option maxHeartbeats 4000000 in
theorem rX10_drawTimes {d N : Nat} (hd : 6 ≤ d) {h : iv_H} {q0 : Nat} {q1 : Nat} {o2 : Option Nat} {x3 : Int32} {x4 : Int32} {x5 : Int32} {x6 : Int32} {r : iv_H} {Q : Option Value → iv_H → Prop} (e : fX10_drawTimes N h q0 q1 o2 x3 x4 x5 x6 = some r) (hq : Q none r) : Cl d 134 [.ref q0, .ref q1, iv_rf o2, .int x3, .int x4, .int x5, .int x6] h Q := by
  obtain ⟨d, rfl⟩ : ∃ k, d = k + 1 := ⟨d - 1, by omega⟩
  have hd : 5 ≤ d := by omega
  have hT := hX10_drawTimes
  unfold fX10_drawTimes at e
  have he : iv_ent 12 [.ref q0, .ref q1, iv_rf o2, .int x3, .int x4, .int x5, .int x6] = [some (.ref q0), some (.ref q1), some (iv_rf o2), some (.int x3), some (.int x4), some (.int x5), some (.int x6), none, none, none, none, none] := by cases o2 <;> rfl
  refine Cl.into (by decide) gX10_drawTimes (by rw [he]; rfl) ?_
  rw [he]
  refine Rn.n hT 2 (pc' := 2) (L' := [some (.ref q0), some (.ref q1), some (iv_rf o2), some (.int x3), some (.int x4), some (.int x5), some (.int x6), none, none, none, none, none]) (st' := [.int (0 : Int32), .ref q0]) rfl ?_
  obtain ⟨h_3754, e_3755, e⟩ := Option.bind_eq_some_iff.mp e
  refine Rn.hp hT rfl rfl (pV_hp rfl e_3755) ?_
  refine Rn.n hT 2 (pc' := 7) (L' := [some (.ref q0), some (.ref q1), some (iv_rf o2), some (.int x3), some (.int x4), some (.int x5), some (.int x6), none, none, none, none, none]) (st' := [.int (0 : Int32), .ref q0]) rfl ?_
  obtain ⟨h_3756, e_3757, e⟩ := Option.bind_eq_some_iff.mp e
  refine Rn.hp hT rfl rfl (pV_hp rfl e_3757) ?_
  refine Rn.n hT 2 (pc' := 12) (L' := [some (.ref q0), some (.ref q1), some (iv_rf o2), some (.int x3), some (.int x4), some (.int x5), some (.int x6), none, none, none, none, none]) (st' := [.int (0 : Int32), .ref q0]) rfl ?_
  obtain ⟨h_3758, e_3759, e⟩ := Option.bind_eq_some_iff.mp e
  refine Rn.hp hT rfl rfl (pV_hp rfl e_3759) ?_
  refine Rn.n hT 1 (pc' := 16) (L' := [some (.ref q0), some (.ref q1), some (iv_rf o2), some (.int x3), some (.int x4), some (.int x5), some (.int x6), none, none, none, none, none]) (st' := [.ref q1]) rfl ?_
  obtain ⟨v_3760, e_3761, e⟩ := Option.bind_eq_some_iff.mp e
  refine Rn.hp hT rfl rfl (gI_hp e_3761) ?_
  refine Rn.n hT 4 (pc' := 25) (L' := [some (.ref q0), some (.ref q1), some (iv_rf o2), some (.int x3), some (.int x4), some (.int x5), some (.int x6), some (.long ((v_3760).toInt64)), none, some (.int (0 : Int32)), none, none]) (st' := []) rfl ?_
  refine Rn.weak (ll_s (ll_s (ll_s (ll_s (ll_s (ll_s (ll_s (ll_s (ll_n (ll_s (ll_n (ll_n ll_e)))))))))))) (rX10_drawTimes_l25 hd (fun h_3762 e => ?_) hq N h_3758 ((v_3760).toInt64) (0 : Int32) e)
  try dsimp only at e
  obtain rfl := Option.some.inj e
  exact Rn.ret hT rfl rfl rfl hq
set_option maxRecDepth 10000 in
theorem hX11_init : iv_Tb 135 tX11_init := iv_tb_of (m := mX11_init) rfl
set_option maxRecDepth 10000 in
theorem gX11_init : PG.2 135 = some mX11_init := iv_pi_of (t := tX11_init) rfl (by decide)
def fX11_init (N : Nat) (h : iv_H) (q0 : Nat) : Option (iv_H) := ((nA h 2 (400 : Int32)).bind fun p_3835 => (fun (v_3834 : Nat) (h_3832 : iv_H) => ((pV h_3832 11 0 q0 (.ref v_3834)).bind fun h_3836 => ((pV h_3836 11 1 q0 (.int (0 : Int32))).bind fun h_3838 => ((nM h_3838 (6 : Int32) (401 : Int32)).bind fun p_3843 => (fun (v_3842 : Nat) (h_3840 : iv_H) => ((pV h_3840 11 2 q0 (.ref v_3842)).bind fun h_3844 => ((pV h_3844 11 3 q0 (.int (0 : Int32))).bind fun h_3846 => ((nO h_3846 2).bind fun p_3851 => (fun (v_3850 : Nat) (h_3848 : iv_H) => ((fX2_init N h_3848 v_3850).bind fun h_3854 => ((pV h_3854 11 4 q0 (.ref v_3850)).bind fun h_3855 => ((nO h_3855 2).bind fun p_3860 => (fun (v_3859 : Nat) (h_3857 : iv_H) => ((fX2_init N h_3857 v_3859).bind fun h_3863 => ((pV h_3863 11 5 q0 (.ref v_3859)).bind fun h_3864 => ((nA h_3864 4 (4 : Int32)).bind fun p_3869 => (fun (v_3868 : Nat) (h_3866 : iv_H) => ((pV h_3866 11 6 q0 (.ref v_3868)).bind fun h_3870 => ((nO h_3870 5).bind fun p_3875 => (fun (v_3874 : Nat) (h_3872 : iv_H) => ((fX5_init N h_3872 v_3874).bind fun h_3878 => ((pV h_3878 11 7 q0 (.ref v_3874)).bind fun h_3879 => ((nO h_3879 8).bind fun p_3884 => (fun (v_3883 : Nat) (h_3881 : iv_H) => ((fX8_init N h_3881 v_3883).bind fun h_3887 => ((pV h_3887 11 8 q0 (.ref v_3883)).bind fun h_3888 => ((nO h_3888 3).bind fun p_3893 => (fun (v_3892 : Nat) (h_3890 : iv_H) => ((fX3_init N h_3890 v_3892).bind fun h_3896 => ((pV h_3896 11 9 q0 (.ref v_3892)).bind fun h_3897 => ((nO h_3897 9).bind fun p_3902 => (fun (v_3901 : Nat) (h_3899 : iv_H) => ((fX9_init N h_3899 v_3901).bind fun h_3905 => ((pV h_3905 11 10 q0 (.ref v_3901)).bind fun h_3906 => ((nO h_3906 10).bind fun p_3911 => (fun (v_3910 : Nat) (h_3908 : iv_H) => ((fX10_init N h_3908 v_3910).bind fun h_3914 => ((pV h_3914 11 11 q0 (.ref v_3910)).bind fun h_3915 => ((nO h_3915 0).bind fun p_3920 => (fun (v_3919 : Nat) (h_3917 : iv_H) => ((fX0_init N h_3917 v_3919).bind fun h_3923 => ((pV h_3923 11 12 q0 (.ref v_3919)).bind fun h_3924 => ((nO h_3924 4).bind fun p_3929 => (fun (v_3928 : Nat) (h_3926 : iv_H) => ((fX4_init N h_3926 v_3928).bind fun h_3932 => ((pV h_3932 11 13 q0 (.ref v_3928)).bind fun h_3933 => ((nA h_3933 0 (126 : Int32)).bind fun p_3938 => (fun (v_3937 : Nat) (h_3935 : iv_H) => ((pV h_3935 11 14 q0 (.ref v_3937)).bind fun h_3939 => ((pV h_3939 11 15 q0 (.int (0 : Int32))).bind fun h_3941 => some h_3941))) p_3938.1 p_3938.2)))) p_3929.1 p_3929.2)))) p_3920.1 p_3920.2)))) p_3911.1 p_3911.2)))) p_3902.1 p_3902.2)))) p_3893.1 p_3893.2)))) p_3884.1 p_3884.2)))) p_3875.1 p_3875.2))) p_3869.1 p_3869.2)))) p_3860.1 p_3860.2)))) p_3851.1 p_3851.2)))) p_3843.1 p_3843.2)))) p_3835.1 p_3835.2)
set_option maxRecDepth 10000 in
set_option maxHeartbeats 4000000 in
theorem rX11_init {d N : Nat} (hd : 4 ≤ d) {h : iv_H} {q0 : Nat} {r : iv_H} {Q : Option Value → iv_H → Prop} (e : fX11_init N h q0 = some r) (hq : Q none r) : Cl d 135 [.ref q0] h Q := by
  obtain ⟨d, rfl⟩ : ∃ k, d = k + 1 := ⟨d - 1, by omega⟩
  have hd : 3 ≤ d := by omega
  have hT := hX11_init
  unfold fX11_init at e
  refine Cl.into (by decide) gX11_init rfl ?_
  show Rn d 135 none 0 [some (.ref q0)] [] h Q
  refine Rn.n hT 1 (pc' := 1) (L' := [some (.ref q0)]) (st' := [.ref q0]) rfl ?_
  refine Rn.hp hT rfl rfl (st' := []) (h1 := h) rfl ?_
  refine Rn.n hT 2 (pc' := 8) (L' := [some (.ref q0)]) (st' := [.int (400 : Int32), .ref q0]) rfl ?_
  obtain ⟨⟨v_3834, h_3832⟩, e_3833, e⟩ := Option.bind_eq_some_iff.mp e
  try dsimp only at e
  refine Rn.hp hT rfl rfl (nA_hp rfl e_3833) ?_
  obtain ⟨h_3836, e_3837, e⟩ := Option.bind_eq_some_iff.mp e
  refine Rn.hp hT rfl rfl (pV_hp rfl e_3837) ?_
  refine Rn.n hT 2 (pc' := 15) (L' := [some (.ref q0)]) (st' := [.int (0 : Int32), .ref q0]) rfl ?_
  obtain ⟨h_3838, e_3839, e⟩ := Option.bind_eq_some_iff.mp e
  refine Rn.hp hT rfl rfl (pV_hp rfl e_3839) ?_
  refine Rn.n hT 3 (pc' := 24) (L' := [some (.ref q0)]) (st' := [.int (401 : Int32), .int (6 : Int32), .ref q0]) rfl ?_
  obtain ⟨⟨v_3842, h_3840⟩, e_3841, e⟩ := Option.bind_eq_some_iff.mp e
  try dsimp only at e
  refine Rn.hp hT rfl rfl (nM_hp e_3841) ?_
  obtain ⟨h_3844, e_3845, e⟩ := Option.bind_eq_some_iff.mp e
  refine Rn.hp hT rfl rfl (pV_hp rfl e_3845) ?_
  refine Rn.n hT 2 (pc' := 33) (L' := [some (.ref q0)]) (st' := [.int (0 : Int32), .ref q0]) rfl ?_
  obtain ⟨h_3846, e_3847, e⟩ := Option.bind_eq_some_iff.mp e
  refine Rn.hp hT rfl rfl (pV_hp rfl e_3847) ?_
  refine Rn.n hT 1 (pc' := 37) (L' := [some (.ref q0)]) (st' := [.ref q0]) rfl ?_
  obtain ⟨⟨v_3850, h_3848⟩, e_3849, e⟩ := Option.bind_eq_some_iff.mp e
  try dsimp only at e
  refine Rn.hp hT rfl rfl (nO_hp e_3849) ?_
  refine Rn.n hT 1 (pc' := 41) (L' := [some (.ref q0)]) (st' := [.ref v_3850, .ref v_3850, .ref q0]) rfl ?_
  obtain ⟨h_3854, e_3852, e⟩ := Option.bind_eq_some_iff.mp e
  refine Rn.call hT rfl rfl rfl (Nat.le_of_ble_eq_true rfl) rfl (rX2_init (by omega) e_3852 ?_)
  show Rn d _ _ 44 [some (.ref q0)] [.ref v_3850, .ref q0] h_3854 Q
  obtain ⟨h_3855, e_3856, e⟩ := Option.bind_eq_some_iff.mp e
  refine Rn.hp hT rfl rfl (pV_hp rfl e_3856) ?_
  refine Rn.n hT 1 (pc' := 48) (L' := [some (.ref q0)]) (st' := [.ref q0]) rfl ?_
  obtain ⟨⟨v_3859, h_3857⟩, e_3858, e⟩ := Option.bind_eq_some_iff.mp e
  try dsimp only at e
  refine Rn.hp hT rfl rfl (nO_hp e_3858) ?_
  refine Rn.n hT 1 (pc' := 52) (L' := [some (.ref q0)]) (st' := [.ref v_3859, .ref v_3859, .ref q0]) rfl ?_
  obtain ⟨h_3863, e_3861, e⟩ := Option.bind_eq_some_iff.mp e
  refine Rn.call hT rfl rfl rfl (Nat.le_of_ble_eq_true rfl) rfl (rX2_init (by omega) e_3861 ?_)
  show Rn d _ _ 55 [some (.ref q0)] [.ref v_3859, .ref q0] h_3863 Q
  obtain ⟨h_3864, e_3865, e⟩ := Option.bind_eq_some_iff.mp e
  refine Rn.hp hT rfl rfl (pV_hp rfl e_3865) ?_
  refine Rn.n hT 2 (pc' := 60) (L' := [some (.ref q0)]) (st' := [.int (4 : Int32), .ref q0]) rfl ?_
  obtain ⟨⟨v_3868, h_3866⟩, e_3867, e⟩ := Option.bind_eq_some_iff.mp e
  try dsimp only at e
  refine Rn.hp hT rfl rfl (nQ_hp e_3867) ?_
  obtain ⟨h_3870, e_3871, e⟩ := Option.bind_eq_some_iff.mp e
  refine Rn.hp hT rfl rfl (pV_hp rfl e_3871) ?_
  refine Rn.n hT 1 (pc' := 67) (L' := [some (.ref q0)]) (st' := [.ref q0]) rfl ?_
  obtain ⟨⟨v_3874, h_3872⟩, e_3873, e⟩ := Option.bind_eq_some_iff.mp e
  try dsimp only at e
  refine Rn.hp hT rfl rfl (nO_hp e_3873) ?_
  refine Rn.n hT 1 (pc' := 71) (L' := [some (.ref q0)]) (st' := [.ref v_3874, .ref v_3874, .ref q0]) rfl ?_
  obtain ⟨h_3878, e_3876, e⟩ := Option.bind_eq_some_iff.mp e
  refine Rn.call hT rfl rfl rfl (Nat.le_of_ble_eq_true rfl) rfl (rX5_init (by omega) e_3876 ?_)
  show Rn d _ _ 74 [some (.ref q0)] [.ref v_3874, .ref q0] h_3878 Q
  obtain ⟨h_3879, e_3880, e⟩ := Option.bind_eq_some_iff.mp e
  refine Rn.hp hT rfl rfl (pV_hp rfl e_3880) ?_
  refine Rn.n hT 1 (pc' := 78) (L' := [some (.ref q0)]) (st' := [.ref q0]) rfl ?_
  obtain ⟨⟨v_3883, h_3881⟩, e_3882, e⟩ := Option.bind_eq_some_iff.mp e
  try dsimp only at e
  refine Rn.hp hT rfl rfl (nO_hp e_3882) ?_
  refine Rn.n hT 1 (pc' := 82) (L' := [some (.ref q0)]) (st' := [.ref v_3883, .ref v_3883, .ref q0]) rfl ?_
  obtain ⟨h_3887, e_3885, e⟩ := Option.bind_eq_some_iff.mp e
  refine Rn.call hT rfl rfl rfl (Nat.le_of_ble_eq_true rfl) rfl (rX8_init (by omega) e_3885 ?_)
  show Rn d _ _ 85 [some (.ref q0)] [.ref v_3883, .ref q0] h_3887 Q
  obtain ⟨h_3888, e_3889, e⟩ := Option.bind_eq_some_iff.mp e
  refine Rn.hp hT rfl rfl (pV_hp rfl e_3889) ?_
  refine Rn.n hT 1 (pc' := 89) (L' := [some (.ref q0)]) (st' := [.ref q0]) rfl ?_
  obtain ⟨⟨v_3892, h_3890⟩, e_3891, e⟩ := Option.bind_eq_some_iff.mp e
  try dsimp only at e
  refine Rn.hp hT rfl rfl (nO_hp e_3891) ?_
  refine Rn.n hT 1 (pc' := 93) (L' := [some (.ref q0)]) (st' := [.ref v_3892, .ref v_3892, .ref q0]) rfl ?_
  obtain ⟨h_3896, e_3894, e⟩ := Option.bind_eq_some_iff.mp e
  refine Rn.call hT rfl rfl rfl (Nat.le_of_ble_eq_true rfl) rfl (rX3_init (by omega) e_3894 ?_)
  show Rn d _ _ 96 [some (.ref q0)] [.ref v_3892, .ref q0] h_3896 Q
  obtain ⟨h_3897, e_3898, e⟩ := Option.bind_eq_some_iff.mp e
  refine Rn.hp hT rfl rfl (pV_hp rfl e_3898) ?_
  refine Rn.n hT 1 (pc' := 100) (L' := [some (.ref q0)]) (st' := [.ref q0]) rfl ?_
  obtain ⟨⟨v_3901, h_3899⟩, e_3900, e⟩ := Option.bind_eq_some_iff.mp e
  try dsimp only at e
  refine Rn.hp hT rfl rfl (nO_hp e_3900) ?_
  refine Rn.n hT 1 (pc' := 104) (L' := [some (.ref q0)]) (st' := [.ref v_3901, .ref v_3901, .ref q0]) rfl ?_
  obtain ⟨h_3905, e_3903, e⟩ := Option.bind_eq_some_iff.mp e
  refine Rn.call hT rfl rfl rfl (Nat.le_of_ble_eq_true rfl) rfl (rX9_init (by omega) e_3903 ?_)
  show Rn d _ _ 107 [some (.ref q0)] [.ref v_3901, .ref q0] h_3905 Q
  obtain ⟨h_3906, e_3907, e⟩ := Option.bind_eq_some_iff.mp e
  refine Rn.hp hT rfl rfl (pV_hp rfl e_3907) ?_
  refine Rn.n hT 1 (pc' := 111) (L' := [some (.ref q0)]) (st' := [.ref q0]) rfl ?_
  obtain ⟨⟨v_3910, h_3908⟩, e_3909, e⟩ := Option.bind_eq_some_iff.mp e
  try dsimp only at e
  refine Rn.hp hT rfl rfl (nO_hp e_3909) ?_
  refine Rn.n hT 1 (pc' := 115) (L' := [some (.ref q0)]) (st' := [.ref v_3910, .ref v_3910, .ref q0]) rfl ?_
  obtain ⟨h_3914, e_3912, e⟩ := Option.bind_eq_some_iff.mp e
  refine Rn.call hT rfl rfl rfl (Nat.le_of_ble_eq_true rfl) rfl (rX10_init (by omega) e_3912 ?_)
  show Rn d _ _ 118 [some (.ref q0)] [.ref v_3910, .ref q0] h_3914 Q
  obtain ⟨h_3915, e_3916, e⟩ := Option.bind_eq_some_iff.mp e
  refine Rn.hp hT rfl rfl (pV_hp rfl e_3916) ?_
  refine Rn.n hT 1 (pc' := 122) (L' := [some (.ref q0)]) (st' := [.ref q0]) rfl ?_
  obtain ⟨⟨v_3919, h_3917⟩, e_3918, e⟩ := Option.bind_eq_some_iff.mp e
  try dsimp only at e
  refine Rn.hp hT rfl rfl (nO_hp e_3918) ?_
  refine Rn.n hT 1 (pc' := 126) (L' := [some (.ref q0)]) (st' := [.ref v_3919, .ref v_3919, .ref q0]) rfl ?_
  obtain ⟨h_3923, e_3921, e⟩ := Option.bind_eq_some_iff.mp e
  refine Rn.call hT rfl rfl rfl (Nat.le_of_ble_eq_true rfl) rfl (rX0_init (by omega) e_3921 ?_)
  show Rn d _ _ 129 [some (.ref q0)] [.ref v_3919, .ref q0] h_3923 Q
  obtain ⟨h_3924, e_3925, e⟩ := Option.bind_eq_some_iff.mp e
  refine Rn.hp hT rfl rfl (pV_hp rfl e_3925) ?_
  refine Rn.n hT 1 (pc' := 133) (L' := [some (.ref q0)]) (st' := [.ref q0]) rfl ?_
  obtain ⟨⟨v_3928, h_3926⟩, e_3927, e⟩ := Option.bind_eq_some_iff.mp e
  try dsimp only at e
  refine Rn.hp hT rfl rfl (nO_hp e_3927) ?_
  refine Rn.n hT 1 (pc' := 137) (L' := [some (.ref q0)]) (st' := [.ref v_3928, .ref v_3928, .ref q0]) rfl ?_
  obtain ⟨h_3932, e_3930, e⟩ := Option.bind_eq_some_iff.mp e
  refine Rn.call hT rfl rfl rfl (Nat.le_of_ble_eq_true rfl) rfl (rX4_init (by omega) e_3930 ?_)
  show Rn d _ _ 140 [some (.ref q0)] [.ref v_3928, .ref q0] h_3932 Q
  obtain ⟨h_3933, e_3934, e⟩ := Option.bind_eq_some_iff.mp e
  refine Rn.hp hT rfl rfl (pV_hp rfl e_3934) ?_
  refine Rn.n hT 2 (pc' := 146) (L' := [some (.ref q0)]) (st' := [.int (126 : Int32), .ref q0]) rfl ?_
  obtain ⟨⟨v_3937, h_3935⟩, e_3936, e⟩ := Option.bind_eq_some_iff.mp e
  try dsimp only at e
  refine Rn.hp hT rfl rfl (nA_hp rfl e_3936) ?_
  obtain ⟨h_3939, e_3940, e⟩ := Option.bind_eq_some_iff.mp e
  refine Rn.hp hT rfl rfl (pV_hp rfl e_3940) ?_
  refine Rn.n hT 2 (pc' := 153) (L' := [some (.ref q0)]) (st' := [.int (0 : Int32), .ref q0]) rfl ?_
  obtain ⟨h_3941, e_3942, e⟩ := Option.bind_eq_some_iff.mp e
  refine Rn.hp hT rfl rfl (pV_hp rfl e_3942) ?_
  obtain rfl := Option.some.inj e
  exact Rn.ret hT rfl rfl rfl hq
set_option maxRecDepth 10000 in
theorem hX11_putBytes : iv_Tb 137 tX11_putBytes := iv_tb_of (m := mX11_putBytes) rfl
set_option maxRecDepth 10000 in
theorem gX11_putBytes : PG.2 137 = some mX11_putBytes := iv_pi_of (t := tX11_putBytes) rfl (by decide)
def fX11_putBytes_l3 (N : Nat) (q0 : Nat) (x1 : Int32) (kx : iv_H → Option (iv_H)) : Nat → iv_H → Int32 → Option (iv_H)
  | 0, _, _ => none
  | n + 1, h, x2 => (if x2 < 0 then (kx h) else ((gI h 11 1 q0).bind fun v_3945 => (if (400 : Int32) ≤ v_3945 then (kx h) else ((gR h 11 0 q0).bind fun v_3948 => ((gI h 11 1 q0).bind fun v_3950 => ((wB h v_3948 v_3950 (((x1 >>> (x2 &&& 31))).toInt8.toInt32)).bind fun h_3952 => ((gI h_3952 11 1 q0).bind fun v_3954 => ((pV h_3952 11 1 q0 (.int (v_3954 + (1 : Int32)))).bind fun h_3956 => (fX11_putBytes_l3 N q0 x1 kx n h_3956 (x2 + (-8 : Int32)))))))))))
set_option maxRecDepth 10000 in
set_option maxHeartbeats 4000000 in
theorem rX11_putBytes_l3 {d N : Nat} (hd : 0 ≤ d) {q0 : Nat} {x1 : Int32} {kx : iv_H → Option (iv_H)} {r : iv_H} {Q : Option Value → iv_H → Prop} (hk : ∀ (h : iv_H), kx h = some r → Rn d 137 none 46 [none, none, none] [] h Q) (hq : Q none r) : ∀ (n : Nat) (h : iv_H) (x2 : Int32), fX11_putBytes_l3 N q0 x1 kx n h x2 = some r → Rn d 137 none 3 [some (.ref q0), some (.int x1), some (.int x2)] [] h Q := by
  have hT := hX11_putBytes
  intro n
  induction n with
  | zero =>
    intro h x2 e
    rw [fX11_putBytes_l3] at e
    cases e
  | succ n ih =>
    intro h x2 e
    rw [fX11_putBytes_l3] at e
    refine Rn.n hT 1 (pc' := 4) (L' := [some (.ref q0), some (.int x1), some (.int x2)]) (st' := [.int x2]) rfl ?_
    by_cases c_3944 : x2 < 0
    · rw [if_pos c_3944] at e
      refine Rn.bt hT rfl rfl rfl (decide_eq_true c_3944) ?_
      exact Rn.weak (ll_n (ll_n (ll_n ll_e))) (hk h e)
    · rw [if_neg c_3944] at e
      refine Rn.bf hT rfl rfl rfl (decide_eq_false c_3944) ?_
      refine Rn.n hT 1 (pc' := 8) (L' := [some (.ref q0), some (.int x1), some (.int x2)]) (st' := [.ref q0]) rfl ?_
      obtain ⟨v_3945, e_3946, e⟩ := Option.bind_eq_some_iff.mp e
      refine Rn.hp hT rfl rfl (gI_hp e_3946) ?_
      refine Rn.n hT 1 (pc' := 14) (L' := [some (.ref q0), some (.int x1), some (.int x2)]) (st' := [.int (400 : Int32), .int v_3945]) rfl ?_
      by_cases c_3947 : (400 : Int32) ≤ v_3945
      · rw [if_pos c_3947] at e
        refine Rn.bt hT rfl rfl rfl (decide_eq_true c_3947) ?_
        exact Rn.weak (ll_n (ll_n (ll_n ll_e))) (hk h e)
      · rw [if_neg c_3947] at e
        refine Rn.bf hT rfl rfl rfl (decide_eq_false c_3947) ?_
        refine Rn.n hT 1 (pc' := 18) (L' := [some (.ref q0), some (.int x1), some (.int x2)]) (st' := [.ref q0]) rfl ?_
        obtain ⟨v_3948, e_3949, e⟩ := Option.bind_eq_some_iff.mp e
        refine Rn.hp hT rfl rfl (gR_hp e_3949) ?_
        refine Rn.n hT 1 (pc' := 22) (L' := [some (.ref q0), some (.int x1), some (.int x2)]) (st' := [.ref q0, .ref v_3948]) rfl ?_
        obtain ⟨v_3950, e_3951, e⟩ := Option.bind_eq_some_iff.mp e
        refine Rn.hp hT rfl rfl (gI_hp e_3951) ?_
        refine Rn.n hT 4 (pc' := 29) (L' := [some (.ref q0), some (.int x1), some (.int x2)]) (st' := [.int (((x1 >>> (x2 &&& 31))).toInt8.toInt32), .int v_3950, .ref v_3948]) rfl ?_
        obtain ⟨h_3952, e_3953, e⟩ := Option.bind_eq_some_iff.mp e
        refine Rn.hp hT rfl rfl (wB_hp e_3953) ?_
        refine Rn.n hT 2 (pc' := 32) (L' := [some (.ref q0), some (.int x1), some (.int x2)]) (st' := [.ref q0, .ref q0]) rfl ?_
        obtain ⟨v_3954, e_3955, e⟩ := Option.bind_eq_some_iff.mp e
        refine Rn.hp hT rfl rfl (gI_hp e_3955) ?_
        refine Rn.n hT 2 (pc' := 37) (L' := [some (.ref q0), some (.int x1), some (.int x2)]) (st' := [.int (v_3954 + (1 : Int32)), .ref q0]) rfl ?_
        obtain ⟨h_3956, e_3957, e⟩ := Option.bind_eq_some_iff.mp e
        refine Rn.hp hT rfl rfl (pV_hp rfl e_3957) ?_
        refine Rn.n hT 2 (pc' := 3) (L' := [some (.ref q0), some (.int x1), some (.int (x2 + (-8 : Int32)))]) (st' := []) rfl ?_
        exact Rn.weak (ll_s (ll_s (ll_s ll_e))) (ih h_3956 (x2 + (-8 : Int32)) e)
def fX11_putBytes_b46 (N : Nat) (h : iv_H)   : Option (iv_H) := some h
set_option maxRecDepth 10000 in
set_option maxHeartbeats 4000000 in
theorem rX11_putBytes_b46 {d N : Nat} (hd : 0 ≤ d) {h : iv_H}   {r : iv_H} {Q : Option Value → iv_H → Prop} (hq : Q none r) (e : fX11_putBytes_b46 N h   = some r) : Rn d 137 none 46 [none, none, none] [] h Q := by
  have hT := hX11_putBytes
  unfold fX11_putBytes_b46 at e
  obtain rfl := Option.some.inj e
  exact Rn.ret hT rfl rfl rfl hq
def fX11_putBytes (N : Nat) (h : iv_H) (q0 : Nat) (x1 : Int32) : Option (iv_H) := (fX11_putBytes_l3 N q0 x1 (fun (h_3943 : iv_H) => (fX11_putBytes_b46 N h_3943)) N h (24 : Int32))
set_option maxRecDepth 10000 in
set_option maxHeartbeats 4000000 in
theorem rX11_putBytes {d N : Nat} (hd : 1 ≤ d) {h : iv_H} {q0 : Nat} {x1 : Int32} {r : iv_H} {Q : Option Value → iv_H → Prop} (e : fX11_putBytes N h q0 x1 = some r) (hq : Q none r) : Cl d 137 [.ref q0, .int x1] h Q := by
  obtain ⟨d, rfl⟩ : ∃ k, d = k + 1 := ⟨d - 1, by omega⟩
  have hd : 0 ≤ d := by omega
  have hT := hX11_putBytes
  unfold fX11_putBytes at e
  refine Cl.into (by decide) gX11_putBytes rfl ?_
  show Rn d 137 none 0 [some (.ref q0), some (.int x1), none] [] h Q
  refine Rn.n hT 2 (pc' := 3) (L' := [some (.ref q0), some (.int x1), some (.int (24 : Int32))]) (st' := []) rfl ?_
  refine Rn.weak (ll_s (ll_s (ll_s ll_e))) (rX11_putBytes_l3 hd (fun h_3943 e => ?_) hq N h (24 : Int32) e)
  try dsimp only at e
  exact Rn.weak (ll_n (ll_n (ll_n ll_e))) (rX11_putBytes_b46 hd hq e)
set_option maxRecDepth 10000 in
theorem hX11_feed : iv_Tb 136 tX11_feed := iv_tb_of (m := mX11_feed) rfl
set_option maxRecDepth 10000 in
theorem gX11_feed : PG.2 136 = some mX11_feed := iv_pi_of (t := tX11_feed) rfl (by decide)
def fX11_feed (N : Nat) (h : iv_H) (q0 : Nat) (x1 : Int32) (x2 : Int32) (x3 : Int32) (x4 : Int32) (x5 : Int32) : Option (Int32 × iv_H) := ((gI h 11 1 q0).bind fun v_3958 => (if (v_3958 + (20 : Int32)) ≤ (400 : Int32) then ((cko h q0 11).bind fun _ => (fX11_putBytes N h q0 x1).bind fun h_3964 => ((cko h_3964 q0 11).bind fun _ => (fX11_putBytes N h_3964 q0 x2).bind fun h_3968 => ((cko h_3968 q0 11).bind fun _ => (fX11_putBytes N h_3968 q0 x3).bind fun h_3972 => ((cko h_3972 q0 11).bind fun _ => (fX11_putBytes N h_3972 q0 x4).bind fun h_3976 => ((cko h_3976 q0 11).bind fun _ => (fX11_putBytes N h_3976 q0 x5).bind fun h_3980 => ((gI h_3980 11 1 q0).bind fun v_3981 => (some (v_3981, h_3980)))))))) else (some ((-1 : Int32), h))))
set_option maxRecDepth 10000 in
set_option maxHeartbeats 4000000 in
theorem rX11_feed {d N : Nat} (hd : 2 ≤ d) {h : iv_H} {q0 : Nat} {x1 : Int32} {x2 : Int32} {x3 : Int32} {x4 : Int32} {x5 : Int32} {r : Int32 × iv_H} {Q : Option Value → iv_H → Prop} (e : fX11_feed N h q0 x1 x2 x3 x4 x5 = some r) (hq : Q (some (.int r.1)) r.2) : Cl d 136 [.ref q0, .int x1, .int x2, .int x3, .int x4, .int x5] h Q := by
  obtain ⟨d, rfl⟩ : ∃ k, d = k + 1 := ⟨d - 1, by omega⟩
  have hd : 1 ≤ d := by omega
  have hT := hX11_feed
  unfold fX11_feed at e
  refine Cl.into (by decide) gX11_feed rfl ?_
  show Rn d 136 (some .int) 0 [some (.ref q0), some (.int x1), some (.int x2), some (.int x3), some (.int x4), some (.int x5)] [] h Q
  refine Rn.n hT 1 (pc' := 1) (L' := [some (.ref q0), some (.int x1), some (.int x2), some (.int x3), some (.int x4), some (.int x5)]) (st' := [.ref q0]) rfl ?_
  obtain ⟨v_3958, e_3959, e⟩ := Option.bind_eq_some_iff.mp e
  refine Rn.hp hT rfl rfl (gI_hp e_3959) ?_
  refine Rn.n hT 3 (pc' := 10) (L' := [some (.ref q0), some (.int x1), some (.int x2), some (.int x3), some (.int x4), some (.int x5)]) (st' := [.int (400 : Int32), .int (v_3958 + (20 : Int32))]) rfl ?_
  by_cases c_3960 : (v_3958 + (20 : Int32)) ≤ (400 : Int32)
  · rw [if_pos c_3960] at e
    refine Rn.bt hT rfl rfl rfl (decide_eq_true c_3960) ?_
    refine Rn.n hT 2 (pc' := 17) (L' := [some (.ref q0), some (.int x1), some (.int x2), some (.int x3), some (.int x4), some (.int x5)]) (st' := [.int x1, .ref q0]) rfl ?_
    obtain ⟨_, e_3962, e⟩ := Option.bind_eq_some_iff.mp e
    obtain ⟨h_3964, e_3961, e⟩ := Option.bind_eq_some_iff.mp e
    refine Rn.call hT rfl rfl rfl (Nat.le_of_ble_eq_true rfl) (rcv_v gX11_putBytes (by omega) e_3962) (rX11_putBytes (by omega) e_3961 ?_)
    show Rn d _ _ 20 [some (.ref q0), some (.int x1), some (.int x2), some (.int x3), some (.int x4), some (.int x5)] [] h_3964 Q
    refine Rn.n hT 2 (pc' := 22) (L' := [some (.ref q0), some (.int x1), some (.int x2), some (.int x3), some (.int x4), some (.int x5)]) (st' := [.int x2, .ref q0]) rfl ?_
    obtain ⟨_, e_3966, e⟩ := Option.bind_eq_some_iff.mp e
    obtain ⟨h_3968, e_3965, e⟩ := Option.bind_eq_some_iff.mp e
    refine Rn.call hT rfl rfl rfl (Nat.le_of_ble_eq_true rfl) (rcv_v gX11_putBytes (by omega) e_3966) (rX11_putBytes (by omega) e_3965 ?_)
    show Rn d _ _ 25 [some (.ref q0), some (.int x1), some (.int x2), some (.int x3), some (.int x4), some (.int x5)] [] h_3968 Q
    refine Rn.n hT 2 (pc' := 27) (L' := [some (.ref q0), some (.int x1), some (.int x2), some (.int x3), some (.int x4), some (.int x5)]) (st' := [.int x3, .ref q0]) rfl ?_
    obtain ⟨_, e_3970, e⟩ := Option.bind_eq_some_iff.mp e
    obtain ⟨h_3972, e_3969, e⟩ := Option.bind_eq_some_iff.mp e
    refine Rn.call hT rfl rfl rfl (Nat.le_of_ble_eq_true rfl) (rcv_v gX11_putBytes (by omega) e_3970) (rX11_putBytes (by omega) e_3969 ?_)
    show Rn d _ _ 30 [some (.ref q0), some (.int x1), some (.int x2), some (.int x3), some (.int x4), some (.int x5)] [] h_3972 Q
    refine Rn.n hT 2 (pc' := 33) (L' := [some (.ref q0), some (.int x1), some (.int x2), some (.int x3), some (.int x4), some (.int x5)]) (st' := [.int x4, .ref q0]) rfl ?_
    obtain ⟨_, e_3974, e⟩ := Option.bind_eq_some_iff.mp e
    obtain ⟨h_3976, e_3973, e⟩ := Option.bind_eq_some_iff.mp e
    refine Rn.call hT rfl rfl rfl (Nat.le_of_ble_eq_true rfl) (rcv_v gX11_putBytes (by omega) e_3974) (rX11_putBytes (by omega) e_3973 ?_)
    show Rn d _ _ 36 [some (.ref q0), some (.int x1), some (.int x2), some (.int x3), some (.int x4), some (.int x5)] [] h_3976 Q
    refine Rn.n hT 2 (pc' := 39) (L' := [some (.ref q0), some (.int x1), some (.int x2), some (.int x3), some (.int x4), some (.int x5)]) (st' := [.int x5, .ref q0]) rfl ?_
    obtain ⟨_, e_3978, e⟩ := Option.bind_eq_some_iff.mp e
    obtain ⟨h_3980, e_3977, e⟩ := Option.bind_eq_some_iff.mp e
    refine Rn.call hT rfl rfl rfl (Nat.le_of_ble_eq_true rfl) (rcv_v gX11_putBytes (by omega) e_3978) (rX11_putBytes (by omega) e_3977 ?_)
    show Rn d _ _ 42 [some (.ref q0), some (.int x1), some (.int x2), some (.int x3), some (.int x4), some (.int x5)] [] h_3980 Q
    refine Rn.n hT 1 (pc' := 43) (L' := [some (.ref q0), some (.int x1), some (.int x2), some (.int x3), some (.int x4), some (.int x5)]) (st' := [.ref q0]) rfl ?_
    obtain ⟨v_3981, e_3982, e⟩ := Option.bind_eq_some_iff.mp e
    refine Rn.hp hT rfl rfl (gI_hp e_3982) ?_
    obtain rfl := Option.some.inj e
    exact Rn.ret hT rfl rfl rfl hq
  · rw [if_neg c_3960] at e
    refine Rn.bf hT rfl rfl rfl (decide_eq_false c_3960) ?_
    refine Rn.n hT 1 (pc' := 14) (L' := [some (.ref q0), some (.int x1), some (.int x2), some (.int x3), some (.int x4), some (.int x5)]) (st' := [.int (-1 : Int32)]) rfl ?_
    obtain rfl := Option.some.inj e
    exact Rn.ret hT rfl rfl rfl hq
set_option maxRecDepth 10000 in
theorem hX11_end : iv_Tb 138 tX11_end := iv_tb_of (m := mX11_end) rfl
set_option maxRecDepth 10000 in
theorem gX11_end : PG.2 138 = some mX11_end := iv_pi_of (t := tX11_end) rfl (by decide)
def fX11_end_b12 (N : Nat) (h : iv_H)   : Option (Int32 × iv_H) := (some ((-1 : Int32), h))
set_option maxRecDepth 10000 in
set_option maxHeartbeats 4000000 in
theorem rX11_end_b12 {d N : Nat} (hd : 0 ≤ d) {h : iv_H}   {r : Int32 × iv_H} {Q : Option Value → iv_H → Prop} (hq : Q (some (.int r.1)) r.2) (e : fX11_end_b12 N h   = some r) : Rn d 138 (some .int) 12 [none, none] [] h Q := by
  have hT := hX11_end
  unfold fX11_end_b12 at e
  refine Rn.n hT 1 (pc' := 13) (L' := [none, none]) (st' := [.int (-1 : Int32)]) rfl ?_
  obtain rfl := Option.some.inj e
  exact Rn.ret hT rfl rfl rfl hq
def fX11_end (N : Nat) (h : iv_H) (q0 : Nat) (x1 : Int32) : Option (Int32 × iv_H) := (if x1 < 0 then (fX11_end_b12 N h) else ((gI h 11 1 q0).bind fun v_3984 => (if x1 ≤ v_3984 then ((pV h 11 1 q0 (.int x1)).bind fun h_3987 => (some (x1, h_3987))) else (fX11_end_b12 N h))))
set_option maxRecDepth 10000 in
set_option maxHeartbeats 4000000 in
theorem rX11_end {d N : Nat} (hd : 1 ≤ d) {h : iv_H} {q0 : Nat} {x1 : Int32} {r : Int32 × iv_H} {Q : Option Value → iv_H → Prop} (e : fX11_end N h q0 x1 = some r) (hq : Q (some (.int r.1)) r.2) : Cl d 138 [.ref q0, .int x1] h Q := by
  obtain ⟨d, rfl⟩ : ∃ k, d = k + 1 := ⟨d - 1, by omega⟩
  have hd : 0 ≤ d := by omega
  have hT := hX11_end
  unfold fX11_end at e
  refine Cl.into (by decide) gX11_end rfl ?_
  show Rn d 138 (some .int) 0 [some (.ref q0), some (.int x1)] [] h Q
  refine Rn.n hT 1 (pc' := 1) (L' := [some (.ref q0), some (.int x1)]) (st' := [.int x1]) rfl ?_
  by_cases c_3983 : x1 < 0
  · rw [if_pos c_3983] at e
    refine Rn.bt hT rfl rfl rfl (decide_eq_true c_3983) ?_
    exact Rn.weak (ll_n (ll_n ll_e)) (rX11_end_b12 hd hq e)
  · rw [if_neg c_3983] at e
    refine Rn.bf hT rfl rfl rfl (decide_eq_false c_3983) ?_
    refine Rn.n hT 2 (pc' := 6) (L' := [some (.ref q0), some (.int x1)]) (st' := [.ref q0, .int x1]) rfl ?_
    obtain ⟨v_3984, e_3985, e⟩ := Option.bind_eq_some_iff.mp e
    refine Rn.hp hT rfl rfl (gI_hp e_3985) ?_
    by_cases c_3986 : x1 ≤ v_3984
    · rw [if_pos c_3986] at e
      refine Rn.bt hT rfl rfl rfl (decide_eq_true c_3986) ?_
      refine Rn.n hT 2 (pc' := 16) (L' := [some (.ref q0), some (.int x1)]) (st' := [.int x1, .ref q0]) rfl ?_
      obtain ⟨h_3987, e_3988, e⟩ := Option.bind_eq_some_iff.mp e
      refine Rn.hp hT rfl rfl (pV_hp rfl e_3988) ?_
      refine Rn.n hT 1 (pc' := 20) (L' := [some (.ref q0), some (.int x1)]) (st' := [.int x1]) rfl ?_
      obtain rfl := Option.some.inj e
      exact Rn.ret hT rfl rfl rfl hq
    · rw [if_neg c_3986] at e
      refine Rn.bf hT rfl rfl rfl (decide_eq_false c_3986) ?_
      exact Rn.weak (ll_n (ll_n ll_e)) (rX11_end_b12 hd hq e)
set_option maxRecDepth 10000 in
theorem hX11_palace : iv_Tb 139 tX11_palace := iv_tb_of (m := mX11_palace) rfl
set_option maxRecDepth 10000 in
theorem gX11_palace : PG.2 139 = some mX11_palace := iv_pi_of (t := tX11_palace) rfl (by decide)
def fX11_palace (N : Nat) (h : iv_H) (q0 : Nat) : Option (Int32 × iv_H) := ((gR h 11 7 q0).bind fun v_3989 => ((gR h 11 0 q0).bind fun v_3991 => ((gI h 11 1 q0).bind fun v_3993 => ((gR h 11 5 q0).bind fun v_3995 => ((cko h v_3989 5).bind fun _ => (fX5_read N h v_3989 v_3991 v_3993 v_3995).bind fun p_4030 => (fun (v_3999 : Int32) (h_4000 : iv_H) => ((pV h_4000 11 1 q0 (.int (0 : Int32))).bind fun h_4001 => (if v_3999 = 0 then ((gR h_4001 11 5 q0).bind fun v_4004 => ((gR h_4001 11 4 q0).bind fun v_4006 => ((gI h_4001 2 7 v_4006).bind fun v_4008 => ((pV h_4001 2 7 v_4004 (.int v_4008)).bind fun h_4010 => ((gR h_4010 11 4 q0).bind fun v_4012 => ((gR h_4010 11 5 q0).bind fun v_4014 => ((pV h_4010 11 4 q0 (.ref v_4014)).bind fun h_4016 => ((pV h_4016 11 5 q0 (.ref v_4012)).bind fun h_4018 => ((gI h_4018 11 15 q0).bind fun v_4020 => ((pV h_4018 11 15 q0 (.int (v_4020 + (1 : Int32)))).bind fun h_4022 => ((gR h_4022 11 4 q0).bind fun v_4024 => ((gR h_4022 2 9 v_4024).bind fun v_4026 => ((gI h_4022 1 2 v_4026).bind fun v_4028 => (some (v_4028, h_4022))))))))))))))) else (some (((-2 : Int32) - v_3999), h_4001))))) p_4030.1 p_4030.2)))))
set_option maxRecDepth 10000 in
set_option maxHeartbeats 4000000 in
theorem rX11_palace {d N : Nat} (hd : 15 ≤ d) {h : iv_H} {q0 : Nat} {r : Int32 × iv_H} {Q : Option Value → iv_H → Prop} (e : fX11_palace N h q0 = some r) (hq : Q (some (.int r.1)) r.2) : Cl d 139 [.ref q0] h Q := by
  obtain ⟨d, rfl⟩ : ∃ k, d = k + 1 := ⟨d - 1, by omega⟩
  have hd : 14 ≤ d := by omega
  have hT := hX11_palace
  unfold fX11_palace at e
  refine Cl.into (by decide) gX11_palace rfl ?_
  show Rn d 139 (some .int) 0 [some (.ref q0), none, none] [] h Q
  refine Rn.n hT 1 (pc' := 1) (L' := [some (.ref q0), none, none]) (st' := [.ref q0]) rfl ?_
  obtain ⟨v_3989, e_3990, e⟩ := Option.bind_eq_some_iff.mp e
  refine Rn.hp hT rfl rfl (gR_hp e_3990) ?_
  refine Rn.n hT 1 (pc' := 5) (L' := [some (.ref q0), none, none]) (st' := [.ref q0, .ref v_3989]) rfl ?_
  obtain ⟨v_3991, e_3992, e⟩ := Option.bind_eq_some_iff.mp e
  refine Rn.hp hT rfl rfl (gR_hp e_3992) ?_
  refine Rn.n hT 1 (pc' := 9) (L' := [some (.ref q0), none, none]) (st' := [.ref q0, .ref v_3991, .ref v_3989]) rfl ?_
  obtain ⟨v_3993, e_3994, e⟩ := Option.bind_eq_some_iff.mp e
  refine Rn.hp hT rfl rfl (gI_hp e_3994) ?_
  refine Rn.n hT 1 (pc' := 13) (L' := [some (.ref q0), none, none]) (st' := [.ref q0, .int v_3993, .ref v_3991, .ref v_3989]) rfl ?_
  obtain ⟨v_3995, e_3996, e⟩ := Option.bind_eq_some_iff.mp e
  refine Rn.hp hT rfl rfl (gR_hp e_3996) ?_
  obtain ⟨_, e_3998, e⟩ := Option.bind_eq_some_iff.mp e
  obtain ⟨⟨v_3999, h_4000⟩, e_3997, e⟩ := Option.bind_eq_some_iff.mp e
  try dsimp only at e
  try dsimp only at e
  refine Rn.call hT rfl rfl rfl (Nat.le_of_ble_eq_true rfl) (rcv_v gX5_read (by omega) e_3998) (rX5_read (by omega) e_3997 ?_)
  show Rn d _ _ 19 [some (.ref q0), none, none] [.int v_3999] h_4000 Q
  refine Rn.n hT 3 (pc' := 22) (L' := [some (.ref q0), some (.int v_3999), none]) (st' := [.int (0 : Int32), .ref q0]) rfl ?_
  obtain ⟨h_4001, e_4002, e⟩ := Option.bind_eq_some_iff.mp e
  refine Rn.hp hT rfl rfl (pV_hp rfl e_4002) ?_
  refine Rn.n hT 1 (pc' := 26) (L' := [some (.ref q0), some (.int v_3999), none]) (st' := [.int v_3999]) rfl ?_
  by_cases c_4003 : v_3999 = 0
  · rw [if_pos c_4003] at e
    refine Rn.bt hT rfl rfl rfl (decide_eq_true c_4003) ?_
    refine Rn.n hT 1 (pc' := 35) (L' := [some (.ref q0), some (.int v_3999), none]) (st' := [.ref q0]) rfl ?_
    obtain ⟨v_4004, e_4005, e⟩ := Option.bind_eq_some_iff.mp e
    refine Rn.hp hT rfl rfl (gR_hp e_4005) ?_
    refine Rn.n hT 1 (pc' := 39) (L' := [some (.ref q0), some (.int v_3999), none]) (st' := [.ref q0, .ref v_4004]) rfl ?_
    obtain ⟨v_4006, e_4007, e⟩ := Option.bind_eq_some_iff.mp e
    refine Rn.hp hT rfl rfl (gR_hp e_4007) ?_
    obtain ⟨v_4008, e_4009, e⟩ := Option.bind_eq_some_iff.mp e
    refine Rn.hp hT rfl rfl (gI_hp e_4009) ?_
    obtain ⟨h_4010, e_4011, e⟩ := Option.bind_eq_some_iff.mp e
    refine Rn.hp hT rfl rfl (pV_hp rfl e_4011) ?_
    refine Rn.n hT 1 (pc' := 49) (L' := [some (.ref q0), some (.int v_3999), none]) (st' := [.ref q0]) rfl ?_
    obtain ⟨v_4012, e_4013, e⟩ := Option.bind_eq_some_iff.mp e
    refine Rn.hp hT rfl rfl (gR_hp e_4013) ?_
    refine Rn.n hT 3 (pc' := 55) (L' := [some (.ref q0), some (.int v_3999), some (.ref v_4012)]) (st' := [.ref q0, .ref q0]) rfl ?_
    obtain ⟨v_4014, e_4015, e⟩ := Option.bind_eq_some_iff.mp e
    refine Rn.hp hT rfl rfl (gR_hp e_4015) ?_
    obtain ⟨h_4016, e_4017, e⟩ := Option.bind_eq_some_iff.mp e
    refine Rn.hp hT rfl rfl (pV_hp rfl e_4017) ?_
    refine Rn.n hT 2 (pc' := 63) (L' := [some (.ref q0), some (.int v_3999), some (.ref v_4012)]) (st' := [.ref v_4012, .ref q0]) rfl ?_
    obtain ⟨h_4018, e_4019, e⟩ := Option.bind_eq_some_iff.mp e
    refine Rn.hp hT rfl rfl (pV_hp rfl e_4019) ?_
    refine Rn.n hT 2 (pc' := 68) (L' := [some (.ref q0), some (.int v_3999), some (.ref v_4012)]) (st' := [.ref q0, .ref q0]) rfl ?_
    obtain ⟨v_4020, e_4021, e⟩ := Option.bind_eq_some_iff.mp e
    refine Rn.hp hT rfl rfl (gI_hp e_4021) ?_
    refine Rn.n hT 2 (pc' := 73) (L' := [some (.ref q0), some (.int v_3999), some (.ref v_4012)]) (st' := [.int (v_4020 + (1 : Int32)), .ref q0]) rfl ?_
    obtain ⟨h_4022, e_4023, e⟩ := Option.bind_eq_some_iff.mp e
    refine Rn.hp hT rfl rfl (pV_hp rfl e_4023) ?_
    refine Rn.n hT 1 (pc' := 77) (L' := [some (.ref q0), some (.int v_3999), some (.ref v_4012)]) (st' := [.ref q0]) rfl ?_
    obtain ⟨v_4024, e_4025, e⟩ := Option.bind_eq_some_iff.mp e
    refine Rn.hp hT rfl rfl (gR_hp e_4025) ?_
    obtain ⟨v_4026, e_4027, e⟩ := Option.bind_eq_some_iff.mp e
    refine Rn.hp hT rfl rfl (gR_hp e_4027) ?_
    obtain ⟨v_4028, e_4029, e⟩ := Option.bind_eq_some_iff.mp e
    refine Rn.hp hT rfl rfl (gI_hp e_4029) ?_
    obtain rfl := Option.some.inj e
    exact Rn.ret hT rfl rfl rfl hq
  · rw [if_neg c_4003] at e
    refine Rn.bf hT rfl rfl rfl (decide_eq_false c_4003) ?_
    refine Rn.n hT 3 (pc' := 33) (L' := [some (.ref q0), some (.int v_3999), none]) (st' := [.int ((-2 : Int32) - v_3999)]) rfl ?_
    obtain rfl := Option.some.inj e
    exact Rn.ret hT rfl rfl rfl hq
set_option maxRecDepth 10000 in
theorem hX11_rule : iv_Tb 140 tX11_rule := iv_tb_of (m := mX11_rule) rfl
set_option maxRecDepth 10000 in
theorem gX11_rule : PG.2 140 = some mX11_rule := iv_pi_of (t := tX11_rule) rfl (by decide)
def fX11_rule (N : Nat) (h : iv_H) (q0 : Nat) : Option (Int32 × iv_H) := ((gI h 11 3 q0).bind fun v_4031 => (if v_4031 < (6 : Int32) then ((gR h 11 8 q0).bind fun v_4034 => ((gR h 11 0 q0).bind fun v_4036 => ((gI h 11 1 q0).bind fun v_4038 => ((cko h v_4034 8).bind fun _ => (fX8_read N h v_4034 v_4036 v_4038).bind fun p_4065 => (fun (v_4042 : Int32) (h_4043 : iv_H) => ((pV h_4043 11 1 q0 (.int (0 : Int32))).bind fun h_4044 => (if v_4042 = 0 then ((gR h_4044 11 8 q0).bind fun v_4047 => ((gR h_4044 11 2 q0).bind fun v_4049 => ((gI h_4044 11 3 q0).bind fun v_4051 => ((aR h_4044 v_4049 v_4051).bind fun v_4053 => ((cko h_4044 v_4047 8).bind fun _ => (fX8_copyTo N h_4044 v_4047 v_4053).bind fun h_4058 => ((gI h_4058 11 3 q0).bind fun v_4059 => ((pV h_4058 11 3 q0 (.int (v_4059 + (1 : Int32)))).bind fun h_4061 => ((gI h_4061 11 3 q0).bind fun v_4063 => (some ((v_4063 - (1 : Int32)), h_4061)))))))))) else (some (((-2 : Int32) - v_4042), h_4044))))) p_4065.1 p_4065.2)))) else (some ((-1 : Int32), h))))
set_option maxRecDepth 10000 in
set_option maxHeartbeats 4000000 in
theorem rX11_rule {d N : Nat} (hd : 17 ≤ d) {h : iv_H} {q0 : Nat} {r : Int32 × iv_H} {Q : Option Value → iv_H → Prop} (e : fX11_rule N h q0 = some r) (hq : Q (some (.int r.1)) r.2) : Cl d 140 [.ref q0] h Q := by
  obtain ⟨d, rfl⟩ : ∃ k, d = k + 1 := ⟨d - 1, by omega⟩
  have hd : 16 ≤ d := by omega
  have hT := hX11_rule
  unfold fX11_rule at e
  refine Cl.into (by decide) gX11_rule rfl ?_
  show Rn d 140 (some .int) 0 [some (.ref q0), none] [] h Q
  refine Rn.n hT 1 (pc' := 1) (L' := [some (.ref q0), none]) (st' := [.ref q0]) rfl ?_
  obtain ⟨v_4031, e_4032, e⟩ := Option.bind_eq_some_iff.mp e
  refine Rn.hp hT rfl rfl (gI_hp e_4032) ?_
  refine Rn.n hT 1 (pc' := 6) (L' := [some (.ref q0), none]) (st' := [.int (6 : Int32), .int v_4031]) rfl ?_
  by_cases c_4033 : v_4031 < (6 : Int32)
  · rw [if_pos c_4033] at e
    refine Rn.bt hT rfl rfl rfl (decide_eq_true c_4033) ?_
    refine Rn.n hT 1 (pc' := 12) (L' := [some (.ref q0), none]) (st' := [.ref q0]) rfl ?_
    obtain ⟨v_4034, e_4035, e⟩ := Option.bind_eq_some_iff.mp e
    refine Rn.hp hT rfl rfl (gR_hp e_4035) ?_
    refine Rn.n hT 1 (pc' := 16) (L' := [some (.ref q0), none]) (st' := [.ref q0, .ref v_4034]) rfl ?_
    obtain ⟨v_4036, e_4037, e⟩ := Option.bind_eq_some_iff.mp e
    refine Rn.hp hT rfl rfl (gR_hp e_4037) ?_
    refine Rn.n hT 1 (pc' := 20) (L' := [some (.ref q0), none]) (st' := [.ref q0, .ref v_4036, .ref v_4034]) rfl ?_
    obtain ⟨v_4038, e_4039, e⟩ := Option.bind_eq_some_iff.mp e
    refine Rn.hp hT rfl rfl (gI_hp e_4039) ?_
    obtain ⟨_, e_4041, e⟩ := Option.bind_eq_some_iff.mp e
    obtain ⟨⟨v_4042, h_4043⟩, e_4040, e⟩ := Option.bind_eq_some_iff.mp e
    try dsimp only at e
    try dsimp only at e
    refine Rn.call hT rfl rfl rfl (Nat.le_of_ble_eq_true rfl) (rcv_v gX8_read (by omega) e_4041) (rX8_read (by omega) e_4040 ?_)
    show Rn d _ _ 26 [some (.ref q0), none] [.int v_4042] h_4043 Q
    refine Rn.n hT 3 (pc' := 29) (L' := [some (.ref q0), some (.int v_4042)]) (st' := [.int (0 : Int32), .ref q0]) rfl ?_
    obtain ⟨h_4044, e_4045, e⟩ := Option.bind_eq_some_iff.mp e
    refine Rn.hp hT rfl rfl (pV_hp rfl e_4045) ?_
    refine Rn.n hT 1 (pc' := 33) (L' := [some (.ref q0), some (.int v_4042)]) (st' := [.int v_4042]) rfl ?_
    by_cases c_4046 : v_4042 = 0
    · rw [if_pos c_4046] at e
      refine Rn.bt hT rfl rfl rfl (decide_eq_true c_4046) ?_
      refine Rn.n hT 1 (pc' := 42) (L' := [some (.ref q0), some (.int v_4042)]) (st' := [.ref q0]) rfl ?_
      obtain ⟨v_4047, e_4048, e⟩ := Option.bind_eq_some_iff.mp e
      refine Rn.hp hT rfl rfl (gR_hp e_4048) ?_
      refine Rn.n hT 1 (pc' := 46) (L' := [some (.ref q0), some (.int v_4042)]) (st' := [.ref q0, .ref v_4047]) rfl ?_
      obtain ⟨v_4049, e_4050, e⟩ := Option.bind_eq_some_iff.mp e
      refine Rn.hp hT rfl rfl (gR_hp e_4050) ?_
      refine Rn.n hT 1 (pc' := 50) (L' := [some (.ref q0), some (.int v_4042)]) (st' := [.ref q0, .ref v_4049, .ref v_4047]) rfl ?_
      obtain ⟨v_4051, e_4052, e⟩ := Option.bind_eq_some_iff.mp e
      refine Rn.hp hT rfl rfl (gI_hp e_4052) ?_
      obtain ⟨v_4053, e_4054, e⟩ := Option.bind_eq_some_iff.mp e
      refine Rn.hp hT rfl rfl (aR_hp e_4054) ?_
      obtain ⟨_, e_4056, e⟩ := Option.bind_eq_some_iff.mp e
      obtain ⟨h_4058, e_4055, e⟩ := Option.bind_eq_some_iff.mp e
      refine Rn.call hT rfl rfl rfl (Nat.le_of_ble_eq_true rfl) (rcv_v gX8_copyTo (by omega) e_4056) (rX8_copyTo (by omega) e_4055 ?_)
      show Rn d _ _ 57 [some (.ref q0), some (.int v_4042)] [] h_4058 Q
      refine Rn.n hT 2 (pc' := 59) (L' := [some (.ref q0), some (.int v_4042)]) (st' := [.ref q0, .ref q0]) rfl ?_
      obtain ⟨v_4059, e_4060, e⟩ := Option.bind_eq_some_iff.mp e
      refine Rn.hp hT rfl rfl (gI_hp e_4060) ?_
      refine Rn.n hT 2 (pc' := 64) (L' := [some (.ref q0), some (.int v_4042)]) (st' := [.int (v_4059 + (1 : Int32)), .ref q0]) rfl ?_
      obtain ⟨h_4061, e_4062, e⟩ := Option.bind_eq_some_iff.mp e
      refine Rn.hp hT rfl rfl (pV_hp rfl e_4062) ?_
      refine Rn.n hT 1 (pc' := 68) (L' := [some (.ref q0), some (.int v_4042)]) (st' := [.ref q0]) rfl ?_
      obtain ⟨v_4063, e_4064, e⟩ := Option.bind_eq_some_iff.mp e
      refine Rn.hp hT rfl rfl (gI_hp e_4064) ?_
      refine Rn.n hT 2 (pc' := 73) (L' := [some (.ref q0), some (.int v_4042)]) (st' := [.int (v_4063 - (1 : Int32))]) rfl ?_
      obtain rfl := Option.some.inj e
      exact Rn.ret hT rfl rfl rfl hq
    · rw [if_neg c_4046] at e
      refine Rn.bf hT rfl rfl rfl (decide_eq_false c_4046) ?_
      refine Rn.n hT 3 (pc' := 40) (L' := [some (.ref q0), some (.int v_4042)]) (st' := [.int ((-2 : Int32) - v_4042)]) rfl ?_
      obtain rfl := Option.some.inj e
      exact Rn.ret hT rfl rfl rfl hq
  · rw [if_neg c_4033] at e
    refine Rn.bf hT rfl rfl rfl (decide_eq_false c_4033) ?_
    refine Rn.n hT 1 (pc' := 10) (L' := [some (.ref q0), none]) (st' := [.int (-1 : Int32)]) rfl ?_
    obtain rfl := Option.some.inj e
    exact Rn.ret hT rfl rfl rfl hq
set_option maxRecDepth 10000 in
theorem hX11_force : iv_Tb 141 tX11_force := iv_tb_of (m := mX11_force) rfl
set_option maxRecDepth 10000 in
theorem gX11_force : PG.2 141 = some mX11_force := iv_pi_of (t := tX11_force) rfl (by decide)
def fX11_force_b23 (N : Nat) (h : iv_H)   : Option (Int32 × iv_H) := (some ((-2 : Int32), h))
set_option maxRecDepth 10000 in
set_option maxHeartbeats 4000000 in
theorem rX11_force_b23 {d N : Nat} (hd : 0 ≤ d) {h : iv_H}   {r : Int32 × iv_H} {Q : Option Value → iv_H → Prop} (hq : Q (some (.int r.1)) r.2) (e : fX11_force_b23 N h   = some r) : Rn d 141 (some .int) 23 [none, none, none] [] h Q := by
  have hT := hX11_force
  unfold fX11_force_b23 at e
  refine Rn.n hT 1 (pc' := 25) (L' := [none, none, none]) (st' := [.int (-2 : Int32)]) rfl ?_
  obtain rfl := Option.some.inj e
  exact Rn.ret hT rfl rfl rfl hq
def fX11_force (N : Nat) (h : iv_H) (q0 : Nat) (x1 : Int32) : Option (Int32 × iv_H) := ((gR h 11 4 q0).bind fun v_4066 => ((gI h 2 0 v_4066).bind fun v_4068 => (if v_4068 = 0 then (fX11_force_b23 N h) else (if x1 < (-1 : Int32) then (fX11_force_b23 N h) else ((gI h 11 3 q0).bind fun v_4072 => (if x1 < v_4072 then ((gR h 11 4 q0).bind fun v_4075 => ((gI h 2 5 v_4075).bind fun v_4077 => ((gR h 11 4 q0).bind fun v_4079 => ((pV h 2 5 v_4079 (.int x1)).bind fun h_4081 => ((gI h_4081 11 15 q0).bind fun v_4083 => ((pV h_4081 11 15 q0 (.int (v_4083 + (1 : Int32)))).bind fun h_4085 => (some (v_4077, h_4085)))))))) else (fX11_force_b23 N h)))))))
set_option maxRecDepth 10000 in
set_option maxHeartbeats 4000000 in
theorem rX11_force {d N : Nat} (hd : 1 ≤ d) {h : iv_H} {q0 : Nat} {x1 : Int32} {r : Int32 × iv_H} {Q : Option Value → iv_H → Prop} (e : fX11_force N h q0 x1 = some r) (hq : Q (some (.int r.1)) r.2) : Cl d 141 [.ref q0, .int x1] h Q := by
  obtain ⟨d, rfl⟩ : ∃ k, d = k + 1 := ⟨d - 1, by omega⟩
  have hd : 0 ≤ d := by omega
  have hT := hX11_force
  unfold fX11_force at e
  refine Cl.into (by decide) gX11_force rfl ?_
  show Rn d 141 (some .int) 0 [some (.ref q0), some (.int x1), none] [] h Q
  refine Rn.n hT 1 (pc' := 1) (L' := [some (.ref q0), some (.int x1), none]) (st' := [.ref q0]) rfl ?_
  obtain ⟨v_4066, e_4067, e⟩ := Option.bind_eq_some_iff.mp e
  refine Rn.hp hT rfl rfl (gR_hp e_4067) ?_
  obtain ⟨v_4068, e_4069, e⟩ := Option.bind_eq_some_iff.mp e
  refine Rn.hp hT rfl rfl (gI_hp e_4069) ?_
  by_cases c_4070 : v_4068 = 0
  · rw [if_pos c_4070] at e
    refine Rn.bt hT rfl rfl rfl (decide_eq_true c_4070) ?_
    exact Rn.weak (ll_n (ll_n (ll_n ll_e))) (rX11_force_b23 hd hq e)
  · rw [if_neg c_4070] at e
    refine Rn.bf hT rfl rfl rfl (decide_eq_false c_4070) ?_
    refine Rn.n hT 2 (pc' := 12) (L' := [some (.ref q0), some (.int x1), none]) (st' := [.int (-1 : Int32), .int x1]) rfl ?_
    by_cases c_4071 : x1 < (-1 : Int32)
    · rw [if_pos c_4071] at e
      refine Rn.bt hT rfl rfl rfl (decide_eq_true c_4071) ?_
      exact Rn.weak (ll_n (ll_n (ll_n ll_e))) (rX11_force_b23 hd hq e)
    · rw [if_neg c_4071] at e
      refine Rn.bf hT rfl rfl rfl (decide_eq_false c_4071) ?_
      refine Rn.n hT 2 (pc' := 17) (L' := [some (.ref q0), some (.int x1), none]) (st' := [.ref q0, .int x1]) rfl ?_
      obtain ⟨v_4072, e_4073, e⟩ := Option.bind_eq_some_iff.mp e
      refine Rn.hp hT rfl rfl (gI_hp e_4073) ?_
      by_cases c_4074 : x1 < v_4072
      · rw [if_pos c_4074] at e
        refine Rn.bt hT rfl rfl rfl (decide_eq_true c_4074) ?_
        refine Rn.n hT 1 (pc' := 27) (L' := [some (.ref q0), some (.int x1), none]) (st' := [.ref q0]) rfl ?_
        obtain ⟨v_4075, e_4076, e⟩ := Option.bind_eq_some_iff.mp e
        refine Rn.hp hT rfl rfl (gR_hp e_4076) ?_
        obtain ⟨v_4077, e_4078, e⟩ := Option.bind_eq_some_iff.mp e
        refine Rn.hp hT rfl rfl (gI_hp e_4078) ?_
        refine Rn.n hT 2 (pc' := 35) (L' := [some (.ref q0), some (.int x1), some (.int v_4077)]) (st' := [.ref q0]) rfl ?_
        obtain ⟨v_4079, e_4080, e⟩ := Option.bind_eq_some_iff.mp e
        refine Rn.hp hT rfl rfl (gR_hp e_4080) ?_
        refine Rn.n hT 1 (pc' := 39) (L' := [some (.ref q0), some (.int x1), some (.int v_4077)]) (st' := [.int x1, .ref v_4079]) rfl ?_
        obtain ⟨h_4081, e_4082, e⟩ := Option.bind_eq_some_iff.mp e
        refine Rn.hp hT rfl rfl (pV_hp rfl e_4082) ?_
        refine Rn.n hT 2 (pc' := 44) (L' := [some (.ref q0), some (.int x1), some (.int v_4077)]) (st' := [.ref q0, .ref q0]) rfl ?_
        obtain ⟨v_4083, e_4084, e⟩ := Option.bind_eq_some_iff.mp e
        refine Rn.hp hT rfl rfl (gI_hp e_4084) ?_
        refine Rn.n hT 2 (pc' := 49) (L' := [some (.ref q0), some (.int x1), some (.int v_4077)]) (st' := [.int (v_4083 + (1 : Int32)), .ref q0]) rfl ?_
        obtain ⟨h_4085, e_4086, e⟩ := Option.bind_eq_some_iff.mp e
        refine Rn.hp hT rfl rfl (pV_hp rfl e_4086) ?_
        refine Rn.n hT 1 (pc' := 53) (L' := [some (.ref q0), some (.int x1), some (.int v_4077)]) (st' := [.int v_4077]) rfl ?_
        obtain rfl := Option.some.inj e
        exact Rn.ret hT rfl rfl rfl hq
      · rw [if_neg c_4074] at e
        refine Rn.bf hT rfl rfl rfl (decide_eq_false c_4074) ?_
        exact Rn.weak (ll_n (ll_n (ll_n ll_e))) (rX11_force_b23 hd hq e)
set_option maxRecDepth 10000 in
theorem hX11_ruleInForce : iv_Tb 142 tX11_ruleInForce := iv_tb_of (m := mX11_ruleInForce) rfl
set_option maxRecDepth 10000 in
theorem gX11_ruleInForce : PG.2 142 = some mX11_ruleInForce := iv_pi_of (t := tX11_ruleInForce) rfl (by decide)
def fX11_ruleInForce_b39 (N : Nat) (h : iv_H)   : Option (Option Nat) := (some none)
set_option maxRecDepth 10000 in
set_option maxHeartbeats 4000000 in
theorem rX11_ruleInForce_b39 {d N : Nat} (hd : 0 ≤ d) {h : iv_H}   {r : Option Nat} {Q : Option Value → iv_H → Prop} (hq : Q (some (iv_rf r)) h) (e : fX11_ruleInForce_b39 N h   = some r) : Rn d 142 (some (.array .int)) 39 [none] [] h Q := by
  have hT := hX11_ruleInForce
  unfold fX11_ruleInForce_b39 at e
  refine Rn.n hT 1 (pc' := 40) (L' := [none]) (st' := [.null]) rfl ?_
  obtain rfl := Option.some.inj e
  exact Rn.ret hT rfl rfl rfl hq
def fX11_ruleInForce (N : Nat) (h : iv_H) (q0 : Nat) : Option (Option Nat) := ((gR h 11 4 q0).bind fun v_4087 => ((gI h 2 5 v_4087).bind fun v_4089 => (if v_4089 < 0 then (fX11_ruleInForce_b39 N h) else ((gR h 11 4 q0).bind fun v_4092 => ((gI h 2 5 v_4092).bind fun v_4094 => ((gI h 11 3 q0).bind fun v_4096 => (if v_4096 ≤ v_4094 then (fX11_ruleInForce_b39 N h) else ((gR h 11 2 q0).bind fun v_4099 => ((gR h 11 4 q0).bind fun v_4101 => ((gI h 2 5 v_4101).bind fun v_4103 => ((aR h v_4099 v_4103).bind fun v_4105 => (some (some v_4105)))))))))))))
set_option maxRecDepth 10000 in
set_option maxHeartbeats 4000000 in
theorem rX11_ruleInForce {d N : Nat} (hd : 1 ≤ d) {h : iv_H} {q0 : Nat} {r : Option Nat} {Q : Option Value → iv_H → Prop} (e : fX11_ruleInForce N h q0 = some r) (hq : Q (some (iv_rf r)) h) : Cl d 142 [.ref q0] h Q := by
  obtain ⟨d, rfl⟩ : ∃ k, d = k + 1 := ⟨d - 1, by omega⟩
  have hd : 0 ≤ d := by omega
  have hT := hX11_ruleInForce
  unfold fX11_ruleInForce at e
  refine Cl.into (by decide) gX11_ruleInForce rfl ?_
  show Rn d 142 (some (.array .int)) 0 [some (.ref q0)] [] h Q
  refine Rn.n hT 1 (pc' := 1) (L' := [some (.ref q0)]) (st' := [.ref q0]) rfl ?_
  obtain ⟨v_4087, e_4088, e⟩ := Option.bind_eq_some_iff.mp e
  refine Rn.hp hT rfl rfl (gR_hp e_4088) ?_
  obtain ⟨v_4089, e_4090, e⟩ := Option.bind_eq_some_iff.mp e
  refine Rn.hp hT rfl rfl (gI_hp e_4090) ?_
  by_cases c_4091 : v_4089 < 0
  · rw [if_pos c_4091] at e
    refine Rn.bt hT rfl rfl rfl (decide_eq_true c_4091) ?_
    exact Rn.weak (ll_n ll_e) (rX11_ruleInForce_b39 hd hq e)
  · rw [if_neg c_4091] at e
    refine Rn.bf hT rfl rfl rfl (decide_eq_false c_4091) ?_
    refine Rn.n hT 1 (pc' := 11) (L' := [some (.ref q0)]) (st' := [.ref q0]) rfl ?_
    obtain ⟨v_4092, e_4093, e⟩ := Option.bind_eq_some_iff.mp e
    refine Rn.hp hT rfl rfl (gR_hp e_4093) ?_
    obtain ⟨v_4094, e_4095, e⟩ := Option.bind_eq_some_iff.mp e
    refine Rn.hp hT rfl rfl (gI_hp e_4095) ?_
    refine Rn.n hT 1 (pc' := 18) (L' := [some (.ref q0)]) (st' := [.ref q0, .int v_4094]) rfl ?_
    obtain ⟨v_4096, e_4097, e⟩ := Option.bind_eq_some_iff.mp e
    refine Rn.hp hT rfl rfl (gI_hp e_4097) ?_
    by_cases c_4098 : v_4096 ≤ v_4094
    · rw [if_pos c_4098] at e
      refine Rn.bt hT rfl rfl rfl (decide_eq_true c_4098) ?_
      exact Rn.weak (ll_n ll_e) (rX11_ruleInForce_b39 hd hq e)
    · rw [if_neg c_4098] at e
      refine Rn.bf hT rfl rfl rfl (decide_eq_false c_4098) ?_
      refine Rn.n hT 1 (pc' := 25) (L' := [some (.ref q0)]) (st' := [.ref q0]) rfl ?_
      obtain ⟨v_4099, e_4100, e⟩ := Option.bind_eq_some_iff.mp e
      refine Rn.hp hT rfl rfl (gR_hp e_4100) ?_
      refine Rn.n hT 1 (pc' := 29) (L' := [some (.ref q0)]) (st' := [.ref q0, .ref v_4099]) rfl ?_
      obtain ⟨v_4101, e_4102, e⟩ := Option.bind_eq_some_iff.mp e
      refine Rn.hp hT rfl rfl (gR_hp e_4102) ?_
      obtain ⟨v_4103, e_4104, e⟩ := Option.bind_eq_some_iff.mp e
      refine Rn.hp hT rfl rfl (gI_hp e_4104) ?_
      obtain ⟨v_4105, e_4106, e⟩ := Option.bind_eq_some_iff.mp e
      refine Rn.hp hT rfl rfl (aR_hp e_4106) ?_
      refine Rn.n hT 1 (pc' := 40) (L' := [some (.ref q0)]) (st' := [.ref v_4105]) rfl ?_
      obtain rfl := Option.some.inj e
      exact Rn.ret hT rfl rfl rfl hq
set_option maxRecDepth 10000 in
theorem hX11_law : iv_Tb 143 tX11_law := iv_tb_of (m := mX11_law) rfl
set_option maxRecDepth 10000 in
theorem gX11_law : PG.2 143 = some mX11_law := iv_pi_of (t := tX11_law) rfl (by decide)
def fX11_law_b19 (N : Nat) (h : iv_H)   : Option (Int32 × iv_H) := (some ((-2 : Int32), h))
set_option maxRecDepth 10000 in
set_option maxHeartbeats 4000000 in
theorem rX11_law_b19 {d N : Nat} (hd : 0 ≤ d) {h : iv_H}   {r : Int32 × iv_H} {Q : Option Value → iv_H → Prop} (hq : Q (some (.int r.1)) r.2) (e : fX11_law_b19 N h   = some r) : Rn d 143 (some .int) 19 [none, none, none] [] h Q := by
  have hT := hX11_law
  unfold fX11_law_b19 at e
  refine Rn.n hT 1 (pc' := 21) (L' := [none, none, none]) (st' := [.int (-2 : Int32)]) rfl ?_
  obtain rfl := Option.some.inj e
  exact Rn.ret hT rfl rfl rfl hq
def fX11_law (N : Nat) (h : iv_H) (q0 : Nat) (x1 : Int32) : Option (Int32 × iv_H) := ((gR h 11 4 q0).bind fun v_4107 => ((gI h 2 0 v_4107).bind fun v_4109 => (if v_4109 = 0 then (fX11_law_b19 N h) else (if x1 < 0 then (fX11_law_b19 N h) else (if x1 ≤ (2 : Int32) then ((gR h 11 4 q0).bind fun v_4114 => ((gI h 2 4 v_4114).bind fun v_4116 => ((gR h 11 4 q0).bind fun v_4118 => ((pV h 2 4 v_4118 (.int x1)).bind fun h_4120 => ((gI h_4120 11 15 q0).bind fun v_4122 => ((pV h_4120 11 15 q0 (.int (v_4122 + (1 : Int32)))).bind fun h_4124 => (some (v_4116, h_4124)))))))) else (fX11_law_b19 N h))))))
set_option maxRecDepth 10000 in
set_option maxHeartbeats 4000000 in
theorem rX11_law {d N : Nat} (hd : 1 ≤ d) {h : iv_H} {q0 : Nat} {x1 : Int32} {r : Int32 × iv_H} {Q : Option Value → iv_H → Prop} (e : fX11_law N h q0 x1 = some r) (hq : Q (some (.int r.1)) r.2) : Cl d 143 [.ref q0, .int x1] h Q := by
  obtain ⟨d, rfl⟩ : ∃ k, d = k + 1 := ⟨d - 1, by omega⟩
  have hd : 0 ≤ d := by omega
  have hT := hX11_law
  unfold fX11_law at e
  refine Cl.into (by decide) gX11_law rfl ?_
  show Rn d 143 (some .int) 0 [some (.ref q0), some (.int x1), none] [] h Q
  refine Rn.n hT 1 (pc' := 1) (L' := [some (.ref q0), some (.int x1), none]) (st' := [.ref q0]) rfl ?_
  obtain ⟨v_4107, e_4108, e⟩ := Option.bind_eq_some_iff.mp e
  refine Rn.hp hT rfl rfl (gR_hp e_4108) ?_
  obtain ⟨v_4109, e_4110, e⟩ := Option.bind_eq_some_iff.mp e
  refine Rn.hp hT rfl rfl (gI_hp e_4110) ?_
  by_cases c_4111 : v_4109 = 0
  · rw [if_pos c_4111] at e
    refine Rn.bt hT rfl rfl rfl (decide_eq_true c_4111) ?_
    exact Rn.weak (ll_n (ll_n (ll_n ll_e))) (rX11_law_b19 hd hq e)
  · rw [if_neg c_4111] at e
    refine Rn.bf hT rfl rfl rfl (decide_eq_false c_4111) ?_
    refine Rn.n hT 1 (pc' := 11) (L' := [some (.ref q0), some (.int x1), none]) (st' := [.int x1]) rfl ?_
    by_cases c_4112 : x1 < 0
    · rw [if_pos c_4112] at e
      refine Rn.bt hT rfl rfl rfl (decide_eq_true c_4112) ?_
      exact Rn.weak (ll_n (ll_n (ll_n ll_e))) (rX11_law_b19 hd hq e)
    · rw [if_neg c_4112] at e
      refine Rn.bf hT rfl rfl rfl (decide_eq_false c_4112) ?_
      refine Rn.n hT 2 (pc' := 16) (L' := [some (.ref q0), some (.int x1), none]) (st' := [.int (2 : Int32), .int x1]) rfl ?_
      by_cases c_4113 : x1 ≤ (2 : Int32)
      · rw [if_pos c_4113] at e
        refine Rn.bt hT rfl rfl rfl (decide_eq_true c_4113) ?_
        refine Rn.n hT 1 (pc' := 23) (L' := [some (.ref q0), some (.int x1), none]) (st' := [.ref q0]) rfl ?_
        obtain ⟨v_4114, e_4115, e⟩ := Option.bind_eq_some_iff.mp e
        refine Rn.hp hT rfl rfl (gR_hp e_4115) ?_
        obtain ⟨v_4116, e_4117, e⟩ := Option.bind_eq_some_iff.mp e
        refine Rn.hp hT rfl rfl (gI_hp e_4117) ?_
        refine Rn.n hT 2 (pc' := 31) (L' := [some (.ref q0), some (.int x1), some (.int v_4116)]) (st' := [.ref q0]) rfl ?_
        obtain ⟨v_4118, e_4119, e⟩ := Option.bind_eq_some_iff.mp e
        refine Rn.hp hT rfl rfl (gR_hp e_4119) ?_
        refine Rn.n hT 1 (pc' := 35) (L' := [some (.ref q0), some (.int x1), some (.int v_4116)]) (st' := [.int x1, .ref v_4118]) rfl ?_
        obtain ⟨h_4120, e_4121, e⟩ := Option.bind_eq_some_iff.mp e
        refine Rn.hp hT rfl rfl (pV_hp rfl e_4121) ?_
        refine Rn.n hT 2 (pc' := 40) (L' := [some (.ref q0), some (.int x1), some (.int v_4116)]) (st' := [.ref q0, .ref q0]) rfl ?_
        obtain ⟨v_4122, e_4123, e⟩ := Option.bind_eq_some_iff.mp e
        refine Rn.hp hT rfl rfl (gI_hp e_4123) ?_
        refine Rn.n hT 2 (pc' := 45) (L' := [some (.ref q0), some (.int x1), some (.int v_4116)]) (st' := [.int (v_4122 + (1 : Int32)), .ref q0]) rfl ?_
        obtain ⟨h_4124, e_4125, e⟩ := Option.bind_eq_some_iff.mp e
        refine Rn.hp hT rfl rfl (pV_hp rfl e_4125) ?_
        refine Rn.n hT 1 (pc' := 49) (L' := [some (.ref q0), some (.int x1), some (.int v_4116)]) (st' := [.int v_4116]) rfl ?_
        obtain rfl := Option.some.inj e
        exact Rn.ret hT rfl rfl rfl hq
      · rw [if_neg c_4113] at e
        refine Rn.bf hT rfl rfl rfl (decide_eq_false c_4113) ?_
        exact Rn.weak (ll_n (ll_n (ll_n ll_e))) (rX11_law_b19 hd hq e)
set_option maxRecDepth 10000 in
theorem hX11_room : iv_Tb 144 tX11_room := iv_tb_of (m := mX11_room) rfl
set_option maxRecDepth 10000 in
theorem gX11_room : PG.2 144 = some mX11_room := iv_pi_of (t := tX11_room) rfl (by decide)
def fX11_room_b121 (N : Nat) (h : iv_H)  (s0 : Int32) : Option (Int32) := (some s0)
set_option maxRecDepth 10000 in
set_option maxHeartbeats 4000000 in
theorem rX11_room_b121 {d N : Nat} (hd : 1 ≤ d) {h : iv_H}  {s0 : Int32} {r : Int32} {Q : Option Value → iv_H → Prop} (hq : Q (some (.int r)) h) (e : fX11_room_b121 N h  s0 = some r) : Rn d 144 (some .int) 121 [none, none, none] [.int s0] h Q := by
  have hT := hX11_room
  unfold fX11_room_b121 at e
  obtain rfl := Option.some.inj e
  exact Rn.ret hT rfl rfl rfl hq
def fX11_room (N : Nat) (h : iv_H) (q0 : Nat) (x1 : Int32) (x2 : Int32) : Option (Int32) := ((gR h 11 4 q0).bind fun v_4126 => ((cko h v_4126 2).bind fun _ => (fX2_isRoom N h v_4126 x1).bind fun v_4130 => (if v_4130 = 0 then (some (-1 : Int32)) else (if x2 = (0 : Int32) then ((gR h 11 4 q0).bind fun v_4133 => ((gR h 2 9 v_4133).bind fun v_4135 => ((gR h 1 5 v_4135).bind fun v_4137 => ((aI h v_4137 x1).bind fun v_4139 => (some v_4139))))) else (if x2 = (1 : Int32) then ((gR h 11 4 q0).bind fun v_4142 => ((gR h 2 9 v_4142).bind fun v_4144 => ((gR h 1 6 v_4144).bind fun v_4146 => ((aI h v_4146 x1).bind fun v_4148 => (some v_4148))))) else (if x2 = (2 : Int32) then ((gR h 11 4 q0).bind fun v_4151 => ((gR h 2 9 v_4151).bind fun v_4153 => ((cko h v_4153 1).bind fun _ => (fX1_sortOf N h v_4153 x1 (x2 - (2 : Int32))).bind fun v_4157 => (some v_4157)))) else (if x2 = (3 : Int32) then ((gR h 11 4 q0).bind fun v_4159 => ((gR h 2 9 v_4159).bind fun v_4161 => ((cko h v_4161 1).bind fun _ => (fX1_sortOf N h v_4161 x1 (x2 - (2 : Int32))).bind fun v_4165 => (some v_4165)))) else (if x2 = (4 : Int32) then ((gR h 11 4 q0).bind fun v_4167 => ((gR h 2 9 v_4167).bind fun v_4169 => ((cko h v_4169 1).bind fun _ => (fX1_sortOf N h v_4169 x1 (x2 - (2 : Int32))).bind fun v_4173 => (some v_4173)))) else (if x2 = (5 : Int32) then ((gR h 11 4 q0).bind fun v_4175 => ((gR h 2 9 v_4175).bind fun v_4177 => ((cko h v_4177 1).bind fun _ => (fX1_sortOf N h v_4177 x1 (x2 - (2 : Int32))).bind fun v_4181 => (some v_4181)))) else (if x2 = (6 : Int32) then ((gR h 11 4 q0).bind fun v_4183 => ((cko h v_4183 2).bind fun _ => (fX2_isFixed N h v_4183 x1).bind fun v_4187 => (if v_4187 = 0 then (fX11_room_b121 N h (0 : Int32)) else (fX11_room_b121 N h (1 : Int32))))) else (if x2 = (7 : Int32) then ((gR h 11 4 q0).bind fun v_4190 => ((cko h v_4190 2).bind fun _ => (fX2_keysIn N h v_4190 x1).bind fun v_4194 => (some v_4194))) else (if x2 = (8 : Int32) then ((gR h 11 4 q0).bind fun v_4196 => ((cko h v_4196 2).bind fun _ => (fX2_sleepersIn N h v_4196 x1).bind fun v_4200 => (some v_4200))) else (some (-1 : Int32))))))))))))))
set_option maxRecDepth 10000 in
set_option maxHeartbeats 4000000 in
theorem rX11_room {d N : Nat} (hd : 2 ≤ d) {h : iv_H} {q0 : Nat} {x1 : Int32} {x2 : Int32} {r : Int32} {Q : Option Value → iv_H → Prop} (e : fX11_room N h q0 x1 x2 = some r) (hq : Q (some (.int r)) h) : Cl d 144 [.ref q0, .int x1, .int x2] h Q := by
  obtain ⟨d, rfl⟩ : ∃ k, d = k + 1 := ⟨d - 1, by omega⟩
  have hd : 1 ≤ d := by omega
  have hT := hX11_room
  unfold fX11_room at e
  refine Cl.into (by decide) gX11_room rfl ?_
  show Rn d 144 (some .int) 0 [some (.ref q0), some (.int x1), some (.int x2)] [] h Q
  refine Rn.n hT 1 (pc' := 1) (L' := [some (.ref q0), some (.int x1), some (.int x2)]) (st' := [.ref q0]) rfl ?_
  obtain ⟨v_4126, e_4127, e⟩ := Option.bind_eq_some_iff.mp e
  refine Rn.hp hT rfl rfl (gR_hp e_4127) ?_
  refine Rn.n hT 1 (pc' := 5) (L' := [some (.ref q0), some (.int x1), some (.int x2)]) (st' := [.int x1, .ref v_4126]) rfl ?_
  obtain ⟨_, e_4129, e⟩ := Option.bind_eq_some_iff.mp e
  obtain ⟨v_4130, e_4128, e⟩ := Option.bind_eq_some_iff.mp e
  refine Rn.call hT rfl rfl rfl (Nat.le_of_ble_eq_true rfl) (rcv_v gX2_isRoom (by omega) e_4129) (rX2_isRoom (by omega) e_4128 ?_)
  show Rn d _ _ 8 [some (.ref q0), some (.int x1), some (.int x2)] [.int v_4130] h Q
  by_cases c_4131 : v_4130 = 0
  · rw [if_pos c_4131] at e
    refine Rn.bf hT rfl rfl rfl (decide_eq_false (fun z => z c_4131)) ?_
    refine Rn.n hT 1 (pc' := 12) (L' := [some (.ref q0), some (.int x1), some (.int x2)]) (st' := [.int (-1 : Int32)]) rfl ?_
    obtain rfl := Option.some.inj e
    exact Rn.ret hT rfl rfl rfl hq
  · rw [if_neg c_4131] at e
    refine Rn.bt hT rfl rfl rfl (decide_eq_true c_4131) ?_
    refine Rn.n hT 1 (pc' := 14) (L' := [some (.ref q0), some (.int x1), some (.int x2)]) (st' := [.int x2]) rfl ?_
    by_cases c_4132 : x2 = (0 : Int32)
    · rw [if_pos c_4132] at e
      refine Rn.sw2 hT rfl rfl rfl (if_pos c_4132) ?_
      refine Rn.n hT 1 (pc' := 65) (L' := [some (.ref q0), some (.int x1), some (.int x2)]) (st' := [.ref q0]) rfl ?_
      obtain ⟨v_4133, e_4134, e⟩ := Option.bind_eq_some_iff.mp e
      refine Rn.hp hT rfl rfl (gR_hp e_4134) ?_
      obtain ⟨v_4135, e_4136, e⟩ := Option.bind_eq_some_iff.mp e
      refine Rn.hp hT rfl rfl (gR_hp e_4136) ?_
      obtain ⟨v_4137, e_4138, e⟩ := Option.bind_eq_some_iff.mp e
      refine Rn.hp hT rfl rfl (gR_hp e_4138) ?_
      refine Rn.n hT 1 (pc' := 75) (L' := [some (.ref q0), some (.int x1), some (.int x2)]) (st' := [.int x1, .ref v_4137]) rfl ?_
      obtain ⟨v_4139, e_4140, e⟩ := Option.bind_eq_some_iff.mp e
      refine Rn.hp hT rfl rfl (aI_hp e_4140) ?_
      obtain rfl := Option.some.inj e
      exact Rn.ret hT rfl rfl rfl hq
    · rw [if_neg c_4132] at e
      by_cases c_4141 : x2 = (1 : Int32)
      · rw [if_pos c_4141] at e
        refine Rn.sw2 hT rfl rfl rfl ((if_neg c_4132).trans (if_pos c_4141)) ?_
        refine Rn.n hT 1 (pc' := 78) (L' := [some (.ref q0), some (.int x1), some (.int x2)]) (st' := [.ref q0]) rfl ?_
        obtain ⟨v_4142, e_4143, e⟩ := Option.bind_eq_some_iff.mp e
        refine Rn.hp hT rfl rfl (gR_hp e_4143) ?_
        obtain ⟨v_4144, e_4145, e⟩ := Option.bind_eq_some_iff.mp e
        refine Rn.hp hT rfl rfl (gR_hp e_4145) ?_
        obtain ⟨v_4146, e_4147, e⟩ := Option.bind_eq_some_iff.mp e
        refine Rn.hp hT rfl rfl (gR_hp e_4147) ?_
        refine Rn.n hT 1 (pc' := 88) (L' := [some (.ref q0), some (.int x1), some (.int x2)]) (st' := [.int x1, .ref v_4146]) rfl ?_
        obtain ⟨v_4148, e_4149, e⟩ := Option.bind_eq_some_iff.mp e
        refine Rn.hp hT rfl rfl (aI_hp e_4149) ?_
        obtain rfl := Option.some.inj e
        exact Rn.ret hT rfl rfl rfl hq
      · rw [if_neg c_4141] at e
        by_cases c_4150 : x2 = (2 : Int32)
        · rw [if_pos c_4150] at e
          refine Rn.sw2 hT rfl rfl rfl ((if_neg c_4132).trans ((if_neg c_4141).trans (if_pos c_4150))) ?_
          refine Rn.n hT 1 (pc' := 91) (L' := [some (.ref q0), some (.int x1), some (.int x2)]) (st' := [.ref q0]) rfl ?_
          obtain ⟨v_4151, e_4152, e⟩ := Option.bind_eq_some_iff.mp e
          refine Rn.hp hT rfl rfl (gR_hp e_4152) ?_
          obtain ⟨v_4153, e_4154, e⟩ := Option.bind_eq_some_iff.mp e
          refine Rn.hp hT rfl rfl (gR_hp e_4154) ?_
          refine Rn.n hT 4 (pc' := 101) (L' := [some (.ref q0), some (.int x1), some (.int x2)]) (st' := [.int (x2 - (2 : Int32)), .int x1, .ref v_4153]) rfl ?_
          obtain ⟨_, e_4156, e⟩ := Option.bind_eq_some_iff.mp e
          obtain ⟨v_4157, e_4155, e⟩ := Option.bind_eq_some_iff.mp e
          refine Rn.call hT rfl rfl rfl (Nat.le_of_ble_eq_true rfl) (rcv_v gX1_sortOf (by omega) e_4156) (rX1_sortOf (by omega) e_4155 ?_)
          show Rn d _ _ 104 [some (.ref q0), some (.int x1), some (.int x2)] [.int v_4157] h Q
          obtain rfl := Option.some.inj e
          exact Rn.ret hT rfl rfl rfl hq
        · rw [if_neg c_4150] at e
          by_cases c_4158 : x2 = (3 : Int32)
          · rw [if_pos c_4158] at e
            refine Rn.sw2 hT rfl rfl rfl ((if_neg c_4132).trans ((if_neg c_4141).trans ((if_neg c_4150).trans (if_pos c_4158)))) ?_
            refine Rn.n hT 1 (pc' := 91) (L' := [some (.ref q0), some (.int x1), some (.int x2)]) (st' := [.ref q0]) rfl ?_
            obtain ⟨v_4159, e_4160, e⟩ := Option.bind_eq_some_iff.mp e
            refine Rn.hp hT rfl rfl (gR_hp e_4160) ?_
            obtain ⟨v_4161, e_4162, e⟩ := Option.bind_eq_some_iff.mp e
            refine Rn.hp hT rfl rfl (gR_hp e_4162) ?_
            refine Rn.n hT 4 (pc' := 101) (L' := [some (.ref q0), some (.int x1), some (.int x2)]) (st' := [.int (x2 - (2 : Int32)), .int x1, .ref v_4161]) rfl ?_
            obtain ⟨_, e_4164, e⟩ := Option.bind_eq_some_iff.mp e
            obtain ⟨v_4165, e_4163, e⟩ := Option.bind_eq_some_iff.mp e
            refine Rn.call hT rfl rfl rfl (Nat.le_of_ble_eq_true rfl) (rcv_v gX1_sortOf (by omega) e_4164) (rX1_sortOf (by omega) e_4163 ?_)
            show Rn d _ _ 104 [some (.ref q0), some (.int x1), some (.int x2)] [.int v_4165] h Q
            obtain rfl := Option.some.inj e
            exact Rn.ret hT rfl rfl rfl hq
          · rw [if_neg c_4158] at e
            by_cases c_4166 : x2 = (4 : Int32)
            · rw [if_pos c_4166] at e
              refine Rn.sw2 hT rfl rfl rfl ((if_neg c_4132).trans ((if_neg c_4141).trans ((if_neg c_4150).trans ((if_neg c_4158).trans (if_pos c_4166))))) ?_
              refine Rn.n hT 1 (pc' := 91) (L' := [some (.ref q0), some (.int x1), some (.int x2)]) (st' := [.ref q0]) rfl ?_
              obtain ⟨v_4167, e_4168, e⟩ := Option.bind_eq_some_iff.mp e
              refine Rn.hp hT rfl rfl (gR_hp e_4168) ?_
              obtain ⟨v_4169, e_4170, e⟩ := Option.bind_eq_some_iff.mp e
              refine Rn.hp hT rfl rfl (gR_hp e_4170) ?_
              refine Rn.n hT 4 (pc' := 101) (L' := [some (.ref q0), some (.int x1), some (.int x2)]) (st' := [.int (x2 - (2 : Int32)), .int x1, .ref v_4169]) rfl ?_
              obtain ⟨_, e_4172, e⟩ := Option.bind_eq_some_iff.mp e
              obtain ⟨v_4173, e_4171, e⟩ := Option.bind_eq_some_iff.mp e
              refine Rn.call hT rfl rfl rfl (Nat.le_of_ble_eq_true rfl) (rcv_v gX1_sortOf (by omega) e_4172) (rX1_sortOf (by omega) e_4171 ?_)
              show Rn d _ _ 104 [some (.ref q0), some (.int x1), some (.int x2)] [.int v_4173] h Q
              obtain rfl := Option.some.inj e
              exact Rn.ret hT rfl rfl rfl hq
            · rw [if_neg c_4166] at e
              by_cases c_4174 : x2 = (5 : Int32)
              · rw [if_pos c_4174] at e
                refine Rn.sw2 hT rfl rfl rfl ((if_neg c_4132).trans ((if_neg c_4141).trans ((if_neg c_4150).trans ((if_neg c_4158).trans ((if_neg c_4166).trans (if_pos c_4174)))))) ?_
                refine Rn.n hT 1 (pc' := 91) (L' := [some (.ref q0), some (.int x1), some (.int x2)]) (st' := [.ref q0]) rfl ?_
                obtain ⟨v_4175, e_4176, e⟩ := Option.bind_eq_some_iff.mp e
                refine Rn.hp hT rfl rfl (gR_hp e_4176) ?_
                obtain ⟨v_4177, e_4178, e⟩ := Option.bind_eq_some_iff.mp e
                refine Rn.hp hT rfl rfl (gR_hp e_4178) ?_
                refine Rn.n hT 4 (pc' := 101) (L' := [some (.ref q0), some (.int x1), some (.int x2)]) (st' := [.int (x2 - (2 : Int32)), .int x1, .ref v_4177]) rfl ?_
                obtain ⟨_, e_4180, e⟩ := Option.bind_eq_some_iff.mp e
                obtain ⟨v_4181, e_4179, e⟩ := Option.bind_eq_some_iff.mp e
                refine Rn.call hT rfl rfl rfl (Nat.le_of_ble_eq_true rfl) (rcv_v gX1_sortOf (by omega) e_4180) (rX1_sortOf (by omega) e_4179 ?_)
                show Rn d _ _ 104 [some (.ref q0), some (.int x1), some (.int x2)] [.int v_4181] h Q
                obtain rfl := Option.some.inj e
                exact Rn.ret hT rfl rfl rfl hq
              · rw [if_neg c_4174] at e
                by_cases c_4182 : x2 = (6 : Int32)
                · rw [if_pos c_4182] at e
                  refine Rn.sw2 hT rfl rfl rfl ((if_neg c_4132).trans ((if_neg c_4141).trans ((if_neg c_4150).trans ((if_neg c_4158).trans ((if_neg c_4166).trans ((if_neg c_4174).trans (if_pos c_4182))))))) ?_
                  refine Rn.n hT 1 (pc' := 106) (L' := [some (.ref q0), some (.int x1), some (.int x2)]) (st' := [.ref q0]) rfl ?_
                  obtain ⟨v_4183, e_4184, e⟩ := Option.bind_eq_some_iff.mp e
                  refine Rn.hp hT rfl rfl (gR_hp e_4184) ?_
                  refine Rn.n hT 1 (pc' := 110) (L' := [some (.ref q0), some (.int x1), some (.int x2)]) (st' := [.int x1, .ref v_4183]) rfl ?_
                  obtain ⟨_, e_4186, e⟩ := Option.bind_eq_some_iff.mp e
                  obtain ⟨v_4187, e_4185, e⟩ := Option.bind_eq_some_iff.mp e
                  refine Rn.call hT rfl rfl rfl (Nat.le_of_ble_eq_true rfl) (rcv_v gX2_isFixed (by omega) e_4186) (rX2_isFixed (by omega) e_4185 ?_)
                  show Rn d _ _ 113 [some (.ref q0), some (.int x1), some (.int x2)] [.int v_4187] h Q
                  by_cases c_4188 : v_4187 = 0
                  · rw [if_pos c_4188] at e
                    refine Rn.bt hT rfl rfl rfl (decide_eq_true c_4188) ?_
                    refine Rn.n hT 1 (pc' := 121) (L' := [some (.ref q0), some (.int x1), some (.int x2)]) (st' := [.int (0 : Int32)]) rfl ?_
                    exact Rn.weak (ll_n (ll_n (ll_n ll_e))) (rX11_room_b121 hd hq e)
                  · rw [if_neg c_4188] at e
                    refine Rn.bf hT rfl rfl rfl (decide_eq_false c_4188) ?_
                    refine Rn.n hT 2 (pc' := 121) (L' := [some (.ref q0), some (.int x1), some (.int x2)]) (st' := [.int (1 : Int32)]) rfl ?_
                    exact Rn.weak (ll_n (ll_n (ll_n ll_e))) (rX11_room_b121 hd hq e)
                · rw [if_neg c_4182] at e
                  by_cases c_4189 : x2 = (7 : Int32)
                  · rw [if_pos c_4189] at e
                    refine Rn.sw2 hT rfl rfl rfl ((if_neg c_4132).trans ((if_neg c_4141).trans ((if_neg c_4150).trans ((if_neg c_4158).trans ((if_neg c_4166).trans ((if_neg c_4174).trans ((if_neg c_4182).trans (if_pos c_4189)))))))) ?_
                    refine Rn.n hT 1 (pc' := 123) (L' := [some (.ref q0), some (.int x1), some (.int x2)]) (st' := [.ref q0]) rfl ?_
                    obtain ⟨v_4190, e_4191, e⟩ := Option.bind_eq_some_iff.mp e
                    refine Rn.hp hT rfl rfl (gR_hp e_4191) ?_
                    refine Rn.n hT 1 (pc' := 127) (L' := [some (.ref q0), some (.int x1), some (.int x2)]) (st' := [.int x1, .ref v_4190]) rfl ?_
                    obtain ⟨_, e_4193, e⟩ := Option.bind_eq_some_iff.mp e
                    obtain ⟨v_4194, e_4192, e⟩ := Option.bind_eq_some_iff.mp e
                    refine Rn.call hT rfl rfl rfl (Nat.le_of_ble_eq_true rfl) (rcv_v gX2_keysIn (by omega) e_4193) (rX2_keysIn (by omega) e_4192 ?_)
                    show Rn d _ _ 130 [some (.ref q0), some (.int x1), some (.int x2)] [.int v_4194] h Q
                    obtain rfl := Option.some.inj e
                    exact Rn.ret hT rfl rfl rfl hq
                  · rw [if_neg c_4189] at e
                    by_cases c_4195 : x2 = (8 : Int32)
                    · rw [if_pos c_4195] at e
                      refine Rn.sw2 hT rfl rfl rfl ((if_neg c_4132).trans ((if_neg c_4141).trans ((if_neg c_4150).trans ((if_neg c_4158).trans ((if_neg c_4166).trans ((if_neg c_4174).trans ((if_neg c_4182).trans ((if_neg c_4189).trans (if_pos c_4195))))))))) ?_
                      refine Rn.n hT 1 (pc' := 132) (L' := [some (.ref q0), some (.int x1), some (.int x2)]) (st' := [.ref q0]) rfl ?_
                      obtain ⟨v_4196, e_4197, e⟩ := Option.bind_eq_some_iff.mp e
                      refine Rn.hp hT rfl rfl (gR_hp e_4197) ?_
                      refine Rn.n hT 1 (pc' := 136) (L' := [some (.ref q0), some (.int x1), some (.int x2)]) (st' := [.int x1, .ref v_4196]) rfl ?_
                      obtain ⟨_, e_4199, e⟩ := Option.bind_eq_some_iff.mp e
                      obtain ⟨v_4200, e_4198, e⟩ := Option.bind_eq_some_iff.mp e
                      refine Rn.call hT rfl rfl rfl (Nat.le_of_ble_eq_true rfl) (rcv_v gX2_sleepersIn (by omega) e_4199) (rX2_sleepersIn (by omega) e_4198 ?_)
                      show Rn d _ _ 139 [some (.ref q0), some (.int x1), some (.int x2)] [.int v_4200] h Q
                      obtain rfl := Option.some.inj e
                      exact Rn.ret hT rfl rfl rfl hq
                    · rw [if_neg c_4195] at e
                      refine Rn.sw2 hT rfl rfl rfl ((if_neg c_4132).trans ((if_neg c_4141).trans ((if_neg c_4150).trans ((if_neg c_4158).trans ((if_neg c_4166).trans ((if_neg c_4174).trans ((if_neg c_4182).trans ((if_neg c_4189).trans ((if_neg c_4195).trans rfl))))))))) ?_
                      refine Rn.n hT 1 (pc' := 141) (L' := [some (.ref q0), some (.int x1), some (.int x2)]) (st' := [.int (-1 : Int32)]) rfl ?_
                      obtain rfl := Option.some.inj e
                      exact Rn.ret hT rfl rfl rfl hq
set_option maxRecDepth 10000 in
theorem hX11_at : iv_Tb 145 tX11_at := iv_tb_of (m := mX11_at) rfl
set_option maxRecDepth 10000 in
theorem gX11_at : PG.2 145 = some mX11_at := iv_pi_of (t := tX11_at) rfl (by decide)
def fX11_at_b35 (N : Nat) (h : iv_H)  (s0 : Int32) : Option (Int32) := (some s0)
set_option maxRecDepth 10000 in
set_option maxHeartbeats 4000000 in
theorem rX11_at_b35 {d N : Nat} (hd : 1 ≤ d) {h : iv_H}  {s0 : Int32} {r : Int32} {Q : Option Value → iv_H → Prop} (hq : Q (some (.int r)) h) (e : fX11_at_b35 N h  s0 = some r) : Rn d 145 (some .int) 35 [none, none, none, none] [.int s0] h Q := by
  have hT := hX11_at
  unfold fX11_at_b35 at e
  obtain rfl := Option.some.inj e
  exact Rn.ret hT rfl rfl rfl hq
def fX11_at (N : Nat) (h : iv_H) (q0 : Nat) (x1 : Int32) (x2 : Int32) : Option (Int32) := ((gR h 11 4 q0).bind fun v_4201 => ((gR h 2 9 v_4201).bind fun v_4203 => ((cko h v_4203 1).bind fun _ => (fX1_cellAt N h v_4203 x1 x2).bind fun v_4207 => (if v_4207 = (-1 : Int32) then (fX11_at_b35 N h (-2 : Int32)) else ((gR h 11 4 q0).bind fun v_4209 => ((gR h 2 9 v_4209).bind fun v_4211 => ((gR h 1 7 v_4211).bind fun v_4213 => ((aI h v_4213 v_4207).bind fun v_4215 => (fX11_at_b35 N h v_4215)))))))))
set_option maxRecDepth 10000 in
set_option maxHeartbeats 4000000 in
theorem rX11_at {d N : Nat} (hd : 2 ≤ d) {h : iv_H} {q0 : Nat} {x1 : Int32} {x2 : Int32} {r : Int32} {Q : Option Value → iv_H → Prop} (e : fX11_at N h q0 x1 x2 = some r) (hq : Q (some (.int r)) h) : Cl d 145 [.ref q0, .int x1, .int x2] h Q := by
  obtain ⟨d, rfl⟩ : ∃ k, d = k + 1 := ⟨d - 1, by omega⟩
  have hd : 1 ≤ d := by omega
  have hT := hX11_at
  unfold fX11_at at e
  refine Cl.into (by decide) gX11_at rfl ?_
  show Rn d 145 (some .int) 0 [some (.ref q0), some (.int x1), some (.int x2), none] [] h Q
  refine Rn.n hT 1 (pc' := 1) (L' := [some (.ref q0), some (.int x1), some (.int x2), none]) (st' := [.ref q0]) rfl ?_
  obtain ⟨v_4201, e_4202, e⟩ := Option.bind_eq_some_iff.mp e
  refine Rn.hp hT rfl rfl (gR_hp e_4202) ?_
  obtain ⟨v_4203, e_4204, e⟩ := Option.bind_eq_some_iff.mp e
  refine Rn.hp hT rfl rfl (gR_hp e_4204) ?_
  refine Rn.n hT 2 (pc' := 9) (L' := [some (.ref q0), some (.int x1), some (.int x2), none]) (st' := [.int x2, .int x1, .ref v_4203]) rfl ?_
  obtain ⟨_, e_4206, e⟩ := Option.bind_eq_some_iff.mp e
  obtain ⟨v_4207, e_4205, e⟩ := Option.bind_eq_some_iff.mp e
  refine Rn.call hT rfl rfl rfl (Nat.le_of_ble_eq_true rfl) (rcv_v gX1_cellAt (by omega) e_4206) (rX1_cellAt (by omega) e_4205 ?_)
  show Rn d _ _ 12 [some (.ref q0), some (.int x1), some (.int x2), none] [.int v_4207] h Q
  refine Rn.n hT 3 (pc' := 15) (L' := [some (.ref q0), some (.int x1), some (.int x2), some (.int v_4207)]) (st' := [.int (-1 : Int32), .int v_4207]) rfl ?_
  by_cases c_4208 : v_4207 = (-1 : Int32)
  · rw [if_pos c_4208] at e
    refine Rn.bf hT rfl rfl rfl (decide_eq_false (fun z => z c_4208)) ?_
    refine Rn.n hT 2 (pc' := 35) (L' := [some (.ref q0), some (.int x1), some (.int x2), some (.int v_4207)]) (st' := [.int (-2 : Int32)]) rfl ?_
    exact Rn.weak (ll_n (ll_n (ll_n (ll_n ll_e)))) (rX11_at_b35 hd hq e)
  · rw [if_neg c_4208] at e
    refine Rn.bt hT rfl rfl rfl (decide_eq_true c_4208) ?_
    refine Rn.n hT 1 (pc' := 24) (L' := [some (.ref q0), some (.int x1), some (.int x2), some (.int v_4207)]) (st' := [.ref q0]) rfl ?_
    obtain ⟨v_4209, e_4210, e⟩ := Option.bind_eq_some_iff.mp e
    refine Rn.hp hT rfl rfl (gR_hp e_4210) ?_
    obtain ⟨v_4211, e_4212, e⟩ := Option.bind_eq_some_iff.mp e
    refine Rn.hp hT rfl rfl (gR_hp e_4212) ?_
    obtain ⟨v_4213, e_4214, e⟩ := Option.bind_eq_some_iff.mp e
    refine Rn.hp hT rfl rfl (gR_hp e_4214) ?_
    refine Rn.n hT 1 (pc' := 34) (L' := [some (.ref q0), some (.int x1), some (.int x2), some (.int v_4207)]) (st' := [.int v_4207, .ref v_4213]) rfl ?_
    obtain ⟨v_4215, e_4216, e⟩ := Option.bind_eq_some_iff.mp e
    refine Rn.hp hT rfl rfl (aI_hp e_4216) ?_
    exact Rn.weak (ll_n (ll_n (ll_n (ll_n ll_e)))) (rX11_at_b35 hd hq e)
set_option maxRecDepth 10000 in
theorem hX11_sleeps : iv_Tb 146 tX11_sleeps := iv_tb_of (m := mX11_sleeps) rfl
set_option maxRecDepth 10000 in
theorem gX11_sleeps : PG.2 146 = some mX11_sleeps := iv_pi_of (t := tX11_sleeps) rfl (by decide)
def fX11_sleeps_b24 (N : Nat) (h : iv_H)  (s0 : Int32) : Option (Int32) := (some s0)
set_option maxRecDepth 10000 in
set_option maxHeartbeats 4000000 in
theorem rX11_sleeps_b24 {d N : Nat} (hd : 1 ≤ d) {h : iv_H}  {s0 : Int32} {r : Int32} {Q : Option Value → iv_H → Prop} (hq : Q (some (.int r)) h) (e : fX11_sleeps_b24 N h  s0 = some r) : Rn d 146 (some .int) 24 [none, none] [.int s0] h Q := by
  have hT := hX11_sleeps
  unfold fX11_sleeps_b24 at e
  obtain rfl := Option.some.inj e
  exact Rn.ret hT rfl rfl rfl hq
def fX11_sleeps (N : Nat) (h : iv_H) (q0 : Nat) (x1 : Int32) : Option (Int32) := ((gR h 11 4 q0).bind fun v_4217 => ((cko h v_4217 2).bind fun _ => (fX2_isPerson N h v_4217 x1).bind fun v_4221 => (if v_4221 = 0 then (fX11_sleeps_b24 N h (-1 : Int32)) else ((gR h 11 4 q0).bind fun v_4223 => ((gR h 2 11 v_4223).bind fun v_4225 => ((aI h v_4225 x1).bind fun v_4227 => (fX11_sleeps_b24 N h v_4227)))))))
set_option maxRecDepth 10000 in
set_option maxHeartbeats 4000000 in
theorem rX11_sleeps {d N : Nat} (hd : 2 ≤ d) {h : iv_H} {q0 : Nat} {x1 : Int32} {r : Int32} {Q : Option Value → iv_H → Prop} (e : fX11_sleeps N h q0 x1 = some r) (hq : Q (some (.int r)) h) : Cl d 146 [.ref q0, .int x1] h Q := by
  obtain ⟨d, rfl⟩ : ∃ k, d = k + 1 := ⟨d - 1, by omega⟩
  have hd : 1 ≤ d := by omega
  have hT := hX11_sleeps
  unfold fX11_sleeps at e
  refine Cl.into (by decide) gX11_sleeps rfl ?_
  show Rn d 146 (some .int) 0 [some (.ref q0), some (.int x1)] [] h Q
  refine Rn.n hT 1 (pc' := 1) (L' := [some (.ref q0), some (.int x1)]) (st' := [.ref q0]) rfl ?_
  obtain ⟨v_4217, e_4218, e⟩ := Option.bind_eq_some_iff.mp e
  refine Rn.hp hT rfl rfl (gR_hp e_4218) ?_
  refine Rn.n hT 1 (pc' := 5) (L' := [some (.ref q0), some (.int x1)]) (st' := [.int x1, .ref v_4217]) rfl ?_
  obtain ⟨_, e_4220, e⟩ := Option.bind_eq_some_iff.mp e
  obtain ⟨v_4221, e_4219, e⟩ := Option.bind_eq_some_iff.mp e
  refine Rn.call hT rfl rfl rfl (Nat.le_of_ble_eq_true rfl) (rcv_v gX2_isPerson (by omega) e_4220) (rX2_isPerson (by omega) e_4219 ?_)
  show Rn d _ _ 8 [some (.ref q0), some (.int x1)] [.int v_4221] h Q
  by_cases c_4222 : v_4221 = 0
  · rw [if_pos c_4222] at e
    refine Rn.bt hT rfl rfl rfl (decide_eq_true c_4222) ?_
    refine Rn.n hT 1 (pc' := 24) (L' := [some (.ref q0), some (.int x1)]) (st' := [.int (-1 : Int32)]) rfl ?_
    exact Rn.weak (ll_n (ll_n ll_e)) (rX11_sleeps_b24 hd hq e)
  · rw [if_neg c_4222] at e
    refine Rn.bf hT rfl rfl rfl (decide_eq_false c_4222) ?_
    refine Rn.n hT 1 (pc' := 12) (L' := [some (.ref q0), some (.int x1)]) (st' := [.ref q0]) rfl ?_
    obtain ⟨v_4223, e_4224, e⟩ := Option.bind_eq_some_iff.mp e
    refine Rn.hp hT rfl rfl (gR_hp e_4224) ?_
    obtain ⟨v_4225, e_4226, e⟩ := Option.bind_eq_some_iff.mp e
    refine Rn.hp hT rfl rfl (gR_hp e_4226) ?_
    refine Rn.n hT 1 (pc' := 19) (L' := [some (.ref q0), some (.int x1)]) (st' := [.int x1, .ref v_4225]) rfl ?_
    obtain ⟨v_4227, e_4228, e⟩ := Option.bind_eq_some_iff.mp e
    refine Rn.hp hT rfl rfl (aI_hp e_4228) ?_
    refine Rn.n hT 1 (pc' := 24) (L' := [some (.ref q0), some (.int x1)]) (st' := [.int v_4227]) rfl ?_
    exact Rn.weak (ll_n (ll_n ll_e)) (rX11_sleeps_b24 hd hq e)
set_option maxRecDepth 10000 in
theorem hX11_mismatch : iv_Tb 147 tX11_mismatch := iv_tb_of (m := mX11_mismatch) rfl
set_option maxRecDepth 10000 in
theorem gX11_mismatch : PG.2 147 = some mX11_mismatch := iv_pi_of (t := tX11_mismatch) rfl (by decide)
def fX11_mismatch_b19 (N : Nat) (h : iv_H)   : Option (Int32) := (some (-1 : Int32))
set_option maxRecDepth 10000 in
set_option maxHeartbeats 4000000 in
theorem rX11_mismatch_b19 {d N : Nat} (hd : 2 ≤ d) {h : iv_H}   {r : Int32} {Q : Option Value → iv_H → Prop} (hq : Q (some (.int r)) h) (e : fX11_mismatch_b19 N h   = some r) : Rn d 147 (some .int) 19 [none, none, none, none] [] h Q := by
  have hT := hX11_mismatch
  unfold fX11_mismatch_b19 at e
  refine Rn.n hT 1 (pc' := 20) (L' := [none, none, none, none]) (st' := [.int (-1 : Int32)]) rfl ?_
  obtain rfl := Option.some.inj e
  exact Rn.ret hT rfl rfl rfl hq
def fX11_mismatch_b82 (N : Nat) (h : iv_H)  (s0 : Int32) : Option (Int32) := (some s0)
set_option maxRecDepth 10000 in
set_option maxHeartbeats 4000000 in
theorem rX11_mismatch_b82 {d N : Nat} (hd : 2 ≤ d) {h : iv_H}  {s0 : Int32} {r : Int32} {Q : Option Value → iv_H → Prop} (hq : Q (some (.int r)) h) (e : fX11_mismatch_b82 N h  s0 = some r) : Rn d 147 (some .int) 82 [none, none, none, none] [.int s0] h Q := by
  have hT := hX11_mismatch
  unfold fX11_mismatch_b82 at e
  obtain rfl := Option.some.inj e
  exact Rn.ret hT rfl rfl rfl hq
def fX11_mismatch (N : Nat) (h : iv_H) (q0 : Nat) (x1 : Int32) : Option (Int32) := ((gR h 11 4 q0).bind fun v_4229 => ((gI h 2 0 v_4229).bind fun v_4231 => (if v_4231 = 0 then (fX11_mismatch_b19 N h) else (if x1 < 0 then (fX11_mismatch_b19 N h) else (if x1 ≤ (3 : Int32) then (if x1 = 0 then ((gR h 11 4 q0).bind fun v_4247 => ((gR h 2 9 v_4247).bind fun v_4249 => ((cko h v_4249 1).bind fun _ => (fX1_mismatches N h v_4249).bind fun v_4253 => (some v_4253)))) else ((gR h 11 4 q0).bind fun v_4237 => ((gR h 2 9 v_4237).bind fun v_4239 => ((cko h v_4239 1).bind fun _ => (fX1_firstMismatch N h v_4239).bind fun v_4243 => (if v_4243 = (-1 : Int32) then (some (-2 : Int32)) else (if x1 = (1 : Int32) then (some ((v_4243 / (4 : Int32)) &&& (3 : Int32))) else (if x1 = (2 : Int32) then (fX11_mismatch_b82 N h ((v_4243 / (4 : Int32)) >>> ((2 : Int32) &&& 31))) else (fX11_mismatch_b82 N h (v_4243 - v_4243 / (4 : Int32) * (4 : Int32)))))))))) else (fX11_mismatch_b19 N h))))))
set_option maxRecDepth 10000 in
set_option maxHeartbeats 4000000 in
theorem rX11_mismatch {d N : Nat} (hd : 3 ≤ d) {h : iv_H} {q0 : Nat} {x1 : Int32} {r : Int32} {Q : Option Value → iv_H → Prop} (e : fX11_mismatch N h q0 x1 = some r) (hq : Q (some (.int r)) h) : Cl d 147 [.ref q0, .int x1] h Q := by
  obtain ⟨d, rfl⟩ : ∃ k, d = k + 1 := ⟨d - 1, by omega⟩
  have hd : 2 ≤ d := by omega
  have hT := hX11_mismatch
  unfold fX11_mismatch at e
  refine Cl.into (by decide) gX11_mismatch rfl ?_
  show Rn d 147 (some .int) 0 [some (.ref q0), some (.int x1), none, none] [] h Q
  refine Rn.n hT 1 (pc' := 1) (L' := [some (.ref q0), some (.int x1), none, none]) (st' := [.ref q0]) rfl ?_
  obtain ⟨v_4229, e_4230, e⟩ := Option.bind_eq_some_iff.mp e
  refine Rn.hp hT rfl rfl (gR_hp e_4230) ?_
  obtain ⟨v_4231, e_4232, e⟩ := Option.bind_eq_some_iff.mp e
  refine Rn.hp hT rfl rfl (gI_hp e_4232) ?_
  by_cases c_4233 : v_4231 = 0
  · rw [if_pos c_4233] at e
    refine Rn.bt hT rfl rfl rfl (decide_eq_true c_4233) ?_
    exact Rn.weak (ll_n (ll_n (ll_n (ll_n ll_e)))) (rX11_mismatch_b19 hd hq e)
  · rw [if_neg c_4233] at e
    refine Rn.bf hT rfl rfl rfl (decide_eq_false c_4233) ?_
    refine Rn.n hT 1 (pc' := 11) (L' := [some (.ref q0), some (.int x1), none, none]) (st' := [.int x1]) rfl ?_
    by_cases c_4234 : x1 < 0
    · rw [if_pos c_4234] at e
      refine Rn.bt hT rfl rfl rfl (decide_eq_true c_4234) ?_
      exact Rn.weak (ll_n (ll_n (ll_n (ll_n ll_e)))) (rX11_mismatch_b19 hd hq e)
    · rw [if_neg c_4234] at e
      refine Rn.bf hT rfl rfl rfl (decide_eq_false c_4234) ?_
      refine Rn.n hT 2 (pc' := 16) (L' := [some (.ref q0), some (.int x1), none, none]) (st' := [.int (3 : Int32), .int x1]) rfl ?_
      by_cases c_4235 : x1 ≤ (3 : Int32)
      · rw [if_pos c_4235] at e
        refine Rn.bt hT rfl rfl rfl (decide_eq_true c_4235) ?_
        refine Rn.n hT 1 (pc' := 22) (L' := [some (.ref q0), some (.int x1), none, none]) (st' := [.int x1]) rfl ?_
        by_cases c_4236 : x1 = 0
        · rw [if_pos c_4236] at e
          refine Rn.bf hT rfl rfl rfl (decide_eq_false (fun z => z c_4236)) ?_
          refine Rn.n hT 1 (pc' := 26) (L' := [some (.ref q0), some (.int x1), none, none]) (st' := [.ref q0]) rfl ?_
          obtain ⟨v_4247, e_4248, e⟩ := Option.bind_eq_some_iff.mp e
          refine Rn.hp hT rfl rfl (gR_hp e_4248) ?_
          obtain ⟨v_4249, e_4250, e⟩ := Option.bind_eq_some_iff.mp e
          refine Rn.hp hT rfl rfl (gR_hp e_4250) ?_
          obtain ⟨_, e_4252, e⟩ := Option.bind_eq_some_iff.mp e
          obtain ⟨v_4253, e_4251, e⟩ := Option.bind_eq_some_iff.mp e
          refine Rn.call hT rfl rfl rfl (Nat.le_of_ble_eq_true rfl) (rcv_v gX1_mismatches (by omega) e_4252) (rX1_mismatches (by omega) e_4251 ?_)
          show Rn d _ _ 35 [some (.ref q0), some (.int x1), none, none] [.int v_4253] h Q
          obtain rfl := Option.some.inj e
          exact Rn.ret hT rfl rfl rfl hq
        · rw [if_neg c_4236] at e
          refine Rn.bt hT rfl rfl rfl (decide_eq_true c_4236) ?_
          refine Rn.n hT 1 (pc' := 37) (L' := [some (.ref q0), some (.int x1), none, none]) (st' := [.ref q0]) rfl ?_
          obtain ⟨v_4237, e_4238, e⟩ := Option.bind_eq_some_iff.mp e
          refine Rn.hp hT rfl rfl (gR_hp e_4238) ?_
          obtain ⟨v_4239, e_4240, e⟩ := Option.bind_eq_some_iff.mp e
          refine Rn.hp hT rfl rfl (gR_hp e_4240) ?_
          obtain ⟨_, e_4242, e⟩ := Option.bind_eq_some_iff.mp e
          obtain ⟨v_4243, e_4241, e⟩ := Option.bind_eq_some_iff.mp e
          refine Rn.call hT rfl rfl rfl (Nat.le_of_ble_eq_true rfl) (rcv_v gX1_firstMismatch (by omega) e_4242) (rX1_firstMismatch (by omega) e_4241 ?_)
          show Rn d _ _ 46 [some (.ref q0), some (.int x1), none, none] [.int v_4243] h Q
          refine Rn.n hT 3 (pc' := 49) (L' := [some (.ref q0), some (.int x1), some (.int v_4243), none]) (st' := [.int (-1 : Int32), .int v_4243]) rfl ?_
          by_cases c_4244 : v_4243 = (-1 : Int32)
          · rw [if_pos c_4244] at e
            refine Rn.bf hT rfl rfl rfl (decide_eq_false (fun z => z c_4244)) ?_
            refine Rn.n hT 1 (pc' := 54) (L' := [some (.ref q0), some (.int x1), some (.int v_4243), none]) (st' := [.int (-2 : Int32)]) rfl ?_
            obtain rfl := Option.some.inj e
            exact Rn.ret hT rfl rfl rfl hq
          · rw [if_neg c_4244] at e
            refine Rn.bt hT rfl rfl rfl (decide_eq_true c_4244) ?_
            refine Rn.n hT 6 (pc' := 61) (L' := [some (.ref q0), some (.int x1), some (.int v_4243), some (.int (v_4243 / (4 : Int32)))]) (st' := [.int (1 : Int32), .int x1]) rfl ?_
            by_cases c_4245 : x1 = (1 : Int32)
            · rw [if_pos c_4245] at e
              refine Rn.bf hT rfl rfl rfl (decide_eq_false (fun z => z c_4245)) ?_
              refine Rn.n hT 3 (pc' := 67) (L' := [some (.ref q0), some (.int x1), some (.int v_4243), some (.int (v_4243 / (4 : Int32)))]) (st' := [.int ((v_4243 / (4 : Int32)) &&& (3 : Int32))]) rfl ?_
              obtain rfl := Option.some.inj e
              exact Rn.ret hT rfl rfl rfl hq
            · rw [if_neg c_4245] at e
              refine Rn.bt hT rfl rfl rfl (decide_eq_true c_4245) ?_
              refine Rn.n hT 2 (pc' := 70) (L' := [some (.ref q0), some (.int x1), some (.int v_4243), some (.int (v_4243 / (4 : Int32)))]) (st' := [.int (2 : Int32), .int x1]) rfl ?_
              by_cases c_4246 : x1 = (2 : Int32)
              · rw [if_pos c_4246] at e
                refine Rn.bf hT rfl rfl rfl (decide_eq_false (fun z => z c_4246)) ?_
                refine Rn.n hT 4 (pc' := 82) (L' := [some (.ref q0), some (.int x1), some (.int v_4243), some (.int (v_4243 / (4 : Int32)))]) (st' := [.int ((v_4243 / (4 : Int32)) >>> ((2 : Int32) &&& 31))]) rfl ?_
                exact Rn.weak (ll_n (ll_n (ll_n (ll_n ll_e)))) (rX11_mismatch_b82 hd hq e)
              · rw [if_neg c_4246] at e
                refine Rn.bt hT rfl rfl rfl (decide_eq_true c_4246) ?_
                refine Rn.n hT 3 (pc' := 82) (L' := [some (.ref q0), some (.int x1), some (.int v_4243), some (.int (v_4243 / (4 : Int32)))]) (st' := [.int (v_4243 - v_4243 / (4 : Int32) * (4 : Int32))]) rfl ?_
                exact Rn.weak (ll_n (ll_n (ll_n (ll_n ll_e)))) (rX11_mismatch_b82 hd hq e)
      · rw [if_neg c_4235] at e
        refine Rn.bf hT rfl rfl rfl (decide_eq_false c_4235) ?_
        exact Rn.weak (ll_n (ll_n (ll_n (ll_n ll_e)))) (rX11_mismatch_b19 hd hq e)
set_option maxRecDepth 10000 in
theorem hX11_dayCame : iv_Tb 148 tX11_dayCame := iv_tb_of (m := mX11_dayCame) rfl
set_option maxRecDepth 10000 in
theorem gX11_dayCame : PG.2 148 = some mX11_dayCame := iv_pi_of (t := tX11_dayCame) rfl (by decide)
def fX11_dayCame (N : Nat) (h : iv_H) (q0 : Nat) : Option (iv_H) := ((gR h 11 4 q0).bind fun v_4254 => ((cko h v_4254 2).bind fun _ => (fX2_forgetPast N h v_4254).bind fun h_4259 => ((gI h_4259 11 15 q0).bind fun v_4260 => ((pV h_4259 11 15 q0 (.int (v_4260 + (1 : Int32)))).bind fun h_4262 => some h_4262))))
set_option maxRecDepth 10000 in
set_option maxHeartbeats 4000000 in
theorem rX11_dayCame {d N : Nat} (hd : 2 ≤ d) {h : iv_H} {q0 : Nat} {r : iv_H} {Q : Option Value → iv_H → Prop} (e : fX11_dayCame N h q0 = some r) (hq : Q none r) : Cl d 148 [.ref q0] h Q := by
  obtain ⟨d, rfl⟩ : ∃ k, d = k + 1 := ⟨d - 1, by omega⟩
  have hd : 1 ≤ d := by omega
  have hT := hX11_dayCame
  unfold fX11_dayCame at e
  refine Cl.into (by decide) gX11_dayCame rfl ?_
  show Rn d 148 none 0 [some (.ref q0)] [] h Q
  refine Rn.n hT 1 (pc' := 1) (L' := [some (.ref q0)]) (st' := [.ref q0]) rfl ?_
  obtain ⟨v_4254, e_4255, e⟩ := Option.bind_eq_some_iff.mp e
  refine Rn.hp hT rfl rfl (gR_hp e_4255) ?_
  obtain ⟨_, e_4257, e⟩ := Option.bind_eq_some_iff.mp e
  obtain ⟨h_4259, e_4256, e⟩ := Option.bind_eq_some_iff.mp e
  refine Rn.call hT rfl rfl rfl (Nat.le_of_ble_eq_true rfl) (rcv_v gX2_forgetPast (by omega) e_4257) (rX2_forgetPast (by omega) e_4256 ?_)
  show Rn d _ _ 7 [some (.ref q0)] [] h_4259 Q
  refine Rn.n hT 2 (pc' := 9) (L' := [some (.ref q0)]) (st' := [.ref q0, .ref q0]) rfl ?_
  obtain ⟨v_4260, e_4261, e⟩ := Option.bind_eq_some_iff.mp e
  refine Rn.hp hT rfl rfl (gI_hp e_4261) ?_
  refine Rn.n hT 2 (pc' := 14) (L' := [some (.ref q0)]) (st' := [.int (v_4260 + (1 : Int32)), .ref q0]) rfl ?_
  obtain ⟨h_4262, e_4263, e⟩ := Option.bind_eq_some_iff.mp e
  refine Rn.hp hT rfl rfl (pV_hp rfl e_4263) ?_
  obtain rfl := Option.some.inj e
  exact Rn.ret hT rfl rfl rfl hq
set_option maxRecDepth 10000 in
theorem hX11_brick : iv_Tb 149 tX11_brick := iv_tb_of (m := mX11_brick) rfl
set_option maxRecDepth 10000 in
theorem gX11_brick : PG.2 149 = some mX11_brick := iv_pi_of (t := tX11_brick) rfl (by decide)
def fX11_brick_b30 (N : Nat) (h : iv_H)   : Option (Int32 × iv_H) := (some ((-2 : Int32), h))
set_option maxRecDepth 10000 in
set_option maxHeartbeats 4000000 in
theorem rX11_brick_b30 {d N : Nat} (hd : 2 ≤ d) {h : iv_H}   {r : Int32 × iv_H} {Q : Option Value → iv_H → Prop} (hq : Q (some (.int r.1)) r.2) (e : fX11_brick_b30 N h   = some r) : Rn d 149 (some .int) 30 [none, none, none, none, none] [] h Q := by
  have hT := hX11_brick
  unfold fX11_brick_b30 at e
  refine Rn.n hT 1 (pc' := 32) (L' := [none, none, none, none, none]) (st' := [.int (-2 : Int32)]) rfl ?_
  obtain rfl := Option.some.inj e
  exact Rn.ret hT rfl rfl rfl hq
def fX11_brick (N : Nat) (h : iv_H) (q0 : Nat) (x1 : Int32) (x2 : Int32) (x3 : Int32) : Option (Int32 × iv_H) := ((gR h 11 4 q0).bind fun v_4264 => ((cko h v_4264 2).bind fun _ => (fX2_isRoom N h v_4264 x1).bind fun v_4268 => (if v_4268 = 0 then (fX11_brick_b30 N h) else (if x2 < 0 then (fX11_brick_b30 N h) else (if (4 : Int32) ≤ x2 then (fX11_brick_b30 N h) else (if x3 < 0 then (fX11_brick_b30 N h) else (if x3 ≤ (6 : Int32) then ((gR h 11 4 q0).bind fun v_4274 => ((gR h 2 9 v_4274).bind fun v_4276 => ((cko h v_4276 1).bind fun _ => (fX1_sortOf N h v_4276 x1 x2).bind fun v_4280 => (if v_4280 = x3 then (some ((-2 : Int32), h)) else ((gR h 11 4 q0).bind fun v_4282 => ((gR h 2 9 v_4282).bind fun v_4284 => ((cko h v_4284 1).bind fun _ => (fX1_setSort N h v_4284 x1 x2 x3).bind fun h_4289 => ((cko h_4289 q0 11).bind fun _ => (fX11_dayCame N h_4289 q0).bind fun h_4293 => (some (v_4280, h_4293)))))))))) else (fX11_brick_b30 N h))))))))
set_option maxRecDepth 10000 in
set_option maxHeartbeats 4000000 in
theorem rX11_brick {d N : Nat} (hd : 3 ≤ d) {h : iv_H} {q0 : Nat} {x1 : Int32} {x2 : Int32} {x3 : Int32} {r : Int32 × iv_H} {Q : Option Value → iv_H → Prop} (e : fX11_brick N h q0 x1 x2 x3 = some r) (hq : Q (some (.int r.1)) r.2) : Cl d 149 [.ref q0, .int x1, .int x2, .int x3] h Q := by
  obtain ⟨d, rfl⟩ : ∃ k, d = k + 1 := ⟨d - 1, by omega⟩
  have hd : 2 ≤ d := by omega
  have hT := hX11_brick
  unfold fX11_brick at e
  refine Cl.into (by decide) gX11_brick rfl ?_
  show Rn d 149 (some .int) 0 [some (.ref q0), some (.int x1), some (.int x2), some (.int x3), none] [] h Q
  refine Rn.n hT 1 (pc' := 1) (L' := [some (.ref q0), some (.int x1), some (.int x2), some (.int x3), none]) (st' := [.ref q0]) rfl ?_
  obtain ⟨v_4264, e_4265, e⟩ := Option.bind_eq_some_iff.mp e
  refine Rn.hp hT rfl rfl (gR_hp e_4265) ?_
  refine Rn.n hT 1 (pc' := 5) (L' := [some (.ref q0), some (.int x1), some (.int x2), some (.int x3), none]) (st' := [.int x1, .ref v_4264]) rfl ?_
  obtain ⟨_, e_4267, e⟩ := Option.bind_eq_some_iff.mp e
  obtain ⟨v_4268, e_4266, e⟩ := Option.bind_eq_some_iff.mp e
  refine Rn.call hT rfl rfl rfl (Nat.le_of_ble_eq_true rfl) (rcv_v gX2_isRoom (by omega) e_4267) (rX2_isRoom (by omega) e_4266 ?_)
  show Rn d _ _ 8 [some (.ref q0), some (.int x1), some (.int x2), some (.int x3), none] [.int v_4268] h Q
  by_cases c_4269 : v_4268 = 0
  · rw [if_pos c_4269] at e
    refine Rn.bt hT rfl rfl rfl (decide_eq_true c_4269) ?_
    exact Rn.weak (ll_n (ll_n (ll_n (ll_n (ll_n ll_e))))) (rX11_brick_b30 hd hq e)
  · rw [if_neg c_4269] at e
    refine Rn.bf hT rfl rfl rfl (decide_eq_false c_4269) ?_
    refine Rn.n hT 1 (pc' := 12) (L' := [some (.ref q0), some (.int x1), some (.int x2), some (.int x3), none]) (st' := [.int x2]) rfl ?_
    by_cases c_4270 : x2 < 0
    · rw [if_pos c_4270] at e
      refine Rn.bt hT rfl rfl rfl (decide_eq_true c_4270) ?_
      exact Rn.weak (ll_n (ll_n (ll_n (ll_n (ll_n ll_e))))) (rX11_brick_b30 hd hq e)
    · rw [if_neg c_4270] at e
      refine Rn.bf hT rfl rfl rfl (decide_eq_false c_4270) ?_
      refine Rn.n hT 2 (pc' := 17) (L' := [some (.ref q0), some (.int x1), some (.int x2), some (.int x3), none]) (st' := [.int (4 : Int32), .int x2]) rfl ?_
      by_cases c_4271 : (4 : Int32) ≤ x2
      · rw [if_pos c_4271] at e
        refine Rn.bt hT rfl rfl rfl (decide_eq_true c_4271) ?_
        exact Rn.weak (ll_n (ll_n (ll_n (ll_n (ll_n ll_e))))) (rX11_brick_b30 hd hq e)
      · rw [if_neg c_4271] at e
        refine Rn.bf hT rfl rfl rfl (decide_eq_false c_4271) ?_
        refine Rn.n hT 1 (pc' := 21) (L' := [some (.ref q0), some (.int x1), some (.int x2), some (.int x3), none]) (st' := [.int x3]) rfl ?_
        by_cases c_4272 : x3 < 0
        · rw [if_pos c_4272] at e
          refine Rn.bt hT rfl rfl rfl (decide_eq_true c_4272) ?_
          exact Rn.weak (ll_n (ll_n (ll_n (ll_n (ll_n ll_e))))) (rX11_brick_b30 hd hq e)
        · rw [if_neg c_4272] at e
          refine Rn.bf hT rfl rfl rfl (decide_eq_false c_4272) ?_
          refine Rn.n hT 2 (pc' := 27) (L' := [some (.ref q0), some (.int x1), some (.int x2), some (.int x3), none]) (st' := [.int (6 : Int32), .int x3]) rfl ?_
          by_cases c_4273 : x3 ≤ (6 : Int32)
          · rw [if_pos c_4273] at e
            refine Rn.bt hT rfl rfl rfl (decide_eq_true c_4273) ?_
            refine Rn.n hT 1 (pc' := 34) (L' := [some (.ref q0), some (.int x1), some (.int x2), some (.int x3), none]) (st' := [.ref q0]) rfl ?_
            obtain ⟨v_4274, e_4275, e⟩ := Option.bind_eq_some_iff.mp e
            refine Rn.hp hT rfl rfl (gR_hp e_4275) ?_
            obtain ⟨v_4276, e_4277, e⟩ := Option.bind_eq_some_iff.mp e
            refine Rn.hp hT rfl rfl (gR_hp e_4277) ?_
            refine Rn.n hT 2 (pc' := 42) (L' := [some (.ref q0), some (.int x1), some (.int x2), some (.int x3), none]) (st' := [.int x2, .int x1, .ref v_4276]) rfl ?_
            obtain ⟨_, e_4279, e⟩ := Option.bind_eq_some_iff.mp e
            obtain ⟨v_4280, e_4278, e⟩ := Option.bind_eq_some_iff.mp e
            refine Rn.call hT rfl rfl rfl (Nat.le_of_ble_eq_true rfl) (rcv_v gX1_sortOf (by omega) e_4279) (rX1_sortOf (by omega) e_4278 ?_)
            show Rn d _ _ 45 [some (.ref q0), some (.int x1), some (.int x2), some (.int x3), none] [.int v_4280] h Q
            refine Rn.n hT 3 (pc' := 50) (L' := [some (.ref q0), some (.int x1), some (.int x2), some (.int x3), some (.int v_4280)]) (st' := [.int x3, .int v_4280]) rfl ?_
            by_cases c_4281 : v_4280 = x3
            · rw [if_pos c_4281] at e
              refine Rn.bf hT rfl rfl rfl (decide_eq_false (fun z => z c_4281)) ?_
              refine Rn.n hT 1 (pc' := 55) (L' := [some (.ref q0), some (.int x1), some (.int x2), some (.int x3), some (.int v_4280)]) (st' := [.int (-2 : Int32)]) rfl ?_
              obtain rfl := Option.some.inj e
              exact Rn.ret hT rfl rfl rfl hq
            · rw [if_neg c_4281] at e
              refine Rn.bt hT rfl rfl rfl (decide_eq_true c_4281) ?_
              refine Rn.n hT 1 (pc' := 57) (L' := [some (.ref q0), some (.int x1), some (.int x2), some (.int x3), some (.int v_4280)]) (st' := [.ref q0]) rfl ?_
              obtain ⟨v_4282, e_4283, e⟩ := Option.bind_eq_some_iff.mp e
              refine Rn.hp hT rfl rfl (gR_hp e_4283) ?_
              obtain ⟨v_4284, e_4285, e⟩ := Option.bind_eq_some_iff.mp e
              refine Rn.hp hT rfl rfl (gR_hp e_4285) ?_
              refine Rn.n hT 3 (pc' := 66) (L' := [some (.ref q0), some (.int x1), some (.int x2), some (.int x3), some (.int v_4280)]) (st' := [.int x3, .int x2, .int x1, .ref v_4284]) rfl ?_
              obtain ⟨_, e_4287, e⟩ := Option.bind_eq_some_iff.mp e
              obtain ⟨h_4289, e_4286, e⟩ := Option.bind_eq_some_iff.mp e
              refine Rn.call hT rfl rfl rfl (Nat.le_of_ble_eq_true rfl) (rcv_v gX1_setSort (by omega) e_4287) (rX1_setSort (by omega) e_4286 ?_)
              show Rn d _ _ 69 [some (.ref q0), some (.int x1), some (.int x2), some (.int x3), some (.int v_4280)] [] h_4289 Q
              refine Rn.n hT 1 (pc' := 70) (L' := [some (.ref q0), some (.int x1), some (.int x2), some (.int x3), some (.int v_4280)]) (st' := [.ref q0]) rfl ?_
              obtain ⟨_, e_4291, e⟩ := Option.bind_eq_some_iff.mp e
              obtain ⟨h_4293, e_4290, e⟩ := Option.bind_eq_some_iff.mp e
              refine Rn.call hT rfl rfl rfl (Nat.le_of_ble_eq_true rfl) (rcv_v gX11_dayCame (by omega) e_4291) (rX11_dayCame (by omega) e_4290 ?_)
              show Rn d _ _ 73 [some (.ref q0), some (.int x1), some (.int x2), some (.int x3), some (.int v_4280)] [] h_4293 Q
              refine Rn.n hT 1 (pc' := 75) (L' := [some (.ref q0), some (.int x1), some (.int x2), some (.int x3), some (.int v_4280)]) (st' := [.int v_4280]) rfl ?_
              obtain rfl := Option.some.inj e
              exact Rn.ret hT rfl rfl rfl hq
          · rw [if_neg c_4273] at e
            refine Rn.bf hT rfl rfl rfl (decide_eq_false c_4273) ?_
            exact Rn.weak (ll_n (ll_n (ll_n (ll_n (ll_n ll_e))))) (rX11_brick_b30 hd hq e)
set_option maxRecDepth 10000 in
theorem hX11_lay : iv_Tb 150 tX11_lay := iv_tb_of (m := mX11_lay) rfl
set_option maxRecDepth 10000 in
theorem gX11_lay : PG.2 150 = some mX11_lay := iv_pi_of (t := tX11_lay) rfl (by decide)
def fX11_lay_b36 (N : Nat) (h : iv_H)   : Option (Int32 × iv_H) := (some ((-2 : Int32), h))
set_option maxRecDepth 10000 in
set_option maxHeartbeats 4000000 in
theorem rX11_lay_b36 {d N : Nat} (hd : 2 ≤ d) {h : iv_H}   {r : Int32 × iv_H} {Q : Option Value → iv_H → Prop} (hq : Q (some (.int r.1)) r.2) (e : fX11_lay_b36 N h   = some r) : Rn d 150 (some .int) 36 [none, none, none, none] [] h Q := by
  have hT := hX11_lay
  unfold fX11_lay_b36 at e
  refine Rn.n hT 1 (pc' := 38) (L' := [none, none, none, none]) (st' := [.int (-2 : Int32)]) rfl ?_
  obtain rfl := Option.some.inj e
  exact Rn.ret hT rfl rfl rfl hq
def fX11_lay_b39 (N : Nat) (h : iv_H) (q0 : Nat) (x1 : Int32) (x2 : Int32)  : Option (Int32 × iv_H) := ((gR h 11 4 q0).bind fun v_4308 => ((gR h 2 10 v_4308).bind fun v_4310 => ((aI h v_4310 x1).bind fun v_4312 => (if v_4312 = x2 then (some ((-2 : Int32), h)) else ((gR h 11 4 q0).bind fun v_4315 => ((gR h 2 10 v_4315).bind fun v_4317 => ((wI h v_4317 x1 x2).bind fun h_4319 => ((cko h_4319 q0 11).bind fun _ => (fX11_dayCame N h_4319 q0).bind fun h_4324 => (some (v_4312, h_4324))))))))))
set_option maxRecDepth 10000 in
set_option maxHeartbeats 4000000 in
theorem rX11_lay_b39 {d N : Nat} (hd : 2 ≤ d) {h : iv_H} {q0 : Nat} {x1 : Int32} {x2 : Int32}  {r : Int32 × iv_H} {Q : Option Value → iv_H → Prop} (hq : Q (some (.int r.1)) r.2) (e : fX11_lay_b39 N h q0 x1 x2  = some r) : Rn d 150 (some .int) 39 [some (.ref q0), some (.int x1), some (.int x2), none] [] h Q := by
  have hT := hX11_lay
  unfold fX11_lay_b39 at e
  refine Rn.n hT 1 (pc' := 40) (L' := [some (.ref q0), some (.int x1), some (.int x2), none]) (st' := [.ref q0]) rfl ?_
  obtain ⟨v_4308, e_4309, e⟩ := Option.bind_eq_some_iff.mp e
  refine Rn.hp hT rfl rfl (gR_hp e_4309) ?_
  obtain ⟨v_4310, e_4311, e⟩ := Option.bind_eq_some_iff.mp e
  refine Rn.hp hT rfl rfl (gR_hp e_4311) ?_
  refine Rn.n hT 1 (pc' := 47) (L' := [some (.ref q0), some (.int x1), some (.int x2), none]) (st' := [.int x1, .ref v_4310]) rfl ?_
  obtain ⟨v_4312, e_4313, e⟩ := Option.bind_eq_some_iff.mp e
  refine Rn.hp hT rfl rfl (aI_hp e_4313) ?_
  refine Rn.n hT 3 (pc' := 51) (L' := [some (.ref q0), some (.int x1), some (.int x2), some (.int v_4312)]) (st' := [.int x2, .int v_4312]) rfl ?_
  by_cases c_4314 : v_4312 = x2
  · rw [if_pos c_4314] at e
    refine Rn.bf hT rfl rfl rfl (decide_eq_false (fun z => z c_4314)) ?_
    refine Rn.n hT 1 (pc' := 56) (L' := [some (.ref q0), some (.int x1), some (.int x2), some (.int v_4312)]) (st' := [.int (-2 : Int32)]) rfl ?_
    obtain rfl := Option.some.inj e
    exact Rn.ret hT rfl rfl rfl hq
  · rw [if_neg c_4314] at e
    refine Rn.bt hT rfl rfl rfl (decide_eq_true c_4314) ?_
    refine Rn.n hT 1 (pc' := 58) (L' := [some (.ref q0), some (.int x1), some (.int x2), some (.int v_4312)]) (st' := [.ref q0]) rfl ?_
    obtain ⟨v_4315, e_4316, e⟩ := Option.bind_eq_some_iff.mp e
    refine Rn.hp hT rfl rfl (gR_hp e_4316) ?_
    obtain ⟨v_4317, e_4318, e⟩ := Option.bind_eq_some_iff.mp e
    refine Rn.hp hT rfl rfl (gR_hp e_4318) ?_
    refine Rn.n hT 2 (pc' := 66) (L' := [some (.ref q0), some (.int x1), some (.int x2), some (.int v_4312)]) (st' := [.int x2, .int x1, .ref v_4317]) rfl ?_
    obtain ⟨h_4319, e_4320, e⟩ := Option.bind_eq_some_iff.mp e
    refine Rn.hp hT rfl rfl (wI_hp e_4320) ?_
    refine Rn.n hT 1 (pc' := 68) (L' := [some (.ref q0), some (.int x1), some (.int x2), some (.int v_4312)]) (st' := [.ref q0]) rfl ?_
    obtain ⟨_, e_4322, e⟩ := Option.bind_eq_some_iff.mp e
    obtain ⟨h_4324, e_4321, e⟩ := Option.bind_eq_some_iff.mp e
    refine Rn.call hT rfl rfl rfl (Nat.le_of_ble_eq_true rfl) (rcv_v gX11_dayCame (by omega) e_4322) (rX11_dayCame (by omega) e_4321 ?_)
    show Rn d _ _ 71 [some (.ref q0), some (.int x1), some (.int x2), some (.int v_4312)] [] h_4324 Q
    refine Rn.n hT 1 (pc' := 72) (L' := [some (.ref q0), some (.int x1), some (.int x2), some (.int v_4312)]) (st' := [.int v_4312]) rfl ?_
    obtain rfl := Option.some.inj e
    exact Rn.ret hT rfl rfl rfl hq
def fX11_lay (N : Nat) (h : iv_H) (q0 : Nat) (x1 : Int32) (x2 : Int32) : Option (Int32 × iv_H) := ((gR h 11 4 q0).bind fun v_4294 => ((gI h 2 0 v_4294).bind fun v_4296 => (if v_4296 = 0 then (fX11_lay_b36 N h) else (if x1 < (1 : Int32) then (fX11_lay_b36 N h) else (if (4 : Int32) < x1 then (fX11_lay_b36 N h) else (if x2 = (-1 : Int32) then (fX11_lay_b39 N h q0 x1 x2) else ((gR h 11 4 q0).bind fun v_4302 => ((cko h v_4302 2).bind fun _ => (fX2_isRoom N h v_4302 x2).bind fun v_4306 => (if v_4306 = 0 then (fX11_lay_b36 N h) else (fX11_lay_b39 N h q0 x1 x2))))))))))
set_option maxRecDepth 10000 in
set_option maxHeartbeats 4000000 in
theorem rX11_lay {d N : Nat} (hd : 3 ≤ d) {h : iv_H} {q0 : Nat} {x1 : Int32} {x2 : Int32} {r : Int32 × iv_H} {Q : Option Value → iv_H → Prop} (e : fX11_lay N h q0 x1 x2 = some r) (hq : Q (some (.int r.1)) r.2) : Cl d 150 [.ref q0, .int x1, .int x2] h Q := by
  obtain ⟨d, rfl⟩ : ∃ k, d = k + 1 := ⟨d - 1, by omega⟩
  have hd : 2 ≤ d := by omega
  have hT := hX11_lay
  unfold fX11_lay at e
  refine Cl.into (by decide) gX11_lay rfl ?_
  show Rn d 150 (some .int) 0 [some (.ref q0), some (.int x1), some (.int x2), none] [] h Q
  refine Rn.n hT 1 (pc' := 1) (L' := [some (.ref q0), some (.int x1), some (.int x2), none]) (st' := [.ref q0]) rfl ?_
  obtain ⟨v_4294, e_4295, e⟩ := Option.bind_eq_some_iff.mp e
  refine Rn.hp hT rfl rfl (gR_hp e_4295) ?_
  obtain ⟨v_4296, e_4297, e⟩ := Option.bind_eq_some_iff.mp e
  refine Rn.hp hT rfl rfl (gI_hp e_4297) ?_
  by_cases c_4298 : v_4296 = 0
  · rw [if_pos c_4298] at e
    refine Rn.bt hT rfl rfl rfl (decide_eq_true c_4298) ?_
    exact Rn.weak (ll_n (ll_n (ll_n (ll_n ll_e)))) (rX11_lay_b36 hd hq e)
  · rw [if_neg c_4298] at e
    refine Rn.bf hT rfl rfl rfl (decide_eq_false c_4298) ?_
    refine Rn.n hT 2 (pc' := 12) (L' := [some (.ref q0), some (.int x1), some (.int x2), none]) (st' := [.int (1 : Int32), .int x1]) rfl ?_
    by_cases c_4299 : x1 < (1 : Int32)
    · rw [if_pos c_4299] at e
      refine Rn.bt hT rfl rfl rfl (decide_eq_true c_4299) ?_
      exact Rn.weak (ll_n (ll_n (ll_n (ll_n ll_e)))) (rX11_lay_b36 hd hq e)
    · rw [if_neg c_4299] at e
      refine Rn.bf hT rfl rfl rfl (decide_eq_false c_4299) ?_
      refine Rn.n hT 2 (pc' := 17) (L' := [some (.ref q0), some (.int x1), some (.int x2), none]) (st' := [.int (4 : Int32), .int x1]) rfl ?_
      by_cases c_4300 : (4 : Int32) < x1
      · rw [if_pos c_4300] at e
        refine Rn.bt hT rfl rfl rfl (decide_eq_true c_4300) ?_
        exact Rn.weak (ll_n (ll_n (ll_n (ll_n ll_e)))) (rX11_lay_b36 hd hq e)
      · rw [if_neg c_4300] at e
        refine Rn.bf hT rfl rfl rfl (decide_eq_false c_4300) ?_
        refine Rn.n hT 2 (pc' := 22) (L' := [some (.ref q0), some (.int x1), some (.int x2), none]) (st' := [.int (-1 : Int32), .int x2]) rfl ?_
        by_cases c_4301 : x2 = (-1 : Int32)
        · rw [if_pos c_4301] at e
          refine Rn.bt hT rfl rfl rfl (decide_eq_true c_4301) ?_
          exact Rn.weak (ll_s (ll_s (ll_s (ll_n ll_e)))) (rX11_lay_b39 hd hq e)
        · rw [if_neg c_4301] at e
          refine Rn.bf hT rfl rfl rfl (decide_eq_false c_4301) ?_
          refine Rn.n hT 1 (pc' := 26) (L' := [some (.ref q0), some (.int x1), some (.int x2), none]) (st' := [.ref q0]) rfl ?_
          obtain ⟨v_4302, e_4303, e⟩ := Option.bind_eq_some_iff.mp e
          refine Rn.hp hT rfl rfl (gR_hp e_4303) ?_
          refine Rn.n hT 1 (pc' := 30) (L' := [some (.ref q0), some (.int x1), some (.int x2), none]) (st' := [.int x2, .ref v_4302]) rfl ?_
          obtain ⟨_, e_4305, e⟩ := Option.bind_eq_some_iff.mp e
          obtain ⟨v_4306, e_4304, e⟩ := Option.bind_eq_some_iff.mp e
          refine Rn.call hT rfl rfl rfl (Nat.le_of_ble_eq_true rfl) (rcv_v gX2_isRoom (by omega) e_4305) (rX2_isRoom (by omega) e_4304 ?_)
          show Rn d _ _ 33 [some (.ref q0), some (.int x1), some (.int x2), none] [.int v_4306] h Q
          by_cases c_4307 : v_4306 = 0
          · rw [if_pos c_4307] at e
            refine Rn.bf hT rfl rfl rfl (decide_eq_false (fun z => z c_4307)) ?_
            exact Rn.weak (ll_n (ll_n (ll_n (ll_n ll_e)))) (rX11_lay_b36 hd hq e)
          · rw [if_neg c_4307] at e
            refine Rn.bt hT rfl rfl rfl (decide_eq_true c_4307) ?_
            exact Rn.weak (ll_s (ll_s (ll_s (ll_n ll_e)))) (rX11_lay_b39 hd hq e)
set_option maxRecDepth 10000 in
theorem hX11_bed : iv_Tb 151 tX11_bed := iv_tb_of (m := mX11_bed) rfl
set_option maxRecDepth 10000 in
theorem gX11_bed : PG.2 151 = some mX11_bed := iv_pi_of (t := tX11_bed) rfl (by decide)
def fX11_bed_b35 (N : Nat) (h : iv_H)   : Option (Int32 × iv_H) := (some ((-2 : Int32), h))
set_option maxRecDepth 10000 in
set_option maxHeartbeats 4000000 in
theorem rX11_bed_b35 {d N : Nat} (hd : 2 ≤ d) {h : iv_H}   {r : Int32 × iv_H} {Q : Option Value → iv_H → Prop} (hq : Q (some (.int r.1)) r.2) (e : fX11_bed_b35 N h   = some r) : Rn d 151 (some .int) 35 [none, none, none, none] [] h Q := by
  have hT := hX11_bed
  unfold fX11_bed_b35 at e
  refine Rn.n hT 1 (pc' := 37) (L' := [none, none, none, none]) (st' := [.int (-2 : Int32)]) rfl ?_
  obtain rfl := Option.some.inj e
  exact Rn.ret hT rfl rfl rfl hq
def fX11_bed (N : Nat) (h : iv_H) (q0 : Nat) (x1 : Int32) (x2 : Int32) : Option (Int32 × iv_H) := ((gR h 11 4 q0).bind fun v_4325 => ((cko h v_4325 2).bind fun _ => (fX2_isPerson N h v_4325 x1).bind fun v_4329 => (if v_4329 = 0 then (fX11_bed_b35 N h) else ((gR h 11 4 q0).bind fun v_4331 => ((cko h v_4331 2).bind fun _ => (fX2_isRoom N h v_4331 x2).bind fun v_4335 => (if v_4335 = 0 then (fX11_bed_b35 N h) else ((gR h 11 4 q0).bind fun v_4337 => ((gR h 2 11 v_4337).bind fun v_4339 => ((aI h v_4339 x1).bind fun v_4341 => (if v_4341 = x2 then (fX11_bed_b35 N h) else ((gR h 11 4 q0).bind fun v_4344 => ((gR h 2 11 v_4344).bind fun v_4346 => ((aI h v_4346 x1).bind fun v_4348 => ((gR h 11 4 q0).bind fun v_4350 => ((gR h 2 11 v_4350).bind fun v_4352 => ((wI h v_4352 x1 x2).bind fun h_4354 => ((cko h_4354 q0 11).bind fun _ => (fX11_dayCame N h_4354 q0).bind fun h_4359 => (some (v_4348, h_4359)))))))))))))))))))
set_option maxRecDepth 10000 in
set_option maxHeartbeats 4000000 in
theorem rX11_bed {d N : Nat} (hd : 3 ≤ d) {h : iv_H} {q0 : Nat} {x1 : Int32} {x2 : Int32} {r : Int32 × iv_H} {Q : Option Value → iv_H → Prop} (e : fX11_bed N h q0 x1 x2 = some r) (hq : Q (some (.int r.1)) r.2) : Cl d 151 [.ref q0, .int x1, .int x2] h Q := by
  obtain ⟨d, rfl⟩ : ∃ k, d = k + 1 := ⟨d - 1, by omega⟩
  have hd : 2 ≤ d := by omega
  have hT := hX11_bed
  unfold fX11_bed at e
  refine Cl.into (by decide) gX11_bed rfl ?_
  show Rn d 151 (some .int) 0 [some (.ref q0), some (.int x1), some (.int x2), none] [] h Q
  refine Rn.n hT 1 (pc' := 1) (L' := [some (.ref q0), some (.int x1), some (.int x2), none]) (st' := [.ref q0]) rfl ?_
  obtain ⟨v_4325, e_4326, e⟩ := Option.bind_eq_some_iff.mp e
  refine Rn.hp hT rfl rfl (gR_hp e_4326) ?_
  refine Rn.n hT 1 (pc' := 5) (L' := [some (.ref q0), some (.int x1), some (.int x2), none]) (st' := [.int x1, .ref v_4325]) rfl ?_
  obtain ⟨_, e_4328, e⟩ := Option.bind_eq_some_iff.mp e
  obtain ⟨v_4329, e_4327, e⟩ := Option.bind_eq_some_iff.mp e
  refine Rn.call hT rfl rfl rfl (Nat.le_of_ble_eq_true rfl) (rcv_v gX2_isPerson (by omega) e_4328) (rX2_isPerson (by omega) e_4327 ?_)
  show Rn d _ _ 8 [some (.ref q0), some (.int x1), some (.int x2), none] [.int v_4329] h Q
  by_cases c_4330 : v_4329 = 0
  · rw [if_pos c_4330] at e
    refine Rn.bt hT rfl rfl rfl (decide_eq_true c_4330) ?_
    exact Rn.weak (ll_n (ll_n (ll_n (ll_n ll_e)))) (rX11_bed_b35 hd hq e)
  · rw [if_neg c_4330] at e
    refine Rn.bf hT rfl rfl rfl (decide_eq_false c_4330) ?_
    refine Rn.n hT 1 (pc' := 12) (L' := [some (.ref q0), some (.int x1), some (.int x2), none]) (st' := [.ref q0]) rfl ?_
    obtain ⟨v_4331, e_4332, e⟩ := Option.bind_eq_some_iff.mp e
    refine Rn.hp hT rfl rfl (gR_hp e_4332) ?_
    refine Rn.n hT 1 (pc' := 16) (L' := [some (.ref q0), some (.int x1), some (.int x2), none]) (st' := [.int x2, .ref v_4331]) rfl ?_
    obtain ⟨_, e_4334, e⟩ := Option.bind_eq_some_iff.mp e
    obtain ⟨v_4335, e_4333, e⟩ := Option.bind_eq_some_iff.mp e
    refine Rn.call hT rfl rfl rfl (Nat.le_of_ble_eq_true rfl) (rcv_v gX2_isRoom (by omega) e_4334) (rX2_isRoom (by omega) e_4333 ?_)
    show Rn d _ _ 19 [some (.ref q0), some (.int x1), some (.int x2), none] [.int v_4335] h Q
    by_cases c_4336 : v_4335 = 0
    · rw [if_pos c_4336] at e
      refine Rn.bt hT rfl rfl rfl (decide_eq_true c_4336) ?_
      exact Rn.weak (ll_n (ll_n (ll_n (ll_n ll_e)))) (rX11_bed_b35 hd hq e)
    · rw [if_neg c_4336] at e
      refine Rn.bf hT rfl rfl rfl (decide_eq_false c_4336) ?_
      refine Rn.n hT 1 (pc' := 23) (L' := [some (.ref q0), some (.int x1), some (.int x2), none]) (st' := [.ref q0]) rfl ?_
      obtain ⟨v_4337, e_4338, e⟩ := Option.bind_eq_some_iff.mp e
      refine Rn.hp hT rfl rfl (gR_hp e_4338) ?_
      obtain ⟨v_4339, e_4340, e⟩ := Option.bind_eq_some_iff.mp e
      refine Rn.hp hT rfl rfl (gR_hp e_4340) ?_
      refine Rn.n hT 1 (pc' := 30) (L' := [some (.ref q0), some (.int x1), some (.int x2), none]) (st' := [.int x1, .ref v_4339]) rfl ?_
      obtain ⟨v_4341, e_4342, e⟩ := Option.bind_eq_some_iff.mp e
      refine Rn.hp hT rfl rfl (aI_hp e_4342) ?_
      refine Rn.n hT 1 (pc' := 32) (L' := [some (.ref q0), some (.int x1), some (.int x2), none]) (st' := [.int x2, .int v_4341]) rfl ?_
      by_cases c_4343 : v_4341 = x2
      · rw [if_pos c_4343] at e
        refine Rn.bf hT rfl rfl rfl (decide_eq_false (fun z => z c_4343)) ?_
        exact Rn.weak (ll_n (ll_n (ll_n (ll_n ll_e)))) (rX11_bed_b35 hd hq e)
      · rw [if_neg c_4343] at e
        refine Rn.bt hT rfl rfl rfl (decide_eq_true c_4343) ?_
        refine Rn.n hT 1 (pc' := 39) (L' := [some (.ref q0), some (.int x1), some (.int x2), none]) (st' := [.ref q0]) rfl ?_
        obtain ⟨v_4344, e_4345, e⟩ := Option.bind_eq_some_iff.mp e
        refine Rn.hp hT rfl rfl (gR_hp e_4345) ?_
        obtain ⟨v_4346, e_4347, e⟩ := Option.bind_eq_some_iff.mp e
        refine Rn.hp hT rfl rfl (gR_hp e_4347) ?_
        refine Rn.n hT 1 (pc' := 46) (L' := [some (.ref q0), some (.int x1), some (.int x2), none]) (st' := [.int x1, .ref v_4346]) rfl ?_
        obtain ⟨v_4348, e_4349, e⟩ := Option.bind_eq_some_iff.mp e
        refine Rn.hp hT rfl rfl (aI_hp e_4349) ?_
        refine Rn.n hT 2 (pc' := 49) (L' := [some (.ref q0), some (.int x1), some (.int x2), some (.int v_4348)]) (st' := [.ref q0]) rfl ?_
        obtain ⟨v_4350, e_4351, e⟩ := Option.bind_eq_some_iff.mp e
        refine Rn.hp hT rfl rfl (gR_hp e_4351) ?_
        obtain ⟨v_4352, e_4353, e⟩ := Option.bind_eq_some_iff.mp e
        refine Rn.hp hT rfl rfl (gR_hp e_4353) ?_
        refine Rn.n hT 2 (pc' := 57) (L' := [some (.ref q0), some (.int x1), some (.int x2), some (.int v_4348)]) (st' := [.int x2, .int x1, .ref v_4352]) rfl ?_
        obtain ⟨h_4354, e_4355, e⟩ := Option.bind_eq_some_iff.mp e
        refine Rn.hp hT rfl rfl (wI_hp e_4355) ?_
        refine Rn.n hT 1 (pc' := 59) (L' := [some (.ref q0), some (.int x1), some (.int x2), some (.int v_4348)]) (st' := [.ref q0]) rfl ?_
        obtain ⟨_, e_4357, e⟩ := Option.bind_eq_some_iff.mp e
        obtain ⟨h_4359, e_4356, e⟩ := Option.bind_eq_some_iff.mp e
        refine Rn.call hT rfl rfl rfl (Nat.le_of_ble_eq_true rfl) (rcv_v gX11_dayCame (by omega) e_4357) (rX11_dayCame (by omega) e_4356 ?_)
        show Rn d _ _ 62 [some (.ref q0), some (.int x1), some (.int x2), some (.int v_4348)] [] h_4359 Q
        refine Rn.n hT 1 (pc' := 63) (L' := [some (.ref q0), some (.int x1), some (.int x2), some (.int v_4348)]) (st' := [.int v_4348]) rfl ?_
        obtain rfl := Option.some.inj e
        exact Rn.ret hT rfl rfl rfl hq
set_option maxRecDepth 10000 in
theorem hX11_fix : iv_Tb 152 tX11_fix := iv_tb_of (m := mX11_fix) rfl
set_option maxRecDepth 10000 in
theorem gX11_fix : PG.2 152 = some mX11_fix := iv_pi_of (t := tX11_fix) rfl (by decide)
def fX11_fix_b23 (N : Nat) (h : iv_H)   : Option (Int32 × iv_H) := (some ((0 : Int32), h))
set_option maxRecDepth 10000 in
set_option maxHeartbeats 4000000 in
theorem rX11_fix_b23 {d N : Nat} (hd : 2 ≤ d) {h : iv_H}   {r : Int32 × iv_H} {Q : Option Value → iv_H → Prop} (hq : Q (some (.int r.1)) r.2) (e : fX11_fix_b23 N h   = some r) : Rn d 152 (some .boolean) 23 [none, none, none] [] h Q := by
  have hT := hX11_fix
  unfold fX11_fix_b23 at e
  refine Rn.n hT 1 (pc' := 24) (L' := [none, none, none]) (st' := [.int (0 : Int32)]) rfl ?_
  obtain rfl := Option.some.inj e
  exact Rn.ret hT rfl rfl rfl hq
def fX11_fix (N : Nat) (h : iv_H) (q0 : Nat) (x1 : Int32) (x2 : Int32) : Option (Int32 × iv_H) := ((gR h 11 4 q0).bind fun v_4360 => ((cko h v_4360 2).bind fun _ => (fX2_isRoom N h v_4360 x1).bind fun v_4364 => (if v_4364 = 0 then (fX11_fix_b23 N h) else ((gR h 11 4 q0).bind fun v_4366 => ((cko h v_4366 2).bind fun _ => (fX2_isFixed N h v_4366 x1).bind fun v_4370 => (if v_4370 = x2 then (fX11_fix_b23 N h) else ((gR h 11 4 q0).bind fun v_4372 => ((gI h 2 3 v_4372).bind fun v_4374 => ((pV h 2 3 v_4372 (.int (v_4374 ^^^ ((1 : Int32) <<< (x1 &&& 31))))).bind fun h_4376 => ((cko h_4376 q0 11).bind fun _ => (fX11_dayCame N h_4376 q0).bind fun h_4381 => (some ((1 : Int32), h_4381))))))))))))
set_option maxRecDepth 10000 in
set_option maxHeartbeats 4000000 in
theorem rX11_fix {d N : Nat} (hd : 3 ≤ d) {h : iv_H} {q0 : Nat} {x1 : Int32} {x2 : Int32} {r : Int32 × iv_H} {Q : Option Value → iv_H → Prop} (e : fX11_fix N h q0 x1 x2 = some r) (hq : Q (some (.int r.1)) r.2) : Cl d 152 [.ref q0, .int x1, .int x2] h Q := by
  obtain ⟨d, rfl⟩ : ∃ k, d = k + 1 := ⟨d - 1, by omega⟩
  have hd : 2 ≤ d := by omega
  have hT := hX11_fix
  unfold fX11_fix at e
  refine Cl.into (by decide) gX11_fix rfl ?_
  show Rn d 152 (some .boolean) 0 [some (.ref q0), some (.int x1), some (.int x2)] [] h Q
  refine Rn.n hT 1 (pc' := 1) (L' := [some (.ref q0), some (.int x1), some (.int x2)]) (st' := [.ref q0]) rfl ?_
  obtain ⟨v_4360, e_4361, e⟩ := Option.bind_eq_some_iff.mp e
  refine Rn.hp hT rfl rfl (gR_hp e_4361) ?_
  refine Rn.n hT 1 (pc' := 5) (L' := [some (.ref q0), some (.int x1), some (.int x2)]) (st' := [.int x1, .ref v_4360]) rfl ?_
  obtain ⟨_, e_4363, e⟩ := Option.bind_eq_some_iff.mp e
  obtain ⟨v_4364, e_4362, e⟩ := Option.bind_eq_some_iff.mp e
  refine Rn.call hT rfl rfl rfl (Nat.le_of_ble_eq_true rfl) (rcv_v gX2_isRoom (by omega) e_4363) (rX2_isRoom (by omega) e_4362 ?_)
  show Rn d _ _ 8 [some (.ref q0), some (.int x1), some (.int x2)] [.int v_4364] h Q
  by_cases c_4365 : v_4364 = 0
  · rw [if_pos c_4365] at e
    refine Rn.bt hT rfl rfl rfl (decide_eq_true c_4365) ?_
    exact Rn.weak (ll_n (ll_n (ll_n ll_e))) (rX11_fix_b23 hd hq e)
  · rw [if_neg c_4365] at e
    refine Rn.bf hT rfl rfl rfl (decide_eq_false c_4365) ?_
    refine Rn.n hT 1 (pc' := 12) (L' := [some (.ref q0), some (.int x1), some (.int x2)]) (st' := [.ref q0]) rfl ?_
    obtain ⟨v_4366, e_4367, e⟩ := Option.bind_eq_some_iff.mp e
    refine Rn.hp hT rfl rfl (gR_hp e_4367) ?_
    refine Rn.n hT 1 (pc' := 16) (L' := [some (.ref q0), some (.int x1), some (.int x2)]) (st' := [.int x1, .ref v_4366]) rfl ?_
    obtain ⟨_, e_4369, e⟩ := Option.bind_eq_some_iff.mp e
    obtain ⟨v_4370, e_4368, e⟩ := Option.bind_eq_some_iff.mp e
    refine Rn.call hT rfl rfl rfl (Nat.le_of_ble_eq_true rfl) (rcv_v gX2_isFixed (by omega) e_4369) (rX2_isFixed (by omega) e_4368 ?_)
    show Rn d _ _ 19 [some (.ref q0), some (.int x1), some (.int x2)] [.int v_4370] h Q
    refine Rn.n hT 1 (pc' := 20) (L' := [some (.ref q0), some (.int x1), some (.int x2)]) (st' := [.int x2, .int v_4370]) rfl ?_
    by_cases c_4371 : v_4370 = x2
    · rw [if_pos c_4371] at e
      refine Rn.bf hT rfl rfl rfl (decide_eq_false (fun z => z c_4371)) ?_
      exact Rn.weak (ll_n (ll_n (ll_n ll_e))) (rX11_fix_b23 hd hq e)
    · rw [if_neg c_4371] at e
      refine Rn.bt hT rfl rfl rfl (decide_eq_true c_4371) ?_
      refine Rn.n hT 1 (pc' := 26) (L' := [some (.ref q0), some (.int x1), some (.int x2)]) (st' := [.ref q0]) rfl ?_
      obtain ⟨v_4372, e_4373, e⟩ := Option.bind_eq_some_iff.mp e
      refine Rn.hp hT rfl rfl (gR_hp e_4373) ?_
      refine Rn.n hT 1 (pc' := 30) (L' := [some (.ref q0), some (.int x1), some (.int x2)]) (st' := [.ref v_4372, .ref v_4372]) rfl ?_
      obtain ⟨v_4374, e_4375, e⟩ := Option.bind_eq_some_iff.mp e
      refine Rn.hp hT rfl rfl (gI_hp e_4375) ?_
      refine Rn.n hT 4 (pc' := 37) (L' := [some (.ref q0), some (.int x1), some (.int x2)]) (st' := [.int (v_4374 ^^^ ((1 : Int32) <<< (x1 &&& 31))), .ref v_4372]) rfl ?_
      obtain ⟨h_4376, e_4377, e⟩ := Option.bind_eq_some_iff.mp e
      refine Rn.hp hT rfl rfl (pV_hp rfl e_4377) ?_
      refine Rn.n hT 1 (pc' := 41) (L' := [some (.ref q0), some (.int x1), some (.int x2)]) (st' := [.ref q0]) rfl ?_
      obtain ⟨_, e_4379, e⟩ := Option.bind_eq_some_iff.mp e
      obtain ⟨h_4381, e_4378, e⟩ := Option.bind_eq_some_iff.mp e
      refine Rn.call hT rfl rfl rfl (Nat.le_of_ble_eq_true rfl) (rcv_v gX11_dayCame (by omega) e_4379) (rX11_dayCame (by omega) e_4378 ?_)
      show Rn d _ _ 44 [some (.ref q0), some (.int x1), some (.int x2)] [] h_4381 Q
      refine Rn.n hT 1 (pc' := 45) (L' := [some (.ref q0), some (.int x1), some (.int x2)]) (st' := [.int (1 : Int32)]) rfl ?_
      obtain rfl := Option.some.inj e
      exact Rn.ret hT rfl rfl rfl hq
set_option maxRecDepth 10000 in
theorem hX11_nightComes : iv_Tb 155 tX11_nightComes := iv_tb_of (m := mX11_nightComes) rfl
set_option maxRecDepth 10000 in
theorem gX11_nightComes : PG.2 155 = some mX11_nightComes := iv_pi_of (t := tX11_nightComes) rfl (by decide)
def fX11_nightComes_b23 (N : Nat) (h : iv_H) (q0 : Nat)  : Option (iv_H) := ((gR h 11 4 q0).bind fun v_4397 => ((gI h 2 6 v_4397).bind fun v_4399 => ((pV h 2 6 v_4397 (.int (v_4399 + (1 : Int32)))).bind fun h_4401 => ((gI h_4401 11 15 q0).bind fun v_4403 => ((pV h_4401 11 15 q0 (.int (v_4403 + (1 : Int32)))).bind fun h_4405 => some h_4405)))))
set_option maxRecDepth 10000 in
set_option maxHeartbeats 4000000 in
theorem rX11_nightComes_b23 {d N : Nat} (hd : 3 ≤ d) {h : iv_H} {q0 : Nat}  {r : iv_H} {Q : Option Value → iv_H → Prop} (hq : Q none r) (e : fX11_nightComes_b23 N h q0  = some r) : Rn d 155 none 23 [some (.ref q0), none] [] h Q := by
  have hT := hX11_nightComes
  unfold fX11_nightComes_b23 at e
  refine Rn.n hT 1 (pc' := 24) (L' := [some (.ref q0), none]) (st' := [.ref q0]) rfl ?_
  obtain ⟨v_4397, e_4398, e⟩ := Option.bind_eq_some_iff.mp e
  refine Rn.hp hT rfl rfl (gR_hp e_4398) ?_
  refine Rn.n hT 1 (pc' := 28) (L' := [some (.ref q0), none]) (st' := [.ref v_4397, .ref v_4397]) rfl ?_
  obtain ⟨v_4399, e_4400, e⟩ := Option.bind_eq_some_iff.mp e
  refine Rn.hp hT rfl rfl (gI_hp e_4400) ?_
  refine Rn.n hT 2 (pc' := 33) (L' := [some (.ref q0), none]) (st' := [.int (v_4399 + (1 : Int32)), .ref v_4397]) rfl ?_
  obtain ⟨h_4401, e_4402, e⟩ := Option.bind_eq_some_iff.mp e
  refine Rn.hp hT rfl rfl (pV_hp rfl e_4402) ?_
  refine Rn.n hT 2 (pc' := 38) (L' := [some (.ref q0), none]) (st' := [.ref q0, .ref q0]) rfl ?_
  obtain ⟨v_4403, e_4404, e⟩ := Option.bind_eq_some_iff.mp e
  refine Rn.hp hT rfl rfl (gI_hp e_4404) ?_
  refine Rn.n hT 2 (pc' := 43) (L' := [some (.ref q0), none]) (st' := [.int (v_4403 + (1 : Int32)), .ref q0]) rfl ?_
  obtain ⟨h_4405, e_4406, e⟩ := Option.bind_eq_some_iff.mp e
  refine Rn.hp hT rfl rfl (pV_hp rfl e_4406) ?_
  obtain rfl := Option.some.inj e
  exact Rn.ret hT rfl rfl rfl hq
def fX11_nightComes (N : Nat) (h : iv_H) (q0 : Nat) (x1 : Int32) : Option (iv_H) := ((gR h 11 4 q0).bind fun v_4382 => ((cko h v_4382 2).bind fun _ => (fX2_keepPast N h v_4382).bind fun h_4387 => (if x1 = (-1 : Int32) then (fX11_nightComes_b23 N h_4387 q0) else ((gR h_4387 11 4 q0).bind fun v_4389 => ((gR h_4387 2 9 v_4389).bind fun v_4391 => ((cko h_4387 v_4391 1).bind fun _ => (fX1_go N h_4387 v_4391 x1).bind fun h_4396 => (fX11_nightComes_b23 N h_4396 q0)))))))
set_option maxRecDepth 10000 in
set_option maxHeartbeats 4000000 in
theorem rX11_nightComes {d N : Nat} (hd : 4 ≤ d) {h : iv_H} {q0 : Nat} {x1 : Int32} {r : iv_H} {Q : Option Value → iv_H → Prop} (e : fX11_nightComes N h q0 x1 = some r) (hq : Q none r) : Cl d 155 [.ref q0, .int x1] h Q := by
  obtain ⟨d, rfl⟩ : ∃ k, d = k + 1 := ⟨d - 1, by omega⟩
  have hd : 3 ≤ d := by omega
  have hT := hX11_nightComes
  unfold fX11_nightComes at e
  refine Cl.into (by decide) gX11_nightComes rfl ?_
  show Rn d 155 none 0 [some (.ref q0), some (.int x1)] [] h Q
  refine Rn.n hT 1 (pc' := 1) (L' := [some (.ref q0), some (.int x1)]) (st' := [.ref q0]) rfl ?_
  obtain ⟨v_4382, e_4383, e⟩ := Option.bind_eq_some_iff.mp e
  refine Rn.hp hT rfl rfl (gR_hp e_4383) ?_
  obtain ⟨_, e_4385, e⟩ := Option.bind_eq_some_iff.mp e
  obtain ⟨h_4387, e_4384, e⟩ := Option.bind_eq_some_iff.mp e
  refine Rn.call hT rfl rfl rfl (Nat.le_of_ble_eq_true rfl) (rcv_v gX2_keepPast (by omega) e_4385) (rX2_keepPast (by omega) e_4384 ?_)
  show Rn d _ _ 7 [some (.ref q0), some (.int x1)] [] h_4387 Q
  refine Rn.n hT 2 (pc' := 9) (L' := [some (.ref q0), some (.int x1)]) (st' := [.int (-1 : Int32), .int x1]) rfl ?_
  by_cases c_4388 : x1 = (-1 : Int32)
  · rw [if_pos c_4388] at e
    refine Rn.bt hT rfl rfl rfl (decide_eq_true c_4388) ?_
    exact Rn.weak (ll_s (ll_n ll_e)) (rX11_nightComes_b23 hd hq e)
  · rw [if_neg c_4388] at e
    refine Rn.bf hT rfl rfl rfl (decide_eq_false c_4388) ?_
    refine Rn.n hT 1 (pc' := 13) (L' := [some (.ref q0), some (.int x1)]) (st' := [.ref q0]) rfl ?_
    obtain ⟨v_4389, e_4390, e⟩ := Option.bind_eq_some_iff.mp e
    refine Rn.hp hT rfl rfl (gR_hp e_4390) ?_
    obtain ⟨v_4391, e_4392, e⟩ := Option.bind_eq_some_iff.mp e
    refine Rn.hp hT rfl rfl (gR_hp e_4392) ?_
    refine Rn.n hT 1 (pc' := 20) (L' := [some (.ref q0), some (.int x1)]) (st' := [.int x1, .ref v_4391]) rfl ?_
    obtain ⟨_, e_4394, e⟩ := Option.bind_eq_some_iff.mp e
    obtain ⟨h_4396, e_4393, e⟩ := Option.bind_eq_some_iff.mp e
    refine Rn.call hT rfl rfl rfl (Nat.le_of_ble_eq_true rfl) (rcv_v gX1_go (by omega) e_4394) (rX1_go (by omega) e_4393 ?_)
    show Rn d _ _ 23 [some (.ref q0), some (.int x1)] [] h_4396 Q
    exact Rn.weak (ll_s (ll_n ll_e)) (rX11_nightComes_b23 hd hq e)
set_option maxRecDepth 10000 in
theorem hX11_walk : iv_Tb 153 tX11_walk := iv_tb_of (m := mX11_walk) rfl
set_option maxRecDepth 10000 in
theorem gX11_walk : PG.2 153 = some mX11_walk := iv_pi_of (t := tX11_walk) rfl (by decide)
def fX11_walk (N : Nat) (h : iv_H) (q0 : Nat) (x1 : Int32) (x2 : Int32) (x3 : Int32) : Option (Int32 × iv_H) := ((gR h 11 4 q0).bind fun v_4407 => ((cko h v_4407 2).bind fun _ => (fX2_walkOf N h v_4407 x1 x2 x3).bind fun v_4411 => (if v_4411 = (-1 : Int32) then (some ((-1 : Int32), h)) else ((gR h 11 9 q0).bind fun v_4413 => ((gR h 11 4 q0).bind fun v_4415 => ((gR h 11 4 q0).bind fun v_4417 => ((gR h 2 9 v_4417).bind fun v_4419 => ((cko h q0 11).bind fun _ => (fX11_ruleInForce N h q0).bind fun v_4423 => ((cko h v_4413 3).bind fun _ => (fX3_open N h v_4413 v_4415 v_4419 v_4423).bind fun h_4427 => ((gR h_4427 11 9 q0).bind fun v_4428 => ((cko h_4427 v_4428 3).bind fun _ => (fX3_broken N h_4427 v_4428 v_4411).bind fun p_4443 => (fun (v_4432 : Int32) (h_4433 : iv_H) => (if v_4432 = 0 then ((cko h_4433 q0 11).bind fun _ => (fX11_nightComes N h_4433 q0 v_4411).bind fun h_4438 => ((gR h_4438 11 4 q0).bind fun v_4439 => ((gI h_4438 2 6 v_4439).bind fun v_4441 => (some (v_4441, h_4438))))) else (some (((-2 : Int32) - v_4432), h_4433)))) p_4443.1 p_4443.2)))))))))))
set_option maxRecDepth 10000 in
set_option maxHeartbeats 4000000 in
theorem rX11_walk {d N : Nat} (hd : 5 ≤ d) {h : iv_H} {q0 : Nat} {x1 : Int32} {x2 : Int32} {x3 : Int32} {r : Int32 × iv_H} {Q : Option Value → iv_H → Prop} (e : fX11_walk N h q0 x1 x2 x3 = some r) (hq : Q (some (.int r.1)) r.2) : Cl d 153 [.ref q0, .int x1, .int x2, .int x3] h Q := by
  obtain ⟨d, rfl⟩ : ∃ k, d = k + 1 := ⟨d - 1, by omega⟩
  have hd : 4 ≤ d := by omega
  have hT := hX11_walk
  unfold fX11_walk at e
  refine Cl.into (by decide) gX11_walk rfl ?_
  show Rn d 153 (some .int) 0 [some (.ref q0), some (.int x1), some (.int x2), some (.int x3), none, none] [] h Q
  refine Rn.n hT 1 (pc' := 1) (L' := [some (.ref q0), some (.int x1), some (.int x2), some (.int x3), none, none]) (st' := [.ref q0]) rfl ?_
  obtain ⟨v_4407, e_4408, e⟩ := Option.bind_eq_some_iff.mp e
  refine Rn.hp hT rfl rfl (gR_hp e_4408) ?_
  refine Rn.n hT 3 (pc' := 7) (L' := [some (.ref q0), some (.int x1), some (.int x2), some (.int x3), none, none]) (st' := [.int x3, .int x2, .int x1, .ref v_4407]) rfl ?_
  obtain ⟨_, e_4410, e⟩ := Option.bind_eq_some_iff.mp e
  obtain ⟨v_4411, e_4409, e⟩ := Option.bind_eq_some_iff.mp e
  refine Rn.call hT rfl rfl rfl (Nat.le_of_ble_eq_true rfl) (rcv_v gX2_walkOf (by omega) e_4410) (rX2_walkOf (by omega) e_4409 ?_)
  show Rn d _ _ 10 [some (.ref q0), some (.int x1), some (.int x2), some (.int x3), none, none] [.int v_4411] h Q
  refine Rn.n hT 3 (pc' := 15) (L' := [some (.ref q0), some (.int x1), some (.int x2), some (.int x3), some (.int v_4411), none]) (st' := [.int (-1 : Int32), .int v_4411]) rfl ?_
  by_cases c_4412 : v_4411 = (-1 : Int32)
  · rw [if_pos c_4412] at e
    refine Rn.bf hT rfl rfl rfl (decide_eq_false (fun z => z c_4412)) ?_
    refine Rn.n hT 1 (pc' := 19) (L' := [some (.ref q0), some (.int x1), some (.int x2), some (.int x3), some (.int v_4411), none]) (st' := [.int (-1 : Int32)]) rfl ?_
    obtain rfl := Option.some.inj e
    exact Rn.ret hT rfl rfl rfl hq
  · rw [if_neg c_4412] at e
    refine Rn.bt hT rfl rfl rfl (decide_eq_true c_4412) ?_
    refine Rn.n hT 1 (pc' := 21) (L' := [some (.ref q0), some (.int x1), some (.int x2), some (.int x3), some (.int v_4411), none]) (st' := [.ref q0]) rfl ?_
    obtain ⟨v_4413, e_4414, e⟩ := Option.bind_eq_some_iff.mp e
    refine Rn.hp hT rfl rfl (gR_hp e_4414) ?_
    refine Rn.n hT 1 (pc' := 25) (L' := [some (.ref q0), some (.int x1), some (.int x2), some (.int x3), some (.int v_4411), none]) (st' := [.ref q0, .ref v_4413]) rfl ?_
    obtain ⟨v_4415, e_4416, e⟩ := Option.bind_eq_some_iff.mp e
    refine Rn.hp hT rfl rfl (gR_hp e_4416) ?_
    refine Rn.n hT 1 (pc' := 29) (L' := [some (.ref q0), some (.int x1), some (.int x2), some (.int x3), some (.int v_4411), none]) (st' := [.ref q0, .ref v_4415, .ref v_4413]) rfl ?_
    obtain ⟨v_4417, e_4418, e⟩ := Option.bind_eq_some_iff.mp e
    refine Rn.hp hT rfl rfl (gR_hp e_4418) ?_
    obtain ⟨v_4419, e_4420, e⟩ := Option.bind_eq_some_iff.mp e
    refine Rn.hp hT rfl rfl (gR_hp e_4420) ?_
    refine Rn.n hT 1 (pc' := 36) (L' := [some (.ref q0), some (.int x1), some (.int x2), some (.int x3), some (.int v_4411), none]) (st' := [.ref q0, .ref v_4419, .ref v_4415, .ref v_4413]) rfl ?_
    obtain ⟨_, e_4422, e⟩ := Option.bind_eq_some_iff.mp e
    obtain ⟨v_4423, e_4421, e⟩ := Option.bind_eq_some_iff.mp e
    refine Rn.call hT rfl rfl rfl (Nat.le_of_ble_eq_true rfl) (rcv_v gX11_ruleInForce (by omega) e_4422) (rX11_ruleInForce (by omega) e_4421 ?_)
    show Rn d _ _ 39 [some (.ref q0), some (.int x1), some (.int x2), some (.int x3), some (.int v_4411), none] [iv_rf v_4423, .ref v_4419, .ref v_4415, .ref v_4413] h Q
    obtain ⟨_, e_4425, e⟩ := Option.bind_eq_some_iff.mp e
    obtain ⟨h_4427, e_4424, e⟩ := Option.bind_eq_some_iff.mp e
    refine Rn.call hT rfl rfl rfl (Nat.le_of_ble_eq_true rfl) (rcv_v gX3_open (by omega) e_4425) (rX3_open (by omega) e_4424 ?_)
    show Rn d _ _ 42 [some (.ref q0), some (.int x1), some (.int x2), some (.int x3), some (.int v_4411), none] [] h_4427 Q
    refine Rn.n hT 1 (pc' := 43) (L' := [some (.ref q0), some (.int x1), some (.int x2), some (.int x3), some (.int v_4411), none]) (st' := [.ref q0]) rfl ?_
    obtain ⟨v_4428, e_4429, e⟩ := Option.bind_eq_some_iff.mp e
    refine Rn.hp hT rfl rfl (gR_hp e_4429) ?_
    refine Rn.n hT 1 (pc' := 48) (L' := [some (.ref q0), some (.int x1), some (.int x2), some (.int x3), some (.int v_4411), none]) (st' := [.int v_4411, .ref v_4428]) rfl ?_
    obtain ⟨_, e_4431, e⟩ := Option.bind_eq_some_iff.mp e
    obtain ⟨⟨v_4432, h_4433⟩, e_4430, e⟩ := Option.bind_eq_some_iff.mp e
    try dsimp only at e
    try dsimp only at e
    refine Rn.call hT rfl rfl rfl (Nat.le_of_ble_eq_true rfl) (rcv_v gX3_broken (by omega) e_4431) (rX3_broken (by omega) e_4430 ?_)
    show Rn d _ _ 51 [some (.ref q0), some (.int x1), some (.int x2), some (.int x3), some (.int v_4411), none] [.int v_4432] h_4433 Q
    refine Rn.n hT 2 (pc' := 55) (L' := [some (.ref q0), some (.int x1), some (.int x2), some (.int x3), some (.int v_4411), some (.int v_4432)]) (st' := [.int v_4432]) rfl ?_
    by_cases c_4434 : v_4432 = 0
    · rw [if_pos c_4434] at e
      refine Rn.bt hT rfl rfl rfl (decide_eq_true c_4434) ?_
      refine Rn.n hT 2 (pc' := 67) (L' := [some (.ref q0), some (.int x1), some (.int x2), some (.int x3), some (.int v_4411), some (.int v_4432)]) (st' := [.int v_4411, .ref q0]) rfl ?_
      obtain ⟨_, e_4436, e⟩ := Option.bind_eq_some_iff.mp e
      obtain ⟨h_4438, e_4435, e⟩ := Option.bind_eq_some_iff.mp e
      refine Rn.call hT rfl rfl rfl (Nat.le_of_ble_eq_true rfl) (rcv_v gX11_nightComes (by omega) e_4436) (rX11_nightComes (by omega) e_4435 ?_)
      show Rn d _ _ 70 [some (.ref q0), some (.int x1), some (.int x2), some (.int x3), some (.int v_4411), some (.int v_4432)] [] h_4438 Q
      refine Rn.n hT 1 (pc' := 71) (L' := [some (.ref q0), some (.int x1), some (.int x2), some (.int x3), some (.int v_4411), some (.int v_4432)]) (st' := [.ref q0]) rfl ?_
      obtain ⟨v_4439, e_4440, e⟩ := Option.bind_eq_some_iff.mp e
      refine Rn.hp hT rfl rfl (gR_hp e_4440) ?_
      obtain ⟨v_4441, e_4442, e⟩ := Option.bind_eq_some_iff.mp e
      refine Rn.hp hT rfl rfl (gI_hp e_4442) ?_
      obtain rfl := Option.some.inj e
      exact Rn.ret hT rfl rfl rfl hq
    · rw [if_neg c_4434] at e
      refine Rn.bf hT rfl rfl rfl (decide_eq_false c_4434) ?_
      refine Rn.n hT 3 (pc' := 63) (L' := [some (.ref q0), some (.int x1), some (.int x2), some (.int x3), some (.int v_4411), some (.int v_4432)]) (st' := [.int ((-2 : Int32) - v_4432)]) rfl ?_
      obtain rfl := Option.some.inj e
      exact Rn.ret hT rfl rfl rfl hq
set_option maxRecDepth 10000 in
theorem hX11_rest : iv_Tb 154 tX11_rest := iv_tb_of (m := mX11_rest) rfl
set_option maxRecDepth 10000 in
theorem gX11_rest : PG.2 154 = some mX11_rest := iv_pi_of (t := tX11_rest) rfl (by decide)
def fX11_rest (N : Nat) (h : iv_H) (q0 : Nat) : Option (Int32 × iv_H) := ((gR h 11 4 q0).bind fun v_4444 => ((gI h 2 0 v_4444).bind fun v_4446 => (if v_4446 = 0 then (some ((-1 : Int32), h)) else ((cko h q0 11).bind fun _ => (fX11_nightComes N h q0 (-1 : Int32)).bind fun h_4452 => ((gR h_4452 11 4 q0).bind fun v_4453 => ((gI h_4452 2 6 v_4453).bind fun v_4455 => (some (v_4455, h_4452))))))))
set_option maxRecDepth 10000 in
set_option maxHeartbeats 4000000 in
theorem rX11_rest {d N : Nat} (hd : 5 ≤ d) {h : iv_H} {q0 : Nat} {r : Int32 × iv_H} {Q : Option Value → iv_H → Prop} (e : fX11_rest N h q0 = some r) (hq : Q (some (.int r.1)) r.2) : Cl d 154 [.ref q0] h Q := by
  obtain ⟨d, rfl⟩ : ∃ k, d = k + 1 := ⟨d - 1, by omega⟩
  have hd : 4 ≤ d := by omega
  have hT := hX11_rest
  unfold fX11_rest at e
  refine Cl.into (by decide) gX11_rest rfl ?_
  show Rn d 154 (some .int) 0 [some (.ref q0)] [] h Q
  refine Rn.n hT 1 (pc' := 1) (L' := [some (.ref q0)]) (st' := [.ref q0]) rfl ?_
  obtain ⟨v_4444, e_4445, e⟩ := Option.bind_eq_some_iff.mp e
  refine Rn.hp hT rfl rfl (gR_hp e_4445) ?_
  obtain ⟨v_4446, e_4447, e⟩ := Option.bind_eq_some_iff.mp e
  refine Rn.hp hT rfl rfl (gI_hp e_4447) ?_
  by_cases c_4448 : v_4446 = 0
  · rw [if_pos c_4448] at e
    refine Rn.bf hT rfl rfl rfl (decide_eq_false (fun z => z c_4448)) ?_
    refine Rn.n hT 1 (pc' := 11) (L' := [some (.ref q0)]) (st' := [.int (-1 : Int32)]) rfl ?_
    obtain rfl := Option.some.inj e
    exact Rn.ret hT rfl rfl rfl hq
  · rw [if_neg c_4448] at e
    refine Rn.bt hT rfl rfl rfl (decide_eq_true c_4448) ?_
    refine Rn.n hT 2 (pc' := 14) (L' := [some (.ref q0)]) (st' := [.int (-1 : Int32), .ref q0]) rfl ?_
    obtain ⟨_, e_4450, e⟩ := Option.bind_eq_some_iff.mp e
    obtain ⟨h_4452, e_4449, e⟩ := Option.bind_eq_some_iff.mp e
    refine Rn.call hT rfl rfl rfl (Nat.le_of_ble_eq_true rfl) (rcv_v gX11_nightComes (by omega) e_4450) (rX11_nightComes (by omega) e_4449 ?_)
    show Rn d _ _ 17 [some (.ref q0)] [] h_4452 Q
    refine Rn.n hT 1 (pc' := 18) (L' := [some (.ref q0)]) (st' := [.ref q0]) rfl ?_
    obtain ⟨v_4453, e_4454, e⟩ := Option.bind_eq_some_iff.mp e
    refine Rn.hp hT rfl rfl (gR_hp e_4454) ?_
    obtain ⟨v_4455, e_4456, e⟩ := Option.bind_eq_some_iff.mp e
    refine Rn.hp hT rfl rfl (gI_hp e_4456) ?_
    obtain rfl := Option.some.inj e
    exact Rn.ret hT rfl rfl rfl hq
