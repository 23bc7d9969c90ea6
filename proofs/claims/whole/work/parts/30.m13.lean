-- MIRRORS, 13 (written by wip/whole/mir.py)
set_option maxRecDepth 10000 in
theorem hX12_findsRows : iv_Tb 332 tX12_findsRows := iv_tb_of (m := mX12_findsRows) rfl
set_option maxRecDepth 10000 in
theorem gX12_findsRows : PG.2 332 = some mX12_findsRows := iv_pi_of (t := tX12_findsRows) rfl (by decide)
def fX12_findsRows_l7 (N : Nat) (q0 : Nat) (x1 : Int32) (kx : iv_H → Option (iv_H)) : Nat → iv_H → Int32 → Option (iv_H)
  | 0, _, _ => none
  | n + 1, h, x2 => (if (3 : Int32) < x2 then (kx h) else ((gR h 12 77 q0).bind fun v_9770 => ((wI h v_9770 x2 (0 : Int32)).bind fun h_9772 => (fX12_findsRows_l7 N q0 x1 kx n h_9772 (x2 + (1 : Int32))))))
set_option maxRecDepth 10000 in
set_option maxHeartbeats 4000000 in
theorem rX12_findsRows_l7 {d N : Nat} (hd : 8 ≤ d) {q0 : Nat} {x1 : Int32} {kx : iv_H → Option (iv_H)} {r : iv_H} {Q : Option Value → iv_H → Prop} (hk : ∀ (h : iv_H), kx h = some r → Rn d 332 none 25 [some (.ref q0), some (.int x1), none] [] h Q) (hq : Q none r) : ∀ (n : Nat) (h : iv_H) (x2 : Int32), fX12_findsRows_l7 N q0 x1 kx n h x2 = some r → Rn d 332 none 7 [some (.ref q0), some (.int x1), some (.int x2)] [] h Q := by
  have hT := hX12_findsRows
  intro n
  induction n with
  | zero =>
    intro h x2 e
    rw [fX12_findsRows_l7] at e
    cases e
  | succ n ih =>
    intro h x2 e
    rw [fX12_findsRows_l7] at e
    refine Rn.n hT 2 (pc' := 9) (L' := [some (.ref q0), some (.int x1), some (.int x2)]) (st' := [.int (3 : Int32), .int x2]) rfl ?_
    by_cases c_9769 : (3 : Int32) < x2
    · rw [if_pos c_9769] at e
      refine Rn.bt hT rfl rfl rfl (decide_eq_true c_9769) ?_
      exact Rn.weak (ll_s (ll_s (ll_n ll_e))) (hk h e)
    · rw [if_neg c_9769] at e
      refine Rn.bf hT rfl rfl rfl (decide_eq_false c_9769) ?_
      refine Rn.n hT 1 (pc' := 13) (L' := [some (.ref q0), some (.int x1), some (.int x2)]) (st' := [.ref q0]) rfl ?_
      obtain ⟨v_9770, e_9771, e⟩ := Option.bind_eq_some_iff.mp e
      refine Rn.hp hT rfl rfl (gR_hp e_9771) ?_
      refine Rn.n hT 2 (pc' := 18) (L' := [some (.ref q0), some (.int x1), some (.int x2)]) (st' := [.int (0 : Int32), .int x2, .ref v_9770]) rfl ?_
      obtain ⟨h_9772, e_9773, e⟩ := Option.bind_eq_some_iff.mp e
      refine Rn.hp hT rfl rfl (wI_hp e_9773) ?_
      refine Rn.n hT 2 (pc' := 7) (L' := [some (.ref q0), some (.int x1), some (.int (x2 + (1 : Int32)))]) (st' := []) rfl ?_
      exact Rn.weak (ll_s (ll_s (ll_s ll_e))) (ih h_9772 (x2 + (1 : Int32)) e)
def fX12_findsRows_b62 (N : Nat) (h : iv_H) (q0 : Nat) (x1 : Int32) (x2 : Int32)  (kb : iv_H → Int32 → Option (iv_H)) (kx : iv_H → Option (iv_H)) : Option (iv_H) := ((cko h q0 12).bind fun _ => (fX12_stepsBack N h q0 x2).bind fun p_9836 => (fun (v_9834 : Int32) (h_9835 : iv_H) => (kb h_9835 v_9834)) p_9836.1 p_9836.2)
set_option maxRecDepth 10000 in
set_option maxHeartbeats 4000000 in
theorem rX12_findsRows_b62 {d N : Nat} (hd : 8 ≤ d) {h : iv_H} {q0 : Nat} {x1 : Int32} {x2 : Int32}  {kb : iv_H → Int32 → Option (iv_H)} {kx : iv_H → Option (iv_H)} {r : iv_H} {Q : Option Value → iv_H → Prop} (hb : ∀ (h : iv_H) (w2 : Int32), kb h w2 = some r → Rn d 332 none 41 [some (.ref q0), some (.int x1), some (.int w2)] [] h Q) (hk : ∀ (h : iv_H), kx h = some r → Rn d 332 none 155 [none, none, none] [] h Q) (hq : Q none r) (e : fX12_findsRows_b62 N h q0 x1 x2  kb kx = some r) : Rn d 332 none 62 [some (.ref q0), some (.int x1), some (.int x2)] [] h Q := by
  have hT := hX12_findsRows
  unfold fX12_findsRows_b62 at e
  refine Rn.n hT 2 (pc' := 64) (L' := [some (.ref q0), some (.int x1), some (.int x2)]) (st' := [.int x2, .ref q0]) rfl ?_
  obtain ⟨_, e_9833, e⟩ := Option.bind_eq_some_iff.mp e
  obtain ⟨⟨v_9834, h_9835⟩, e_9832, e⟩ := Option.bind_eq_some_iff.mp e
  try dsimp only at e
  try dsimp only at e
  refine Rn.call hT rfl rfl rfl (Nat.le_of_ble_eq_true rfl) (rcv_v gX12_stepsBack (by omega) e_9833) (rX12_stepsBack (by omega) e_9832 ?_)
  show Rn d _ _ 67 [some (.ref q0), some (.int x1), some (.int x2)] [.int v_9834] h_9835 Q
  refine Rn.n hT 2 (pc' := 41) (L' := [some (.ref q0), some (.int x1), some (.int v_9834)]) (st' := []) rfl ?_
  exact Rn.weak (ll_s (ll_s (ll_s ll_e))) (hb h_9835 v_9834 e)
def fX12_findsRows_l41 (N : Nat) (q0 : Nat) (x1 : Int32) (kx : iv_H → Option (iv_H)) : Nat → iv_H → Int32 → Option (iv_H)
  | 0, _, _ => none
  | n + 1, h, x2 => (if x2 < 0 then (kx h) else (if x2 = x1 then ((cko h q0 12).bind fun _ => (fX12_isAsWoken N h q0).bind fun v_9826 => (if v_9826 = 0 then (fX12_findsRows_b62 N h q0 x1 x2 (fX12_findsRows_l41 N q0 x1 kx n) kx) else ((cko h q0 12).bind fun _ => (fX12_notesRow N h q0 x1).bind fun h_9831 => (fX12_findsRows_b62 N h_9831 q0 x1 x2 (fX12_findsRows_l41 N q0 x1 kx n) kx)))) else ((gR h 12 74 q0).bind fun v_9776 => ((aI h v_9776 x2).bind fun v_9778 => ((wI h v_9776 x2 (v_9778 + (1 : Int32))).bind fun h_9780 => ((gR h_9780 12 74 q0).bind fun v_9782 => ((aI h_9780 v_9782 x2).bind fun v_9784 => (if v_9784 = (204 : Int32) then ((cko h_9780 q0 12).bind fun _ => (fX12_stepsBack N h_9780 q0 x2).bind fun p_9823 => (fun (v_9821 : Int32) (h_9822 : iv_H) => (fX12_findsRows_l41 N q0 x1 kx n h_9822 v_9821)) p_9823.1 p_9823.2) else ((gR h_9780 12 74 q0).bind fun v_9787 => ((aI h_9780 v_9787 x2).bind fun v_9789 => ((cko h_9780 q0 12).bind fun _ => (fX12_mayBe N h_9780 q0 v_9789).bind fun p_9818 => (fun (v_9793 : Int32) (h_9794 : iv_H) => (if v_9793 = 0 then (fX12_findsRows_l41 N q0 x1 kx n h_9794 x2) else ((gR h_9794 12 75 q0).bind fun v_9796 => ((aI h_9794 v_9796 x2).bind fun v_9798 => ((wI h_9794 v_9796 x2 (v_9798 + (1 : Int32))).bind fun h_9800 => ((gR h_9800 12 74 q0).bind fun v_9802 => ((aI h_9800 v_9802 x2).bind fun v_9804 => ((cko h_9800 q0 12).bind fun _ => (fX12_does N h_9800 q0 v_9804).bind fun h_9809 => ((gR h_9809 12 74 q0).bind fun v_9810 => ((wI h_9809 v_9810 (x2 + (1 : Int32)) (-1 : Int32)).bind fun h_9812 => ((gR h_9812 12 75 q0).bind fun v_9814 => ((wI h_9812 v_9814 (x2 + (1 : Int32)) (-1 : Int32)).bind fun h_9816 => (fX12_findsRows_l41 N q0 x1 kx n h_9816 (x2 + (1 : Int32))))))))))))))) p_9818.1 p_9818.2)))))))))))
set_option maxRecDepth 10000 in
set_option maxHeartbeats 4000000 in
theorem rX12_findsRows_l41 {d N : Nat} (hd : 8 ≤ d) {q0 : Nat} {x1 : Int32} {kx : iv_H → Option (iv_H)} {r : iv_H} {Q : Option Value → iv_H → Prop} (hk : ∀ (h : iv_H), kx h = some r → Rn d 332 none 155 [none, none, none] [] h Q) (hq : Q none r) : ∀ (n : Nat) (h : iv_H) (x2 : Int32), fX12_findsRows_l41 N q0 x1 kx n h x2 = some r → Rn d 332 none 41 [some (.ref q0), some (.int x1), some (.int x2)] [] h Q := by
  have hT := hX12_findsRows
  intro n
  induction n with
  | zero =>
    intro h x2 e
    rw [fX12_findsRows_l41] at e
    cases e
  | succ n ih =>
    intro h x2 e
    rw [fX12_findsRows_l41] at e
    refine Rn.n hT 1 (pc' := 42) (L' := [some (.ref q0), some (.int x1), some (.int x2)]) (st' := [.int x2]) rfl ?_
    by_cases c_9774 : x2 < 0
    · rw [if_pos c_9774] at e
      refine Rn.bt hT rfl rfl rfl (decide_eq_true c_9774) ?_
      exact Rn.weak (ll_n (ll_n (ll_n ll_e))) (hk h e)
    · rw [if_neg c_9774] at e
      refine Rn.bf hT rfl rfl rfl (decide_eq_false c_9774) ?_
      refine Rn.n hT 2 (pc' := 47) (L' := [some (.ref q0), some (.int x1), some (.int x2)]) (st' := [.int x1, .int x2]) rfl ?_
      by_cases c_9775 : x2 = x1
      · rw [if_pos c_9775] at e
        refine Rn.bf hT rfl rfl rfl (decide_eq_false (fun z => z c_9775)) ?_
        refine Rn.n hT 1 (pc' := 51) (L' := [some (.ref q0), some (.int x1), some (.int x2)]) (st' := [.ref q0]) rfl ?_
        obtain ⟨_, e_9825, e⟩ := Option.bind_eq_some_iff.mp e
        obtain ⟨v_9826, e_9824, e⟩ := Option.bind_eq_some_iff.mp e
        refine Rn.call hT rfl rfl rfl (Nat.le_of_ble_eq_true rfl) (rcv_v gX12_isAsWoken (by omega) e_9825) (rX12_isAsWoken (by omega) e_9824 ?_)
        show Rn d _ _ 54 [some (.ref q0), some (.int x1), some (.int x2)] [.int v_9826] h Q
        by_cases c_9827 : v_9826 = 0
        · rw [if_pos c_9827] at e
          refine Rn.bt hT rfl rfl rfl (decide_eq_true c_9827) ?_
          exact Rn.weak (ll_s (ll_s (ll_s ll_e))) (rX12_findsRows_b62 hd ih hk hq e)
        · rw [if_neg c_9827] at e
          refine Rn.bf hT rfl rfl rfl (decide_eq_false c_9827) ?_
          refine Rn.n hT 2 (pc' := 59) (L' := [some (.ref q0), some (.int x1), some (.int x2)]) (st' := [.int x1, .ref q0]) rfl ?_
          obtain ⟨_, e_9829, e⟩ := Option.bind_eq_some_iff.mp e
          obtain ⟨h_9831, e_9828, e⟩ := Option.bind_eq_some_iff.mp e
          refine Rn.call hT rfl rfl rfl (Nat.le_of_ble_eq_true rfl) (rcv_v gX12_notesRow (by omega) e_9829) (rX12_notesRow (by omega) e_9828 ?_)
          show Rn d _ _ 62 [some (.ref q0), some (.int x1), some (.int x2)] [] h_9831 Q
          exact Rn.weak (ll_s (ll_s (ll_s ll_e))) (rX12_findsRows_b62 hd ih hk hq e)
      · rw [if_neg c_9775] at e
        refine Rn.bt hT rfl rfl rfl (decide_eq_true c_9775) ?_
        refine Rn.n hT 1 (pc' := 72) (L' := [some (.ref q0), some (.int x1), some (.int x2)]) (st' := [.ref q0]) rfl ?_
        obtain ⟨v_9776, e_9777, e⟩ := Option.bind_eq_some_iff.mp e
        refine Rn.hp hT rfl rfl (gR_hp e_9777) ?_
        refine Rn.n hT 2 (pc' := 77) (L' := [some (.ref q0), some (.int x1), some (.int x2)]) (st' := [.int x2, .ref v_9776, .int x2, .ref v_9776]) rfl ?_
        obtain ⟨v_9778, e_9779, e⟩ := Option.bind_eq_some_iff.mp e
        refine Rn.hp hT rfl rfl (aI_hp e_9779) ?_
        refine Rn.n hT 2 (pc' := 80) (L' := [some (.ref q0), some (.int x1), some (.int x2)]) (st' := [.int (v_9778 + (1 : Int32)), .int x2, .ref v_9776]) rfl ?_
        obtain ⟨h_9780, e_9781, e⟩ := Option.bind_eq_some_iff.mp e
        refine Rn.hp hT rfl rfl (wI_hp e_9781) ?_
        refine Rn.n hT 1 (pc' := 82) (L' := [some (.ref q0), some (.int x1), some (.int x2)]) (st' := [.ref q0]) rfl ?_
        obtain ⟨v_9782, e_9783, e⟩ := Option.bind_eq_some_iff.mp e
        refine Rn.hp hT rfl rfl (gR_hp e_9783) ?_
        refine Rn.n hT 1 (pc' := 86) (L' := [some (.ref q0), some (.int x1), some (.int x2)]) (st' := [.int x2, .ref v_9782]) rfl ?_
        obtain ⟨v_9784, e_9785, e⟩ := Option.bind_eq_some_iff.mp e
        refine Rn.hp hT rfl rfl (aI_hp e_9785) ?_
        refine Rn.n hT 1 (pc' := 90) (L' := [some (.ref q0), some (.int x1), some (.int x2)]) (st' := [.int (204 : Int32), .int v_9784]) rfl ?_
        by_cases c_9786 : v_9784 = (204 : Int32)
        · rw [if_pos c_9786] at e
          refine Rn.bf hT rfl rfl rfl (decide_eq_false (fun z => z c_9786)) ?_
          refine Rn.n hT 2 (pc' := 95) (L' := [some (.ref q0), some (.int x1), some (.int x2)]) (st' := [.int x2, .ref q0]) rfl ?_
          obtain ⟨_, e_9820, e⟩ := Option.bind_eq_some_iff.mp e
          obtain ⟨⟨v_9821, h_9822⟩, e_9819, e⟩ := Option.bind_eq_some_iff.mp e
          try dsimp only at e
          try dsimp only at e
          refine Rn.call hT rfl rfl rfl (Nat.le_of_ble_eq_true rfl) (rcv_v gX12_stepsBack (by omega) e_9820) (rX12_stepsBack (by omega) e_9819 ?_)
          show Rn d _ _ 98 [some (.ref q0), some (.int x1), some (.int x2)] [.int v_9821] h_9822 Q
          refine Rn.n hT 2 (pc' := 41) (L' := [some (.ref q0), some (.int x1), some (.int v_9821)]) (st' := []) rfl ?_
          exact Rn.weak (ll_s (ll_s (ll_s ll_e))) (ih h_9822 v_9821 e)
        · rw [if_neg c_9786] at e
          refine Rn.bt hT rfl rfl rfl (decide_eq_true c_9786) ?_
          refine Rn.n hT 2 (pc' := 104) (L' := [some (.ref q0), some (.int x1), some (.int x2)]) (st' := [.ref q0, .ref q0]) rfl ?_
          obtain ⟨v_9787, e_9788, e⟩ := Option.bind_eq_some_iff.mp e
          refine Rn.hp hT rfl rfl (gR_hp e_9788) ?_
          refine Rn.n hT 1 (pc' := 108) (L' := [some (.ref q0), some (.int x1), some (.int x2)]) (st' := [.int x2, .ref v_9787, .ref q0]) rfl ?_
          obtain ⟨v_9789, e_9790, e⟩ := Option.bind_eq_some_iff.mp e
          refine Rn.hp hT rfl rfl (aI_hp e_9790) ?_
          obtain ⟨_, e_9792, e⟩ := Option.bind_eq_some_iff.mp e
          obtain ⟨⟨v_9793, h_9794⟩, e_9791, e⟩ := Option.bind_eq_some_iff.mp e
          try dsimp only at e
          try dsimp only at e
          refine Rn.call hT rfl rfl rfl (Nat.le_of_ble_eq_true rfl) (rcv_v gX12_mayBe (by omega) e_9792) (rX12_mayBe (by omega) e_9791 ?_)
          show Rn d _ _ 112 [some (.ref q0), some (.int x1), some (.int x2)] [.int v_9793] h_9794 Q
          by_cases c_9795 : v_9793 = 0
          · rw [if_pos c_9795] at e
            refine Rn.bt hT rfl rfl rfl (decide_eq_true c_9795) ?_
            exact Rn.weak (ll_s (ll_s (ll_s ll_e))) (ih h_9794 x2 e)
          · rw [if_neg c_9795] at e
            refine Rn.bf hT rfl rfl rfl (decide_eq_false c_9795) ?_
            refine Rn.n hT 1 (pc' := 116) (L' := [some (.ref q0), some (.int x1), some (.int x2)]) (st' := [.ref q0]) rfl ?_
            obtain ⟨v_9796, e_9797, e⟩ := Option.bind_eq_some_iff.mp e
            refine Rn.hp hT rfl rfl (gR_hp e_9797) ?_
            refine Rn.n hT 2 (pc' := 121) (L' := [some (.ref q0), some (.int x1), some (.int x2)]) (st' := [.int x2, .ref v_9796, .int x2, .ref v_9796]) rfl ?_
            obtain ⟨v_9798, e_9799, e⟩ := Option.bind_eq_some_iff.mp e
            refine Rn.hp hT rfl rfl (aI_hp e_9799) ?_
            refine Rn.n hT 2 (pc' := 124) (L' := [some (.ref q0), some (.int x1), some (.int x2)]) (st' := [.int (v_9798 + (1 : Int32)), .int x2, .ref v_9796]) rfl ?_
            obtain ⟨h_9800, e_9801, e⟩ := Option.bind_eq_some_iff.mp e
            refine Rn.hp hT rfl rfl (wI_hp e_9801) ?_
            refine Rn.n hT 2 (pc' := 127) (L' := [some (.ref q0), some (.int x1), some (.int x2)]) (st' := [.ref q0, .ref q0]) rfl ?_
            obtain ⟨v_9802, e_9803, e⟩ := Option.bind_eq_some_iff.mp e
            refine Rn.hp hT rfl rfl (gR_hp e_9803) ?_
            refine Rn.n hT 1 (pc' := 131) (L' := [some (.ref q0), some (.int x1), some (.int x2)]) (st' := [.int x2, .ref v_9802, .ref q0]) rfl ?_
            obtain ⟨v_9804, e_9805, e⟩ := Option.bind_eq_some_iff.mp e
            refine Rn.hp hT rfl rfl (aI_hp e_9805) ?_
            obtain ⟨_, e_9807, e⟩ := Option.bind_eq_some_iff.mp e
            obtain ⟨h_9809, e_9806, e⟩ := Option.bind_eq_some_iff.mp e
            refine Rn.call hT rfl rfl rfl (Nat.le_of_ble_eq_true rfl) (rcv_v gX12_does (by omega) e_9807) (rX12_does (by omega) e_9806 ?_)
            show Rn d _ _ 135 [some (.ref q0), some (.int x1), some (.int x2)] [] h_9809 Q
            refine Rn.n hT 2 (pc' := 139) (L' := [some (.ref q0), some (.int x1), some (.int (x2 + (1 : Int32)))]) (st' := [.ref q0]) rfl ?_
            obtain ⟨v_9810, e_9811, e⟩ := Option.bind_eq_some_iff.mp e
            refine Rn.hp hT rfl rfl (gR_hp e_9811) ?_
            refine Rn.n hT 2 (pc' := 144) (L' := [some (.ref q0), some (.int x1), some (.int (x2 + (1 : Int32)))]) (st' := [.int (-1 : Int32), .int (x2 + (1 : Int32)), .ref v_9810]) rfl ?_
            obtain ⟨h_9812, e_9813, e⟩ := Option.bind_eq_some_iff.mp e
            refine Rn.hp hT rfl rfl (wI_hp e_9813) ?_
            refine Rn.n hT 1 (pc' := 146) (L' := [some (.ref q0), some (.int x1), some (.int (x2 + (1 : Int32)))]) (st' := [.ref q0]) rfl ?_
            obtain ⟨v_9814, e_9815, e⟩ := Option.bind_eq_some_iff.mp e
            refine Rn.hp hT rfl rfl (gR_hp e_9815) ?_
            refine Rn.n hT 2 (pc' := 151) (L' := [some (.ref q0), some (.int x1), some (.int (x2 + (1 : Int32)))]) (st' := [.int (-1 : Int32), .int (x2 + (1 : Int32)), .ref v_9814]) rfl ?_
            obtain ⟨h_9816, e_9817, e⟩ := Option.bind_eq_some_iff.mp e
            refine Rn.hp hT rfl rfl (wI_hp e_9817) ?_
            refine Rn.n hT 1 (pc' := 41) (L' := [some (.ref q0), some (.int x1), some (.int (x2 + (1 : Int32)))]) (st' := []) rfl ?_
            exact Rn.weak (ll_s (ll_s (ll_s ll_e))) (ih h_9816 (x2 + (1 : Int32)) e)
def fX12_findsRows (N : Nat) (h : iv_H) (q0 : Nat) (x1 : Int32) : Option (iv_H) := ((pV h 12 78 q0 (.int (0 : Int32))).bind fun h_9757 => (fX12_findsRows_l7 N q0 x1 (fun (h_9759 : iv_H) => ((gR h_9759 12 74 q0).bind fun v_9760 => ((wI h_9759 v_9760 (0 : Int32) (-1 : Int32)).bind fun h_9762 => ((gR h_9762 12 75 q0).bind fun v_9764 => ((wI h_9762 v_9764 (0 : Int32) (-1 : Int32)).bind fun h_9766 => (fX12_findsRows_l41 N q0 x1 (fun (h_9768 : iv_H) => some h_9768) N h_9766 (0 : Int32))))))) N h_9757 (0 : Int32)))
set_option maxRecDepth 10000 in
set_option maxHeartbeats 4000000 in
theorem rX12_findsRows {d N : Nat} (hd : 9 ≤ d) {h : iv_H} {q0 : Nat} {x1 : Int32} {r : iv_H} {Q : Option Value → iv_H → Prop} (e : fX12_findsRows N h q0 x1 = some r) (hq : Q none r) : Cl d 332 [.ref q0, .int x1] h Q := by
  obtain ⟨d, rfl⟩ : ∃ k, d = k + 1 := ⟨d - 1, by omega⟩
  have hd : 8 ≤ d := by omega
  have hT := hX12_findsRows
  unfold fX12_findsRows at e
  refine Cl.into (by decide) gX12_findsRows rfl ?_
  show Rn d 332 none 0 [some (.ref q0), some (.int x1), none] [] h Q
  refine Rn.n hT 2 (pc' := 2) (L' := [some (.ref q0), some (.int x1), none]) (st' := [.int (0 : Int32), .ref q0]) rfl ?_
  obtain ⟨h_9757, e_9758, e⟩ := Option.bind_eq_some_iff.mp e
  refine Rn.hp hT rfl rfl (pV_hp rfl e_9758) ?_
  refine Rn.n hT 2 (pc' := 7) (L' := [some (.ref q0), some (.int x1), some (.int (0 : Int32))]) (st' := []) rfl ?_
  refine Rn.weak (ll_s (ll_s (ll_s ll_e))) (rX12_findsRows_l7 hd (fun h_9759 e => ?_) hq N h_9757 (0 : Int32) e)
  try dsimp only at e
  refine Rn.n hT 3 (pc' := 28) (L' := [some (.ref q0), some (.int x1), some (.int (0 : Int32))]) (st' := [.ref q0]) rfl ?_
  obtain ⟨v_9760, e_9761, e⟩ := Option.bind_eq_some_iff.mp e
  refine Rn.hp hT rfl rfl (gR_hp e_9761) ?_
  refine Rn.n hT 2 (pc' := 33) (L' := [some (.ref q0), some (.int x1), some (.int (0 : Int32))]) (st' := [.int (-1 : Int32), .int (0 : Int32), .ref v_9760]) rfl ?_
  obtain ⟨h_9762, e_9763, e⟩ := Option.bind_eq_some_iff.mp e
  refine Rn.hp hT rfl rfl (wI_hp e_9763) ?_
  refine Rn.n hT 1 (pc' := 35) (L' := [some (.ref q0), some (.int x1), some (.int (0 : Int32))]) (st' := [.ref q0]) rfl ?_
  obtain ⟨v_9764, e_9765, e⟩ := Option.bind_eq_some_iff.mp e
  refine Rn.hp hT rfl rfl (gR_hp e_9765) ?_
  refine Rn.n hT 2 (pc' := 40) (L' := [some (.ref q0), some (.int x1), some (.int (0 : Int32))]) (st' := [.int (-1 : Int32), .int (0 : Int32), .ref v_9764]) rfl ?_
  obtain ⟨h_9766, e_9767, e⟩ := Option.bind_eq_some_iff.mp e
  refine Rn.hp hT rfl rfl (wI_hp e_9767) ?_
  refine Rn.weak (ll_s (ll_s (ll_s ll_e))) (rX12_findsRows_l41 hd (fun h_9768 e => ?_) hq N h_9766 (0 : Int32) e)
  try dsimp only at e
  obtain rfl := Option.some.inj e
  exact Rn.ret hT rfl rfl rfl hq
set_option maxRecDepth 10000 in
theorem hX12_how : iv_Tb 334 tX12_how := iv_tb_of (m := mX12_how) rfl
set_option maxRecDepth 10000 in
theorem gX12_how : PG.2 334 = some mX12_how := iv_pi_of (t := tX12_how) rfl (by decide)
def fX12_how_b31 (N : Nat) (h : iv_H)   : Option (Int32 × iv_H) := (some ((-1 : Int32), h))
set_option maxRecDepth 10000 in
set_option maxHeartbeats 4000000 in
theorem rX12_how_b31 {d N : Nat} (hd : 9 ≤ d) {h : iv_H}   {r : Int32 × iv_H} {Q : Option Value → iv_H → Prop} (hq : Q (some (.int r.1)) r.2) (e : fX12_how_b31 N h   = some r) : Rn d 334 (some .int) 31 [none, none, none] [] h Q := by
  have hT := hX12_how
  unfold fX12_how_b31 at e
  refine Rn.n hT 1 (pc' := 32) (L' := [none, none, none]) (st' := [.int (-1 : Int32)]) rfl ?_
  obtain rfl := Option.some.inj e
  exact Rn.ret hT rfl rfl rfl hq
def fX12_how_b86 (N : Nat) (h : iv_H)  (s0 : Int32) : Option (Int32 × iv_H) := (some (s0, h))
set_option maxRecDepth 10000 in
set_option maxHeartbeats 4000000 in
theorem rX12_how_b86 {d N : Nat} (hd : 9 ≤ d) {h : iv_H}  {s0 : Int32} {r : Int32 × iv_H} {Q : Option Value → iv_H → Prop} (hq : Q (some (.int r.1)) r.2) (e : fX12_how_b86 N h  s0 = some r) : Rn d 334 (some .int) 86 [none, none, none] [.int s0] h Q := by
  have hT := hX12_how
  unfold fX12_how_b86 at e
  obtain rfl := Option.some.inj e
  exact Rn.ret hT rfl rfl rfl hq
def fX12_how_b73 (N : Nat) (h : iv_H)   : Option (Int32 × iv_H) := (fX12_how_b86 N h (-2 : Int32))
set_option maxRecDepth 10000 in
set_option maxHeartbeats 4000000 in
theorem rX12_how_b73 {d N : Nat} (hd : 9 ≤ d) {h : iv_H}   {r : Int32 × iv_H} {Q : Option Value → iv_H → Prop} (hq : Q (some (.int r.1)) r.2) (e : fX12_how_b73 N h   = some r) : Rn d 334 (some .int) 73 [none, none, none] [] h Q := by
  have hT := hX12_how
  unfold fX12_how_b73 at e
  refine Rn.n hT 2 (pc' := 86) (L' := [none, none, none]) (st' := [.int (-2 : Int32)]) rfl ?_
  exact Rn.weak (ll_n (ll_n (ll_n ll_e))) (rX12_how_b86 hd hq e)
def fX12_how (N : Nat) (h : iv_H) (q0 : Nat) (x1 : Int32) (x2 : Int32) : Option (Int32 × iv_H) := ((cko h q0 12).bind fun _ => (fX12_isPalace N h q0).bind fun v_9839 => (if v_9839 = 0 then (fX12_how_b31 N h) else ((fX12_in N h ((x1).toInt64) (0 : Int64) (3 : Int64)).bind fun v_9842 => (if v_9842 = 0 then (fX12_how_b31 N h) else ((fX12_in N h ((x2).toInt64) (0 : Int64) (6 : Int64)).bind fun v_9845 => (if v_9845 = 0 then (fX12_how_b31 N h) else ((cko h q0 12).bind fun _ => (fX12_findsRows N h q0 x1).bind fun h_9850 => (if x2 = 0 then ((gI h_9850 12 78 q0).bind fun v_9865 => (some (v_9865, h_9850))) else (if (3 : Int32) < x2 then ((gI h_9850 12 78 q0).bind fun v_9853 => (if v_9853 = 0 then (fX12_how_b73 N h_9850) else (if (x2 - (4 : Int32)) < x1 then ((gR h_9850 12 76 q0).bind fun v_9857 => ((aI h_9850 v_9857 (x2 - (4 : Int32))).bind fun v_9859 => (fX12_how_b86 N h_9850 v_9859))) else (fX12_how_b73 N h_9850)))) else ((gR h_9850 12 77 q0).bind fun v_9861 => ((aI h_9850 v_9861 x2).bind fun v_9863 => (some (v_9863, h_9850)))))))))))))
set_option maxRecDepth 10000 in
set_option maxHeartbeats 4000000 in
theorem rX12_how {d N : Nat} (hd : 10 ≤ d) {h : iv_H} {q0 : Nat} {x1 : Int32} {x2 : Int32} {r : Int32 × iv_H} {Q : Option Value → iv_H → Prop} (e : fX12_how N h q0 x1 x2 = some r) (hq : Q (some (.int r.1)) r.2) : Cl d 334 [.ref q0, .int x1, .int x2] h Q := by
  obtain ⟨d, rfl⟩ : ∃ k, d = k + 1 := ⟨d - 1, by omega⟩
  have hd : 9 ≤ d := by omega
  have hT := hX12_how
  unfold fX12_how at e
  refine Cl.into (by decide) gX12_how rfl ?_
  show Rn d 334 (some .int) 0 [some (.ref q0), some (.int x1), some (.int x2)] [] h Q
  refine Rn.n hT 1 (pc' := 1) (L' := [some (.ref q0), some (.int x1), some (.int x2)]) (st' := [.ref q0]) rfl ?_
  obtain ⟨_, e_9838, e⟩ := Option.bind_eq_some_iff.mp e
  obtain ⟨v_9839, e_9837, e⟩ := Option.bind_eq_some_iff.mp e
  refine Rn.call hT rfl rfl rfl (Nat.le_of_ble_eq_true rfl) (rcv_v gX12_isPalace (by omega) e_9838) (rX12_isPalace (by omega) e_9837 ?_)
  show Rn d _ _ 4 [some (.ref q0), some (.int x1), some (.int x2)] [.int v_9839] h Q
  by_cases c_9840 : v_9839 = 0
  · rw [if_pos c_9840] at e
    refine Rn.bt hT rfl rfl rfl (decide_eq_true c_9840) ?_
    exact Rn.weak (ll_n (ll_n (ll_n ll_e))) (rX12_how_b31 hd hq e)
  · rw [if_neg c_9840] at e
    refine Rn.bf hT rfl rfl rfl (decide_eq_false c_9840) ?_
    refine Rn.n hT 4 (pc' := 13) (L' := [some (.ref q0), some (.int x1), some (.int x2)]) (st' := [.long (3 : Int64), .long (0 : Int64), .long ((x1).toInt64)]) rfl ?_
    obtain ⟨v_9842, e_9841, e⟩ := Option.bind_eq_some_iff.mp e
    refine Rn.call hT rfl rfl rfl (Nat.le_of_ble_eq_true rfl) rfl (rX12_in (by omega) e_9841 ?_)
    show Rn d _ _ 16 [some (.ref q0), some (.int x1), some (.int x2)] [.int v_9842] h Q
    by_cases c_9843 : v_9842 = 0
    · rw [if_pos c_9843] at e
      refine Rn.bt hT rfl rfl rfl (decide_eq_true c_9843) ?_
      exact Rn.weak (ll_n (ll_n (ll_n ll_e))) (rX12_how_b31 hd hq e)
    · rw [if_neg c_9843] at e
      refine Rn.bf hT rfl rfl rfl (decide_eq_false c_9843) ?_
      refine Rn.n hT 4 (pc' := 25) (L' := [some (.ref q0), some (.int x1), some (.int x2)]) (st' := [.long (6 : Int64), .long (0 : Int64), .long ((x2).toInt64)]) rfl ?_
      obtain ⟨v_9845, e_9844, e⟩ := Option.bind_eq_some_iff.mp e
      refine Rn.call hT rfl rfl rfl (Nat.le_of_ble_eq_true rfl) rfl (rX12_in (by omega) e_9844 ?_)
      show Rn d _ _ 28 [some (.ref q0), some (.int x1), some (.int x2)] [.int v_9845] h Q
      by_cases c_9846 : v_9845 = 0
      · rw [if_pos c_9846] at e
        refine Rn.bf hT rfl rfl rfl (decide_eq_false (fun z => z c_9846)) ?_
        exact Rn.weak (ll_n (ll_n (ll_n ll_e))) (rX12_how_b31 hd hq e)
      · rw [if_neg c_9846] at e
        refine Rn.bt hT rfl rfl rfl (decide_eq_true c_9846) ?_
        refine Rn.n hT 2 (pc' := 35) (L' := [some (.ref q0), some (.int x1), some (.int x2)]) (st' := [.int x1, .ref q0]) rfl ?_
        obtain ⟨_, e_9848, e⟩ := Option.bind_eq_some_iff.mp e
        obtain ⟨h_9850, e_9847, e⟩ := Option.bind_eq_some_iff.mp e
        refine Rn.call hT rfl rfl rfl (Nat.le_of_ble_eq_true rfl) (rcv_v gX12_findsRows (by omega) e_9848) (rX12_findsRows (by omega) e_9847 ?_)
        show Rn d _ _ 38 [some (.ref q0), some (.int x1), some (.int x2)] [] h_9850 Q
        refine Rn.n hT 1 (pc' := 39) (L' := [some (.ref q0), some (.int x1), some (.int x2)]) (st' := [.int x2]) rfl ?_
        by_cases c_9851 : x2 = 0
        · rw [if_pos c_9851] at e
          refine Rn.bf hT rfl rfl rfl (decide_eq_false (fun z => z c_9851)) ?_
          refine Rn.n hT 1 (pc' := 43) (L' := [some (.ref q0), some (.int x1), some (.int x2)]) (st' := [.ref q0]) rfl ?_
          obtain ⟨v_9865, e_9866, e⟩ := Option.bind_eq_some_iff.mp e
          refine Rn.hp hT rfl rfl (gI_hp e_9866) ?_
          obtain rfl := Option.some.inj e
          exact Rn.ret hT rfl rfl rfl hq
        · rw [if_neg c_9851] at e
          refine Rn.bt hT rfl rfl rfl (decide_eq_true c_9851) ?_
          refine Rn.n hT 2 (pc' := 49) (L' := [some (.ref q0), some (.int x1), some (.int x2)]) (st' := [.int (3 : Int32), .int x2]) rfl ?_
          by_cases c_9852 : (3 : Int32) < x2
          · rw [if_pos c_9852] at e
            refine Rn.bt hT rfl rfl rfl (decide_eq_true c_9852) ?_
            refine Rn.n hT 1 (pc' := 60) (L' := [some (.ref q0), some (.int x1), some (.int x2)]) (st' := [.ref q0]) rfl ?_
            obtain ⟨v_9853, e_9854, e⟩ := Option.bind_eq_some_iff.mp e
            refine Rn.hp hT rfl rfl (gI_hp e_9854) ?_
            by_cases c_9855 : v_9853 = 0
            · rw [if_pos c_9855] at e
              refine Rn.bt hT rfl rfl rfl (decide_eq_true c_9855) ?_
              exact Rn.weak (ll_n (ll_n (ll_n ll_e))) (rX12_how_b73 hd hq e)
            · rw [if_neg c_9855] at e
              refine Rn.bf hT rfl rfl rfl (decide_eq_false c_9855) ?_
              refine Rn.n hT 4 (pc' := 70) (L' := [some (.ref q0), some (.int x1), some (.int x2)]) (st' := [.int x1, .int (x2 - (4 : Int32))]) rfl ?_
              by_cases c_9856 : (x2 - (4 : Int32)) < x1
              · rw [if_pos c_9856] at e
                refine Rn.bt hT rfl rfl rfl (decide_eq_true c_9856) ?_
                refine Rn.n hT 1 (pc' := 79) (L' := [some (.ref q0), some (.int x1), some (.int x2)]) (st' := [.ref q0]) rfl ?_
                obtain ⟨v_9857, e_9858, e⟩ := Option.bind_eq_some_iff.mp e
                refine Rn.hp hT rfl rfl (gR_hp e_9858) ?_
                refine Rn.n hT 3 (pc' := 85) (L' := [some (.ref q0), some (.int x1), some (.int x2)]) (st' := [.int (x2 - (4 : Int32)), .ref v_9857]) rfl ?_
                obtain ⟨v_9859, e_9860, e⟩ := Option.bind_eq_some_iff.mp e
                refine Rn.hp hT rfl rfl (aI_hp e_9860) ?_
                exact Rn.weak (ll_n (ll_n (ll_n ll_e))) (rX12_how_b86 hd hq e)
              · rw [if_neg c_9856] at e
                refine Rn.bf hT rfl rfl rfl (decide_eq_false c_9856) ?_
                exact Rn.weak (ll_n (ll_n (ll_n ll_e))) (rX12_how_b73 hd hq e)
          · rw [if_neg c_9852] at e
            refine Rn.bf hT rfl rfl rfl (decide_eq_false c_9852) ?_
            refine Rn.n hT 1 (pc' := 53) (L' := [some (.ref q0), some (.int x1), some (.int x2)]) (st' := [.ref q0]) rfl ?_
            obtain ⟨v_9861, e_9862, e⟩ := Option.bind_eq_some_iff.mp e
            refine Rn.hp hT rfl rfl (gR_hp e_9862) ?_
            refine Rn.n hT 1 (pc' := 57) (L' := [some (.ref q0), some (.int x1), some (.int x2)]) (st' := [.int x2, .ref v_9861]) rfl ?_
            obtain ⟨v_9863, e_9864, e⟩ := Option.bind_eq_some_iff.mp e
            refine Rn.hp hT rfl rfl (aI_hp e_9864) ?_
            obtain rfl := Option.some.inj e
            exact Rn.ret hT rfl rfl rfl hq
set_option maxRecDepth 10000 in
theorem hX12_builtSide : iv_Tb 335 tX12_builtSide := iv_tb_of (m := mX12_builtSide) rfl
set_option maxRecDepth 10000 in
theorem gX12_builtSide : PG.2 335 = some mX12_builtSide := iv_pi_of (t := tX12_builtSide) rfl (by decide)
def fX12_builtSide_b45 (N : Nat) (h : iv_H)  (s0 : Int32) : Option (Int32) := (some s0)
set_option maxRecDepth 10000 in
set_option maxHeartbeats 4000000 in
theorem rX12_builtSide_b45 {d N : Nat} (hd : 3 ≤ d) {h : iv_H}  {s0 : Int32} {r : Int32} {Q : Option Value → iv_H → Prop} (hq : Q (some (.int r)) h) (e : fX12_builtSide_b45 N h  s0 = some r) : Rn d 335 (some .int) 45 [none, none, none, none, none] [.int s0] h Q := by
  have hT := hX12_builtSide
  unfold fX12_builtSide_b45 at e
  obtain rfl := Option.some.inj e
  exact Rn.ret hT rfl rfl rfl hq
def fX12_builtSide_b22 (N : Nat) (h : iv_H) (q0 : Nat) (x2 : Int32) (s0 : Int32) : Option (Int32) := (if s0 = (-1 : Int32) then (fX12_builtSide_b45 N h (0 : Int32)) else ((cko h q0 12).bind fun _ => (fX12_sortAt N h q0 s0 ((x2 + (2 : Int32)) &&& (3 : Int32))).bind fun v_9878 => (fX12_builtSide_b45 N h v_9878)))
set_option maxRecDepth 10000 in
set_option maxHeartbeats 4000000 in
theorem rX12_builtSide_b22 {d N : Nat} (hd : 3 ≤ d) {h : iv_H} {q0 : Nat} {x2 : Int32} {s0 : Int32} {r : Int32} {Q : Option Value → iv_H → Prop} (hq : Q (some (.int r)) h) (e : fX12_builtSide_b22 N h q0 x2 s0 = some r) : Rn d 335 (some .int) 22 [some (.ref q0), none, some (.int x2), none, none] [.int s0] h Q := by
  have hT := hX12_builtSide
  unfold fX12_builtSide_b22 at e
  refine Rn.n hT 3 (pc' := 27) (L' := [some (.ref q0), none, some (.int x2), none, some (.int s0)]) (st' := [.int (-1 : Int32), .int s0]) rfl ?_
  by_cases c_9875 : s0 = (-1 : Int32)
  · rw [if_pos c_9875] at e
    refine Rn.bf hT rfl rfl rfl (decide_eq_false (fun z => z c_9875)) ?_
    refine Rn.n hT 2 (pc' := 45) (L' := [some (.ref q0), none, some (.int x2), none, some (.int s0)]) (st' := [.int (0 : Int32)]) rfl ?_
    exact Rn.weak (ll_n (ll_n (ll_n (ll_n (ll_n ll_e))))) (rX12_builtSide_b45 hd hq e)
  · rw [if_neg c_9875] at e
    refine Rn.bt hT rfl rfl rfl (decide_eq_true c_9875) ?_
    refine Rn.n hT 7 (pc' := 42) (L' := [some (.ref q0), none, some (.int x2), none, some (.int s0)]) (st' := [.int ((x2 + (2 : Int32)) &&& (3 : Int32)), .int s0, .ref q0]) rfl ?_
    obtain ⟨_, e_9877, e⟩ := Option.bind_eq_some_iff.mp e
    obtain ⟨v_9878, e_9876, e⟩ := Option.bind_eq_some_iff.mp e
    refine Rn.call hT rfl rfl rfl (Nat.le_of_ble_eq_true rfl) (rcv_v gX12_sortAt (by omega) e_9877) (rX12_sortAt (by omega) e_9876 ?_)
    show Rn d _ _ 45 [some (.ref q0), none, some (.int x2), none, some (.int s0)] [.int v_9878] h Q
    exact Rn.weak (ll_n (ll_n (ll_n (ll_n (ll_n ll_e))))) (rX12_builtSide_b45 hd hq e)
def fX12_builtSide (N : Nat) (h : iv_H) (q0 : Nat) (x1 : Int32) (x2 : Int32) : Option (Int32) := ((cko h q0 12).bind fun _ => (fX12_by N h q0 x1 x2).bind fun v_9869 => (if v_9869 = (-1 : Int32) then (fX12_builtSide_b22 N h q0 x2 (-1 : Int32)) else ((gR h 12 8 q0).bind fun v_9871 => ((aI h v_9871 v_9869).bind fun v_9873 => (fX12_builtSide_b22 N h q0 x2 v_9873)))))
set_option maxRecDepth 10000 in
set_option maxHeartbeats 4000000 in
theorem rX12_builtSide {d N : Nat} (hd : 4 ≤ d) {h : iv_H} {q0 : Nat} {x1 : Int32} {x2 : Int32} {r : Int32} {Q : Option Value → iv_H → Prop} (e : fX12_builtSide N h q0 x1 x2 = some r) (hq : Q (some (.int r)) h) : Cl d 335 [.ref q0, .int x1, .int x2] h Q := by
  obtain ⟨d, rfl⟩ : ∃ k, d = k + 1 := ⟨d - 1, by omega⟩
  have hd : 3 ≤ d := by omega
  have hT := hX12_builtSide
  unfold fX12_builtSide at e
  refine Cl.into (by decide) gX12_builtSide rfl ?_
  show Rn d 335 (some .int) 0 [some (.ref q0), some (.int x1), some (.int x2), none, none] [] h Q
  refine Rn.n hT 3 (pc' := 3) (L' := [some (.ref q0), some (.int x1), some (.int x2), none, none]) (st' := [.int x2, .int x1, .ref q0]) rfl ?_
  obtain ⟨_, e_9868, e⟩ := Option.bind_eq_some_iff.mp e
  obtain ⟨v_9869, e_9867, e⟩ := Option.bind_eq_some_iff.mp e
  refine Rn.call hT rfl rfl rfl (Nat.le_of_ble_eq_true rfl) (rcv_v gX12_by (by omega) e_9868) (rX12_by (by omega) e_9867 ?_)
  show Rn d _ _ 6 [some (.ref q0), some (.int x1), some (.int x2), none, none] [.int v_9869] h Q
  refine Rn.n hT 3 (pc' := 9) (L' := [some (.ref q0), some (.int x1), some (.int x2), some (.int v_9869), none]) (st' := [.int (-1 : Int32), .int v_9869]) rfl ?_
  by_cases c_9870 : v_9869 = (-1 : Int32)
  · rw [if_pos c_9870] at e
    refine Rn.bf hT rfl rfl rfl (decide_eq_false (fun z => z c_9870)) ?_
    refine Rn.n hT 2 (pc' := 22) (L' := [some (.ref q0), some (.int x1), some (.int x2), some (.int v_9869), none]) (st' := [.int (-1 : Int32)]) rfl ?_
    exact Rn.weak (ll_s (ll_n (ll_s (ll_n (ll_n ll_e))))) (rX12_builtSide_b22 hd hq e)
  · rw [if_neg c_9870] at e
    refine Rn.bt hT rfl rfl rfl (decide_eq_true c_9870) ?_
    refine Rn.n hT 1 (pc' := 17) (L' := [some (.ref q0), some (.int x1), some (.int x2), some (.int v_9869), none]) (st' := [.ref q0]) rfl ?_
    obtain ⟨v_9871, e_9872, e⟩ := Option.bind_eq_some_iff.mp e
    refine Rn.hp hT rfl rfl (gR_hp e_9872) ?_
    refine Rn.n hT 1 (pc' := 21) (L' := [some (.ref q0), some (.int x1), some (.int x2), some (.int v_9869), none]) (st' := [.int v_9869, .ref v_9871]) rfl ?_
    obtain ⟨v_9873, e_9874, e⟩ := Option.bind_eq_some_iff.mp e
    refine Rn.hp hT rfl rfl (aI_hp e_9874) ?_
    exact Rn.weak (ll_s (ll_n (ll_s (ll_n (ll_n ll_e))))) (rX12_builtSide_b22 hd hq e)
set_option maxRecDepth 10000 in
theorem hX12_builtMismatches : iv_Tb 336 tX12_builtMismatches := iv_tb_of (m := mX12_builtMismatches) rfl
set_option maxRecDepth 10000 in
theorem gX12_builtMismatches : PG.2 336 = some mX12_builtMismatches := iv_pi_of (t := tX12_builtMismatches) rfl (by decide)
def fX12_builtMismatches_b63 (N : Nat) (h : iv_H) (q0 : Nat) (x1 : Int32) (x3 : Int32) (s0 : Int32) (s1 : Int32) (kb : iv_H → Int32 → Int32 → Option (Int32 × iv_H)) (kx : iv_H → Int32 → Option (Int32 × iv_H)) : Option (Int32 × iv_H) := (kb h (s1 - s0) (x3 + (1 : Int32)))
set_option maxRecDepth 10000 in
set_option maxHeartbeats 4000000 in
theorem rX12_builtMismatches_b63 {d N : Nat} (hd : 6 ≤ d) {h : iv_H} {q0 : Nat} {x1 : Int32} {x3 : Int32} {s0 : Int32} {s1 : Int32} {kb : iv_H → Int32 → Int32 → Option (Int32 × iv_H)} {kx : iv_H → Int32 → Option (Int32 × iv_H)} {r : Int32 × iv_H} {Q : Option Value → iv_H → Prop} (hb : ∀ (h : iv_H) (w2 : Int32) (w3 : Int32), kb h w2 w3 = some r → Rn d 336 (some .int) 7 [some (.ref q0), some (.int x1), some (.int w2), some (.int w3), none] [] h Q) (hk : ∀ (h : iv_H) (w2 : Int32), kx h w2 = some r → Rn d 336 (some .int) 71 [none, none, some (.int w2), none, none] [] h Q) (hq : Q (some (.int r.1)) r.2) (e : fX12_builtMismatches_b63 N h q0 x1 x3 s0 s1 kb kx = some r) : Rn d 336 (some .int) 63 [some (.ref q0), some (.int x1), none, some (.int x3), none] [.int s0, .int s1] h Q := by
  have hT := hX12_builtMismatches
  unfold fX12_builtMismatches_b63 at e
  refine Rn.n hT 4 (pc' := 7) (L' := [some (.ref q0), some (.int x1), some (.int (s1 - s0)), some (.int (x3 + (1 : Int32))), none]) (st' := []) rfl ?_
  exact Rn.weak (ll_s (ll_s (ll_s (ll_s (ll_n ll_e))))) (hb h (s1 - s0) (x3 + (1 : Int32)) e)
def fX12_builtMismatches_b62 (N : Nat) (h : iv_H) (q0 : Nat) (x1 : Int32) (x3 : Int32) (s0 : Int32) (kb : iv_H → Int32 → Int32 → Option (Int32 × iv_H)) (kx : iv_H → Int32 → Option (Int32 × iv_H)) : Option (Int32 × iv_H) := (fX12_builtMismatches_b63 N h q0 x1 x3 (0 : Int32) s0 kb kx)
set_option maxRecDepth 10000 in
set_option maxHeartbeats 4000000 in
theorem rX12_builtMismatches_b62 {d N : Nat} (hd : 6 ≤ d) {h : iv_H} {q0 : Nat} {x1 : Int32} {x3 : Int32} {s0 : Int32} {kb : iv_H → Int32 → Int32 → Option (Int32 × iv_H)} {kx : iv_H → Int32 → Option (Int32 × iv_H)} {r : Int32 × iv_H} {Q : Option Value → iv_H → Prop} (hb : ∀ (h : iv_H) (w2 : Int32) (w3 : Int32), kb h w2 w3 = some r → Rn d 336 (some .int) 7 [some (.ref q0), some (.int x1), some (.int w2), some (.int w3), none] [] h Q) (hk : ∀ (h : iv_H) (w2 : Int32), kx h w2 = some r → Rn d 336 (some .int) 71 [none, none, some (.int w2), none, none] [] h Q) (hq : Q (some (.int r.1)) r.2) (e : fX12_builtMismatches_b62 N h q0 x1 x3 s0 kb kx = some r) : Rn d 336 (some .int) 62 [some (.ref q0), some (.int x1), none, some (.int x3), none] [.int s0] h Q := by
  have hT := hX12_builtMismatches
  unfold fX12_builtMismatches_b62 at e
  refine Rn.n hT 1 (pc' := 63) (L' := [some (.ref q0), some (.int x1), none, some (.int x3), none]) (st' := [.int (0 : Int32), .int s0]) rfl ?_
  exact Rn.weak (ll_s (ll_s (ll_n (ll_s (ll_n ll_e))))) (rX12_builtMismatches_b63 hd hb hk hq e)
def fX12_builtMismatches_l7 (N : Nat) (q0 : Nat) (x1 : Int32) (kx : iv_H → Int32 → Option (Int32 × iv_H)) : Nat → iv_H → Int32 → Int32 → Option (Int32 × iv_H)
  | 0, _, _, _ => none
  | n + 1, h, x2, x3 => (if (4 : Int32) ≤ x3 then (kx h x2) else ((cko h q0 12).bind fun _ => (fX12_by N h q0 x1 x3).bind fun v_9889 => (if v_9889 = (-1 : Int32) then (fX12_builtMismatches_b62 N h q0 x1 x3 x2 (fX12_builtMismatches_l7 N q0 x1 kx n) kx) else ((gR h 12 8 q0).bind fun v_9891 => ((aI h v_9891 v_9889).bind fun v_9893 => (if v_9893 = (-1 : Int32) then (fX12_builtMismatches_b62 N h q0 x1 x3 x2 (fX12_builtMismatches_l7 N q0 x1 kx n) kx) else ((gR h 12 8 q0).bind fun v_9896 => ((aI h v_9896 v_9889).bind fun v_9898 => ((cko h q0 12).bind fun _ => (fX12_sortAt N h q0 v_9898 ((x3 + (2 : Int32)) &&& (3 : Int32))).bind fun v_9902 => (if v_9902 = (1 : Int32) then (fX12_builtMismatches_b63 N h q0 x1 x3 (1 : Int32) x2 (fX12_builtMismatches_l7 N q0 x1 kx n) kx) else (fX12_builtMismatches_b62 N h q0 x1 x3 x2 (fX12_builtMismatches_l7 N q0 x1 kx n) kx)))))))))))
set_option maxRecDepth 10000 in
set_option maxHeartbeats 4000000 in
theorem rX12_builtMismatches_l7 {d N : Nat} (hd : 6 ≤ d) {q0 : Nat} {x1 : Int32} {kx : iv_H → Int32 → Option (Int32 × iv_H)} {r : Int32 × iv_H} {Q : Option Value → iv_H → Prop} (hk : ∀ (h : iv_H) (x2 : Int32), kx h x2 = some r → Rn d 336 (some .int) 71 [none, none, some (.int x2), none, none] [] h Q) (hq : Q (some (.int r.1)) r.2) : ∀ (n : Nat) (h : iv_H) (x2 : Int32) (x3 : Int32), fX12_builtMismatches_l7 N q0 x1 kx n h x2 x3 = some r → Rn d 336 (some .int) 7 [some (.ref q0), some (.int x1), some (.int x2), some (.int x3), none] [] h Q := by
  have hT := hX12_builtMismatches
  intro n
  induction n with
  | zero =>
    intro h x2 x3 e
    rw [fX12_builtMismatches_l7] at e
    cases e
  | succ n ih =>
    intro h x2 x3 e
    rw [fX12_builtMismatches_l7] at e
    refine Rn.n hT 2 (pc' := 9) (L' := [some (.ref q0), some (.int x1), some (.int x2), some (.int x3), none]) (st' := [.int (4 : Int32), .int x3]) rfl ?_
    by_cases c_9886 : (4 : Int32) ≤ x3
    · rw [if_pos c_9886] at e
      refine Rn.bt hT rfl rfl rfl (decide_eq_true c_9886) ?_
      exact Rn.weak (ll_n (ll_n (ll_s (ll_n (ll_n ll_e))))) (hk h x2 e)
    · rw [if_neg c_9886] at e
      refine Rn.bf hT rfl rfl rfl (decide_eq_false c_9886) ?_
      refine Rn.n hT 3 (pc' := 15) (L' := [some (.ref q0), some (.int x1), some (.int x2), some (.int x3), none]) (st' := [.int x3, .int x1, .ref q0]) rfl ?_
      obtain ⟨_, e_9888, e⟩ := Option.bind_eq_some_iff.mp e
      obtain ⟨v_9889, e_9887, e⟩ := Option.bind_eq_some_iff.mp e
      refine Rn.call hT rfl rfl rfl (Nat.le_of_ble_eq_true rfl) (rcv_v gX12_by (by omega) e_9888) (rX12_by (by omega) e_9887 ?_)
      show Rn d _ _ 18 [some (.ref q0), some (.int x1), some (.int x2), some (.int x3), none] [.int v_9889] h Q
      refine Rn.n hT 4 (pc' := 24) (L' := [some (.ref q0), some (.int x1), some (.int x2), some (.int x3), some (.int v_9889)]) (st' := [.int (-1 : Int32), .int v_9889, .int x2]) rfl ?_
      by_cases c_9890 : v_9889 = (-1 : Int32)
      · rw [if_pos c_9890] at e
        refine Rn.bt hT rfl rfl rfl (decide_eq_true c_9890) ?_
        exact Rn.weak (ll_s (ll_s (ll_n (ll_s (ll_n ll_e))))) (rX12_builtMismatches_b62 hd ih hk hq e)
      · rw [if_neg c_9890] at e
        refine Rn.bf hT rfl rfl rfl (decide_eq_false c_9890) ?_
        refine Rn.n hT 1 (pc' := 28) (L' := [some (.ref q0), some (.int x1), some (.int x2), some (.int x3), some (.int v_9889)]) (st' := [.ref q0, .int x2]) rfl ?_
        obtain ⟨v_9891, e_9892, e⟩ := Option.bind_eq_some_iff.mp e
        refine Rn.hp hT rfl rfl (gR_hp e_9892) ?_
        refine Rn.n hT 1 (pc' := 33) (L' := [some (.ref q0), some (.int x1), some (.int x2), some (.int x3), some (.int v_9889)]) (st' := [.int v_9889, .ref v_9891, .int x2]) rfl ?_
        obtain ⟨v_9893, e_9894, e⟩ := Option.bind_eq_some_iff.mp e
        refine Rn.hp hT rfl rfl (aI_hp e_9894) ?_
        refine Rn.n hT 1 (pc' := 35) (L' := [some (.ref q0), some (.int x1), some (.int x2), some (.int x3), some (.int v_9889)]) (st' := [.int (-1 : Int32), .int v_9893, .int x2]) rfl ?_
        by_cases c_9895 : v_9893 = (-1 : Int32)
        · rw [if_pos c_9895] at e
          refine Rn.bt hT rfl rfl rfl (decide_eq_true c_9895) ?_
          exact Rn.weak (ll_s (ll_s (ll_n (ll_s (ll_n ll_e))))) (rX12_builtMismatches_b62 hd ih hk hq e)
        · rw [if_neg c_9895] at e
          refine Rn.bf hT rfl rfl rfl (decide_eq_false c_9895) ?_
          refine Rn.n hT 2 (pc' := 40) (L' := [some (.ref q0), some (.int x1), some (.int x2), some (.int x3), some (.int v_9889)]) (st' := [.ref q0, .ref q0, .int x2]) rfl ?_
          obtain ⟨v_9896, e_9897, e⟩ := Option.bind_eq_some_iff.mp e
          refine Rn.hp hT rfl rfl (gR_hp e_9897) ?_
          refine Rn.n hT 1 (pc' := 45) (L' := [some (.ref q0), some (.int x1), some (.int x2), some (.int x3), some (.int v_9889)]) (st' := [.int v_9889, .ref v_9896, .ref q0, .int x2]) rfl ?_
          obtain ⟨v_9898, e_9899, e⟩ := Option.bind_eq_some_iff.mp e
          refine Rn.hp hT rfl rfl (aI_hp e_9899) ?_
          refine Rn.n hT 5 (pc' := 51) (L' := [some (.ref q0), some (.int x1), some (.int x2), some (.int x3), some (.int v_9889)]) (st' := [.int ((x3 + (2 : Int32)) &&& (3 : Int32)), .int v_9898, .ref q0, .int x2]) rfl ?_
          obtain ⟨_, e_9901, e⟩ := Option.bind_eq_some_iff.mp e
          obtain ⟨v_9902, e_9900, e⟩ := Option.bind_eq_some_iff.mp e
          refine Rn.call hT rfl rfl rfl (Nat.le_of_ble_eq_true rfl) (rcv_v gX12_sortAt (by omega) e_9901) (rX12_sortAt (by omega) e_9900 ?_)
          show Rn d _ _ 54 [some (.ref q0), some (.int x1), some (.int x2), some (.int x3), some (.int v_9889)] [.int v_9902, .int x2] h Q
          refine Rn.n hT 1 (pc' := 55) (L' := [some (.ref q0), some (.int x1), some (.int x2), some (.int x3), some (.int v_9889)]) (st' := [.int (1 : Int32), .int v_9902, .int x2]) rfl ?_
          by_cases c_9903 : v_9902 = (1 : Int32)
          · rw [if_pos c_9903] at e
            refine Rn.bf hT rfl rfl rfl (decide_eq_false (fun z => z c_9903)) ?_
            refine Rn.n hT 2 (pc' := 63) (L' := [some (.ref q0), some (.int x1), some (.int x2), some (.int x3), some (.int v_9889)]) (st' := [.int (1 : Int32), .int x2]) rfl ?_
            exact Rn.weak (ll_s (ll_s (ll_n (ll_s (ll_n ll_e))))) (rX12_builtMismatches_b63 hd ih hk hq e)
          · rw [if_neg c_9903] at e
            refine Rn.bt hT rfl rfl rfl (decide_eq_true c_9903) ?_
            exact Rn.weak (ll_s (ll_s (ll_n (ll_s (ll_n ll_e))))) (rX12_builtMismatches_b62 hd ih hk hq e)
def fX12_builtMismatches (N : Nat) (h : iv_H) (q0 : Nat) (x1 : Int32) : Option (Int32 × iv_H) := ((cko h q0 12).bind fun _ => (fX12_mismatches N h q0).bind fun p_9885 => (fun (v_9881 : Int32) (h_9882 : iv_H) => (fX12_builtMismatches_l7 N q0 x1 (fun (h_9883 : iv_H) (z_9884 : Int32) => (some (z_9884, h_9883))) N h_9882 v_9881 (0 : Int32))) p_9885.1 p_9885.2)
set_option maxRecDepth 10000 in
set_option maxHeartbeats 4000000 in
theorem rX12_builtMismatches {d N : Nat} (hd : 7 ≤ d) {h : iv_H} {q0 : Nat} {x1 : Int32} {r : Int32 × iv_H} {Q : Option Value → iv_H → Prop} (e : fX12_builtMismatches N h q0 x1 = some r) (hq : Q (some (.int r.1)) r.2) : Cl d 336 [.ref q0, .int x1] h Q := by
  obtain ⟨d, rfl⟩ : ∃ k, d = k + 1 := ⟨d - 1, by omega⟩
  have hd : 6 ≤ d := by omega
  have hT := hX12_builtMismatches
  unfold fX12_builtMismatches at e
  refine Cl.into (by decide) gX12_builtMismatches rfl ?_
  show Rn d 336 (some .int) 0 [some (.ref q0), some (.int x1), none, none, none] [] h Q
  refine Rn.n hT 1 (pc' := 1) (L' := [some (.ref q0), some (.int x1), none, none, none]) (st' := [.ref q0]) rfl ?_
  obtain ⟨_, e_9880, e⟩ := Option.bind_eq_some_iff.mp e
  obtain ⟨⟨v_9881, h_9882⟩, e_9879, e⟩ := Option.bind_eq_some_iff.mp e
  try dsimp only at e
  try dsimp only at e
  refine Rn.call hT rfl rfl rfl (Nat.le_of_ble_eq_true rfl) (rcv_v gX12_mismatches (by omega) e_9880) (rX12_mismatches (by omega) e_9879 ?_)
  show Rn d _ _ 4 [some (.ref q0), some (.int x1), none, none, none] [.int v_9881] h_9882 Q
  refine Rn.n hT 3 (pc' := 7) (L' := [some (.ref q0), some (.int x1), some (.int v_9881), some (.int (0 : Int32)), none]) (st' := []) rfl ?_
  refine Rn.weak (ll_s (ll_s (ll_s (ll_s (ll_n ll_e))))) (rX12_builtMismatches_l7 hd (fun h_9883 z_9884 e => ?_) hq N h_9882 v_9881 (0 : Int32) e)
  try dsimp only at e
  refine Rn.n hT 1 (pc' := 72) (L' := [none, none, some (.int z_9884), none, none]) (st' := [.int z_9884]) rfl ?_
  obtain rfl := Option.some.inj e
  exact Rn.ret hT rfl rfl rfl hq
set_option maxRecDepth 10000 in
theorem hX12_built : iv_Tb 337 tX12_built := iv_tb_of (m := mX12_built) rfl
set_option maxRecDepth 10000 in
theorem gX12_built : PG.2 337 = some mX12_built := iv_pi_of (t := tX12_built) rfl (by decide)
def fX12_built_b35 (N : Nat) (h : iv_H)   : Option (Int32 × iv_H) := (some ((-1 : Int32), h))
set_option maxRecDepth 10000 in
set_option maxHeartbeats 4000000 in
theorem rX12_built_b35 {d N : Nat} (hd : 7 ≤ d) {h : iv_H}   {r : Int32 × iv_H} {Q : Option Value → iv_H → Prop} (hq : Q (some (.int r.1)) r.2) (e : fX12_built_b35 N h   = some r) : Rn d 337 (some .int) 35 [none, none, none, none] [] h Q := by
  have hT := hX12_built
  unfold fX12_built_b35 at e
  refine Rn.n hT 1 (pc' := 36) (L' := [none, none, none, none]) (st' := [.int (-1 : Int32)]) rfl ?_
  obtain rfl := Option.some.inj e
  exact Rn.ret hT rfl rfl rfl hq
def fX12_built_b65 (N : Nat) (h : iv_H)  (s0 : Int32) : Option (Int32 × iv_H) := (some (s0, h))
set_option maxRecDepth 10000 in
set_option maxHeartbeats 4000000 in
theorem rX12_built_b65 {d N : Nat} (hd : 7 ≤ d) {h : iv_H}  {s0 : Int32} {r : Int32 × iv_H} {Q : Option Value → iv_H → Prop} (hq : Q (some (.int r.1)) r.2) (e : fX12_built_b65 N h  s0 = some r) : Rn d 337 (some .int) 65 [none, none, none, none] [.int s0] h Q := by
  have hT := hX12_built
  unfold fX12_built_b65 at e
  obtain rfl := Option.some.inj e
  exact Rn.ret hT rfl rfl rfl hq
def fX12_built (N : Nat) (h : iv_H) (q0 : Nat) (x1 : Int32) (x2 : Int32) (x3 : Int32) : Option (Int32 × iv_H) := ((cko h q0 12).bind fun _ => (fX12_isCell N h q0 x1 x2).bind fun v_9906 => (if v_9906 = 0 then (fX12_built_b35 N h) else ((gR h 12 8 q0).bind fun v_9908 => ((aI h v_9908 (((4 : Int32) * x2) + x1)).bind fun v_9910 => (if v_9910 = (-1 : Int32) then ((fX12_in N h ((x3).toInt64) (0 : Int64) (4 : Int64)).bind fun v_9914 => (if v_9914 = 0 then (fX12_built_b35 N h) else (if x3 = 0 then ((cko h q0 12).bind fun _ => (fX12_builtMismatches N h q0 (((4 : Int32) * x2) + x1)).bind fun p_9924 => (fun (v_9922 : Int32) (h_9923 : iv_H) => (fX12_built_b65 N h_9923 v_9922)) p_9924.1 p_9924.2) else ((cko h q0 12).bind fun _ => (fX12_builtSide N h q0 (((4 : Int32) * x2) + x1) (x3 - (1 : Int32))).bind fun v_9919 => (fX12_built_b65 N h v_9919))))) else (fX12_built_b35 N h))))))
set_option maxRecDepth 10000 in
set_option maxHeartbeats 4000000 in
theorem rX12_built {d N : Nat} (hd : 8 ≤ d) {h : iv_H} {q0 : Nat} {x1 : Int32} {x2 : Int32} {x3 : Int32} {r : Int32 × iv_H} {Q : Option Value → iv_H → Prop} (e : fX12_built N h q0 x1 x2 x3 = some r) (hq : Q (some (.int r.1)) r.2) : Cl d 337 [.ref q0, .int x1, .int x2, .int x3] h Q := by
  obtain ⟨d, rfl⟩ : ∃ k, d = k + 1 := ⟨d - 1, by omega⟩
  have hd : 7 ≤ d := by omega
  have hT := hX12_built
  unfold fX12_built at e
  refine Cl.into (by decide) gX12_built rfl ?_
  show Rn d 337 (some .int) 0 [some (.ref q0), some (.int x1), some (.int x2), some (.int x3)] [] h Q
  refine Rn.n hT 3 (pc' := 3) (L' := [some (.ref q0), some (.int x1), some (.int x2), some (.int x3)]) (st' := [.int x2, .int x1, .ref q0]) rfl ?_
  obtain ⟨_, e_9905, e⟩ := Option.bind_eq_some_iff.mp e
  obtain ⟨v_9906, e_9904, e⟩ := Option.bind_eq_some_iff.mp e
  refine Rn.call hT rfl rfl rfl (Nat.le_of_ble_eq_true rfl) (rcv_v gX12_isCell (by omega) e_9905) (rX12_isCell (by omega) e_9904 ?_)
  show Rn d _ _ 6 [some (.ref q0), some (.int x1), some (.int x2), some (.int x3)] [.int v_9906] h Q
  by_cases c_9907 : v_9906 = 0
  · rw [if_pos c_9907] at e
    refine Rn.bt hT rfl rfl rfl (decide_eq_true c_9907) ?_
    exact Rn.weak (ll_n (ll_n (ll_n (ll_n ll_e)))) (rX12_built_b35 hd hq e)
  · rw [if_neg c_9907] at e
    refine Rn.bf hT rfl rfl rfl (decide_eq_false c_9907) ?_
    refine Rn.n hT 1 (pc' := 10) (L' := [some (.ref q0), some (.int x1), some (.int x2), some (.int x3)]) (st' := [.ref q0]) rfl ?_
    obtain ⟨v_9908, e_9909, e⟩ := Option.bind_eq_some_iff.mp e
    refine Rn.hp hT rfl rfl (gR_hp e_9909) ?_
    refine Rn.n hT 5 (pc' := 18) (L' := [some (.ref q0), some (.int x1), some (.int x2), some (.int x3)]) (st' := [.int (((4 : Int32) * x2) + x1), .ref v_9908]) rfl ?_
    obtain ⟨v_9910, e_9911, e⟩ := Option.bind_eq_some_iff.mp e
    refine Rn.hp hT rfl rfl (aI_hp e_9911) ?_
    refine Rn.n hT 1 (pc' := 20) (L' := [some (.ref q0), some (.int x1), some (.int x2), some (.int x3)]) (st' := [.int (-1 : Int32), .int v_9910]) rfl ?_
    by_cases c_9912 : v_9910 = (-1 : Int32)
    · rw [if_pos c_9912] at e
      refine Rn.bf hT rfl rfl rfl (decide_eq_false (fun z => z c_9912)) ?_
      refine Rn.n hT 4 (pc' := 29) (L' := [some (.ref q0), some (.int x1), some (.int x2), some (.int x3)]) (st' := [.long (4 : Int64), .long (0 : Int64), .long ((x3).toInt64)]) rfl ?_
      obtain ⟨v_9914, e_9913, e⟩ := Option.bind_eq_some_iff.mp e
      refine Rn.call hT rfl rfl rfl (Nat.le_of_ble_eq_true rfl) rfl (rX12_in (by omega) e_9913 ?_)
      show Rn d _ _ 32 [some (.ref q0), some (.int x1), some (.int x2), some (.int x3)] [.int v_9914] h Q
      by_cases c_9915 : v_9914 = 0
      · rw [if_pos c_9915] at e
        refine Rn.bf hT rfl rfl rfl (decide_eq_false (fun z => z c_9915)) ?_
        exact Rn.weak (ll_n (ll_n (ll_n (ll_n ll_e)))) (rX12_built_b35 hd hq e)
      · rw [if_neg c_9915] at e
        refine Rn.bt hT rfl rfl rfl (decide_eq_true c_9915) ?_
        refine Rn.n hT 1 (pc' := 38) (L' := [some (.ref q0), some (.int x1), some (.int x2), some (.int x3)]) (st' := [.int x3]) rfl ?_
        by_cases c_9916 : x3 = 0
        · rw [if_pos c_9916] at e
          refine Rn.bf hT rfl rfl rfl (decide_eq_false (fun z => z c_9916)) ?_
          refine Rn.n hT 6 (pc' := 47) (L' := [some (.ref q0), some (.int x1), some (.int x2), some (.int x3)]) (st' := [.int (((4 : Int32) * x2) + x1), .ref q0]) rfl ?_
          obtain ⟨_, e_9921, e⟩ := Option.bind_eq_some_iff.mp e
          obtain ⟨⟨v_9922, h_9923⟩, e_9920, e⟩ := Option.bind_eq_some_iff.mp e
          try dsimp only at e
          try dsimp only at e
          refine Rn.call hT rfl rfl rfl (Nat.le_of_ble_eq_true rfl) (rcv_v gX12_builtMismatches (by omega) e_9921) (rX12_builtMismatches (by omega) e_9920 ?_)
          show Rn d _ _ 50 [some (.ref q0), some (.int x1), some (.int x2), some (.int x3)] [.int v_9922] h_9923 Q
          refine Rn.n hT 1 (pc' := 65) (L' := [some (.ref q0), some (.int x1), some (.int x2), some (.int x3)]) (st' := [.int v_9922]) rfl ?_
          exact Rn.weak (ll_n (ll_n (ll_n (ll_n ll_e)))) (rX12_built_b65 hd hq e)
        · rw [if_neg c_9916] at e
          refine Rn.bt hT rfl rfl rfl (decide_eq_true c_9916) ?_
          refine Rn.n hT 9 (pc' := 62) (L' := [some (.ref q0), some (.int x1), some (.int x2), some (.int x3)]) (st' := [.int (x3 - (1 : Int32)), .int (((4 : Int32) * x2) + x1), .ref q0]) rfl ?_
          obtain ⟨_, e_9918, e⟩ := Option.bind_eq_some_iff.mp e
          obtain ⟨v_9919, e_9917, e⟩ := Option.bind_eq_some_iff.mp e
          refine Rn.call hT rfl rfl rfl (Nat.le_of_ble_eq_true rfl) (rcv_v gX12_builtSide (by omega) e_9918) (rX12_builtSide (by omega) e_9917 ?_)
          show Rn d _ _ 65 [some (.ref q0), some (.int x1), some (.int x2), some (.int x3)] [.int v_9919] h Q
          exact Rn.weak (ll_n (ll_n (ll_n (ll_n ll_e)))) (rX12_built_b65 hd hq e)
    · rw [if_neg c_9912] at e
      refine Rn.bt hT rfl rfl rfl (decide_eq_true c_9912) ?_
      exact Rn.weak (ll_n (ll_n (ll_n (ll_n ll_e)))) (rX12_built_b35 hd hq e)
set_option maxRecDepth 10000 in
theorem hX12_best : iv_Tb 338 tX12_best := iv_tb_of (m := mX12_best) rfl
set_option maxRecDepth 10000 in
theorem gX12_best : PG.2 338 = some mX12_best := iv_pi_of (t := tX12_best) rfl (by decide)
def fX12_best_b59 (N : Nat) (h : iv_H) (q0 : Nat) (x1 : Int32) (x2 : Int32)  (kb : iv_H → Int32 → Int32 → Option (Int32 × iv_H)) (kx : iv_H → Int32 → Option (Int32 × iv_H)) : Option (Int32 × iv_H) := (kb h x1 (x2 + (1 : Int32)))
set_option maxRecDepth 10000 in
set_option maxHeartbeats 4000000 in
theorem rX12_best_b59 {d N : Nat} (hd : 7 ≤ d) {h : iv_H} {q0 : Nat} {x1 : Int32} {x2 : Int32}  {kb : iv_H → Int32 → Int32 → Option (Int32 × iv_H)} {kx : iv_H → Int32 → Option (Int32 × iv_H)} {r : Int32 × iv_H} {Q : Option Value → iv_H → Prop} (hb : ∀ (h : iv_H) (w1 : Int32) (w2 : Int32), kb h w1 w2 = some r → Rn d 338 (some .int) 14 [some (.ref q0), some (.int w1), some (.int w2)] [] h Q) (hk : ∀ (h : iv_H) (w1 : Int32), kx h w1 = some r → Rn d 338 (some .int) 65 [none, some (.int w1), none] [] h Q) (hq : Q (some (.int r.1)) r.2) (e : fX12_best_b59 N h q0 x1 x2  kb kx = some r) : Rn d 338 (some .int) 59 [some (.ref q0), some (.int x1), some (.int x2)] [] h Q := by
  have hT := hX12_best
  unfold fX12_best_b59 at e
  refine Rn.n hT 2 (pc' := 14) (L' := [some (.ref q0), some (.int x1), some (.int (x2 + (1 : Int32)))]) (st' := []) rfl ?_
  exact Rn.weak (ll_s (ll_s (ll_s ll_e))) (hb h x1 (x2 + (1 : Int32)) e)
def fX12_best_b57 (N : Nat) (h : iv_H) (q0 : Nat) (x2 : Int32)  (kb : iv_H → Int32 → Int32 → Option (Int32 × iv_H)) (kx : iv_H → Int32 → Option (Int32 × iv_H)) : Option (Int32 × iv_H) := (fX12_best_b59 N h q0 x2 x2 kb kx)
set_option maxRecDepth 10000 in
set_option maxHeartbeats 4000000 in
theorem rX12_best_b57 {d N : Nat} (hd : 7 ≤ d) {h : iv_H} {q0 : Nat} {x2 : Int32}  {kb : iv_H → Int32 → Int32 → Option (Int32 × iv_H)} {kx : iv_H → Int32 → Option (Int32 × iv_H)} {r : Int32 × iv_H} {Q : Option Value → iv_H → Prop} (hb : ∀ (h : iv_H) (w1 : Int32) (w2 : Int32), kb h w1 w2 = some r → Rn d 338 (some .int) 14 [some (.ref q0), some (.int w1), some (.int w2)] [] h Q) (hk : ∀ (h : iv_H) (w1 : Int32), kx h w1 = some r → Rn d 338 (some .int) 65 [none, some (.int w1), none] [] h Q) (hq : Q (some (.int r.1)) r.2) (e : fX12_best_b57 N h q0 x2  kb kx = some r) : Rn d 338 (some .int) 57 [some (.ref q0), none, some (.int x2)] [] h Q := by
  have hT := hX12_best
  unfold fX12_best_b57 at e
  refine Rn.n hT 2 (pc' := 59) (L' := [some (.ref q0), some (.int x2), some (.int x2)]) (st' := []) rfl ?_
  exact Rn.weak (ll_s (ll_s (ll_s ll_e))) (rX12_best_b59 hd hb hk hq e)
def fX12_best_l14 (N : Nat) (q0 : Nat) (kx : iv_H → Int32 → Option (Int32 × iv_H)) : Nat → iv_H → Int32 → Int32 → Option (Int32 × iv_H)
  | 0, _, _, _ => none
  | n + 1, h, x1, x2 => (if (16 : Int32) ≤ x2 then (kx h x1) else ((cko h q0 12).bind fun _ => (fX12_isFloor N h q0 x2).bind fun v_9934 => (if v_9934 = 0 then (fX12_best_b59 N h q0 x1 x2 (fX12_best_l14 N q0 kx n) kx) else ((gR h 12 8 q0).bind fun v_9936 => ((aI h v_9936 x2).bind fun v_9938 => (if v_9938 = (-1 : Int32) then (if x1 = (-2 : Int32) then (fX12_best_b57 N h q0 x2 (fX12_best_l14 N q0 kx n) kx) else ((cko h q0 12).bind fun _ => (fX12_builtMismatches N h q0 x2).bind fun p_9952 => (fun (v_9944 : Int32) (h_9945 : iv_H) => ((cko h_9945 q0 12).bind fun _ => (fX12_builtMismatches N h_9945 q0 x1).bind fun p_9951 => (fun (v_9948 : Int32) (h_9949 : iv_H) => (if v_9948 ≤ v_9944 then (fX12_best_b59 N h_9949 q0 x1 x2 (fX12_best_l14 N q0 kx n) kx) else (fX12_best_b57 N h_9949 q0 x2 (fX12_best_l14 N q0 kx n) kx))) p_9951.1 p_9951.2)) p_9952.1 p_9952.2)) else (fX12_best_b59 N h q0 x1 x2 (fX12_best_l14 N q0 kx n) kx)))))))
set_option maxRecDepth 10000 in
set_option maxHeartbeats 4000000 in
theorem rX12_best_l14 {d N : Nat} (hd : 7 ≤ d) {q0 : Nat} {kx : iv_H → Int32 → Option (Int32 × iv_H)} {r : Int32 × iv_H} {Q : Option Value → iv_H → Prop} (hk : ∀ (h : iv_H) (x1 : Int32), kx h x1 = some r → Rn d 338 (some .int) 65 [none, some (.int x1), none] [] h Q) (hq : Q (some (.int r.1)) r.2) : ∀ (n : Nat) (h : iv_H) (x1 : Int32) (x2 : Int32), fX12_best_l14 N q0 kx n h x1 x2 = some r → Rn d 338 (some .int) 14 [some (.ref q0), some (.int x1), some (.int x2)] [] h Q := by
  have hT := hX12_best
  intro n
  induction n with
  | zero =>
    intro h x1 x2 e
    rw [fX12_best_l14] at e
    cases e
  | succ n ih =>
    intro h x1 x2 e
    rw [fX12_best_l14] at e
    refine Rn.n hT 2 (pc' := 17) (L' := [some (.ref q0), some (.int x1), some (.int x2)]) (st' := [.int (16 : Int32), .int x2]) rfl ?_
    by_cases c_9931 : (16 : Int32) ≤ x2
    · rw [if_pos c_9931] at e
      refine Rn.bt hT rfl rfl rfl (decide_eq_true c_9931) ?_
      exact Rn.weak (ll_n (ll_s (ll_n ll_e))) (hk h x1 e)
    · rw [if_neg c_9931] at e
      refine Rn.bf hT rfl rfl rfl (decide_eq_false c_9931) ?_
      refine Rn.n hT 2 (pc' := 22) (L' := [some (.ref q0), some (.int x1), some (.int x2)]) (st' := [.int x2, .ref q0]) rfl ?_
      obtain ⟨_, e_9933, e⟩ := Option.bind_eq_some_iff.mp e
      obtain ⟨v_9934, e_9932, e⟩ := Option.bind_eq_some_iff.mp e
      refine Rn.call hT rfl rfl rfl (Nat.le_of_ble_eq_true rfl) (rcv_v gX12_isFloor (by omega) e_9933) (rX12_isFloor (by omega) e_9932 ?_)
      show Rn d _ _ 25 [some (.ref q0), some (.int x1), some (.int x2)] [.int v_9934] h Q
      by_cases c_9935 : v_9934 = 0
      · rw [if_pos c_9935] at e
        refine Rn.bt hT rfl rfl rfl (decide_eq_true c_9935) ?_
        exact Rn.weak (ll_s (ll_s (ll_s ll_e))) (rX12_best_b59 hd ih hk hq e)
      · rw [if_neg c_9935] at e
        refine Rn.bf hT rfl rfl rfl (decide_eq_false c_9935) ?_
        refine Rn.n hT 1 (pc' := 29) (L' := [some (.ref q0), some (.int x1), some (.int x2)]) (st' := [.ref q0]) rfl ?_
        obtain ⟨v_9936, e_9937, e⟩ := Option.bind_eq_some_iff.mp e
        refine Rn.hp hT rfl rfl (gR_hp e_9937) ?_
        refine Rn.n hT 1 (pc' := 33) (L' := [some (.ref q0), some (.int x1), some (.int x2)]) (st' := [.int x2, .ref v_9936]) rfl ?_
        obtain ⟨v_9938, e_9939, e⟩ := Option.bind_eq_some_iff.mp e
        refine Rn.hp hT rfl rfl (aI_hp e_9939) ?_
        refine Rn.n hT 1 (pc' := 35) (L' := [some (.ref q0), some (.int x1), some (.int x2)]) (st' := [.int (-1 : Int32), .int v_9938]) rfl ?_
        by_cases c_9940 : v_9938 = (-1 : Int32)
        · rw [if_pos c_9940] at e
          refine Rn.bf hT rfl rfl rfl (decide_eq_false (fun z => z c_9940)) ?_
          refine Rn.n hT 2 (pc' := 41) (L' := [some (.ref q0), some (.int x1), some (.int x2)]) (st' := [.int (-2 : Int32), .int x1]) rfl ?_
          by_cases c_9941 : x1 = (-2 : Int32)
          · rw [if_pos c_9941] at e
            refine Rn.bt hT rfl rfl rfl (decide_eq_true c_9941) ?_
            exact Rn.weak (ll_s (ll_n (ll_s ll_e))) (rX12_best_b57 hd ih hk hq e)
          · rw [if_neg c_9941] at e
            refine Rn.bf hT rfl rfl rfl (decide_eq_false c_9941) ?_
            refine Rn.n hT 2 (pc' := 46) (L' := [some (.ref q0), some (.int x1), some (.int x2)]) (st' := [.int x2, .ref q0]) rfl ?_
            obtain ⟨_, e_9943, e⟩ := Option.bind_eq_some_iff.mp e
            obtain ⟨⟨v_9944, h_9945⟩, e_9942, e⟩ := Option.bind_eq_some_iff.mp e
            try dsimp only at e
            try dsimp only at e
            refine Rn.call hT rfl rfl rfl (Nat.le_of_ble_eq_true rfl) (rcv_v gX12_builtMismatches (by omega) e_9943) (rX12_builtMismatches (by omega) e_9942 ?_)
            show Rn d _ _ 49 [some (.ref q0), some (.int x1), some (.int x2)] [.int v_9944] h_9945 Q
            refine Rn.n hT 2 (pc' := 51) (L' := [some (.ref q0), some (.int x1), some (.int x2)]) (st' := [.int x1, .ref q0, .int v_9944]) rfl ?_
            obtain ⟨_, e_9947, e⟩ := Option.bind_eq_some_iff.mp e
            obtain ⟨⟨v_9948, h_9949⟩, e_9946, e⟩ := Option.bind_eq_some_iff.mp e
            try dsimp only at e
            try dsimp only at e
            refine Rn.call hT rfl rfl rfl (Nat.le_of_ble_eq_true rfl) (rcv_v gX12_builtMismatches (by omega) e_9947) (rX12_builtMismatches (by omega) e_9946 ?_)
            show Rn d _ _ 54 [some (.ref q0), some (.int x1), some (.int x2)] [.int v_9948, .int v_9944] h_9949 Q
            by_cases c_9950 : v_9948 ≤ v_9944
            · rw [if_pos c_9950] at e
              refine Rn.bt hT rfl rfl rfl (decide_eq_true c_9950) ?_
              exact Rn.weak (ll_s (ll_s (ll_s ll_e))) (rX12_best_b59 hd ih hk hq e)
            · rw [if_neg c_9950] at e
              refine Rn.bf hT rfl rfl rfl (decide_eq_false c_9950) ?_
              exact Rn.weak (ll_s (ll_n (ll_s ll_e))) (rX12_best_b57 hd ih hk hq e)
        · rw [if_neg c_9940] at e
          refine Rn.bt hT rfl rfl rfl (decide_eq_true c_9940) ?_
          exact Rn.weak (ll_s (ll_s (ll_s ll_e))) (rX12_best_b59 hd ih hk hq e)
def fX12_best (N : Nat) (h : iv_H) (q0 : Nat) : Option (Int32 × iv_H) := ((cko h q0 12).bind fun _ => (fX12_isPalace N h q0).bind fun v_9927 => (if v_9927 = 0 then (some ((-1 : Int32), h)) else (fX12_best_l14 N q0 (fun (h_9929 : iv_H) (z_9930 : Int32) => (some (z_9930, h_9929))) N h (-2 : Int32) (0 : Int32))))
set_option maxRecDepth 10000 in
set_option maxHeartbeats 4000000 in
theorem rX12_best {d N : Nat} (hd : 8 ≤ d) {h : iv_H} {q0 : Nat} {r : Int32 × iv_H} {Q : Option Value → iv_H → Prop} (e : fX12_best N h q0 = some r) (hq : Q (some (.int r.1)) r.2) : Cl d 338 [.ref q0] h Q := by
  obtain ⟨d, rfl⟩ : ∃ k, d = k + 1 := ⟨d - 1, by omega⟩
  have hd : 7 ≤ d := by omega
  have hT := hX12_best
  unfold fX12_best at e
  refine Cl.into (by decide) gX12_best rfl ?_
  show Rn d 338 (some .int) 0 [some (.ref q0), none, none] [] h Q
  refine Rn.n hT 1 (pc' := 1) (L' := [some (.ref q0), none, none]) (st' := [.ref q0]) rfl ?_
  obtain ⟨_, e_9926, e⟩ := Option.bind_eq_some_iff.mp e
  obtain ⟨v_9927, e_9925, e⟩ := Option.bind_eq_some_iff.mp e
  refine Rn.call hT rfl rfl rfl (Nat.le_of_ble_eq_true rfl) (rcv_v gX12_isPalace (by omega) e_9926) (rX12_isPalace (by omega) e_9925 ?_)
  show Rn d _ _ 4 [some (.ref q0), none, none] [.int v_9927] h Q
  by_cases c_9928 : v_9927 = 0
  · rw [if_pos c_9928] at e
    refine Rn.bf hT rfl rfl rfl (decide_eq_false (fun z => z c_9928)) ?_
    refine Rn.n hT 1 (pc' := 8) (L' := [some (.ref q0), none, none]) (st' := [.int (-1 : Int32)]) rfl ?_
    obtain rfl := Option.some.inj e
    exact Rn.ret hT rfl rfl rfl hq
  · rw [if_neg c_9928] at e
    refine Rn.bt hT rfl rfl rfl (decide_eq_true c_9928) ?_
    refine Rn.n hT 4 (pc' := 14) (L' := [some (.ref q0), some (.int (-2 : Int32)), some (.int (0 : Int32))]) (st' := []) rfl ?_
    refine Rn.weak (ll_s (ll_s (ll_s ll_e))) (rX12_best_l14 hd (fun h_9929 z_9930 e => ?_) hq N h (-2 : Int32) (0 : Int32) e)
    try dsimp only at e
    refine Rn.n hT 1 (pc' := 66) (L' := [none, some (.int z_9930), none]) (st' := [.int z_9930]) rfl ?_
    obtain rfl := Option.some.inj e
    exact Rn.ret hT rfl rfl rfl hq
set_option maxRecDepth 10000 in
theorem hX12_seed : iv_Tb 339 tX12_seed := iv_tb_of (m := mX12_seed) rfl
set_option maxRecDepth 10000 in
theorem gX12_seed : PG.2 339 = some mX12_seed := iv_pi_of (t := tX12_seed) rfl (by decide)
def fX12_seed (N : Nat) (h : iv_H) (q0 : Nat) (x1 : Int32) : Option (Int32 × iv_H) := (if 0 ≤ x1 then ((gR h 12 1 q0).bind fun v_9954 => ((aI h v_9954 (13 : Int32)).bind fun v_9956 => ((gR h 12 1 q0).bind fun v_9958 => ((wI h v_9958 (13 : Int32) x1).bind fun h_9960 => (some (v_9956, h_9960)))))) else (some ((-1 : Int32), h)))
set_option maxRecDepth 10000 in
set_option maxHeartbeats 4000000 in
theorem rX12_seed {d N : Nat} (hd : 1 ≤ d) {h : iv_H} {q0 : Nat} {x1 : Int32} {r : Int32 × iv_H} {Q : Option Value → iv_H → Prop} (e : fX12_seed N h q0 x1 = some r) (hq : Q (some (.int r.1)) r.2) : Cl d 339 [.ref q0, .int x1] h Q := by
  obtain ⟨d, rfl⟩ : ∃ k, d = k + 1 := ⟨d - 1, by omega⟩
  have hd : 0 ≤ d := by omega
  have hT := hX12_seed
  unfold fX12_seed at e
  refine Cl.into (by decide) gX12_seed rfl ?_
  show Rn d 339 (some .int) 0 [some (.ref q0), some (.int x1), none] [] h Q
  refine Rn.n hT 1 (pc' := 1) (L' := [some (.ref q0), some (.int x1), none]) (st' := [.int x1]) rfl ?_
  by_cases c_9953 : 0 ≤ x1
  · rw [if_pos c_9953] at e
    refine Rn.bt hT rfl rfl rfl (decide_eq_true c_9953) ?_
    refine Rn.n hT 1 (pc' := 7) (L' := [some (.ref q0), some (.int x1), none]) (st' := [.ref q0]) rfl ?_
    obtain ⟨v_9954, e_9955, e⟩ := Option.bind_eq_some_iff.mp e
    refine Rn.hp hT rfl rfl (gR_hp e_9955) ?_
    refine Rn.n hT 1 (pc' := 12) (L' := [some (.ref q0), some (.int x1), none]) (st' := [.int (13 : Int32), .ref v_9954]) rfl ?_
    obtain ⟨v_9956, e_9957, e⟩ := Option.bind_eq_some_iff.mp e
    refine Rn.hp hT rfl rfl (aI_hp e_9957) ?_
    refine Rn.n hT 2 (pc' := 15) (L' := [some (.ref q0), some (.int x1), some (.int v_9956)]) (st' := [.ref q0]) rfl ?_
    obtain ⟨v_9958, e_9959, e⟩ := Option.bind_eq_some_iff.mp e
    refine Rn.hp hT rfl rfl (gR_hp e_9959) ?_
    refine Rn.n hT 2 (pc' := 21) (L' := [some (.ref q0), some (.int x1), some (.int v_9956)]) (st' := [.int x1, .int (13 : Int32), .ref v_9958]) rfl ?_
    obtain ⟨h_9960, e_9961, e⟩ := Option.bind_eq_some_iff.mp e
    refine Rn.hp hT rfl rfl (wI_hp e_9961) ?_
    refine Rn.n hT 1 (pc' := 23) (L' := [some (.ref q0), some (.int x1), some (.int v_9956)]) (st' := [.int v_9956]) rfl ?_
    obtain rfl := Option.some.inj e
    exact Rn.ret hT rfl rfl rfl hq
  · rw [if_neg c_9953] at e
    refine Rn.bf hT rfl rfl rfl (decide_eq_false c_9953) ?_
    refine Rn.n hT 1 (pc' := 5) (L' := [some (.ref q0), some (.int x1), none]) (st' := [.int (-1 : Int32)]) rfl ?_
    obtain rfl := Option.some.inj e
    exact Rn.ret hT rfl rfl rfl hq
set_option maxRecDepth 10000 in
theorem hX12_draws : iv_Tb 340 tX12_draws := iv_tb_of (m := mX12_draws) rfl
set_option maxRecDepth 10000 in
theorem gX12_draws : PG.2 340 = some mX12_draws := iv_pi_of (t := tX12_draws) rfl (by decide)
def fX12_draws (N : Nat) (h : iv_H) (q0 : Nat) (x1 : Int32) : Option (Int32 × iv_H) := ((gR h 12 1 q0).bind fun v_9962 => ((gR h 12 1 q0).bind fun v_9964 => ((aI h v_9964 (13 : Int32)).bind fun v_9966 => ((wI h v_9962 (13 : Int32) ((((((v_9966).toInt64 * (1103515245 : Int64)) + (12345 : Int64)) - (((v_9966).toInt64 * (1103515245 : Int64)) + (12345 : Int64)) / (2147483648 : Int64) * (2147483648 : Int64))).toInt32)).bind fun h_9968 => ((gR h_9968 12 1 q0).bind fun v_9970 => ((aI h_9968 v_9970 (13 : Int32)).bind fun v_9972 => (if x1 = 0 then none else (some (((v_9972 / (65536 : Int32)) - (v_9972 / (65536 : Int32)) / x1 * x1), h_9968)))))))))
set_option maxRecDepth 10000 in
set_option maxHeartbeats 4000000 in
theorem rX12_draws {d N : Nat} (hd : 1 ≤ d) {h : iv_H} {q0 : Nat} {x1 : Int32} {r : Int32 × iv_H} {Q : Option Value → iv_H → Prop} (e : fX12_draws N h q0 x1 = some r) (hq : Q (some (.int r.1)) r.2) : Cl d 340 [.ref q0, .int x1] h Q := by
  obtain ⟨d, rfl⟩ : ∃ k, d = k + 1 := ⟨d - 1, by omega⟩
  have hd : 0 ≤ d := by omega
  have hT := hX12_draws
  unfold fX12_draws at e
  refine Cl.into (by decide) gX12_draws rfl ?_
  show Rn d 340 (some .int) 0 [some (.ref q0), some (.int x1)] [] h Q
  refine Rn.n hT 1 (pc' := 1) (L' := [some (.ref q0), some (.int x1)]) (st' := [.ref q0]) rfl ?_
  obtain ⟨v_9962, e_9963, e⟩ := Option.bind_eq_some_iff.mp e
  refine Rn.hp hT rfl rfl (gR_hp e_9963) ?_
  refine Rn.n hT 2 (pc' := 7) (L' := [some (.ref q0), some (.int x1)]) (st' := [.ref q0, .int (13 : Int32), .ref v_9962]) rfl ?_
  obtain ⟨v_9964, e_9965, e⟩ := Option.bind_eq_some_iff.mp e
  refine Rn.hp hT rfl rfl (gR_hp e_9965) ?_
  refine Rn.n hT 1 (pc' := 12) (L' := [some (.ref q0), some (.int x1)]) (st' := [.int (13 : Int32), .ref v_9964, .int (13 : Int32), .ref v_9962]) rfl ?_
  obtain ⟨v_9966, e_9967, e⟩ := Option.bind_eq_some_iff.mp e
  refine Rn.hp hT rfl rfl (aI_hp e_9967) ?_
  refine Rn.n hT 8 (pc' := 27) (L' := [some (.ref q0), some (.int x1)]) (st' := [.int ((((((v_9966).toInt64 * (1103515245 : Int64)) + (12345 : Int64)) - (((v_9966).toInt64 * (1103515245 : Int64)) + (12345 : Int64)) / (2147483648 : Int64) * (2147483648 : Int64))).toInt32), .int (13 : Int32), .ref v_9962]) rfl ?_
  obtain ⟨h_9968, e_9969, e⟩ := Option.bind_eq_some_iff.mp e
  refine Rn.hp hT rfl rfl (wI_hp e_9969) ?_
  refine Rn.n hT 1 (pc' := 29) (L' := [some (.ref q0), some (.int x1)]) (st' := [.ref q0]) rfl ?_
  obtain ⟨v_9970, e_9971, e⟩ := Option.bind_eq_some_iff.mp e
  refine Rn.hp hT rfl rfl (gR_hp e_9971) ?_
  refine Rn.n hT 1 (pc' := 34) (L' := [some (.ref q0), some (.int x1)]) (st' := [.int (13 : Int32), .ref v_9970]) rfl ?_
  obtain ⟨v_9972, e_9973, e⟩ := Option.bind_eq_some_iff.mp e
  refine Rn.hp hT rfl rfl (aI_hp e_9973) ?_
  refine Rn.n hT 3 (pc' := 40) (L' := [some (.ref q0), some (.int x1)]) (st' := [.int x1, .int (v_9972 / (65536 : Int32))]) rfl ?_
  by_cases c_9974 : x1 = 0
  · rw [if_pos c_9974] at e
    cases e
  · rw [if_neg c_9974] at e
    refine Rn.pu hT rfl rfl (st' := [.int ((v_9972 / (65536 : Int32)) - (v_9972 / (65536 : Int32)) / x1 * x1)]) (if_neg c_9974) ?_
    obtain rfl := Option.some.inj e
    exact Rn.ret hT rfl rfl rfl hq
set_option maxRecDepth 10000 in
theorem hX12_drawnNights : iv_Tb 341 tX12_drawnNights := iv_tb_of (m := mX12_drawnNights) rfl
set_option maxRecDepth 10000 in
theorem gX12_drawnNights : PG.2 341 = some mX12_drawnNights := iv_pi_of (t := tX12_drawnNights) rfl (by decide)
def fX12_drawnNights_b37 (N : Nat) (h : iv_H) (q0 : Nat) (x1 : Int32) (x2 : Int32) (x3 : Int32)  (kb : iv_H → Int32 → Int32 → Option (Int32 × iv_H)) (kx : iv_H → Int32 → Option (Int32 × iv_H)) : Option (Int32 × iv_H) := ((gR h 12 1 q0).bind fun v_10004 => ((aI h v_10004 (6 : Int32)).bind fun v_10006 => ((wI h v_10004 (6 : Int32) (v_10006 + (1 : Int32))).bind fun h_10008 => (kb h_10008 x2 (x3 + (1 : Int32))))))
set_option maxRecDepth 10000 in
set_option maxHeartbeats 4000000 in
theorem rX12_drawnNights_b37 {d N : Nat} (hd : 9 ≤ d) {h : iv_H} {q0 : Nat} {x1 : Int32} {x2 : Int32} {x3 : Int32}  {kb : iv_H → Int32 → Int32 → Option (Int32 × iv_H)} {kx : iv_H → Int32 → Option (Int32 × iv_H)} {r : Int32 × iv_H} {Q : Option Value → iv_H → Prop} (hb : ∀ (h : iv_H) (w2 : Int32) (w3 : Int32), kb h w2 w3 = some r → Rn d 341 (some .int) 4 [some (.ref q0), some (.int x1), some (.int w2), some (.int w3), none] [] h Q) (hk : ∀ (h : iv_H) (w2 : Int32), kx h w2 = some r → Rn d 341 (some .int) 54 [some (.ref q0), some (.int x1), some (.int w2), none, none] [] h Q) (hq : Q (some (.int r.1)) r.2) (e : fX12_drawnNights_b37 N h q0 x1 x2 x3  kb kx = some r) : Rn d 341 (some .int) 37 [some (.ref q0), some (.int x1), some (.int x2), some (.int x3), none] [] h Q := by
  have hT := hX12_drawnNights
  unfold fX12_drawnNights_b37 at e
  refine Rn.n hT 1 (pc' := 38) (L' := [some (.ref q0), some (.int x1), some (.int x2), some (.int x3), none]) (st' := [.ref q0]) rfl ?_
  obtain ⟨v_10004, e_10005, e⟩ := Option.bind_eq_some_iff.mp e
  refine Rn.hp hT rfl rfl (gR_hp e_10005) ?_
  refine Rn.n hT 2 (pc' := 44) (L' := [some (.ref q0), some (.int x1), some (.int x2), some (.int x3), none]) (st' := [.int (6 : Int32), .ref v_10004, .int (6 : Int32), .ref v_10004]) rfl ?_
  obtain ⟨v_10006, e_10007, e⟩ := Option.bind_eq_some_iff.mp e
  refine Rn.hp hT rfl rfl (aI_hp e_10007) ?_
  refine Rn.n hT 2 (pc' := 47) (L' := [some (.ref q0), some (.int x1), some (.int x2), some (.int x3), none]) (st' := [.int (v_10006 + (1 : Int32)), .int (6 : Int32), .ref v_10004]) rfl ?_
  obtain ⟨h_10008, e_10009, e⟩ := Option.bind_eq_some_iff.mp e
  refine Rn.hp hT rfl rfl (wI_hp e_10009) ?_
  refine Rn.n hT 2 (pc' := 4) (L' := [some (.ref q0), some (.int x1), some (.int x2), some (.int (x3 + (1 : Int32))), none]) (st' := []) rfl ?_
  exact Rn.weak (ll_s (ll_s (ll_s (ll_s (ll_n ll_e))))) (hb h_10008 x2 (x3 + (1 : Int32)) e)
def fX12_drawnNights_l4 (N : Nat) (q0 : Nat) (x1 : Int32) (kx : iv_H → Int32 → Option (Int32 × iv_H)) : Nat → iv_H → Int32 → Int32 → Option (Int32 × iv_H)
  | 0, _, _, _ => none
  | n + 1, h, x2, x3 => (if x1 ≤ x3 then (kx h x2) else ((cko h q0 12).bind fun _ => (fX12_canNow N h q0).bind fun p_10003 => (fun (v_9986 : Int32) (h_9987 : iv_H) => (if v_9986 ≤ 0 then (fX12_drawnNights_b37 N h_9987 q0 x1 x2 x3 (fX12_drawnNights_l4 N q0 x1 kx n) kx) else ((cko h_9987 q0 12).bind fun _ => (fX12_draws N h_9987 q0 v_9986).bind fun p_10002 => (fun (v_9991 : Int32) (h_9992 : iv_H) => ((cko h_9992 q0 12).bind fun _ => (fX12_codeAt N h_9992 q0 v_9991).bind fun p_10001 => (fun (v_9995 : Int32) (h_9996 : iv_H) => ((cko h_9996 q0 12).bind fun _ => (fX12_does N h_9996 q0 v_9995).bind fun h_10000 => (fX12_drawnNights_b37 N h_10000 q0 x1 (x2 + (1 : Int32)) x3 (fX12_drawnNights_l4 N q0 x1 kx n) kx))) p_10001.1 p_10001.2)) p_10002.1 p_10002.2))) p_10003.1 p_10003.2))
set_option maxRecDepth 10000 in
set_option maxHeartbeats 4000000 in
theorem rX12_drawnNights_l4 {d N : Nat} (hd : 9 ≤ d) {q0 : Nat} {x1 : Int32} {kx : iv_H → Int32 → Option (Int32 × iv_H)} {r : Int32 × iv_H} {Q : Option Value → iv_H → Prop} (hk : ∀ (h : iv_H) (x2 : Int32), kx h x2 = some r → Rn d 341 (some .int) 54 [some (.ref q0), some (.int x1), some (.int x2), none, none] [] h Q) (hq : Q (some (.int r.1)) r.2) : ∀ (n : Nat) (h : iv_H) (x2 : Int32) (x3 : Int32), fX12_drawnNights_l4 N q0 x1 kx n h x2 x3 = some r → Rn d 341 (some .int) 4 [some (.ref q0), some (.int x1), some (.int x2), some (.int x3), none] [] h Q := by
  have hT := hX12_drawnNights
  intro n
  induction n with
  | zero =>
    intro h x2 x3 e
    rw [fX12_drawnNights_l4] at e
    cases e
  | succ n ih =>
    intro h x2 x3 e
    rw [fX12_drawnNights_l4] at e
    refine Rn.n hT 2 (pc' := 6) (L' := [some (.ref q0), some (.int x1), some (.int x2), some (.int x3), none]) (st' := [.int x1, .int x3]) rfl ?_
    by_cases c_9983 : x1 ≤ x3
    · rw [if_pos c_9983] at e
      refine Rn.bt hT rfl rfl rfl (decide_eq_true c_9983) ?_
      exact Rn.weak (ll_s (ll_s (ll_s (ll_n (ll_n ll_e))))) (hk h x2 e)
    · rw [if_neg c_9983] at e
      refine Rn.bf hT rfl rfl rfl (decide_eq_false c_9983) ?_
      refine Rn.n hT 1 (pc' := 10) (L' := [some (.ref q0), some (.int x1), some (.int x2), some (.int x3), none]) (st' := [.ref q0]) rfl ?_
      obtain ⟨_, e_9985, e⟩ := Option.bind_eq_some_iff.mp e
      obtain ⟨⟨v_9986, h_9987⟩, e_9984, e⟩ := Option.bind_eq_some_iff.mp e
      try dsimp only at e
      try dsimp only at e
      refine Rn.call hT rfl rfl rfl (Nat.le_of_ble_eq_true rfl) (rcv_v gX12_canNow (by omega) e_9985) (rX12_canNow (by omega) e_9984 ?_)
      show Rn d _ _ 13 [some (.ref q0), some (.int x1), some (.int x2), some (.int x3), none] [.int v_9986] h_9987 Q
      refine Rn.n hT 2 (pc' := 17) (L' := [some (.ref q0), some (.int x1), some (.int x2), some (.int x3), some (.int v_9986)]) (st' := [.int v_9986]) rfl ?_
      by_cases c_9988 : v_9986 ≤ 0
      · rw [if_pos c_9988] at e
        refine Rn.bt hT rfl rfl rfl (decide_eq_true c_9988) ?_
        exact Rn.weak (ll_s (ll_s (ll_s (ll_s (ll_n ll_e))))) (rX12_drawnNights_b37 hd ih hk hq e)
      · rw [if_neg c_9988] at e
        refine Rn.bf hT rfl rfl rfl (decide_eq_false c_9988) ?_
        refine Rn.n hT 4 (pc' := 25) (L' := [some (.ref q0), some (.int x1), some (.int x2), some (.int x3), some (.int v_9986)]) (st' := [.int v_9986, .ref q0, .ref q0, .ref q0]) rfl ?_
        obtain ⟨_, e_9990, e⟩ := Option.bind_eq_some_iff.mp e
        obtain ⟨⟨v_9991, h_9992⟩, e_9989, e⟩ := Option.bind_eq_some_iff.mp e
        try dsimp only at e
        try dsimp only at e
        refine Rn.call hT rfl rfl rfl (Nat.le_of_ble_eq_true rfl) (rcv_v gX12_draws (by omega) e_9990) (rX12_draws (by omega) e_9989 ?_)
        show Rn d _ _ 28 [some (.ref q0), some (.int x1), some (.int x2), some (.int x3), some (.int v_9986)] [.int v_9991, .ref q0, .ref q0] h_9992 Q
        obtain ⟨_, e_9994, e⟩ := Option.bind_eq_some_iff.mp e
        obtain ⟨⟨v_9995, h_9996⟩, e_9993, e⟩ := Option.bind_eq_some_iff.mp e
        try dsimp only at e
        try dsimp only at e
        refine Rn.call hT rfl rfl rfl (Nat.le_of_ble_eq_true rfl) (rcv_v gX12_codeAt (by omega) e_9994) (rX12_codeAt (by omega) e_9993 ?_)
        show Rn d _ _ 31 [some (.ref q0), some (.int x1), some (.int x2), some (.int x3), some (.int v_9986)] [.int v_9995, .ref q0] h_9996 Q
        obtain ⟨_, e_9998, e⟩ := Option.bind_eq_some_iff.mp e
        obtain ⟨h_10000, e_9997, e⟩ := Option.bind_eq_some_iff.mp e
        refine Rn.call hT rfl rfl rfl (Nat.le_of_ble_eq_true rfl) (rcv_v gX12_does (by omega) e_9998) (rX12_does (by omega) e_9997 ?_)
        show Rn d _ _ 34 [some (.ref q0), some (.int x1), some (.int x2), some (.int x3), some (.int v_9986)] [] h_10000 Q
        refine Rn.n hT 1 (pc' := 37) (L' := [some (.ref q0), some (.int x1), some (.int (x2 + (1 : Int32))), some (.int x3), some (.int v_9986)]) (st' := []) rfl ?_
        exact Rn.weak (ll_s (ll_s (ll_s (ll_s (ll_n ll_e))))) (rX12_drawnNights_b37 hd ih hk hq e)
def fX12_drawnNights (N : Nat) (h : iv_H) (q0 : Nat) (x1 : Int32) : Option (Int32 × iv_H) := (fX12_drawnNights_l4 N q0 x1 (fun (h_9975 : iv_H) (z_9976 : Int32) => ((gR h_9975 12 1 q0).bind fun v_9977 => ((aI h_9975 v_9977 (6 : Int32)).bind fun v_9979 => ((wI h_9975 v_9977 (6 : Int32) (v_9979 - x1)).bind fun h_9981 => (some (z_9976, h_9981)))))) N h (0 : Int32) (0 : Int32))
set_option maxRecDepth 10000 in
set_option maxHeartbeats 4000000 in
theorem rX12_drawnNights {d N : Nat} (hd : 10 ≤ d) {h : iv_H} {q0 : Nat} {x1 : Int32} {r : Int32 × iv_H} {Q : Option Value → iv_H → Prop} (e : fX12_drawnNights N h q0 x1 = some r) (hq : Q (some (.int r.1)) r.2) : Cl d 341 [.ref q0, .int x1] h Q := by
  obtain ⟨d, rfl⟩ : ∃ k, d = k + 1 := ⟨d - 1, by omega⟩
  have hd : 9 ≤ d := by omega
  have hT := hX12_drawnNights
  unfold fX12_drawnNights at e
  refine Cl.into (by decide) gX12_drawnNights rfl ?_
  show Rn d 341 (some .int) 0 [some (.ref q0), some (.int x1), none, none, none] [] h Q
  refine Rn.n hT 4 (pc' := 4) (L' := [some (.ref q0), some (.int x1), some (.int (0 : Int32)), some (.int (0 : Int32)), none]) (st' := []) rfl ?_
  refine Rn.weak (ll_s (ll_s (ll_s (ll_s (ll_n ll_e))))) (rX12_drawnNights_l4 hd (fun h_9975 z_9976 e => ?_) hq N h (0 : Int32) (0 : Int32) e)
  try dsimp only at e
  refine Rn.n hT 1 (pc' := 55) (L' := [some (.ref q0), some (.int x1), some (.int z_9976), none, none]) (st' := [.ref q0]) rfl ?_
  obtain ⟨v_9977, e_9978, e⟩ := Option.bind_eq_some_iff.mp e
  refine Rn.hp hT rfl rfl (gR_hp e_9978) ?_
  refine Rn.n hT 2 (pc' := 61) (L' := [some (.ref q0), some (.int x1), some (.int z_9976), none, none]) (st' := [.int (6 : Int32), .ref v_9977, .int (6 : Int32), .ref v_9977]) rfl ?_
  obtain ⟨v_9979, e_9980, e⟩ := Option.bind_eq_some_iff.mp e
  refine Rn.hp hT rfl rfl (aI_hp e_9980) ?_
  refine Rn.n hT 2 (pc' := 64) (L' := [some (.ref q0), some (.int x1), some (.int z_9976), none, none]) (st' := [.int (v_9979 - x1), .int (6 : Int32), .ref v_9977]) rfl ?_
  obtain ⟨h_9981, e_9982, e⟩ := Option.bind_eq_some_iff.mp e
  refine Rn.hp hT rfl rfl (wI_hp e_9982) ?_
  refine Rn.n hT 1 (pc' := 66) (L' := [some (.ref q0), some (.int x1), some (.int z_9976), none, none]) (st' := [.int z_9976]) rfl ?_
  obtain rfl := Option.some.inj e
  exact Rn.ret hT rfl rfl rfl hq
set_option maxRecDepth 10000 in
theorem hX12_areDoorToDoor : iv_Tb 342 tX12_areDoorToDoor := iv_tb_of (m := mX12_areDoorToDoor) rfl
set_option maxRecDepth 10000 in
theorem gX12_areDoorToDoor : PG.2 342 = some mX12_areDoorToDoor := iv_pi_of (t := tX12_areDoorToDoor) rfl (by decide)
def fX12_areDoorToDoor_b41 (N : Nat) (h : iv_H) (q0 : Nat) (x1 : Int32) (x2 : Int32) (x4 : Int32) (s0 : Int32) (kb : Int32 → Int32 → Option (Int32)) (kx : Int32 → Option (Int32)) : Option (Int32) := (kb s0 (x4 + (1 : Int32)))
set_option maxRecDepth 10000 in
set_option maxHeartbeats 4000000 in
theorem rX12_areDoorToDoor_b41 {d N : Nat} (hd : 5 ≤ d) {h : iv_H} {q0 : Nat} {x1 : Int32} {x2 : Int32} {x4 : Int32} {s0 : Int32} {kb : Int32 → Int32 → Option (Int32)} {kx : Int32 → Option (Int32)} {r : Int32} {Q : Option Value → iv_H → Prop} (hb : ∀ (w3 : Int32) (w4 : Int32), kb w3 w4 = some r → Rn d 342 (some .boolean) 5 [some (.ref q0), some (.int x1), some (.int x2), some (.int w3), some (.int w4)] [] h Q) (hk : ∀ (w3 : Int32), kx w3 = some r → Rn d 342 (some .boolean) 48 [none, none, none, some (.int w3), none] [] h Q) (hq : Q (some (.int r)) h) (e : fX12_areDoorToDoor_b41 N h q0 x1 x2 x4 s0 kb kx = some r) : Rn d 342 (some .boolean) 41 [some (.ref q0), some (.int x1), some (.int x2), none, some (.int x4)] [.int s0] h Q := by
  have hT := hX12_areDoorToDoor
  unfold fX12_areDoorToDoor_b41 at e
  refine Rn.n hT 3 (pc' := 5) (L' := [some (.ref q0), some (.int x1), some (.int x2), some (.int s0), some (.int (x4 + (1 : Int32)))]) (st' := []) rfl ?_
  exact Rn.weak (ll_s (ll_s (ll_s (ll_s (ll_s ll_e))))) (hb s0 (x4 + (1 : Int32)) e)
def fX12_areDoorToDoor_b36 (N : Nat) (h : iv_H) (q0 : Nat) (x1 : Int32) (x2 : Int32) (x4 : Int32)  (kb : Int32 → Int32 → Option (Int32)) (kx : Int32 → Option (Int32)) : Option (Int32) := (fX12_areDoorToDoor_b41 N h q0 x1 x2 x4 (1 : Int32) kb kx)
set_option maxRecDepth 10000 in
set_option maxHeartbeats 4000000 in
theorem rX12_areDoorToDoor_b36 {d N : Nat} (hd : 5 ≤ d) {h : iv_H} {q0 : Nat} {x1 : Int32} {x2 : Int32} {x4 : Int32}  {kb : Int32 → Int32 → Option (Int32)} {kx : Int32 → Option (Int32)} {r : Int32} {Q : Option Value → iv_H → Prop} (hb : ∀ (w3 : Int32) (w4 : Int32), kb w3 w4 = some r → Rn d 342 (some .boolean) 5 [some (.ref q0), some (.int x1), some (.int x2), some (.int w3), some (.int w4)] [] h Q) (hk : ∀ (w3 : Int32), kx w3 = some r → Rn d 342 (some .boolean) 48 [none, none, none, some (.int w3), none] [] h Q) (hq : Q (some (.int r)) h) (e : fX12_areDoorToDoor_b36 N h q0 x1 x2 x4  kb kx = some r) : Rn d 342 (some .boolean) 36 [some (.ref q0), some (.int x1), some (.int x2), none, some (.int x4)] [] h Q := by
  have hT := hX12_areDoorToDoor
  unfold fX12_areDoorToDoor_b36 at e
  refine Rn.n hT 2 (pc' := 41) (L' := [some (.ref q0), some (.int x1), some (.int x2), none, some (.int x4)]) (st' := [.int (1 : Int32)]) rfl ?_
  exact Rn.weak (ll_s (ll_s (ll_s (ll_n (ll_s ll_e))))) (rX12_areDoorToDoor_b41 hd hb hk hq e)
def fX12_areDoorToDoor_b40 (N : Nat) (h : iv_H) (q0 : Nat) (x1 : Int32) (x2 : Int32) (x4 : Int32)  (kb : Int32 → Int32 → Option (Int32)) (kx : Int32 → Option (Int32)) : Option (Int32) := (fX12_areDoorToDoor_b41 N h q0 x1 x2 x4 (0 : Int32) kb kx)
set_option maxRecDepth 10000 in
set_option maxHeartbeats 4000000 in
theorem rX12_areDoorToDoor_b40 {d N : Nat} (hd : 5 ≤ d) {h : iv_H} {q0 : Nat} {x1 : Int32} {x2 : Int32} {x4 : Int32}  {kb : Int32 → Int32 → Option (Int32)} {kx : Int32 → Option (Int32)} {r : Int32} {Q : Option Value → iv_H → Prop} (hb : ∀ (w3 : Int32) (w4 : Int32), kb w3 w4 = some r → Rn d 342 (some .boolean) 5 [some (.ref q0), some (.int x1), some (.int x2), some (.int w3), some (.int w4)] [] h Q) (hk : ∀ (w3 : Int32), kx w3 = some r → Rn d 342 (some .boolean) 48 [none, none, none, some (.int w3), none] [] h Q) (hq : Q (some (.int r)) h) (e : fX12_areDoorToDoor_b40 N h q0 x1 x2 x4  kb kx = some r) : Rn d 342 (some .boolean) 40 [some (.ref q0), some (.int x1), some (.int x2), none, some (.int x4)] [] h Q := by
  have hT := hX12_areDoorToDoor
  unfold fX12_areDoorToDoor_b40 at e
  refine Rn.n hT 1 (pc' := 41) (L' := [some (.ref q0), some (.int x1), some (.int x2), none, some (.int x4)]) (st' := [.int (0 : Int32)]) rfl ?_
  exact Rn.weak (ll_s (ll_s (ll_s (ll_n (ll_s ll_e))))) (rX12_areDoorToDoor_b41 hd hb hk hq e)
def fX12_areDoorToDoor_l5 (N : Nat) (h : iv_H) (q0 : Nat) (x1 : Int32) (x2 : Int32) (kx : Int32 → Option (Int32)) : Nat → Int32 → Int32 → Option (Int32)
  | 0, _, _ => none
  | n + 1, x3, x4 => (if (4 : Int32) ≤ x4 then (kx x3) else (if x3 = 0 then ((cko h q0 12).bind fun _ => (fX12_faced N h q0 x1 x4).bind fun v_10016 => (if v_10016 = x2 then ((cko h q0 12).bind fun _ => (fX12_isDoorToDoor N h q0 x1 x4).bind fun v_10020 => (if v_10020 = 0 then (fX12_areDoorToDoor_b40 N h q0 x1 x2 x4 (fX12_areDoorToDoor_l5 N h q0 x1 x2 kx n) kx) else (fX12_areDoorToDoor_b36 N h q0 x1 x2 x4 (fX12_areDoorToDoor_l5 N h q0 x1 x2 kx n) kx))) else (fX12_areDoorToDoor_b40 N h q0 x1 x2 x4 (fX12_areDoorToDoor_l5 N h q0 x1 x2 kx n) kx))) else (fX12_areDoorToDoor_b36 N h q0 x1 x2 x4 (fX12_areDoorToDoor_l5 N h q0 x1 x2 kx n) kx)))
set_option maxRecDepth 10000 in
set_option maxHeartbeats 4000000 in
theorem rX12_areDoorToDoor_l5 {d N : Nat} (hd : 5 ≤ d) {h : iv_H} {q0 : Nat} {x1 : Int32} {x2 : Int32} {kx : Int32 → Option (Int32)} {r : Int32} {Q : Option Value → iv_H → Prop} (hk : ∀ (x3 : Int32), kx x3 = some r → Rn d 342 (some .boolean) 48 [none, none, none, some (.int x3), none] [] h Q) (hq : Q (some (.int r)) h) : ∀ (n : Nat) (x3 : Int32) (x4 : Int32), fX12_areDoorToDoor_l5 N h q0 x1 x2 kx n x3 x4 = some r → Rn d 342 (some .boolean) 5 [some (.ref q0), some (.int x1), some (.int x2), some (.int x3), some (.int x4)] [] h Q := by
  have hT := hX12_areDoorToDoor
  intro n
  induction n with
  | zero =>
    intro x3 x4 e
    rw [fX12_areDoorToDoor_l5] at e
    cases e
  | succ n ih =>
    intro x3 x4 e
    rw [fX12_areDoorToDoor_l5] at e
    refine Rn.n hT 2 (pc' := 8) (L' := [some (.ref q0), some (.int x1), some (.int x2), some (.int x3), some (.int x4)]) (st' := [.int (4 : Int32), .int x4]) rfl ?_
    by_cases c_10012 : (4 : Int32) ≤ x4
    · rw [if_pos c_10012] at e
      refine Rn.bt hT rfl rfl rfl (decide_eq_true c_10012) ?_
      exact Rn.weak (ll_n (ll_n (ll_n (ll_s (ll_n ll_e))))) (hk x3 e)
    · rw [if_neg c_10012] at e
      refine Rn.bf hT rfl rfl rfl (decide_eq_false c_10012) ?_
      refine Rn.n hT 1 (pc' := 12) (L' := [some (.ref q0), some (.int x1), some (.int x2), some (.int x3), some (.int x4)]) (st' := [.int x3]) rfl ?_
      by_cases c_10013 : x3 = 0
      · rw [if_pos c_10013] at e
        refine Rn.bf hT rfl rfl rfl (decide_eq_false (fun z => z c_10013)) ?_
        refine Rn.n hT 3 (pc' := 19) (L' := [some (.ref q0), some (.int x1), some (.int x2), some (.int x3), some (.int x4)]) (st' := [.int x4, .int x1, .ref q0]) rfl ?_
        obtain ⟨_, e_10015, e⟩ := Option.bind_eq_some_iff.mp e
        obtain ⟨v_10016, e_10014, e⟩ := Option.bind_eq_some_iff.mp e
        refine Rn.call hT rfl rfl rfl (Nat.le_of_ble_eq_true rfl) (rcv_v gX12_faced (by omega) e_10015) (rX12_faced (by omega) e_10014 ?_)
        show Rn d _ _ 22 [some (.ref q0), some (.int x1), some (.int x2), some (.int x3), some (.int x4)] [.int v_10016] h Q
        refine Rn.n hT 1 (pc' := 23) (L' := [some (.ref q0), some (.int x1), some (.int x2), some (.int x3), some (.int x4)]) (st' := [.int x2, .int v_10016]) rfl ?_
        by_cases c_10017 : v_10016 = x2
        · rw [if_pos c_10017] at e
          refine Rn.bf hT rfl rfl rfl (decide_eq_false (fun z => z c_10017)) ?_
          refine Rn.n hT 3 (pc' := 30) (L' := [some (.ref q0), some (.int x1), some (.int x2), some (.int x3), some (.int x4)]) (st' := [.int x4, .int x1, .ref q0]) rfl ?_
          obtain ⟨_, e_10019, e⟩ := Option.bind_eq_some_iff.mp e
          obtain ⟨v_10020, e_10018, e⟩ := Option.bind_eq_some_iff.mp e
          refine Rn.call hT rfl rfl rfl (Nat.le_of_ble_eq_true rfl) (rcv_v gX12_isDoorToDoor (by omega) e_10019) (rX12_isDoorToDoor (by omega) e_10018 ?_)
          show Rn d _ _ 33 [some (.ref q0), some (.int x1), some (.int x2), some (.int x3), some (.int x4)] [.int v_10020] h Q
          by_cases c_10021 : v_10020 = 0
          · rw [if_pos c_10021] at e
            refine Rn.bt hT rfl rfl rfl (decide_eq_true c_10021) ?_
            exact Rn.weak (ll_s (ll_s (ll_s (ll_n (ll_s ll_e))))) (rX12_areDoorToDoor_b40 hd ih hk hq e)
          · rw [if_neg c_10021] at e
            refine Rn.bf hT rfl rfl rfl (decide_eq_false c_10021) ?_
            exact Rn.weak (ll_s (ll_s (ll_s (ll_n (ll_s ll_e))))) (rX12_areDoorToDoor_b36 hd ih hk hq e)
        · rw [if_neg c_10017] at e
          refine Rn.bt hT rfl rfl rfl (decide_eq_true c_10017) ?_
          exact Rn.weak (ll_s (ll_s (ll_s (ll_n (ll_s ll_e))))) (rX12_areDoorToDoor_b40 hd ih hk hq e)
      · rw [if_neg c_10013] at e
        refine Rn.bt hT rfl rfl rfl (decide_eq_true c_10013) ?_
        exact Rn.weak (ll_s (ll_s (ll_s (ll_n (ll_s ll_e))))) (rX12_areDoorToDoor_b36 hd ih hk hq e)
def fX12_areDoorToDoor (N : Nat) (h : iv_H) (q0 : Nat) (x1 : Int32) (x2 : Int32) : Option (Int32) := (fX12_areDoorToDoor_l5 N h q0 x1 x2 (fun (z_10010 : Int32) => (if z_10010 = 0 ∨ z_10010 = 1 then some z_10010 else none)) N (0 : Int32) (0 : Int32))
set_option maxRecDepth 10000 in
set_option maxHeartbeats 4000000 in
theorem rX12_areDoorToDoor {d N : Nat} (hd : 6 ≤ d) {h : iv_H} {q0 : Nat} {x1 : Int32} {x2 : Int32} {r : Int32} {Q : Option Value → iv_H → Prop} (e : fX12_areDoorToDoor N h q0 x1 x2 = some r) (hq : Q (some (.int r)) h) : Cl d 342 [.ref q0, .int x1, .int x2] h Q := by
  obtain ⟨d, rfl⟩ : ∃ k, d = k + 1 := ⟨d - 1, by omega⟩
  have hd : 5 ≤ d := by omega
  have hT := hX12_areDoorToDoor
  unfold fX12_areDoorToDoor at e
  refine Cl.into (by decide) gX12_areDoorToDoor rfl ?_
  show Rn d 342 (some .boolean) 0 [some (.ref q0), some (.int x1), some (.int x2), none, none] [] h Q
  refine Rn.n hT 4 (pc' := 5) (L' := [some (.ref q0), some (.int x1), some (.int x2), some (.int (0 : Int32)), some (.int (0 : Int32))]) (st' := []) rfl ?_
  refine Rn.weak (ll_s (ll_s (ll_s (ll_s (ll_s ll_e))))) (rX12_areDoorToDoor_l5 hd (fun z_10010 e => ?_) hq N (0 : Int32) (0 : Int32) e)
  try dsimp only at e
  refine Rn.n hT 1 (pc' := 49) (L' := [none, none, none, some (.int z_10010), none]) (st' := [.int z_10010]) rfl ?_
  by_cases c_10011 : z_10010 = 0 ∨ z_10010 = 1
  · rw [if_pos c_10011] at e
    obtain rfl := Option.some.inj e
    exact Rn.ret hT rfl rfl (if_pos c_10011) hq
  · rw [if_neg c_10011] at e
    cases e
set_option maxRecDepth 10000 in
theorem hX12_drawn : iv_Tb 343 tX12_drawn := iv_tb_of (m := mX12_drawn) rfl
set_option maxRecDepth 10000 in
theorem gX12_drawn : PG.2 343 = some mX12_drawn := iv_pi_of (t := tX12_drawn) rfl (by decide)
def fX12_drawn_b60 (N : Nat) (h : iv_H)   : Option (Int32 × iv_H) := (some ((-1 : Int32), h))
set_option maxRecDepth 10000 in
set_option maxHeartbeats 4000000 in
theorem rX12_drawn_b60 {d N : Nat} (hd : 10 ≤ d) {h : iv_H}   {r : Int32 × iv_H} {Q : Option Value → iv_H → Prop} (hq : Q (some (.int r.1)) r.2) (e : fX12_drawn_b60 N h   = some r) : Rn d 343 (some .int) 60 [none, none, none, none, none, none, none, none, none, none] [] h Q := by
  have hT := hX12_drawn
  unfold fX12_drawn_b60 at e
  refine Rn.n hT 1 (pc' := 61) (L' := [none, none, none, none, none, none, none, none, none, none]) (st' := [.int (-1 : Int32)]) rfl ?_
  obtain rfl := Option.some.inj e
  exact Rn.ret hT rfl rfl rfl hq
def fX12_drawn_b139 (N : Nat) (h : iv_H) (q0 : Nat) (x1 : Int32) (x2 : Int32) (x3 : Int32) (x4 : Int32) (x5 : Int32) (x6 : Int32) (x8 : Int32) (s0 : Int32) (s1 : Int32) (kb : iv_H → Int32 → Int32 → Option (Int32 × iv_H)) (kx : iv_H → Int32 → Option (Int32 × iv_H)) : Option (Int32 × iv_H) := ((gR h 12 55 q0).bind fun v_10073 => ((cko h q0 12).bind fun _ => (fX12_laysFloor N h q0 v_10073 (0 : Int32)).bind fun h_10078 => (kb h_10078 (s1 + s0) (x8 + (1 : Int32)))))
set_option maxRecDepth 10000 in
set_option maxHeartbeats 4000000 in
theorem rX12_drawn_b139 {d N : Nat} (hd : 10 ≤ d) {h : iv_H} {q0 : Nat} {x1 : Int32} {x2 : Int32} {x3 : Int32} {x4 : Int32} {x5 : Int32} {x6 : Int32} {x8 : Int32} {s0 : Int32} {s1 : Int32} {kb : iv_H → Int32 → Int32 → Option (Int32 × iv_H)} {kx : iv_H → Int32 → Option (Int32 × iv_H)} {r : Int32 × iv_H} {Q : Option Value → iv_H → Prop} (hb : ∀ (h : iv_H) (w7 : Int32) (w8 : Int32), kb h w7 w8 = some r → Rn d 343 (some .int) 86 [some (.ref q0), some (.int x1), some (.int x2), some (.int x3), some (.int x4), some (.int x5), some (.int x6), some (.int w7), some (.int w8), none] [] h Q) (hk : ∀ (h : iv_H) (w7 : Int32), kx h w7 = some r → Rn d 343 (some .int) 157 [some (.ref q0), none, none, none, none, none, some (.int x6), some (.int w7), none, none] [] h Q) (hq : Q (some (.int r.1)) r.2) (e : fX12_drawn_b139 N h q0 x1 x2 x3 x4 x5 x6 x8 s0 s1 kb kx = some r) : Rn d 343 (some .int) 139 [some (.ref q0), some (.int x1), some (.int x2), some (.int x3), some (.int x4), some (.int x5), some (.int x6), none, some (.int x8), none] [.int s0, .int s1] h Q := by
  have hT := hX12_drawn
  unfold fX12_drawn_b139 at e
  refine Rn.n hT 4 (pc' := 144) (L' := [some (.ref q0), some (.int x1), some (.int x2), some (.int x3), some (.int x4), some (.int x5), some (.int x6), some (.int (s1 + s0)), some (.int x8), none]) (st' := [.ref q0, .ref q0]) rfl ?_
  obtain ⟨v_10073, e_10074, e⟩ := Option.bind_eq_some_iff.mp e
  refine Rn.hp hT rfl rfl (gR_hp e_10074) ?_
  refine Rn.n hT 1 (pc' := 148) (L' := [some (.ref q0), some (.int x1), some (.int x2), some (.int x3), some (.int x4), some (.int x5), some (.int x6), some (.int (s1 + s0)), some (.int x8), none]) (st' := [.int (0 : Int32), .ref v_10073, .ref q0]) rfl ?_
  obtain ⟨_, e_10076, e⟩ := Option.bind_eq_some_iff.mp e
  obtain ⟨h_10078, e_10075, e⟩ := Option.bind_eq_some_iff.mp e
  refine Rn.call hT rfl rfl rfl (Nat.le_of_ble_eq_true rfl) (rcv_v gX12_laysFloor (by omega) e_10076) (rX12_laysFloor (by omega) e_10075 ?_)
  show Rn d _ _ 151 [some (.ref q0), some (.int x1), some (.int x2), some (.int x3), some (.int x4), some (.int x5), some (.int x6), some (.int (s1 + s0)), some (.int x8), none] [] h_10078 Q
  refine Rn.n hT 2 (pc' := 86) (L' := [some (.ref q0), some (.int x1), some (.int x2), some (.int x3), some (.int x4), some (.int x5), some (.int x6), some (.int (s1 + s0)), some (.int (x8 + (1 : Int32))), none]) (st' := []) rfl ?_
  exact Rn.weak (ll_s (ll_s (ll_s (ll_s (ll_s (ll_s (ll_s (ll_s (ll_s (ll_n ll_e)))))))))) (hb h_10078 (s1 + s0) (x8 + (1 : Int32)) e)
def fX12_drawn_l86 (N : Nat) (q0 : Nat) (x1 : Int32) (x2 : Int32) (x3 : Int32) (x4 : Int32) (x5 : Int32) (x6 : Int32) (kx : iv_H → Int32 → Option (Int32 × iv_H)) : Nat → iv_H → Int32 → Int32 → Option (Int32 × iv_H)
  | 0, _, _, _ => none
  | n + 1, h, x7, x8 => (if x1 ≤ x8 then (kx h x7) else ((cko h q0 12).bind fun _ => (fX12_drawnNights N h q0 x2).bind fun p_10072 => (fun (v_10059 : Int32) (h_10060 : iv_H) => (if x5 = 0 then ((cko h_10060 q0 12).bind fun _ => (fX12_mismatches N h_10060 q0).bind fun p_10071 => (fun (v_10069 : Int32) (h_10070 : iv_H) => (fX12_drawn_b139 N h_10070 q0 x1 x2 x3 x4 x5 x6 x8 v_10069 x7 (fX12_drawn_l86 N q0 x1 x2 x3 x4 x5 x6 kx n) kx)) p_10071.1 p_10071.2) else (if x5 = (2 : Int32) then (fX12_drawn_b139 N h_10060 q0 x1 x2 x3 x4 x5 x6 x8 v_10059 x7 (fX12_drawn_l86 N q0 x1 x2 x3 x4 x5 x6 kx n) kx) else ((cko h_10060 q0 12).bind fun _ => (fX12_areDoorToDoor N h_10060 q0 x3 x4).bind fun v_10065 => (if v_10065 = 0 then (fX12_drawn_b139 N h_10060 q0 x1 x2 x3 x4 x5 x6 x8 (0 : Int32) x7 (fX12_drawn_l86 N q0 x1 x2 x3 x4 x5 x6 kx n) kx) else (fX12_drawn_b139 N h_10060 q0 x1 x2 x3 x4 x5 x6 x8 (1 : Int32) x7 (fX12_drawn_l86 N q0 x1 x2 x3 x4 x5 x6 kx n) kx)))))) p_10072.1 p_10072.2))
set_option maxRecDepth 10000 in
set_option maxHeartbeats 4000000 in
theorem rX12_drawn_l86 {d N : Nat} (hd : 10 ≤ d) {q0 : Nat} {x1 : Int32} {x2 : Int32} {x3 : Int32} {x4 : Int32} {x5 : Int32} {x6 : Int32} {kx : iv_H → Int32 → Option (Int32 × iv_H)} {r : Int32 × iv_H} {Q : Option Value → iv_H → Prop} (hk : ∀ (h : iv_H) (x7 : Int32), kx h x7 = some r → Rn d 343 (some .int) 157 [some (.ref q0), none, none, none, none, none, some (.int x6), some (.int x7), none, none] [] h Q) (hq : Q (some (.int r.1)) r.2) : ∀ (n : Nat) (h : iv_H) (x7 : Int32) (x8 : Int32), fX12_drawn_l86 N q0 x1 x2 x3 x4 x5 x6 kx n h x7 x8 = some r → Rn d 343 (some .int) 86 [some (.ref q0), some (.int x1), some (.int x2), some (.int x3), some (.int x4), some (.int x5), some (.int x6), some (.int x7), some (.int x8), none] [] h Q := by
  have hT := hX12_drawn
  intro n
  induction n with
  | zero =>
    intro h x7 x8 e
    rw [fX12_drawn_l86] at e
    cases e
  | succ n ih =>
    intro h x7 x8 e
    rw [fX12_drawn_l86] at e
    refine Rn.n hT 2 (pc' := 89) (L' := [some (.ref q0), some (.int x1), some (.int x2), some (.int x3), some (.int x4), some (.int x5), some (.int x6), some (.int x7), some (.int x8), none]) (st' := [.int x1, .int x8]) rfl ?_
    by_cases c_10056 : x1 ≤ x8
    · rw [if_pos c_10056] at e
      refine Rn.bt hT rfl rfl rfl (decide_eq_true c_10056) ?_
      exact Rn.weak (ll_s (ll_n (ll_n (ll_n (ll_n (ll_n (ll_s (ll_s (ll_n (ll_n ll_e)))))))))) (hk h x7 e)
    · rw [if_neg c_10056] at e
      refine Rn.bf hT rfl rfl rfl (decide_eq_false c_10056) ?_
      refine Rn.n hT 2 (pc' := 94) (L' := [some (.ref q0), some (.int x1), some (.int x2), some (.int x3), some (.int x4), some (.int x5), some (.int x6), some (.int x7), some (.int x8), none]) (st' := [.int x2, .ref q0]) rfl ?_
      obtain ⟨_, e_10058, e⟩ := Option.bind_eq_some_iff.mp e
      obtain ⟨⟨v_10059, h_10060⟩, e_10057, e⟩ := Option.bind_eq_some_iff.mp e
      try dsimp only at e
      try dsimp only at e
      refine Rn.call hT rfl rfl rfl (Nat.le_of_ble_eq_true rfl) (rcv_v gX12_drawnNights (by omega) e_10058) (rX12_drawnNights (by omega) e_10057 ?_)
      show Rn d _ _ 97 [some (.ref q0), some (.int x1), some (.int x2), some (.int x3), some (.int x4), some (.int x5), some (.int x6), some (.int x7), some (.int x8), none] [.int v_10059] h_10060 Q
      refine Rn.n hT 3 (pc' := 103) (L' := [some (.ref q0), some (.int x1), some (.int x2), some (.int x3), some (.int x4), some (.int x5), some (.int x6), some (.int x7), some (.int x8), some (.int v_10059)]) (st' := [.int x5, .int x7]) rfl ?_
      by_cases c_10061 : x5 = 0
      · rw [if_pos c_10061] at e
        refine Rn.bf hT rfl rfl rfl (decide_eq_false (fun z => z c_10061)) ?_
        refine Rn.n hT 1 (pc' := 107) (L' := [some (.ref q0), some (.int x1), some (.int x2), some (.int x3), some (.int x4), some (.int x5), some (.int x6), some (.int x7), some (.int x8), some (.int v_10059)]) (st' := [.ref q0, .int x7]) rfl ?_
        obtain ⟨_, e_10068, e⟩ := Option.bind_eq_some_iff.mp e
        obtain ⟨⟨v_10069, h_10070⟩, e_10067, e⟩ := Option.bind_eq_some_iff.mp e
        try dsimp only at e
        try dsimp only at e
        refine Rn.call hT rfl rfl rfl (Nat.le_of_ble_eq_true rfl) (rcv_v gX12_mismatches (by omega) e_10068) (rX12_mismatches (by omega) e_10067 ?_)
        show Rn d _ _ 110 [some (.ref q0), some (.int x1), some (.int x2), some (.int x3), some (.int x4), some (.int x5), some (.int x6), some (.int x7), some (.int x8), some (.int v_10059)] [.int v_10069, .int x7] h_10070 Q
        refine Rn.n hT 1 (pc' := 139) (L' := [some (.ref q0), some (.int x1), some (.int x2), some (.int x3), some (.int x4), some (.int x5), some (.int x6), some (.int x7), some (.int x8), some (.int v_10059)]) (st' := [.int v_10069, .int x7]) rfl ?_
        exact Rn.weak (ll_s (ll_s (ll_s (ll_s (ll_s (ll_s (ll_s (ll_n (ll_s (ll_n ll_e)))))))))) (rX12_drawn_b139 hd ih hk hq e)
      · rw [if_neg c_10061] at e
        refine Rn.bt hT rfl rfl rfl (decide_eq_true c_10061) ?_
        refine Rn.n hT 2 (pc' := 116) (L' := [some (.ref q0), some (.int x1), some (.int x2), some (.int x3), some (.int x4), some (.int x5), some (.int x6), some (.int x7), some (.int x8), some (.int v_10059)]) (st' := [.int (2 : Int32), .int x5, .int x7]) rfl ?_
        by_cases c_10062 : x5 = (2 : Int32)
        · rw [if_pos c_10062] at e
          refine Rn.bf hT rfl rfl rfl (decide_eq_false (fun z => z c_10062)) ?_
          refine Rn.n hT 2 (pc' := 139) (L' := [some (.ref q0), some (.int x1), some (.int x2), some (.int x3), some (.int x4), some (.int x5), some (.int x6), some (.int x7), some (.int x8), some (.int v_10059)]) (st' := [.int v_10059, .int x7]) rfl ?_
          exact Rn.weak (ll_s (ll_s (ll_s (ll_s (ll_s (ll_s (ll_s (ll_n (ll_s (ll_n ll_e)))))))))) (rX12_drawn_b139 hd ih hk hq e)
        · rw [if_neg c_10062] at e
          refine Rn.bt hT rfl rfl rfl (decide_eq_true c_10062) ?_
          refine Rn.n hT 3 (pc' := 128) (L' := [some (.ref q0), some (.int x1), some (.int x2), some (.int x3), some (.int x4), some (.int x5), some (.int x6), some (.int x7), some (.int x8), some (.int v_10059)]) (st' := [.int x4, .int x3, .ref q0, .int x7]) rfl ?_
          obtain ⟨_, e_10064, e⟩ := Option.bind_eq_some_iff.mp e
          obtain ⟨v_10065, e_10063, e⟩ := Option.bind_eq_some_iff.mp e
          refine Rn.call hT rfl rfl rfl (Nat.le_of_ble_eq_true rfl) (rcv_v gX12_areDoorToDoor (by omega) e_10064) (rX12_areDoorToDoor (by omega) e_10063 ?_)
          show Rn d _ _ 131 [some (.ref q0), some (.int x1), some (.int x2), some (.int x3), some (.int x4), some (.int x5), some (.int x6), some (.int x7), some (.int x8), some (.int v_10059)] [.int v_10065, .int x7] h_10060 Q
          by_cases c_10066 : v_10065 = 0
          · rw [if_pos c_10066] at e
            refine Rn.bt hT rfl rfl rfl (decide_eq_true c_10066) ?_
            refine Rn.n hT 1 (pc' := 139) (L' := [some (.ref q0), some (.int x1), some (.int x2), some (.int x3), some (.int x4), some (.int x5), some (.int x6), some (.int x7), some (.int x8), some (.int v_10059)]) (st' := [.int (0 : Int32), .int x7]) rfl ?_
            exact Rn.weak (ll_s (ll_s (ll_s (ll_s (ll_s (ll_s (ll_s (ll_n (ll_s (ll_n ll_e)))))))))) (rX12_drawn_b139 hd ih hk hq e)
          · rw [if_neg c_10066] at e
            refine Rn.bf hT rfl rfl rfl (decide_eq_false c_10066) ?_
            refine Rn.n hT 2 (pc' := 139) (L' := [some (.ref q0), some (.int x1), some (.int x2), some (.int x3), some (.int x4), some (.int x5), some (.int x6), some (.int x7), some (.int x8), some (.int v_10059)]) (st' := [.int (1 : Int32), .int x7]) rfl ?_
            exact Rn.weak (ll_s (ll_s (ll_s (ll_s (ll_s (ll_s (ll_s (ll_n (ll_s (ll_n ll_e)))))))))) (rX12_drawn_b139 hd ih hk hq e)
def fX12_drawn (N : Nat) (h : iv_H) (q0 : Nat) (x1 : Int32) (x2 : Int32) (x3 : Int32) (x4 : Int32) (x5 : Int32) : Option (Int32 × iv_H) := ((fX12_in N h ((x1).toInt64) (1 : Int64) (10 : Int64)).bind fun v_10023 => (if v_10023 = 0 then (fX12_drawn_b60 N h) else ((fX12_in N h ((x2).toInt64) (1 : Int64) (60 : Int64)).bind fun v_10026 => (if v_10026 = 0 then (fX12_drawn_b60 N h) else ((cko h q0 12).bind fun _ => (fX12_isRoom N h q0 x3).bind fun v_10030 => (if v_10030 = 0 then (fX12_drawn_b60 N h) else ((cko h q0 12).bind fun _ => (fX12_isRoom N h q0 x4).bind fun v_10034 => (if v_10034 = 0 then (fX12_drawn_b60 N h) else (if x3 = x4 then (fX12_drawn_b60 N h) else ((fX12_in N h ((x5).toInt64) (0 : Int64) (2 : Int64)).bind fun v_10038 => (if v_10038 = 0 then (fX12_drawn_b60 N h) else ((gR h 12 1 q0).bind fun v_10040 => ((aI h v_10040 (13 : Int32)).bind fun v_10042 => ((gR h 12 55 q0).bind fun v_10044 => ((cko h q0 12).bind fun _ => (fX12_fillsFloor N h q0 v_10044 (0 : Int32)).bind fun h_10049 => (fX12_drawn_l86 N q0 x1 x2 x3 x4 x5 v_10042 (fun (h_10050 : iv_H) (z_10051 : Int32) => ((gR h_10050 12 1 q0).bind fun v_10052 => ((wI h_10050 v_10052 (13 : Int32) v_10042).bind fun h_10054 => (some (z_10051, h_10054))))) N h_10049 (0 : Int32) (0 : Int32)))))))))))))))))
set_option maxRecDepth 10000 in
set_option maxHeartbeats 4000000 in
theorem rX12_drawn {d N : Nat} (hd : 11 ≤ d) {h : iv_H} {q0 : Nat} {x1 : Int32} {x2 : Int32} {x3 : Int32} {x4 : Int32} {x5 : Int32} {r : Int32 × iv_H} {Q : Option Value → iv_H → Prop} (e : fX12_drawn N h q0 x1 x2 x3 x4 x5 = some r) (hq : Q (some (.int r.1)) r.2) : Cl d 343 [.ref q0, .int x1, .int x2, .int x3, .int x4, .int x5] h Q := by
  obtain ⟨d, rfl⟩ : ∃ k, d = k + 1 := ⟨d - 1, by omega⟩
  have hd : 10 ≤ d := by omega
  have hT := hX12_drawn
  unfold fX12_drawn at e
  refine Cl.into (by decide) gX12_drawn rfl ?_
  show Rn d 343 (some .int) 0 [some (.ref q0), some (.int x1), some (.int x2), some (.int x3), some (.int x4), some (.int x5), none, none, none, none] [] h Q
  refine Rn.n hT 4 (pc' := 6) (L' := [some (.ref q0), some (.int x1), some (.int x2), some (.int x3), some (.int x4), some (.int x5), none, none, none, none]) (st' := [.long (10 : Int64), .long (1 : Int64), .long ((x1).toInt64)]) rfl ?_
  obtain ⟨v_10023, e_10022, e⟩ := Option.bind_eq_some_iff.mp e
  refine Rn.call hT rfl rfl rfl (Nat.le_of_ble_eq_true rfl) rfl (rX12_in (by omega) e_10022 ?_)
  show Rn d _ _ 9 [some (.ref q0), some (.int x1), some (.int x2), some (.int x3), some (.int x4), some (.int x5), none, none, none, none] [.int v_10023] h Q
  by_cases c_10024 : v_10023 = 0
  · rw [if_pos c_10024] at e
    refine Rn.bt hT rfl rfl rfl (decide_eq_true c_10024) ?_
    exact Rn.weak (ll_n (ll_n (ll_n (ll_n (ll_n (ll_n (ll_n (ll_n (ll_n (ll_n ll_e)))))))))) (rX12_drawn_b60 hd hq e)
  · rw [if_neg c_10024] at e
    refine Rn.bf hT rfl rfl rfl (decide_eq_false c_10024) ?_
    refine Rn.n hT 4 (pc' := 18) (L' := [some (.ref q0), some (.int x1), some (.int x2), some (.int x3), some (.int x4), some (.int x5), none, none, none, none]) (st' := [.long (60 : Int64), .long (1 : Int64), .long ((x2).toInt64)]) rfl ?_
    obtain ⟨v_10026, e_10025, e⟩ := Option.bind_eq_some_iff.mp e
    refine Rn.call hT rfl rfl rfl (Nat.le_of_ble_eq_true rfl) rfl (rX12_in (by omega) e_10025 ?_)
    show Rn d _ _ 21 [some (.ref q0), some (.int x1), some (.int x2), some (.int x3), some (.int x4), some (.int x5), none, none, none, none] [.int v_10026] h Q
    by_cases c_10027 : v_10026 = 0
    · rw [if_pos c_10027] at e
      refine Rn.bt hT rfl rfl rfl (decide_eq_true c_10027) ?_
      exact Rn.weak (ll_n (ll_n (ll_n (ll_n (ll_n (ll_n (ll_n (ll_n (ll_n (ll_n ll_e)))))))))) (rX12_drawn_b60 hd hq e)
    · rw [if_neg c_10027] at e
      refine Rn.bf hT rfl rfl rfl (decide_eq_false c_10027) ?_
      refine Rn.n hT 2 (pc' := 26) (L' := [some (.ref q0), some (.int x1), some (.int x2), some (.int x3), some (.int x4), some (.int x5), none, none, none, none]) (st' := [.int x3, .ref q0]) rfl ?_
      obtain ⟨_, e_10029, e⟩ := Option.bind_eq_some_iff.mp e
      obtain ⟨v_10030, e_10028, e⟩ := Option.bind_eq_some_iff.mp e
      refine Rn.call hT rfl rfl rfl (Nat.le_of_ble_eq_true rfl) (rcv_v gX12_isRoom (by omega) e_10029) (rX12_isRoom (by omega) e_10028 ?_)
      show Rn d _ _ 29 [some (.ref q0), some (.int x1), some (.int x2), some (.int x3), some (.int x4), some (.int x5), none, none, none, none] [.int v_10030] h Q
      by_cases c_10031 : v_10030 = 0
      · rw [if_pos c_10031] at e
        refine Rn.bt hT rfl rfl rfl (decide_eq_true c_10031) ?_
        exact Rn.weak (ll_n (ll_n (ll_n (ll_n (ll_n (ll_n (ll_n (ll_n (ll_n (ll_n ll_e)))))))))) (rX12_drawn_b60 hd hq e)
      · rw [if_neg c_10031] at e
        refine Rn.bf hT rfl rfl rfl (decide_eq_false c_10031) ?_
        refine Rn.n hT 2 (pc' := 35) (L' := [some (.ref q0), some (.int x1), some (.int x2), some (.int x3), some (.int x4), some (.int x5), none, none, none, none]) (st' := [.int x4, .ref q0]) rfl ?_
        obtain ⟨_, e_10033, e⟩ := Option.bind_eq_some_iff.mp e
        obtain ⟨v_10034, e_10032, e⟩ := Option.bind_eq_some_iff.mp e
        refine Rn.call hT rfl rfl rfl (Nat.le_of_ble_eq_true rfl) (rcv_v gX12_isRoom (by omega) e_10033) (rX12_isRoom (by omega) e_10032 ?_)
        show Rn d _ _ 38 [some (.ref q0), some (.int x1), some (.int x2), some (.int x3), some (.int x4), some (.int x5), none, none, none, none] [.int v_10034] h Q
        by_cases c_10035 : v_10034 = 0
        · rw [if_pos c_10035] at e
          refine Rn.bt hT rfl rfl rfl (decide_eq_true c_10035) ?_
          exact Rn.weak (ll_n (ll_n (ll_n (ll_n (ll_n (ll_n (ll_n (ll_n (ll_n (ll_n ll_e)))))))))) (rX12_drawn_b60 hd hq e)
        · rw [if_neg c_10035] at e
          refine Rn.bf hT rfl rfl rfl (decide_eq_false c_10035) ?_
          refine Rn.n hT 2 (pc' := 44) (L' := [some (.ref q0), some (.int x1), some (.int x2), some (.int x3), some (.int x4), some (.int x5), none, none, none, none]) (st' := [.int x4, .int x3]) rfl ?_
          by_cases c_10036 : x3 = x4
          · rw [if_pos c_10036] at e
            refine Rn.bt hT rfl rfl rfl (decide_eq_true c_10036) ?_
            exact Rn.weak (ll_n (ll_n (ll_n (ll_n (ll_n (ll_n (ll_n (ll_n (ll_n (ll_n ll_e)))))))))) (rX12_drawn_b60 hd hq e)
          · rw [if_neg c_10036] at e
            refine Rn.bf hT rfl rfl rfl (decide_eq_false c_10036) ?_
            refine Rn.n hT 4 (pc' := 54) (L' := [some (.ref q0), some (.int x1), some (.int x2), some (.int x3), some (.int x4), some (.int x5), none, none, none, none]) (st' := [.long (2 : Int64), .long (0 : Int64), .long ((x5).toInt64)]) rfl ?_
            obtain ⟨v_10038, e_10037, e⟩ := Option.bind_eq_some_iff.mp e
            refine Rn.call hT rfl rfl rfl (Nat.le_of_ble_eq_true rfl) rfl (rX12_in (by omega) e_10037 ?_)
            show Rn d _ _ 57 [some (.ref q0), some (.int x1), some (.int x2), some (.int x3), some (.int x4), some (.int x5), none, none, none, none] [.int v_10038] h Q
            by_cases c_10039 : v_10038 = 0
            · rw [if_pos c_10039] at e
              refine Rn.bf hT rfl rfl rfl (decide_eq_false (fun z => z c_10039)) ?_
              exact Rn.weak (ll_n (ll_n (ll_n (ll_n (ll_n (ll_n (ll_n (ll_n (ll_n (ll_n ll_e)))))))))) (rX12_drawn_b60 hd hq e)
            · rw [if_neg c_10039] at e
              refine Rn.bt hT rfl rfl rfl (decide_eq_true c_10039) ?_
              refine Rn.n hT 1 (pc' := 63) (L' := [some (.ref q0), some (.int x1), some (.int x2), some (.int x3), some (.int x4), some (.int x5), none, none, none, none]) (st' := [.ref q0]) rfl ?_
              obtain ⟨v_10040, e_10041, e⟩ := Option.bind_eq_some_iff.mp e
              refine Rn.hp hT rfl rfl (gR_hp e_10041) ?_
              refine Rn.n hT 1 (pc' := 68) (L' := [some (.ref q0), some (.int x1), some (.int x2), some (.int x3), some (.int x4), some (.int x5), none, none, none, none]) (st' := [.int (13 : Int32), .ref v_10040]) rfl ?_
              obtain ⟨v_10042, e_10043, e⟩ := Option.bind_eq_some_iff.mp e
              refine Rn.hp hT rfl rfl (aI_hp e_10043) ?_
              refine Rn.n hT 5 (pc' := 76) (L' := [some (.ref q0), some (.int x1), some (.int x2), some (.int x3), some (.int x4), some (.int x5), some (.int v_10042), some (.int (0 : Int32)), none, none]) (st' := [.ref q0, .ref q0]) rfl ?_
              obtain ⟨v_10044, e_10045, e⟩ := Option.bind_eq_some_iff.mp e
              refine Rn.hp hT rfl rfl (gR_hp e_10045) ?_
              refine Rn.n hT 1 (pc' := 80) (L' := [some (.ref q0), some (.int x1), some (.int x2), some (.int x3), some (.int x4), some (.int x5), some (.int v_10042), some (.int (0 : Int32)), none, none]) (st' := [.int (0 : Int32), .ref v_10044, .ref q0]) rfl ?_
              obtain ⟨_, e_10047, e⟩ := Option.bind_eq_some_iff.mp e
              obtain ⟨h_10049, e_10046, e⟩ := Option.bind_eq_some_iff.mp e
              refine Rn.call hT rfl rfl rfl (Nat.le_of_ble_eq_true rfl) (rcv_v gX12_fillsFloor (by omega) e_10047) (rX12_fillsFloor (by omega) e_10046 ?_)
              show Rn d _ _ 83 [some (.ref q0), some (.int x1), some (.int x2), some (.int x3), some (.int x4), some (.int x5), some (.int v_10042), some (.int (0 : Int32)), none, none] [] h_10049 Q
              refine Rn.n hT 2 (pc' := 86) (L' := [some (.ref q0), some (.int x1), some (.int x2), some (.int x3), some (.int x4), some (.int x5), some (.int v_10042), some (.int (0 : Int32)), some (.int (0 : Int32)), none]) (st' := []) rfl ?_
              refine Rn.weak (ll_s (ll_s (ll_s (ll_s (ll_s (ll_s (ll_s (ll_s (ll_s (ll_n ll_e)))))))))) (rX12_drawn_l86 hd (fun h_10050 z_10051 e => ?_) hq N h_10049 (0 : Int32) (0 : Int32) e)
              try dsimp only at e
              refine Rn.n hT 1 (pc' := 158) (L' := [some (.ref q0), none, none, none, none, none, some (.int v_10042), some (.int z_10051), none, none]) (st' := [.ref q0]) rfl ?_
              obtain ⟨v_10052, e_10053, e⟩ := Option.bind_eq_some_iff.mp e
              refine Rn.hp hT rfl rfl (gR_hp e_10053) ?_
              refine Rn.n hT 2 (pc' := 165) (L' := [some (.ref q0), none, none, none, none, none, some (.int v_10042), some (.int z_10051), none, none]) (st' := [.int v_10042, .int (13 : Int32), .ref v_10052]) rfl ?_
              obtain ⟨h_10054, e_10055, e⟩ := Option.bind_eq_some_iff.mp e
              refine Rn.hp hT rfl rfl (wI_hp e_10055) ?_
              refine Rn.n hT 1 (pc' := 168) (L' := [some (.ref q0), none, none, none, none, none, some (.int v_10042), some (.int z_10051), none, none]) (st' := [.int z_10051]) rfl ?_
              obtain rfl := Option.some.inj e
              exact Rn.ret hT rfl rfl rfl hq
set_option maxRecDepth 10000 in
theorem hX12_count : iv_Tb 344 tX12_count := iv_tb_of (m := mX12_count) rfl
set_option maxRecDepth 10000 in
theorem gX12_count : PG.2 344 = some mX12_count := iv_pi_of (t := tX12_count) rfl (by decide)
def fX12_count (N : Nat) (h : iv_H) (q0 : Nat) (x1 : Int32) : Option (Int32) := (if x1 = (0 : Int32) then ((gR h 12 1 q0).bind fun v_10080 => ((aI h v_10080 (0 : Int32)).bind fun v_10082 => (some v_10082))) else (if x1 = (1 : Int32) then ((gR h 12 1 q0).bind fun v_10085 => ((aI h v_10085 (1 : Int32)).bind fun v_10087 => (some v_10087))) else (if x1 = (2 : Int32) then ((gR h 12 1 q0).bind fun v_10090 => ((aI h v_10090 (2 : Int32)).bind fun v_10092 => (some v_10092))) else (if x1 = (3 : Int32) then ((gR h 12 1 q0).bind fun v_10095 => ((aI h v_10095 (3 : Int32)).bind fun v_10097 => (some v_10097))) else (if x1 = (4 : Int32) then ((gR h 12 1 q0).bind fun v_10100 => ((aI h v_10100 (4 : Int32)).bind fun v_10102 => (some v_10102))) else (if x1 = (5 : Int32) then ((gR h 12 1 q0).bind fun v_10105 => ((aI h v_10105 (5 : Int32)).bind fun v_10107 => (some v_10107))) else (if x1 = (6 : Int32) then ((gI h 12 32 q0).bind fun v_10110 => (some v_10110)) else (if x1 = (7 : Int32) then ((gR h 12 1 q0).bind fun v_10113 => ((aI h v_10113 (12 : Int32)).bind fun v_10115 => (some v_10115))) else (if x1 = (8 : Int32) then ((gR h 12 1 q0).bind fun v_10118 => ((aI h v_10118 (6 : Int32)).bind fun v_10120 => (some v_10120))) else (if x1 = (9 : Int32) then ((gR h 12 1 q0).bind fun v_10123 => ((aI h v_10123 (7 : Int32)).bind fun v_10125 => (some v_10125))) else (if x1 = (10 : Int32) then ((gR h 12 1 q0).bind fun v_10128 => ((aI h v_10128 (8 : Int32)).bind fun v_10130 => (some v_10130))) else (if x1 = (11 : Int32) then ((gR h 12 1 q0).bind fun v_10133 => ((aI h v_10133 (9 : Int32)).bind fun v_10135 => (some v_10135))) else (if x1 = (12 : Int32) then ((gR h 12 1 q0).bind fun v_10138 => ((aI h v_10138 (10 : Int32)).bind fun v_10140 => (some v_10140))) else (if x1 = (13 : Int32) then ((gR h 12 1 q0).bind fun v_10143 => ((aI h v_10143 (13 : Int32)).bind fun v_10145 => (some v_10145))) else (if x1 = (14 : Int32) then ((gI h 12 28 q0).bind fun v_10148 => (some v_10148)) else (if x1 = (15 : Int32) then ((cko h q0 12).bind fun _ => (fX12_emptyMany N h q0).bind fun v_10153 => (some v_10153)) else (if x1 = (16 : Int32) then ((gR h 12 1 q0).bind fun v_10155 => ((aI h v_10155 (11 : Int32)).bind fun v_10157 => (some v_10157))) else (some (-1 : Int32)))))))))))))))))))
set_option maxRecDepth 10000 in
set_option maxHeartbeats 4000000 in
theorem rX12_count {d N : Nat} (hd : 2 ≤ d) {h : iv_H} {q0 : Nat} {x1 : Int32} {r : Int32} {Q : Option Value → iv_H → Prop} (e : fX12_count N h q0 x1 = some r) (hq : Q (some (.int r)) h) : Cl d 344 [.ref q0, .int x1] h Q := by
  obtain ⟨d, rfl⟩ : ∃ k, d = k + 1 := ⟨d - 1, by omega⟩
  have hd : 1 ≤ d := by omega
  have hT := hX12_count
  unfold fX12_count at e
  refine Cl.into (by decide) gX12_count rfl ?_
  show Rn d 344 (some .int) 0 [some (.ref q0), some (.int x1)] [] h Q
  refine Rn.n hT 1 (pc' := 1) (L' := [some (.ref q0), some (.int x1)]) (st' := [.int x1]) rfl ?_
  by_cases c_10079 : x1 = (0 : Int32)
  · rw [if_pos c_10079] at e
    refine Rn.sw2 hT rfl rfl rfl (if_pos c_10079) ?_
    refine Rn.n hT 1 (pc' := 85) (L' := [some (.ref q0), some (.int x1)]) (st' := [.ref q0]) rfl ?_
    obtain ⟨v_10080, e_10081, e⟩ := Option.bind_eq_some_iff.mp e
    refine Rn.hp hT rfl rfl (gR_hp e_10081) ?_
    refine Rn.n hT 1 (pc' := 89) (L' := [some (.ref q0), some (.int x1)]) (st' := [.int (0 : Int32), .ref v_10080]) rfl ?_
    obtain ⟨v_10082, e_10083, e⟩ := Option.bind_eq_some_iff.mp e
    refine Rn.hp hT rfl rfl (aI_hp e_10083) ?_
    obtain rfl := Option.some.inj e
    exact Rn.ret hT rfl rfl rfl hq
  · rw [if_neg c_10079] at e
    by_cases c_10084 : x1 = (1 : Int32)
    · rw [if_pos c_10084] at e
      refine Rn.sw2 hT rfl rfl rfl ((if_neg c_10079).trans (if_pos c_10084)) ?_
      refine Rn.n hT 1 (pc' := 92) (L' := [some (.ref q0), some (.int x1)]) (st' := [.ref q0]) rfl ?_
      obtain ⟨v_10085, e_10086, e⟩ := Option.bind_eq_some_iff.mp e
      refine Rn.hp hT rfl rfl (gR_hp e_10086) ?_
      refine Rn.n hT 1 (pc' := 96) (L' := [some (.ref q0), some (.int x1)]) (st' := [.int (1 : Int32), .ref v_10085]) rfl ?_
      obtain ⟨v_10087, e_10088, e⟩ := Option.bind_eq_some_iff.mp e
      refine Rn.hp hT rfl rfl (aI_hp e_10088) ?_
      obtain rfl := Option.some.inj e
      exact Rn.ret hT rfl rfl rfl hq
    · rw [if_neg c_10084] at e
      by_cases c_10089 : x1 = (2 : Int32)
      · rw [if_pos c_10089] at e
        refine Rn.sw2 hT rfl rfl rfl ((if_neg c_10079).trans ((if_neg c_10084).trans (if_pos c_10089))) ?_
        refine Rn.n hT 1 (pc' := 99) (L' := [some (.ref q0), some (.int x1)]) (st' := [.ref q0]) rfl ?_
        obtain ⟨v_10090, e_10091, e⟩ := Option.bind_eq_some_iff.mp e
        refine Rn.hp hT rfl rfl (gR_hp e_10091) ?_
        refine Rn.n hT 1 (pc' := 103) (L' := [some (.ref q0), some (.int x1)]) (st' := [.int (2 : Int32), .ref v_10090]) rfl ?_
        obtain ⟨v_10092, e_10093, e⟩ := Option.bind_eq_some_iff.mp e
        refine Rn.hp hT rfl rfl (aI_hp e_10093) ?_
        obtain rfl := Option.some.inj e
        exact Rn.ret hT rfl rfl rfl hq
      · rw [if_neg c_10089] at e
        by_cases c_10094 : x1 = (3 : Int32)
        · rw [if_pos c_10094] at e
          refine Rn.sw2 hT rfl rfl rfl ((if_neg c_10079).trans ((if_neg c_10084).trans ((if_neg c_10089).trans (if_pos c_10094)))) ?_
          refine Rn.n hT 1 (pc' := 106) (L' := [some (.ref q0), some (.int x1)]) (st' := [.ref q0]) rfl ?_
          obtain ⟨v_10095, e_10096, e⟩ := Option.bind_eq_some_iff.mp e
          refine Rn.hp hT rfl rfl (gR_hp e_10096) ?_
          refine Rn.n hT 1 (pc' := 110) (L' := [some (.ref q0), some (.int x1)]) (st' := [.int (3 : Int32), .ref v_10095]) rfl ?_
          obtain ⟨v_10097, e_10098, e⟩ := Option.bind_eq_some_iff.mp e
          refine Rn.hp hT rfl rfl (aI_hp e_10098) ?_
          obtain rfl := Option.some.inj e
          exact Rn.ret hT rfl rfl rfl hq
        · rw [if_neg c_10094] at e
          by_cases c_10099 : x1 = (4 : Int32)
          · rw [if_pos c_10099] at e
            refine Rn.sw2 hT rfl rfl rfl ((if_neg c_10079).trans ((if_neg c_10084).trans ((if_neg c_10089).trans ((if_neg c_10094).trans (if_pos c_10099))))) ?_
            refine Rn.n hT 1 (pc' := 113) (L' := [some (.ref q0), some (.int x1)]) (st' := [.ref q0]) rfl ?_
            obtain ⟨v_10100, e_10101, e⟩ := Option.bind_eq_some_iff.mp e
            refine Rn.hp hT rfl rfl (gR_hp e_10101) ?_
            refine Rn.n hT 1 (pc' := 117) (L' := [some (.ref q0), some (.int x1)]) (st' := [.int (4 : Int32), .ref v_10100]) rfl ?_
            obtain ⟨v_10102, e_10103, e⟩ := Option.bind_eq_some_iff.mp e
            refine Rn.hp hT rfl rfl (aI_hp e_10103) ?_
            obtain rfl := Option.some.inj e
            exact Rn.ret hT rfl rfl rfl hq
          · rw [if_neg c_10099] at e
            by_cases c_10104 : x1 = (5 : Int32)
            · rw [if_pos c_10104] at e
              refine Rn.sw2 hT rfl rfl rfl ((if_neg c_10079).trans ((if_neg c_10084).trans ((if_neg c_10089).trans ((if_neg c_10094).trans ((if_neg c_10099).trans (if_pos c_10104)))))) ?_
              refine Rn.n hT 1 (pc' := 120) (L' := [some (.ref q0), some (.int x1)]) (st' := [.ref q0]) rfl ?_
              obtain ⟨v_10105, e_10106, e⟩ := Option.bind_eq_some_iff.mp e
              refine Rn.hp hT rfl rfl (gR_hp e_10106) ?_
              refine Rn.n hT 1 (pc' := 124) (L' := [some (.ref q0), some (.int x1)]) (st' := [.int (5 : Int32), .ref v_10105]) rfl ?_
              obtain ⟨v_10107, e_10108, e⟩ := Option.bind_eq_some_iff.mp e
              refine Rn.hp hT rfl rfl (aI_hp e_10108) ?_
              obtain rfl := Option.some.inj e
              exact Rn.ret hT rfl rfl rfl hq
            · rw [if_neg c_10104] at e
              by_cases c_10109 : x1 = (6 : Int32)
              · rw [if_pos c_10109] at e
                refine Rn.sw2 hT rfl rfl rfl ((if_neg c_10079).trans ((if_neg c_10084).trans ((if_neg c_10089).trans ((if_neg c_10094).trans ((if_neg c_10099).trans ((if_neg c_10104).trans (if_pos c_10109))))))) ?_
                refine Rn.n hT 1 (pc' := 127) (L' := [some (.ref q0), some (.int x1)]) (st' := [.ref q0]) rfl ?_
                obtain ⟨v_10110, e_10111, e⟩ := Option.bind_eq_some_iff.mp e
                refine Rn.hp hT rfl rfl (gI_hp e_10111) ?_
                obtain rfl := Option.some.inj e
                exact Rn.ret hT rfl rfl rfl hq
              · rw [if_neg c_10109] at e
                by_cases c_10112 : x1 = (7 : Int32)
                · rw [if_pos c_10112] at e
                  refine Rn.sw2 hT rfl rfl rfl ((if_neg c_10079).trans ((if_neg c_10084).trans ((if_neg c_10089).trans ((if_neg c_10094).trans ((if_neg c_10099).trans ((if_neg c_10104).trans ((if_neg c_10109).trans (if_pos c_10112)))))))) ?_
                  refine Rn.n hT 1 (pc' := 132) (L' := [some (.ref q0), some (.int x1)]) (st' := [.ref q0]) rfl ?_
                  obtain ⟨v_10113, e_10114, e⟩ := Option.bind_eq_some_iff.mp e
                  refine Rn.hp hT rfl rfl (gR_hp e_10114) ?_
                  refine Rn.n hT 1 (pc' := 137) (L' := [some (.ref q0), some (.int x1)]) (st' := [.int (12 : Int32), .ref v_10113]) rfl ?_
                  obtain ⟨v_10115, e_10116, e⟩ := Option.bind_eq_some_iff.mp e
                  refine Rn.hp hT rfl rfl (aI_hp e_10116) ?_
                  obtain rfl := Option.some.inj e
                  exact Rn.ret hT rfl rfl rfl hq
                · rw [if_neg c_10112] at e
                  by_cases c_10117 : x1 = (8 : Int32)
                  · rw [if_pos c_10117] at e
                    refine Rn.sw2 hT rfl rfl rfl ((if_neg c_10079).trans ((if_neg c_10084).trans ((if_neg c_10089).trans ((if_neg c_10094).trans ((if_neg c_10099).trans ((if_neg c_10104).trans ((if_neg c_10109).trans ((if_neg c_10112).trans (if_pos c_10117))))))))) ?_
                    refine Rn.n hT 1 (pc' := 140) (L' := [some (.ref q0), some (.int x1)]) (st' := [.ref q0]) rfl ?_
                    obtain ⟨v_10118, e_10119, e⟩ := Option.bind_eq_some_iff.mp e
                    refine Rn.hp hT rfl rfl (gR_hp e_10119) ?_
                    refine Rn.n hT 1 (pc' := 145) (L' := [some (.ref q0), some (.int x1)]) (st' := [.int (6 : Int32), .ref v_10118]) rfl ?_
                    obtain ⟨v_10120, e_10121, e⟩ := Option.bind_eq_some_iff.mp e
                    refine Rn.hp hT rfl rfl (aI_hp e_10121) ?_
                    obtain rfl := Option.some.inj e
                    exact Rn.ret hT rfl rfl rfl hq
                  · rw [if_neg c_10117] at e
                    by_cases c_10122 : x1 = (9 : Int32)
                    · rw [if_pos c_10122] at e
                      refine Rn.sw2 hT rfl rfl rfl ((if_neg c_10079).trans ((if_neg c_10084).trans ((if_neg c_10089).trans ((if_neg c_10094).trans ((if_neg c_10099).trans ((if_neg c_10104).trans ((if_neg c_10109).trans ((if_neg c_10112).trans ((if_neg c_10117).trans (if_pos c_10122)))))))))) ?_
                      refine Rn.n hT 1 (pc' := 148) (L' := [some (.ref q0), some (.int x1)]) (st' := [.ref q0]) rfl ?_
                      obtain ⟨v_10123, e_10124, e⟩ := Option.bind_eq_some_iff.mp e
                      refine Rn.hp hT rfl rfl (gR_hp e_10124) ?_
                      refine Rn.n hT 1 (pc' := 153) (L' := [some (.ref q0), some (.int x1)]) (st' := [.int (7 : Int32), .ref v_10123]) rfl ?_
                      obtain ⟨v_10125, e_10126, e⟩ := Option.bind_eq_some_iff.mp e
                      refine Rn.hp hT rfl rfl (aI_hp e_10126) ?_
                      obtain rfl := Option.some.inj e
                      exact Rn.ret hT rfl rfl rfl hq
                    · rw [if_neg c_10122] at e
                      by_cases c_10127 : x1 = (10 : Int32)
                      · rw [if_pos c_10127] at e
                        refine Rn.sw2 hT rfl rfl rfl ((if_neg c_10079).trans ((if_neg c_10084).trans ((if_neg c_10089).trans ((if_neg c_10094).trans ((if_neg c_10099).trans ((if_neg c_10104).trans ((if_neg c_10109).trans ((if_neg c_10112).trans ((if_neg c_10117).trans ((if_neg c_10122).trans (if_pos c_10127))))))))))) ?_
                        refine Rn.n hT 1 (pc' := 156) (L' := [some (.ref q0), some (.int x1)]) (st' := [.ref q0]) rfl ?_
                        obtain ⟨v_10128, e_10129, e⟩ := Option.bind_eq_some_iff.mp e
                        refine Rn.hp hT rfl rfl (gR_hp e_10129) ?_
                        refine Rn.n hT 1 (pc' := 161) (L' := [some (.ref q0), some (.int x1)]) (st' := [.int (8 : Int32), .ref v_10128]) rfl ?_
                        obtain ⟨v_10130, e_10131, e⟩ := Option.bind_eq_some_iff.mp e
                        refine Rn.hp hT rfl rfl (aI_hp e_10131) ?_
                        obtain rfl := Option.some.inj e
                        exact Rn.ret hT rfl rfl rfl hq
                      · rw [if_neg c_10127] at e
                        by_cases c_10132 : x1 = (11 : Int32)
                        · rw [if_pos c_10132] at e
                          refine Rn.sw2 hT rfl rfl rfl ((if_neg c_10079).trans ((if_neg c_10084).trans ((if_neg c_10089).trans ((if_neg c_10094).trans ((if_neg c_10099).trans ((if_neg c_10104).trans ((if_neg c_10109).trans ((if_neg c_10112).trans ((if_neg c_10117).trans ((if_neg c_10122).trans ((if_neg c_10127).trans (if_pos c_10132)))))))))))) ?_
                          refine Rn.n hT 1 (pc' := 164) (L' := [some (.ref q0), some (.int x1)]) (st' := [.ref q0]) rfl ?_
                          obtain ⟨v_10133, e_10134, e⟩ := Option.bind_eq_some_iff.mp e
                          refine Rn.hp hT rfl rfl (gR_hp e_10134) ?_
                          refine Rn.n hT 1 (pc' := 169) (L' := [some (.ref q0), some (.int x1)]) (st' := [.int (9 : Int32), .ref v_10133]) rfl ?_
                          obtain ⟨v_10135, e_10136, e⟩ := Option.bind_eq_some_iff.mp e
                          refine Rn.hp hT rfl rfl (aI_hp e_10136) ?_
                          obtain rfl := Option.some.inj e
                          exact Rn.ret hT rfl rfl rfl hq
                        · rw [if_neg c_10132] at e
                          by_cases c_10137 : x1 = (12 : Int32)
                          · rw [if_pos c_10137] at e
                            refine Rn.sw2 hT rfl rfl rfl ((if_neg c_10079).trans ((if_neg c_10084).trans ((if_neg c_10089).trans ((if_neg c_10094).trans ((if_neg c_10099).trans ((if_neg c_10104).trans ((if_neg c_10109).trans ((if_neg c_10112).trans ((if_neg c_10117).trans ((if_neg c_10122).trans ((if_neg c_10127).trans ((if_neg c_10132).trans (if_pos c_10137))))))))))))) ?_
                            refine Rn.n hT 1 (pc' := 172) (L' := [some (.ref q0), some (.int x1)]) (st' := [.ref q0]) rfl ?_
                            obtain ⟨v_10138, e_10139, e⟩ := Option.bind_eq_some_iff.mp e
                            refine Rn.hp hT rfl rfl (gR_hp e_10139) ?_
                            refine Rn.n hT 1 (pc' := 177) (L' := [some (.ref q0), some (.int x1)]) (st' := [.int (10 : Int32), .ref v_10138]) rfl ?_
                            obtain ⟨v_10140, e_10141, e⟩ := Option.bind_eq_some_iff.mp e
                            refine Rn.hp hT rfl rfl (aI_hp e_10141) ?_
                            obtain rfl := Option.some.inj e
                            exact Rn.ret hT rfl rfl rfl hq
                          · rw [if_neg c_10137] at e
                            by_cases c_10142 : x1 = (13 : Int32)
                            · rw [if_pos c_10142] at e
                              refine Rn.sw2 hT rfl rfl rfl ((if_neg c_10079).trans ((if_neg c_10084).trans ((if_neg c_10089).trans ((if_neg c_10094).trans ((if_neg c_10099).trans ((if_neg c_10104).trans ((if_neg c_10109).trans ((if_neg c_10112).trans ((if_neg c_10117).trans ((if_neg c_10122).trans ((if_neg c_10127).trans ((if_neg c_10132).trans ((if_neg c_10137).trans (if_pos c_10142)))))))))))))) ?_
                              refine Rn.n hT 1 (pc' := 180) (L' := [some (.ref q0), some (.int x1)]) (st' := [.ref q0]) rfl ?_
                              obtain ⟨v_10143, e_10144, e⟩ := Option.bind_eq_some_iff.mp e
                              refine Rn.hp hT rfl rfl (gR_hp e_10144) ?_
                              refine Rn.n hT 1 (pc' := 185) (L' := [some (.ref q0), some (.int x1)]) (st' := [.int (13 : Int32), .ref v_10143]) rfl ?_
                              obtain ⟨v_10145, e_10146, e⟩ := Option.bind_eq_some_iff.mp e
                              refine Rn.hp hT rfl rfl (aI_hp e_10146) ?_
                              obtain rfl := Option.some.inj e
                              exact Rn.ret hT rfl rfl rfl hq
                            · rw [if_neg c_10142] at e
                              by_cases c_10147 : x1 = (14 : Int32)
                              · rw [if_pos c_10147] at e
                                refine Rn.sw2 hT rfl rfl rfl ((if_neg c_10079).trans ((if_neg c_10084).trans ((if_neg c_10089).trans ((if_neg c_10094).trans ((if_neg c_10099).trans ((if_neg c_10104).trans ((if_neg c_10109).trans ((if_neg c_10112).trans ((if_neg c_10117).trans ((if_neg c_10122).trans ((if_neg c_10127).trans ((if_neg c_10132).trans ((if_neg c_10137).trans ((if_neg c_10142).trans (if_pos c_10147))))))))))))))) ?_
                                refine Rn.n hT 1 (pc' := 188) (L' := [some (.ref q0), some (.int x1)]) (st' := [.ref q0]) rfl ?_
                                obtain ⟨v_10148, e_10149, e⟩ := Option.bind_eq_some_iff.mp e
                                refine Rn.hp hT rfl rfl (gI_hp e_10149) ?_
                                obtain rfl := Option.some.inj e
                                exact Rn.ret hT rfl rfl rfl hq
                              · rw [if_neg c_10147] at e
                                by_cases c_10150 : x1 = (15 : Int32)
                                · rw [if_pos c_10150] at e
                                  refine Rn.sw2 hT rfl rfl rfl ((if_neg c_10079).trans ((if_neg c_10084).trans ((if_neg c_10089).trans ((if_neg c_10094).trans ((if_neg c_10099).trans ((if_neg c_10104).trans ((if_neg c_10109).trans ((if_neg c_10112).trans ((if_neg c_10117).trans ((if_neg c_10122).trans ((if_neg c_10127).trans ((if_neg c_10132).trans ((if_neg c_10137).trans ((if_neg c_10142).trans ((if_neg c_10147).trans (if_pos c_10150)))))))))))))))) ?_
                                  refine Rn.n hT 1 (pc' := 193) (L' := [some (.ref q0), some (.int x1)]) (st' := [.ref q0]) rfl ?_
                                  obtain ⟨_, e_10152, e⟩ := Option.bind_eq_some_iff.mp e
                                  obtain ⟨v_10153, e_10151, e⟩ := Option.bind_eq_some_iff.mp e
                                  refine Rn.call hT rfl rfl rfl (Nat.le_of_ble_eq_true rfl) (rcv_v gX12_emptyMany (by omega) e_10152) (rX12_emptyMany (by omega) e_10151 ?_)
                                  show Rn d _ _ 196 [some (.ref q0), some (.int x1)] [.int v_10153] h Q
                                  obtain rfl := Option.some.inj e
                                  exact Rn.ret hT rfl rfl rfl hq
                                · rw [if_neg c_10150] at e
                                  by_cases c_10154 : x1 = (16 : Int32)
                                  · rw [if_pos c_10154] at e
                                    refine Rn.sw2 hT rfl rfl rfl ((if_neg c_10079).trans ((if_neg c_10084).trans ((if_neg c_10089).trans ((if_neg c_10094).trans ((if_neg c_10099).trans ((if_neg c_10104).trans ((if_neg c_10109).trans ((if_neg c_10112).trans ((if_neg c_10117).trans ((if_neg c_10122).trans ((if_neg c_10127).trans ((if_neg c_10132).trans ((if_neg c_10137).trans ((if_neg c_10142).trans ((if_neg c_10147).trans ((if_neg c_10150).trans (if_pos c_10154))))))))))))))))) ?_
                                    refine Rn.n hT 1 (pc' := 198) (L' := [some (.ref q0), some (.int x1)]) (st' := [.ref q0]) rfl ?_
                                    obtain ⟨v_10155, e_10156, e⟩ := Option.bind_eq_some_iff.mp e
                                    refine Rn.hp hT rfl rfl (gR_hp e_10156) ?_
                                    refine Rn.n hT 1 (pc' := 203) (L' := [some (.ref q0), some (.int x1)]) (st' := [.int (11 : Int32), .ref v_10155]) rfl ?_
                                    obtain ⟨v_10157, e_10158, e⟩ := Option.bind_eq_some_iff.mp e
                                    refine Rn.hp hT rfl rfl (aI_hp e_10158) ?_
                                    obtain rfl := Option.some.inj e
                                    exact Rn.ret hT rfl rfl rfl hq
                                  · rw [if_neg c_10154] at e
                                    refine Rn.sw2 hT rfl rfl rfl ((if_neg c_10079).trans ((if_neg c_10084).trans ((if_neg c_10089).trans ((if_neg c_10094).trans ((if_neg c_10099).trans ((if_neg c_10104).trans ((if_neg c_10109).trans ((if_neg c_10112).trans ((if_neg c_10117).trans ((if_neg c_10122).trans ((if_neg c_10127).trans ((if_neg c_10132).trans ((if_neg c_10137).trans ((if_neg c_10142).trans ((if_neg c_10147).trans ((if_neg c_10150).trans ((if_neg c_10154).trans rfl))))))))))))))))) ?_
                                    refine Rn.n hT 1 (pc' := 206) (L' := [some (.ref q0), some (.int x1)]) (st' := [.int (-1 : Int32)]) rfl ?_
                                    obtain rfl := Option.some.inj e
                                    exact Rn.ret hT rfl rfl rfl hq
set_option maxRecDepth 10000 in
theorem hX12_carry : iv_Tb 345 tX12_carry := iv_tb_of (m := mX12_carry) rfl
set_option maxRecDepth 10000 in
theorem gX12_carry : PG.2 345 = some mX12_carry := iv_pi_of (t := tX12_carry) rfl (by decide)
def fX12_carry_b42 (N : Nat) (h : iv_H) (q0 : Nat) (q1 : Nat) (x2 : Int32)  (kb : iv_H → Int32 → Option (iv_H)) (kx : iv_H → Option (iv_H)) : Option (iv_H) := ((gI h 12 81 q0).bind fun v_10182 => ((pV h 12 81 q0 (.int (v_10182 + (1 : Int32)))).bind fun h_10184 => (kb h_10184 (x2 + (1 : Int32)))))
set_option maxRecDepth 10000 in
set_option maxHeartbeats 4000000 in
theorem rX12_carry_b42 {d N : Nat} (hd : 0 ≤ d) {h : iv_H} {q0 : Nat} {q1 : Nat} {x2 : Int32}  {kb : iv_H → Int32 → Option (iv_H)} {kx : iv_H → Option (iv_H)} {r : iv_H} {Q : Option Value → iv_H → Prop} (hb : ∀ (h : iv_H) (w2 : Int32), kb h w2 = some r → Rn d 345 none 2 [some (.ref q0), some (.ref q1), some (.int w2)] [] h Q) (hk : ∀ (h : iv_H), kx h = some r → Rn d 345 none 58 [none, none, none] [] h Q) (hq : Q none r) (e : fX12_carry_b42 N h q0 q1 x2  kb kx = some r) : Rn d 345 none 42 [some (.ref q0), some (.ref q1), some (.int x2)] [] h Q := by
  have hT := hX12_carry
  unfold fX12_carry_b42 at e
  refine Rn.n hT 2 (pc' := 44) (L' := [some (.ref q0), some (.ref q1), some (.int x2)]) (st' := [.ref q0, .ref q0]) rfl ?_
  obtain ⟨v_10182, e_10183, e⟩ := Option.bind_eq_some_iff.mp e
  refine Rn.hp hT rfl rfl (gI_hp e_10183) ?_
  refine Rn.n hT 2 (pc' := 49) (L' := [some (.ref q0), some (.ref q1), some (.int x2)]) (st' := [.int (v_10182 + (1 : Int32)), .ref q0]) rfl ?_
  obtain ⟨h_10184, e_10185, e⟩ := Option.bind_eq_some_iff.mp e
  refine Rn.hp hT rfl rfl (pV_hp rfl e_10185) ?_
  refine Rn.n hT 2 (pc' := 2) (L' := [some (.ref q0), some (.ref q1), some (.int (x2 + (1 : Int32)))]) (st' := []) rfl ?_
  exact Rn.weak (ll_s (ll_s (ll_s ll_e))) (hb h_10184 (x2 + (1 : Int32)) e)
def fX12_carry_l2 (N : Nat) (q0 : Nat) (q1 : Nat) (kx : iv_H → Option (iv_H)) : Nat → iv_H → Int32 → Option (iv_H)
  | 0, _, _ => none
  | n + 1, h, x2 => ((aL h q1).bind fun v_10160 => (if v_10160 ≤ x2 then (kx h) else ((gI h 12 82 q0).bind fun v_10163 => (if v_10163 = 0 then ((gR h 12 79 q0).bind fun v_10166 => ((gI h 12 81 q0).bind fun v_10168 => ((aI h q1 x2).bind fun v_10170 => ((wI h v_10166 v_10168 v_10170).bind fun h_10172 => (fX12_carry_b42 N h_10172 q0 q1 x2 (fX12_carry_l2 N q0 q1 kx n) kx))))) else ((gR h 12 79 q0).bind fun v_10174 => ((gI h 12 81 q0).bind fun v_10176 => ((aI h v_10174 v_10176).bind fun v_10178 => ((wI h q1 x2 v_10178).bind fun h_10180 => (fX12_carry_b42 N h_10180 q0 q1 x2 (fX12_carry_l2 N q0 q1 kx n) kx)))))))))
set_option maxRecDepth 10000 in
set_option maxHeartbeats 4000000 in
theorem rX12_carry_l2 {d N : Nat} (hd : 0 ≤ d) {q0 : Nat} {q1 : Nat} {kx : iv_H → Option (iv_H)} {r : iv_H} {Q : Option Value → iv_H → Prop} (hk : ∀ (h : iv_H), kx h = some r → Rn d 345 none 58 [none, none, none] [] h Q) (hq : Q none r) : ∀ (n : Nat) (h : iv_H) (x2 : Int32), fX12_carry_l2 N q0 q1 kx n h x2 = some r → Rn d 345 none 2 [some (.ref q0), some (.ref q1), some (.int x2)] [] h Q := by
  have hT := hX12_carry
  intro n
  induction n with
  | zero =>
    intro h x2 e
    rw [fX12_carry_l2] at e
    cases e
  | succ n ih =>
    intro h x2 e
    rw [fX12_carry_l2] at e
    refine Rn.n hT 2 (pc' := 4) (L' := [some (.ref q0), some (.ref q1), some (.int x2)]) (st' := [.ref q1, .int x2]) rfl ?_
    obtain ⟨v_10160, e_10161, e⟩ := Option.bind_eq_some_iff.mp e
    refine Rn.hp hT rfl rfl (aL_hp e_10161) ?_
    by_cases c_10162 : v_10160 ≤ x2
    · rw [if_pos c_10162] at e
      refine Rn.bt hT rfl rfl rfl (decide_eq_true c_10162) ?_
      exact Rn.weak (ll_n (ll_n (ll_n ll_e))) (hk h e)
    · rw [if_neg c_10162] at e
      refine Rn.bf hT rfl rfl rfl (decide_eq_false c_10162) ?_
      refine Rn.n hT 1 (pc' := 9) (L' := [some (.ref q0), some (.ref q1), some (.int x2)]) (st' := [.ref q0]) rfl ?_
      obtain ⟨v_10163, e_10164, e⟩ := Option.bind_eq_some_iff.mp e
      refine Rn.hp hT rfl rfl (gI_hp e_10164) ?_
      by_cases c_10165 : v_10163 = 0
      · rw [if_pos c_10165] at e
        refine Rn.bt hT rfl rfl rfl (decide_eq_true c_10165) ?_
        refine Rn.n hT 1 (pc' := 31) (L' := [some (.ref q0), some (.ref q1), some (.int x2)]) (st' := [.ref q0]) rfl ?_
        obtain ⟨v_10166, e_10167, e⟩ := Option.bind_eq_some_iff.mp e
        refine Rn.hp hT rfl rfl (gR_hp e_10167) ?_
        refine Rn.n hT 1 (pc' := 35) (L' := [some (.ref q0), some (.ref q1), some (.int x2)]) (st' := [.ref q0, .ref v_10166]) rfl ?_
        obtain ⟨v_10168, e_10169, e⟩ := Option.bind_eq_some_iff.mp e
        refine Rn.hp hT rfl rfl (gI_hp e_10169) ?_
        refine Rn.n hT 2 (pc' := 40) (L' := [some (.ref q0), some (.ref q1), some (.int x2)]) (st' := [.int x2, .ref q1, .int v_10168, .ref v_10166]) rfl ?_
        obtain ⟨v_10170, e_10171, e⟩ := Option.bind_eq_some_iff.mp e
        refine Rn.hp hT rfl rfl (aI_hp e_10171) ?_
        obtain ⟨h_10172, e_10173, e⟩ := Option.bind_eq_some_iff.mp e
        refine Rn.hp hT rfl rfl (wI_hp e_10173) ?_
        exact Rn.weak (ll_s (ll_s (ll_s ll_e))) (rX12_carry_b42 hd ih hk hq e)
      · rw [if_neg c_10165] at e
        refine Rn.bf hT rfl rfl rfl (decide_eq_false c_10165) ?_
        refine Rn.n hT 3 (pc' := 18) (L' := [some (.ref q0), some (.ref q1), some (.int x2)]) (st' := [.ref q0, .int x2, .ref q1]) rfl ?_
        obtain ⟨v_10174, e_10175, e⟩ := Option.bind_eq_some_iff.mp e
        refine Rn.hp hT rfl rfl (gR_hp e_10175) ?_
        refine Rn.n hT 1 (pc' := 22) (L' := [some (.ref q0), some (.ref q1), some (.int x2)]) (st' := [.ref q0, .ref v_10174, .int x2, .ref q1]) rfl ?_
        obtain ⟨v_10176, e_10177, e⟩ := Option.bind_eq_some_iff.mp e
        refine Rn.hp hT rfl rfl (gI_hp e_10177) ?_
        obtain ⟨v_10178, e_10179, e⟩ := Option.bind_eq_some_iff.mp e
        refine Rn.hp hT rfl rfl (aI_hp e_10179) ?_
        obtain ⟨h_10180, e_10181, e⟩ := Option.bind_eq_some_iff.mp e
        refine Rn.hp hT rfl rfl (wI_hp e_10181) ?_
        refine Rn.n hT 1 (pc' := 42) (L' := [some (.ref q0), some (.ref q1), some (.int x2)]) (st' := []) rfl ?_
        exact Rn.weak (ll_s (ll_s (ll_s ll_e))) (rX12_carry_b42 hd ih hk hq e)
def fX12_carry (N : Nat) (h : iv_H) (q0 : Nat) (q1 : Nat) : Option (iv_H) := (fX12_carry_l2 N q0 q1 (fun (h_10159 : iv_H) => some h_10159) N h (0 : Int32))
set_option maxRecDepth 10000 in
set_option maxHeartbeats 4000000 in
theorem rX12_carry {d N : Nat} (hd : 1 ≤ d) {h : iv_H} {q0 : Nat} {q1 : Nat} {r : iv_H} {Q : Option Value → iv_H → Prop} (e : fX12_carry N h q0 q1 = some r) (hq : Q none r) : Cl d 345 [.ref q0, .ref q1] h Q := by
  obtain ⟨d, rfl⟩ : ∃ k, d = k + 1 := ⟨d - 1, by omega⟩
  have hd : 0 ≤ d := by omega
  have hT := hX12_carry
  unfold fX12_carry at e
  refine Cl.into (by decide) gX12_carry rfl ?_
  show Rn d 345 none 0 [some (.ref q0), some (.ref q1), none] [] h Q
  refine Rn.n hT 2 (pc' := 2) (L' := [some (.ref q0), some (.ref q1), some (.int (0 : Int32))]) (st' := []) rfl ?_
  refine Rn.weak (ll_s (ll_s (ll_s ll_e))) (rX12_carry_l2 hd (fun h_10159 e => ?_) hq N h (0 : Int32) e)
  try dsimp only at e
  obtain rfl := Option.some.inj e
  exact Rn.ret hT rfl rfl rfl hq
set_option maxRecDepth 10000 in
theorem hX12_carriesAll : iv_Tb 346 tX12_carriesAll := iv_tb_of (m := mX12_carriesAll) rfl
set_option maxRecDepth 10000 in
theorem gX12_carriesAll : PG.2 346 = some mX12_carriesAll := iv_pi_of (t := tX12_carriesAll) rfl (by decide)
def fX12_carriesAll (N : Nat) (h : iv_H) (q0 : Nat) (x1 : Int32) (x2 : Int32) : Option (iv_H) := ((pV h 12 81 q0 (.int ((860 : Int32) * x1))).bind fun h_10186 => (if x2 = 0 ∨ x2 = 1 then ((pV h_10186 12 82 q0 (.int x2)).bind fun h_10188 => ((gR h_10188 12 1 q0).bind fun v_10190 => ((cko h_10188 q0 12).bind fun _ => (fX12_carry N h_10188 q0 v_10190).bind fun h_10195 => ((gR h_10195 12 2 q0).bind fun v_10196 => ((cko h_10195 q0 12).bind fun _ => (fX12_carry N h_10195 q0 v_10196).bind fun h_10201 => ((gR h_10201 12 3 q0).bind fun v_10202 => ((cko h_10201 q0 12).bind fun _ => (fX12_carry N h_10201 q0 v_10202).bind fun h_10207 => ((gR h_10207 12 4 q0).bind fun v_10208 => ((cko h_10207 q0 12).bind fun _ => (fX12_carry N h_10207 q0 v_10208).bind fun h_10213 => ((gR h_10213 12 5 q0).bind fun v_10214 => ((cko h_10213 q0 12).bind fun _ => (fX12_carry N h_10213 q0 v_10214).bind fun h_10219 => ((gR h_10219 12 6 q0).bind fun v_10220 => ((cko h_10219 q0 12).bind fun _ => (fX12_carry N h_10219 q0 v_10220).bind fun h_10225 => ((gR h_10225 12 7 q0).bind fun v_10226 => ((cko h_10225 q0 12).bind fun _ => (fX12_carry N h_10225 q0 v_10226).bind fun h_10231 => ((gR h_10231 12 8 q0).bind fun v_10232 => ((cko h_10231 q0 12).bind fun _ => (fX12_carry N h_10231 q0 v_10232).bind fun h_10237 => ((gR h_10237 12 9 q0).bind fun v_10238 => ((cko h_10237 q0 12).bind fun _ => (fX12_carry N h_10237 q0 v_10238).bind fun h_10243 => ((gR h_10243 12 10 q0).bind fun v_10244 => ((cko h_10243 q0 12).bind fun _ => (fX12_carry N h_10243 q0 v_10244).bind fun h_10249 => ((gR h_10249 12 11 q0).bind fun v_10250 => ((cko h_10249 q0 12).bind fun _ => (fX12_carry N h_10249 q0 v_10250).bind fun h_10255 => ((gR h_10255 12 12 q0).bind fun v_10256 => ((cko h_10255 q0 12).bind fun _ => (fX12_carry N h_10255 q0 v_10256).bind fun h_10261 => ((gR h_10261 12 13 q0).bind fun v_10262 => ((cko h_10261 q0 12).bind fun _ => (fX12_carry N h_10261 q0 v_10262).bind fun h_10267 => ((gR h_10267 12 14 q0).bind fun v_10268 => ((cko h_10267 q0 12).bind fun _ => (fX12_carry N h_10267 q0 v_10268).bind fun h_10273 => ((gR h_10273 12 15 q0).bind fun v_10274 => ((cko h_10273 q0 12).bind fun _ => (fX12_carry N h_10273 q0 v_10274).bind fun h_10279 => ((gR h_10279 12 16 q0).bind fun v_10280 => ((cko h_10279 q0 12).bind fun _ => (fX12_carry N h_10279 q0 v_10280).bind fun h_10285 => ((gR h_10285 12 17 q0).bind fun v_10286 => ((cko h_10285 q0 12).bind fun _ => (fX12_carry N h_10285 q0 v_10286).bind fun h_10291 => ((gR h_10291 12 18 q0).bind fun v_10292 => ((cko h_10291 q0 12).bind fun _ => (fX12_carry N h_10291 q0 v_10292).bind fun h_10297 => some h_10297))))))))))))))))))))))))))))))))))))) else none))
set_option maxRecDepth 10000 in
set_option maxHeartbeats 4000000 in
theorem rX12_carriesAll {d N : Nat} (hd : 2 ≤ d) {h : iv_H} {q0 : Nat} {x1 : Int32} {x2 : Int32} {r : iv_H} {Q : Option Value → iv_H → Prop} (e : fX12_carriesAll N h q0 x1 x2 = some r) (hq : Q none r) : Cl d 346 [.ref q0, .int x1, .int x2] h Q := by
  obtain ⟨d, rfl⟩ : ∃ k, d = k + 1 := ⟨d - 1, by omega⟩
  have hd : 1 ≤ d := by omega
  have hT := hX12_carriesAll
  unfold fX12_carriesAll at e
  refine Cl.into (by decide) gX12_carriesAll rfl ?_
  show Rn d 346 none 0 [some (.ref q0), some (.int x1), some (.int x2)] [] h Q
  refine Rn.n hT 4 (pc' := 6) (L' := [some (.ref q0), some (.int x1), some (.int x2)]) (st' := [.int ((860 : Int32) * x1), .ref q0]) rfl ?_
  obtain ⟨h_10186, e_10187, e⟩ := Option.bind_eq_some_iff.mp e
  refine Rn.hp hT rfl rfl (pV_hp rfl e_10187) ?_
  refine Rn.n hT 2 (pc' := 11) (L' := [some (.ref q0), some (.int x1), some (.int x2)]) (st' := [.int x2, .ref q0]) rfl ?_
  by_cases c_10298 : x2 = 0 ∨ x2 = 1
  · rw [if_pos c_10298] at e
    obtain ⟨h_10188, e_10189, e⟩ := Option.bind_eq_some_iff.mp e
    refine Rn.hp hT rfl rfl (pV_hp (ft_bl c_10298) e_10189) ?_
    refine Rn.n hT 2 (pc' := 16) (L' := [some (.ref q0), some (.int x1), some (.int x2)]) (st' := [.ref q0, .ref q0]) rfl ?_
    obtain ⟨v_10190, e_10191, e⟩ := Option.bind_eq_some_iff.mp e
    refine Rn.hp hT rfl rfl (gR_hp e_10191) ?_
    obtain ⟨_, e_10193, e⟩ := Option.bind_eq_some_iff.mp e
    obtain ⟨h_10195, e_10192, e⟩ := Option.bind_eq_some_iff.mp e
    refine Rn.call hT rfl rfl rfl (Nat.le_of_ble_eq_true rfl) (rcv_v gX12_carry (by omega) e_10193) (rX12_carry (by omega) e_10192 ?_)
    show Rn d _ _ 22 [some (.ref q0), some (.int x1), some (.int x2)] [] h_10195 Q
    refine Rn.n hT 2 (pc' := 24) (L' := [some (.ref q0), some (.int x1), some (.int x2)]) (st' := [.ref q0, .ref q0]) rfl ?_
    obtain ⟨v_10196, e_10197, e⟩ := Option.bind_eq_some_iff.mp e
    refine Rn.hp hT rfl rfl (gR_hp e_10197) ?_
    obtain ⟨_, e_10199, e⟩ := Option.bind_eq_some_iff.mp e
    obtain ⟨h_10201, e_10198, e⟩ := Option.bind_eq_some_iff.mp e
    refine Rn.call hT rfl rfl rfl (Nat.le_of_ble_eq_true rfl) (rcv_v gX12_carry (by omega) e_10199) (rX12_carry (by omega) e_10198 ?_)
    show Rn d _ _ 30 [some (.ref q0), some (.int x1), some (.int x2)] [] h_10201 Q
    refine Rn.n hT 2 (pc' := 32) (L' := [some (.ref q0), some (.int x1), some (.int x2)]) (st' := [.ref q0, .ref q0]) rfl ?_
    obtain ⟨v_10202, e_10203, e⟩ := Option.bind_eq_some_iff.mp e
    refine Rn.hp hT rfl rfl (gR_hp e_10203) ?_
    obtain ⟨_, e_10205, e⟩ := Option.bind_eq_some_iff.mp e
    obtain ⟨h_10207, e_10204, e⟩ := Option.bind_eq_some_iff.mp e
    refine Rn.call hT rfl rfl rfl (Nat.le_of_ble_eq_true rfl) (rcv_v gX12_carry (by omega) e_10205) (rX12_carry (by omega) e_10204 ?_)
    show Rn d _ _ 38 [some (.ref q0), some (.int x1), some (.int x2)] [] h_10207 Q
    refine Rn.n hT 2 (pc' := 40) (L' := [some (.ref q0), some (.int x1), some (.int x2)]) (st' := [.ref q0, .ref q0]) rfl ?_
    obtain ⟨v_10208, e_10209, e⟩ := Option.bind_eq_some_iff.mp e
    refine Rn.hp hT rfl rfl (gR_hp e_10209) ?_
    obtain ⟨_, e_10211, e⟩ := Option.bind_eq_some_iff.mp e
    obtain ⟨h_10213, e_10210, e⟩ := Option.bind_eq_some_iff.mp e
    refine Rn.call hT rfl rfl rfl (Nat.le_of_ble_eq_true rfl) (rcv_v gX12_carry (by omega) e_10211) (rX12_carry (by omega) e_10210 ?_)
    show Rn d _ _ 46 [some (.ref q0), some (.int x1), some (.int x2)] [] h_10213 Q
    refine Rn.n hT 2 (pc' := 48) (L' := [some (.ref q0), some (.int x1), some (.int x2)]) (st' := [.ref q0, .ref q0]) rfl ?_
    obtain ⟨v_10214, e_10215, e⟩ := Option.bind_eq_some_iff.mp e
    refine Rn.hp hT rfl rfl (gR_hp e_10215) ?_
    obtain ⟨_, e_10217, e⟩ := Option.bind_eq_some_iff.mp e
    obtain ⟨h_10219, e_10216, e⟩ := Option.bind_eq_some_iff.mp e
    refine Rn.call hT rfl rfl rfl (Nat.le_of_ble_eq_true rfl) (rcv_v gX12_carry (by omega) e_10217) (rX12_carry (by omega) e_10216 ?_)
    show Rn d _ _ 54 [some (.ref q0), some (.int x1), some (.int x2)] [] h_10219 Q
    refine Rn.n hT 2 (pc' := 56) (L' := [some (.ref q0), some (.int x1), some (.int x2)]) (st' := [.ref q0, .ref q0]) rfl ?_
    obtain ⟨v_10220, e_10221, e⟩ := Option.bind_eq_some_iff.mp e
    refine Rn.hp hT rfl rfl (gR_hp e_10221) ?_
    obtain ⟨_, e_10223, e⟩ := Option.bind_eq_some_iff.mp e
    obtain ⟨h_10225, e_10222, e⟩ := Option.bind_eq_some_iff.mp e
    refine Rn.call hT rfl rfl rfl (Nat.le_of_ble_eq_true rfl) (rcv_v gX12_carry (by omega) e_10223) (rX12_carry (by omega) e_10222 ?_)
    show Rn d _ _ 62 [some (.ref q0), some (.int x1), some (.int x2)] [] h_10225 Q
    refine Rn.n hT 2 (pc' := 64) (L' := [some (.ref q0), some (.int x1), some (.int x2)]) (st' := [.ref q0, .ref q0]) rfl ?_
    obtain ⟨v_10226, e_10227, e⟩ := Option.bind_eq_some_iff.mp e
    refine Rn.hp hT rfl rfl (gR_hp e_10227) ?_
    obtain ⟨_, e_10229, e⟩ := Option.bind_eq_some_iff.mp e
    obtain ⟨h_10231, e_10228, e⟩ := Option.bind_eq_some_iff.mp e
    refine Rn.call hT rfl rfl rfl (Nat.le_of_ble_eq_true rfl) (rcv_v gX12_carry (by omega) e_10229) (rX12_carry (by omega) e_10228 ?_)
    show Rn d _ _ 70 [some (.ref q0), some (.int x1), some (.int x2)] [] h_10231 Q
    refine Rn.n hT 2 (pc' := 72) (L' := [some (.ref q0), some (.int x1), some (.int x2)]) (st' := [.ref q0, .ref q0]) rfl ?_
    obtain ⟨v_10232, e_10233, e⟩ := Option.bind_eq_some_iff.mp e
    refine Rn.hp hT rfl rfl (gR_hp e_10233) ?_
    obtain ⟨_, e_10235, e⟩ := Option.bind_eq_some_iff.mp e
    obtain ⟨h_10237, e_10234, e⟩ := Option.bind_eq_some_iff.mp e
    refine Rn.call hT rfl rfl rfl (Nat.le_of_ble_eq_true rfl) (rcv_v gX12_carry (by omega) e_10235) (rX12_carry (by omega) e_10234 ?_)
    show Rn d _ _ 78 [some (.ref q0), some (.int x1), some (.int x2)] [] h_10237 Q
    refine Rn.n hT 2 (pc' := 80) (L' := [some (.ref q0), some (.int x1), some (.int x2)]) (st' := [.ref q0, .ref q0]) rfl ?_
    obtain ⟨v_10238, e_10239, e⟩ := Option.bind_eq_some_iff.mp e
    refine Rn.hp hT rfl rfl (gR_hp e_10239) ?_
    obtain ⟨_, e_10241, e⟩ := Option.bind_eq_some_iff.mp e
    obtain ⟨h_10243, e_10240, e⟩ := Option.bind_eq_some_iff.mp e
    refine Rn.call hT rfl rfl rfl (Nat.le_of_ble_eq_true rfl) (rcv_v gX12_carry (by omega) e_10241) (rX12_carry (by omega) e_10240 ?_)
    show Rn d _ _ 86 [some (.ref q0), some (.int x1), some (.int x2)] [] h_10243 Q
    refine Rn.n hT 2 (pc' := 88) (L' := [some (.ref q0), some (.int x1), some (.int x2)]) (st' := [.ref q0, .ref q0]) rfl ?_
    obtain ⟨v_10244, e_10245, e⟩ := Option.bind_eq_some_iff.mp e
    refine Rn.hp hT rfl rfl (gR_hp e_10245) ?_
    obtain ⟨_, e_10247, e⟩ := Option.bind_eq_some_iff.mp e
    obtain ⟨h_10249, e_10246, e⟩ := Option.bind_eq_some_iff.mp e
    refine Rn.call hT rfl rfl rfl (Nat.le_of_ble_eq_true rfl) (rcv_v gX12_carry (by omega) e_10247) (rX12_carry (by omega) e_10246 ?_)
    show Rn d _ _ 94 [some (.ref q0), some (.int x1), some (.int x2)] [] h_10249 Q
    refine Rn.n hT 2 (pc' := 96) (L' := [some (.ref q0), some (.int x1), some (.int x2)]) (st' := [.ref q0, .ref q0]) rfl ?_
    obtain ⟨v_10250, e_10251, e⟩ := Option.bind_eq_some_iff.mp e
    refine Rn.hp hT rfl rfl (gR_hp e_10251) ?_
    obtain ⟨_, e_10253, e⟩ := Option.bind_eq_some_iff.mp e
    obtain ⟨h_10255, e_10252, e⟩ := Option.bind_eq_some_iff.mp e
    refine Rn.call hT rfl rfl rfl (Nat.le_of_ble_eq_true rfl) (rcv_v gX12_carry (by omega) e_10253) (rX12_carry (by omega) e_10252 ?_)
    show Rn d _ _ 102 [some (.ref q0), some (.int x1), some (.int x2)] [] h_10255 Q
    refine Rn.n hT 2 (pc' := 104) (L' := [some (.ref q0), some (.int x1), some (.int x2)]) (st' := [.ref q0, .ref q0]) rfl ?_
    obtain ⟨v_10256, e_10257, e⟩ := Option.bind_eq_some_iff.mp e
    refine Rn.hp hT rfl rfl (gR_hp e_10257) ?_
    obtain ⟨_, e_10259, e⟩ := Option.bind_eq_some_iff.mp e
    obtain ⟨h_10261, e_10258, e⟩ := Option.bind_eq_some_iff.mp e
    refine Rn.call hT rfl rfl rfl (Nat.le_of_ble_eq_true rfl) (rcv_v gX12_carry (by omega) e_10259) (rX12_carry (by omega) e_10258 ?_)
    show Rn d _ _ 110 [some (.ref q0), some (.int x1), some (.int x2)] [] h_10261 Q
    refine Rn.n hT 2 (pc' := 112) (L' := [some (.ref q0), some (.int x1), some (.int x2)]) (st' := [.ref q0, .ref q0]) rfl ?_
    obtain ⟨v_10262, e_10263, e⟩ := Option.bind_eq_some_iff.mp e
    refine Rn.hp hT rfl rfl (gR_hp e_10263) ?_
    obtain ⟨_, e_10265, e⟩ := Option.bind_eq_some_iff.mp e
    obtain ⟨h_10267, e_10264, e⟩ := Option.bind_eq_some_iff.mp e
    refine Rn.call hT rfl rfl rfl (Nat.le_of_ble_eq_true rfl) (rcv_v gX12_carry (by omega) e_10265) (rX12_carry (by omega) e_10264 ?_)
    show Rn d _ _ 118 [some (.ref q0), some (.int x1), some (.int x2)] [] h_10267 Q
    refine Rn.n hT 2 (pc' := 120) (L' := [some (.ref q0), some (.int x1), some (.int x2)]) (st' := [.ref q0, .ref q0]) rfl ?_
    obtain ⟨v_10268, e_10269, e⟩ := Option.bind_eq_some_iff.mp e
    refine Rn.hp hT rfl rfl (gR_hp e_10269) ?_
    obtain ⟨_, e_10271, e⟩ := Option.bind_eq_some_iff.mp e
    obtain ⟨h_10273, e_10270, e⟩ := Option.bind_eq_some_iff.mp e
    refine Rn.call hT rfl rfl rfl (Nat.le_of_ble_eq_true rfl) (rcv_v gX12_carry (by omega) e_10271) (rX12_carry (by omega) e_10270 ?_)
    show Rn d _ _ 126 [some (.ref q0), some (.int x1), some (.int x2)] [] h_10273 Q
    refine Rn.n hT 2 (pc' := 128) (L' := [some (.ref q0), some (.int x1), some (.int x2)]) (st' := [.ref q0, .ref q0]) rfl ?_
    obtain ⟨v_10274, e_10275, e⟩ := Option.bind_eq_some_iff.mp e
    refine Rn.hp hT rfl rfl (gR_hp e_10275) ?_
    obtain ⟨_, e_10277, e⟩ := Option.bind_eq_some_iff.mp e
    obtain ⟨h_10279, e_10276, e⟩ := Option.bind_eq_some_iff.mp e
    refine Rn.call hT rfl rfl rfl (Nat.le_of_ble_eq_true rfl) (rcv_v gX12_carry (by omega) e_10277) (rX12_carry (by omega) e_10276 ?_)
    show Rn d _ _ 134 [some (.ref q0), some (.int x1), some (.int x2)] [] h_10279 Q
    refine Rn.n hT 2 (pc' := 136) (L' := [some (.ref q0), some (.int x1), some (.int x2)]) (st' := [.ref q0, .ref q0]) rfl ?_
    obtain ⟨v_10280, e_10281, e⟩ := Option.bind_eq_some_iff.mp e
    refine Rn.hp hT rfl rfl (gR_hp e_10281) ?_
    obtain ⟨_, e_10283, e⟩ := Option.bind_eq_some_iff.mp e
    obtain ⟨h_10285, e_10282, e⟩ := Option.bind_eq_some_iff.mp e
    refine Rn.call hT rfl rfl rfl (Nat.le_of_ble_eq_true rfl) (rcv_v gX12_carry (by omega) e_10283) (rX12_carry (by omega) e_10282 ?_)
    show Rn d _ _ 142 [some (.ref q0), some (.int x1), some (.int x2)] [] h_10285 Q
    refine Rn.n hT 2 (pc' := 144) (L' := [some (.ref q0), some (.int x1), some (.int x2)]) (st' := [.ref q0, .ref q0]) rfl ?_
    obtain ⟨v_10286, e_10287, e⟩ := Option.bind_eq_some_iff.mp e
    refine Rn.hp hT rfl rfl (gR_hp e_10287) ?_
    obtain ⟨_, e_10289, e⟩ := Option.bind_eq_some_iff.mp e
    obtain ⟨h_10291, e_10288, e⟩ := Option.bind_eq_some_iff.mp e
    refine Rn.call hT rfl rfl rfl (Nat.le_of_ble_eq_true rfl) (rcv_v gX12_carry (by omega) e_10289) (rX12_carry (by omega) e_10288 ?_)
    show Rn d _ _ 150 [some (.ref q0), some (.int x1), some (.int x2)] [] h_10291 Q
    refine Rn.n hT 2 (pc' := 152) (L' := [some (.ref q0), some (.int x1), some (.int x2)]) (st' := [.ref q0, .ref q0]) rfl ?_
    obtain ⟨v_10292, e_10293, e⟩ := Option.bind_eq_some_iff.mp e
    refine Rn.hp hT rfl rfl (gR_hp e_10293) ?_
    obtain ⟨_, e_10295, e⟩ := Option.bind_eq_some_iff.mp e
    obtain ⟨h_10297, e_10294, e⟩ := Option.bind_eq_some_iff.mp e
    refine Rn.call hT rfl rfl rfl (Nat.le_of_ble_eq_true rfl) (rcv_v gX12_carry (by omega) e_10295) (rX12_carry (by omega) e_10294 ?_)
    show Rn d _ _ 158 [some (.ref q0), some (.int x1), some (.int x2)] [] h_10297 Q
    obtain rfl := Option.some.inj e
    exact Rn.ret hT rfl rfl rfl hq
  · rw [if_neg c_10298] at e
    cases e
set_option maxRecDepth 10000 in
theorem hX12_image : iv_Tb 347 tX12_image := iv_tb_of (m := mX12_image) rfl
set_option maxRecDepth 10000 in
theorem gX12_image : PG.2 347 = some mX12_image := iv_pi_of (t := tX12_image) rfl (by decide)
def fX12_image (N : Nat) (h : iv_H) (q0 : Nat) (x1 : Int32) : Option (Int32 × iv_H) := ((fX12_in N h ((x1).toInt64) (0 : Int64) (3 : Int64)).bind fun v_10300 => (if v_10300 = 0 then (some ((-1 : Int32), h)) else ((gR h 12 80 q0).bind fun v_10302 => ((wB h v_10302 x1 (1 : Int32)).bind fun h_10304 => ((cko h_10304 q0 12).bind fun _ => (fX12_carriesAll N h_10304 q0 x1 (0 : Int32)).bind fun h_10309 => ((gR h_10309 12 1 q0).bind fun v_10310 => ((aI h_10309 v_10310 (6 : Int32)).bind fun v_10312 => (some (v_10312, h_10309)))))))))
set_option maxRecDepth 10000 in
set_option maxHeartbeats 4000000 in
theorem rX12_image {d N : Nat} (hd : 3 ≤ d) {h : iv_H} {q0 : Nat} {x1 : Int32} {r : Int32 × iv_H} {Q : Option Value → iv_H → Prop} (e : fX12_image N h q0 x1 = some r) (hq : Q (some (.int r.1)) r.2) : Cl d 347 [.ref q0, .int x1] h Q := by
  obtain ⟨d, rfl⟩ : ∃ k, d = k + 1 := ⟨d - 1, by omega⟩
  have hd : 2 ≤ d := by omega
  have hT := hX12_image
  unfold fX12_image at e
  refine Cl.into (by decide) gX12_image rfl ?_
  show Rn d 347 (some .int) 0 [some (.ref q0), some (.int x1)] [] h Q
  refine Rn.n hT 4 (pc' := 6) (L' := [some (.ref q0), some (.int x1)]) (st' := [.long (3 : Int64), .long (0 : Int64), .long ((x1).toInt64)]) rfl ?_
  obtain ⟨v_10300, e_10299, e⟩ := Option.bind_eq_some_iff.mp e
  refine Rn.call hT rfl rfl rfl (Nat.le_of_ble_eq_true rfl) rfl (rX12_in (by omega) e_10299 ?_)
  show Rn d _ _ 9 [some (.ref q0), some (.int x1)] [.int v_10300] h Q
  by_cases c_10301 : v_10300 = 0
  · rw [if_pos c_10301] at e
    refine Rn.bf hT rfl rfl rfl (decide_eq_false (fun z => z c_10301)) ?_
    refine Rn.n hT 1 (pc' := 13) (L' := [some (.ref q0), some (.int x1)]) (st' := [.int (-1 : Int32)]) rfl ?_
    obtain rfl := Option.some.inj e
    exact Rn.ret hT rfl rfl rfl hq
  · rw [if_neg c_10301] at e
    refine Rn.bt hT rfl rfl rfl (decide_eq_true c_10301) ?_
    refine Rn.n hT 1 (pc' := 15) (L' := [some (.ref q0), some (.int x1)]) (st' := [.ref q0]) rfl ?_
    obtain ⟨v_10302, e_10303, e⟩ := Option.bind_eq_some_iff.mp e
    refine Rn.hp hT rfl rfl (gR_hp e_10303) ?_
    refine Rn.n hT 2 (pc' := 20) (L' := [some (.ref q0), some (.int x1)]) (st' := [.int (1 : Int32), .int x1, .ref v_10302]) rfl ?_
    obtain ⟨h_10304, e_10305, e⟩ := Option.bind_eq_some_iff.mp e
    refine Rn.hp hT rfl rfl (wB_hp e_10305) ?_
    refine Rn.n hT 3 (pc' := 24) (L' := [some (.ref q0), some (.int x1)]) (st' := [.int (0 : Int32), .int x1, .ref q0]) rfl ?_
    obtain ⟨_, e_10307, e⟩ := Option.bind_eq_some_iff.mp e
    obtain ⟨h_10309, e_10306, e⟩ := Option.bind_eq_some_iff.mp e
    refine Rn.call hT rfl rfl rfl (Nat.le_of_ble_eq_true rfl) (rcv_v gX12_carriesAll (by omega) e_10307) (rX12_carriesAll (by omega) e_10306 ?_)
    show Rn d _ _ 27 [some (.ref q0), some (.int x1)] [] h_10309 Q
    refine Rn.n hT 1 (pc' := 28) (L' := [some (.ref q0), some (.int x1)]) (st' := [.ref q0]) rfl ?_
    obtain ⟨v_10310, e_10311, e⟩ := Option.bind_eq_some_iff.mp e
    refine Rn.hp hT rfl rfl (gR_hp e_10311) ?_
    refine Rn.n hT 1 (pc' := 33) (L' := [some (.ref q0), some (.int x1)]) (st' := [.int (6 : Int32), .ref v_10310]) rfl ?_
    obtain ⟨v_10312, e_10313, e⟩ := Option.bind_eq_some_iff.mp e
    refine Rn.hp hT rfl rfl (aI_hp e_10313) ?_
    obtain rfl := Option.some.inj e
    exact Rn.ret hT rfl rfl rfl hq
set_option maxRecDepth 10000 in
theorem hX12_back : iv_Tb 348 tX12_back := iv_tb_of (m := mX12_back) rfl
set_option maxRecDepth 10000 in
theorem gX12_back : PG.2 348 = some mX12_back := iv_pi_of (t := tX12_back) rfl (by decide)
def fX12_back_b21 (N : Nat) (h : iv_H)   : Option (Int32 × iv_H) := (some ((-1 : Int32), h))
set_option maxRecDepth 10000 in
set_option maxHeartbeats 4000000 in
theorem rX12_back_b21 {d N : Nat} (hd : 2 ≤ d) {h : iv_H}   {r : Int32 × iv_H} {Q : Option Value → iv_H → Prop} (hq : Q (some (.int r.1)) r.2) (e : fX12_back_b21 N h   = some r) : Rn d 348 (some .int) 21 [none, none] [] h Q := by
  have hT := hX12_back
  unfold fX12_back_b21 at e
  refine Rn.n hT 1 (pc' := 22) (L' := [none, none]) (st' := [.int (-1 : Int32)]) rfl ?_
  obtain rfl := Option.some.inj e
  exact Rn.ret hT rfl rfl rfl hq
def fX12_back (N : Nat) (h : iv_H) (q0 : Nat) (x1 : Int32) : Option (Int32 × iv_H) := ((fX12_in N h ((x1).toInt64) (0 : Int64) (3 : Int64)).bind fun v_10315 => (if v_10315 = 0 then (fX12_back_b21 N h) else ((gR h 12 80 q0).bind fun v_10317 => ((aB h v_10317 x1).bind fun v_10319 => (if v_10319 = 0 then (fX12_back_b21 N h) else ((cko h q0 12).bind fun _ => (fX12_carriesAll N h q0 x1 (1 : Int32)).bind fun h_10325 => ((gR h_10325 12 1 q0).bind fun v_10326 => ((aI h_10325 v_10326 (6 : Int32)).bind fun v_10328 => (some (v_10328, h_10325))))))))))
set_option maxRecDepth 10000 in
set_option maxHeartbeats 4000000 in
theorem rX12_back {d N : Nat} (hd : 3 ≤ d) {h : iv_H} {q0 : Nat} {x1 : Int32} {r : Int32 × iv_H} {Q : Option Value → iv_H → Prop} (e : fX12_back N h q0 x1 = some r) (hq : Q (some (.int r.1)) r.2) : Cl d 348 [.ref q0, .int x1] h Q := by
  obtain ⟨d, rfl⟩ : ∃ k, d = k + 1 := ⟨d - 1, by omega⟩
  have hd : 2 ≤ d := by omega
  have hT := hX12_back
  unfold fX12_back at e
  refine Cl.into (by decide) gX12_back rfl ?_
  show Rn d 348 (some .int) 0 [some (.ref q0), some (.int x1)] [] h Q
  refine Rn.n hT 4 (pc' := 6) (L' := [some (.ref q0), some (.int x1)]) (st' := [.long (3 : Int64), .long (0 : Int64), .long ((x1).toInt64)]) rfl ?_
  obtain ⟨v_10315, e_10314, e⟩ := Option.bind_eq_some_iff.mp e
  refine Rn.call hT rfl rfl rfl (Nat.le_of_ble_eq_true rfl) rfl (rX12_in (by omega) e_10314 ?_)
  show Rn d _ _ 9 [some (.ref q0), some (.int x1)] [.int v_10315] h Q
  by_cases c_10316 : v_10315 = 0
  · rw [if_pos c_10316] at e
    refine Rn.bt hT rfl rfl rfl (decide_eq_true c_10316) ?_
    exact Rn.weak (ll_n (ll_n ll_e)) (rX12_back_b21 hd hq e)
  · rw [if_neg c_10316] at e
    refine Rn.bf hT rfl rfl rfl (decide_eq_false c_10316) ?_
    refine Rn.n hT 1 (pc' := 13) (L' := [some (.ref q0), some (.int x1)]) (st' := [.ref q0]) rfl ?_
    obtain ⟨v_10317, e_10318, e⟩ := Option.bind_eq_some_iff.mp e
    refine Rn.hp hT rfl rfl (gR_hp e_10318) ?_
    refine Rn.n hT 1 (pc' := 17) (L' := [some (.ref q0), some (.int x1)]) (st' := [.int x1, .ref v_10317]) rfl ?_
    obtain ⟨v_10319, e_10320, e⟩ := Option.bind_eq_some_iff.mp e
    refine Rn.hp hT rfl rfl (aB_hp e_10320) ?_
    by_cases c_10321 : v_10319 = 0
    · rw [if_pos c_10321] at e
      refine Rn.bf hT rfl rfl rfl (decide_eq_false (fun z => z c_10321)) ?_
      exact Rn.weak (ll_n (ll_n ll_e)) (rX12_back_b21 hd hq e)
    · rw [if_neg c_10321] at e
      refine Rn.bt hT rfl rfl rfl (decide_eq_true c_10321) ?_
      refine Rn.n hT 3 (pc' := 26) (L' := [some (.ref q0), some (.int x1)]) (st' := [.int (1 : Int32), .int x1, .ref q0]) rfl ?_
      obtain ⟨_, e_10323, e⟩ := Option.bind_eq_some_iff.mp e
      obtain ⟨h_10325, e_10322, e⟩ := Option.bind_eq_some_iff.mp e
      refine Rn.call hT rfl rfl rfl (Nat.le_of_ble_eq_true rfl) (rcv_v gX12_carriesAll (by omega) e_10323) (rX12_carriesAll (by omega) e_10322 ?_)
      show Rn d _ _ 29 [some (.ref q0), some (.int x1)] [] h_10325 Q
      refine Rn.n hT 1 (pc' := 30) (L' := [some (.ref q0), some (.int x1)]) (st' := [.ref q0]) rfl ?_
      obtain ⟨v_10326, e_10327, e⟩ := Option.bind_eq_some_iff.mp e
      refine Rn.hp hT rfl rfl (gR_hp e_10327) ?_
      refine Rn.n hT 1 (pc' := 35) (L' := [some (.ref q0), some (.int x1)]) (st' := [.int (6 : Int32), .ref v_10326]) rfl ?_
      obtain ⟨v_10328, e_10329, e⟩ := Option.bind_eq_some_iff.mp e
      refine Rn.hp hT rfl rfl (aI_hp e_10329) ?_
      obtain rfl := Option.some.inj e
      exact Rn.ret hT rfl rfl rfl hq
