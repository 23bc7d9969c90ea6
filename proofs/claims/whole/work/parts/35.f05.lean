-- FLAT MIRRORS, 5 (written by wip/whole/mir2.py)
set_option maxRecDepth 10000 in
theorem hX11_palace : iv_Tb 139 tX11_palace := iv_tb_of (m := mX11_palace) rfl
set_option maxRecDepth 10000 in
theorem gX11_palace : PG.2 139 = some mX11_palace := iv_pi_of (t := tX11_palace) rfl (by decide)
def FX11_palace (N : Nat) (s : iv_M) (q0 : Nat) : Option (Int × iv_M) := ((FX5_read N s (q0 + 54) (q0 + 1) (s q0 1) ((s q0 5).toNat)).bind fun r_1777 => (fun (v_1777 : Int) (s_1778 : iv_M) => ((pt s_1778 q0 1 0).bind fun s_1779 => (if v_1777 = 0 then ((pt s_1779 ((s_1779 q0 5).toNat) 7 (s_1779 ((s_1779 q0 4).toNat) 7)).bind fun s_1783 => ((pt s_1783 q0 4 (((s_1783 q0 5).toNat : Nat) : Int)).bind fun s_1785 => ((pt s_1785 q0 5 (((s_1783 q0 4).toNat : Nat) : Int)).bind fun s_1787 => ((pt s_1787 q0 15 (w32 ((s_1787 q0 15) + 1))).bind fun s_1790 => (some ((s_1790 ((s_1790 q0 4).toNat + 1) 2), s_1790)))))) else (some ((w32 ((-2) - v_1777)), s_1779))))) r_1777.1 r_1777.2)
set_option maxRecDepth 10000 in
set_option maxHeartbeats 4000000 in
theorem RX11_palace {d N nc Ls : Nat} {Xs : Nat → Int32} (hd : 15 ≤ d) {h : iv_H} {s : iv_M} (hR : Rep nc Ls Xs h s) {q0 : Nat} (t0 : T11 nc q0) {r : Int × iv_M} {Q : Option Value → iv_H → Prop} (e : FX11_palace N s q0 = some r) (hq : ∀ (z : Int32) (h1 : iv_H), z.toInt = r.1 → Rep nc Ls Xs h1 r.2 → Q (some (.int z)) h1) : Cl d 139 [.ref q0] h Q := by
  obtain ⟨d, rfl⟩ : ∃ k, d = k + 1 := ⟨d - 1, by omega⟩
  have hd : 14 ≤ d := by omega
  have hT := hX11_palace
  unfold FX11_palace at e
  refine Cl.into (by decide) gX11_palace rfl ?_
  show Rn d 139 (some .int) 0 [some (.ref q0), none, none] [] h Q
  refine Rn.n hT 1 (pc' := 1) (L' := [some (.ref q0), none, none]) (st' := [.ref q0]) rfl ?_
  refine Rn.hp hT rfl rfl (gR_hp (rp_gR hR (T11_o t0) rfl)) ?_
  refine Rn.n hT 1 (pc' := 5) (L' := [some (.ref q0), none, none]) (st' := [.ref q0, .ref (q0 + 54)]) rfl ?_
  refine Rn.hp hT rfl rfl (gR_hp (rp_gR hR (T11_o t0) rfl)) ?_
  refine Rn.n hT 1 (pc' := 9) (L' := [some (.ref q0), none, none]) (st' := [.ref q0, .ref (q0 + 1), .ref (q0 + 54)]) rfl ?_
  obtain ⟨z_1776, g_1776, p_1776⟩ : ∃ z : Int32, gI h 11 1 q0 = some z ∧ z.toInt = s q0 1 := rp_gI (k := 1) hR (T11_o t0) rfl
  refine Rn.hp hT rfl rfl (gI_hp g_1776) ?_
  refine Rn.n hT 1 (pc' := 13) (L' := [some (.ref q0), none, none]) (st' := [.ref q0, .int z_1776, .ref (q0 + 1), .ref (q0 + 54)]) rfl ?_
  refine Rn.hp hT rfl rfl (gR_hp (rp_gP (k := 5) hR (T11_o t0) rfl (nn_115 hR t0))) ?_
  obtain ⟨⟨v_1777, s_1778⟩, e_1777, e⟩ := Option.bind_eq_some_iff.mp e
  try dsimp only at e
  try dsimp only at e
  refine Rn.call hT rfl rfl rfl (Nat.le_of_ble_eq_true rfl) (rcv_v gX5_read (by omega) (rp_ck hR (T5_o (T11_7 t0)))) (RX5_read (by omega) hR (T11_7 t0) (T11_0 t0) p_1776 (ty_115 hR t0) e_1777 (fun z_1777 h_1778 p_1777 R_1778 => ?_))
  show Rn d _ _ 19 [some (.ref q0), none, none] [.int z_1777] h_1778 Q
  refine Rn.n hT 3 (pc' := 22) (L' := [some (.ref q0), some (.int z_1777), none]) (st' := [.int (0 : Int32), .ref q0]) rfl ?_
  obtain ⟨s_1779, e_1780, e⟩ := Option.bind_eq_some_iff.mp e
  obtain ⟨h_1779, g_1780, R_1779⟩ := rp_pI (ci := 11) (k := 1) R_1778 (T11_o t0) rfl rfl L32_0 e_1780
  refine Rn.hp hT rfl rfl (pV_hp rfl g_1780) ?_
  refine Rn.n hT 1 (pc' := 26) (L' := [some (.ref q0), some (.int z_1777), none]) (st' := [.int z_1777]) rfl ?_
  by_cases c_1781 : v_1777 = 0
  · rw [if_pos c_1781] at e
    refine Rn.bt hT rfl rfl rfl (decide_eq_true ((ti_e p_1777 L32_0).mpr c_1781)) ?_
    refine Rn.n hT 1 (pc' := 35) (L' := [some (.ref q0), some (.int z_1777), none]) (st' := [.ref q0]) rfl ?_
    refine Rn.hp hT rfl rfl (gR_hp (rp_gP (k := 5) R_1779 (T11_o t0) rfl (nn_115 R_1779 t0))) ?_
    refine Rn.n hT 1 (pc' := 39) (L' := [some (.ref q0), some (.int z_1777), none]) (st' := [.ref q0, .ref ((s_1779 q0 5).toNat)]) rfl ?_
    refine Rn.hp hT rfl rfl (gR_hp (rp_gP (k := 4) R_1779 (T11_o t0) rfl (nn_114 R_1779 t0))) ?_
    obtain ⟨z_1782, g_1782, p_1782⟩ : ∃ z : Int32, gI h_1779 2 7 ((s_1779 q0 4).toNat) = some z ∧ z.toInt = s_1779 ((s_1779 q0 4).toNat) 7 := rp_gI (k := 7) R_1779 (T2_o (ty_114 R_1779 t0)) rfl
    refine Rn.hp hT rfl rfl (gI_hp g_1782) ?_
    obtain ⟨s_1783, e_1784, e⟩ := Option.bind_eq_some_iff.mp e
    obtain ⟨h_1783, g_1784, R_1783⟩ := rp_pI (ci := 2) (k := 7) R_1779 (T2_o (ty_115 R_1779 t0)) rfl rfl p_1782 e_1784
    refine Rn.hp hT rfl rfl (pV_hp rfl g_1784) ?_
    refine Rn.n hT 1 (pc' := 49) (L' := [some (.ref q0), some (.int z_1777), none]) (st' := [.ref q0]) rfl ?_
    refine Rn.hp hT rfl rfl (gR_hp (rp_gP (k := 4) R_1783 (T11_o t0) rfl (nn_114 R_1783 t0))) ?_
    refine Rn.n hT 3 (pc' := 55) (L' := [some (.ref q0), some (.int z_1777), some (.ref ((s_1783 q0 4).toNat))]) (st' := [.ref q0, .ref q0]) rfl ?_
    refine Rn.hp hT rfl rfl (gR_hp (rp_gP (k := 5) R_1783 (T11_o t0) rfl (nn_115 R_1783 t0))) ?_
    obtain ⟨s_1785, e_1786, e⟩ := Option.bind_eq_some_iff.mp e
    obtain ⟨h_1785, g_1786, R_1785⟩ := rp_pP (ci := 11) (k := 4) R_1783 (T11_o t0) rfl (Mt_11 R_1783.2.2.2.2.2 (T11_o t0) (Or.inl rfl) (ty_115 R_1783 t0)) e_1786
    refine Rn.hp hT rfl rfl (pV_hp rfl g_1786) ?_
    refine Rn.n hT 2 (pc' := 63) (L' := [some (.ref q0), some (.int z_1777), some (.ref ((s_1783 q0 4).toNat))]) (st' := [.ref ((s_1783 q0 4).toNat), .ref q0]) rfl ?_
    obtain ⟨s_1787, e_1788, e⟩ := Option.bind_eq_some_iff.mp e
    obtain ⟨h_1787, g_1788, R_1787⟩ := rp_pP (ci := 11) (k := 5) R_1785 (T11_o t0) rfl (Mt_11 R_1785.2.2.2.2.2 (T11_o t0) (Or.inr rfl) (ty_114 R_1783 t0)) e_1788
    refine Rn.hp hT rfl rfl (pV_hp rfl g_1788) ?_
    refine Rn.n hT 2 (pc' := 68) (L' := [some (.ref q0), some (.int z_1777), some (.ref ((s_1783 q0 4).toNat))]) (st' := [.ref q0, .ref q0]) rfl ?_
    obtain ⟨z_1789, g_1789, p_1789⟩ : ∃ z : Int32, gI h_1787 11 15 q0 = some z ∧ z.toInt = s_1787 q0 15 := rp_gI (k := 15) R_1787 (T11_o t0) rfl
    refine Rn.hp hT rfl rfl (gI_hp g_1789) ?_
    refine Rn.n hT 2 (pc' := 73) (L' := [some (.ref q0), some (.int z_1777), some (.ref ((s_1783 q0 4).toNat))]) (st' := [.int (z_1789 + (1 : Int32)), .ref q0]) rfl ?_
    obtain ⟨s_1790, e_1791, e⟩ := Option.bind_eq_some_iff.mp e
    obtain ⟨h_1790, g_1791, R_1790⟩ := rp_pI (ci := 11) (k := 15) R_1787 (T11_o t0) rfl rfl (ti_add p_1789 L32_1) e_1791
    refine Rn.hp hT rfl rfl (pV_hp rfl g_1791) ?_
    refine Rn.n hT 1 (pc' := 77) (L' := [some (.ref q0), some (.int z_1777), some (.ref ((s_1783 q0 4).toNat))]) (st' := [.ref q0]) rfl ?_
    refine Rn.hp hT rfl rfl (gR_hp (rp_gP (k := 4) R_1790 (T11_o t0) rfl (nn_114 R_1790 t0))) ?_
    refine Rn.hp hT rfl rfl (gR_hp (rp_gR R_1790 (T2_o (ty_114 R_1790 t0)) rfl)) ?_
    obtain ⟨z_1792, g_1792, p_1792⟩ : ∃ z : Int32, gI h_1790 1 2 ((s_1790 q0 4).toNat + 1) = some z ∧ z.toInt = s_1790 ((s_1790 q0 4).toNat + 1) 2 := rp_gI (k := 2) R_1790 (T1_o (T2_9 (ty_114 R_1790 t0))) rfl
    refine Rn.hp hT rfl rfl (gI_hp g_1792) ?_
    obtain rfl := Option.some.inj e
    exact Rn.ret hT rfl rfl rfl (hq z_1792 h_1790 p_1792 R_1790)
  · rw [if_neg c_1781] at e
    refine Rn.bf hT rfl rfl rfl (decide_eq_false (fun z => c_1781 ((ti_e p_1777 L32_0).mp z))) ?_
    refine Rn.n hT 3 (pc' := 33) (L' := [some (.ref q0), some (.int z_1777), none]) (st' := [.int ((-2 : Int32) - z_1777)]) rfl ?_
    obtain rfl := Option.some.inj e
    exact Rn.ret hT rfl rfl rfl (hq ((-2 : Int32) - z_1777) h_1779 (ti_sub L32_m2 p_1777) R_1779)
set_option maxRecDepth 10000 in
theorem hX11_rule : iv_Tb 140 tX11_rule := iv_tb_of (m := mX11_rule) rfl
set_option maxRecDepth 10000 in
theorem gX11_rule : PG.2 140 = some mX11_rule := iv_pi_of (t := tX11_rule) rfl (by decide)
def FX11_rule (N : Nat) (s : iv_M) (q0 : Nat) : Option (Int × iv_M) := (if (s q0 3) < 6 then ((FX8_read N s (q0 + 57) (q0 + 1) (s q0 1)).bind fun r_1796 => (fun (v_1796 : Int) (s_1797 : iv_M) => ((pt s_1797 q0 1 0).bind fun s_1798 => (if v_1796 = 0 then ((gx (q0 + 2) 6 (s_1798 q0 3)).bind fun v_1802 => ((FX8_copyTo N s_1798 (q0 + 57) v_1802).bind fun s_1804 => ((pt s_1804 q0 3 (w32 ((s_1804 q0 3) + 1))).bind fun s_1806 => (some ((w32 ((s_1806 q0 3) - 1)), s_1806))))) else (some ((w32 ((-2) - v_1796)), s_1798))))) r_1796.1 r_1796.2) else (some ((-1), s)))
set_option maxRecDepth 10000 in
set_option maxHeartbeats 4000000 in
theorem RX11_rule {d N nc Ls : Nat} {Xs : Nat → Int32} (hd : 17 ≤ d) {h : iv_H} {s : iv_M} (hR : Rep nc Ls Xs h s) {q0 : Nat} (t0 : T11 nc q0) {r : Int × iv_M} {Q : Option Value → iv_H → Prop} (e : FX11_rule N s q0 = some r) (hq : ∀ (z : Int32) (h1 : iv_H), z.toInt = r.1 → Rep nc Ls Xs h1 r.2 → Q (some (.int z)) h1) : Cl d 140 [.ref q0] h Q := by
  obtain ⟨d, rfl⟩ : ∃ k, d = k + 1 := ⟨d - 1, by omega⟩
  have hd : 16 ≤ d := by omega
  have hT := hX11_rule
  unfold FX11_rule at e
  refine Cl.into (by decide) gX11_rule rfl ?_
  show Rn d 140 (some .int) 0 [some (.ref q0), none] [] h Q
  refine Rn.n hT 1 (pc' := 1) (L' := [some (.ref q0), none]) (st' := [.ref q0]) rfl ?_
  obtain ⟨z_1793, g_1793, p_1793⟩ : ∃ z : Int32, gI h 11 3 q0 = some z ∧ z.toInt = s q0 3 := rp_gI (k := 3) hR (T11_o t0) rfl
  refine Rn.hp hT rfl rfl (gI_hp g_1793) ?_
  refine Rn.n hT 1 (pc' := 6) (L' := [some (.ref q0), none]) (st' := [.int (6 : Int32), .int z_1793]) rfl ?_
  by_cases c_1794 : (s q0 3) < 6
  · rw [if_pos c_1794] at e
    refine Rn.bt hT rfl rfl rfl (decide_eq_true ((ti_l p_1793 L32_6).mpr c_1794)) ?_
    refine Rn.n hT 1 (pc' := 12) (L' := [some (.ref q0), none]) (st' := [.ref q0]) rfl ?_
    refine Rn.hp hT rfl rfl (gR_hp (rp_gR hR (T11_o t0) rfl)) ?_
    refine Rn.n hT 1 (pc' := 16) (L' := [some (.ref q0), none]) (st' := [.ref q0, .ref (q0 + 57)]) rfl ?_
    refine Rn.hp hT rfl rfl (gR_hp (rp_gR hR (T11_o t0) rfl)) ?_
    refine Rn.n hT 1 (pc' := 20) (L' := [some (.ref q0), none]) (st' := [.ref q0, .ref (q0 + 1), .ref (q0 + 57)]) rfl ?_
    obtain ⟨z_1795, g_1795, p_1795⟩ : ∃ z : Int32, gI h 11 1 q0 = some z ∧ z.toInt = s q0 1 := rp_gI (k := 1) hR (T11_o t0) rfl
    refine Rn.hp hT rfl rfl (gI_hp g_1795) ?_
    obtain ⟨⟨v_1796, s_1797⟩, e_1796, e⟩ := Option.bind_eq_some_iff.mp e
    try dsimp only at e
    try dsimp only at e
    refine Rn.call hT rfl rfl rfl (Nat.le_of_ble_eq_true rfl) (rcv_v gX8_read (by omega) (rp_ck hR (T8_o (T11_8 t0)))) (RX8_read (by omega) hR (T11_8 t0) (T11_0 t0) p_1795 e_1796 (fun z_1796 h_1797 p_1796 R_1797 => ?_))
    show Rn d _ _ 26 [some (.ref q0), none] [.int z_1796] h_1797 Q
    refine Rn.n hT 3 (pc' := 29) (L' := [some (.ref q0), some (.int z_1796)]) (st' := [.int (0 : Int32), .ref q0]) rfl ?_
    obtain ⟨s_1798, e_1799, e⟩ := Option.bind_eq_some_iff.mp e
    obtain ⟨h_1798, g_1799, R_1798⟩ := rp_pI (ci := 11) (k := 1) R_1797 (T11_o t0) rfl rfl L32_0 e_1799
    refine Rn.hp hT rfl rfl (pV_hp rfl g_1799) ?_
    refine Rn.n hT 1 (pc' := 33) (L' := [some (.ref q0), some (.int z_1796)]) (st' := [.int z_1796]) rfl ?_
    by_cases c_1800 : v_1796 = 0
    · rw [if_pos c_1800] at e
      refine Rn.bt hT rfl rfl rfl (decide_eq_true ((ti_e p_1796 L32_0).mpr c_1800)) ?_
      refine Rn.n hT 1 (pc' := 42) (L' := [some (.ref q0), some (.int z_1796)]) (st' := [.ref q0]) rfl ?_
      refine Rn.hp hT rfl rfl (gR_hp (rp_gR R_1798 (T11_o t0) rfl)) ?_
      refine Rn.n hT 1 (pc' := 46) (L' := [some (.ref q0), some (.int z_1796)]) (st' := [.ref q0, .ref (q0 + 57)]) rfl ?_
      refine Rn.hp hT rfl rfl (gR_hp (rp_gR R_1798 (T11_o t0) rfl)) ?_
      refine Rn.n hT 1 (pc' := 50) (L' := [some (.ref q0), some (.int z_1796)]) (st' := [.ref q0, .ref (q0 + 2), .ref (q0 + 57)]) rfl ?_
      obtain ⟨z_1801, g_1801, p_1801⟩ : ∃ z : Int32, gI h_1798 11 3 q0 = some z ∧ z.toInt = s_1798 q0 3 := rp_gI (k := 3) R_1798 (T11_o t0) rfl
      refine Rn.hp hT rfl rfl (gI_hp g_1801) ?_
      obtain ⟨v_1802, e_1802, e⟩ := Option.bind_eq_some_iff.mp e
      refine Rn.hp hT rfl rfl (aR_hp (rp_gx (m := 6) R_1798 (T11_2 t0) p_1801 e_1802)) ?_
      obtain ⟨s_1804, e_1803, e⟩ := Option.bind_eq_some_iff.mp e
      refine Rn.call hT rfl rfl rfl (Nat.le_of_ble_eq_true rfl) (rcv_v gX8_copyTo (by omega) (rp_ck R_1798 (T8_o (T11_8 t0)))) (RX8_copyTo (by omega) R_1798 (T11_8 t0) (ga_a (gx_ty (T11_2g t0) e_1802)) e_1803 (fun h_1804 R_1804 => ?_))
      show Rn d _ _ 57 [some (.ref q0), some (.int z_1796)] [] h_1804 Q
      refine Rn.n hT 2 (pc' := 59) (L' := [some (.ref q0), some (.int z_1796)]) (st' := [.ref q0, .ref q0]) rfl ?_
      obtain ⟨z_1805, g_1805, p_1805⟩ : ∃ z : Int32, gI h_1804 11 3 q0 = some z ∧ z.toInt = s_1804 q0 3 := rp_gI (k := 3) R_1804 (T11_o t0) rfl
      refine Rn.hp hT rfl rfl (gI_hp g_1805) ?_
      refine Rn.n hT 2 (pc' := 64) (L' := [some (.ref q0), some (.int z_1796)]) (st' := [.int (z_1805 + (1 : Int32)), .ref q0]) rfl ?_
      obtain ⟨s_1806, e_1807, e⟩ := Option.bind_eq_some_iff.mp e
      obtain ⟨h_1806, g_1807, R_1806⟩ := rp_pI (ci := 11) (k := 3) R_1804 (T11_o t0) rfl rfl (ti_add p_1805 L32_1) e_1807
      refine Rn.hp hT rfl rfl (pV_hp rfl g_1807) ?_
      refine Rn.n hT 1 (pc' := 68) (L' := [some (.ref q0), some (.int z_1796)]) (st' := [.ref q0]) rfl ?_
      obtain ⟨z_1808, g_1808, p_1808⟩ : ∃ z : Int32, gI h_1806 11 3 q0 = some z ∧ z.toInt = s_1806 q0 3 := rp_gI (k := 3) R_1806 (T11_o t0) rfl
      refine Rn.hp hT rfl rfl (gI_hp g_1808) ?_
      refine Rn.n hT 2 (pc' := 73) (L' := [some (.ref q0), some (.int z_1796)]) (st' := [.int (z_1808 - (1 : Int32))]) rfl ?_
      obtain rfl := Option.some.inj e
      exact Rn.ret hT rfl rfl rfl (hq (z_1808 - (1 : Int32)) h_1806 (ti_sub p_1808 L32_1) R_1806)
    · rw [if_neg c_1800] at e
      refine Rn.bf hT rfl rfl rfl (decide_eq_false (fun z => c_1800 ((ti_e p_1796 L32_0).mp z))) ?_
      refine Rn.n hT 3 (pc' := 40) (L' := [some (.ref q0), some (.int z_1796)]) (st' := [.int ((-2 : Int32) - z_1796)]) rfl ?_
      obtain rfl := Option.some.inj e
      exact Rn.ret hT rfl rfl rfl (hq ((-2 : Int32) - z_1796) h_1798 (ti_sub L32_m2 p_1796) R_1798)
  · rw [if_neg c_1794] at e
    refine Rn.bf hT rfl rfl rfl (decide_eq_false (fun z => c_1794 ((ti_l p_1793 L32_6).mp z))) ?_
    refine Rn.n hT 1 (pc' := 10) (L' := [some (.ref q0), none]) (st' := [.int (-1 : Int32)]) rfl ?_
    obtain rfl := Option.some.inj e
    exact Rn.ret hT rfl rfl rfl (hq (-1 : Int32) h L32_m1 hR)
set_option maxRecDepth 10000 in
theorem hX11_force : iv_Tb 141 tX11_force := iv_tb_of (m := mX11_force) rfl
set_option maxRecDepth 10000 in
theorem gX11_force : PG.2 141 = some mX11_force := iv_pi_of (t := tX11_force) rfl (by decide)
def FX11_force_b23 (N : Nat) (s : iv_M)   : Option (Int × iv_M) := (some ((-2), s))
set_option maxRecDepth 10000 in
set_option maxHeartbeats 4000000 in
theorem RX11_force_b23 {d N nc Ls : Nat} {Xs : Nat → Int32} (hd : 0 ≤ d) {h : iv_H} {s : iv_M} (hR : Rep nc Ls Xs h s)   {r : Int × iv_M} {Q : Option Value → iv_H → Prop} (hq : ∀ (z : Int32) (h1 : iv_H), z.toInt = r.1 → Rep nc Ls Xs h1 r.2 → Q (some (.int z)) h1) (e : FX11_force_b23 N s   = some r) : Rn d 141 (some .int) 23 [none, none, none] [] h Q := by
  have hT := hX11_force
  unfold FX11_force_b23 at e
  refine Rn.n hT 1 (pc' := 25) (L' := [none, none, none]) (st' := [.int (-2 : Int32)]) rfl ?_
  obtain rfl := Option.some.inj e
  exact Rn.ret hT rfl rfl rfl (hq (-2 : Int32) h L32_m2 hR)
def FX11_force (N : Nat) (s : iv_M) (q0 : Nat) (x1 : Int) : Option (Int × iv_M) := (if (s ((s q0 4).toNat) 0) = 0 then (FX11_force_b23 N s) else (if x1 < (-1) then (FX11_force_b23 N s) else (if x1 < (s q0 3) then ((pt s ((s q0 4).toNat) 5 x1).bind fun s_1815 => ((pt s_1815 q0 15 (w32 ((s_1815 q0 15) + 1))).bind fun s_1818 => (some ((s ((s q0 4).toNat) 5), s_1818)))) else (FX11_force_b23 N s))))
set_option maxRecDepth 10000 in
set_option maxHeartbeats 4000000 in
theorem RX11_force {d N nc Ls : Nat} {Xs : Nat → Int32} (hd : 1 ≤ d) {h : iv_H} {s : iv_M} (hR : Rep nc Ls Xs h s) {q0 : Nat} (t0 : T11 nc q0) {m1 : Int32} {x1 : Int} (p1 : m1.toInt = x1) {r : Int × iv_M} {Q : Option Value → iv_H → Prop} (e : FX11_force N s q0 x1 = some r) (hq : ∀ (z : Int32) (h1 : iv_H), z.toInt = r.1 → Rep nc Ls Xs h1 r.2 → Q (some (.int z)) h1) : Cl d 141 [.ref q0, .int m1] h Q := by
  obtain ⟨d, rfl⟩ : ∃ k, d = k + 1 := ⟨d - 1, by omega⟩
  have hd : 0 ≤ d := by omega
  have hT := hX11_force
  unfold FX11_force at e
  refine Cl.into (by decide) gX11_force rfl ?_
  show Rn d 141 (some .int) 0 [some (.ref q0), some (.int m1), none] [] h Q
  refine Rn.n hT 1 (pc' := 1) (L' := [some (.ref q0), some (.int m1), none]) (st' := [.ref q0]) rfl ?_
  refine Rn.hp hT rfl rfl (gR_hp (rp_gP (k := 4) hR (T11_o t0) rfl (nn_114 hR t0))) ?_
  obtain ⟨z_1809, g_1809, p_1809⟩ : ∃ z : Int32, gI h 2 0 ((s q0 4).toNat) = some z ∧ z.toInt = s ((s q0 4).toNat) 0 := rp_gI (k := 0) hR (T2_o (ty_114 hR t0)) rfl
  refine Rn.hp hT rfl rfl (gI_hp g_1809) ?_
  by_cases c_1810 : (s ((s q0 4).toNat) 0) = 0
  · rw [if_pos c_1810] at e
    refine Rn.bt hT rfl rfl rfl (decide_eq_true ((ti_e p_1809 L32_0).mpr c_1810)) ?_
    exact Rn.weak (ll_n (ll_n (ll_n ll_e))) (RX11_force_b23 hd hR hq e)
  · rw [if_neg c_1810] at e
    refine Rn.bf hT rfl rfl rfl (decide_eq_false (fun z => c_1810 ((ti_e p_1809 L32_0).mp z))) ?_
    refine Rn.n hT 2 (pc' := 12) (L' := [some (.ref q0), some (.int m1), none]) (st' := [.int (-1 : Int32), .int m1]) rfl ?_
    by_cases c_1811 : x1 < (-1)
    · rw [if_pos c_1811] at e
      refine Rn.bt hT rfl rfl rfl (decide_eq_true ((ti_l p1 L32_m1).mpr c_1811)) ?_
      exact Rn.weak (ll_n (ll_n (ll_n ll_e))) (RX11_force_b23 hd hR hq e)
    · rw [if_neg c_1811] at e
      refine Rn.bf hT rfl rfl rfl (decide_eq_false (fun z => c_1811 ((ti_l p1 L32_m1).mp z))) ?_
      refine Rn.n hT 2 (pc' := 17) (L' := [some (.ref q0), some (.int m1), none]) (st' := [.ref q0, .int m1]) rfl ?_
      obtain ⟨z_1812, g_1812, p_1812⟩ : ∃ z : Int32, gI h 11 3 q0 = some z ∧ z.toInt = s q0 3 := rp_gI (k := 3) hR (T11_o t0) rfl
      refine Rn.hp hT rfl rfl (gI_hp g_1812) ?_
      by_cases c_1813 : x1 < (s q0 3)
      · rw [if_pos c_1813] at e
        refine Rn.bt hT rfl rfl rfl (decide_eq_true ((ti_l p1 p_1812).mpr c_1813)) ?_
        refine Rn.n hT 1 (pc' := 27) (L' := [some (.ref q0), some (.int m1), none]) (st' := [.ref q0]) rfl ?_
        refine Rn.hp hT rfl rfl (gR_hp (rp_gP (k := 4) hR (T11_o t0) rfl (nn_114 hR t0))) ?_
        obtain ⟨z_1814, g_1814, p_1814⟩ : ∃ z : Int32, gI h 2 5 ((s q0 4).toNat) = some z ∧ z.toInt = s ((s q0 4).toNat) 5 := rp_gI (k := 5) hR (T2_o (ty_114 hR t0)) rfl
        refine Rn.hp hT rfl rfl (gI_hp g_1814) ?_
        refine Rn.n hT 2 (pc' := 35) (L' := [some (.ref q0), some (.int m1), some (.int z_1814)]) (st' := [.ref q0]) rfl ?_
        refine Rn.hp hT rfl rfl (gR_hp (rp_gP (k := 4) hR (T11_o t0) rfl (nn_114 hR t0))) ?_
        refine Rn.n hT 1 (pc' := 39) (L' := [some (.ref q0), some (.int m1), some (.int z_1814)]) (st' := [.int m1, .ref ((s q0 4).toNat)]) rfl ?_
        obtain ⟨s_1815, e_1816, e⟩ := Option.bind_eq_some_iff.mp e
        obtain ⟨h_1815, g_1816, R_1815⟩ := rp_pI (ci := 2) (k := 5) hR (T2_o (ty_114 hR t0)) rfl rfl p1 e_1816
        refine Rn.hp hT rfl rfl (pV_hp rfl g_1816) ?_
        refine Rn.n hT 2 (pc' := 44) (L' := [some (.ref q0), some (.int m1), some (.int z_1814)]) (st' := [.ref q0, .ref q0]) rfl ?_
        obtain ⟨z_1817, g_1817, p_1817⟩ : ∃ z : Int32, gI h_1815 11 15 q0 = some z ∧ z.toInt = s_1815 q0 15 := rp_gI (k := 15) R_1815 (T11_o t0) rfl
        refine Rn.hp hT rfl rfl (gI_hp g_1817) ?_
        refine Rn.n hT 2 (pc' := 49) (L' := [some (.ref q0), some (.int m1), some (.int z_1814)]) (st' := [.int (z_1817 + (1 : Int32)), .ref q0]) rfl ?_
        obtain ⟨s_1818, e_1819, e⟩ := Option.bind_eq_some_iff.mp e
        obtain ⟨h_1818, g_1819, R_1818⟩ := rp_pI (ci := 11) (k := 15) R_1815 (T11_o t0) rfl rfl (ti_add p_1817 L32_1) e_1819
        refine Rn.hp hT rfl rfl (pV_hp rfl g_1819) ?_
        refine Rn.n hT 1 (pc' := 53) (L' := [some (.ref q0), some (.int m1), some (.int z_1814)]) (st' := [.int z_1814]) rfl ?_
        obtain rfl := Option.some.inj e
        exact Rn.ret hT rfl rfl rfl (hq z_1814 h_1818 p_1814 R_1818)
      · rw [if_neg c_1813] at e
        refine Rn.bf hT rfl rfl rfl (decide_eq_false (fun z => c_1813 ((ti_l p1 p_1812).mp z))) ?_
        exact Rn.weak (ll_n (ll_n (ll_n ll_e))) (RX11_force_b23 hd hR hq e)
set_option maxRecDepth 10000 in
theorem hX11_ruleInForce : iv_Tb 142 tX11_ruleInForce := iv_tb_of (m := mX11_ruleInForce) rfl
set_option maxRecDepth 10000 in
theorem gX11_ruleInForce : PG.2 142 = some mX11_ruleInForce := iv_pi_of (t := tX11_ruleInForce) rfl (by decide)
def FX11_ruleInForce_b39 (N : Nat) (s : iv_M)   : Option (Int) := (some (-1))
set_option maxRecDepth 10000 in
set_option maxHeartbeats 4000000 in
theorem RX11_ruleInForce_b39 {d N nc Ls : Nat} {Xs : Nat → Int32} (hd : 0 ≤ d) {h : iv_H} {s : iv_M} (hR : Rep nc Ls Xs h s)   {r : Int} {Q : Option Value → iv_H → Prop} (hq : (r < 0 ∨ TR nc (r).toNat) → Q (some (iv_rf (rvo r))) h) (e : FX11_ruleInForce_b39 N s   = some r) : Rn d 142 (some (.array .int)) 39 [none] [] h Q := by
  have hT := hX11_ruleInForce
  unfold FX11_ruleInForce_b39 at e
  refine Rn.n hT 1 (pc' := 40) (L' := [none]) (st' := [.null]) rfl ?_
  obtain rfl := Option.some.inj e
  exact Rn.ret hT rfl rfl rfl (hq (Or.inl (by decide)))
def FX11_ruleInForce (N : Nat) (s : iv_M) (q0 : Nat) : Option (Int) := (if (s ((s q0 4).toNat) 5) < 0 then (FX11_ruleInForce_b39 N s) else (if (s q0 3) ≤ (s ((s q0 4).toNat) 5) then (FX11_ruleInForce_b39 N s) else ((gx (q0 + 2) 6 (s ((s q0 4).toNat) 5)).bind fun v_1826 => (some ((v_1826 : Nat) : Int)))))
set_option maxRecDepth 10000 in
set_option maxHeartbeats 4000000 in
theorem RX11_ruleInForce {d N nc Ls : Nat} {Xs : Nat → Int32} (hd : 1 ≤ d) {h : iv_H} {s : iv_M} (hR : Rep nc Ls Xs h s) {q0 : Nat} (t0 : T11 nc q0) {r : Int} {Q : Option Value → iv_H → Prop} (e : FX11_ruleInForce N s q0 = some r) (hq : (r < 0 ∨ TR nc (r).toNat) → Q (some (iv_rf (rvo r))) h) : Cl d 142 [.ref q0] h Q := by
  obtain ⟨d, rfl⟩ : ∃ k, d = k + 1 := ⟨d - 1, by omega⟩
  have hd : 0 ≤ d := by omega
  have hT := hX11_ruleInForce
  unfold FX11_ruleInForce at e
  refine Cl.into (by decide) gX11_ruleInForce rfl ?_
  show Rn d 142 (some (.array .int)) 0 [some (.ref q0)] [] h Q
  refine Rn.n hT 1 (pc' := 1) (L' := [some (.ref q0)]) (st' := [.ref q0]) rfl ?_
  refine Rn.hp hT rfl rfl (gR_hp (rp_gP (k := 4) hR (T11_o t0) rfl (nn_114 hR t0))) ?_
  obtain ⟨z_1820, g_1820, p_1820⟩ : ∃ z : Int32, gI h 2 5 ((s q0 4).toNat) = some z ∧ z.toInt = s ((s q0 4).toNat) 5 := rp_gI (k := 5) hR (T2_o (ty_114 hR t0)) rfl
  refine Rn.hp hT rfl rfl (gI_hp g_1820) ?_
  by_cases c_1821 : (s ((s q0 4).toNat) 5) < 0
  · rw [if_pos c_1821] at e
    refine Rn.bt hT rfl rfl rfl (decide_eq_true ((ti_l p_1820 L32_0).mpr c_1821)) ?_
    exact Rn.weak (ll_n ll_e) (RX11_ruleInForce_b39 hd hR hq e)
  · rw [if_neg c_1821] at e
    refine Rn.bf hT rfl rfl rfl (decide_eq_false (fun z => c_1821 ((ti_l p_1820 L32_0).mp z))) ?_
    refine Rn.n hT 1 (pc' := 11) (L' := [some (.ref q0)]) (st' := [.ref q0]) rfl ?_
    refine Rn.hp hT rfl rfl (gR_hp (rp_gP (k := 4) hR (T11_o t0) rfl (nn_114 hR t0))) ?_
    obtain ⟨z_1822, g_1822, p_1822⟩ : ∃ z : Int32, gI h 2 5 ((s q0 4).toNat) = some z ∧ z.toInt = s ((s q0 4).toNat) 5 := rp_gI (k := 5) hR (T2_o (ty_114 hR t0)) rfl
    refine Rn.hp hT rfl rfl (gI_hp g_1822) ?_
    refine Rn.n hT 1 (pc' := 18) (L' := [some (.ref q0)]) (st' := [.ref q0, .int z_1822]) rfl ?_
    obtain ⟨z_1823, g_1823, p_1823⟩ : ∃ z : Int32, gI h 11 3 q0 = some z ∧ z.toInt = s q0 3 := rp_gI (k := 3) hR (T11_o t0) rfl
    refine Rn.hp hT rfl rfl (gI_hp g_1823) ?_
    by_cases c_1824 : (s q0 3) ≤ (s ((s q0 4).toNat) 5)
    · rw [if_pos c_1824] at e
      refine Rn.bt hT rfl rfl rfl (decide_eq_true ((ti_le p_1823 p_1822).mpr c_1824)) ?_
      exact Rn.weak (ll_n ll_e) (RX11_ruleInForce_b39 hd hR hq e)
    · rw [if_neg c_1824] at e
      refine Rn.bf hT rfl rfl rfl (decide_eq_false (fun z => c_1824 ((ti_le p_1823 p_1822).mp z))) ?_
      refine Rn.n hT 1 (pc' := 25) (L' := [some (.ref q0)]) (st' := [.ref q0]) rfl ?_
      refine Rn.hp hT rfl rfl (gR_hp (rp_gR hR (T11_o t0) rfl)) ?_
      refine Rn.n hT 1 (pc' := 29) (L' := [some (.ref q0)]) (st' := [.ref q0, .ref (q0 + 2)]) rfl ?_
      refine Rn.hp hT rfl rfl (gR_hp (rp_gP (k := 4) hR (T11_o t0) rfl (nn_114 hR t0))) ?_
      obtain ⟨z_1825, g_1825, p_1825⟩ : ∃ z : Int32, gI h 2 5 ((s q0 4).toNat) = some z ∧ z.toInt = s ((s q0 4).toNat) 5 := rp_gI (k := 5) hR (T2_o (ty_114 hR t0)) rfl
      refine Rn.hp hT rfl rfl (gI_hp g_1825) ?_
      obtain ⟨v_1826, e_1826, e⟩ := Option.bind_eq_some_iff.mp e
      refine Rn.hp hT rfl rfl (aR_hp (rp_gx (m := 6) hR (T11_2 t0) p_1825 e_1826)) ?_
      refine Rn.n hT 1 (pc' := 40) (L' := [some (.ref q0)]) (st' := [.ref v_1826]) rfl ?_
      obtain rfl := Option.some.inj e
      exact Rn.ret hT rfl rfl rfl (by have := hq (Or.inr (gx_ty (T11_2g t0) e_1826)); rw [rvo_nat] at this; exact this)
set_option maxRecDepth 10000 in
theorem hX11_law : iv_Tb 143 tX11_law := iv_tb_of (m := mX11_law) rfl
set_option maxRecDepth 10000 in
theorem gX11_law : PG.2 143 = some mX11_law := iv_pi_of (t := tX11_law) rfl (by decide)
def FX11_law_b19 (N : Nat) (s : iv_M)   : Option (Int × iv_M) := (some ((-2), s))
set_option maxRecDepth 10000 in
set_option maxHeartbeats 4000000 in
theorem RX11_law_b19 {d N nc Ls : Nat} {Xs : Nat → Int32} (hd : 0 ≤ d) {h : iv_H} {s : iv_M} (hR : Rep nc Ls Xs h s)   {r : Int × iv_M} {Q : Option Value → iv_H → Prop} (hq : ∀ (z : Int32) (h1 : iv_H), z.toInt = r.1 → Rep nc Ls Xs h1 r.2 → Q (some (.int z)) h1) (e : FX11_law_b19 N s   = some r) : Rn d 143 (some .int) 19 [none, none, none] [] h Q := by
  have hT := hX11_law
  unfold FX11_law_b19 at e
  refine Rn.n hT 1 (pc' := 21) (L' := [none, none, none]) (st' := [.int (-2 : Int32)]) rfl ?_
  obtain rfl := Option.some.inj e
  exact Rn.ret hT rfl rfl rfl (hq (-2 : Int32) h L32_m2 hR)
def FX11_law (N : Nat) (s : iv_M) (q0 : Nat) (x1 : Int) : Option (Int × iv_M) := (if (s ((s q0 4).toNat) 0) = 0 then (FX11_law_b19 N s) else (if x1 < 0 then (FX11_law_b19 N s) else (if x1 ≤ 2 then ((pt s ((s q0 4).toNat) 4 x1).bind fun s_1832 => ((pt s_1832 q0 15 (w32 ((s_1832 q0 15) + 1))).bind fun s_1835 => (some ((s ((s q0 4).toNat) 4), s_1835)))) else (FX11_law_b19 N s))))
set_option maxRecDepth 10000 in
set_option maxHeartbeats 4000000 in
theorem RX11_law {d N nc Ls : Nat} {Xs : Nat → Int32} (hd : 1 ≤ d) {h : iv_H} {s : iv_M} (hR : Rep nc Ls Xs h s) {q0 : Nat} (t0 : T11 nc q0) {m1 : Int32} {x1 : Int} (p1 : m1.toInt = x1) {r : Int × iv_M} {Q : Option Value → iv_H → Prop} (e : FX11_law N s q0 x1 = some r) (hq : ∀ (z : Int32) (h1 : iv_H), z.toInt = r.1 → Rep nc Ls Xs h1 r.2 → Q (some (.int z)) h1) : Cl d 143 [.ref q0, .int m1] h Q := by
  obtain ⟨d, rfl⟩ : ∃ k, d = k + 1 := ⟨d - 1, by omega⟩
  have hd : 0 ≤ d := by omega
  have hT := hX11_law
  unfold FX11_law at e
  refine Cl.into (by decide) gX11_law rfl ?_
  show Rn d 143 (some .int) 0 [some (.ref q0), some (.int m1), none] [] h Q
  refine Rn.n hT 1 (pc' := 1) (L' := [some (.ref q0), some (.int m1), none]) (st' := [.ref q0]) rfl ?_
  refine Rn.hp hT rfl rfl (gR_hp (rp_gP (k := 4) hR (T11_o t0) rfl (nn_114 hR t0))) ?_
  obtain ⟨z_1827, g_1827, p_1827⟩ : ∃ z : Int32, gI h 2 0 ((s q0 4).toNat) = some z ∧ z.toInt = s ((s q0 4).toNat) 0 := rp_gI (k := 0) hR (T2_o (ty_114 hR t0)) rfl
  refine Rn.hp hT rfl rfl (gI_hp g_1827) ?_
  by_cases c_1828 : (s ((s q0 4).toNat) 0) = 0
  · rw [if_pos c_1828] at e
    refine Rn.bt hT rfl rfl rfl (decide_eq_true ((ti_e p_1827 L32_0).mpr c_1828)) ?_
    exact Rn.weak (ll_n (ll_n (ll_n ll_e))) (RX11_law_b19 hd hR hq e)
  · rw [if_neg c_1828] at e
    refine Rn.bf hT rfl rfl rfl (decide_eq_false (fun z => c_1828 ((ti_e p_1827 L32_0).mp z))) ?_
    refine Rn.n hT 1 (pc' := 11) (L' := [some (.ref q0), some (.int m1), none]) (st' := [.int m1]) rfl ?_
    by_cases c_1829 : x1 < 0
    · rw [if_pos c_1829] at e
      refine Rn.bt hT rfl rfl rfl (decide_eq_true ((ti_l p1 L32_0).mpr c_1829)) ?_
      exact Rn.weak (ll_n (ll_n (ll_n ll_e))) (RX11_law_b19 hd hR hq e)
    · rw [if_neg c_1829] at e
      refine Rn.bf hT rfl rfl rfl (decide_eq_false (fun z => c_1829 ((ti_l p1 L32_0).mp z))) ?_
      refine Rn.n hT 2 (pc' := 16) (L' := [some (.ref q0), some (.int m1), none]) (st' := [.int (2 : Int32), .int m1]) rfl ?_
      by_cases c_1830 : x1 ≤ 2
      · rw [if_pos c_1830] at e
        refine Rn.bt hT rfl rfl rfl (decide_eq_true ((ti_le p1 L32_2).mpr c_1830)) ?_
        refine Rn.n hT 1 (pc' := 23) (L' := [some (.ref q0), some (.int m1), none]) (st' := [.ref q0]) rfl ?_
        refine Rn.hp hT rfl rfl (gR_hp (rp_gP (k := 4) hR (T11_o t0) rfl (nn_114 hR t0))) ?_
        obtain ⟨z_1831, g_1831, p_1831⟩ : ∃ z : Int32, gI h 2 4 ((s q0 4).toNat) = some z ∧ z.toInt = s ((s q0 4).toNat) 4 := rp_gI (k := 4) hR (T2_o (ty_114 hR t0)) rfl
        refine Rn.hp hT rfl rfl (gI_hp g_1831) ?_
        refine Rn.n hT 2 (pc' := 31) (L' := [some (.ref q0), some (.int m1), some (.int z_1831)]) (st' := [.ref q0]) rfl ?_
        refine Rn.hp hT rfl rfl (gR_hp (rp_gP (k := 4) hR (T11_o t0) rfl (nn_114 hR t0))) ?_
        refine Rn.n hT 1 (pc' := 35) (L' := [some (.ref q0), some (.int m1), some (.int z_1831)]) (st' := [.int m1, .ref ((s q0 4).toNat)]) rfl ?_
        obtain ⟨s_1832, e_1833, e⟩ := Option.bind_eq_some_iff.mp e
        obtain ⟨h_1832, g_1833, R_1832⟩ := rp_pI (ci := 2) (k := 4) hR (T2_o (ty_114 hR t0)) rfl rfl p1 e_1833
        refine Rn.hp hT rfl rfl (pV_hp rfl g_1833) ?_
        refine Rn.n hT 2 (pc' := 40) (L' := [some (.ref q0), some (.int m1), some (.int z_1831)]) (st' := [.ref q0, .ref q0]) rfl ?_
        obtain ⟨z_1834, g_1834, p_1834⟩ : ∃ z : Int32, gI h_1832 11 15 q0 = some z ∧ z.toInt = s_1832 q0 15 := rp_gI (k := 15) R_1832 (T11_o t0) rfl
        refine Rn.hp hT rfl rfl (gI_hp g_1834) ?_
        refine Rn.n hT 2 (pc' := 45) (L' := [some (.ref q0), some (.int m1), some (.int z_1831)]) (st' := [.int (z_1834 + (1 : Int32)), .ref q0]) rfl ?_
        obtain ⟨s_1835, e_1836, e⟩ := Option.bind_eq_some_iff.mp e
        obtain ⟨h_1835, g_1836, R_1835⟩ := rp_pI (ci := 11) (k := 15) R_1832 (T11_o t0) rfl rfl (ti_add p_1834 L32_1) e_1836
        refine Rn.hp hT rfl rfl (pV_hp rfl g_1836) ?_
        refine Rn.n hT 1 (pc' := 49) (L' := [some (.ref q0), some (.int m1), some (.int z_1831)]) (st' := [.int z_1831]) rfl ?_
        obtain rfl := Option.some.inj e
        exact Rn.ret hT rfl rfl rfl (hq z_1831 h_1835 p_1831 R_1835)
      · rw [if_neg c_1830] at e
        refine Rn.bf hT rfl rfl rfl (decide_eq_false (fun z => c_1830 ((ti_le p1 L32_2).mp z))) ?_
        exact Rn.weak (ll_n (ll_n (ll_n ll_e))) (RX11_law_b19 hd hR hq e)
set_option maxRecDepth 10000 in
theorem hX11_room : iv_Tb 144 tX11_room := iv_tb_of (m := mX11_room) rfl
set_option maxRecDepth 10000 in
theorem gX11_room : PG.2 144 = some mX11_room := iv_pi_of (t := tX11_room) rfl (by decide)
def FX11_room_b121 (N : Nat) (s : iv_M)  (xs0 : Int) : Option (Int) := (some xs0)
set_option maxRecDepth 10000 in
set_option maxHeartbeats 4000000 in
theorem RX11_room_b121 {d N nc Ls : Nat} {Xs : Nat → Int32} (hd : 1 ≤ d) {h : iv_H} {s : iv_M} (hR : Rep nc Ls Xs h s)  {ms0 : Int32} {xs0 : Int} (ps0 : ms0.toInt = xs0) {r : Int} {Q : Option Value → iv_H → Prop} (hq : ∀ (z : Int32), z.toInt = r → Q (some (.int z)) h) (e : FX11_room_b121 N s  xs0 = some r) : Rn d 144 (some .int) 121 [none, none, none] [.int ms0] h Q := by
  have hT := hX11_room
  unfold FX11_room_b121 at e
  obtain rfl := Option.some.inj e
  exact Rn.ret hT rfl rfl rfl (hq ms0 ps0)
def FX11_room (N : Nat) (s : iv_M) (q0 : Nat) (x1 : Int) (x2 : Int) : Option (Int) := ((FX2_isRoom N s ((s q0 4).toNat) x1).bind fun v_1837 => (if v_1837 = 0 then (some (-1)) else (if x2 = 0 then ((rd s (((s q0 4).toNat + 1) + 1) 12 x1).bind fun v_1840 => (some v_1840)) else (if x2 = 1 then ((rd s (((s q0 4).toNat + 1) + 2) 12 x1).bind fun v_1842 => (some v_1842)) else (if x2 = 2 then ((FX1_sortOf N s ((s q0 4).toNat + 1) x1 (w32 (x2 - 2))).bind fun v_1844 => (some v_1844)) else (if x2 = 3 then ((FX1_sortOf N s ((s q0 4).toNat + 1) x1 (w32 (x2 - 2))).bind fun v_1846 => (some v_1846)) else (if x2 = 4 then ((FX1_sortOf N s ((s q0 4).toNat + 1) x1 (w32 (x2 - 2))).bind fun v_1848 => (some v_1848)) else (if x2 = 5 then ((FX1_sortOf N s ((s q0 4).toNat + 1) x1 (w32 (x2 - 2))).bind fun v_1850 => (some v_1850)) else (if x2 = 6 then ((FX2_isFixed N s ((s q0 4).toNat) x1).bind fun v_1852 => (if v_1852 = 0 then (FX11_room_b121 N s 0) else (FX11_room_b121 N s 1))) else (if x2 = 7 then ((FX2_keysIn N s ((s q0 4).toNat) x1).bind fun v_1855 => (some v_1855)) else (if x2 = 8 then ((FX2_sleepersIn N s ((s q0 4).toNat) x1).bind fun v_1857 => (some v_1857)) else (some (-1)))))))))))))
set_option maxRecDepth 10000 in
set_option maxHeartbeats 4000000 in
theorem RX11_room {d N nc Ls : Nat} {Xs : Nat → Int32} (hd : 2 ≤ d) {h : iv_H} {s : iv_M} (hR : Rep nc Ls Xs h s) {q0 : Nat} (t0 : T11 nc q0) {m1 : Int32} {x1 : Int} (p1 : m1.toInt = x1) {m2 : Int32} {x2 : Int} (p2 : m2.toInt = x2) {r : Int} {Q : Option Value → iv_H → Prop} (e : FX11_room N s q0 x1 x2 = some r) (hq : ∀ (z : Int32), z.toInt = r → Q (some (.int z)) h) : Cl d 144 [.ref q0, .int m1, .int m2] h Q := by
  obtain ⟨d, rfl⟩ : ∃ k, d = k + 1 := ⟨d - 1, by omega⟩
  have hd : 1 ≤ d := by omega
  have hT := hX11_room
  unfold FX11_room at e
  refine Cl.into (by decide) gX11_room rfl ?_
  show Rn d 144 (some .int) 0 [some (.ref q0), some (.int m1), some (.int m2)] [] h Q
  refine Rn.n hT 1 (pc' := 1) (L' := [some (.ref q0), some (.int m1), some (.int m2)]) (st' := [.ref q0]) rfl ?_
  refine Rn.hp hT rfl rfl (gR_hp (rp_gP (k := 4) hR (T11_o t0) rfl (nn_114 hR t0))) ?_
  refine Rn.n hT 1 (pc' := 5) (L' := [some (.ref q0), some (.int m1), some (.int m2)]) (st' := [.int m1, .ref ((s q0 4).toNat)]) rfl ?_
  obtain ⟨v_1837, e_1837, e⟩ := Option.bind_eq_some_iff.mp e
  refine Rn.call hT rfl rfl rfl (Nat.le_of_ble_eq_true rfl) (rcv_v gX2_isRoom (by omega) (rp_ck hR (T2_o (ty_114 hR t0)))) (RX2_isRoom (by omega) hR (ty_114 hR t0) p1 e_1837 (fun z_1837 p_1837 => ?_))
  show Rn d _ _ 8 [some (.ref q0), some (.int m1), some (.int m2)] [.int z_1837] h Q
  by_cases c_1838 : v_1837 = 0
  · rw [if_pos c_1838] at e
    refine Rn.bf hT rfl rfl rfl (decide_eq_false (fun z => z ((ti_e p_1837 L32_0).mpr c_1838))) ?_
    refine Rn.n hT 1 (pc' := 12) (L' := [some (.ref q0), some (.int m1), some (.int m2)]) (st' := [.int (-1 : Int32)]) rfl ?_
    obtain rfl := Option.some.inj e
    exact Rn.ret hT rfl rfl rfl (hq (-1 : Int32) L32_m1)
  · rw [if_neg c_1838] at e
    refine Rn.bt hT rfl rfl rfl (decide_eq_true (fun z => c_1838 ((ti_e p_1837 L32_0).mp z))) ?_
    refine Rn.n hT 1 (pc' := 14) (L' := [some (.ref q0), some (.int m1), some (.int m2)]) (st' := [.int m2]) rfl ?_
    by_cases c_1839 : x2 = 0
    · rw [if_pos c_1839] at e
      refine Rn.sw2 hT rfl rfl rfl (if_pos ((ti_e p2 L32_0).mpr c_1839)) ?_
      refine Rn.n hT 1 (pc' := 65) (L' := [some (.ref q0), some (.int m1), some (.int m2)]) (st' := [.ref q0]) rfl ?_
      refine Rn.hp hT rfl rfl (gR_hp (rp_gP (k := 4) hR (T11_o t0) rfl (nn_114 hR t0))) ?_
      refine Rn.hp hT rfl rfl (gR_hp (rp_gR hR (T2_o (ty_114 hR t0)) rfl)) ?_
      refine Rn.hp hT rfl rfl (gR_hp (rp_gR hR (T1_o (T2_9 (ty_114 hR t0))) rfl)) ?_
      refine Rn.n hT 1 (pc' := 75) (L' := [some (.ref q0), some (.int m1), some (.int m2)]) (st' := [.int m1, .ref (((s q0 4).toNat + 1) + 1)]) rfl ?_
      obtain ⟨v_1840, e_1840, e⟩ := Option.bind_eq_some_iff.mp e
      obtain ⟨z_1840, g_1840, p_1840⟩ := rp_aI hR (T1_5 (T2_9 (ty_114 hR t0))) (T1_5l (T2_9 (ty_114 hR t0))) p1 e_1840
      refine Rn.hp hT rfl rfl (aI_hp g_1840) ?_
      obtain rfl := Option.some.inj e
      exact Rn.ret hT rfl rfl rfl (hq z_1840 p_1840)
    · rw [if_neg c_1839] at e
      by_cases c_1841 : x2 = 1
      · rw [if_pos c_1841] at e
        refine Rn.sw2 hT rfl rfl rfl ((if_neg (fun z => c_1839 ((ti_e p2 L32_0).mp z))).trans (if_pos ((ti_e p2 L32_1).mpr c_1841))) ?_
        refine Rn.n hT 1 (pc' := 78) (L' := [some (.ref q0), some (.int m1), some (.int m2)]) (st' := [.ref q0]) rfl ?_
        refine Rn.hp hT rfl rfl (gR_hp (rp_gP (k := 4) hR (T11_o t0) rfl (nn_114 hR t0))) ?_
        refine Rn.hp hT rfl rfl (gR_hp (rp_gR hR (T2_o (ty_114 hR t0)) rfl)) ?_
        refine Rn.hp hT rfl rfl (gR_hp (rp_gR hR (T1_o (T2_9 (ty_114 hR t0))) rfl)) ?_
        refine Rn.n hT 1 (pc' := 88) (L' := [some (.ref q0), some (.int m1), some (.int m2)]) (st' := [.int m1, .ref (((s q0 4).toNat + 1) + 2)]) rfl ?_
        obtain ⟨v_1842, e_1842, e⟩ := Option.bind_eq_some_iff.mp e
        obtain ⟨z_1842, g_1842, p_1842⟩ := rp_aI hR (T1_6 (T2_9 (ty_114 hR t0))) (T1_6l (T2_9 (ty_114 hR t0))) p1 e_1842
        refine Rn.hp hT rfl rfl (aI_hp g_1842) ?_
        obtain rfl := Option.some.inj e
        exact Rn.ret hT rfl rfl rfl (hq z_1842 p_1842)
      · rw [if_neg c_1841] at e
        by_cases c_1843 : x2 = 2
        · rw [if_pos c_1843] at e
          refine Rn.sw2 hT rfl rfl rfl ((if_neg (fun z => c_1839 ((ti_e p2 L32_0).mp z))).trans ((if_neg (fun z => c_1841 ((ti_e p2 L32_1).mp z))).trans (if_pos ((ti_e p2 L32_2).mpr c_1843)))) ?_
          refine Rn.n hT 1 (pc' := 91) (L' := [some (.ref q0), some (.int m1), some (.int m2)]) (st' := [.ref q0]) rfl ?_
          refine Rn.hp hT rfl rfl (gR_hp (rp_gP (k := 4) hR (T11_o t0) rfl (nn_114 hR t0))) ?_
          refine Rn.hp hT rfl rfl (gR_hp (rp_gR hR (T2_o (ty_114 hR t0)) rfl)) ?_
          refine Rn.n hT 4 (pc' := 101) (L' := [some (.ref q0), some (.int m1), some (.int m2)]) (st' := [.int (m2 - (2 : Int32)), .int m1, .ref ((s q0 4).toNat + 1)]) rfl ?_
          obtain ⟨v_1844, e_1844, e⟩ := Option.bind_eq_some_iff.mp e
          refine Rn.call hT rfl rfl rfl (Nat.le_of_ble_eq_true rfl) (rcv_v gX1_sortOf (by omega) (rp_ck hR (T1_o (T2_9 (ty_114 hR t0))))) (RX1_sortOf (by omega) hR (T2_9 (ty_114 hR t0)) p1 (ti_sub p2 L32_2) e_1844 (fun z_1844 p_1844 => ?_))
          show Rn d _ _ 104 [some (.ref q0), some (.int m1), some (.int m2)] [.int z_1844] h Q
          obtain rfl := Option.some.inj e
          exact Rn.ret hT rfl rfl rfl (hq z_1844 p_1844)
        · rw [if_neg c_1843] at e
          by_cases c_1845 : x2 = 3
          · rw [if_pos c_1845] at e
            refine Rn.sw2 hT rfl rfl rfl ((if_neg (fun z => c_1839 ((ti_e p2 L32_0).mp z))).trans ((if_neg (fun z => c_1841 ((ti_e p2 L32_1).mp z))).trans ((if_neg (fun z => c_1843 ((ti_e p2 L32_2).mp z))).trans (if_pos ((ti_e p2 L32_3).mpr c_1845))))) ?_
            refine Rn.n hT 1 (pc' := 91) (L' := [some (.ref q0), some (.int m1), some (.int m2)]) (st' := [.ref q0]) rfl ?_
            refine Rn.hp hT rfl rfl (gR_hp (rp_gP (k := 4) hR (T11_o t0) rfl (nn_114 hR t0))) ?_
            refine Rn.hp hT rfl rfl (gR_hp (rp_gR hR (T2_o (ty_114 hR t0)) rfl)) ?_
            refine Rn.n hT 4 (pc' := 101) (L' := [some (.ref q0), some (.int m1), some (.int m2)]) (st' := [.int (m2 - (2 : Int32)), .int m1, .ref ((s q0 4).toNat + 1)]) rfl ?_
            obtain ⟨v_1846, e_1846, e⟩ := Option.bind_eq_some_iff.mp e
            refine Rn.call hT rfl rfl rfl (Nat.le_of_ble_eq_true rfl) (rcv_v gX1_sortOf (by omega) (rp_ck hR (T1_o (T2_9 (ty_114 hR t0))))) (RX1_sortOf (by omega) hR (T2_9 (ty_114 hR t0)) p1 (ti_sub p2 L32_2) e_1846 (fun z_1846 p_1846 => ?_))
            show Rn d _ _ 104 [some (.ref q0), some (.int m1), some (.int m2)] [.int z_1846] h Q
            obtain rfl := Option.some.inj e
            exact Rn.ret hT rfl rfl rfl (hq z_1846 p_1846)
          · rw [if_neg c_1845] at e
            by_cases c_1847 : x2 = 4
            · rw [if_pos c_1847] at e
              refine Rn.sw2 hT rfl rfl rfl ((if_neg (fun z => c_1839 ((ti_e p2 L32_0).mp z))).trans ((if_neg (fun z => c_1841 ((ti_e p2 L32_1).mp z))).trans ((if_neg (fun z => c_1843 ((ti_e p2 L32_2).mp z))).trans ((if_neg (fun z => c_1845 ((ti_e p2 L32_3).mp z))).trans (if_pos ((ti_e p2 L32_4).mpr c_1847)))))) ?_
              refine Rn.n hT 1 (pc' := 91) (L' := [some (.ref q0), some (.int m1), some (.int m2)]) (st' := [.ref q0]) rfl ?_
              refine Rn.hp hT rfl rfl (gR_hp (rp_gP (k := 4) hR (T11_o t0) rfl (nn_114 hR t0))) ?_
              refine Rn.hp hT rfl rfl (gR_hp (rp_gR hR (T2_o (ty_114 hR t0)) rfl)) ?_
              refine Rn.n hT 4 (pc' := 101) (L' := [some (.ref q0), some (.int m1), some (.int m2)]) (st' := [.int (m2 - (2 : Int32)), .int m1, .ref ((s q0 4).toNat + 1)]) rfl ?_
              obtain ⟨v_1848, e_1848, e⟩ := Option.bind_eq_some_iff.mp e
              refine Rn.call hT rfl rfl rfl (Nat.le_of_ble_eq_true rfl) (rcv_v gX1_sortOf (by omega) (rp_ck hR (T1_o (T2_9 (ty_114 hR t0))))) (RX1_sortOf (by omega) hR (T2_9 (ty_114 hR t0)) p1 (ti_sub p2 L32_2) e_1848 (fun z_1848 p_1848 => ?_))
              show Rn d _ _ 104 [some (.ref q0), some (.int m1), some (.int m2)] [.int z_1848] h Q
              obtain rfl := Option.some.inj e
              exact Rn.ret hT rfl rfl rfl (hq z_1848 p_1848)
            · rw [if_neg c_1847] at e
              by_cases c_1849 : x2 = 5
              · rw [if_pos c_1849] at e
                refine Rn.sw2 hT rfl rfl rfl ((if_neg (fun z => c_1839 ((ti_e p2 L32_0).mp z))).trans ((if_neg (fun z => c_1841 ((ti_e p2 L32_1).mp z))).trans ((if_neg (fun z => c_1843 ((ti_e p2 L32_2).mp z))).trans ((if_neg (fun z => c_1845 ((ti_e p2 L32_3).mp z))).trans ((if_neg (fun z => c_1847 ((ti_e p2 L32_4).mp z))).trans (if_pos ((ti_e p2 L32_5).mpr c_1849))))))) ?_
                refine Rn.n hT 1 (pc' := 91) (L' := [some (.ref q0), some (.int m1), some (.int m2)]) (st' := [.ref q0]) rfl ?_
                refine Rn.hp hT rfl rfl (gR_hp (rp_gP (k := 4) hR (T11_o t0) rfl (nn_114 hR t0))) ?_
                refine Rn.hp hT rfl rfl (gR_hp (rp_gR hR (T2_o (ty_114 hR t0)) rfl)) ?_
                refine Rn.n hT 4 (pc' := 101) (L' := [some (.ref q0), some (.int m1), some (.int m2)]) (st' := [.int (m2 - (2 : Int32)), .int m1, .ref ((s q0 4).toNat + 1)]) rfl ?_
                obtain ⟨v_1850, e_1850, e⟩ := Option.bind_eq_some_iff.mp e
                refine Rn.call hT rfl rfl rfl (Nat.le_of_ble_eq_true rfl) (rcv_v gX1_sortOf (by omega) (rp_ck hR (T1_o (T2_9 (ty_114 hR t0))))) (RX1_sortOf (by omega) hR (T2_9 (ty_114 hR t0)) p1 (ti_sub p2 L32_2) e_1850 (fun z_1850 p_1850 => ?_))
                show Rn d _ _ 104 [some (.ref q0), some (.int m1), some (.int m2)] [.int z_1850] h Q
                obtain rfl := Option.some.inj e
                exact Rn.ret hT rfl rfl rfl (hq z_1850 p_1850)
              · rw [if_neg c_1849] at e
                by_cases c_1851 : x2 = 6
                · rw [if_pos c_1851] at e
                  refine Rn.sw2 hT rfl rfl rfl ((if_neg (fun z => c_1839 ((ti_e p2 L32_0).mp z))).trans ((if_neg (fun z => c_1841 ((ti_e p2 L32_1).mp z))).trans ((if_neg (fun z => c_1843 ((ti_e p2 L32_2).mp z))).trans ((if_neg (fun z => c_1845 ((ti_e p2 L32_3).mp z))).trans ((if_neg (fun z => c_1847 ((ti_e p2 L32_4).mp z))).trans ((if_neg (fun z => c_1849 ((ti_e p2 L32_5).mp z))).trans (if_pos ((ti_e p2 L32_6).mpr c_1851)))))))) ?_
                  refine Rn.n hT 1 (pc' := 106) (L' := [some (.ref q0), some (.int m1), some (.int m2)]) (st' := [.ref q0]) rfl ?_
                  refine Rn.hp hT rfl rfl (gR_hp (rp_gP (k := 4) hR (T11_o t0) rfl (nn_114 hR t0))) ?_
                  refine Rn.n hT 1 (pc' := 110) (L' := [some (.ref q0), some (.int m1), some (.int m2)]) (st' := [.int m1, .ref ((s q0 4).toNat)]) rfl ?_
                  obtain ⟨v_1852, e_1852, e⟩ := Option.bind_eq_some_iff.mp e
                  refine Rn.call hT rfl rfl rfl (Nat.le_of_ble_eq_true rfl) (rcv_v gX2_isFixed (by omega) (rp_ck hR (T2_o (ty_114 hR t0)))) (RX2_isFixed (by omega) hR (ty_114 hR t0) p1 e_1852 (fun z_1852 p_1852 => ?_))
                  show Rn d _ _ 113 [some (.ref q0), some (.int m1), some (.int m2)] [.int z_1852] h Q
                  by_cases c_1853 : v_1852 = 0
                  · rw [if_pos c_1853] at e
                    refine Rn.bt hT rfl rfl rfl (decide_eq_true ((ti_e p_1852 L32_0).mpr c_1853)) ?_
                    refine Rn.n hT 1 (pc' := 121) (L' := [some (.ref q0), some (.int m1), some (.int m2)]) (st' := [.int (0 : Int32)]) rfl ?_
                    exact Rn.weak (ll_n (ll_n (ll_n ll_e))) (RX11_room_b121 hd hR L32_0 hq e)
                  · rw [if_neg c_1853] at e
                    refine Rn.bf hT rfl rfl rfl (decide_eq_false (fun z => c_1853 ((ti_e p_1852 L32_0).mp z))) ?_
                    refine Rn.n hT 2 (pc' := 121) (L' := [some (.ref q0), some (.int m1), some (.int m2)]) (st' := [.int (1 : Int32)]) rfl ?_
                    exact Rn.weak (ll_n (ll_n (ll_n ll_e))) (RX11_room_b121 hd hR L32_1 hq e)
                · rw [if_neg c_1851] at e
                  by_cases c_1854 : x2 = 7
                  · rw [if_pos c_1854] at e
                    refine Rn.sw2 hT rfl rfl rfl ((if_neg (fun z => c_1839 ((ti_e p2 L32_0).mp z))).trans ((if_neg (fun z => c_1841 ((ti_e p2 L32_1).mp z))).trans ((if_neg (fun z => c_1843 ((ti_e p2 L32_2).mp z))).trans ((if_neg (fun z => c_1845 ((ti_e p2 L32_3).mp z))).trans ((if_neg (fun z => c_1847 ((ti_e p2 L32_4).mp z))).trans ((if_neg (fun z => c_1849 ((ti_e p2 L32_5).mp z))).trans ((if_neg (fun z => c_1851 ((ti_e p2 L32_6).mp z))).trans (if_pos ((ti_e p2 L32_7).mpr c_1854))))))))) ?_
                    refine Rn.n hT 1 (pc' := 123) (L' := [some (.ref q0), some (.int m1), some (.int m2)]) (st' := [.ref q0]) rfl ?_
                    refine Rn.hp hT rfl rfl (gR_hp (rp_gP (k := 4) hR (T11_o t0) rfl (nn_114 hR t0))) ?_
                    refine Rn.n hT 1 (pc' := 127) (L' := [some (.ref q0), some (.int m1), some (.int m2)]) (st' := [.int m1, .ref ((s q0 4).toNat)]) rfl ?_
                    obtain ⟨v_1855, e_1855, e⟩ := Option.bind_eq_some_iff.mp e
                    refine Rn.call hT rfl rfl rfl (Nat.le_of_ble_eq_true rfl) (rcv_v gX2_keysIn (by omega) (rp_ck hR (T2_o (ty_114 hR t0)))) (RX2_keysIn (by omega) hR (ty_114 hR t0) p1 e_1855 (fun z_1855 p_1855 => ?_))
                    show Rn d _ _ 130 [some (.ref q0), some (.int m1), some (.int m2)] [.int z_1855] h Q
                    obtain rfl := Option.some.inj e
                    exact Rn.ret hT rfl rfl rfl (hq z_1855 p_1855)
                  · rw [if_neg c_1854] at e
                    by_cases c_1856 : x2 = 8
                    · rw [if_pos c_1856] at e
                      refine Rn.sw2 hT rfl rfl rfl ((if_neg (fun z => c_1839 ((ti_e p2 L32_0).mp z))).trans ((if_neg (fun z => c_1841 ((ti_e p2 L32_1).mp z))).trans ((if_neg (fun z => c_1843 ((ti_e p2 L32_2).mp z))).trans ((if_neg (fun z => c_1845 ((ti_e p2 L32_3).mp z))).trans ((if_neg (fun z => c_1847 ((ti_e p2 L32_4).mp z))).trans ((if_neg (fun z => c_1849 ((ti_e p2 L32_5).mp z))).trans ((if_neg (fun z => c_1851 ((ti_e p2 L32_6).mp z))).trans ((if_neg (fun z => c_1854 ((ti_e p2 L32_7).mp z))).trans (if_pos ((ti_e p2 L32_8).mpr c_1856)))))))))) ?_
                      refine Rn.n hT 1 (pc' := 132) (L' := [some (.ref q0), some (.int m1), some (.int m2)]) (st' := [.ref q0]) rfl ?_
                      refine Rn.hp hT rfl rfl (gR_hp (rp_gP (k := 4) hR (T11_o t0) rfl (nn_114 hR t0))) ?_
                      refine Rn.n hT 1 (pc' := 136) (L' := [some (.ref q0), some (.int m1), some (.int m2)]) (st' := [.int m1, .ref ((s q0 4).toNat)]) rfl ?_
                      obtain ⟨v_1857, e_1857, e⟩ := Option.bind_eq_some_iff.mp e
                      refine Rn.call hT rfl rfl rfl (Nat.le_of_ble_eq_true rfl) (rcv_v gX2_sleepersIn (by omega) (rp_ck hR (T2_o (ty_114 hR t0)))) (RX2_sleepersIn (by omega) hR (ty_114 hR t0) p1 e_1857 (fun z_1857 p_1857 => ?_))
                      show Rn d _ _ 139 [some (.ref q0), some (.int m1), some (.int m2)] [.int z_1857] h Q
                      obtain rfl := Option.some.inj e
                      exact Rn.ret hT rfl rfl rfl (hq z_1857 p_1857)
                    · rw [if_neg c_1856] at e
                      refine Rn.sw2 hT rfl rfl rfl ((if_neg (fun z => c_1839 ((ti_e p2 L32_0).mp z))).trans ((if_neg (fun z => c_1841 ((ti_e p2 L32_1).mp z))).trans ((if_neg (fun z => c_1843 ((ti_e p2 L32_2).mp z))).trans ((if_neg (fun z => c_1845 ((ti_e p2 L32_3).mp z))).trans ((if_neg (fun z => c_1847 ((ti_e p2 L32_4).mp z))).trans ((if_neg (fun z => c_1849 ((ti_e p2 L32_5).mp z))).trans ((if_neg (fun z => c_1851 ((ti_e p2 L32_6).mp z))).trans ((if_neg (fun z => c_1854 ((ti_e p2 L32_7).mp z))).trans ((if_neg (fun z => c_1856 ((ti_e p2 L32_8).mp z))).trans rfl))))))))) ?_
                      refine Rn.n hT 1 (pc' := 141) (L' := [some (.ref q0), some (.int m1), some (.int m2)]) (st' := [.int (-1 : Int32)]) rfl ?_
                      obtain rfl := Option.some.inj e
                      exact Rn.ret hT rfl rfl rfl (hq (-1 : Int32) L32_m1)
set_option maxRecDepth 10000 in
theorem hX11_at : iv_Tb 145 tX11_at := iv_tb_of (m := mX11_at) rfl
set_option maxRecDepth 10000 in
theorem gX11_at : PG.2 145 = some mX11_at := iv_pi_of (t := tX11_at) rfl (by decide)
def FX11_at_b35 (N : Nat) (s : iv_M)  (xs0 : Int) : Option (Int) := (some xs0)
set_option maxRecDepth 10000 in
set_option maxHeartbeats 4000000 in
theorem RX11_at_b35 {d N nc Ls : Nat} {Xs : Nat → Int32} (hd : 1 ≤ d) {h : iv_H} {s : iv_M} (hR : Rep nc Ls Xs h s)  {ms0 : Int32} {xs0 : Int} (ps0 : ms0.toInt = xs0) {r : Int} {Q : Option Value → iv_H → Prop} (hq : ∀ (z : Int32), z.toInt = r → Q (some (.int z)) h) (e : FX11_at_b35 N s  xs0 = some r) : Rn d 145 (some .int) 35 [none, none, none, none] [.int ms0] h Q := by
  have hT := hX11_at
  unfold FX11_at_b35 at e
  obtain rfl := Option.some.inj e
  exact Rn.ret hT rfl rfl rfl (hq ms0 ps0)
def FX11_at (N : Nat) (s : iv_M) (q0 : Nat) (x1 : Int) (x2 : Int) : Option (Int) := ((FX1_cellAt N s ((s q0 4).toNat + 1) x1 x2).bind fun v_1858 => (if v_1858 = (-1) then (FX11_at_b35 N s (-2)) else ((rd s (((s q0 4).toNat + 1) + 3) 16 v_1858).bind fun v_1860 => (FX11_at_b35 N s v_1860))))
set_option maxRecDepth 10000 in
set_option maxHeartbeats 4000000 in
theorem RX11_at {d N nc Ls : Nat} {Xs : Nat → Int32} (hd : 2 ≤ d) {h : iv_H} {s : iv_M} (hR : Rep nc Ls Xs h s) {q0 : Nat} (t0 : T11 nc q0) {m1 : Int32} {x1 : Int} (p1 : m1.toInt = x1) {m2 : Int32} {x2 : Int} (p2 : m2.toInt = x2) {r : Int} {Q : Option Value → iv_H → Prop} (e : FX11_at N s q0 x1 x2 = some r) (hq : ∀ (z : Int32), z.toInt = r → Q (some (.int z)) h) : Cl d 145 [.ref q0, .int m1, .int m2] h Q := by
  obtain ⟨d, rfl⟩ : ∃ k, d = k + 1 := ⟨d - 1, by omega⟩
  have hd : 1 ≤ d := by omega
  have hT := hX11_at
  unfold FX11_at at e
  refine Cl.into (by decide) gX11_at rfl ?_
  show Rn d 145 (some .int) 0 [some (.ref q0), some (.int m1), some (.int m2), none] [] h Q
  refine Rn.n hT 1 (pc' := 1) (L' := [some (.ref q0), some (.int m1), some (.int m2), none]) (st' := [.ref q0]) rfl ?_
  refine Rn.hp hT rfl rfl (gR_hp (rp_gP (k := 4) hR (T11_o t0) rfl (nn_114 hR t0))) ?_
  refine Rn.hp hT rfl rfl (gR_hp (rp_gR hR (T2_o (ty_114 hR t0)) rfl)) ?_
  refine Rn.n hT 2 (pc' := 9) (L' := [some (.ref q0), some (.int m1), some (.int m2), none]) (st' := [.int m2, .int m1, .ref ((s q0 4).toNat + 1)]) rfl ?_
  obtain ⟨v_1858, e_1858, e⟩ := Option.bind_eq_some_iff.mp e
  refine Rn.call hT rfl rfl rfl (Nat.le_of_ble_eq_true rfl) (rcv_v gX1_cellAt (by omega) (rp_ck hR (T1_o (T2_9 (ty_114 hR t0))))) (RX1_cellAt (by omega) hR (T2_9 (ty_114 hR t0)) p1 p2 e_1858 (fun z_1858 p_1858 => ?_))
  show Rn d _ _ 12 [some (.ref q0), some (.int m1), some (.int m2), none] [.int z_1858] h Q
  refine Rn.n hT 3 (pc' := 15) (L' := [some (.ref q0), some (.int m1), some (.int m2), some (.int z_1858)]) (st' := [.int (-1 : Int32), .int z_1858]) rfl ?_
  by_cases c_1859 : v_1858 = (-1)
  · rw [if_pos c_1859] at e
    refine Rn.bf hT rfl rfl rfl (decide_eq_false (fun z => z ((ti_e p_1858 L32_m1).mpr c_1859))) ?_
    refine Rn.n hT 2 (pc' := 35) (L' := [some (.ref q0), some (.int m1), some (.int m2), some (.int z_1858)]) (st' := [.int (-2 : Int32)]) rfl ?_
    exact Rn.weak (ll_n (ll_n (ll_n (ll_n ll_e)))) (RX11_at_b35 hd hR L32_m2 hq e)
  · rw [if_neg c_1859] at e
    refine Rn.bt hT rfl rfl rfl (decide_eq_true (fun z => c_1859 ((ti_e p_1858 L32_m1).mp z))) ?_
    refine Rn.n hT 1 (pc' := 24) (L' := [some (.ref q0), some (.int m1), some (.int m2), some (.int z_1858)]) (st' := [.ref q0]) rfl ?_
    refine Rn.hp hT rfl rfl (gR_hp (rp_gP (k := 4) hR (T11_o t0) rfl (nn_114 hR t0))) ?_
    refine Rn.hp hT rfl rfl (gR_hp (rp_gR hR (T2_o (ty_114 hR t0)) rfl)) ?_
    refine Rn.hp hT rfl rfl (gR_hp (rp_gR hR (T1_o (T2_9 (ty_114 hR t0))) rfl)) ?_
    refine Rn.n hT 1 (pc' := 34) (L' := [some (.ref q0), some (.int m1), some (.int m2), some (.int z_1858)]) (st' := [.int z_1858, .ref (((s q0 4).toNat + 1) + 3)]) rfl ?_
    obtain ⟨v_1860, e_1860, e⟩ := Option.bind_eq_some_iff.mp e
    obtain ⟨z_1860, g_1860, p_1860⟩ := rp_aI hR (T1_7 (T2_9 (ty_114 hR t0))) (T1_7l (T2_9 (ty_114 hR t0))) p_1858 e_1860
    refine Rn.hp hT rfl rfl (aI_hp g_1860) ?_
    exact Rn.weak (ll_n (ll_n (ll_n (ll_n ll_e)))) (RX11_at_b35 hd hR p_1860 hq e)
set_option maxRecDepth 10000 in
theorem hX11_sleeps : iv_Tb 146 tX11_sleeps := iv_tb_of (m := mX11_sleeps) rfl
set_option maxRecDepth 10000 in
theorem gX11_sleeps : PG.2 146 = some mX11_sleeps := iv_pi_of (t := tX11_sleeps) rfl (by decide)
def FX11_sleeps_b24 (N : Nat) (s : iv_M)  (xs0 : Int) : Option (Int) := (some xs0)
set_option maxRecDepth 10000 in
set_option maxHeartbeats 4000000 in
theorem RX11_sleeps_b24 {d N nc Ls : Nat} {Xs : Nat → Int32} (hd : 1 ≤ d) {h : iv_H} {s : iv_M} (hR : Rep nc Ls Xs h s)  {ms0 : Int32} {xs0 : Int} (ps0 : ms0.toInt = xs0) {r : Int} {Q : Option Value → iv_H → Prop} (hq : ∀ (z : Int32), z.toInt = r → Q (some (.int z)) h) (e : FX11_sleeps_b24 N s  xs0 = some r) : Rn d 146 (some .int) 24 [none, none] [.int ms0] h Q := by
  have hT := hX11_sleeps
  unfold FX11_sleeps_b24 at e
  obtain rfl := Option.some.inj e
  exact Rn.ret hT rfl rfl rfl (hq ms0 ps0)
def FX11_sleeps (N : Nat) (s : iv_M) (q0 : Nat) (x1 : Int) : Option (Int) := ((FX2_isPerson N s ((s q0 4).toNat) x1).bind fun v_1861 => (if v_1861 = 0 then (FX11_sleeps_b24 N s (-1)) else ((rd s ((s q0 4).toNat + 9) 6 x1).bind fun v_1863 => (FX11_sleeps_b24 N s v_1863))))
set_option maxRecDepth 10000 in
set_option maxHeartbeats 4000000 in
theorem RX11_sleeps {d N nc Ls : Nat} {Xs : Nat → Int32} (hd : 2 ≤ d) {h : iv_H} {s : iv_M} (hR : Rep nc Ls Xs h s) {q0 : Nat} (t0 : T11 nc q0) {m1 : Int32} {x1 : Int} (p1 : m1.toInt = x1) {r : Int} {Q : Option Value → iv_H → Prop} (e : FX11_sleeps N s q0 x1 = some r) (hq : ∀ (z : Int32), z.toInt = r → Q (some (.int z)) h) : Cl d 146 [.ref q0, .int m1] h Q := by
  obtain ⟨d, rfl⟩ : ∃ k, d = k + 1 := ⟨d - 1, by omega⟩
  have hd : 1 ≤ d := by omega
  have hT := hX11_sleeps
  unfold FX11_sleeps at e
  refine Cl.into (by decide) gX11_sleeps rfl ?_
  show Rn d 146 (some .int) 0 [some (.ref q0), some (.int m1)] [] h Q
  refine Rn.n hT 1 (pc' := 1) (L' := [some (.ref q0), some (.int m1)]) (st' := [.ref q0]) rfl ?_
  refine Rn.hp hT rfl rfl (gR_hp (rp_gP (k := 4) hR (T11_o t0) rfl (nn_114 hR t0))) ?_
  refine Rn.n hT 1 (pc' := 5) (L' := [some (.ref q0), some (.int m1)]) (st' := [.int m1, .ref ((s q0 4).toNat)]) rfl ?_
  obtain ⟨v_1861, e_1861, e⟩ := Option.bind_eq_some_iff.mp e
  refine Rn.call hT rfl rfl rfl (Nat.le_of_ble_eq_true rfl) (rcv_v gX2_isPerson (by omega) (rp_ck hR (T2_o (ty_114 hR t0)))) (RX2_isPerson (by omega) hR (ty_114 hR t0) p1 e_1861 (fun z_1861 p_1861 => ?_))
  show Rn d _ _ 8 [some (.ref q0), some (.int m1)] [.int z_1861] h Q
  by_cases c_1862 : v_1861 = 0
  · rw [if_pos c_1862] at e
    refine Rn.bt hT rfl rfl rfl (decide_eq_true ((ti_e p_1861 L32_0).mpr c_1862)) ?_
    refine Rn.n hT 1 (pc' := 24) (L' := [some (.ref q0), some (.int m1)]) (st' := [.int (-1 : Int32)]) rfl ?_
    exact Rn.weak (ll_n (ll_n ll_e)) (RX11_sleeps_b24 hd hR L32_m1 hq e)
  · rw [if_neg c_1862] at e
    refine Rn.bf hT rfl rfl rfl (decide_eq_false (fun z => c_1862 ((ti_e p_1861 L32_0).mp z))) ?_
    refine Rn.n hT 1 (pc' := 12) (L' := [some (.ref q0), some (.int m1)]) (st' := [.ref q0]) rfl ?_
    refine Rn.hp hT rfl rfl (gR_hp (rp_gP (k := 4) hR (T11_o t0) rfl (nn_114 hR t0))) ?_
    refine Rn.hp hT rfl rfl (gR_hp (rp_gR hR (T2_o (ty_114 hR t0)) rfl)) ?_
    refine Rn.n hT 1 (pc' := 19) (L' := [some (.ref q0), some (.int m1)]) (st' := [.int m1, .ref ((s q0 4).toNat + 9)]) rfl ?_
    obtain ⟨v_1863, e_1863, e⟩ := Option.bind_eq_some_iff.mp e
    obtain ⟨z_1863, g_1863, p_1863⟩ := rp_aI hR (T2_11 (ty_114 hR t0)) (T2_11l (ty_114 hR t0)) p1 e_1863
    refine Rn.hp hT rfl rfl (aI_hp g_1863) ?_
    refine Rn.n hT 1 (pc' := 24) (L' := [some (.ref q0), some (.int m1)]) (st' := [.int z_1863]) rfl ?_
    exact Rn.weak (ll_n (ll_n ll_e)) (RX11_sleeps_b24 hd hR p_1863 hq e)
set_option maxRecDepth 10000 in
theorem hX11_mismatch : iv_Tb 147 tX11_mismatch := iv_tb_of (m := mX11_mismatch) rfl
set_option maxRecDepth 10000 in
theorem gX11_mismatch : PG.2 147 = some mX11_mismatch := iv_pi_of (t := tX11_mismatch) rfl (by decide)
def FX11_mismatch_b19 (N : Nat) (s : iv_M)   : Option (Int) := (some (-1))
set_option maxRecDepth 10000 in
set_option maxHeartbeats 4000000 in
theorem RX11_mismatch_b19 {d N nc Ls : Nat} {Xs : Nat → Int32} (hd : 2 ≤ d) {h : iv_H} {s : iv_M} (hR : Rep nc Ls Xs h s)   {r : Int} {Q : Option Value → iv_H → Prop} (hq : ∀ (z : Int32), z.toInt = r → Q (some (.int z)) h) (e : FX11_mismatch_b19 N s   = some r) : Rn d 147 (some .int) 19 [none, none, none, none] [] h Q := by
  have hT := hX11_mismatch
  unfold FX11_mismatch_b19 at e
  refine Rn.n hT 1 (pc' := 20) (L' := [none, none, none, none]) (st' := [.int (-1 : Int32)]) rfl ?_
  obtain rfl := Option.some.inj e
  exact Rn.ret hT rfl rfl rfl (hq (-1 : Int32) L32_m1)
def FX11_mismatch_b82 (N : Nat) (s : iv_M)  (xs0 : Int) : Option (Int) := (some xs0)
set_option maxRecDepth 10000 in
set_option maxHeartbeats 4000000 in
theorem RX11_mismatch_b82 {d N nc Ls : Nat} {Xs : Nat → Int32} (hd : 2 ≤ d) {h : iv_H} {s : iv_M} (hR : Rep nc Ls Xs h s)  {ms0 : Int32} {xs0 : Int} (ps0 : ms0.toInt = xs0) {r : Int} {Q : Option Value → iv_H → Prop} (hq : ∀ (z : Int32), z.toInt = r → Q (some (.int z)) h) (e : FX11_mismatch_b82 N s  xs0 = some r) : Rn d 147 (some .int) 82 [none, none, none, none] [.int ms0] h Q := by
  have hT := hX11_mismatch
  unfold FX11_mismatch_b82 at e
  obtain rfl := Option.some.inj e
  exact Rn.ret hT rfl rfl rfl (hq ms0 ps0)
def FX11_mismatch (N : Nat) (s : iv_M) (q0 : Nat) (x1 : Int) : Option (Int) := (if (s ((s q0 4).toNat) 0) = 0 then (FX11_mismatch_b19 N s) else (if x1 < 0 then (FX11_mismatch_b19 N s) else (if x1 ≤ 3 then (if x1 = 0 then ((FX1_mismatches N s ((s q0 4).toNat + 1)).bind fun v_1873 => (some v_1873)) else ((FX1_firstMismatch N s ((s q0 4).toNat + 1)).bind fun v_1869 => (if v_1869 = (-1) then (some (-2)) else (if x1 = 1 then (some (bAn (dv32 v_1869 4) 3)) else (if x1 = 2 then (FX11_mismatch_b82 N s (sr32 (dv32 v_1869 4) 2)) else (FX11_mismatch_b82 N s (Int.tmod v_1869 4))))))) else (FX11_mismatch_b19 N s))))
set_option maxRecDepth 10000 in
set_option maxHeartbeats 4000000 in
theorem RX11_mismatch {d N nc Ls : Nat} {Xs : Nat → Int32} (hd : 3 ≤ d) {h : iv_H} {s : iv_M} (hR : Rep nc Ls Xs h s) {q0 : Nat} (t0 : T11 nc q0) {m1 : Int32} {x1 : Int} (p1 : m1.toInt = x1) {r : Int} {Q : Option Value → iv_H → Prop} (e : FX11_mismatch N s q0 x1 = some r) (hq : ∀ (z : Int32), z.toInt = r → Q (some (.int z)) h) : Cl d 147 [.ref q0, .int m1] h Q := by
  obtain ⟨d, rfl⟩ : ∃ k, d = k + 1 := ⟨d - 1, by omega⟩
  have hd : 2 ≤ d := by omega
  have hT := hX11_mismatch
  unfold FX11_mismatch at e
  refine Cl.into (by decide) gX11_mismatch rfl ?_
  show Rn d 147 (some .int) 0 [some (.ref q0), some (.int m1), none, none] [] h Q
  refine Rn.n hT 1 (pc' := 1) (L' := [some (.ref q0), some (.int m1), none, none]) (st' := [.ref q0]) rfl ?_
  refine Rn.hp hT rfl rfl (gR_hp (rp_gP (k := 4) hR (T11_o t0) rfl (nn_114 hR t0))) ?_
  obtain ⟨z_1864, g_1864, p_1864⟩ : ∃ z : Int32, gI h 2 0 ((s q0 4).toNat) = some z ∧ z.toInt = s ((s q0 4).toNat) 0 := rp_gI (k := 0) hR (T2_o (ty_114 hR t0)) rfl
  refine Rn.hp hT rfl rfl (gI_hp g_1864) ?_
  by_cases c_1865 : (s ((s q0 4).toNat) 0) = 0
  · rw [if_pos c_1865] at e
    refine Rn.bt hT rfl rfl rfl (decide_eq_true ((ti_e p_1864 L32_0).mpr c_1865)) ?_
    exact Rn.weak (ll_n (ll_n (ll_n (ll_n ll_e)))) (RX11_mismatch_b19 hd hR hq e)
  · rw [if_neg c_1865] at e
    refine Rn.bf hT rfl rfl rfl (decide_eq_false (fun z => c_1865 ((ti_e p_1864 L32_0).mp z))) ?_
    refine Rn.n hT 1 (pc' := 11) (L' := [some (.ref q0), some (.int m1), none, none]) (st' := [.int m1]) rfl ?_
    by_cases c_1866 : x1 < 0
    · rw [if_pos c_1866] at e
      refine Rn.bt hT rfl rfl rfl (decide_eq_true ((ti_l p1 L32_0).mpr c_1866)) ?_
      exact Rn.weak (ll_n (ll_n (ll_n (ll_n ll_e)))) (RX11_mismatch_b19 hd hR hq e)
    · rw [if_neg c_1866] at e
      refine Rn.bf hT rfl rfl rfl (decide_eq_false (fun z => c_1866 ((ti_l p1 L32_0).mp z))) ?_
      refine Rn.n hT 2 (pc' := 16) (L' := [some (.ref q0), some (.int m1), none, none]) (st' := [.int (3 : Int32), .int m1]) rfl ?_
      by_cases c_1867 : x1 ≤ 3
      · rw [if_pos c_1867] at e
        refine Rn.bt hT rfl rfl rfl (decide_eq_true ((ti_le p1 L32_3).mpr c_1867)) ?_
        refine Rn.n hT 1 (pc' := 22) (L' := [some (.ref q0), some (.int m1), none, none]) (st' := [.int m1]) rfl ?_
        by_cases c_1868 : x1 = 0
        · rw [if_pos c_1868] at e
          refine Rn.bf hT rfl rfl rfl (decide_eq_false (fun z => z ((ti_e p1 L32_0).mpr c_1868))) ?_
          refine Rn.n hT 1 (pc' := 26) (L' := [some (.ref q0), some (.int m1), none, none]) (st' := [.ref q0]) rfl ?_
          refine Rn.hp hT rfl rfl (gR_hp (rp_gP (k := 4) hR (T11_o t0) rfl (nn_114 hR t0))) ?_
          refine Rn.hp hT rfl rfl (gR_hp (rp_gR hR (T2_o (ty_114 hR t0)) rfl)) ?_
          obtain ⟨v_1873, e_1873, e⟩ := Option.bind_eq_some_iff.mp e
          refine Rn.call hT rfl rfl rfl (Nat.le_of_ble_eq_true rfl) (rcv_v gX1_mismatches (by omega) (rp_ck hR (T1_o (T2_9 (ty_114 hR t0))))) (RX1_mismatches (by omega) hR (T2_9 (ty_114 hR t0)) e_1873 (fun z_1873 p_1873 => ?_))
          show Rn d _ _ 35 [some (.ref q0), some (.int m1), none, none] [.int z_1873] h Q
          obtain rfl := Option.some.inj e
          exact Rn.ret hT rfl rfl rfl (hq z_1873 p_1873)
        · rw [if_neg c_1868] at e
          refine Rn.bt hT rfl rfl rfl (decide_eq_true (fun z => c_1868 ((ti_e p1 L32_0).mp z))) ?_
          refine Rn.n hT 1 (pc' := 37) (L' := [some (.ref q0), some (.int m1), none, none]) (st' := [.ref q0]) rfl ?_
          refine Rn.hp hT rfl rfl (gR_hp (rp_gP (k := 4) hR (T11_o t0) rfl (nn_114 hR t0))) ?_
          refine Rn.hp hT rfl rfl (gR_hp (rp_gR hR (T2_o (ty_114 hR t0)) rfl)) ?_
          obtain ⟨v_1869, e_1869, e⟩ := Option.bind_eq_some_iff.mp e
          refine Rn.call hT rfl rfl rfl (Nat.le_of_ble_eq_true rfl) (rcv_v gX1_firstMismatch (by omega) (rp_ck hR (T1_o (T2_9 (ty_114 hR t0))))) (RX1_firstMismatch (by omega) hR (T2_9 (ty_114 hR t0)) e_1869 (fun z_1869 p_1869 => ?_))
          show Rn d _ _ 46 [some (.ref q0), some (.int m1), none, none] [.int z_1869] h Q
          refine Rn.n hT 3 (pc' := 49) (L' := [some (.ref q0), some (.int m1), some (.int z_1869), none]) (st' := [.int (-1 : Int32), .int z_1869]) rfl ?_
          by_cases c_1870 : v_1869 = (-1)
          · rw [if_pos c_1870] at e
            refine Rn.bf hT rfl rfl rfl (decide_eq_false (fun z => z ((ti_e p_1869 L32_m1).mpr c_1870))) ?_
            refine Rn.n hT 1 (pc' := 54) (L' := [some (.ref q0), some (.int m1), some (.int z_1869), none]) (st' := [.int (-2 : Int32)]) rfl ?_
            obtain rfl := Option.some.inj e
            exact Rn.ret hT rfl rfl rfl (hq (-2 : Int32) L32_m2)
          · rw [if_neg c_1870] at e
            refine Rn.bt hT rfl rfl rfl (decide_eq_true (fun z => c_1870 ((ti_e p_1869 L32_m1).mp z))) ?_
            refine Rn.n hT 6 (pc' := 61) (L' := [some (.ref q0), some (.int m1), some (.int z_1869), some (.int (z_1869 / (4 : Int32)))]) (st' := [.int (1 : Int32), .int m1]) rfl ?_
            by_cases c_1871 : x1 = 1
            · rw [if_pos c_1871] at e
              refine Rn.bf hT rfl rfl rfl (decide_eq_false (fun z => z ((ti_e p1 L32_1).mpr c_1871))) ?_
              refine Rn.n hT 3 (pc' := 67) (L' := [some (.ref q0), some (.int m1), some (.int z_1869), some (.int (z_1869 / (4 : Int32)))]) (st' := [.int ((z_1869 / (4 : Int32)) &&& (3 : Int32))]) rfl ?_
              obtain rfl := Option.some.inj e
              exact Rn.ret hT rfl rfl rfl (hq ((z_1869 / (4 : Int32)) &&& (3 : Int32)) (ti_and (ti_div p_1869 L32_4) L32_3))
            · rw [if_neg c_1871] at e
              refine Rn.bt hT rfl rfl rfl (decide_eq_true (fun z => c_1871 ((ti_e p1 L32_1).mp z))) ?_
              refine Rn.n hT 2 (pc' := 70) (L' := [some (.ref q0), some (.int m1), some (.int z_1869), some (.int (z_1869 / (4 : Int32)))]) (st' := [.int (2 : Int32), .int m1]) rfl ?_
              by_cases c_1872 : x1 = 2
              · rw [if_pos c_1872] at e
                refine Rn.bf hT rfl rfl rfl (decide_eq_false (fun z => z ((ti_e p1 L32_2).mpr c_1872))) ?_
                refine Rn.n hT 4 (pc' := 82) (L' := [some (.ref q0), some (.int m1), some (.int z_1869), some (.int (z_1869 / (4 : Int32)))]) (st' := [.int ((z_1869 / (4 : Int32)) >>> ((2 : Int32) &&& 31))]) rfl ?_
                exact Rn.weak (ll_n (ll_n (ll_n (ll_n ll_e)))) (RX11_mismatch_b82 hd hR (ti_shr (ti_div p_1869 L32_4) L32_2) hq e)
              · rw [if_neg c_1872] at e
                refine Rn.bt hT rfl rfl rfl (decide_eq_true (fun z => c_1872 ((ti_e p1 L32_2).mp z))) ?_
                refine Rn.n hT 3 (pc' := 82) (L' := [some (.ref q0), some (.int m1), some (.int z_1869), some (.int (z_1869 / (4 : Int32)))]) (st' := [.int (z_1869 - z_1869 / (4 : Int32) * (4 : Int32))]) rfl ?_
                exact Rn.weak (ll_n (ll_n (ll_n (ll_n ll_e)))) (RX11_mismatch_b82 hd hR (ti_rem p_1869 L32_4) hq e)
      · rw [if_neg c_1867] at e
        refine Rn.bf hT rfl rfl rfl (decide_eq_false (fun z => c_1867 ((ti_le p1 L32_3).mp z))) ?_
        exact Rn.weak (ll_n (ll_n (ll_n (ll_n ll_e)))) (RX11_mismatch_b19 hd hR hq e)
set_option maxRecDepth 10000 in
theorem hX11_dayCame : iv_Tb 148 tX11_dayCame := iv_tb_of (m := mX11_dayCame) rfl
set_option maxRecDepth 10000 in
theorem gX11_dayCame : PG.2 148 = some mX11_dayCame := iv_pi_of (t := tX11_dayCame) rfl (by decide)
def FX11_dayCame (N : Nat) (s : iv_M) (q0 : Nat) : Option (iv_M) := ((FX2_forgetPast N s ((s q0 4).toNat)).bind fun s_1875 => ((pt s_1875 q0 15 (w32 ((s_1875 q0 15) + 1))).bind fun s_1877 => some s_1877))
set_option maxRecDepth 10000 in
set_option maxHeartbeats 4000000 in
theorem RX11_dayCame {d N nc Ls : Nat} {Xs : Nat → Int32} (hd : 2 ≤ d) {h : iv_H} {s : iv_M} (hR : Rep nc Ls Xs h s) {q0 : Nat} (t0 : T11 nc q0) {r : iv_M} {Q : Option Value → iv_H → Prop} (e : FX11_dayCame N s q0 = some r) (hq : ∀ h1, Rep nc Ls Xs h1 r → Q none h1) : Cl d 148 [.ref q0] h Q := by
  obtain ⟨d, rfl⟩ : ∃ k, d = k + 1 := ⟨d - 1, by omega⟩
  have hd : 1 ≤ d := by omega
  have hT := hX11_dayCame
  unfold FX11_dayCame at e
  refine Cl.into (by decide) gX11_dayCame rfl ?_
  show Rn d 148 none 0 [some (.ref q0)] [] h Q
  refine Rn.n hT 1 (pc' := 1) (L' := [some (.ref q0)]) (st' := [.ref q0]) rfl ?_
  refine Rn.hp hT rfl rfl (gR_hp (rp_gP (k := 4) hR (T11_o t0) rfl (nn_114 hR t0))) ?_
  obtain ⟨s_1875, e_1874, e⟩ := Option.bind_eq_some_iff.mp e
  refine Rn.call hT rfl rfl rfl (Nat.le_of_ble_eq_true rfl) (rcv_v gX2_forgetPast (by omega) (rp_ck hR (T2_o (ty_114 hR t0)))) (RX2_forgetPast (by omega) hR (ty_114 hR t0) e_1874 (fun h_1875 R_1875 => ?_))
  show Rn d _ _ 7 [some (.ref q0)] [] h_1875 Q
  refine Rn.n hT 2 (pc' := 9) (L' := [some (.ref q0)]) (st' := [.ref q0, .ref q0]) rfl ?_
  obtain ⟨z_1876, g_1876, p_1876⟩ : ∃ z : Int32, gI h_1875 11 15 q0 = some z ∧ z.toInt = s_1875 q0 15 := rp_gI (k := 15) R_1875 (T11_o t0) rfl
  refine Rn.hp hT rfl rfl (gI_hp g_1876) ?_
  refine Rn.n hT 2 (pc' := 14) (L' := [some (.ref q0)]) (st' := [.int (z_1876 + (1 : Int32)), .ref q0]) rfl ?_
  obtain ⟨s_1877, e_1878, e⟩ := Option.bind_eq_some_iff.mp e
  obtain ⟨h_1877, g_1878, R_1877⟩ := rp_pI (ci := 11) (k := 15) R_1875 (T11_o t0) rfl rfl (ti_add p_1876 L32_1) e_1878
  refine Rn.hp hT rfl rfl (pV_hp rfl g_1878) ?_
  obtain rfl := Option.some.inj e
  exact Rn.ret hT rfl rfl rfl (hq h_1877 R_1877)
set_option maxRecDepth 10000 in
theorem hX11_brick : iv_Tb 149 tX11_brick := iv_tb_of (m := mX11_brick) rfl
set_option maxRecDepth 10000 in
theorem gX11_brick : PG.2 149 = some mX11_brick := iv_pi_of (t := tX11_brick) rfl (by decide)
def FX11_brick_b30 (N : Nat) (s : iv_M)   : Option (Int × iv_M) := (some ((-2), s))
set_option maxRecDepth 10000 in
set_option maxHeartbeats 4000000 in
theorem RX11_brick_b30 {d N nc Ls : Nat} {Xs : Nat → Int32} (hd : 2 ≤ d) {h : iv_H} {s : iv_M} (hR : Rep nc Ls Xs h s)   {r : Int × iv_M} {Q : Option Value → iv_H → Prop} (hq : ∀ (z : Int32) (h1 : iv_H), z.toInt = r.1 → Rep nc Ls Xs h1 r.2 → Q (some (.int z)) h1) (e : FX11_brick_b30 N s   = some r) : Rn d 149 (some .int) 30 [none, none, none, none, none] [] h Q := by
  have hT := hX11_brick
  unfold FX11_brick_b30 at e
  refine Rn.n hT 1 (pc' := 32) (L' := [none, none, none, none, none]) (st' := [.int (-2 : Int32)]) rfl ?_
  obtain rfl := Option.some.inj e
  exact Rn.ret hT rfl rfl rfl (hq (-2 : Int32) h L32_m2 hR)
def FX11_brick (N : Nat) (s : iv_M) (q0 : Nat) (x1 : Int) (x2 : Int) (x3 : Int) : Option (Int × iv_M) := ((FX2_isRoom N s ((s q0 4).toNat) x1).bind fun v_1879 => (if v_1879 = 0 then (FX11_brick_b30 N s) else (if x2 < 0 then (FX11_brick_b30 N s) else (if 4 ≤ x2 then (FX11_brick_b30 N s) else (if x3 < 0 then (FX11_brick_b30 N s) else (if x3 ≤ 6 then ((FX1_sortOf N s ((s q0 4).toNat + 1) x1 x2).bind fun v_1885 => (if v_1885 = x3 then (some ((-2), s)) else ((FX1_setSort N s ((s q0 4).toNat + 1) x1 x2 x3).bind fun s_1888 => ((FX11_dayCame N s_1888 q0).bind fun s_1890 => (some (v_1885, s_1890)))))) else (FX11_brick_b30 N s)))))))
set_option maxRecDepth 10000 in
set_option maxHeartbeats 4000000 in
theorem RX11_brick {d N nc Ls : Nat} {Xs : Nat → Int32} (hd : 3 ≤ d) {h : iv_H} {s : iv_M} (hR : Rep nc Ls Xs h s) {q0 : Nat} (t0 : T11 nc q0) {m1 : Int32} {x1 : Int} (p1 : m1.toInt = x1) {m2 : Int32} {x2 : Int} (p2 : m2.toInt = x2) {m3 : Int32} {x3 : Int} (p3 : m3.toInt = x3) {r : Int × iv_M} {Q : Option Value → iv_H → Prop} (e : FX11_brick N s q0 x1 x2 x3 = some r) (hq : ∀ (z : Int32) (h1 : iv_H), z.toInt = r.1 → Rep nc Ls Xs h1 r.2 → Q (some (.int z)) h1) : Cl d 149 [.ref q0, .int m1, .int m2, .int m3] h Q := by
  obtain ⟨d, rfl⟩ : ∃ k, d = k + 1 := ⟨d - 1, by omega⟩
  have hd : 2 ≤ d := by omega
  have hT := hX11_brick
  unfold FX11_brick at e
  refine Cl.into (by decide) gX11_brick rfl ?_
  show Rn d 149 (some .int) 0 [some (.ref q0), some (.int m1), some (.int m2), some (.int m3), none] [] h Q
  refine Rn.n hT 1 (pc' := 1) (L' := [some (.ref q0), some (.int m1), some (.int m2), some (.int m3), none]) (st' := [.ref q0]) rfl ?_
  refine Rn.hp hT rfl rfl (gR_hp (rp_gP (k := 4) hR (T11_o t0) rfl (nn_114 hR t0))) ?_
  refine Rn.n hT 1 (pc' := 5) (L' := [some (.ref q0), some (.int m1), some (.int m2), some (.int m3), none]) (st' := [.int m1, .ref ((s q0 4).toNat)]) rfl ?_
  obtain ⟨v_1879, e_1879, e⟩ := Option.bind_eq_some_iff.mp e
  refine Rn.call hT rfl rfl rfl (Nat.le_of_ble_eq_true rfl) (rcv_v gX2_isRoom (by omega) (rp_ck hR (T2_o (ty_114 hR t0)))) (RX2_isRoom (by omega) hR (ty_114 hR t0) p1 e_1879 (fun z_1879 p_1879 => ?_))
  show Rn d _ _ 8 [some (.ref q0), some (.int m1), some (.int m2), some (.int m3), none] [.int z_1879] h Q
  by_cases c_1880 : v_1879 = 0
  · rw [if_pos c_1880] at e
    refine Rn.bt hT rfl rfl rfl (decide_eq_true ((ti_e p_1879 L32_0).mpr c_1880)) ?_
    exact Rn.weak (ll_n (ll_n (ll_n (ll_n (ll_n ll_e))))) (RX11_brick_b30 hd hR hq e)
  · rw [if_neg c_1880] at e
    refine Rn.bf hT rfl rfl rfl (decide_eq_false (fun z => c_1880 ((ti_e p_1879 L32_0).mp z))) ?_
    refine Rn.n hT 1 (pc' := 12) (L' := [some (.ref q0), some (.int m1), some (.int m2), some (.int m3), none]) (st' := [.int m2]) rfl ?_
    by_cases c_1881 : x2 < 0
    · rw [if_pos c_1881] at e
      refine Rn.bt hT rfl rfl rfl (decide_eq_true ((ti_l p2 L32_0).mpr c_1881)) ?_
      exact Rn.weak (ll_n (ll_n (ll_n (ll_n (ll_n ll_e))))) (RX11_brick_b30 hd hR hq e)
    · rw [if_neg c_1881] at e
      refine Rn.bf hT rfl rfl rfl (decide_eq_false (fun z => c_1881 ((ti_l p2 L32_0).mp z))) ?_
      refine Rn.n hT 2 (pc' := 17) (L' := [some (.ref q0), some (.int m1), some (.int m2), some (.int m3), none]) (st' := [.int (4 : Int32), .int m2]) rfl ?_
      by_cases c_1882 : 4 ≤ x2
      · rw [if_pos c_1882] at e
        refine Rn.bt hT rfl rfl rfl (decide_eq_true ((ti_le L32_4 p2).mpr c_1882)) ?_
        exact Rn.weak (ll_n (ll_n (ll_n (ll_n (ll_n ll_e))))) (RX11_brick_b30 hd hR hq e)
      · rw [if_neg c_1882] at e
        refine Rn.bf hT rfl rfl rfl (decide_eq_false (fun z => c_1882 ((ti_le L32_4 p2).mp z))) ?_
        refine Rn.n hT 1 (pc' := 21) (L' := [some (.ref q0), some (.int m1), some (.int m2), some (.int m3), none]) (st' := [.int m3]) rfl ?_
        by_cases c_1883 : x3 < 0
        · rw [if_pos c_1883] at e
          refine Rn.bt hT rfl rfl rfl (decide_eq_true ((ti_l p3 L32_0).mpr c_1883)) ?_
          exact Rn.weak (ll_n (ll_n (ll_n (ll_n (ll_n ll_e))))) (RX11_brick_b30 hd hR hq e)
        · rw [if_neg c_1883] at e
          refine Rn.bf hT rfl rfl rfl (decide_eq_false (fun z => c_1883 ((ti_l p3 L32_0).mp z))) ?_
          refine Rn.n hT 2 (pc' := 27) (L' := [some (.ref q0), some (.int m1), some (.int m2), some (.int m3), none]) (st' := [.int (6 : Int32), .int m3]) rfl ?_
          by_cases c_1884 : x3 ≤ 6
          · rw [if_pos c_1884] at e
            refine Rn.bt hT rfl rfl rfl (decide_eq_true ((ti_le p3 L32_6).mpr c_1884)) ?_
            refine Rn.n hT 1 (pc' := 34) (L' := [some (.ref q0), some (.int m1), some (.int m2), some (.int m3), none]) (st' := [.ref q0]) rfl ?_
            refine Rn.hp hT rfl rfl (gR_hp (rp_gP (k := 4) hR (T11_o t0) rfl (nn_114 hR t0))) ?_
            refine Rn.hp hT rfl rfl (gR_hp (rp_gR hR (T2_o (ty_114 hR t0)) rfl)) ?_
            refine Rn.n hT 2 (pc' := 42) (L' := [some (.ref q0), some (.int m1), some (.int m2), some (.int m3), none]) (st' := [.int m2, .int m1, .ref ((s q0 4).toNat + 1)]) rfl ?_
            obtain ⟨v_1885, e_1885, e⟩ := Option.bind_eq_some_iff.mp e
            refine Rn.call hT rfl rfl rfl (Nat.le_of_ble_eq_true rfl) (rcv_v gX1_sortOf (by omega) (rp_ck hR (T1_o (T2_9 (ty_114 hR t0))))) (RX1_sortOf (by omega) hR (T2_9 (ty_114 hR t0)) p1 p2 e_1885 (fun z_1885 p_1885 => ?_))
            show Rn d _ _ 45 [some (.ref q0), some (.int m1), some (.int m2), some (.int m3), none] [.int z_1885] h Q
            refine Rn.n hT 3 (pc' := 50) (L' := [some (.ref q0), some (.int m1), some (.int m2), some (.int m3), some (.int z_1885)]) (st' := [.int m3, .int z_1885]) rfl ?_
            by_cases c_1886 : v_1885 = x3
            · rw [if_pos c_1886] at e
              refine Rn.bf hT rfl rfl rfl (decide_eq_false (fun z => z ((ti_e p_1885 p3).mpr c_1886))) ?_
              refine Rn.n hT 1 (pc' := 55) (L' := [some (.ref q0), some (.int m1), some (.int m2), some (.int m3), some (.int z_1885)]) (st' := [.int (-2 : Int32)]) rfl ?_
              obtain rfl := Option.some.inj e
              exact Rn.ret hT rfl rfl rfl (hq (-2 : Int32) h L32_m2 hR)
            · rw [if_neg c_1886] at e
              refine Rn.bt hT rfl rfl rfl (decide_eq_true (fun z => c_1886 ((ti_e p_1885 p3).mp z))) ?_
              refine Rn.n hT 1 (pc' := 57) (L' := [some (.ref q0), some (.int m1), some (.int m2), some (.int m3), some (.int z_1885)]) (st' := [.ref q0]) rfl ?_
              refine Rn.hp hT rfl rfl (gR_hp (rp_gP (k := 4) hR (T11_o t0) rfl (nn_114 hR t0))) ?_
              refine Rn.hp hT rfl rfl (gR_hp (rp_gR hR (T2_o (ty_114 hR t0)) rfl)) ?_
              refine Rn.n hT 3 (pc' := 66) (L' := [some (.ref q0), some (.int m1), some (.int m2), some (.int m3), some (.int z_1885)]) (st' := [.int m3, .int m2, .int m1, .ref ((s q0 4).toNat + 1)]) rfl ?_
              obtain ⟨s_1888, e_1887, e⟩ := Option.bind_eq_some_iff.mp e
              refine Rn.call hT rfl rfl rfl (Nat.le_of_ble_eq_true rfl) (rcv_v gX1_setSort (by omega) (rp_ck hR (T1_o (T2_9 (ty_114 hR t0))))) (RX1_setSort (by omega) hR (T2_9 (ty_114 hR t0)) p1 p2 p3 e_1887 (fun h_1888 R_1888 => ?_))
              show Rn d _ _ 69 [some (.ref q0), some (.int m1), some (.int m2), some (.int m3), some (.int z_1885)] [] h_1888 Q
              refine Rn.n hT 1 (pc' := 70) (L' := [some (.ref q0), some (.int m1), some (.int m2), some (.int m3), some (.int z_1885)]) (st' := [.ref q0]) rfl ?_
              obtain ⟨s_1890, e_1889, e⟩ := Option.bind_eq_some_iff.mp e
              refine Rn.call hT rfl rfl rfl (Nat.le_of_ble_eq_true rfl) (rcv_v gX11_dayCame (by omega) (rp_ck R_1888 (T11_o t0))) (RX11_dayCame (by omega) R_1888 t0 e_1889 (fun h_1890 R_1890 => ?_))
              show Rn d _ _ 73 [some (.ref q0), some (.int m1), some (.int m2), some (.int m3), some (.int z_1885)] [] h_1890 Q
              refine Rn.n hT 1 (pc' := 75) (L' := [some (.ref q0), some (.int m1), some (.int m2), some (.int m3), some (.int z_1885)]) (st' := [.int z_1885]) rfl ?_
              obtain rfl := Option.some.inj e
              exact Rn.ret hT rfl rfl rfl (hq z_1885 h_1890 p_1885 R_1890)
          · rw [if_neg c_1884] at e
            refine Rn.bf hT rfl rfl rfl (decide_eq_false (fun z => c_1884 ((ti_le p3 L32_6).mp z))) ?_
            exact Rn.weak (ll_n (ll_n (ll_n (ll_n (ll_n ll_e))))) (RX11_brick_b30 hd hR hq e)
set_option maxRecDepth 10000 in
theorem hX11_lay : iv_Tb 150 tX11_lay := iv_tb_of (m := mX11_lay) rfl
set_option maxRecDepth 10000 in
theorem gX11_lay : PG.2 150 = some mX11_lay := iv_pi_of (t := tX11_lay) rfl (by decide)
def FX11_lay_b36 (N : Nat) (s : iv_M)   : Option (Int × iv_M) := (some ((-2), s))
set_option maxRecDepth 10000 in
set_option maxHeartbeats 4000000 in
theorem RX11_lay_b36 {d N nc Ls : Nat} {Xs : Nat → Int32} (hd : 2 ≤ d) {h : iv_H} {s : iv_M} (hR : Rep nc Ls Xs h s)   {r : Int × iv_M} {Q : Option Value → iv_H → Prop} (hq : ∀ (z : Int32) (h1 : iv_H), z.toInt = r.1 → Rep nc Ls Xs h1 r.2 → Q (some (.int z)) h1) (e : FX11_lay_b36 N s   = some r) : Rn d 150 (some .int) 36 [none, none, none, none] [] h Q := by
  have hT := hX11_lay
  unfold FX11_lay_b36 at e
  refine Rn.n hT 1 (pc' := 38) (L' := [none, none, none, none]) (st' := [.int (-2 : Int32)]) rfl ?_
  obtain rfl := Option.some.inj e
  exact Rn.ret hT rfl rfl rfl (hq (-2 : Int32) h L32_m2 hR)
def FX11_lay_b39 (N : Nat) (s : iv_M) (q0 : Nat) (x1 : Int) (x2 : Int)  : Option (Int × iv_M) := ((rd s ((s q0 4).toNat + 8) 5 x1).bind fun v_1898 => (if v_1898 = x2 then (some ((-2), s)) else ((wr s ((s q0 4).toNat + 8) 5 x1 x2).bind fun s_1900 => ((FX11_dayCame N s_1900 q0).bind fun s_1903 => (some (v_1898, s_1903))))))
set_option maxRecDepth 10000 in
set_option maxHeartbeats 4000000 in
theorem RX11_lay_b39 {d N nc Ls : Nat} {Xs : Nat → Int32} (hd : 2 ≤ d) {h : iv_H} {s : iv_M} (hR : Rep nc Ls Xs h s) {q0 : Nat} (t0 : T11 nc q0) {m1 : Int32} {x1 : Int} (p1 : m1.toInt = x1) {m2 : Int32} {x2 : Int} (p2 : m2.toInt = x2)  {r : Int × iv_M} {Q : Option Value → iv_H → Prop} (hq : ∀ (z : Int32) (h1 : iv_H), z.toInt = r.1 → Rep nc Ls Xs h1 r.2 → Q (some (.int z)) h1) (e : FX11_lay_b39 N s q0 x1 x2  = some r) : Rn d 150 (some .int) 39 [some (.ref q0), some (.int m1), some (.int m2), none] [] h Q := by
  have hT := hX11_lay
  unfold FX11_lay_b39 at e
  refine Rn.n hT 1 (pc' := 40) (L' := [some (.ref q0), some (.int m1), some (.int m2), none]) (st' := [.ref q0]) rfl ?_
  refine Rn.hp hT rfl rfl (gR_hp (rp_gP (k := 4) hR (T11_o t0) rfl (nn_114 hR t0))) ?_
  refine Rn.hp hT rfl rfl (gR_hp (rp_gR hR (T2_o (ty_114 hR t0)) rfl)) ?_
  refine Rn.n hT 1 (pc' := 47) (L' := [some (.ref q0), some (.int m1), some (.int m2), none]) (st' := [.int m1, .ref ((s q0 4).toNat + 8)]) rfl ?_
  obtain ⟨v_1898, e_1898, e⟩ := Option.bind_eq_some_iff.mp e
  obtain ⟨z_1898, g_1898, p_1898⟩ := rp_aI hR (T2_10 (ty_114 hR t0)) (T2_10l (ty_114 hR t0)) p1 e_1898
  refine Rn.hp hT rfl rfl (aI_hp g_1898) ?_
  refine Rn.n hT 3 (pc' := 51) (L' := [some (.ref q0), some (.int m1), some (.int m2), some (.int z_1898)]) (st' := [.int m2, .int z_1898]) rfl ?_
  by_cases c_1899 : v_1898 = x2
  · rw [if_pos c_1899] at e
    refine Rn.bf hT rfl rfl rfl (decide_eq_false (fun z => z ((ti_e p_1898 p2).mpr c_1899))) ?_
    refine Rn.n hT 1 (pc' := 56) (L' := [some (.ref q0), some (.int m1), some (.int m2), some (.int z_1898)]) (st' := [.int (-2 : Int32)]) rfl ?_
    obtain rfl := Option.some.inj e
    exact Rn.ret hT rfl rfl rfl (hq (-2 : Int32) h L32_m2 hR)
  · rw [if_neg c_1899] at e
    refine Rn.bt hT rfl rfl rfl (decide_eq_true (fun z => c_1899 ((ti_e p_1898 p2).mp z))) ?_
    refine Rn.n hT 1 (pc' := 58) (L' := [some (.ref q0), some (.int m1), some (.int m2), some (.int z_1898)]) (st' := [.ref q0]) rfl ?_
    refine Rn.hp hT rfl rfl (gR_hp (rp_gP (k := 4) hR (T11_o t0) rfl (nn_114 hR t0))) ?_
    refine Rn.hp hT rfl rfl (gR_hp (rp_gR hR (T2_o (ty_114 hR t0)) rfl)) ?_
    refine Rn.n hT 2 (pc' := 66) (L' := [some (.ref q0), some (.int m1), some (.int m2), some (.int z_1898)]) (st' := [.int m2, .int m1, .ref ((s q0 4).toNat + 8)]) rfl ?_
    obtain ⟨s_1900, e_1901, e⟩ := Option.bind_eq_some_iff.mp e
    obtain ⟨h_1900, g_1901, R_1900⟩ := rp_wI hR (T2_10 (ty_114 hR t0)) (T2_10l (ty_114 hR t0)) p1 p2 e_1901
    refine Rn.hp hT rfl rfl (wI_hp g_1901) ?_
    refine Rn.n hT 1 (pc' := 68) (L' := [some (.ref q0), some (.int m1), some (.int m2), some (.int z_1898)]) (st' := [.ref q0]) rfl ?_
    obtain ⟨s_1903, e_1902, e⟩ := Option.bind_eq_some_iff.mp e
    refine Rn.call hT rfl rfl rfl (Nat.le_of_ble_eq_true rfl) (rcv_v gX11_dayCame (by omega) (rp_ck R_1900 (T11_o t0))) (RX11_dayCame (by omega) R_1900 t0 e_1902 (fun h_1903 R_1903 => ?_))
    show Rn d _ _ 71 [some (.ref q0), some (.int m1), some (.int m2), some (.int z_1898)] [] h_1903 Q
    refine Rn.n hT 1 (pc' := 72) (L' := [some (.ref q0), some (.int m1), some (.int m2), some (.int z_1898)]) (st' := [.int z_1898]) rfl ?_
    obtain rfl := Option.some.inj e
    exact Rn.ret hT rfl rfl rfl (hq z_1898 h_1903 p_1898 R_1903)
def FX11_lay (N : Nat) (s : iv_M) (q0 : Nat) (x1 : Int) (x2 : Int) : Option (Int × iv_M) := (if (s ((s q0 4).toNat) 0) = 0 then (FX11_lay_b36 N s) else (if x1 < 1 then (FX11_lay_b36 N s) else (if 4 < x1 then (FX11_lay_b36 N s) else (if x2 = (-1) then (FX11_lay_b39 N s q0 x1 x2) else ((FX2_isRoom N s ((s q0 4).toNat) x2).bind fun v_1896 => (if v_1896 = 0 then (FX11_lay_b36 N s) else (FX11_lay_b39 N s q0 x1 x2)))))))
set_option maxRecDepth 10000 in
set_option maxHeartbeats 4000000 in
theorem RX11_lay {d N nc Ls : Nat} {Xs : Nat → Int32} (hd : 3 ≤ d) {h : iv_H} {s : iv_M} (hR : Rep nc Ls Xs h s) {q0 : Nat} (t0 : T11 nc q0) {m1 : Int32} {x1 : Int} (p1 : m1.toInt = x1) {m2 : Int32} {x2 : Int} (p2 : m2.toInt = x2) {r : Int × iv_M} {Q : Option Value → iv_H → Prop} (e : FX11_lay N s q0 x1 x2 = some r) (hq : ∀ (z : Int32) (h1 : iv_H), z.toInt = r.1 → Rep nc Ls Xs h1 r.2 → Q (some (.int z)) h1) : Cl d 150 [.ref q0, .int m1, .int m2] h Q := by
  obtain ⟨d, rfl⟩ : ∃ k, d = k + 1 := ⟨d - 1, by omega⟩
  have hd : 2 ≤ d := by omega
  have hT := hX11_lay
  unfold FX11_lay at e
  refine Cl.into (by decide) gX11_lay rfl ?_
  show Rn d 150 (some .int) 0 [some (.ref q0), some (.int m1), some (.int m2), none] [] h Q
  refine Rn.n hT 1 (pc' := 1) (L' := [some (.ref q0), some (.int m1), some (.int m2), none]) (st' := [.ref q0]) rfl ?_
  refine Rn.hp hT rfl rfl (gR_hp (rp_gP (k := 4) hR (T11_o t0) rfl (nn_114 hR t0))) ?_
  obtain ⟨z_1891, g_1891, p_1891⟩ : ∃ z : Int32, gI h 2 0 ((s q0 4).toNat) = some z ∧ z.toInt = s ((s q0 4).toNat) 0 := rp_gI (k := 0) hR (T2_o (ty_114 hR t0)) rfl
  refine Rn.hp hT rfl rfl (gI_hp g_1891) ?_
  by_cases c_1892 : (s ((s q0 4).toNat) 0) = 0
  · rw [if_pos c_1892] at e
    refine Rn.bt hT rfl rfl rfl (decide_eq_true ((ti_e p_1891 L32_0).mpr c_1892)) ?_
    exact Rn.weak (ll_n (ll_n (ll_n (ll_n ll_e)))) (RX11_lay_b36 hd hR hq e)
  · rw [if_neg c_1892] at e
    refine Rn.bf hT rfl rfl rfl (decide_eq_false (fun z => c_1892 ((ti_e p_1891 L32_0).mp z))) ?_
    refine Rn.n hT 2 (pc' := 12) (L' := [some (.ref q0), some (.int m1), some (.int m2), none]) (st' := [.int (1 : Int32), .int m1]) rfl ?_
    by_cases c_1893 : x1 < 1
    · rw [if_pos c_1893] at e
      refine Rn.bt hT rfl rfl rfl (decide_eq_true ((ti_l p1 L32_1).mpr c_1893)) ?_
      exact Rn.weak (ll_n (ll_n (ll_n (ll_n ll_e)))) (RX11_lay_b36 hd hR hq e)
    · rw [if_neg c_1893] at e
      refine Rn.bf hT rfl rfl rfl (decide_eq_false (fun z => c_1893 ((ti_l p1 L32_1).mp z))) ?_
      refine Rn.n hT 2 (pc' := 17) (L' := [some (.ref q0), some (.int m1), some (.int m2), none]) (st' := [.int (4 : Int32), .int m1]) rfl ?_
      by_cases c_1894 : 4 < x1
      · rw [if_pos c_1894] at e
        refine Rn.bt hT rfl rfl rfl (decide_eq_true ((ti_l L32_4 p1).mpr c_1894)) ?_
        exact Rn.weak (ll_n (ll_n (ll_n (ll_n ll_e)))) (RX11_lay_b36 hd hR hq e)
      · rw [if_neg c_1894] at e
        refine Rn.bf hT rfl rfl rfl (decide_eq_false (fun z => c_1894 ((ti_l L32_4 p1).mp z))) ?_
        refine Rn.n hT 2 (pc' := 22) (L' := [some (.ref q0), some (.int m1), some (.int m2), none]) (st' := [.int (-1 : Int32), .int m2]) rfl ?_
        by_cases c_1895 : x2 = (-1)
        · rw [if_pos c_1895] at e
          refine Rn.bt hT rfl rfl rfl (decide_eq_true ((ti_e p2 L32_m1).mpr c_1895)) ?_
          exact Rn.weak (ll_s (ll_s (ll_s (ll_n ll_e)))) (RX11_lay_b39 hd hR t0 p1 p2 hq e)
        · rw [if_neg c_1895] at e
          refine Rn.bf hT rfl rfl rfl (decide_eq_false (fun z => c_1895 ((ti_e p2 L32_m1).mp z))) ?_
          refine Rn.n hT 1 (pc' := 26) (L' := [some (.ref q0), some (.int m1), some (.int m2), none]) (st' := [.ref q0]) rfl ?_
          refine Rn.hp hT rfl rfl (gR_hp (rp_gP (k := 4) hR (T11_o t0) rfl (nn_114 hR t0))) ?_
          refine Rn.n hT 1 (pc' := 30) (L' := [some (.ref q0), some (.int m1), some (.int m2), none]) (st' := [.int m2, .ref ((s q0 4).toNat)]) rfl ?_
          obtain ⟨v_1896, e_1896, e⟩ := Option.bind_eq_some_iff.mp e
          refine Rn.call hT rfl rfl rfl (Nat.le_of_ble_eq_true rfl) (rcv_v gX2_isRoom (by omega) (rp_ck hR (T2_o (ty_114 hR t0)))) (RX2_isRoom (by omega) hR (ty_114 hR t0) p2 e_1896 (fun z_1896 p_1896 => ?_))
          show Rn d _ _ 33 [some (.ref q0), some (.int m1), some (.int m2), none] [.int z_1896] h Q
          by_cases c_1897 : v_1896 = 0
          · rw [if_pos c_1897] at e
            refine Rn.bf hT rfl rfl rfl (decide_eq_false (fun z => z ((ti_e p_1896 L32_0).mpr c_1897))) ?_
            exact Rn.weak (ll_n (ll_n (ll_n (ll_n ll_e)))) (RX11_lay_b36 hd hR hq e)
          · rw [if_neg c_1897] at e
            refine Rn.bt hT rfl rfl rfl (decide_eq_true (fun z => c_1897 ((ti_e p_1896 L32_0).mp z))) ?_
            exact Rn.weak (ll_s (ll_s (ll_s (ll_n ll_e)))) (RX11_lay_b39 hd hR t0 p1 p2 hq e)
set_option maxRecDepth 10000 in
theorem hX11_bed : iv_Tb 151 tX11_bed := iv_tb_of (m := mX11_bed) rfl
set_option maxRecDepth 10000 in
theorem gX11_bed : PG.2 151 = some mX11_bed := iv_pi_of (t := tX11_bed) rfl (by decide)
def FX11_bed_b35 (N : Nat) (s : iv_M)   : Option (Int × iv_M) := (some ((-2), s))
set_option maxRecDepth 10000 in
set_option maxHeartbeats 4000000 in
theorem RX11_bed_b35 {d N nc Ls : Nat} {Xs : Nat → Int32} (hd : 2 ≤ d) {h : iv_H} {s : iv_M} (hR : Rep nc Ls Xs h s)   {r : Int × iv_M} {Q : Option Value → iv_H → Prop} (hq : ∀ (z : Int32) (h1 : iv_H), z.toInt = r.1 → Rep nc Ls Xs h1 r.2 → Q (some (.int z)) h1) (e : FX11_bed_b35 N s   = some r) : Rn d 151 (some .int) 35 [none, none, none, none] [] h Q := by
  have hT := hX11_bed
  unfold FX11_bed_b35 at e
  refine Rn.n hT 1 (pc' := 37) (L' := [none, none, none, none]) (st' := [.int (-2 : Int32)]) rfl ?_
  obtain rfl := Option.some.inj e
  exact Rn.ret hT rfl rfl rfl (hq (-2 : Int32) h L32_m2 hR)
def FX11_bed (N : Nat) (s : iv_M) (q0 : Nat) (x1 : Int) (x2 : Int) : Option (Int × iv_M) := ((FX2_isPerson N s ((s q0 4).toNat) x1).bind fun v_1904 => (if v_1904 = 0 then (FX11_bed_b35 N s) else ((FX2_isRoom N s ((s q0 4).toNat) x2).bind fun v_1906 => (if v_1906 = 0 then (FX11_bed_b35 N s) else ((rd s ((s q0 4).toNat + 9) 6 x1).bind fun v_1908 => (if v_1908 = x2 then (FX11_bed_b35 N s) else ((rd s ((s q0 4).toNat + 9) 6 x1).bind fun v_1910 => ((wr s ((s q0 4).toNat + 9) 6 x1 x2).bind fun s_1911 => ((FX11_dayCame N s_1911 q0).bind fun s_1914 => (some (v_1910, s_1914)))))))))))
set_option maxRecDepth 10000 in
set_option maxHeartbeats 4000000 in
theorem RX11_bed {d N nc Ls : Nat} {Xs : Nat → Int32} (hd : 3 ≤ d) {h : iv_H} {s : iv_M} (hR : Rep nc Ls Xs h s) {q0 : Nat} (t0 : T11 nc q0) {m1 : Int32} {x1 : Int} (p1 : m1.toInt = x1) {m2 : Int32} {x2 : Int} (p2 : m2.toInt = x2) {r : Int × iv_M} {Q : Option Value → iv_H → Prop} (e : FX11_bed N s q0 x1 x2 = some r) (hq : ∀ (z : Int32) (h1 : iv_H), z.toInt = r.1 → Rep nc Ls Xs h1 r.2 → Q (some (.int z)) h1) : Cl d 151 [.ref q0, .int m1, .int m2] h Q := by
  obtain ⟨d, rfl⟩ : ∃ k, d = k + 1 := ⟨d - 1, by omega⟩
  have hd : 2 ≤ d := by omega
  have hT := hX11_bed
  unfold FX11_bed at e
  refine Cl.into (by decide) gX11_bed rfl ?_
  show Rn d 151 (some .int) 0 [some (.ref q0), some (.int m1), some (.int m2), none] [] h Q
  refine Rn.n hT 1 (pc' := 1) (L' := [some (.ref q0), some (.int m1), some (.int m2), none]) (st' := [.ref q0]) rfl ?_
  refine Rn.hp hT rfl rfl (gR_hp (rp_gP (k := 4) hR (T11_o t0) rfl (nn_114 hR t0))) ?_
  refine Rn.n hT 1 (pc' := 5) (L' := [some (.ref q0), some (.int m1), some (.int m2), none]) (st' := [.int m1, .ref ((s q0 4).toNat)]) rfl ?_
  obtain ⟨v_1904, e_1904, e⟩ := Option.bind_eq_some_iff.mp e
  refine Rn.call hT rfl rfl rfl (Nat.le_of_ble_eq_true rfl) (rcv_v gX2_isPerson (by omega) (rp_ck hR (T2_o (ty_114 hR t0)))) (RX2_isPerson (by omega) hR (ty_114 hR t0) p1 e_1904 (fun z_1904 p_1904 => ?_))
  show Rn d _ _ 8 [some (.ref q0), some (.int m1), some (.int m2), none] [.int z_1904] h Q
  by_cases c_1905 : v_1904 = 0
  · rw [if_pos c_1905] at e
    refine Rn.bt hT rfl rfl rfl (decide_eq_true ((ti_e p_1904 L32_0).mpr c_1905)) ?_
    exact Rn.weak (ll_n (ll_n (ll_n (ll_n ll_e)))) (RX11_bed_b35 hd hR hq e)
  · rw [if_neg c_1905] at e
    refine Rn.bf hT rfl rfl rfl (decide_eq_false (fun z => c_1905 ((ti_e p_1904 L32_0).mp z))) ?_
    refine Rn.n hT 1 (pc' := 12) (L' := [some (.ref q0), some (.int m1), some (.int m2), none]) (st' := [.ref q0]) rfl ?_
    refine Rn.hp hT rfl rfl (gR_hp (rp_gP (k := 4) hR (T11_o t0) rfl (nn_114 hR t0))) ?_
    refine Rn.n hT 1 (pc' := 16) (L' := [some (.ref q0), some (.int m1), some (.int m2), none]) (st' := [.int m2, .ref ((s q0 4).toNat)]) rfl ?_
    obtain ⟨v_1906, e_1906, e⟩ := Option.bind_eq_some_iff.mp e
    refine Rn.call hT rfl rfl rfl (Nat.le_of_ble_eq_true rfl) (rcv_v gX2_isRoom (by omega) (rp_ck hR (T2_o (ty_114 hR t0)))) (RX2_isRoom (by omega) hR (ty_114 hR t0) p2 e_1906 (fun z_1906 p_1906 => ?_))
    show Rn d _ _ 19 [some (.ref q0), some (.int m1), some (.int m2), none] [.int z_1906] h Q
    by_cases c_1907 : v_1906 = 0
    · rw [if_pos c_1907] at e
      refine Rn.bt hT rfl rfl rfl (decide_eq_true ((ti_e p_1906 L32_0).mpr c_1907)) ?_
      exact Rn.weak (ll_n (ll_n (ll_n (ll_n ll_e)))) (RX11_bed_b35 hd hR hq e)
    · rw [if_neg c_1907] at e
      refine Rn.bf hT rfl rfl rfl (decide_eq_false (fun z => c_1907 ((ti_e p_1906 L32_0).mp z))) ?_
      refine Rn.n hT 1 (pc' := 23) (L' := [some (.ref q0), some (.int m1), some (.int m2), none]) (st' := [.ref q0]) rfl ?_
      refine Rn.hp hT rfl rfl (gR_hp (rp_gP (k := 4) hR (T11_o t0) rfl (nn_114 hR t0))) ?_
      refine Rn.hp hT rfl rfl (gR_hp (rp_gR hR (T2_o (ty_114 hR t0)) rfl)) ?_
      refine Rn.n hT 1 (pc' := 30) (L' := [some (.ref q0), some (.int m1), some (.int m2), none]) (st' := [.int m1, .ref ((s q0 4).toNat + 9)]) rfl ?_
      obtain ⟨v_1908, e_1908, e⟩ := Option.bind_eq_some_iff.mp e
      obtain ⟨z_1908, g_1908, p_1908⟩ := rp_aI hR (T2_11 (ty_114 hR t0)) (T2_11l (ty_114 hR t0)) p1 e_1908
      refine Rn.hp hT rfl rfl (aI_hp g_1908) ?_
      refine Rn.n hT 1 (pc' := 32) (L' := [some (.ref q0), some (.int m1), some (.int m2), none]) (st' := [.int m2, .int z_1908]) rfl ?_
      by_cases c_1909 : v_1908 = x2
      · rw [if_pos c_1909] at e
        refine Rn.bf hT rfl rfl rfl (decide_eq_false (fun z => z ((ti_e p_1908 p2).mpr c_1909))) ?_
        exact Rn.weak (ll_n (ll_n (ll_n (ll_n ll_e)))) (RX11_bed_b35 hd hR hq e)
      · rw [if_neg c_1909] at e
        refine Rn.bt hT rfl rfl rfl (decide_eq_true (fun z => c_1909 ((ti_e p_1908 p2).mp z))) ?_
        refine Rn.n hT 1 (pc' := 39) (L' := [some (.ref q0), some (.int m1), some (.int m2), none]) (st' := [.ref q0]) rfl ?_
        refine Rn.hp hT rfl rfl (gR_hp (rp_gP (k := 4) hR (T11_o t0) rfl (nn_114 hR t0))) ?_
        refine Rn.hp hT rfl rfl (gR_hp (rp_gR hR (T2_o (ty_114 hR t0)) rfl)) ?_
        refine Rn.n hT 1 (pc' := 46) (L' := [some (.ref q0), some (.int m1), some (.int m2), none]) (st' := [.int m1, .ref ((s q0 4).toNat + 9)]) rfl ?_
        obtain ⟨v_1910, e_1910, e⟩ := Option.bind_eq_some_iff.mp e
        obtain ⟨z_1910, g_1910, p_1910⟩ := rp_aI hR (T2_11 (ty_114 hR t0)) (T2_11l (ty_114 hR t0)) p1 e_1910
        refine Rn.hp hT rfl rfl (aI_hp g_1910) ?_
        refine Rn.n hT 2 (pc' := 49) (L' := [some (.ref q0), some (.int m1), some (.int m2), some (.int z_1910)]) (st' := [.ref q0]) rfl ?_
        refine Rn.hp hT rfl rfl (gR_hp (rp_gP (k := 4) hR (T11_o t0) rfl (nn_114 hR t0))) ?_
        refine Rn.hp hT rfl rfl (gR_hp (rp_gR hR (T2_o (ty_114 hR t0)) rfl)) ?_
        refine Rn.n hT 2 (pc' := 57) (L' := [some (.ref q0), some (.int m1), some (.int m2), some (.int z_1910)]) (st' := [.int m2, .int m1, .ref ((s q0 4).toNat + 9)]) rfl ?_
        obtain ⟨s_1911, e_1912, e⟩ := Option.bind_eq_some_iff.mp e
        obtain ⟨h_1911, g_1912, R_1911⟩ := rp_wI hR (T2_11 (ty_114 hR t0)) (T2_11l (ty_114 hR t0)) p1 p2 e_1912
        refine Rn.hp hT rfl rfl (wI_hp g_1912) ?_
        refine Rn.n hT 1 (pc' := 59) (L' := [some (.ref q0), some (.int m1), some (.int m2), some (.int z_1910)]) (st' := [.ref q0]) rfl ?_
        obtain ⟨s_1914, e_1913, e⟩ := Option.bind_eq_some_iff.mp e
        refine Rn.call hT rfl rfl rfl (Nat.le_of_ble_eq_true rfl) (rcv_v gX11_dayCame (by omega) (rp_ck R_1911 (T11_o t0))) (RX11_dayCame (by omega) R_1911 t0 e_1913 (fun h_1914 R_1914 => ?_))
        show Rn d _ _ 62 [some (.ref q0), some (.int m1), some (.int m2), some (.int z_1910)] [] h_1914 Q
        refine Rn.n hT 1 (pc' := 63) (L' := [some (.ref q0), some (.int m1), some (.int m2), some (.int z_1910)]) (st' := [.int z_1910]) rfl ?_
        obtain rfl := Option.some.inj e
        exact Rn.ret hT rfl rfl rfl (hq z_1910 h_1914 p_1910 R_1914)
set_option maxRecDepth 10000 in
theorem hX11_fix : iv_Tb 152 tX11_fix := iv_tb_of (m := mX11_fix) rfl
set_option maxRecDepth 10000 in
theorem gX11_fix : PG.2 152 = some mX11_fix := iv_pi_of (t := tX11_fix) rfl (by decide)
def FX11_fix_b23 (N : Nat) (s : iv_M)   : Option (Int × iv_M) := (some (0, s))
set_option maxRecDepth 10000 in
set_option maxHeartbeats 4000000 in
theorem RX11_fix_b23 {d N nc Ls : Nat} {Xs : Nat → Int32} (hd : 2 ≤ d) {h : iv_H} {s : iv_M} (hR : Rep nc Ls Xs h s)   {r : Int × iv_M} {Q : Option Value → iv_H → Prop} (hq : ∀ (z : Int32) (h1 : iv_H), z.toInt = r.1 → Rep nc Ls Xs h1 r.2 → Q (some (.int z)) h1) (e : FX11_fix_b23 N s   = some r) : Rn d 152 (some .boolean) 23 [none, none, none] [] h Q := by
  have hT := hX11_fix
  unfold FX11_fix_b23 at e
  refine Rn.n hT 1 (pc' := 24) (L' := [none, none, none]) (st' := [.int (0 : Int32)]) rfl ?_
  obtain rfl := Option.some.inj e
  exact Rn.ret hT rfl rfl rfl (hq (0 : Int32) h L32_0 hR)
def FX11_fix (N : Nat) (s : iv_M) (q0 : Nat) (x1 : Int) (x2 : Int) : Option (Int × iv_M) := ((FX2_isRoom N s ((s q0 4).toNat) x1).bind fun v_1915 => (if v_1915 = 0 then (FX11_fix_b23 N s) else ((FX2_isFixed N s ((s q0 4).toNat) x1).bind fun v_1917 => (if v_1917 = x2 then (FX11_fix_b23 N s) else ((pt s ((s q0 4).toNat) 3 (bXo (s ((s q0 4).toNat) 3) (sl32 1 x1))).bind fun s_1920 => ((FX11_dayCame N s_1920 q0).bind fun s_1923 => (some (1, s_1923))))))))
set_option maxRecDepth 10000 in
set_option maxHeartbeats 4000000 in
theorem RX11_fix {d N nc Ls : Nat} {Xs : Nat → Int32} (hd : 3 ≤ d) {h : iv_H} {s : iv_M} (hR : Rep nc Ls Xs h s) {q0 : Nat} (t0 : T11 nc q0) {m1 : Int32} {x1 : Int} (p1 : m1.toInt = x1) {m2 : Int32} {x2 : Int} (p2 : m2.toInt = x2) {r : Int × iv_M} {Q : Option Value → iv_H → Prop} (e : FX11_fix N s q0 x1 x2 = some r) (hq : ∀ (z : Int32) (h1 : iv_H), z.toInt = r.1 → Rep nc Ls Xs h1 r.2 → Q (some (.int z)) h1) : Cl d 152 [.ref q0, .int m1, .int m2] h Q := by
  obtain ⟨d, rfl⟩ : ∃ k, d = k + 1 := ⟨d - 1, by omega⟩
  have hd : 2 ≤ d := by omega
  have hT := hX11_fix
  unfold FX11_fix at e
  refine Cl.into (by decide) gX11_fix rfl ?_
  show Rn d 152 (some .boolean) 0 [some (.ref q0), some (.int m1), some (.int m2)] [] h Q
  refine Rn.n hT 1 (pc' := 1) (L' := [some (.ref q0), some (.int m1), some (.int m2)]) (st' := [.ref q0]) rfl ?_
  refine Rn.hp hT rfl rfl (gR_hp (rp_gP (k := 4) hR (T11_o t0) rfl (nn_114 hR t0))) ?_
  refine Rn.n hT 1 (pc' := 5) (L' := [some (.ref q0), some (.int m1), some (.int m2)]) (st' := [.int m1, .ref ((s q0 4).toNat)]) rfl ?_
  obtain ⟨v_1915, e_1915, e⟩ := Option.bind_eq_some_iff.mp e
  refine Rn.call hT rfl rfl rfl (Nat.le_of_ble_eq_true rfl) (rcv_v gX2_isRoom (by omega) (rp_ck hR (T2_o (ty_114 hR t0)))) (RX2_isRoom (by omega) hR (ty_114 hR t0) p1 e_1915 (fun z_1915 p_1915 => ?_))
  show Rn d _ _ 8 [some (.ref q0), some (.int m1), some (.int m2)] [.int z_1915] h Q
  by_cases c_1916 : v_1915 = 0
  · rw [if_pos c_1916] at e
    refine Rn.bt hT rfl rfl rfl (decide_eq_true ((ti_e p_1915 L32_0).mpr c_1916)) ?_
    exact Rn.weak (ll_n (ll_n (ll_n ll_e))) (RX11_fix_b23 hd hR hq e)
  · rw [if_neg c_1916] at e
    refine Rn.bf hT rfl rfl rfl (decide_eq_false (fun z => c_1916 ((ti_e p_1915 L32_0).mp z))) ?_
    refine Rn.n hT 1 (pc' := 12) (L' := [some (.ref q0), some (.int m1), some (.int m2)]) (st' := [.ref q0]) rfl ?_
    refine Rn.hp hT rfl rfl (gR_hp (rp_gP (k := 4) hR (T11_o t0) rfl (nn_114 hR t0))) ?_
    refine Rn.n hT 1 (pc' := 16) (L' := [some (.ref q0), some (.int m1), some (.int m2)]) (st' := [.int m1, .ref ((s q0 4).toNat)]) rfl ?_
    obtain ⟨v_1917, e_1917, e⟩ := Option.bind_eq_some_iff.mp e
    refine Rn.call hT rfl rfl rfl (Nat.le_of_ble_eq_true rfl) (rcv_v gX2_isFixed (by omega) (rp_ck hR (T2_o (ty_114 hR t0)))) (RX2_isFixed (by omega) hR (ty_114 hR t0) p1 e_1917 (fun z_1917 p_1917 => ?_))
    show Rn d _ _ 19 [some (.ref q0), some (.int m1), some (.int m2)] [.int z_1917] h Q
    refine Rn.n hT 1 (pc' := 20) (L' := [some (.ref q0), some (.int m1), some (.int m2)]) (st' := [.int m2, .int z_1917]) rfl ?_
    by_cases c_1918 : v_1917 = x2
    · rw [if_pos c_1918] at e
      refine Rn.bf hT rfl rfl rfl (decide_eq_false (fun z => z ((ti_e p_1917 p2).mpr c_1918))) ?_
      exact Rn.weak (ll_n (ll_n (ll_n ll_e))) (RX11_fix_b23 hd hR hq e)
    · rw [if_neg c_1918] at e
      refine Rn.bt hT rfl rfl rfl (decide_eq_true (fun z => c_1918 ((ti_e p_1917 p2).mp z))) ?_
      refine Rn.n hT 1 (pc' := 26) (L' := [some (.ref q0), some (.int m1), some (.int m2)]) (st' := [.ref q0]) rfl ?_
      refine Rn.hp hT rfl rfl (gR_hp (rp_gP (k := 4) hR (T11_o t0) rfl (nn_114 hR t0))) ?_
      refine Rn.n hT 1 (pc' := 30) (L' := [some (.ref q0), some (.int m1), some (.int m2)]) (st' := [.ref ((s q0 4).toNat), .ref ((s q0 4).toNat)]) rfl ?_
      obtain ⟨z_1919, g_1919, p_1919⟩ : ∃ z : Int32, gI h 2 3 ((s q0 4).toNat) = some z ∧ z.toInt = s ((s q0 4).toNat) 3 := rp_gI (k := 3) hR (T2_o (ty_114 hR t0)) rfl
      refine Rn.hp hT rfl rfl (gI_hp g_1919) ?_
      refine Rn.n hT 4 (pc' := 37) (L' := [some (.ref q0), some (.int m1), some (.int m2)]) (st' := [.int (z_1919 ^^^ ((1 : Int32) <<< (m1 &&& 31))), .ref ((s q0 4).toNat)]) rfl ?_
      obtain ⟨s_1920, e_1921, e⟩ := Option.bind_eq_some_iff.mp e
      obtain ⟨h_1920, g_1921, R_1920⟩ := rp_pI (ci := 2) (k := 3) hR (T2_o (ty_114 hR t0)) rfl rfl (ti_xor p_1919 (ti_shl L32_1 p1)) e_1921
      refine Rn.hp hT rfl rfl (pV_hp rfl g_1921) ?_
      refine Rn.n hT 1 (pc' := 41) (L' := [some (.ref q0), some (.int m1), some (.int m2)]) (st' := [.ref q0]) rfl ?_
      obtain ⟨s_1923, e_1922, e⟩ := Option.bind_eq_some_iff.mp e
      refine Rn.call hT rfl rfl rfl (Nat.le_of_ble_eq_true rfl) (rcv_v gX11_dayCame (by omega) (rp_ck R_1920 (T11_o t0))) (RX11_dayCame (by omega) R_1920 t0 e_1922 (fun h_1923 R_1923 => ?_))
      show Rn d _ _ 44 [some (.ref q0), some (.int m1), some (.int m2)] [] h_1923 Q
      refine Rn.n hT 1 (pc' := 45) (L' := [some (.ref q0), some (.int m1), some (.int m2)]) (st' := [.int (1 : Int32)]) rfl ?_
      obtain rfl := Option.some.inj e
      exact Rn.ret hT rfl rfl rfl (hq (1 : Int32) h_1923 L32_1 R_1923)
set_option maxRecDepth 10000 in
theorem hX11_nightComes : iv_Tb 155 tX11_nightComes := iv_tb_of (m := mX11_nightComes) rfl
set_option maxRecDepth 10000 in
theorem gX11_nightComes : PG.2 155 = some mX11_nightComes := iv_pi_of (t := tX11_nightComes) rfl (by decide)
def FX11_nightComes_b23 (N : Nat) (s : iv_M) (q0 : Nat)  : Option (iv_M) := ((pt s ((s q0 4).toNat) 6 (w32 ((s ((s q0 4).toNat) 6) + 1))).bind fun s_1930 => ((pt s_1930 q0 15 (w32 ((s_1930 q0 15) + 1))).bind fun s_1933 => some s_1933))
set_option maxRecDepth 10000 in
set_option maxHeartbeats 4000000 in
theorem RX11_nightComes_b23 {d N nc Ls : Nat} {Xs : Nat → Int32} (hd : 3 ≤ d) {h : iv_H} {s : iv_M} (hR : Rep nc Ls Xs h s) {q0 : Nat} (t0 : T11 nc q0)  {r : iv_M} {Q : Option Value → iv_H → Prop} (hq : ∀ h1, Rep nc Ls Xs h1 r → Q none h1) (e : FX11_nightComes_b23 N s q0  = some r) : Rn d 155 none 23 [some (.ref q0), none] [] h Q := by
  have hT := hX11_nightComes
  unfold FX11_nightComes_b23 at e
  refine Rn.n hT 1 (pc' := 24) (L' := [some (.ref q0), none]) (st' := [.ref q0]) rfl ?_
  refine Rn.hp hT rfl rfl (gR_hp (rp_gP (k := 4) hR (T11_o t0) rfl (nn_114 hR t0))) ?_
  refine Rn.n hT 1 (pc' := 28) (L' := [some (.ref q0), none]) (st' := [.ref ((s q0 4).toNat), .ref ((s q0 4).toNat)]) rfl ?_
  obtain ⟨z_1929, g_1929, p_1929⟩ : ∃ z : Int32, gI h 2 6 ((s q0 4).toNat) = some z ∧ z.toInt = s ((s q0 4).toNat) 6 := rp_gI (k := 6) hR (T2_o (ty_114 hR t0)) rfl
  refine Rn.hp hT rfl rfl (gI_hp g_1929) ?_
  refine Rn.n hT 2 (pc' := 33) (L' := [some (.ref q0), none]) (st' := [.int (z_1929 + (1 : Int32)), .ref ((s q0 4).toNat)]) rfl ?_
  obtain ⟨s_1930, e_1931, e⟩ := Option.bind_eq_some_iff.mp e
  obtain ⟨h_1930, g_1931, R_1930⟩ := rp_pI (ci := 2) (k := 6) hR (T2_o (ty_114 hR t0)) rfl rfl (ti_add p_1929 L32_1) e_1931
  refine Rn.hp hT rfl rfl (pV_hp rfl g_1931) ?_
  refine Rn.n hT 2 (pc' := 38) (L' := [some (.ref q0), none]) (st' := [.ref q0, .ref q0]) rfl ?_
  obtain ⟨z_1932, g_1932, p_1932⟩ : ∃ z : Int32, gI h_1930 11 15 q0 = some z ∧ z.toInt = s_1930 q0 15 := rp_gI (k := 15) R_1930 (T11_o t0) rfl
  refine Rn.hp hT rfl rfl (gI_hp g_1932) ?_
  refine Rn.n hT 2 (pc' := 43) (L' := [some (.ref q0), none]) (st' := [.int (z_1932 + (1 : Int32)), .ref q0]) rfl ?_
  obtain ⟨s_1933, e_1934, e⟩ := Option.bind_eq_some_iff.mp e
  obtain ⟨h_1933, g_1934, R_1933⟩ := rp_pI (ci := 11) (k := 15) R_1930 (T11_o t0) rfl rfl (ti_add p_1932 L32_1) e_1934
  refine Rn.hp hT rfl rfl (pV_hp rfl g_1934) ?_
  obtain rfl := Option.some.inj e
  exact Rn.ret hT rfl rfl rfl (hq h_1933 R_1933)
def FX11_nightComes (N : Nat) (s : iv_M) (q0 : Nat) (x1 : Int) : Option (iv_M) := ((FX2_keepPast N s ((s q0 4).toNat)).bind fun s_1925 => (if x1 = (-1) then (FX11_nightComes_b23 N s_1925 q0) else ((FX1_go N s_1925 ((s_1925 q0 4).toNat + 1) x1).bind fun s_1928 => (FX11_nightComes_b23 N s_1928 q0))))
set_option maxRecDepth 10000 in
set_option maxHeartbeats 4000000 in
theorem RX11_nightComes {d N nc Ls : Nat} {Xs : Nat → Int32} (hd : 4 ≤ d) {h : iv_H} {s : iv_M} (hR : Rep nc Ls Xs h s) {q0 : Nat} (t0 : T11 nc q0) {m1 : Int32} {x1 : Int} (p1 : m1.toInt = x1) {r : iv_M} {Q : Option Value → iv_H → Prop} (e : FX11_nightComes N s q0 x1 = some r) (hq : ∀ h1, Rep nc Ls Xs h1 r → Q none h1) : Cl d 155 [.ref q0, .int m1] h Q := by
  obtain ⟨d, rfl⟩ : ∃ k, d = k + 1 := ⟨d - 1, by omega⟩
  have hd : 3 ≤ d := by omega
  have hT := hX11_nightComes
  unfold FX11_nightComes at e
  refine Cl.into (by decide) gX11_nightComes rfl ?_
  show Rn d 155 none 0 [some (.ref q0), some (.int m1)] [] h Q
  refine Rn.n hT 1 (pc' := 1) (L' := [some (.ref q0), some (.int m1)]) (st' := [.ref q0]) rfl ?_
  refine Rn.hp hT rfl rfl (gR_hp (rp_gP (k := 4) hR (T11_o t0) rfl (nn_114 hR t0))) ?_
  obtain ⟨s_1925, e_1924, e⟩ := Option.bind_eq_some_iff.mp e
  refine Rn.call hT rfl rfl rfl (Nat.le_of_ble_eq_true rfl) (rcv_v gX2_keepPast (by omega) (rp_ck hR (T2_o (ty_114 hR t0)))) (RX2_keepPast (by omega) hR (ty_114 hR t0) e_1924 (fun h_1925 R_1925 => ?_))
  show Rn d _ _ 7 [some (.ref q0), some (.int m1)] [] h_1925 Q
  refine Rn.n hT 2 (pc' := 9) (L' := [some (.ref q0), some (.int m1)]) (st' := [.int (-1 : Int32), .int m1]) rfl ?_
  by_cases c_1926 : x1 = (-1)
  · rw [if_pos c_1926] at e
    refine Rn.bt hT rfl rfl rfl (decide_eq_true ((ti_e p1 L32_m1).mpr c_1926)) ?_
    exact Rn.weak (ll_s (ll_n ll_e)) (RX11_nightComes_b23 hd R_1925 t0 hq e)
  · rw [if_neg c_1926] at e
    refine Rn.bf hT rfl rfl rfl (decide_eq_false (fun z => c_1926 ((ti_e p1 L32_m1).mp z))) ?_
    refine Rn.n hT 1 (pc' := 13) (L' := [some (.ref q0), some (.int m1)]) (st' := [.ref q0]) rfl ?_
    refine Rn.hp hT rfl rfl (gR_hp (rp_gP (k := 4) R_1925 (T11_o t0) rfl (nn_114 R_1925 t0))) ?_
    refine Rn.hp hT rfl rfl (gR_hp (rp_gR R_1925 (T2_o (ty_114 R_1925 t0)) rfl)) ?_
    refine Rn.n hT 1 (pc' := 20) (L' := [some (.ref q0), some (.int m1)]) (st' := [.int m1, .ref ((s_1925 q0 4).toNat + 1)]) rfl ?_
    obtain ⟨s_1928, e_1927, e⟩ := Option.bind_eq_some_iff.mp e
    refine Rn.call hT rfl rfl rfl (Nat.le_of_ble_eq_true rfl) (rcv_v gX1_go (by omega) (rp_ck R_1925 (T1_o (T2_9 (ty_114 R_1925 t0))))) (RX1_go (by omega) R_1925 (T2_9 (ty_114 R_1925 t0)) p1 e_1927 (fun h_1928 R_1928 => ?_))
    show Rn d _ _ 23 [some (.ref q0), some (.int m1)] [] h_1928 Q
    exact Rn.weak (ll_s (ll_n ll_e)) (RX11_nightComes_b23 hd R_1928 t0 hq e)
set_option maxRecDepth 10000 in
theorem hX11_walk : iv_Tb 153 tX11_walk := iv_tb_of (m := mX11_walk) rfl
set_option maxRecDepth 10000 in
theorem gX11_walk : PG.2 153 = some mX11_walk := iv_pi_of (t := tX11_walk) rfl (by decide)
def FX11_walk (N : Nat) (s : iv_M) (q0 : Nat) (x1 : Int) (x2 : Int) (x3 : Int) : Option (Int × iv_M) := ((FX2_walkOf N s ((s q0 4).toNat) x1 x2 x3).bind fun v_1935 => (if v_1935 = (-1) then (some ((-1), s)) else ((FX11_ruleInForce N s q0).bind fun v_1937 => ((FX3_open N s (q0 + 62) ((s q0 4).toNat) ((s q0 4).toNat + 1) v_1937).bind fun s_1939 => ((FX3_broken N s_1939 (q0 + 62) v_1935).bind fun r_1940 => (fun (v_1940 : Int) (s_1941 : iv_M) => (if v_1940 = 0 then ((FX11_nightComes N s_1941 q0 v_1935).bind fun s_1944 => (some ((s_1944 ((s_1944 q0 4).toNat) 6), s_1944))) else (some ((w32 ((-2) - v_1940)), s_1941)))) r_1940.1 r_1940.2)))))
set_option maxRecDepth 10000 in
set_option maxHeartbeats 4000000 in
theorem RX11_walk {d N nc Ls : Nat} {Xs : Nat → Int32} (hd : 5 ≤ d) {h : iv_H} {s : iv_M} (hR : Rep nc Ls Xs h s) {q0 : Nat} (t0 : T11 nc q0) {m1 : Int32} {x1 : Int} (p1 : m1.toInt = x1) {m2 : Int32} {x2 : Int} (p2 : m2.toInt = x2) {m3 : Int32} {x3 : Int} (p3 : m3.toInt = x3) {r : Int × iv_M} {Q : Option Value → iv_H → Prop} (e : FX11_walk N s q0 x1 x2 x3 = some r) (hq : ∀ (z : Int32) (h1 : iv_H), z.toInt = r.1 → Rep nc Ls Xs h1 r.2 → Q (some (.int z)) h1) : Cl d 153 [.ref q0, .int m1, .int m2, .int m3] h Q := by
  obtain ⟨d, rfl⟩ : ∃ k, d = k + 1 := ⟨d - 1, by omega⟩
  have hd : 4 ≤ d := by omega
  have hT := hX11_walk
  unfold FX11_walk at e
  refine Cl.into (by decide) gX11_walk rfl ?_
  show Rn d 153 (some .int) 0 [some (.ref q0), some (.int m1), some (.int m2), some (.int m3), none, none] [] h Q
  refine Rn.n hT 1 (pc' := 1) (L' := [some (.ref q0), some (.int m1), some (.int m2), some (.int m3), none, none]) (st' := [.ref q0]) rfl ?_
  refine Rn.hp hT rfl rfl (gR_hp (rp_gP (k := 4) hR (T11_o t0) rfl (nn_114 hR t0))) ?_
  refine Rn.n hT 3 (pc' := 7) (L' := [some (.ref q0), some (.int m1), some (.int m2), some (.int m3), none, none]) (st' := [.int m3, .int m2, .int m1, .ref ((s q0 4).toNat)]) rfl ?_
  obtain ⟨v_1935, e_1935, e⟩ := Option.bind_eq_some_iff.mp e
  refine Rn.call hT rfl rfl rfl (Nat.le_of_ble_eq_true rfl) (rcv_v gX2_walkOf (by omega) (rp_ck hR (T2_o (ty_114 hR t0)))) (RX2_walkOf (by omega) hR (ty_114 hR t0) p1 p2 p3 e_1935 (fun z_1935 p_1935 => ?_))
  show Rn d _ _ 10 [some (.ref q0), some (.int m1), some (.int m2), some (.int m3), none, none] [.int z_1935] h Q
  refine Rn.n hT 3 (pc' := 15) (L' := [some (.ref q0), some (.int m1), some (.int m2), some (.int m3), some (.int z_1935), none]) (st' := [.int (-1 : Int32), .int z_1935]) rfl ?_
  by_cases c_1936 : v_1935 = (-1)
  · rw [if_pos c_1936] at e
    refine Rn.bf hT rfl rfl rfl (decide_eq_false (fun z => z ((ti_e p_1935 L32_m1).mpr c_1936))) ?_
    refine Rn.n hT 1 (pc' := 19) (L' := [some (.ref q0), some (.int m1), some (.int m2), some (.int m3), some (.int z_1935), none]) (st' := [.int (-1 : Int32)]) rfl ?_
    obtain rfl := Option.some.inj e
    exact Rn.ret hT rfl rfl rfl (hq (-1 : Int32) h L32_m1 hR)
  · rw [if_neg c_1936] at e
    refine Rn.bt hT rfl rfl rfl (decide_eq_true (fun z => c_1936 ((ti_e p_1935 L32_m1).mp z))) ?_
    refine Rn.n hT 1 (pc' := 21) (L' := [some (.ref q0), some (.int m1), some (.int m2), some (.int m3), some (.int z_1935), none]) (st' := [.ref q0]) rfl ?_
    refine Rn.hp hT rfl rfl (gR_hp (rp_gR hR (T11_o t0) rfl)) ?_
    refine Rn.n hT 1 (pc' := 25) (L' := [some (.ref q0), some (.int m1), some (.int m2), some (.int m3), some (.int z_1935), none]) (st' := [.ref q0, .ref (q0 + 62)]) rfl ?_
    refine Rn.hp hT rfl rfl (gR_hp (rp_gP (k := 4) hR (T11_o t0) rfl (nn_114 hR t0))) ?_
    refine Rn.n hT 1 (pc' := 29) (L' := [some (.ref q0), some (.int m1), some (.int m2), some (.int m3), some (.int z_1935), none]) (st' := [.ref q0, .ref ((s q0 4).toNat), .ref (q0 + 62)]) rfl ?_
    refine Rn.hp hT rfl rfl (gR_hp (rp_gP (k := 4) hR (T11_o t0) rfl (nn_114 hR t0))) ?_
    refine Rn.hp hT rfl rfl (gR_hp (rp_gR hR (T2_o (ty_114 hR t0)) rfl)) ?_
    refine Rn.n hT 1 (pc' := 36) (L' := [some (.ref q0), some (.int m1), some (.int m2), some (.int m3), some (.int z_1935), none]) (st' := [.ref q0, .ref ((s q0 4).toNat + 1), .ref ((s q0 4).toNat), .ref (q0 + 62)]) rfl ?_
    obtain ⟨v_1937, e_1937, e⟩ := Option.bind_eq_some_iff.mp e
    refine Rn.call hT rfl rfl rfl (Nat.le_of_ble_eq_true rfl) (rcv_v gX11_ruleInForce (by omega) (rp_ck hR (T11_o t0))) (RX11_ruleInForce (by omega) hR t0 e_1937 (fun t_1937 => ?_))
    show Rn d _ _ 39 [some (.ref q0), some (.int m1), some (.int m2), some (.int m3), some (.int z_1935), none] [iv_rf (rvo v_1937), .ref ((s q0 4).toNat + 1), .ref ((s q0 4).toNat), .ref (q0 + 62)] h Q
    obtain ⟨s_1939, e_1938, e⟩ := Option.bind_eq_some_iff.mp e
    refine Rn.call hT rfl rfl rfl (Nat.le_of_ble_eq_true rfl) (rcv_v gX3_open (by omega) (rp_ck hR (T3_o (T11_9 t0)))) (RX3_open (by omega) hR (T11_9 t0) (ty_114 hR t0) (T2_9 (ty_114 hR t0)) t_1937 e_1938 (fun h_1939 R_1939 => ?_))
    show Rn d _ _ 42 [some (.ref q0), some (.int m1), some (.int m2), some (.int m3), some (.int z_1935), none] [] h_1939 Q
    refine Rn.n hT 1 (pc' := 43) (L' := [some (.ref q0), some (.int m1), some (.int m2), some (.int m3), some (.int z_1935), none]) (st' := [.ref q0]) rfl ?_
    refine Rn.hp hT rfl rfl (gR_hp (rp_gR R_1939 (T11_o t0) rfl)) ?_
    refine Rn.n hT 1 (pc' := 48) (L' := [some (.ref q0), some (.int m1), some (.int m2), some (.int m3), some (.int z_1935), none]) (st' := [.int z_1935, .ref (q0 + 62)]) rfl ?_
    obtain ⟨⟨v_1940, s_1941⟩, e_1940, e⟩ := Option.bind_eq_some_iff.mp e
    try dsimp only at e
    try dsimp only at e
    refine Rn.call hT rfl rfl rfl (Nat.le_of_ble_eq_true rfl) (rcv_v gX3_broken (by omega) (rp_ck R_1939 (T3_o (T11_9 t0)))) (RX3_broken (by omega) R_1939 (T11_9 t0) p_1935 e_1940 (fun z_1940 h_1941 p_1940 R_1941 => ?_))
    show Rn d _ _ 51 [some (.ref q0), some (.int m1), some (.int m2), some (.int m3), some (.int z_1935), none] [.int z_1940] h_1941 Q
    refine Rn.n hT 2 (pc' := 55) (L' := [some (.ref q0), some (.int m1), some (.int m2), some (.int m3), some (.int z_1935), some (.int z_1940)]) (st' := [.int z_1940]) rfl ?_
    by_cases c_1942 : v_1940 = 0
    · rw [if_pos c_1942] at e
      refine Rn.bt hT rfl rfl rfl (decide_eq_true ((ti_e p_1940 L32_0).mpr c_1942)) ?_
      refine Rn.n hT 2 (pc' := 67) (L' := [some (.ref q0), some (.int m1), some (.int m2), some (.int m3), some (.int z_1935), some (.int z_1940)]) (st' := [.int z_1935, .ref q0]) rfl ?_
      obtain ⟨s_1944, e_1943, e⟩ := Option.bind_eq_some_iff.mp e
      refine Rn.call hT rfl rfl rfl (Nat.le_of_ble_eq_true rfl) (rcv_v gX11_nightComes (by omega) (rp_ck R_1941 (T11_o t0))) (RX11_nightComes (by omega) R_1941 t0 p_1935 e_1943 (fun h_1944 R_1944 => ?_))
      show Rn d _ _ 70 [some (.ref q0), some (.int m1), some (.int m2), some (.int m3), some (.int z_1935), some (.int z_1940)] [] h_1944 Q
      refine Rn.n hT 1 (pc' := 71) (L' := [some (.ref q0), some (.int m1), some (.int m2), some (.int m3), some (.int z_1935), some (.int z_1940)]) (st' := [.ref q0]) rfl ?_
      refine Rn.hp hT rfl rfl (gR_hp (rp_gP (k := 4) R_1944 (T11_o t0) rfl (nn_114 R_1944 t0))) ?_
      obtain ⟨z_1945, g_1945, p_1945⟩ : ∃ z : Int32, gI h_1944 2 6 ((s_1944 q0 4).toNat) = some z ∧ z.toInt = s_1944 ((s_1944 q0 4).toNat) 6 := rp_gI (k := 6) R_1944 (T2_o (ty_114 R_1944 t0)) rfl
      refine Rn.hp hT rfl rfl (gI_hp g_1945) ?_
      obtain rfl := Option.some.inj e
      exact Rn.ret hT rfl rfl rfl (hq z_1945 h_1944 p_1945 R_1944)
    · rw [if_neg c_1942] at e
      refine Rn.bf hT rfl rfl rfl (decide_eq_false (fun z => c_1942 ((ti_e p_1940 L32_0).mp z))) ?_
      refine Rn.n hT 3 (pc' := 63) (L' := [some (.ref q0), some (.int m1), some (.int m2), some (.int m3), some (.int z_1935), some (.int z_1940)]) (st' := [.int ((-2 : Int32) - z_1940)]) rfl ?_
      obtain rfl := Option.some.inj e
      exact Rn.ret hT rfl rfl rfl (hq ((-2 : Int32) - z_1940) h_1941 (ti_sub L32_m2 p_1940) R_1941)
set_option maxRecDepth 10000 in
theorem hX11_rest : iv_Tb 154 tX11_rest := iv_tb_of (m := mX11_rest) rfl
set_option maxRecDepth 10000 in
theorem gX11_rest : PG.2 154 = some mX11_rest := iv_pi_of (t := tX11_rest) rfl (by decide)
def FX11_rest (N : Nat) (s : iv_M) (q0 : Nat) : Option (Int × iv_M) := (if (s ((s q0 4).toNat) 0) = 0 then (some ((-1), s)) else ((FX11_nightComes N s q0 (-1)).bind fun s_1949 => (some ((s_1949 ((s_1949 q0 4).toNat) 6), s_1949))))
set_option maxRecDepth 10000 in
set_option maxHeartbeats 4000000 in
theorem RX11_rest {d N nc Ls : Nat} {Xs : Nat → Int32} (hd : 5 ≤ d) {h : iv_H} {s : iv_M} (hR : Rep nc Ls Xs h s) {q0 : Nat} (t0 : T11 nc q0) {r : Int × iv_M} {Q : Option Value → iv_H → Prop} (e : FX11_rest N s q0 = some r) (hq : ∀ (z : Int32) (h1 : iv_H), z.toInt = r.1 → Rep nc Ls Xs h1 r.2 → Q (some (.int z)) h1) : Cl d 154 [.ref q0] h Q := by
  obtain ⟨d, rfl⟩ : ∃ k, d = k + 1 := ⟨d - 1, by omega⟩
  have hd : 4 ≤ d := by omega
  have hT := hX11_rest
  unfold FX11_rest at e
  refine Cl.into (by decide) gX11_rest rfl ?_
  show Rn d 154 (some .int) 0 [some (.ref q0)] [] h Q
  refine Rn.n hT 1 (pc' := 1) (L' := [some (.ref q0)]) (st' := [.ref q0]) rfl ?_
  refine Rn.hp hT rfl rfl (gR_hp (rp_gP (k := 4) hR (T11_o t0) rfl (nn_114 hR t0))) ?_
  obtain ⟨z_1946, g_1946, p_1946⟩ : ∃ z : Int32, gI h 2 0 ((s q0 4).toNat) = some z ∧ z.toInt = s ((s q0 4).toNat) 0 := rp_gI (k := 0) hR (T2_o (ty_114 hR t0)) rfl
  refine Rn.hp hT rfl rfl (gI_hp g_1946) ?_
  by_cases c_1947 : (s ((s q0 4).toNat) 0) = 0
  · rw [if_pos c_1947] at e
    refine Rn.bf hT rfl rfl rfl (decide_eq_false (fun z => z ((ti_e p_1946 L32_0).mpr c_1947))) ?_
    refine Rn.n hT 1 (pc' := 11) (L' := [some (.ref q0)]) (st' := [.int (-1 : Int32)]) rfl ?_
    obtain rfl := Option.some.inj e
    exact Rn.ret hT rfl rfl rfl (hq (-1 : Int32) h L32_m1 hR)
  · rw [if_neg c_1947] at e
    refine Rn.bt hT rfl rfl rfl (decide_eq_true (fun z => c_1947 ((ti_e p_1946 L32_0).mp z))) ?_
    refine Rn.n hT 2 (pc' := 14) (L' := [some (.ref q0)]) (st' := [.int (-1 : Int32), .ref q0]) rfl ?_
    obtain ⟨s_1949, e_1948, e⟩ := Option.bind_eq_some_iff.mp e
    refine Rn.call hT rfl rfl rfl (Nat.le_of_ble_eq_true rfl) (rcv_v gX11_nightComes (by omega) (rp_ck hR (T11_o t0))) (RX11_nightComes (by omega) hR t0 L32_m1 e_1948 (fun h_1949 R_1949 => ?_))
    show Rn d _ _ 17 [some (.ref q0)] [] h_1949 Q
    refine Rn.n hT 1 (pc' := 18) (L' := [some (.ref q0)]) (st' := [.ref q0]) rfl ?_
    refine Rn.hp hT rfl rfl (gR_hp (rp_gP (k := 4) R_1949 (T11_o t0) rfl (nn_114 R_1949 t0))) ?_
    obtain ⟨z_1950, g_1950, p_1950⟩ : ∃ z : Int32, gI h_1949 2 6 ((s_1949 q0 4).toNat) = some z ∧ z.toInt = s_1949 ((s_1949 q0 4).toNat) 6 := rp_gI (k := 6) R_1949 (T2_o (ty_114 R_1949 t0)) rfl
    refine Rn.hp hT rfl rfl (gI_hp g_1950) ?_
    obtain rfl := Option.some.inj e
    exact Rn.ret hT rfl rfl rfl (hq z_1950 h_1949 p_1950 R_1949)
set_option maxRecDepth 10000 in
theorem hX11_undo : iv_Tb 156 tX11_undo := iv_tb_of (m := mX11_undo) rfl
set_option maxRecDepth 10000 in
theorem gX11_undo : PG.2 156 = some mX11_undo := iv_pi_of (t := tX11_undo) rfl (by decide)
def FX11_undo (N : Nat) (s : iv_M) (q0 : Nat) : Option (Int × iv_M) := (if (s ((s q0 4).toNat + 10) 1) = 0 then (some ((-2), s)) else ((FX2_takeNightBack N s ((s q0 4).toNat)).bind fun s_1954 => ((pt s_1954 q0 15 (w32 ((s_1954 q0 15) + 1))).bind fun s_1956 => (some ((s_1956 ((s_1956 q0 4).toNat + 10) 1), s_1956)))))
set_option maxRecDepth 10000 in
set_option maxHeartbeats 4000000 in
theorem RX11_undo {d N nc Ls : Nat} {Xs : Nat → Int32} (hd : 5 ≤ d) {h : iv_H} {s : iv_M} (hR : Rep nc Ls Xs h s) {q0 : Nat} (t0 : T11 nc q0) {r : Int × iv_M} {Q : Option Value → iv_H → Prop} (e : FX11_undo N s q0 = some r) (hq : ∀ (z : Int32) (h1 : iv_H), z.toInt = r.1 → Rep nc Ls Xs h1 r.2 → Q (some (.int z)) h1) : Cl d 156 [.ref q0] h Q := by
  obtain ⟨d, rfl⟩ : ∃ k, d = k + 1 := ⟨d - 1, by omega⟩
  have hd : 4 ≤ d := by omega
  have hT := hX11_undo
  unfold FX11_undo at e
  refine Cl.into (by decide) gX11_undo rfl ?_
  show Rn d 156 (some .int) 0 [some (.ref q0)] [] h Q
  refine Rn.n hT 1 (pc' := 1) (L' := [some (.ref q0)]) (st' := [.ref q0]) rfl ?_
  refine Rn.hp hT rfl rfl (gR_hp (rp_gP (k := 4) hR (T11_o t0) rfl (nn_114 hR t0))) ?_
  refine Rn.hp hT rfl rfl (gR_hp (rp_gR hR (T2_o (ty_114 hR t0)) rfl)) ?_
  obtain ⟨z_1951, g_1951, p_1951⟩ : ∃ z : Int32, gI h 7 1 ((s q0 4).toNat + 10) = some z ∧ z.toInt = s ((s q0 4).toNat + 10) 1 := rp_gI (k := 1) hR (T7_o (T2_12 (ty_114 hR t0))) rfl
  refine Rn.hp hT rfl rfl (gI_hp g_1951) ?_
  by_cases c_1952 : (s ((s q0 4).toNat + 10) 1) = 0
  · rw [if_pos c_1952] at e
    refine Rn.bf hT rfl rfl rfl (decide_eq_false (fun z => z ((ti_e p_1951 L32_0).mpr c_1952))) ?_
    refine Rn.n hT 1 (pc' := 15) (L' := [some (.ref q0)]) (st' := [.int (-2 : Int32)]) rfl ?_
    obtain rfl := Option.some.inj e
    exact Rn.ret hT rfl rfl rfl (hq (-2 : Int32) h L32_m2 hR)
  · rw [if_neg c_1952] at e
    refine Rn.bt hT rfl rfl rfl (decide_eq_true (fun z => c_1952 ((ti_e p_1951 L32_0).mp z))) ?_
    refine Rn.n hT 1 (pc' := 17) (L' := [some (.ref q0)]) (st' := [.ref q0]) rfl ?_
    refine Rn.hp hT rfl rfl (gR_hp (rp_gP (k := 4) hR (T11_o t0) rfl (nn_114 hR t0))) ?_
    obtain ⟨s_1954, e_1953, e⟩ := Option.bind_eq_some_iff.mp e
    refine Rn.call hT rfl rfl rfl (Nat.le_of_ble_eq_true rfl) (rcv_v gX2_takeNightBack (by omega) (rp_ck hR (T2_o (ty_114 hR t0)))) (RX2_takeNightBack (by omega) hR (ty_114 hR t0) e_1953 (fun h_1954 R_1954 => ?_))
    show Rn d _ _ 23 [some (.ref q0)] [] h_1954 Q
    refine Rn.n hT 2 (pc' := 25) (L' := [some (.ref q0)]) (st' := [.ref q0, .ref q0]) rfl ?_
    obtain ⟨z_1955, g_1955, p_1955⟩ : ∃ z : Int32, gI h_1954 11 15 q0 = some z ∧ z.toInt = s_1954 q0 15 := rp_gI (k := 15) R_1954 (T11_o t0) rfl
    refine Rn.hp hT rfl rfl (gI_hp g_1955) ?_
    refine Rn.n hT 2 (pc' := 30) (L' := [some (.ref q0)]) (st' := [.int (z_1955 + (1 : Int32)), .ref q0]) rfl ?_
    obtain ⟨s_1956, e_1957, e⟩ := Option.bind_eq_some_iff.mp e
    obtain ⟨h_1956, g_1957, R_1956⟩ := rp_pI (ci := 11) (k := 15) R_1954 (T11_o t0) rfl rfl (ti_add p_1955 L32_1) e_1957
    refine Rn.hp hT rfl rfl (pV_hp rfl g_1957) ?_
    refine Rn.n hT 1 (pc' := 34) (L' := [some (.ref q0)]) (st' := [.ref q0]) rfl ?_
    refine Rn.hp hT rfl rfl (gR_hp (rp_gP (k := 4) R_1956 (T11_o t0) rfl (nn_114 R_1956 t0))) ?_
    refine Rn.hp hT rfl rfl (gR_hp (rp_gR R_1956 (T2_o (ty_114 R_1956 t0)) rfl)) ?_
    obtain ⟨z_1958, g_1958, p_1958⟩ : ∃ z : Int32, gI h_1956 7 1 ((s_1956 q0 4).toNat + 10) = some z ∧ z.toInt = s_1956 ((s_1956 q0 4).toNat + 10) 1 := rp_gI (k := 1) R_1956 (T7_o (T2_12 (ty_114 R_1956 t0))) rfl
    refine Rn.hp hT rfl rfl (gI_hp g_1958) ?_
    obtain rfl := Option.some.inj e
    exact Rn.ret hT rfl rfl rfl (hq z_1958 h_1956 p_1958 R_1956)
set_option maxRecDepth 10000 in
theorem hX11_listWalks : iv_Tb 158 tX11_listWalks := iv_tb_of (m := mX11_listWalks) rfl
set_option maxRecDepth 10000 in
theorem gX11_listWalks : PG.2 158 = some mX11_listWalks := iv_pi_of (t := tX11_listWalks) rfl (by decide)
def FX11_listWalks (N : Nat) (s : iv_M) (q0 : Nat) : Option (Int × iv_M) := ((FX11_ruleInForce N s q0).bind fun v_1959 => ((FX3_open N s (q0 + 62) ((s q0 4).toNat) ((s q0 4).toNat + 1) v_1959).bind fun s_1961 => ((FX3_list N s_1961 (q0 + 62) (q0 + 112)).bind fun r_1962 => (fun (v_1962 : Int) (s_1963 : iv_M) => (some (v_1962, s_1963))) r_1962.1 r_1962.2)))
set_option maxRecDepth 10000 in
set_option maxHeartbeats 4000000 in
theorem RX11_listWalks {d N nc Ls : Nat} {Xs : Nat → Int32} (hd : 6 ≤ d) {h : iv_H} {s : iv_M} (hR : Rep nc Ls Xs h s) {q0 : Nat} (t0 : T11 nc q0) {r : Int × iv_M} {Q : Option Value → iv_H → Prop} (e : FX11_listWalks N s q0 = some r) (hq : ∀ (z : Int32) (h1 : iv_H), z.toInt = r.1 → Rep nc Ls Xs h1 r.2 → Q (some (.int z)) h1) : Cl d 158 [.ref q0] h Q := by
  obtain ⟨d, rfl⟩ : ∃ k, d = k + 1 := ⟨d - 1, by omega⟩
  have hd : 5 ≤ d := by omega
  have hT := hX11_listWalks
  unfold FX11_listWalks at e
  refine Cl.into (by decide) gX11_listWalks rfl ?_
  show Rn d 158 (some .int) 0 [some (.ref q0)] [] h Q
  refine Rn.n hT 1 (pc' := 1) (L' := [some (.ref q0)]) (st' := [.ref q0]) rfl ?_
  refine Rn.hp hT rfl rfl (gR_hp (rp_gR hR (T11_o t0) rfl)) ?_
  refine Rn.n hT 1 (pc' := 5) (L' := [some (.ref q0)]) (st' := [.ref q0, .ref (q0 + 62)]) rfl ?_
  refine Rn.hp hT rfl rfl (gR_hp (rp_gP (k := 4) hR (T11_o t0) rfl (nn_114 hR t0))) ?_
  refine Rn.n hT 1 (pc' := 9) (L' := [some (.ref q0)]) (st' := [.ref q0, .ref ((s q0 4).toNat), .ref (q0 + 62)]) rfl ?_
  refine Rn.hp hT rfl rfl (gR_hp (rp_gP (k := 4) hR (T11_o t0) rfl (nn_114 hR t0))) ?_
  refine Rn.hp hT rfl rfl (gR_hp (rp_gR hR (T2_o (ty_114 hR t0)) rfl)) ?_
  refine Rn.n hT 1 (pc' := 16) (L' := [some (.ref q0)]) (st' := [.ref q0, .ref ((s q0 4).toNat + 1), .ref ((s q0 4).toNat), .ref (q0 + 62)]) rfl ?_
  obtain ⟨v_1959, e_1959, e⟩ := Option.bind_eq_some_iff.mp e
  refine Rn.call hT rfl rfl rfl (Nat.le_of_ble_eq_true rfl) (rcv_v gX11_ruleInForce (by omega) (rp_ck hR (T11_o t0))) (RX11_ruleInForce (by omega) hR t0 e_1959 (fun t_1959 => ?_))
  show Rn d _ _ 19 [some (.ref q0)] [iv_rf (rvo v_1959), .ref ((s q0 4).toNat + 1), .ref ((s q0 4).toNat), .ref (q0 + 62)] h Q
  obtain ⟨s_1961, e_1960, e⟩ := Option.bind_eq_some_iff.mp e
  refine Rn.call hT rfl rfl rfl (Nat.le_of_ble_eq_true rfl) (rcv_v gX3_open (by omega) (rp_ck hR (T3_o (T11_9 t0)))) (RX3_open (by omega) hR (T11_9 t0) (ty_114 hR t0) (T2_9 (ty_114 hR t0)) t_1959 e_1960 (fun h_1961 R_1961 => ?_))
  show Rn d _ _ 22 [some (.ref q0)] [] h_1961 Q
  refine Rn.n hT 1 (pc' := 23) (L' := [some (.ref q0)]) (st' := [.ref q0]) rfl ?_
  refine Rn.hp hT rfl rfl (gR_hp (rp_gR R_1961 (T11_o t0) rfl)) ?_
  refine Rn.n hT 1 (pc' := 27) (L' := [some (.ref q0)]) (st' := [.ref q0, .ref (q0 + 62)]) rfl ?_
  refine Rn.hp hT rfl rfl (gR_hp (rp_gR R_1961 (T11_o t0) rfl)) ?_
  obtain ⟨⟨v_1962, s_1963⟩, e_1962, e⟩ := Option.bind_eq_some_iff.mp e
  try dsimp only at e
  try dsimp only at e
  refine Rn.call hT rfl rfl rfl (Nat.le_of_ble_eq_true rfl) (rcv_v gX3_list (by omega) (rp_ck R_1961 (T3_o (T11_9 t0)))) (RX3_list (by omega) R_1961 (T11_9 t0) (T11_14 t0) e_1962 (fun z_1962 h_1963 p_1962 R_1963 => ?_))
  show Rn d _ _ 33 [some (.ref q0)] [.int z_1962] h_1963 Q
  obtain rfl := Option.some.inj e
  exact Rn.ret hT rfl rfl rfl (hq z_1962 h_1963 p_1962 R_1963)
set_option maxRecDepth 10000 in
theorem hX11_can : iv_Tb 157 tX11_can := iv_tb_of (m := mX11_can) rfl
set_option maxRecDepth 10000 in
theorem gX11_can : PG.2 157 = some mX11_can := iv_pi_of (t := tX11_can) rfl (by decide)
def FX11_can_b18 (N : Nat) (s : iv_M)  (xs0 : Int) : Option (Int × iv_M) := (some (xs0, s))
set_option maxRecDepth 10000 in
set_option maxHeartbeats 4000000 in
theorem RX11_can_b18 {d N nc Ls : Nat} {Xs : Nat → Int32} (hd : 6 ≤ d) {h : iv_H} {s : iv_M} (hR : Rep nc Ls Xs h s)  {ms0 : Int32} {xs0 : Int} (ps0 : ms0.toInt = xs0) {r : Int × iv_M} {Q : Option Value → iv_H → Prop} (hq : ∀ (z : Int32) (h1 : iv_H), z.toInt = r.1 → Rep nc Ls Xs h1 r.2 → Q (some (.int z)) h1) (e : FX11_can_b18 N s  xs0 = some r) : Rn d 157 (some .int) 18 [none] [.int ms0] h Q := by
  have hT := hX11_can
  unfold FX11_can_b18 at e
  obtain rfl := Option.some.inj e
  exact Rn.ret hT rfl rfl rfl (hq ms0 h ps0 hR)
def FX11_can (N : Nat) (s : iv_M) (q0 : Nat) : Option (Int × iv_M) := (if (s ((s q0 4).toNat) 0) = 0 then (FX11_can_b18 N s (-1)) else ((FX11_listWalks N s q0).bind fun r_1966 => (fun (v_1966 : Int) (s_1967 : iv_M) => (FX11_can_b18 N s_1967 v_1966)) r_1966.1 r_1966.2))
set_option maxRecDepth 10000 in
set_option maxHeartbeats 4000000 in
theorem RX11_can {d N nc Ls : Nat} {Xs : Nat → Int32} (hd : 7 ≤ d) {h : iv_H} {s : iv_M} (hR : Rep nc Ls Xs h s) {q0 : Nat} (t0 : T11 nc q0) {r : Int × iv_M} {Q : Option Value → iv_H → Prop} (e : FX11_can N s q0 = some r) (hq : ∀ (z : Int32) (h1 : iv_H), z.toInt = r.1 → Rep nc Ls Xs h1 r.2 → Q (some (.int z)) h1) : Cl d 157 [.ref q0] h Q := by
  obtain ⟨d, rfl⟩ : ∃ k, d = k + 1 := ⟨d - 1, by omega⟩
  have hd : 6 ≤ d := by omega
  have hT := hX11_can
  unfold FX11_can at e
  refine Cl.into (by decide) gX11_can rfl ?_
  show Rn d 157 (some .int) 0 [some (.ref q0)] [] h Q
  refine Rn.n hT 1 (pc' := 1) (L' := [some (.ref q0)]) (st' := [.ref q0]) rfl ?_
  refine Rn.hp hT rfl rfl (gR_hp (rp_gP (k := 4) hR (T11_o t0) rfl (nn_114 hR t0))) ?_
  obtain ⟨z_1964, g_1964, p_1964⟩ : ∃ z : Int32, gI h 2 0 ((s q0 4).toNat) = some z ∧ z.toInt = s ((s q0 4).toNat) 0 := rp_gI (k := 0) hR (T2_o (ty_114 hR t0)) rfl
  refine Rn.hp hT rfl rfl (gI_hp g_1964) ?_
  by_cases c_1965 : (s ((s q0 4).toNat) 0) = 0
  · rw [if_pos c_1965] at e
    refine Rn.bt hT rfl rfl rfl (decide_eq_true ((ti_e p_1964 L32_0).mpr c_1965)) ?_
    refine Rn.n hT 1 (pc' := 18) (L' := [some (.ref q0)]) (st' := [.int (-1 : Int32)]) rfl ?_
    exact Rn.weak (ll_n ll_e) (RX11_can_b18 hd hR L32_m1 hq e)
  · rw [if_neg c_1965] at e
    refine Rn.bf hT rfl rfl rfl (decide_eq_false (fun z => c_1965 ((ti_e p_1964 L32_0).mp z))) ?_
    refine Rn.n hT 1 (pc' := 11) (L' := [some (.ref q0)]) (st' := [.ref q0]) rfl ?_
    obtain ⟨⟨v_1966, s_1967⟩, e_1966, e⟩ := Option.bind_eq_some_iff.mp e
    try dsimp only at e
    try dsimp only at e
    refine Rn.call hT rfl rfl rfl (Nat.le_of_ble_eq_true rfl) (rcv_v gX11_listWalks (by omega) (rp_ck hR (T11_o t0))) (RX11_listWalks (by omega) hR t0 e_1966 (fun z_1966 h_1967 p_1966 R_1967 => ?_))
    show Rn d _ _ 14 [some (.ref q0)] [.int z_1966] h_1967 Q
    refine Rn.n hT 1 (pc' := 18) (L' := [some (.ref q0)]) (st' := [.int z_1966]) rfl ?_
    exact Rn.weak (ll_n ll_e) (RX11_can_b18 hd R_1967 p_1966 hq e)
set_option maxRecDepth 10000 in
theorem hX11_partOf : iv_Tb 160 tX11_partOf := iv_tb_of (m := mX11_partOf) rfl
set_option maxRecDepth 10000 in
theorem gX11_partOf : PG.2 160 = some mX11_partOf := iv_pi_of (t := tX11_partOf) rfl (by decide)
def FX11_partOf_b27 (N : Nat) (s : iv_M)  (xs0 : Int) : Option (Int) := (some xs0)
set_option maxRecDepth 10000 in
set_option maxHeartbeats 4000000 in
theorem RX11_partOf_b27 {d N nc Ls : Nat} {Xs : Nat → Int32} (hd : 0 ≤ d) {h : iv_H} {s : iv_M} (hR : Rep nc Ls Xs h s)  {ms0 : Int32} {xs0 : Int} (ps0 : ms0.toInt = xs0) {r : Int} {Q : Option Value → iv_H → Prop} (hq : ∀ (z : Int32), z.toInt = r → Q (some (.int z)) h) (e : FX11_partOf_b27 N s  xs0 = some r) : Rn d 160 (some .int) 27 [none, none] [.int ms0] h Q := by
  have hT := hX11_partOf
  unfold FX11_partOf_b27 at e
  obtain rfl := Option.some.inj e
  exact Rn.ret hT rfl rfl rfl (hq ms0 ps0)
def FX11_partOf (N : Nat) (s : iv_M) (x0 : Int) (x1 : Int) : Option (Int) := (if x1 = 0 then (some (sr32 x0 8)) else (if x1 = 1 then (FX11_partOf_b27 N s (bAn (sr32 x0 4) 15)) else (FX11_partOf_b27 N s (bAn x0 15))))
set_option maxRecDepth 10000 in
set_option maxHeartbeats 4000000 in
theorem RX11_partOf {d N nc Ls : Nat} {Xs : Nat → Int32} (hd : 1 ≤ d) {h : iv_H} {s : iv_M} (hR : Rep nc Ls Xs h s) {m0 : Int32} {x0 : Int} (p0 : m0.toInt = x0) {m1 : Int32} {x1 : Int} (p1 : m1.toInt = x1) {r : Int} {Q : Option Value → iv_H → Prop} (e : FX11_partOf N s x0 x1 = some r) (hq : ∀ (z : Int32), z.toInt = r → Q (some (.int z)) h) : Cl d 160 [.int m0, .int m1] h Q := by
  obtain ⟨d, rfl⟩ : ∃ k, d = k + 1 := ⟨d - 1, by omega⟩
  have hd : 0 ≤ d := by omega
  have hT := hX11_partOf
  unfold FX11_partOf at e
  refine Cl.into (by decide) gX11_partOf rfl ?_
  show Rn d 160 (some .int) 0 [some (.int m0), some (.int m1)] [] h Q
  refine Rn.n hT 1 (pc' := 1) (L' := [some (.int m0), some (.int m1)]) (st' := [.int m1]) rfl ?_
  by_cases c_1968 : x1 = 0
  · rw [if_pos c_1968] at e
    refine Rn.bf hT rfl rfl rfl (decide_eq_false (fun z => z ((ti_e p1 L32_0).mpr c_1968))) ?_
    refine Rn.n hT 3 (pc' := 8) (L' := [some (.int m0), some (.int m1)]) (st' := [.int (m0 >>> ((8 : Int32) &&& 31))]) rfl ?_
    obtain rfl := Option.some.inj e
    exact Rn.ret hT rfl rfl rfl (hq (m0 >>> ((8 : Int32) &&& 31)) (ti_shr p0 L32_8))
  · rw [if_neg c_1968] at e
    refine Rn.bt hT rfl rfl rfl (decide_eq_true (fun z => c_1968 ((ti_e p1 L32_0).mp z))) ?_
    refine Rn.n hT 2 (pc' := 11) (L' := [some (.int m0), some (.int m1)]) (st' := [.int (1 : Int32), .int m1]) rfl ?_
    by_cases c_1969 : x1 = 1
    · rw [if_pos c_1969] at e
      refine Rn.bf hT rfl rfl rfl (decide_eq_false (fun z => z ((ti_e p1 L32_1).mpr c_1969))) ?_
      refine Rn.n hT 6 (pc' := 27) (L' := [some (.int m0), some (.int m1)]) (st' := [.int ((m0 >>> ((4 : Int32) &&& 31)) &&& (15 : Int32))]) rfl ?_
      exact Rn.weak (ll_n (ll_n ll_e)) (RX11_partOf_b27 hd hR (ti_and (ti_shr p0 L32_4) L32_15) hq e)
    · rw [if_neg c_1969] at e
      refine Rn.bt hT rfl rfl rfl (decide_eq_true (fun z => c_1969 ((ti_e p1 L32_1).mp z))) ?_
      refine Rn.n hT 3 (pc' := 27) (L' := [some (.int m0), some (.int m1)]) (st' := [.int (m0 &&& (15 : Int32))]) rfl ?_
      exact Rn.weak (ll_n (ll_n ll_e)) (RX11_partOf_b27 hd hR (ti_and p0 L32_15) hq e)
set_option maxRecDepth 10000 in
theorem hX11_choice : iv_Tb 159 tX11_choice := iv_tb_of (m := mX11_choice) rfl
set_option maxRecDepth 10000 in
theorem gX11_choice : PG.2 159 = some mX11_choice := iv_pi_of (t := tX11_choice) rfl (by decide)
def FX11_choice_b31 (N : Nat) (s : iv_M)   : Option (Int × iv_M) := (some ((-1), s))
set_option maxRecDepth 10000 in
set_option maxHeartbeats 4000000 in
theorem RX11_choice_b31 {d N nc Ls : Nat} {Xs : Nat → Int32} (hd : 6 ≤ d) {h : iv_H} {s : iv_M} (hR : Rep nc Ls Xs h s)   {r : Int × iv_M} {Q : Option Value → iv_H → Prop} (hq : ∀ (z : Int32) (h1 : iv_H), z.toInt = r.1 → Rep nc Ls Xs h1 r.2 → Q (some (.int z)) h1) (e : FX11_choice_b31 N s   = some r) : Rn d 159 (some .int) 31 [none, none, none] [] h Q := by
  have hT := hX11_choice
  unfold FX11_choice_b31 at e
  refine Rn.n hT 1 (pc' := 32) (L' := [none, none, none]) (st' := [.int (-1 : Int32)]) rfl ?_
  obtain rfl := Option.some.inj e
  exact Rn.ret hT rfl rfl rfl (hq (-1 : Int32) h L32_m1 hR)
def FX11_choice (N : Nat) (s : iv_M) (q0 : Nat) (x1 : Int) (x2 : Int) : Option (Int × iv_M) := (if (s ((s q0 4).toNat) 0) = 0 then (FX11_choice_b31 N s) else (if x1 < 0 then (FX11_choice_b31 N s) else (if x2 < 0 then (FX11_choice_b31 N s) else (if 3 < x2 then (FX11_choice_b31 N s) else ((FX11_listWalks N s q0).bind fun r_1975 => (fun (v_1975 : Int) (s_1976 : iv_M) => (if x1 < v_1975 then (if 3 ≤ x2 then ((FX1_mismatches N s_1976 ((s_1976 q0 4).toNat + 1)).bind fun v_1979 => ((rd s_1976 (q0 + 112) 126 x1).bind fun v_1980 => ((FX1_gain N s_1976 ((s_1976 q0 4).toNat + 1) v_1980).bind fun r_1981 => (fun (v_1981 : Int) (s_1982 : iv_M) => (some ((w32 (v_1979 + v_1981)), s_1982))) r_1981.1 r_1981.2))) else ((rd s_1976 (q0 + 112) 126 x1).bind fun v_1983 => ((FX11_partOf N s_1976 v_1983 x2).bind fun v_1984 => (some (v_1984, s_1976))))) else (FX11_choice_b31 N s_1976))) r_1975.1 r_1975.2)))))
set_option maxRecDepth 10000 in
set_option maxHeartbeats 4000000 in
theorem RX11_choice {d N nc Ls : Nat} {Xs : Nat → Int32} (hd : 7 ≤ d) {h : iv_H} {s : iv_M} (hR : Rep nc Ls Xs h s) {q0 : Nat} (t0 : T11 nc q0) {m1 : Int32} {x1 : Int} (p1 : m1.toInt = x1) {m2 : Int32} {x2 : Int} (p2 : m2.toInt = x2) {r : Int × iv_M} {Q : Option Value → iv_H → Prop} (e : FX11_choice N s q0 x1 x2 = some r) (hq : ∀ (z : Int32) (h1 : iv_H), z.toInt = r.1 → Rep nc Ls Xs h1 r.2 → Q (some (.int z)) h1) : Cl d 159 [.ref q0, .int m1, .int m2] h Q := by
  obtain ⟨d, rfl⟩ : ∃ k, d = k + 1 := ⟨d - 1, by omega⟩
  have hd : 6 ≤ d := by omega
  have hT := hX11_choice
  unfold FX11_choice at e
  refine Cl.into (by decide) gX11_choice rfl ?_
  show Rn d 159 (some .int) 0 [some (.ref q0), some (.int m1), some (.int m2)] [] h Q
  refine Rn.n hT 1 (pc' := 1) (L' := [some (.ref q0), some (.int m1), some (.int m2)]) (st' := [.ref q0]) rfl ?_
  refine Rn.hp hT rfl rfl (gR_hp (rp_gP (k := 4) hR (T11_o t0) rfl (nn_114 hR t0))) ?_
  obtain ⟨z_1970, g_1970, p_1970⟩ : ∃ z : Int32, gI h 2 0 ((s q0 4).toNat) = some z ∧ z.toInt = s ((s q0 4).toNat) 0 := rp_gI (k := 0) hR (T2_o (ty_114 hR t0)) rfl
  refine Rn.hp hT rfl rfl (gI_hp g_1970) ?_
  by_cases c_1971 : (s ((s q0 4).toNat) 0) = 0
  · rw [if_pos c_1971] at e
    refine Rn.bt hT rfl rfl rfl (decide_eq_true ((ti_e p_1970 L32_0).mpr c_1971)) ?_
    exact Rn.weak (ll_n (ll_n (ll_n ll_e))) (RX11_choice_b31 hd hR hq e)
  · rw [if_neg c_1971] at e
    refine Rn.bf hT rfl rfl rfl (decide_eq_false (fun z => c_1971 ((ti_e p_1970 L32_0).mp z))) ?_
    refine Rn.n hT 1 (pc' := 11) (L' := [some (.ref q0), some (.int m1), some (.int m2)]) (st' := [.int m1]) rfl ?_
    by_cases c_1972 : x1 < 0
    · rw [if_pos c_1972] at e
      refine Rn.bt hT rfl rfl rfl (decide_eq_true ((ti_l p1 L32_0).mpr c_1972)) ?_
      exact Rn.weak (ll_n (ll_n (ll_n ll_e))) (RX11_choice_b31 hd hR hq e)
    · rw [if_neg c_1972] at e
      refine Rn.bf hT rfl rfl rfl (decide_eq_false (fun z => c_1972 ((ti_l p1 L32_0).mp z))) ?_
      refine Rn.n hT 1 (pc' := 15) (L' := [some (.ref q0), some (.int m1), some (.int m2)]) (st' := [.int m2]) rfl ?_
      by_cases c_1973 : x2 < 0
      · rw [if_pos c_1973] at e
        refine Rn.bt hT rfl rfl rfl (decide_eq_true ((ti_l p2 L32_0).mpr c_1973)) ?_
        exact Rn.weak (ll_n (ll_n (ll_n ll_e))) (RX11_choice_b31 hd hR hq e)
      · rw [if_neg c_1973] at e
        refine Rn.bf hT rfl rfl rfl (decide_eq_false (fun z => c_1973 ((ti_l p2 L32_0).mp z))) ?_
        refine Rn.n hT 2 (pc' := 20) (L' := [some (.ref q0), some (.int m1), some (.int m2)]) (st' := [.int (3 : Int32), .int m2]) rfl ?_
        by_cases c_1974 : 3 < x2
        · rw [if_pos c_1974] at e
          refine Rn.bt hT rfl rfl rfl (decide_eq_true ((ti_l L32_3 p2).mpr c_1974)) ?_
          exact Rn.weak (ll_n (ll_n (ll_n ll_e))) (RX11_choice_b31 hd hR hq e)
        · rw [if_neg c_1974] at e
          refine Rn.bf hT rfl rfl rfl (decide_eq_false (fun z => c_1974 ((ti_l L32_3 p2).mp z))) ?_
          refine Rn.n hT 2 (pc' := 25) (L' := [some (.ref q0), some (.int m1), some (.int m2)]) (st' := [.ref q0, .int m1]) rfl ?_
          obtain ⟨⟨v_1975, s_1976⟩, e_1975, e⟩ := Option.bind_eq_some_iff.mp e
          try dsimp only at e
          try dsimp only at e
          refine Rn.call hT rfl rfl rfl (Nat.le_of_ble_eq_true rfl) (rcv_v gX11_listWalks (by omega) (rp_ck hR (T11_o t0))) (RX11_listWalks (by omega) hR t0 e_1975 (fun z_1975 h_1976 p_1975 R_1976 => ?_))
          show Rn d _ _ 28 [some (.ref q0), some (.int m1), some (.int m2)] [.int z_1975, .int m1] h_1976 Q
          by_cases c_1977 : x1 < v_1975
          · rw [if_pos c_1977] at e
            refine Rn.bt hT rfl rfl rfl (decide_eq_true ((ti_l p1 p_1975).mpr c_1977)) ?_
            refine Rn.n hT 2 (pc' := 35) (L' := [some (.ref q0), some (.int m1), some (.int m2)]) (st' := [.int (3 : Int32), .int m2]) rfl ?_
            by_cases c_1978 : 3 ≤ x2
            · rw [if_pos c_1978] at e
              refine Rn.bt hT rfl rfl rfl (decide_eq_true ((ti_le L32_3 p2).mpr c_1978)) ?_
              refine Rn.n hT 1 (pc' := 50) (L' := [some (.ref q0), some (.int m1), some (.int m2)]) (st' := [.ref q0]) rfl ?_
              refine Rn.hp hT rfl rfl (gR_hp (rp_gP (k := 4) R_1976 (T11_o t0) rfl (nn_114 R_1976 t0))) ?_
              refine Rn.hp hT rfl rfl (gR_hp (rp_gR R_1976 (T2_o (ty_114 R_1976 t0)) rfl)) ?_
              obtain ⟨v_1979, e_1979, e⟩ := Option.bind_eq_some_iff.mp e
              refine Rn.call hT rfl rfl rfl (Nat.le_of_ble_eq_true rfl) (rcv_v gX1_mismatches (by omega) (rp_ck R_1976 (T1_o (T2_9 (ty_114 R_1976 t0))))) (RX1_mismatches (by omega) R_1976 (T2_9 (ty_114 R_1976 t0)) e_1979 (fun z_1979 p_1979 => ?_))
              show Rn d _ _ 59 [some (.ref q0), some (.int m1), some (.int m2)] [.int z_1979] h_1976 Q
              refine Rn.n hT 1 (pc' := 60) (L' := [some (.ref q0), some (.int m1), some (.int m2)]) (st' := [.ref q0, .int z_1979]) rfl ?_
              refine Rn.hp hT rfl rfl (gR_hp (rp_gP (k := 4) R_1976 (T11_o t0) rfl (nn_114 R_1976 t0))) ?_
              refine Rn.hp hT rfl rfl (gR_hp (rp_gR R_1976 (T2_o (ty_114 R_1976 t0)) rfl)) ?_
              refine Rn.n hT 1 (pc' := 67) (L' := [some (.ref q0), some (.int m1), some (.int m2)]) (st' := [.ref q0, .ref ((s_1976 q0 4).toNat + 1), .int z_1979]) rfl ?_
              refine Rn.hp hT rfl rfl (gR_hp (rp_gR R_1976 (T11_o t0) rfl)) ?_
              refine Rn.n hT 1 (pc' := 71) (L' := [some (.ref q0), some (.int m1), some (.int m2)]) (st' := [.int m1, .ref (q0 + 112), .ref ((s_1976 q0 4).toNat + 1), .int z_1979]) rfl ?_
              obtain ⟨v_1980, e_1980, e⟩ := Option.bind_eq_some_iff.mp e
              obtain ⟨z_1980, g_1980, p_1980⟩ := rp_aI R_1976 (T11_14 t0) (T11_14l t0) p1 e_1980
              refine Rn.hp hT rfl rfl (aI_hp g_1980) ?_
              obtain ⟨⟨v_1981, s_1982⟩, e_1981, e⟩ := Option.bind_eq_some_iff.mp e
              try dsimp only at e
              try dsimp only at e
              refine Rn.call hT rfl rfl rfl (Nat.le_of_ble_eq_true rfl) (rcv_v gX1_gain (by omega) (rp_ck R_1976 (T1_o (T2_9 (ty_114 R_1976 t0))))) (RX1_gain (by omega) R_1976 (T2_9 (ty_114 R_1976 t0)) p_1980 e_1981 (fun z_1981 h_1982 p_1981 R_1982 => ?_))
              show Rn d _ _ 75 [some (.ref q0), some (.int m1), some (.int m2)] [.int z_1981, .int z_1979] h_1982 Q
              refine Rn.n hT 1 (pc' := 76) (L' := [some (.ref q0), some (.int m1), some (.int m2)]) (st' := [.int (z_1979 + z_1981)]) rfl ?_
              obtain rfl := Option.some.inj e
              exact Rn.ret hT rfl rfl rfl (hq (z_1979 + z_1981) h_1982 (ti_add p_1979 p_1981) R_1982)
            · rw [if_neg c_1978] at e
              refine Rn.bf hT rfl rfl rfl (decide_eq_false (fun z => c_1978 ((ti_le L32_3 p2).mp z))) ?_
              refine Rn.n hT 1 (pc' := 39) (L' := [some (.ref q0), some (.int m1), some (.int m2)]) (st' := [.ref q0]) rfl ?_
              refine Rn.hp hT rfl rfl (gR_hp (rp_gR R_1976 (T11_o t0) rfl)) ?_
              refine Rn.n hT 1 (pc' := 43) (L' := [some (.ref q0), some (.int m1), some (.int m2)]) (st' := [.int m1, .ref (q0 + 112)]) rfl ?_
              obtain ⟨v_1983, e_1983, e⟩ := Option.bind_eq_some_iff.mp e
              obtain ⟨z_1983, g_1983, p_1983⟩ := rp_aI R_1976 (T11_14 t0) (T11_14l t0) p1 e_1983
              refine Rn.hp hT rfl rfl (aI_hp g_1983) ?_
              refine Rn.n hT 1 (pc' := 45) (L' := [some (.ref q0), some (.int m1), some (.int m2)]) (st' := [.int m2, .int z_1983]) rfl ?_
              obtain ⟨v_1984, e_1984, e⟩ := Option.bind_eq_some_iff.mp e
              refine Rn.call hT rfl rfl rfl (Nat.le_of_ble_eq_true rfl) rfl (RX11_partOf (by omega) R_1976 p_1983 p2 e_1984 (fun z_1984 p_1984 => ?_))
              show Rn d _ _ 48 [some (.ref q0), some (.int m1), some (.int m2)] [.int z_1984] h_1976 Q
              obtain rfl := Option.some.inj e
              exact Rn.ret hT rfl rfl rfl (hq z_1984 h_1976 p_1984 R_1976)
          · rw [if_neg c_1977] at e
            refine Rn.bf hT rfl rfl rfl (decide_eq_false (fun z => c_1977 ((ti_l p1 p_1975).mp z))) ?_
            exact Rn.weak (ll_n (ll_n (ll_n ll_e))) (RX11_choice_b31 hd R_1976 hq e)
set_option maxRecDepth 10000 in
theorem hX11_draft : iv_Tb 161 tX11_draft := iv_tb_of (m := mX11_draft) rfl
set_option maxRecDepth 10000 in
theorem gX11_draft : PG.2 161 = some mX11_draft := iv_pi_of (t := tX11_draft) rfl (by decide)
def FX11_draft_b19 (N : Nat) (s : iv_M)   : Option (Int × iv_M) := (some ((-1), s))
set_option maxRecDepth 10000 in
set_option maxHeartbeats 4000000 in
theorem RX11_draft_b19 {d N nc Ls : Nat} {Xs : Nat → Int32} (hd : 2 ≤ d) {h : iv_H} {s : iv_M} (hR : Rep nc Ls Xs h s)   {r : Int × iv_M} {Q : Option Value → iv_H → Prop} (hq : ∀ (z : Int32) (h1 : iv_H), z.toInt = r.1 → Rep nc Ls Xs h1 r.2 → Q (some (.int z)) h1) (e : FX11_draft_b19 N s   = some r) : Rn d 161 (some .int) 19 [none, none] [] h Q := by
  have hT := hX11_draft
  unfold FX11_draft_b19 at e
  refine Rn.n hT 1 (pc' := 20) (L' := [none, none]) (st' := [.int (-1 : Int32)]) rfl ?_
  obtain rfl := Option.some.inj e
  exact Rn.ret hT rfl rfl rfl (hq (-1 : Int32) h L32_m1 hR)
def FX11_draft (N : Nat) (s : iv_M) (q0 : Nat) (x1 : Int) : Option (Int × iv_M) := (if (s ((s q0 4).toNat) 0) = 0 then (FX11_draft_b19 N s) else (if x1 < 0 then (FX11_draft_b19 N s) else (if x1 < 4 then ((FX2_keepDraft N s ((s q0 4).toNat) x1 ((s q0 4).toNat + 1)).bind fun s_1990 => ((pt s_1990 q0 15 (w32 ((s_1990 q0 15) + 1))).bind fun s_1992 => ((FX1_mismatches N s_1992 ((s_1992 q0 4).toNat + 1)).bind fun v_1994 => (some (v_1994, s_1992))))) else (FX11_draft_b19 N s))))
set_option maxRecDepth 10000 in
set_option maxHeartbeats 4000000 in
theorem RX11_draft {d N nc Ls : Nat} {Xs : Nat → Int32} (hd : 3 ≤ d) {h : iv_H} {s : iv_M} (hR : Rep nc Ls Xs h s) {q0 : Nat} (t0 : T11 nc q0) {m1 : Int32} {x1 : Int} (p1 : m1.toInt = x1) {r : Int × iv_M} {Q : Option Value → iv_H → Prop} (e : FX11_draft N s q0 x1 = some r) (hq : ∀ (z : Int32) (h1 : iv_H), z.toInt = r.1 → Rep nc Ls Xs h1 r.2 → Q (some (.int z)) h1) : Cl d 161 [.ref q0, .int m1] h Q := by
  obtain ⟨d, rfl⟩ : ∃ k, d = k + 1 := ⟨d - 1, by omega⟩
  have hd : 2 ≤ d := by omega
  have hT := hX11_draft
  unfold FX11_draft at e
  refine Cl.into (by decide) gX11_draft rfl ?_
  show Rn d 161 (some .int) 0 [some (.ref q0), some (.int m1)] [] h Q
  refine Rn.n hT 1 (pc' := 1) (L' := [some (.ref q0), some (.int m1)]) (st' := [.ref q0]) rfl ?_
  refine Rn.hp hT rfl rfl (gR_hp (rp_gP (k := 4) hR (T11_o t0) rfl (nn_114 hR t0))) ?_
  obtain ⟨z_1985, g_1985, p_1985⟩ : ∃ z : Int32, gI h 2 0 ((s q0 4).toNat) = some z ∧ z.toInt = s ((s q0 4).toNat) 0 := rp_gI (k := 0) hR (T2_o (ty_114 hR t0)) rfl
  refine Rn.hp hT rfl rfl (gI_hp g_1985) ?_
  by_cases c_1986 : (s ((s q0 4).toNat) 0) = 0
  · rw [if_pos c_1986] at e
    refine Rn.bt hT rfl rfl rfl (decide_eq_true ((ti_e p_1985 L32_0).mpr c_1986)) ?_
    exact Rn.weak (ll_n (ll_n ll_e)) (RX11_draft_b19 hd hR hq e)
  · rw [if_neg c_1986] at e
    refine Rn.bf hT rfl rfl rfl (decide_eq_false (fun z => c_1986 ((ti_e p_1985 L32_0).mp z))) ?_
    refine Rn.n hT 1 (pc' := 11) (L' := [some (.ref q0), some (.int m1)]) (st' := [.int m1]) rfl ?_
    by_cases c_1987 : x1 < 0
    · rw [if_pos c_1987] at e
      refine Rn.bt hT rfl rfl rfl (decide_eq_true ((ti_l p1 L32_0).mpr c_1987)) ?_
      exact Rn.weak (ll_n (ll_n ll_e)) (RX11_draft_b19 hd hR hq e)
    · rw [if_neg c_1987] at e
      refine Rn.bf hT rfl rfl rfl (decide_eq_false (fun z => c_1987 ((ti_l p1 L32_0).mp z))) ?_
      refine Rn.n hT 2 (pc' := 16) (L' := [some (.ref q0), some (.int m1)]) (st' := [.int (4 : Int32), .int m1]) rfl ?_
      by_cases c_1988 : x1 < 4
      · rw [if_pos c_1988] at e
        refine Rn.bt hT rfl rfl rfl (decide_eq_true ((ti_l p1 L32_4).mpr c_1988)) ?_
        refine Rn.n hT 1 (pc' := 22) (L' := [some (.ref q0), some (.int m1)]) (st' := [.ref q0]) rfl ?_
        refine Rn.hp hT rfl rfl (gR_hp (rp_gP (k := 4) hR (T11_o t0) rfl (nn_114 hR t0))) ?_
        refine Rn.n hT 2 (pc' := 27) (L' := [some (.ref q0), some (.int m1)]) (st' := [.ref q0, .int m1, .ref ((s q0 4).toNat)]) rfl ?_
        refine Rn.hp hT rfl rfl (gR_hp (rp_gP (k := 4) hR (T11_o t0) rfl (nn_114 hR t0))) ?_
        refine Rn.hp hT rfl rfl (gR_hp (rp_gR hR (T2_o (ty_114 hR t0)) rfl)) ?_
        obtain ⟨s_1990, e_1989, e⟩ := Option.bind_eq_some_iff.mp e
        refine Rn.call hT rfl rfl rfl (Nat.le_of_ble_eq_true rfl) (rcv_v gX2_keepDraft (by omega) (rp_ck hR (T2_o (ty_114 hR t0)))) (RX2_keepDraft (by omega) hR (ty_114 hR t0) p1 (T2_9 (ty_114 hR t0)) e_1989 (fun h_1990 R_1990 => ?_))
        show Rn d _ _ 36 [some (.ref q0), some (.int m1)] [] h_1990 Q
        refine Rn.n hT 2 (pc' := 38) (L' := [some (.ref q0), some (.int m1)]) (st' := [.ref q0, .ref q0]) rfl ?_
        obtain ⟨z_1991, g_1991, p_1991⟩ : ∃ z : Int32, gI h_1990 11 15 q0 = some z ∧ z.toInt = s_1990 q0 15 := rp_gI (k := 15) R_1990 (T11_o t0) rfl
        refine Rn.hp hT rfl rfl (gI_hp g_1991) ?_
        refine Rn.n hT 2 (pc' := 43) (L' := [some (.ref q0), some (.int m1)]) (st' := [.int (z_1991 + (1 : Int32)), .ref q0]) rfl ?_
        obtain ⟨s_1992, e_1993, e⟩ := Option.bind_eq_some_iff.mp e
        obtain ⟨h_1992, g_1993, R_1992⟩ := rp_pI (ci := 11) (k := 15) R_1990 (T11_o t0) rfl rfl (ti_add p_1991 L32_1) e_1993
        refine Rn.hp hT rfl rfl (pV_hp rfl g_1993) ?_
        refine Rn.n hT 1 (pc' := 47) (L' := [some (.ref q0), some (.int m1)]) (st' := [.ref q0]) rfl ?_
        refine Rn.hp hT rfl rfl (gR_hp (rp_gP (k := 4) R_1992 (T11_o t0) rfl (nn_114 R_1992 t0))) ?_
        refine Rn.hp hT rfl rfl (gR_hp (rp_gR R_1992 (T2_o (ty_114 R_1992 t0)) rfl)) ?_
        obtain ⟨v_1994, e_1994, e⟩ := Option.bind_eq_some_iff.mp e
        refine Rn.call hT rfl rfl rfl (Nat.le_of_ble_eq_true rfl) (rcv_v gX1_mismatches (by omega) (rp_ck R_1992 (T1_o (T2_9 (ty_114 R_1992 t0))))) (RX1_mismatches (by omega) R_1992 (T2_9 (ty_114 R_1992 t0)) e_1994 (fun z_1994 p_1994 => ?_))
        show Rn d _ _ 56 [some (.ref q0), some (.int m1)] [.int z_1994] h_1992 Q
        obtain rfl := Option.some.inj e
        exact Rn.ret hT rfl rfl rfl (hq z_1994 h_1992 p_1994 R_1992)
      · rw [if_neg c_1988] at e
        refine Rn.bf hT rfl rfl rfl (decide_eq_false (fun z => c_1988 ((ti_l p1 L32_4).mp z))) ?_
        exact Rn.weak (ll_n (ll_n ll_e)) (RX11_draft_b19 hd hR hq e)
set_option maxRecDepth 10000 in
theorem hX11_redraw : iv_Tb 162 tX11_redraw := iv_tb_of (m := mX11_redraw) rfl
set_option maxRecDepth 10000 in
theorem gX11_redraw : PG.2 162 = some mX11_redraw := iv_pi_of (t := tX11_redraw) rfl (by decide)
def FX11_redraw_b47 (N : Nat) (s : iv_M)   : Option (Int × iv_M) := (some (0, s))
set_option maxRecDepth 10000 in
set_option maxHeartbeats 4000000 in
theorem RX11_redraw_b47 {d N nc Ls : Nat} {Xs : Nat → Int32} (hd : 5 ≤ d) {h : iv_H} {s : iv_M} (hR : Rep nc Ls Xs h s)   {r : Int × iv_M} {Q : Option Value → iv_H → Prop} (hq : ∀ (z : Int32) (h1 : iv_H), z.toInt = r.1 → Rep nc Ls Xs h1 r.2 → Q (some (.int z)) h1) (e : FX11_redraw_b47 N s   = some r) : Rn d 162 (some .boolean) 47 [none, none, none, none, none, none] [] h Q := by
  have hT := hX11_redraw
  unfold FX11_redraw_b47 at e
  refine Rn.n hT 1 (pc' := 48) (L' := [none, none, none, none, none, none]) (st' := [.int (0 : Int32)]) rfl ?_
  obtain rfl := Option.some.inj e
  exact Rn.ret hT rfl rfl rfl (hq (0 : Int32) h L32_0 hR)
def FX11_redraw (N : Nat) (s : iv_M) (q0 : Nat) (x1 : Int) (x2 : Int) (x3 : Int) (x4 : Int) : Option (Int × iv_M) := ((FX2_walkOf N s ((s q0 4).toNat) x2 x3 x4).bind fun v_1995 => ((FX2_hasDraft N s ((s q0 4).toNat) x1).bind fun v_1996 => (if v_1996 = 0 then (FX11_redraw_b47 N s) else (if v_1995 = (-1) then (FX11_redraw_b47 N s) else ((FX10_redraws N s (q0 + 81) ((s q0 4).toNat) x1 v_1995).bind fun r_1999 => (fun (v_1999 : Int) (s_2000 : iv_M) => (if v_1999 = 0 then (FX11_redraw_b47 N s_2000) else ((FX2_keepDraft N s_2000 ((s_2000 q0 4).toNat) x1 ((q0 + 81) + 1)).bind fun s_2003 => ((pt s_2003 q0 15 (w32 ((s_2003 q0 15) + 1))).bind fun s_2005 => (some (1, s_2005)))))) r_1999.1 r_1999.2)))))
set_option maxRecDepth 10000 in
set_option maxHeartbeats 4000000 in
theorem RX11_redraw {d N nc Ls : Nat} {Xs : Nat → Int32} (hd : 6 ≤ d) {h : iv_H} {s : iv_M} (hR : Rep nc Ls Xs h s) {q0 : Nat} (t0 : T11 nc q0) {m1 : Int32} {x1 : Int} (p1 : m1.toInt = x1) {m2 : Int32} {x2 : Int} (p2 : m2.toInt = x2) {m3 : Int32} {x3 : Int} (p3 : m3.toInt = x3) {m4 : Int32} {x4 : Int} (p4 : m4.toInt = x4) {r : Int × iv_M} {Q : Option Value → iv_H → Prop} (e : FX11_redraw N s q0 x1 x2 x3 x4 = some r) (hq : ∀ (z : Int32) (h1 : iv_H), z.toInt = r.1 → Rep nc Ls Xs h1 r.2 → Q (some (.int z)) h1) : Cl d 162 [.ref q0, .int m1, .int m2, .int m3, .int m4] h Q := by
  obtain ⟨d, rfl⟩ : ∃ k, d = k + 1 := ⟨d - 1, by omega⟩
  have hd : 5 ≤ d := by omega
  have hT := hX11_redraw
  unfold FX11_redraw at e
  refine Cl.into (by decide) gX11_redraw rfl ?_
  show Rn d 162 (some .boolean) 0 [some (.ref q0), some (.int m1), some (.int m2), some (.int m3), some (.int m4), none] [] h Q
  refine Rn.n hT 1 (pc' := 1) (L' := [some (.ref q0), some (.int m1), some (.int m2), some (.int m3), some (.int m4), none]) (st' := [.ref q0]) rfl ?_
  refine Rn.hp hT rfl rfl (gR_hp (rp_gP (k := 4) hR (T11_o t0) rfl (nn_114 hR t0))) ?_
  refine Rn.n hT 3 (pc' := 8) (L' := [some (.ref q0), some (.int m1), some (.int m2), some (.int m3), some (.int m4), none]) (st' := [.int m4, .int m3, .int m2, .ref ((s q0 4).toNat)]) rfl ?_
  obtain ⟨v_1995, e_1995, e⟩ := Option.bind_eq_some_iff.mp e
  refine Rn.call hT rfl rfl rfl (Nat.le_of_ble_eq_true rfl) (rcv_v gX2_walkOf (by omega) (rp_ck hR (T2_o (ty_114 hR t0)))) (RX2_walkOf (by omega) hR (ty_114 hR t0) p2 p3 p4 e_1995 (fun z_1995 p_1995 => ?_))
  show Rn d _ _ 11 [some (.ref q0), some (.int m1), some (.int m2), some (.int m3), some (.int m4), none] [.int z_1995] h Q
  refine Rn.n hT 2 (pc' := 14) (L' := [some (.ref q0), some (.int m1), some (.int m2), some (.int m3), some (.int m4), some (.int z_1995)]) (st' := [.ref q0]) rfl ?_
  refine Rn.hp hT rfl rfl (gR_hp (rp_gP (k := 4) hR (T11_o t0) rfl (nn_114 hR t0))) ?_
  refine Rn.n hT 1 (pc' := 18) (L' := [some (.ref q0), some (.int m1), some (.int m2), some (.int m3), some (.int m4), some (.int z_1995)]) (st' := [.int m1, .ref ((s q0 4).toNat)]) rfl ?_
  obtain ⟨v_1996, e_1996, e⟩ := Option.bind_eq_some_iff.mp e
  refine Rn.call hT rfl rfl rfl (Nat.le_of_ble_eq_true rfl) (rcv_v gX2_hasDraft (by omega) (rp_ck hR (T2_o (ty_114 hR t0)))) (RX2_hasDraft (by omega) hR (ty_114 hR t0) p1 e_1996 (fun z_1996 p_1996 => ?_))
  show Rn d _ _ 21 [some (.ref q0), some (.int m1), some (.int m2), some (.int m3), some (.int m4), some (.int z_1995)] [.int z_1996] h Q
  by_cases c_1997 : v_1996 = 0
  · rw [if_pos c_1997] at e
    refine Rn.bt hT rfl rfl rfl (decide_eq_true ((ti_e p_1996 L32_0).mpr c_1997)) ?_
    exact Rn.weak (ll_n (ll_n (ll_n (ll_n (ll_n (ll_n ll_e)))))) (RX11_redraw_b47 hd hR hq e)
  · rw [if_neg c_1997] at e
    refine Rn.bf hT rfl rfl rfl (decide_eq_false (fun z => c_1997 ((ti_e p_1996 L32_0).mp z))) ?_
    refine Rn.n hT 2 (pc' := 27) (L' := [some (.ref q0), some (.int m1), some (.int m2), some (.int m3), some (.int m4), some (.int z_1995)]) (st' := [.int (-1 : Int32), .int z_1995]) rfl ?_
    by_cases c_1998 : v_1995 = (-1)
    · rw [if_pos c_1998] at e
      refine Rn.bt hT rfl rfl rfl (decide_eq_true ((ti_e p_1995 L32_m1).mpr c_1998)) ?_
      exact Rn.weak (ll_n (ll_n (ll_n (ll_n (ll_n (ll_n ll_e)))))) (RX11_redraw_b47 hd hR hq e)
    · rw [if_neg c_1998] at e
      refine Rn.bf hT rfl rfl rfl (decide_eq_false (fun z => c_1998 ((ti_e p_1995 L32_m1).mp z))) ?_
      refine Rn.n hT 1 (pc' := 31) (L' := [some (.ref q0), some (.int m1), some (.int m2), some (.int m3), some (.int m4), some (.int z_1995)]) (st' := [.ref q0]) rfl ?_
      refine Rn.hp hT rfl rfl (gR_hp (rp_gR hR (T11_o t0) rfl)) ?_
      refine Rn.n hT 1 (pc' := 35) (L' := [some (.ref q0), some (.int m1), some (.int m2), some (.int m3), some (.int m4), some (.int z_1995)]) (st' := [.ref q0, .ref (q0 + 81)]) rfl ?_
      refine Rn.hp hT rfl rfl (gR_hp (rp_gP (k := 4) hR (T11_o t0) rfl (nn_114 hR t0))) ?_
      refine Rn.n hT 2 (pc' := 41) (L' := [some (.ref q0), some (.int m1), some (.int m2), some (.int m3), some (.int m4), some (.int z_1995)]) (st' := [.int z_1995, .int m1, .ref ((s q0 4).toNat), .ref (q0 + 81)]) rfl ?_
      obtain ⟨⟨v_1999, s_2000⟩, e_1999, e⟩ := Option.bind_eq_some_iff.mp e
      try dsimp only at e
      try dsimp only at e
      refine Rn.call hT rfl rfl rfl (Nat.le_of_ble_eq_true rfl) (rcv_v gX10_redraws (by omega) (rp_ck hR (T10_o (T11_11 t0)))) (RX10_redraws (by omega) hR (T11_11 t0) (ty_114 hR t0) p1 p_1995 e_1999 (fun z_1999 h_2000 p_1999 R_2000 => ?_))
      show Rn d _ _ 44 [some (.ref q0), some (.int m1), some (.int m2), some (.int m3), some (.int m4), some (.int z_1995)] [.int z_1999] h_2000 Q
      by_cases c_2001 : v_1999 = 0
      · rw [if_pos c_2001] at e
        refine Rn.bf hT rfl rfl rfl (decide_eq_false (fun z => z ((ti_e p_1999 L32_0).mpr c_2001))) ?_
        exact Rn.weak (ll_n (ll_n (ll_n (ll_n (ll_n (ll_n ll_e)))))) (RX11_redraw_b47 hd R_2000 hq e)
      · rw [if_neg c_2001] at e
        refine Rn.bt hT rfl rfl rfl (decide_eq_true (fun z => c_2001 ((ti_e p_1999 L32_0).mp z))) ?_
        refine Rn.n hT 1 (pc' := 50) (L' := [some (.ref q0), some (.int m1), some (.int m2), some (.int m3), some (.int m4), some (.int z_1995)]) (st' := [.ref q0]) rfl ?_
        refine Rn.hp hT rfl rfl (gR_hp (rp_gP (k := 4) R_2000 (T11_o t0) rfl (nn_114 R_2000 t0))) ?_
        refine Rn.n hT 2 (pc' := 55) (L' := [some (.ref q0), some (.int m1), some (.int m2), some (.int m3), some (.int m4), some (.int z_1995)]) (st' := [.ref q0, .int m1, .ref ((s_2000 q0 4).toNat)]) rfl ?_
        refine Rn.hp hT rfl rfl (gR_hp (rp_gR R_2000 (T11_o t0) rfl)) ?_
        refine Rn.hp hT rfl rfl (gR_hp (rp_gR R_2000 (T10_o (T11_11 t0)) rfl)) ?_
        obtain ⟨s_2003, e_2002, e⟩ := Option.bind_eq_some_iff.mp e
        refine Rn.call hT rfl rfl rfl (Nat.le_of_ble_eq_true rfl) (rcv_v gX2_keepDraft (by omega) (rp_ck R_2000 (T2_o (ty_114 R_2000 t0)))) (RX2_keepDraft (by omega) R_2000 (ty_114 R_2000 t0) p1 (T10_0 (T11_11 t0)) e_2002 (fun h_2003 R_2003 => ?_))
        show Rn d _ _ 64 [some (.ref q0), some (.int m1), some (.int m2), some (.int m3), some (.int m4), some (.int z_1995)] [] h_2003 Q
        refine Rn.n hT 2 (pc' := 66) (L' := [some (.ref q0), some (.int m1), some (.int m2), some (.int m3), some (.int m4), some (.int z_1995)]) (st' := [.ref q0, .ref q0]) rfl ?_
        obtain ⟨z_2004, g_2004, p_2004⟩ : ∃ z : Int32, gI h_2003 11 15 q0 = some z ∧ z.toInt = s_2003 q0 15 := rp_gI (k := 15) R_2003 (T11_o t0) rfl
        refine Rn.hp hT rfl rfl (gI_hp g_2004) ?_
        refine Rn.n hT 2 (pc' := 71) (L' := [some (.ref q0), some (.int m1), some (.int m2), some (.int m3), some (.int m4), some (.int z_1995)]) (st' := [.int (z_2004 + (1 : Int32)), .ref q0]) rfl ?_
        obtain ⟨s_2005, e_2006, e⟩ := Option.bind_eq_some_iff.mp e
        obtain ⟨h_2005, g_2006, R_2005⟩ := rp_pI (ci := 11) (k := 15) R_2003 (T11_o t0) rfl rfl (ti_add p_2004 L32_1) e_2006
        refine Rn.hp hT rfl rfl (pV_hp rfl g_2006) ?_
        refine Rn.n hT 1 (pc' := 75) (L' := [some (.ref q0), some (.int m1), some (.int m2), some (.int m3), some (.int m4), some (.int z_1995)]) (st' := [.int (1 : Int32)]) rfl ?_
        obtain rfl := Option.some.inj e
        exact Rn.ret hT rfl rfl rfl (hq (1 : Int32) h_2005 L32_1 R_2005)
set_option maxRecDepth 10000 in
theorem hX11_drafted : iv_Tb 163 tX11_drafted := iv_tb_of (m := mX11_drafted) rfl
set_option maxRecDepth 10000 in
theorem gX11_drafted : PG.2 163 = some mX11_drafted := iv_pi_of (t := tX11_drafted) rfl (by decide)
def FX11_drafted_b31 (N : Nat) (s : iv_M)   : Option (Int) := (some (-1))
set_option maxRecDepth 10000 in
set_option maxHeartbeats 4000000 in
theorem RX11_drafted_b31 {d N nc Ls : Nat} {Xs : Nat → Int32} (hd : 1 ≤ d) {h : iv_H} {s : iv_M} (hR : Rep nc Ls Xs h s)   {r : Int} {Q : Option Value → iv_H → Prop} (hq : ∀ (z : Int32), z.toInt = r → Q (some (.int z)) h) (e : FX11_drafted_b31 N s   = some r) : Rn d 163 (some .int) 31 [none, none, none, none] [] h Q := by
  have hT := hX11_drafted
  unfold FX11_drafted_b31 at e
  refine Rn.n hT 1 (pc' := 32) (L' := [none, none, none, none]) (st' := [.int (-1 : Int32)]) rfl ?_
  obtain rfl := Option.some.inj e
  exact Rn.ret hT rfl rfl rfl (hq (-1 : Int32) L32_m1)
def FX11_drafted_b58 (N : Nat) (s : iv_M)  (xs0 : Int) : Option (Int) := (some xs0)
set_option maxRecDepth 10000 in
set_option maxHeartbeats 4000000 in
theorem RX11_drafted_b58 {d N nc Ls : Nat} {Xs : Nat → Int32} (hd : 1 ≤ d) {h : iv_H} {s : iv_M} (hR : Rep nc Ls Xs h s)  {ms0 : Int32} {xs0 : Int} (ps0 : ms0.toInt = xs0) {r : Int} {Q : Option Value → iv_H → Prop} (hq : ∀ (z : Int32), z.toInt = r → Q (some (.int z)) h) (e : FX11_drafted_b58 N s  xs0 = some r) : Rn d 163 (some .int) 58 [none, none, none, none] [.int ms0] h Q := by
  have hT := hX11_drafted
  unfold FX11_drafted_b58 at e
  obtain rfl := Option.some.inj e
  exact Rn.ret hT rfl rfl rfl (hq ms0 ps0)
def FX11_drafted (N : Nat) (s : iv_M) (q0 : Nat) (x1 : Int) (x2 : Int) (x3 : Int) : Option (Int) := ((FX2_hasDraft N s ((s q0 4).toNat) x1).bind fun v_2007 => (if v_2007 = 0 then (FX11_drafted_b31 N s) else ((FX2_isRoom N s ((s q0 4).toNat) x2).bind fun v_2009 => (if v_2009 = 0 then (FX11_drafted_b31 N s) else (if x3 < 0 then (FX11_drafted_b31 N s) else (if x3 ≤ 1 then (if x3 = 0 then ((FX2_draftCell N s ((s q0 4).toNat) x1 x2).bind fun v_2015 => (FX11_drafted_b58 N s v_2015)) else ((FX2_draftTurn N s ((s q0 4).toNat) x1 x2).bind fun v_2014 => (FX11_drafted_b58 N s v_2014))) else (FX11_drafted_b31 N s)))))))
set_option maxRecDepth 10000 in
set_option maxHeartbeats 4000000 in
theorem RX11_drafted {d N nc Ls : Nat} {Xs : Nat → Int32} (hd : 2 ≤ d) {h : iv_H} {s : iv_M} (hR : Rep nc Ls Xs h s) {q0 : Nat} (t0 : T11 nc q0) {m1 : Int32} {x1 : Int} (p1 : m1.toInt = x1) {m2 : Int32} {x2 : Int} (p2 : m2.toInt = x2) {m3 : Int32} {x3 : Int} (p3 : m3.toInt = x3) {r : Int} {Q : Option Value → iv_H → Prop} (e : FX11_drafted N s q0 x1 x2 x3 = some r) (hq : ∀ (z : Int32), z.toInt = r → Q (some (.int z)) h) : Cl d 163 [.ref q0, .int m1, .int m2, .int m3] h Q := by
  obtain ⟨d, rfl⟩ : ∃ k, d = k + 1 := ⟨d - 1, by omega⟩
  have hd : 1 ≤ d := by omega
  have hT := hX11_drafted
  unfold FX11_drafted at e
  refine Cl.into (by decide) gX11_drafted rfl ?_
  show Rn d 163 (some .int) 0 [some (.ref q0), some (.int m1), some (.int m2), some (.int m3)] [] h Q
  refine Rn.n hT 1 (pc' := 1) (L' := [some (.ref q0), some (.int m1), some (.int m2), some (.int m3)]) (st' := [.ref q0]) rfl ?_
  refine Rn.hp hT rfl rfl (gR_hp (rp_gP (k := 4) hR (T11_o t0) rfl (nn_114 hR t0))) ?_
  refine Rn.n hT 1 (pc' := 5) (L' := [some (.ref q0), some (.int m1), some (.int m2), some (.int m3)]) (st' := [.int m1, .ref ((s q0 4).toNat)]) rfl ?_
  obtain ⟨v_2007, e_2007, e⟩ := Option.bind_eq_some_iff.mp e
  refine Rn.call hT rfl rfl rfl (Nat.le_of_ble_eq_true rfl) (rcv_v gX2_hasDraft (by omega) (rp_ck hR (T2_o (ty_114 hR t0)))) (RX2_hasDraft (by omega) hR (ty_114 hR t0) p1 e_2007 (fun z_2007 p_2007 => ?_))
  show Rn d _ _ 8 [some (.ref q0), some (.int m1), some (.int m2), some (.int m3)] [.int z_2007] h Q
  by_cases c_2008 : v_2007 = 0
  · rw [if_pos c_2008] at e
    refine Rn.bt hT rfl rfl rfl (decide_eq_true ((ti_e p_2007 L32_0).mpr c_2008)) ?_
    exact Rn.weak (ll_n (ll_n (ll_n (ll_n ll_e)))) (RX11_drafted_b31 hd hR hq e)
  · rw [if_neg c_2008] at e
    refine Rn.bf hT rfl rfl rfl (decide_eq_false (fun z => c_2008 ((ti_e p_2007 L32_0).mp z))) ?_
    refine Rn.n hT 1 (pc' := 12) (L' := [some (.ref q0), some (.int m1), some (.int m2), some (.int m3)]) (st' := [.ref q0]) rfl ?_
    refine Rn.hp hT rfl rfl (gR_hp (rp_gP (k := 4) hR (T11_o t0) rfl (nn_114 hR t0))) ?_
    refine Rn.n hT 1 (pc' := 16) (L' := [some (.ref q0), some (.int m1), some (.int m2), some (.int m3)]) (st' := [.int m2, .ref ((s q0 4).toNat)]) rfl ?_
    obtain ⟨v_2009, e_2009, e⟩ := Option.bind_eq_some_iff.mp e
    refine Rn.call hT rfl rfl rfl (Nat.le_of_ble_eq_true rfl) (rcv_v gX2_isRoom (by omega) (rp_ck hR (T2_o (ty_114 hR t0)))) (RX2_isRoom (by omega) hR (ty_114 hR t0) p2 e_2009 (fun z_2009 p_2009 => ?_))
    show Rn d _ _ 19 [some (.ref q0), some (.int m1), some (.int m2), some (.int m3)] [.int z_2009] h Q
    by_cases c_2010 : v_2009 = 0
    · rw [if_pos c_2010] at e
      refine Rn.bt hT rfl rfl rfl (decide_eq_true ((ti_e p_2009 L32_0).mpr c_2010)) ?_
      exact Rn.weak (ll_n (ll_n (ll_n (ll_n ll_e)))) (RX11_drafted_b31 hd hR hq e)
    · rw [if_neg c_2010] at e
      refine Rn.bf hT rfl rfl rfl (decide_eq_false (fun z => c_2010 ((ti_e p_2009 L32_0).mp z))) ?_
      refine Rn.n hT 1 (pc' := 23) (L' := [some (.ref q0), some (.int m1), some (.int m2), some (.int m3)]) (st' := [.int m3]) rfl ?_
      by_cases c_2011 : x3 < 0
      · rw [if_pos c_2011] at e
        refine Rn.bt hT rfl rfl rfl (decide_eq_true ((ti_l p3 L32_0).mpr c_2011)) ?_
        exact Rn.weak (ll_n (ll_n (ll_n (ll_n ll_e)))) (RX11_drafted_b31 hd hR hq e)
      · rw [if_neg c_2011] at e
        refine Rn.bf hT rfl rfl rfl (decide_eq_false (fun z => c_2011 ((ti_l p3 L32_0).mp z))) ?_
        refine Rn.n hT 2 (pc' := 28) (L' := [some (.ref q0), some (.int m1), some (.int m2), some (.int m3)]) (st' := [.int (1 : Int32), .int m3]) rfl ?_
        by_cases c_2012 : x3 ≤ 1
        · rw [if_pos c_2012] at e
          refine Rn.bt hT rfl rfl rfl (decide_eq_true ((ti_le p3 L32_1).mpr c_2012)) ?_
          refine Rn.n hT 1 (pc' := 34) (L' := [some (.ref q0), some (.int m1), some (.int m2), some (.int m3)]) (st' := [.int m3]) rfl ?_
          by_cases c_2013 : x3 = 0
          · rw [if_pos c_2013] at e
            refine Rn.bf hT rfl rfl rfl (decide_eq_false (fun z => z ((ti_e p3 L32_0).mpr c_2013))) ?_
            refine Rn.n hT 1 (pc' := 38) (L' := [some (.ref q0), some (.int m1), some (.int m2), some (.int m3)]) (st' := [.ref q0]) rfl ?_
            refine Rn.hp hT rfl rfl (gR_hp (rp_gP (k := 4) hR (T11_o t0) rfl (nn_114 hR t0))) ?_
            refine Rn.n hT 2 (pc' := 43) (L' := [some (.ref q0), some (.int m1), some (.int m2), some (.int m3)]) (st' := [.int m2, .int m1, .ref ((s q0 4).toNat)]) rfl ?_
            obtain ⟨v_2015, e_2015, e⟩ := Option.bind_eq_some_iff.mp e
            refine Rn.call hT rfl rfl rfl (Nat.le_of_ble_eq_true rfl) (rcv_v gX2_draftCell (by omega) (rp_ck hR (T2_o (ty_114 hR t0)))) (RX2_draftCell (by omega) hR (ty_114 hR t0) p1 p2 e_2015 (fun z_2015 p_2015 => ?_))
            show Rn d _ _ 46 [some (.ref q0), some (.int m1), some (.int m2), some (.int m3)] [.int z_2015] h Q
            refine Rn.n hT 1 (pc' := 58) (L' := [some (.ref q0), some (.int m1), some (.int m2), some (.int m3)]) (st' := [.int z_2015]) rfl ?_
            exact Rn.weak (ll_n (ll_n (ll_n (ll_n ll_e)))) (RX11_drafted_b58 hd hR p_2015 hq e)
          · rw [if_neg c_2013] at e
            refine Rn.bt hT rfl rfl rfl (decide_eq_true (fun z => c_2013 ((ti_e p3 L32_0).mp z))) ?_
            refine Rn.n hT 1 (pc' := 50) (L' := [some (.ref q0), some (.int m1), some (.int m2), some (.int m3)]) (st' := [.ref q0]) rfl ?_
            refine Rn.hp hT rfl rfl (gR_hp (rp_gP (k := 4) hR (T11_o t0) rfl (nn_114 hR t0))) ?_
            refine Rn.n hT 2 (pc' := 55) (L' := [some (.ref q0), some (.int m1), some (.int m2), some (.int m3)]) (st' := [.int m2, .int m1, .ref ((s q0 4).toNat)]) rfl ?_
            obtain ⟨v_2014, e_2014, e⟩ := Option.bind_eq_some_iff.mp e
            refine Rn.call hT rfl rfl rfl (Nat.le_of_ble_eq_true rfl) (rcv_v gX2_draftTurn (by omega) (rp_ck hR (T2_o (ty_114 hR t0)))) (RX2_draftTurn (by omega) hR (ty_114 hR t0) p1 p2 e_2014 (fun z_2014 p_2014 => ?_))
            show Rn d _ _ 58 [some (.ref q0), some (.int m1), some (.int m2), some (.int m3)] [.int z_2014] h Q
            exact Rn.weak (ll_n (ll_n (ll_n (ll_n ll_e)))) (RX11_drafted_b58 hd hR p_2014 hq e)
        · rw [if_neg c_2012] at e
          refine Rn.bf hT rfl rfl rfl (decide_eq_false (fun z => c_2012 ((ti_le p3 L32_1).mp z))) ?_
          exact Rn.weak (ll_n (ll_n (ll_n (ll_n ll_e)))) (RX11_drafted_b31 hd hR hq e)
set_option maxRecDepth 10000 in
theorem hX11_nights : iv_Tb 164 tX11_nights := iv_tb_of (m := mX11_nights) rfl
set_option maxRecDepth 10000 in
theorem gX11_nights : PG.2 164 = some mX11_nights := iv_pi_of (t := tX11_nights) rfl (by decide)
def FX11_nights (N : Nat) (s : iv_M) (q0 : Nat) (x1 : Int) : Option (Int × iv_M) := ((FX2_hasDraft N s ((s q0 4).toNat) x1).bind fun v_2016 => (if v_2016 = 0 then (some ((-1), s)) else ((FX11_ruleInForce N s q0).bind fun v_2018 => ((FX9_ask N s (q0 + 64) ((s q0 4).toNat) v_2018 x1 (s q0 15)).bind fun s_2021 => (some ((s_2021 (q0 + 64) 11), s_2021))))))
set_option maxRecDepth 10000 in
set_option maxHeartbeats 4000000 in
theorem RX11_nights {d N nc Ls : Nat} {Xs : Nat → Int32} (hd : 8 ≤ d) {h : iv_H} {s : iv_M} (hR : Rep nc Ls Xs h s) {q0 : Nat} (t0 : T11 nc q0) {m1 : Int32} {x1 : Int} (p1 : m1.toInt = x1) {r : Int × iv_M} {Q : Option Value → iv_H → Prop} (e : FX11_nights N s q0 x1 = some r) (hq : ∀ (z : Int32) (h1 : iv_H), z.toInt = r.1 → Rep nc Ls Xs h1 r.2 → Q (some (.int z)) h1) : Cl d 164 [.ref q0, .int m1] h Q := by
  obtain ⟨d, rfl⟩ : ∃ k, d = k + 1 := ⟨d - 1, by omega⟩
  have hd : 7 ≤ d := by omega
  have hT := hX11_nights
  unfold FX11_nights at e
  refine Cl.into (by decide) gX11_nights rfl ?_
  show Rn d 164 (some .int) 0 [some (.ref q0), some (.int m1)] [] h Q
  refine Rn.n hT 1 (pc' := 1) (L' := [some (.ref q0), some (.int m1)]) (st' := [.ref q0]) rfl ?_
  refine Rn.hp hT rfl rfl (gR_hp (rp_gP (k := 4) hR (T11_o t0) rfl (nn_114 hR t0))) ?_
  refine Rn.n hT 1 (pc' := 5) (L' := [some (.ref q0), some (.int m1)]) (st' := [.int m1, .ref ((s q0 4).toNat)]) rfl ?_
  obtain ⟨v_2016, e_2016, e⟩ := Option.bind_eq_some_iff.mp e
  refine Rn.call hT rfl rfl rfl (Nat.le_of_ble_eq_true rfl) (rcv_v gX2_hasDraft (by omega) (rp_ck hR (T2_o (ty_114 hR t0)))) (RX2_hasDraft (by omega) hR (ty_114 hR t0) p1 e_2016 (fun z_2016 p_2016 => ?_))
  show Rn d _ _ 8 [some (.ref q0), some (.int m1)] [.int z_2016] h Q
  by_cases c_2017 : v_2016 = 0
  · rw [if_pos c_2017] at e
    refine Rn.bf hT rfl rfl rfl (decide_eq_false (fun z => z ((ti_e p_2016 L32_0).mpr c_2017))) ?_
    refine Rn.n hT 1 (pc' := 12) (L' := [some (.ref q0), some (.int m1)]) (st' := [.int (-1 : Int32)]) rfl ?_
    obtain rfl := Option.some.inj e
    exact Rn.ret hT rfl rfl rfl (hq (-1 : Int32) h L32_m1 hR)
  · rw [if_neg c_2017] at e
    refine Rn.bt hT rfl rfl rfl (decide_eq_true (fun z => c_2017 ((ti_e p_2016 L32_0).mp z))) ?_
    refine Rn.n hT 1 (pc' := 14) (L' := [some (.ref q0), some (.int m1)]) (st' := [.ref q0]) rfl ?_
    refine Rn.hp hT rfl rfl (gR_hp (rp_gR hR (T11_o t0) rfl)) ?_
    refine Rn.n hT 1 (pc' := 18) (L' := [some (.ref q0), some (.int m1)]) (st' := [.ref q0, .ref (q0 + 64)]) rfl ?_
    refine Rn.hp hT rfl rfl (gR_hp (rp_gP (k := 4) hR (T11_o t0) rfl (nn_114 hR t0))) ?_
    refine Rn.n hT 1 (pc' := 22) (L' := [some (.ref q0), some (.int m1)]) (st' := [.ref q0, .ref ((s q0 4).toNat), .ref (q0 + 64)]) rfl ?_
    obtain ⟨v_2018, e_2018, e⟩ := Option.bind_eq_some_iff.mp e
    refine Rn.call hT rfl rfl rfl (Nat.le_of_ble_eq_true rfl) (rcv_v gX11_ruleInForce (by omega) (rp_ck hR (T11_o t0))) (RX11_ruleInForce (by omega) hR t0 e_2018 (fun t_2018 => ?_))
    show Rn d _ _ 25 [some (.ref q0), some (.int m1)] [iv_rf (rvo v_2018), .ref ((s q0 4).toNat), .ref (q0 + 64)] h Q
    refine Rn.n hT 2 (pc' := 27) (L' := [some (.ref q0), some (.int m1)]) (st' := [.ref q0, .int m1, iv_rf (rvo v_2018), .ref ((s q0 4).toNat), .ref (q0 + 64)]) rfl ?_
    obtain ⟨z_2019, g_2019, p_2019⟩ : ∃ z : Int32, gI h 11 15 q0 = some z ∧ z.toInt = s q0 15 := rp_gI (k := 15) hR (T11_o t0) rfl
    refine Rn.hp hT rfl rfl (gI_hp g_2019) ?_
    obtain ⟨s_2021, e_2020, e⟩ := Option.bind_eq_some_iff.mp e
    refine Rn.call hT rfl rfl rfl (Nat.le_of_ble_eq_true rfl) (rcv_v gX9_ask (by omega) (rp_ck hR (T9_o (T11_10 t0)))) (RX9_ask (by omega) hR (T11_10 t0) (ty_114 hR t0) t_2018 p1 p_2019 e_2020 (fun h_2021 R_2021 => ?_))
    show Rn d _ _ 33 [some (.ref q0), some (.int m1)] [] h_2021 Q
    refine Rn.n hT 1 (pc' := 34) (L' := [some (.ref q0), some (.int m1)]) (st' := [.ref q0]) rfl ?_
    refine Rn.hp hT rfl rfl (gR_hp (rp_gR R_2021 (T11_o t0) rfl)) ?_
    obtain ⟨z_2022, g_2022, p_2022⟩ : ∃ z : Int32, gI h_2021 9 11 (q0 + 64) = some z ∧ z.toInt = s_2021 (q0 + 64) 11 := rp_gI (k := 11) R_2021 (T9_o (T11_10 t0)) rfl
    refine Rn.hp hT rfl rfl (gI_hp g_2022) ?_
    obtain rfl := Option.some.inj e
    exact Rn.ret hT rfl rfl rfl (hq z_2022 h_2021 p_2022 R_2021)
set_option maxRecDepth 10000 in
theorem hX11_row : iv_Tb 165 tX11_row := iv_tb_of (m := mX11_row) rfl
set_option maxRecDepth 10000 in
theorem gX11_row : PG.2 165 = some mX11_row := iv_pi_of (t := tX11_row) rfl (by decide)
def FX11_row_b24 (N : Nat) (s : iv_M)   : Option (Int × iv_M) := (some ((-1), s))
set_option maxRecDepth 10000 in
set_option maxHeartbeats 4000000 in
theorem RX11_row_b24 {d N nc Ls : Nat} {Xs : Nat → Int32} (hd : 7 ≤ d) {h : iv_H} {s : iv_M} (hR : Rep nc Ls Xs h s)   {r : Int × iv_M} {Q : Option Value → iv_H → Prop} (hq : ∀ (z : Int32) (h1 : iv_H), z.toInt = r.1 → Rep nc Ls Xs h1 r.2 → Q (some (.int z)) h1) (e : FX11_row_b24 N s   = some r) : Rn d 165 (some .int) 24 [none, none, none, none] [] h Q := by
  have hT := hX11_row
  unfold FX11_row_b24 at e
  refine Rn.n hT 1 (pc' := 25) (L' := [none, none, none, none]) (st' := [.int (-1 : Int32)]) rfl ?_
  obtain rfl := Option.some.inj e
  exact Rn.ret hT rfl rfl rfl (hq (-1 : Int32) h L32_m1 hR)
def FX11_row_b105 (N : Nat) (s : iv_M)  (xs0 : Int) : Option (Int × iv_M) := (some (xs0, s))
set_option maxRecDepth 10000 in
set_option maxHeartbeats 4000000 in
theorem RX11_row_b105 {d N nc Ls : Nat} {Xs : Nat → Int32} (hd : 7 ≤ d) {h : iv_H} {s : iv_M} (hR : Rep nc Ls Xs h s)  {ms0 : Int32} {xs0 : Int} (ps0 : ms0.toInt = xs0) {r : Int × iv_M} {Q : Option Value → iv_H → Prop} (hq : ∀ (z : Int32) (h1 : iv_H), z.toInt = r.1 → Rep nc Ls Xs h1 r.2 → Q (some (.int z)) h1) (e : FX11_row_b105 N s  xs0 = some r) : Rn d 165 (some .int) 105 [none, none, none, none] [.int ms0] h Q := by
  have hT := hX11_row
  unfold FX11_row_b105 at e
  obtain rfl := Option.some.inj e
  exact Rn.ret hT rfl rfl rfl (hq ms0 h ps0 hR)
def FX11_row_b103 (N : Nat) (s : iv_M)   : Option (Int × iv_M) := (FX11_row_b105 N s (-2))
set_option maxRecDepth 10000 in
set_option maxHeartbeats 4000000 in
theorem RX11_row_b103 {d N nc Ls : Nat} {Xs : Nat → Int32} (hd : 7 ≤ d) {h : iv_H} {s : iv_M} (hR : Rep nc Ls Xs h s)   {r : Int × iv_M} {Q : Option Value → iv_H → Prop} (hq : ∀ (z : Int32) (h1 : iv_H), z.toInt = r.1 → Rep nc Ls Xs h1 r.2 → Q (some (.int z)) h1) (e : FX11_row_b103 N s   = some r) : Rn d 165 (some .int) 103 [none, none, none, none] [] h Q := by
  have hT := hX11_row
  unfold FX11_row_b103 at e
  refine Rn.n hT 1 (pc' := 105) (L' := [none, none, none, none]) (st' := [.int (-2 : Int32)]) rfl ?_
  exact Rn.weak (ll_n (ll_n (ll_n (ll_n ll_e)))) (RX11_row_b105 hd hR L32_m2 hq e)
def FX11_row (N : Nat) (s : iv_M) (q0 : Nat) (x1 : Int) (x2 : Int) (x3 : Int) : Option (Int × iv_M) := ((FX2_hasDraft N s ((s q0 4).toNat) x1).bind fun v_2023 => (if v_2023 = 0 then (FX11_row_b24 N s) else (if x2 < 0 then (FX11_row_b24 N s) else (if x3 < 0 then (FX11_row_b24 N s) else (if x3 ≤ 2 then ((FX11_ruleInForce N s q0).bind fun v_2028 => ((FX9_ask N s (q0 + 64) ((s q0 4).toNat) v_2028 x1 (s q0 15)).bind fun s_2031 => (if 0 ≤ (s_2031 (q0 + 64) 11) then (if (s_2031 (q0 + 64) 11) ≤ x2 then (FX11_row_b103 N s_2031) else (if 1500 ≤ x2 then (FX11_row_b103 N s_2031) else ((rd s_2031 ((q0 + 64) + 16) 1500 x2).bind fun v_2038 => ((FX11_partOf N s_2031 v_2038 x3).bind fun v_2039 => (FX11_row_b105 N s_2031 v_2039))))) else (some ((s_2031 (q0 + 64) 11), s_2031))))) else (FX11_row_b24 N s))))))
set_option maxRecDepth 10000 in
set_option maxHeartbeats 4000000 in
theorem RX11_row {d N nc Ls : Nat} {Xs : Nat → Int32} (hd : 8 ≤ d) {h : iv_H} {s : iv_M} (hR : Rep nc Ls Xs h s) {q0 : Nat} (t0 : T11 nc q0) {m1 : Int32} {x1 : Int} (p1 : m1.toInt = x1) {m2 : Int32} {x2 : Int} (p2 : m2.toInt = x2) {m3 : Int32} {x3 : Int} (p3 : m3.toInt = x3) {r : Int × iv_M} {Q : Option Value → iv_H → Prop} (e : FX11_row N s q0 x1 x2 x3 = some r) (hq : ∀ (z : Int32) (h1 : iv_H), z.toInt = r.1 → Rep nc Ls Xs h1 r.2 → Q (some (.int z)) h1) : Cl d 165 [.ref q0, .int m1, .int m2, .int m3] h Q := by
  obtain ⟨d, rfl⟩ : ∃ k, d = k + 1 := ⟨d - 1, by omega⟩
  have hd : 7 ≤ d := by omega
  have hT := hX11_row
  unfold FX11_row at e
  refine Cl.into (by decide) gX11_row rfl ?_
  show Rn d 165 (some .int) 0 [some (.ref q0), some (.int m1), some (.int m2), some (.int m3)] [] h Q
  refine Rn.n hT 1 (pc' := 1) (L' := [some (.ref q0), some (.int m1), some (.int m2), some (.int m3)]) (st' := [.ref q0]) rfl ?_
  refine Rn.hp hT rfl rfl (gR_hp (rp_gP (k := 4) hR (T11_o t0) rfl (nn_114 hR t0))) ?_
  refine Rn.n hT 1 (pc' := 5) (L' := [some (.ref q0), some (.int m1), some (.int m2), some (.int m3)]) (st' := [.int m1, .ref ((s q0 4).toNat)]) rfl ?_
  obtain ⟨v_2023, e_2023, e⟩ := Option.bind_eq_some_iff.mp e
  refine Rn.call hT rfl rfl rfl (Nat.le_of_ble_eq_true rfl) (rcv_v gX2_hasDraft (by omega) (rp_ck hR (T2_o (ty_114 hR t0)))) (RX2_hasDraft (by omega) hR (ty_114 hR t0) p1 e_2023 (fun z_2023 p_2023 => ?_))
  show Rn d _ _ 8 [some (.ref q0), some (.int m1), some (.int m2), some (.int m3)] [.int z_2023] h Q
  by_cases c_2024 : v_2023 = 0
  · rw [if_pos c_2024] at e
    refine Rn.bt hT rfl rfl rfl (decide_eq_true ((ti_e p_2023 L32_0).mpr c_2024)) ?_
    exact Rn.weak (ll_n (ll_n (ll_n (ll_n ll_e)))) (RX11_row_b24 hd hR hq e)
  · rw [if_neg c_2024] at e
    refine Rn.bf hT rfl rfl rfl (decide_eq_false (fun z => c_2024 ((ti_e p_2023 L32_0).mp z))) ?_
    refine Rn.n hT 1 (pc' := 12) (L' := [some (.ref q0), some (.int m1), some (.int m2), some (.int m3)]) (st' := [.int m2]) rfl ?_
    by_cases c_2025 : x2 < 0
    · rw [if_pos c_2025] at e
      refine Rn.bt hT rfl rfl rfl (decide_eq_true ((ti_l p2 L32_0).mpr c_2025)) ?_
      exact Rn.weak (ll_n (ll_n (ll_n (ll_n ll_e)))) (RX11_row_b24 hd hR hq e)
    · rw [if_neg c_2025] at e
      refine Rn.bf hT rfl rfl rfl (decide_eq_false (fun z => c_2025 ((ti_l p2 L32_0).mp z))) ?_
      refine Rn.n hT 1 (pc' := 16) (L' := [some (.ref q0), some (.int m1), some (.int m2), some (.int m3)]) (st' := [.int m3]) rfl ?_
      by_cases c_2026 : x3 < 0
      · rw [if_pos c_2026] at e
        refine Rn.bt hT rfl rfl rfl (decide_eq_true ((ti_l p3 L32_0).mpr c_2026)) ?_
        exact Rn.weak (ll_n (ll_n (ll_n (ll_n ll_e)))) (RX11_row_b24 hd hR hq e)
      · rw [if_neg c_2026] at e
        refine Rn.bf hT rfl rfl rfl (decide_eq_false (fun z => c_2026 ((ti_l p3 L32_0).mp z))) ?_
        refine Rn.n hT 2 (pc' := 21) (L' := [some (.ref q0), some (.int m1), some (.int m2), some (.int m3)]) (st' := [.int (2 : Int32), .int m3]) rfl ?_
        by_cases c_2027 : x3 ≤ 2
        · rw [if_pos c_2027] at e
          refine Rn.bt hT rfl rfl rfl (decide_eq_true ((ti_le p3 L32_2).mpr c_2027)) ?_
          refine Rn.n hT 1 (pc' := 27) (L' := [some (.ref q0), some (.int m1), some (.int m2), some (.int m3)]) (st' := [.ref q0]) rfl ?_
          refine Rn.hp hT rfl rfl (gR_hp (rp_gR hR (T11_o t0) rfl)) ?_
          refine Rn.n hT 1 (pc' := 31) (L' := [some (.ref q0), some (.int m1), some (.int m2), some (.int m3)]) (st' := [.ref q0, .ref (q0 + 64)]) rfl ?_
          refine Rn.hp hT rfl rfl (gR_hp (rp_gP (k := 4) hR (T11_o t0) rfl (nn_114 hR t0))) ?_
          refine Rn.n hT 1 (pc' := 35) (L' := [some (.ref q0), some (.int m1), some (.int m2), some (.int m3)]) (st' := [.ref q0, .ref ((s q0 4).toNat), .ref (q0 + 64)]) rfl ?_
          obtain ⟨v_2028, e_2028, e⟩ := Option.bind_eq_some_iff.mp e
          refine Rn.call hT rfl rfl rfl (Nat.le_of_ble_eq_true rfl) (rcv_v gX11_ruleInForce (by omega) (rp_ck hR (T11_o t0))) (RX11_ruleInForce (by omega) hR t0 e_2028 (fun t_2028 => ?_))
          show Rn d _ _ 38 [some (.ref q0), some (.int m1), some (.int m2), some (.int m3)] [iv_rf (rvo v_2028), .ref ((s q0 4).toNat), .ref (q0 + 64)] h Q
          refine Rn.n hT 2 (pc' := 40) (L' := [some (.ref q0), some (.int m1), some (.int m2), some (.int m3)]) (st' := [.ref q0, .int m1, iv_rf (rvo v_2028), .ref ((s q0 4).toNat), .ref (q0 + 64)]) rfl ?_
          obtain ⟨z_2029, g_2029, p_2029⟩ : ∃ z : Int32, gI h 11 15 q0 = some z ∧ z.toInt = s q0 15 := rp_gI (k := 15) hR (T11_o t0) rfl
          refine Rn.hp hT rfl rfl (gI_hp g_2029) ?_
          obtain ⟨s_2031, e_2030, e⟩ := Option.bind_eq_some_iff.mp e
          refine Rn.call hT rfl rfl rfl (Nat.le_of_ble_eq_true rfl) (rcv_v gX9_ask (by omega) (rp_ck hR (T9_o (T11_10 t0)))) (RX9_ask (by omega) hR (T11_10 t0) (ty_114 hR t0) t_2028 p1 p_2029 e_2030 (fun h_2031 R_2031 => ?_))
          show Rn d _ _ 46 [some (.ref q0), some (.int m1), some (.int m2), some (.int m3)] [] h_2031 Q
          refine Rn.n hT 1 (pc' := 47) (L' := [some (.ref q0), some (.int m1), some (.int m2), some (.int m3)]) (st' := [.ref q0]) rfl ?_
          refine Rn.hp hT rfl rfl (gR_hp (rp_gR R_2031 (T11_o t0) rfl)) ?_
          obtain ⟨z_2032, g_2032, p_2032⟩ : ∃ z : Int32, gI h_2031 9 11 (q0 + 64) = some z ∧ z.toInt = s_2031 (q0 + 64) 11 := rp_gI (k := 11) R_2031 (T9_o (T11_10 t0)) rfl
          refine Rn.hp hT rfl rfl (gI_hp g_2032) ?_
          by_cases c_2033 : 0 ≤ (s_2031 (q0 + 64) 11)
          · rw [if_pos c_2033] at e
            refine Rn.bt hT rfl rfl rfl (decide_eq_true ((ti_le L32_0 p_2032).mpr c_2033)) ?_
            refine Rn.n hT 2 (pc' := 66) (L' := [some (.ref q0), some (.int m1), some (.int m2), some (.int m3)]) (st' := [.ref q0, .int m2]) rfl ?_
            refine Rn.hp hT rfl rfl (gR_hp (rp_gR R_2031 (T11_o t0) rfl)) ?_
            obtain ⟨z_2034, g_2034, p_2034⟩ : ∃ z : Int32, gI h_2031 9 11 (q0 + 64) = some z ∧ z.toInt = s_2031 (q0 + 64) 11 := rp_gI (k := 11) R_2031 (T9_o (T11_10 t0)) rfl
            refine Rn.hp hT rfl rfl (gI_hp g_2034) ?_
            by_cases c_2035 : (s_2031 (q0 + 64) 11) ≤ x2
            · rw [if_pos c_2035] at e
              refine Rn.bt hT rfl rfl rfl (decide_eq_true ((ti_le p_2034 p2).mpr c_2035)) ?_
              exact Rn.weak (ll_n (ll_n (ll_n (ll_n ll_e)))) (RX11_row_b103 hd R_2031 hq e)
            · rw [if_neg c_2035] at e
              refine Rn.bf hT rfl rfl rfl (decide_eq_false (fun z => c_2035 ((ti_le p_2034 p2).mp z))) ?_
              refine Rn.n hT 2 (pc' := 77) (L' := [some (.ref q0), some (.int m1), some (.int m2), some (.int m3)]) (st' := [.ref q0, .int m2]) rfl ?_
              refine Rn.hp hT rfl rfl (gR_hp (rp_gR R_2031 (T11_o t0) rfl)) ?_
              refine Rn.hp hT rfl rfl (gR_hp (rp_gR R_2031 (T9_o (T11_10 t0)) rfl)) ?_
              obtain ⟨z_2036, g_2036, p_2036⟩ : ∃ z : Int32, aL h_2031 ((q0 + 64) + 16) = some z ∧ z.toInt = 1500 := rp_aL R_2031 (T9_12 (T11_10 t0)) (Or.inl rfl) (T9_12l (T11_10 t0))
              refine Rn.hp hT rfl rfl (aL_hp g_2036) ?_
              by_cases c_2037 : 1500 ≤ x2
              · rw [if_pos c_2037] at e
                refine Rn.bt hT rfl rfl rfl (decide_eq_true ((ti_le p_2036 p2).mpr c_2037)) ?_
                exact Rn.weak (ll_n (ll_n (ll_n (ll_n ll_e)))) (RX11_row_b103 hd R_2031 hq e)
              · rw [if_neg c_2037] at e
                refine Rn.bf hT rfl rfl rfl (decide_eq_false (fun z => c_2037 ((ti_le p_2036 p2).mp z))) ?_
                refine Rn.n hT 1 (pc' := 88) (L' := [some (.ref q0), some (.int m1), some (.int m2), some (.int m3)]) (st' := [.ref q0]) rfl ?_
                refine Rn.hp hT rfl rfl (gR_hp (rp_gR R_2031 (T11_o t0) rfl)) ?_
                refine Rn.hp hT rfl rfl (gR_hp (rp_gR R_2031 (T9_o (T11_10 t0)) rfl)) ?_
                refine Rn.n hT 1 (pc' := 95) (L' := [some (.ref q0), some (.int m1), some (.int m2), some (.int m3)]) (st' := [.int m2, .ref ((q0 + 64) + 16)]) rfl ?_
                obtain ⟨v_2038, e_2038, e⟩ := Option.bind_eq_some_iff.mp e
                obtain ⟨z_2038, g_2038, p_2038⟩ := rp_aI R_2031 (T9_12 (T11_10 t0)) (T9_12l (T11_10 t0)) p2 e_2038
                refine Rn.hp hT rfl rfl (aI_hp g_2038) ?_
                refine Rn.n hT 1 (pc' := 97) (L' := [some (.ref q0), some (.int m1), some (.int m2), some (.int m3)]) (st' := [.int m3, .int z_2038]) rfl ?_
                obtain ⟨v_2039, e_2039, e⟩ := Option.bind_eq_some_iff.mp e
                refine Rn.call hT rfl rfl rfl (Nat.le_of_ble_eq_true rfl) rfl (RX11_partOf (by omega) R_2031 p_2038 p3 e_2039 (fun z_2039 p_2039 => ?_))
                show Rn d _ _ 100 [some (.ref q0), some (.int m1), some (.int m2), some (.int m3)] [.int z_2039] h_2031 Q
                refine Rn.n hT 1 (pc' := 105) (L' := [some (.ref q0), some (.int m1), some (.int m2), some (.int m3)]) (st' := [.int z_2039]) rfl ?_
                exact Rn.weak (ll_n (ll_n (ll_n (ll_n ll_e)))) (RX11_row_b105 hd R_2031 p_2039 hq e)
          · rw [if_neg c_2033] at e
            refine Rn.bf hT rfl rfl rfl (decide_eq_false (fun z => c_2033 ((ti_le L32_0 p_2032).mp z))) ?_
            refine Rn.n hT 1 (pc' := 57) (L' := [some (.ref q0), some (.int m1), some (.int m2), some (.int m3)]) (st' := [.ref q0]) rfl ?_
            refine Rn.hp hT rfl rfl (gR_hp (rp_gR R_2031 (T11_o t0) rfl)) ?_
            obtain ⟨z_2040, g_2040, p_2040⟩ : ∃ z : Int32, gI h_2031 9 11 (q0 + 64) = some z ∧ z.toInt = s_2031 (q0 + 64) 11 := rp_gI (k := 11) R_2031 (T9_o (T11_10 t0)) rfl
            refine Rn.hp hT rfl rfl (gI_hp g_2040) ?_
            obtain rfl := Option.some.inj e
            exact Rn.ret hT rfl rfl rfl (hq z_2040 h_2031 p_2040 R_2031)
        · rw [if_neg c_2027] at e
          refine Rn.bf hT rfl rfl rfl (decide_eq_false (fun z => c_2027 ((ti_le p3 L32_2).mp z))) ?_
          exact Rn.weak (ll_n (ll_n (ll_n (ll_n ll_e)))) (RX11_row_b24 hd hR hq e)
set_option maxRecDepth 10000 in
theorem hX11_marks : iv_Tb 166 tX11_marks := iv_tb_of (m := mX11_marks) rfl
set_option maxRecDepth 10000 in
theorem gX11_marks : PG.2 166 = some mX11_marks := iv_pi_of (t := tX11_marks) rfl (by decide)
def FX11_marks_b27 (N : Nat) (s : iv_M)  (xs0 : Int) : Option (Int × iv_M) := (some (xs0, s))
set_option maxRecDepth 10000 in
set_option maxHeartbeats 4000000 in
theorem RX11_marks_b27 {d N nc Ls : Nat} {Xs : Nat → Int32} (hd : 6 ≤ d) {h : iv_H} {s : iv_M} (hR : Rep nc Ls Xs h s)  {ms0 : Int32} {xs0 : Int} (ps0 : ms0.toInt = xs0) {r : Int × iv_M} {Q : Option Value → iv_H → Prop} (hq : ∀ (z : Int32) (h1 : iv_H), z.toInt = r.1 → Rep nc Ls Xs h1 r.2 → Q (some (.int z)) h1) (e : FX11_marks_b27 N s  xs0 = some r) : Rn d 166 (some .int) 27 [none, none] [.int ms0] h Q := by
  have hT := hX11_marks
  unfold FX11_marks_b27 at e
  obtain rfl := Option.some.inj e
  exact Rn.ret hT rfl rfl rfl (hq ms0 h ps0 hR)
def FX11_marks (N : Nat) (s : iv_M) (q0 : Nat) (x1 : Int) : Option (Int × iv_M) := ((FX2_hasDraft N s ((s q0 4).toNat) x1).bind fun v_2041 => (if v_2041 = 0 then (FX11_marks_b27 N s (-1)) else ((FX9_marksOf N s (q0 + 64) ((s q0 4).toNat) x1).bind fun r_2043 => (fun (v_2043 : Int) (s_2044 : iv_M) => (FX11_marks_b27 N s_2044 v_2043)) r_2043.1 r_2043.2)))
set_option maxRecDepth 10000 in
set_option maxHeartbeats 4000000 in
theorem RX11_marks {d N nc Ls : Nat} {Xs : Nat → Int32} (hd : 7 ≤ d) {h : iv_H} {s : iv_M} (hR : Rep nc Ls Xs h s) {q0 : Nat} (t0 : T11 nc q0) {m1 : Int32} {x1 : Int} (p1 : m1.toInt = x1) {r : Int × iv_M} {Q : Option Value → iv_H → Prop} (e : FX11_marks N s q0 x1 = some r) (hq : ∀ (z : Int32) (h1 : iv_H), z.toInt = r.1 → Rep nc Ls Xs h1 r.2 → Q (some (.int z)) h1) : Cl d 166 [.ref q0, .int m1] h Q := by
  obtain ⟨d, rfl⟩ : ∃ k, d = k + 1 := ⟨d - 1, by omega⟩
  have hd : 6 ≤ d := by omega
  have hT := hX11_marks
  unfold FX11_marks at e
  refine Cl.into (by decide) gX11_marks rfl ?_
  show Rn d 166 (some .int) 0 [some (.ref q0), some (.int m1)] [] h Q
  refine Rn.n hT 1 (pc' := 1) (L' := [some (.ref q0), some (.int m1)]) (st' := [.ref q0]) rfl ?_
  refine Rn.hp hT rfl rfl (gR_hp (rp_gP (k := 4) hR (T11_o t0) rfl (nn_114 hR t0))) ?_
  refine Rn.n hT 1 (pc' := 5) (L' := [some (.ref q0), some (.int m1)]) (st' := [.int m1, .ref ((s q0 4).toNat)]) rfl ?_
  obtain ⟨v_2041, e_2041, e⟩ := Option.bind_eq_some_iff.mp e
  refine Rn.call hT rfl rfl rfl (Nat.le_of_ble_eq_true rfl) (rcv_v gX2_hasDraft (by omega) (rp_ck hR (T2_o (ty_114 hR t0)))) (RX2_hasDraft (by omega) hR (ty_114 hR t0) p1 e_2041 (fun z_2041 p_2041 => ?_))
  show Rn d _ _ 8 [some (.ref q0), some (.int m1)] [.int z_2041] h Q
  by_cases c_2042 : v_2041 = 0
  · rw [if_pos c_2042] at e
    refine Rn.bt hT rfl rfl rfl (decide_eq_true ((ti_e p_2041 L32_0).mpr c_2042)) ?_
    refine Rn.n hT 1 (pc' := 27) (L' := [some (.ref q0), some (.int m1)]) (st' := [.int (-1 : Int32)]) rfl ?_
    exact Rn.weak (ll_n (ll_n ll_e)) (RX11_marks_b27 hd hR L32_m1 hq e)
  · rw [if_neg c_2042] at e
    refine Rn.bf hT rfl rfl rfl (decide_eq_false (fun z => c_2042 ((ti_e p_2041 L32_0).mp z))) ?_
    refine Rn.n hT 1 (pc' := 12) (L' := [some (.ref q0), some (.int m1)]) (st' := [.ref q0]) rfl ?_
    refine Rn.hp hT rfl rfl (gR_hp (rp_gR hR (T11_o t0) rfl)) ?_
    refine Rn.n hT 1 (pc' := 16) (L' := [some (.ref q0), some (.int m1)]) (st' := [.ref q0, .ref (q0 + 64)]) rfl ?_
    refine Rn.hp hT rfl rfl (gR_hp (rp_gP (k := 4) hR (T11_o t0) rfl (nn_114 hR t0))) ?_
    refine Rn.n hT 1 (pc' := 20) (L' := [some (.ref q0), some (.int m1)]) (st' := [.int m1, .ref ((s q0 4).toNat), .ref (q0 + 64)]) rfl ?_
    obtain ⟨⟨v_2043, s_2044⟩, e_2043, e⟩ := Option.bind_eq_some_iff.mp e
    try dsimp only at e
    try dsimp only at e
    refine Rn.call hT rfl rfl rfl (Nat.le_of_ble_eq_true rfl) (rcv_v gX9_marksOf (by omega) (rp_ck hR (T9_o (T11_10 t0)))) (RX9_marksOf (by omega) hR (T11_10 t0) (ty_114 hR t0) p1 e_2043 (fun z_2043 h_2044 p_2043 R_2044 => ?_))
    show Rn d _ _ 23 [some (.ref q0), some (.int m1)] [.int z_2043] h_2044 Q
    refine Rn.n hT 1 (pc' := 27) (L' := [some (.ref q0), some (.int m1)]) (st' := [.int z_2043]) rfl ?_
    exact Rn.weak (ll_n (ll_n ll_e)) (RX11_marks_b27 hd R_2044 p_2043 hq e)
set_option maxRecDepth 10000 in
theorem hX11_floors : iv_Tb 167 tX11_floors := iv_tb_of (m := mX11_floors) rfl
set_option maxRecDepth 10000 in
theorem gX11_floors : PG.2 167 = some mX11_floors := iv_pi_of (t := tX11_floors) rfl (by decide)
def FX11_floors_b25 (N : Nat) (s : iv_M)  (xs0 : Int) : Option (Int × iv_M) := (some (xs0, s))
set_option maxRecDepth 10000 in
set_option maxHeartbeats 4000000 in
theorem RX11_floors_b25 {d N nc Ls : Nat} {Xs : Nat → Int32} (hd : 44 ≤ d) {h : iv_H} {s : iv_M} (hR : Rep nc Ls Xs h s)  {ms0 : Int32} {xs0 : Int} (ps0 : ms0.toInt = xs0) {r : Int × iv_M} {Q : Option Value → iv_H → Prop} (hq : ∀ (z : Int32) (h1 : iv_H), z.toInt = r.1 → Rep nc Ls Xs h1 r.2 → Q (some (.int z)) h1) (e : FX11_floors_b25 N s  xs0 = some r) : Rn d 167 (some .int) 25 [none] [.int ms0] h Q := by
  have hT := hX11_floors
  unfold FX11_floors_b25 at e
  obtain rfl := Option.some.inj e
  exact Rn.ret hT rfl rfl rfl (hq ms0 h ps0 hR)
def FX11_floors (N : Nat) (s : iv_M) (q0 : Nat) : Option (Int × iv_M) := (if (s ((s q0 4).toNat) 0) = 0 then (FX11_floors_b25 N s (-1)) else ((FX4_layRooms N s (q0 + 102) ((s q0 4).toNat)).bind fun r_2047 => (fun (v_2047 : Int) (s_2048 : iv_M) => (FX11_floors_b25 N s_2048 v_2047)) r_2047.1 r_2047.2))
set_option maxRecDepth 10000 in
set_option maxHeartbeats 4000000 in
theorem RX11_floors {d N nc Ls : Nat} {Xs : Nat → Int32} (hd : 45 ≤ d) {h : iv_H} {s : iv_M} (hR : Rep nc Ls Xs h s) {q0 : Nat} (t0 : T11 nc q0) {r : Int × iv_M} {Q : Option Value → iv_H → Prop} (e : FX11_floors N s q0 = some r) (hq : ∀ (z : Int32) (h1 : iv_H), z.toInt = r.1 → Rep nc Ls Xs h1 r.2 → Q (some (.int z)) h1) : Cl d 167 [.ref q0] h Q := by
  obtain ⟨d, rfl⟩ : ∃ k, d = k + 1 := ⟨d - 1, by omega⟩
  have hd : 44 ≤ d := by omega
  have hT := hX11_floors
  unfold FX11_floors at e
  refine Cl.into (by decide) gX11_floors rfl ?_
  show Rn d 167 (some .int) 0 [some (.ref q0)] [] h Q
  refine Rn.n hT 1 (pc' := 1) (L' := [some (.ref q0)]) (st' := [.ref q0]) rfl ?_
  refine Rn.hp hT rfl rfl (gR_hp (rp_gP (k := 4) hR (T11_o t0) rfl (nn_114 hR t0))) ?_
  obtain ⟨z_2045, g_2045, p_2045⟩ : ∃ z : Int32, gI h 2 0 ((s q0 4).toNat) = some z ∧ z.toInt = s ((s q0 4).toNat) 0 := rp_gI (k := 0) hR (T2_o (ty_114 hR t0)) rfl
  refine Rn.hp hT rfl rfl (gI_hp g_2045) ?_
  by_cases c_2046 : (s ((s q0 4).toNat) 0) = 0
  · rw [if_pos c_2046] at e
    refine Rn.bt hT rfl rfl rfl (decide_eq_true ((ti_e p_2045 L32_0).mpr c_2046)) ?_
    refine Rn.n hT 1 (pc' := 25) (L' := [some (.ref q0)]) (st' := [.int (-1 : Int32)]) rfl ?_
    exact Rn.weak (ll_n ll_e) (RX11_floors_b25 hd hR L32_m1 hq e)
  · rw [if_neg c_2046] at e
    refine Rn.bf hT rfl rfl rfl (decide_eq_false (fun z => c_2046 ((ti_e p_2045 L32_0).mp z))) ?_
    refine Rn.n hT 1 (pc' := 11) (L' := [some (.ref q0)]) (st' := [.ref q0]) rfl ?_
    refine Rn.hp hT rfl rfl (gR_hp (rp_gR hR (T11_o t0) rfl)) ?_
    refine Rn.n hT 1 (pc' := 15) (L' := [some (.ref q0)]) (st' := [.ref q0, .ref (q0 + 102)]) rfl ?_
    refine Rn.hp hT rfl rfl (gR_hp (rp_gP (k := 4) hR (T11_o t0) rfl (nn_114 hR t0))) ?_
    obtain ⟨⟨v_2047, s_2048⟩, e_2047, e⟩ := Option.bind_eq_some_iff.mp e
    try dsimp only at e
    try dsimp only at e
    refine Rn.call hT rfl rfl rfl (Nat.le_of_ble_eq_true rfl) (rcv_v gX4_layRooms (by omega) (rp_ck hR (T4_o (T11_13 t0)))) (RX4_layRooms (by omega) hR (T11_13 t0) (ty_114 hR t0) e_2047 (fun z_2047 h_2048 p_2047 R_2048 => ?_))
    show Rn d _ _ 21 [some (.ref q0)] [.int z_2047] h_2048 Q
    refine Rn.n hT 1 (pc' := 25) (L' := [some (.ref q0)]) (st' := [.int z_2047]) rfl ?_
    exact Rn.weak (ll_n ll_e) (RX11_floors_b25 hd R_2048 p_2047 hq e)
set_option maxRecDepth 10000 in
theorem hX11_steps : iv_Tb 168 tX11_steps := iv_tb_of (m := mX11_steps) rfl
set_option maxRecDepth 10000 in
theorem gX11_steps : PG.2 168 = some mX11_steps := iv_pi_of (t := tX11_steps) rfl (by decide)
def FX11_steps_b22 (N : Nat) (s : iv_M)   : Option (Int × iv_M) := (some ((-1), s))
set_option maxRecDepth 10000 in
set_option maxHeartbeats 4000000 in
theorem RX11_steps_b22 {d N nc Ls : Nat} {Xs : Nat → Int32} (hd : 3 ≤ d) {h : iv_H} {s : iv_M} (hR : Rep nc Ls Xs h s)   {r : Int × iv_M} {Q : Option Value → iv_H → Prop} (hq : ∀ (z : Int32) (h1 : iv_H), z.toInt = r.1 → Rep nc Ls Xs h1 r.2 → Q (some (.int z)) h1) (e : FX11_steps_b22 N s   = some r) : Rn d 168 (some .int) 22 [none, none, none] [] h Q := by
  have hT := hX11_steps
  unfold FX11_steps_b22 at e
  refine Rn.n hT 1 (pc' := 23) (L' := [none, none, none]) (st' := [.int (-1 : Int32)]) rfl ?_
  obtain rfl := Option.some.inj e
  exact Rn.ret hT rfl rfl rfl (hq (-1 : Int32) h L32_m1 hR)
def FX11_steps (N : Nat) (s : iv_M) (q0 : Nat) (x1 : Int) (x2 : Int) : Option (Int × iv_M) := ((FX2_isRoom N s ((s q0 4).toNat) x1).bind fun v_2049 => (if v_2049 = 0 then (FX11_steps_b22 N s) else ((FX2_isRoom N s ((s q0 4).toNat) x2).bind fun v_2051 => (if v_2051 = 0 then (FX11_steps_b22 N s) else ((FX0_spread N s (q0 + 98) ((s q0 4).toNat) x1).bind fun s_2054 => ((FX0_fewest N s_2054 (q0 + 98) x2).bind fun v_2055 => (some (v_2055, s_2054))))))))
set_option maxRecDepth 10000 in
set_option maxHeartbeats 4000000 in
theorem RX11_steps {d N nc Ls : Nat} {Xs : Nat → Int32} (hd : 4 ≤ d) {h : iv_H} {s : iv_M} (hR : Rep nc Ls Xs h s) {q0 : Nat} (t0 : T11 nc q0) {m1 : Int32} {x1 : Int} (p1 : m1.toInt = x1) {m2 : Int32} {x2 : Int} (p2 : m2.toInt = x2) {r : Int × iv_M} {Q : Option Value → iv_H → Prop} (e : FX11_steps N s q0 x1 x2 = some r) (hq : ∀ (z : Int32) (h1 : iv_H), z.toInt = r.1 → Rep nc Ls Xs h1 r.2 → Q (some (.int z)) h1) : Cl d 168 [.ref q0, .int m1, .int m2] h Q := by
  obtain ⟨d, rfl⟩ : ∃ k, d = k + 1 := ⟨d - 1, by omega⟩
  have hd : 3 ≤ d := by omega
  have hT := hX11_steps
  unfold FX11_steps at e
  refine Cl.into (by decide) gX11_steps rfl ?_
  show Rn d 168 (some .int) 0 [some (.ref q0), some (.int m1), some (.int m2)] [] h Q
  refine Rn.n hT 1 (pc' := 1) (L' := [some (.ref q0), some (.int m1), some (.int m2)]) (st' := [.ref q0]) rfl ?_
  refine Rn.hp hT rfl rfl (gR_hp (rp_gP (k := 4) hR (T11_o t0) rfl (nn_114 hR t0))) ?_
  refine Rn.n hT 1 (pc' := 5) (L' := [some (.ref q0), some (.int m1), some (.int m2)]) (st' := [.int m1, .ref ((s q0 4).toNat)]) rfl ?_
  obtain ⟨v_2049, e_2049, e⟩ := Option.bind_eq_some_iff.mp e
  refine Rn.call hT rfl rfl rfl (Nat.le_of_ble_eq_true rfl) (rcv_v gX2_isRoom (by omega) (rp_ck hR (T2_o (ty_114 hR t0)))) (RX2_isRoom (by omega) hR (ty_114 hR t0) p1 e_2049 (fun z_2049 p_2049 => ?_))
  show Rn d _ _ 8 [some (.ref q0), some (.int m1), some (.int m2)] [.int z_2049] h Q
  by_cases c_2050 : v_2049 = 0
  · rw [if_pos c_2050] at e
    refine Rn.bt hT rfl rfl rfl (decide_eq_true ((ti_e p_2049 L32_0).mpr c_2050)) ?_
    exact Rn.weak (ll_n (ll_n (ll_n ll_e))) (RX11_steps_b22 hd hR hq e)
  · rw [if_neg c_2050] at e
    refine Rn.bf hT rfl rfl rfl (decide_eq_false (fun z => c_2050 ((ti_e p_2049 L32_0).mp z))) ?_
    refine Rn.n hT 1 (pc' := 12) (L' := [some (.ref q0), some (.int m1), some (.int m2)]) (st' := [.ref q0]) rfl ?_
    refine Rn.hp hT rfl rfl (gR_hp (rp_gP (k := 4) hR (T11_o t0) rfl (nn_114 hR t0))) ?_
    refine Rn.n hT 1 (pc' := 16) (L' := [some (.ref q0), some (.int m1), some (.int m2)]) (st' := [.int m2, .ref ((s q0 4).toNat)]) rfl ?_
    obtain ⟨v_2051, e_2051, e⟩ := Option.bind_eq_some_iff.mp e
    refine Rn.call hT rfl rfl rfl (Nat.le_of_ble_eq_true rfl) (rcv_v gX2_isRoom (by omega) (rp_ck hR (T2_o (ty_114 hR t0)))) (RX2_isRoom (by omega) hR (ty_114 hR t0) p2 e_2051 (fun z_2051 p_2051 => ?_))
    show Rn d _ _ 19 [some (.ref q0), some (.int m1), some (.int m2)] [.int z_2051] h Q
    by_cases c_2052 : v_2051 = 0
    · rw [if_pos c_2052] at e
      refine Rn.bf hT rfl rfl rfl (decide_eq_false (fun z => z ((ti_e p_2051 L32_0).mpr c_2052))) ?_
      exact Rn.weak (ll_n (ll_n (ll_n ll_e))) (RX11_steps_b22 hd hR hq e)
    · rw [if_neg c_2052] at e
      refine Rn.bt hT rfl rfl rfl (decide_eq_true (fun z => c_2052 ((ti_e p_2051 L32_0).mp z))) ?_
      refine Rn.n hT 1 (pc' := 25) (L' := [some (.ref q0), some (.int m1), some (.int m2)]) (st' := [.ref q0]) rfl ?_
      refine Rn.hp hT rfl rfl (gR_hp (rp_gR hR (T11_o t0) rfl)) ?_
      refine Rn.n hT 1 (pc' := 29) (L' := [some (.ref q0), some (.int m1), some (.int m2)]) (st' := [.ref q0, .ref (q0 + 98)]) rfl ?_
      refine Rn.hp hT rfl rfl (gR_hp (rp_gP (k := 4) hR (T11_o t0) rfl (nn_114 hR t0))) ?_
      refine Rn.n hT 1 (pc' := 33) (L' := [some (.ref q0), some (.int m1), some (.int m2)]) (st' := [.int m1, .ref ((s q0 4).toNat), .ref (q0 + 98)]) rfl ?_
      obtain ⟨s_2054, e_2053, e⟩ := Option.bind_eq_some_iff.mp e
      refine Rn.call hT rfl rfl rfl (Nat.le_of_ble_eq_true rfl) (rcv_v gX0_spread (by omega) (rp_ck hR (T0_o (T11_12 t0)))) (RX0_spread (by omega) hR (T11_12 t0) (ty_114 hR t0) p1 e_2053 (fun h_2054 R_2054 => ?_))
      show Rn d _ _ 36 [some (.ref q0), some (.int m1), some (.int m2)] [] h_2054 Q
      refine Rn.n hT 1 (pc' := 37) (L' := [some (.ref q0), some (.int m1), some (.int m2)]) (st' := [.ref q0]) rfl ?_
      refine Rn.hp hT rfl rfl (gR_hp (rp_gR R_2054 (T11_o t0) rfl)) ?_
      refine Rn.n hT 1 (pc' := 41) (L' := [some (.ref q0), some (.int m1), some (.int m2)]) (st' := [.int m2, .ref (q0 + 98)]) rfl ?_
      obtain ⟨v_2055, e_2055, e⟩ := Option.bind_eq_some_iff.mp e
      refine Rn.call hT rfl rfl rfl (Nat.le_of_ble_eq_true rfl) (rcv_v gX0_fewest (by omega) (rp_ck R_2054 (T0_o (T11_12 t0)))) (RX0_fewest (by omega) R_2054 (T11_12 t0) p2 e_2055 (fun z_2055 p_2055 => ?_))
      show Rn d _ _ 44 [some (.ref q0), some (.int m1), some (.int m2)] [.int z_2055] h_2054 Q
      obtain rfl := Option.some.inj e
      exact Rn.ret hT rfl rfl rfl (hq z_2055 h_2054 p_2055 R_2054)
set_option maxRecDepth 10000 in
theorem hX11_reach : iv_Tb 169 tX11_reach := iv_tb_of (m := mX11_reach) rfl
set_option maxRecDepth 10000 in
theorem gX11_reach : PG.2 169 = some mX11_reach := iv_pi_of (t := tX11_reach) rfl (by decide)
def FX11_reach_b20 (N : Nat) (s : iv_M)   : Option (Int × iv_M) := (some ((-1), s))
set_option maxRecDepth 10000 in
set_option maxHeartbeats 4000000 in
theorem RX11_reach_b20 {d N nc Ls : Nat} {Xs : Nat → Int32} (hd : 3 ≤ d) {h : iv_H} {s : iv_M} (hR : Rep nc Ls Xs h s)   {r : Int × iv_M} {Q : Option Value → iv_H → Prop} (hq : ∀ (z : Int32) (h1 : iv_H), z.toInt = r.1 → Rep nc Ls Xs h1 r.2 → Q (some (.int z)) h1) (e : FX11_reach_b20 N s   = some r) : Rn d 169 (some .int) 20 [none, none, none] [] h Q := by
  have hT := hX11_reach
  unfold FX11_reach_b20 at e
  refine Rn.n hT 1 (pc' := 21) (L' := [none, none, none]) (st' := [.int (-1 : Int32)]) rfl ?_
  obtain rfl := Option.some.inj e
  exact Rn.ret hT rfl rfl rfl (hq (-1 : Int32) h L32_m1 hR)
def FX11_reach_b55 (N : Nat) (s : iv_M)  (xs0 : Int) : Option (Int × iv_M) := (some (xs0, s))
set_option maxRecDepth 10000 in
set_option maxHeartbeats 4000000 in
theorem RX11_reach_b55 {d N nc Ls : Nat} {Xs : Nat → Int32} (hd : 3 ≤ d) {h : iv_H} {s : iv_M} (hR : Rep nc Ls Xs h s)  {ms0 : Int32} {xs0 : Int} (ps0 : ms0.toInt = xs0) {r : Int × iv_M} {Q : Option Value → iv_H → Prop} (hq : ∀ (z : Int32) (h1 : iv_H), z.toInt = r.1 → Rep nc Ls Xs h1 r.2 → Q (some (.int z)) h1) (e : FX11_reach_b55 N s  xs0 = some r) : Rn d 169 (some .int) 55 [none, none, none] [.int ms0] h Q := by
  have hT := hX11_reach
  unfold FX11_reach_b55 at e
  obtain rfl := Option.some.inj e
  exact Rn.ret hT rfl rfl rfl (hq ms0 h ps0 hR)
def FX11_reach (N : Nat) (s : iv_M) (q0 : Nat) (x1 : Int) (x2 : Int) : Option (Int × iv_M) := ((FX2_isRoom N s ((s q0 4).toNat) x1).bind fun v_2056 => (if v_2056 = 0 then (FX11_reach_b20 N s) else (if x2 < 0 then (FX11_reach_b20 N s) else (if x2 ≤ 1 then ((FX0_spread N s (q0 + 98) ((s q0 4).toNat) x1).bind fun s_2061 => (if x2 = 0 then ((FX0_reachedRooms N s_2061 (q0 + 98)).bind fun v_2064 => (FX11_reach_b55 N s_2061 v_2064)) else ((FX0_reachedKeys N s_2061 (q0 + 98)).bind fun v_2063 => (FX11_reach_b55 N s_2061 v_2063)))) else (FX11_reach_b20 N s)))))
set_option maxRecDepth 10000 in
set_option maxHeartbeats 4000000 in
theorem RX11_reach {d N nc Ls : Nat} {Xs : Nat → Int32} (hd : 4 ≤ d) {h : iv_H} {s : iv_M} (hR : Rep nc Ls Xs h s) {q0 : Nat} (t0 : T11 nc q0) {m1 : Int32} {x1 : Int} (p1 : m1.toInt = x1) {m2 : Int32} {x2 : Int} (p2 : m2.toInt = x2) {r : Int × iv_M} {Q : Option Value → iv_H → Prop} (e : FX11_reach N s q0 x1 x2 = some r) (hq : ∀ (z : Int32) (h1 : iv_H), z.toInt = r.1 → Rep nc Ls Xs h1 r.2 → Q (some (.int z)) h1) : Cl d 169 [.ref q0, .int m1, .int m2] h Q := by
  obtain ⟨d, rfl⟩ : ∃ k, d = k + 1 := ⟨d - 1, by omega⟩
  have hd : 3 ≤ d := by omega
  have hT := hX11_reach
  unfold FX11_reach at e
  refine Cl.into (by decide) gX11_reach rfl ?_
  show Rn d 169 (some .int) 0 [some (.ref q0), some (.int m1), some (.int m2)] [] h Q
  refine Rn.n hT 1 (pc' := 1) (L' := [some (.ref q0), some (.int m1), some (.int m2)]) (st' := [.ref q0]) rfl ?_
  refine Rn.hp hT rfl rfl (gR_hp (rp_gP (k := 4) hR (T11_o t0) rfl (nn_114 hR t0))) ?_
  refine Rn.n hT 1 (pc' := 5) (L' := [some (.ref q0), some (.int m1), some (.int m2)]) (st' := [.int m1, .ref ((s q0 4).toNat)]) rfl ?_
  obtain ⟨v_2056, e_2056, e⟩ := Option.bind_eq_some_iff.mp e
  refine Rn.call hT rfl rfl rfl (Nat.le_of_ble_eq_true rfl) (rcv_v gX2_isRoom (by omega) (rp_ck hR (T2_o (ty_114 hR t0)))) (RX2_isRoom (by omega) hR (ty_114 hR t0) p1 e_2056 (fun z_2056 p_2056 => ?_))
  show Rn d _ _ 8 [some (.ref q0), some (.int m1), some (.int m2)] [.int z_2056] h Q
  by_cases c_2057 : v_2056 = 0
  · rw [if_pos c_2057] at e
    refine Rn.bt hT rfl rfl rfl (decide_eq_true ((ti_e p_2056 L32_0).mpr c_2057)) ?_
    exact Rn.weak (ll_n (ll_n (ll_n ll_e))) (RX11_reach_b20 hd hR hq e)
  · rw [if_neg c_2057] at e
    refine Rn.bf hT rfl rfl rfl (decide_eq_false (fun z => c_2057 ((ti_e p_2056 L32_0).mp z))) ?_
    refine Rn.n hT 1 (pc' := 12) (L' := [some (.ref q0), some (.int m1), some (.int m2)]) (st' := [.int m2]) rfl ?_
    by_cases c_2058 : x2 < 0
    · rw [if_pos c_2058] at e
      refine Rn.bt hT rfl rfl rfl (decide_eq_true ((ti_l p2 L32_0).mpr c_2058)) ?_
      exact Rn.weak (ll_n (ll_n (ll_n ll_e))) (RX11_reach_b20 hd hR hq e)
    · rw [if_neg c_2058] at e
      refine Rn.bf hT rfl rfl rfl (decide_eq_false (fun z => c_2058 ((ti_l p2 L32_0).mp z))) ?_
      refine Rn.n hT 2 (pc' := 17) (L' := [some (.ref q0), some (.int m1), some (.int m2)]) (st' := [.int (1 : Int32), .int m2]) rfl ?_
      by_cases c_2059 : x2 ≤ 1
      · rw [if_pos c_2059] at e
        refine Rn.bt hT rfl rfl rfl (decide_eq_true ((ti_le p2 L32_1).mpr c_2059)) ?_
        refine Rn.n hT 1 (pc' := 23) (L' := [some (.ref q0), some (.int m1), some (.int m2)]) (st' := [.ref q0]) rfl ?_
        refine Rn.hp hT rfl rfl (gR_hp (rp_gR hR (T11_o t0) rfl)) ?_
        refine Rn.n hT 1 (pc' := 27) (L' := [some (.ref q0), some (.int m1), some (.int m2)]) (st' := [.ref q0, .ref (q0 + 98)]) rfl ?_
        refine Rn.hp hT rfl rfl (gR_hp (rp_gP (k := 4) hR (T11_o t0) rfl (nn_114 hR t0))) ?_
        refine Rn.n hT 1 (pc' := 31) (L' := [some (.ref q0), some (.int m1), some (.int m2)]) (st' := [.int m1, .ref ((s q0 4).toNat), .ref (q0 + 98)]) rfl ?_
        obtain ⟨s_2061, e_2060, e⟩ := Option.bind_eq_some_iff.mp e
        refine Rn.call hT rfl rfl rfl (Nat.le_of_ble_eq_true rfl) (rcv_v gX0_spread (by omega) (rp_ck hR (T0_o (T11_12 t0)))) (RX0_spread (by omega) hR (T11_12 t0) (ty_114 hR t0) p1 e_2060 (fun h_2061 R_2061 => ?_))
        show Rn d _ _ 34 [some (.ref q0), some (.int m1), some (.int m2)] [] h_2061 Q
        refine Rn.n hT 1 (pc' := 35) (L' := [some (.ref q0), some (.int m1), some (.int m2)]) (st' := [.int m2]) rfl ?_
        by_cases c_2062 : x2 = 0
        · rw [if_pos c_2062] at e
          refine Rn.bf hT rfl rfl rfl (decide_eq_false (fun z => z ((ti_e p2 L32_0).mpr c_2062))) ?_
          refine Rn.n hT 1 (pc' := 39) (L' := [some (.ref q0), some (.int m1), some (.int m2)]) (st' := [.ref q0]) rfl ?_
          refine Rn.hp hT rfl rfl (gR_hp (rp_gR R_2061 (T11_o t0) rfl)) ?_
          obtain ⟨v_2064, e_2064, e⟩ := Option.bind_eq_some_iff.mp e
          refine Rn.call hT rfl rfl rfl (Nat.le_of_ble_eq_true rfl) (rcv_v gX0_reachedRooms (by omega) (rp_ck R_2061 (T0_o (T11_12 t0)))) (RX0_reachedRooms (by omega) R_2061 (T11_12 t0) e_2064 (fun z_2064 p_2064 => ?_))
          show Rn d _ _ 45 [some (.ref q0), some (.int m1), some (.int m2)] [.int z_2064] h_2061 Q
          refine Rn.n hT 1 (pc' := 55) (L' := [some (.ref q0), some (.int m1), some (.int m2)]) (st' := [.int z_2064]) rfl ?_
          exact Rn.weak (ll_n (ll_n (ll_n ll_e))) (RX11_reach_b55 hd R_2061 p_2064 hq e)
        · rw [if_neg c_2062] at e
          refine Rn.bt hT rfl rfl rfl (decide_eq_true (fun z => c_2062 ((ti_e p2 L32_0).mp z))) ?_
          refine Rn.n hT 1 (pc' := 49) (L' := [some (.ref q0), some (.int m1), some (.int m2)]) (st' := [.ref q0]) rfl ?_
          refine Rn.hp hT rfl rfl (gR_hp (rp_gR R_2061 (T11_o t0) rfl)) ?_
          obtain ⟨v_2063, e_2063, e⟩ := Option.bind_eq_some_iff.mp e
          refine Rn.call hT rfl rfl rfl (Nat.le_of_ble_eq_true rfl) (rcv_v gX0_reachedKeys (by omega) (rp_ck R_2061 (T0_o (T11_12 t0)))) (RX0_reachedKeys (by omega) R_2061 (T11_12 t0) e_2063 (fun z_2063 p_2063 => ?_))
          show Rn d _ _ 55 [some (.ref q0), some (.int m1), some (.int m2)] [.int z_2063] h_2061 Q
          exact Rn.weak (ll_n (ll_n (ll_n ll_e))) (RX11_reach_b55 hd R_2061 p_2063 hq e)
      · rw [if_neg c_2059] at e
        refine Rn.bf hT rfl rfl rfl (decide_eq_false (fun z => c_2059 ((ti_le p2 L32_1).mp z))) ?_
        exact Rn.weak (ll_n (ll_n (ll_n ll_e))) (RX11_reach_b20 hd hR hq e)
set_option maxRecDepth 10000 in
theorem hX11_gossip : iv_Tb 170 tX11_gossip := iv_tb_of (m := mX11_gossip) rfl
set_option maxRecDepth 10000 in
theorem gX11_gossip : PG.2 170 = some mX11_gossip := iv_pi_of (t := tX11_gossip) rfl (by decide)
def FX11_gossip_b21 (N : Nat) (s : iv_M)   : Option (Int) := (some (-1))
set_option maxRecDepth 10000 in
set_option maxHeartbeats 4000000 in
theorem RX11_gossip_b21 {d N nc Ls : Nat} {Xs : Nat → Int32} (hd : 4 ≤ d) {h : iv_H} {s : iv_M} (hR : Rep nc Ls Xs h s)   {r : Int} {Q : Option Value → iv_H → Prop} (hq : ∀ (z : Int32), z.toInt = r → Q (some (.int z)) h) (e : FX11_gossip_b21 N s   = some r) : Rn d 170 (some .int) 21 [none, none, none] [] h Q := by
  have hT := hX11_gossip
  unfold FX11_gossip_b21 at e
  refine Rn.n hT 1 (pc' := 22) (L' := [none, none, none]) (st' := [.int (-1 : Int32)]) rfl ?_
  obtain rfl := Option.some.inj e
  exact Rn.ret hT rfl rfl rfl (hq (-1 : Int32) L32_m1)
def FX11_gossip (N : Nat) (s : iv_M) (q0 : Nat) (x1 : Int) (x2 : Int) : Option (Int) := ((FX2_isRoom N s ((s q0 4).toNat) x1).bind fun v_2065 => (if v_2065 = 0 then (FX11_gossip_b21 N s) else (if x2 < 0 then (FX11_gossip_b21 N s) else (if x2 ≤ 16 then ((FX0_hearing N s (q0 + 98) ((s q0 4).toNat) x1 x2).bind fun v_2069 => ((FJ6_bitCount_0f7a4 N s v_2069).bind fun v_2070 => (some v_2070))) else (FX11_gossip_b21 N s)))))
set_option maxRecDepth 10000 in
set_option maxHeartbeats 4000000 in
theorem RX11_gossip {d N nc Ls : Nat} {Xs : Nat → Int32} (hd : 5 ≤ d) {h : iv_H} {s : iv_M} (hR : Rep nc Ls Xs h s) {q0 : Nat} (t0 : T11 nc q0) {m1 : Int32} {x1 : Int} (p1 : m1.toInt = x1) {m2 : Int32} {x2 : Int} (p2 : m2.toInt = x2) {r : Int} {Q : Option Value → iv_H → Prop} (e : FX11_gossip N s q0 x1 x2 = some r) (hq : ∀ (z : Int32), z.toInt = r → Q (some (.int z)) h) : Cl d 170 [.ref q0, .int m1, .int m2] h Q := by
  obtain ⟨d, rfl⟩ : ∃ k, d = k + 1 := ⟨d - 1, by omega⟩
  have hd : 4 ≤ d := by omega
  have hT := hX11_gossip
  unfold FX11_gossip at e
  refine Cl.into (by decide) gX11_gossip rfl ?_
  show Rn d 170 (some .int) 0 [some (.ref q0), some (.int m1), some (.int m2)] [] h Q
  refine Rn.n hT 1 (pc' := 1) (L' := [some (.ref q0), some (.int m1), some (.int m2)]) (st' := [.ref q0]) rfl ?_
  refine Rn.hp hT rfl rfl (gR_hp (rp_gP (k := 4) hR (T11_o t0) rfl (nn_114 hR t0))) ?_
  refine Rn.n hT 1 (pc' := 5) (L' := [some (.ref q0), some (.int m1), some (.int m2)]) (st' := [.int m1, .ref ((s q0 4).toNat)]) rfl ?_
  obtain ⟨v_2065, e_2065, e⟩ := Option.bind_eq_some_iff.mp e
  refine Rn.call hT rfl rfl rfl (Nat.le_of_ble_eq_true rfl) (rcv_v gX2_isRoom (by omega) (rp_ck hR (T2_o (ty_114 hR t0)))) (RX2_isRoom (by omega) hR (ty_114 hR t0) p1 e_2065 (fun z_2065 p_2065 => ?_))
  show Rn d _ _ 8 [some (.ref q0), some (.int m1), some (.int m2)] [.int z_2065] h Q
  by_cases c_2066 : v_2065 = 0
  · rw [if_pos c_2066] at e
    refine Rn.bt hT rfl rfl rfl (decide_eq_true ((ti_e p_2065 L32_0).mpr c_2066)) ?_
    exact Rn.weak (ll_n (ll_n (ll_n ll_e))) (RX11_gossip_b21 hd hR hq e)
  · rw [if_neg c_2066] at e
    refine Rn.bf hT rfl rfl rfl (decide_eq_false (fun z => c_2066 ((ti_e p_2065 L32_0).mp z))) ?_
    refine Rn.n hT 1 (pc' := 12) (L' := [some (.ref q0), some (.int m1), some (.int m2)]) (st' := [.int m2]) rfl ?_
    by_cases c_2067 : x2 < 0
    · rw [if_pos c_2067] at e
      refine Rn.bt hT rfl rfl rfl (decide_eq_true ((ti_l p2 L32_0).mpr c_2067)) ?_
      exact Rn.weak (ll_n (ll_n (ll_n ll_e))) (RX11_gossip_b21 hd hR hq e)
    · rw [if_neg c_2067] at e
      refine Rn.bf hT rfl rfl rfl (decide_eq_false (fun z => c_2067 ((ti_l p2 L32_0).mp z))) ?_
      refine Rn.n hT 2 (pc' := 18) (L' := [some (.ref q0), some (.int m1), some (.int m2)]) (st' := [.int (16 : Int32), .int m2]) rfl ?_
      by_cases c_2068 : x2 ≤ 16
      · rw [if_pos c_2068] at e
        refine Rn.bt hT rfl rfl rfl (decide_eq_true ((ti_le p2 L32_16).mpr c_2068)) ?_
        refine Rn.n hT 1 (pc' := 24) (L' := [some (.ref q0), some (.int m1), some (.int m2)]) (st' := [.ref q0]) rfl ?_
        refine Rn.hp hT rfl rfl (gR_hp (rp_gR hR (T11_o t0) rfl)) ?_
        refine Rn.n hT 1 (pc' := 28) (L' := [some (.ref q0), some (.int m1), some (.int m2)]) (st' := [.ref q0, .ref (q0 + 98)]) rfl ?_
        refine Rn.hp hT rfl rfl (gR_hp (rp_gP (k := 4) hR (T11_o t0) rfl (nn_114 hR t0))) ?_
        refine Rn.n hT 2 (pc' := 33) (L' := [some (.ref q0), some (.int m1), some (.int m2)]) (st' := [.int m2, .int m1, .ref ((s q0 4).toNat), .ref (q0 + 98)]) rfl ?_
        obtain ⟨v_2069, e_2069, e⟩ := Option.bind_eq_some_iff.mp e
        refine Rn.call hT rfl rfl rfl (Nat.le_of_ble_eq_true rfl) (rcv_v gX0_hearing (by omega) (rp_ck hR (T0_o (T11_12 t0)))) (RX0_hearing (by omega) hR (T11_12 t0) (ty_114 hR t0) p1 p2 e_2069 (fun z_2069 p_2069 => ?_))
        show Rn d _ _ 36 [some (.ref q0), some (.int m1), some (.int m2)] [.int z_2069] h Q
        obtain ⟨v_2070, e_2070, e⟩ := Option.bind_eq_some_iff.mp e
        refine Rn.call hT rfl rfl rfl (Nat.le_of_ble_eq_true rfl) rfl (RJ6_bitCount_0f7a4 (by omega) hR p_2069 e_2070 (fun z_2070 p_2070 => ?_))
        show Rn d _ _ 39 [some (.ref q0), some (.int m1), some (.int m2)] [.int z_2070] h Q
        obtain rfl := Option.some.inj e
        exact Rn.ret hT rfl rfl rfl (hq z_2070 p_2070)
      · rw [if_neg c_2068] at e
        refine Rn.bf hT rfl rfl rfl (decide_eq_false (fun z => c_2068 ((ti_le p2 L32_16).mp z))) ?_
        exact Rn.weak (ll_n (ll_n (ll_n ll_e))) (RX11_gossip_b21 hd hR hq e)
set_option maxRecDepth 10000 in
theorem hX11_almanac : iv_Tb 171 tX11_almanac := iv_tb_of (m := mX11_almanac) rfl
set_option maxRecDepth 10000 in
theorem gX11_almanac : PG.2 171 = some mX11_almanac := iv_pi_of (t := tX11_almanac) rfl (by decide)
def FX11_almanac_b67 (N : Nat) (s : iv_M)  (xs0 : Int) : Option (Int × iv_M) := (some (xs0, s))
set_option maxRecDepth 10000 in
set_option maxHeartbeats 4000000 in
theorem RX11_almanac_b67 {d N nc Ls : Nat} {Xs : Nat → Int32} (hd : 2 ≤ d) {h : iv_H} {s : iv_M} (hR : Rep nc Ls Xs h s)  {ms0 : Int32} {xs0 : Int} (ps0 : ms0.toInt = xs0) {r : Int × iv_M} {Q : Option Value → iv_H → Prop} (hq : ∀ (z : Int32) (h1 : iv_H), z.toInt = r.1 → Rep nc Ls Xs h1 r.2 → Q (some (.int z)) h1) (e : FX11_almanac_b67 N s  xs0 = some r) : Rn d 171 (some .int) 67 [none, none, none, none, none] [.int ms0] h Q := by
  have hT := hX11_almanac
  unfold FX11_almanac_b67 at e
  obtain rfl := Option.some.inj e
  exact Rn.ret hT rfl rfl rfl (hq ms0 h ps0 hR)
def FX11_almanac_b65 (N : Nat) (s : iv_M)   : Option (Int × iv_M) := (FX11_almanac_b67 N s (-2))
set_option maxRecDepth 10000 in
set_option maxHeartbeats 4000000 in
theorem RX11_almanac_b65 {d N nc Ls : Nat} {Xs : Nat → Int32} (hd : 2 ≤ d) {h : iv_H} {s : iv_M} (hR : Rep nc Ls Xs h s)   {r : Int × iv_M} {Q : Option Value → iv_H → Prop} (hq : ∀ (z : Int32) (h1 : iv_H), z.toInt = r.1 → Rep nc Ls Xs h1 r.2 → Q (some (.int z)) h1) (e : FX11_almanac_b65 N s   = some r) : Rn d 171 (some .int) 65 [none, none, none, none, none] [] h Q := by
  have hT := hX11_almanac
  unfold FX11_almanac_b65 at e
  refine Rn.n hT 1 (pc' := 67) (L' := [none, none, none, none, none]) (st' := [.int (-2 : Int32)]) rfl ?_
  exact Rn.weak (ll_n (ll_n (ll_n (ll_n (ll_n ll_e))))) (RX11_almanac_b67 hd hR L32_m2 hq e)
def FX11_almanac (N : Nat) (s : iv_M) (q0 : Nat) (x1 : Int) (x2 : Int) (x3 : Int) : Option (Int × iv_M) := (if x1 = (-1) then ((pt s ((s q0 4).toNat + 16) 1 0).bind fun s_2078 => (some (0, s_2078))) else ((FX2_walkOf N s ((s q0 4).toNat) x1 x2 x3).bind fun v_2072 => (if v_2072 = (-1) then (FX11_almanac_b65 N s) else ((FX7_add N s ((s q0 4).toNat + 16) v_2072).bind fun r_2074 => (fun (v_2074 : Int) (s_2075 : iv_M) => (if v_2074 = 0 then (FX11_almanac_b65 N s_2075) else (FX11_almanac_b67 N s_2075 (s_2075 ((s_2075 q0 4).toNat + 16) 1)))) r_2074.1 r_2074.2))))
set_option maxRecDepth 10000 in
set_option maxHeartbeats 4000000 in
theorem RX11_almanac {d N nc Ls : Nat} {Xs : Nat → Int32} (hd : 3 ≤ d) {h : iv_H} {s : iv_M} (hR : Rep nc Ls Xs h s) {q0 : Nat} (t0 : T11 nc q0) {m1 : Int32} {x1 : Int} (p1 : m1.toInt = x1) {m2 : Int32} {x2 : Int} (p2 : m2.toInt = x2) {m3 : Int32} {x3 : Int} (p3 : m3.toInt = x3) {r : Int × iv_M} {Q : Option Value → iv_H → Prop} (e : FX11_almanac N s q0 x1 x2 x3 = some r) (hq : ∀ (z : Int32) (h1 : iv_H), z.toInt = r.1 → Rep nc Ls Xs h1 r.2 → Q (some (.int z)) h1) : Cl d 171 [.ref q0, .int m1, .int m2, .int m3] h Q := by
  obtain ⟨d, rfl⟩ : ∃ k, d = k + 1 := ⟨d - 1, by omega⟩
  have hd : 2 ≤ d := by omega
  have hT := hX11_almanac
  unfold FX11_almanac at e
  refine Cl.into (by decide) gX11_almanac rfl ?_
  show Rn d 171 (some .int) 0 [some (.ref q0), some (.int m1), some (.int m2), some (.int m3), none] [] h Q
  refine Rn.n hT 2 (pc' := 2) (L' := [some (.ref q0), some (.int m1), some (.int m2), some (.int m3), none]) (st' := [.int (-1 : Int32), .int m1]) rfl ?_
  by_cases c_2071 : x1 = (-1)
  · rw [if_pos c_2071] at e
    refine Rn.bf hT rfl rfl rfl (decide_eq_false (fun z => z ((ti_e p1 L32_m1).mpr c_2071))) ?_
    refine Rn.n hT 1 (pc' := 6) (L' := [some (.ref q0), some (.int m1), some (.int m2), some (.int m3), none]) (st' := [.ref q0]) rfl ?_
    refine Rn.hp hT rfl rfl (gR_hp (rp_gP (k := 4) hR (T11_o t0) rfl (nn_114 hR t0))) ?_
    refine Rn.hp hT rfl rfl (gR_hp (rp_gR hR (T2_o (ty_114 hR t0)) rfl)) ?_
    refine Rn.n hT 1 (pc' := 13) (L' := [some (.ref q0), some (.int m1), some (.int m2), some (.int m3), none]) (st' := [.int (0 : Int32), .ref ((s q0 4).toNat + 16)]) rfl ?_
    obtain ⟨s_2078, e_2079, e⟩ := Option.bind_eq_some_iff.mp e
    obtain ⟨h_2078, g_2079, R_2078⟩ := rp_pI (ci := 7) (k := 1) hR (T7_o (T2_16 (ty_114 hR t0))) rfl rfl L32_0 e_2079
    refine Rn.hp hT rfl rfl (pV_hp rfl g_2079) ?_
    refine Rn.n hT 1 (pc' := 17) (L' := [some (.ref q0), some (.int m1), some (.int m2), some (.int m3), none]) (st' := [.int (0 : Int32)]) rfl ?_
    obtain rfl := Option.some.inj e
    exact Rn.ret hT rfl rfl rfl (hq (0 : Int32) h_2078 L32_0 R_2078)
  · rw [if_neg c_2071] at e
    refine Rn.bt hT rfl rfl rfl (decide_eq_true (fun z => c_2071 ((ti_e p1 L32_m1).mp z))) ?_
    refine Rn.n hT 1 (pc' := 19) (L' := [some (.ref q0), some (.int m1), some (.int m2), some (.int m3), none]) (st' := [.ref q0]) rfl ?_
    refine Rn.hp hT rfl rfl (gR_hp (rp_gP (k := 4) hR (T11_o t0) rfl (nn_114 hR t0))) ?_
    refine Rn.n hT 3 (pc' := 25) (L' := [some (.ref q0), some (.int m1), some (.int m2), some (.int m3), none]) (st' := [.int m3, .int m2, .int m1, .ref ((s q0 4).toNat)]) rfl ?_
    obtain ⟨v_2072, e_2072, e⟩ := Option.bind_eq_some_iff.mp e
    refine Rn.call hT rfl rfl rfl (Nat.le_of_ble_eq_true rfl) (rcv_v gX2_walkOf (by omega) (rp_ck hR (T2_o (ty_114 hR t0)))) (RX2_walkOf (by omega) hR (ty_114 hR t0) p1 p2 p3 e_2072 (fun z_2072 p_2072 => ?_))
    show Rn d _ _ 28 [some (.ref q0), some (.int m1), some (.int m2), some (.int m3), none] [.int z_2072] h Q
    refine Rn.n hT 3 (pc' := 33) (L' := [some (.ref q0), some (.int m1), some (.int m2), some (.int m3), some (.int z_2072)]) (st' := [.int (-1 : Int32), .int z_2072]) rfl ?_
    by_cases c_2073 : v_2072 = (-1)
    · rw [if_pos c_2073] at e
      refine Rn.bt hT rfl rfl rfl (decide_eq_true ((ti_e p_2072 L32_m1).mpr c_2073)) ?_
      exact Rn.weak (ll_n (ll_n (ll_n (ll_n (ll_n ll_e))))) (RX11_almanac_b65 hd hR hq e)
    · rw [if_neg c_2073] at e
      refine Rn.bf hT rfl rfl rfl (decide_eq_false (fun z => c_2073 ((ti_e p_2072 L32_m1).mp z))) ?_
      refine Rn.n hT 1 (pc' := 37) (L' := [some (.ref q0), some (.int m1), some (.int m2), some (.int m3), some (.int z_2072)]) (st' := [.ref q0]) rfl ?_
      refine Rn.hp hT rfl rfl (gR_hp (rp_gP (k := 4) hR (T11_o t0) rfl (nn_114 hR t0))) ?_
      refine Rn.hp hT rfl rfl (gR_hp (rp_gR hR (T2_o (ty_114 hR t0)) rfl)) ?_
      refine Rn.n hT 2 (pc' := 46) (L' := [some (.ref q0), some (.int m1), some (.int m2), some (.int m3), some (.int z_2072)]) (st' := [.long ((z_2072).toInt64), .ref ((s q0 4).toNat + 16)]) rfl ?_
      obtain ⟨⟨v_2074, s_2075⟩, e_2074, e⟩ := Option.bind_eq_some_iff.mp e
      try dsimp only at e
      try dsimp only at e
      refine Rn.call hT rfl rfl rfl (Nat.le_of_ble_eq_true rfl) (rcv_v gX7_add (by omega) (rp_ck hR (T7_o (T2_16 (ty_114 hR t0))))) (RX7_add (by omega) hR (T2_16 (ty_114 hR t0)) (ti_j p_2072) e_2074 (fun z_2074 h_2075 p_2074 R_2075 => ?_))
      show Rn d _ _ 49 [some (.ref q0), some (.int m1), some (.int m2), some (.int m3), some (.int z_2072)] [.int z_2074] h_2075 Q
      by_cases c_2076 : v_2074 = 0
      · rw [if_pos c_2076] at e
        refine Rn.bt hT rfl rfl rfl (decide_eq_true ((ti_e p_2074 L32_0).mpr c_2076)) ?_
        exact Rn.weak (ll_n (ll_n (ll_n (ll_n (ll_n ll_e))))) (RX11_almanac_b65 hd R_2075 hq e)
      · rw [if_neg c_2076] at e
        refine Rn.bf hT rfl rfl rfl (decide_eq_false (fun z => c_2076 ((ti_e p_2074 L32_0).mp z))) ?_
        refine Rn.n hT 1 (pc' := 53) (L' := [some (.ref q0), some (.int m1), some (.int m2), some (.int m3), some (.int z_2072)]) (st' := [.ref q0]) rfl ?_
        refine Rn.hp hT rfl rfl (gR_hp (rp_gP (k := 4) R_2075 (T11_o t0) rfl (nn_114 R_2075 t0))) ?_
        refine Rn.hp hT rfl rfl (gR_hp (rp_gR R_2075 (T2_o (ty_114 R_2075 t0)) rfl)) ?_
        obtain ⟨z_2077, g_2077, p_2077⟩ : ∃ z : Int32, gI h_2075 7 1 ((s_2075 q0 4).toNat + 16) = some z ∧ z.toInt = s_2075 ((s_2075 q0 4).toNat + 16) 1 := rp_gI (k := 1) R_2075 (T7_o (T2_16 (ty_114 R_2075 t0))) rfl
        refine Rn.hp hT rfl rfl (gI_hp g_2077) ?_
        refine Rn.n hT 1 (pc' := 67) (L' := [some (.ref q0), some (.int m1), some (.int m2), some (.int m3), some (.int z_2072)]) (st' := [.int z_2077]) rfl ?_
        exact Rn.weak (ll_n (ll_n (ll_n (ll_n (ll_n ll_e))))) (RX11_almanac_b67 hd R_2075 p_2077 hq e)
set_option maxRecDepth 10000 in
theorem hX11_would : iv_Tb 172 tX11_would := iv_tb_of (m := mX11_would) rfl
set_option maxRecDepth 10000 in
theorem gX11_would : PG.2 172 = some mX11_would := iv_pi_of (t := tX11_would) rfl (by decide)
def FX11_would_b38 (N : Nat) (s : iv_M)   : Option (Int × iv_M) := (some ((-1), s))
set_option maxRecDepth 10000 in
set_option maxHeartbeats 4000000 in
theorem RX11_would_b38 {d N nc Ls : Nat} {Xs : Nat → Int32} (hd : 6 ≤ d) {h : iv_H} {s : iv_M} (hR : Rep nc Ls Xs h s)   {r : Int × iv_M} {Q : Option Value → iv_H → Prop} (hq : ∀ (z : Int32) (h1 : iv_H), z.toInt = r.1 → Rep nc Ls Xs h1 r.2 → Q (some (.int z)) h1) (e : FX11_would_b38 N s   = some r) : Rn d 172 (some .int) 38 [none, none, none, none] [] h Q := by
  have hT := hX11_would
  unfold FX11_would_b38 at e
  refine Rn.n hT 1 (pc' := 39) (L' := [none, none, none, none]) (st' := [.int (-1 : Int32)]) rfl ?_
  obtain rfl := Option.some.inj e
  exact Rn.ret hT rfl rfl rfl (hq (-1 : Int32) h L32_m1 hR)
def FX11_would_b100 (N : Nat) (s : iv_M)  (xs0 : Int) : Option (Int × iv_M) := (some (xs0, s))
set_option maxRecDepth 10000 in
set_option maxHeartbeats 4000000 in
theorem RX11_would_b100 {d N nc Ls : Nat} {Xs : Nat → Int32} (hd : 6 ≤ d) {h : iv_H} {s : iv_M} (hR : Rep nc Ls Xs h s)  {ms0 : Int32} {xs0 : Int} (ps0 : ms0.toInt = xs0) {r : Int × iv_M} {Q : Option Value → iv_H → Prop} (hq : ∀ (z : Int32) (h1 : iv_H), z.toInt = r.1 → Rep nc Ls Xs h1 r.2 → Q (some (.int z)) h1) (e : FX11_would_b100 N s  xs0 = some r) : Rn d 172 (some .int) 100 [none, none, none, none] [.int ms0] h Q := by
  have hT := hX11_would
  unfold FX11_would_b100 at e
  obtain rfl := Option.some.inj e
  exact Rn.ret hT rfl rfl rfl (hq ms0 h ps0 hR)
def FX11_would (N : Nat) (s : iv_M) (q0 : Nat) (x1 : Int) (x2 : Int) (x3 : Int) : Option (Int × iv_M) := ((FX2_isRoom N s ((s q0 4).toNat) x1).bind fun v_2080 => (if v_2080 = 0 then (FX11_would_b38 N s) else (if x2 < 0 then (FX11_would_b38 N s) else (if (s ((s q0 4).toNat + 16) 1) < x2 then (FX11_would_b38 N s) else (if x3 < 0 then (FX11_would_b38 N s) else (if x3 ≤ 2 then ((FX11_ruleInForce N s q0).bind fun v_2087 => ((FX10_liveTo N s (q0 + 81) ((s q0 4).toNat) v_2087 x2).bind fun s_2089 => (if x3 = 2 then (some ((s_2089 (q0 + 81) 2), s_2089)) else (if x3 = 0 then ((rd s_2089 (((q0 + 81) + 1) + 1) 12 x1).bind fun v_2093 => (FX11_would_b100 N s_2089 v_2093)) else ((rd s_2089 (((q0 + 81) + 1) + 2) 12 x1).bind fun v_2092 => (FX11_would_b100 N s_2089 v_2092)))))) else (FX11_would_b38 N s)))))))
set_option maxRecDepth 10000 in
set_option maxHeartbeats 4000000 in
theorem RX11_would {d N nc Ls : Nat} {Xs : Nat → Int32} (hd : 7 ≤ d) {h : iv_H} {s : iv_M} (hR : Rep nc Ls Xs h s) {q0 : Nat} (t0 : T11 nc q0) {m1 : Int32} {x1 : Int} (p1 : m1.toInt = x1) {m2 : Int32} {x2 : Int} (p2 : m2.toInt = x2) {m3 : Int32} {x3 : Int} (p3 : m3.toInt = x3) {r : Int × iv_M} {Q : Option Value → iv_H → Prop} (e : FX11_would N s q0 x1 x2 x3 = some r) (hq : ∀ (z : Int32) (h1 : iv_H), z.toInt = r.1 → Rep nc Ls Xs h1 r.2 → Q (some (.int z)) h1) : Cl d 172 [.ref q0, .int m1, .int m2, .int m3] h Q := by
  obtain ⟨d, rfl⟩ : ∃ k, d = k + 1 := ⟨d - 1, by omega⟩
  have hd : 6 ≤ d := by omega
  have hT := hX11_would
  unfold FX11_would at e
  refine Cl.into (by decide) gX11_would rfl ?_
  show Rn d 172 (some .int) 0 [some (.ref q0), some (.int m1), some (.int m2), some (.int m3)] [] h Q
  refine Rn.n hT 1 (pc' := 1) (L' := [some (.ref q0), some (.int m1), some (.int m2), some (.int m3)]) (st' := [.ref q0]) rfl ?_
  refine Rn.hp hT rfl rfl (gR_hp (rp_gP (k := 4) hR (T11_o t0) rfl (nn_114 hR t0))) ?_
  refine Rn.n hT 1 (pc' := 5) (L' := [some (.ref q0), some (.int m1), some (.int m2), some (.int m3)]) (st' := [.int m1, .ref ((s q0 4).toNat)]) rfl ?_
  obtain ⟨v_2080, e_2080, e⟩ := Option.bind_eq_some_iff.mp e
  refine Rn.call hT rfl rfl rfl (Nat.le_of_ble_eq_true rfl) (rcv_v gX2_isRoom (by omega) (rp_ck hR (T2_o (ty_114 hR t0)))) (RX2_isRoom (by omega) hR (ty_114 hR t0) p1 e_2080 (fun z_2080 p_2080 => ?_))
  show Rn d _ _ 8 [some (.ref q0), some (.int m1), some (.int m2), some (.int m3)] [.int z_2080] h Q
  by_cases c_2081 : v_2080 = 0
  · rw [if_pos c_2081] at e
    refine Rn.bt hT rfl rfl rfl (decide_eq_true ((ti_e p_2080 L32_0).mpr c_2081)) ?_
    exact Rn.weak (ll_n (ll_n (ll_n (ll_n ll_e)))) (RX11_would_b38 hd hR hq e)
  · rw [if_neg c_2081] at e
    refine Rn.bf hT rfl rfl rfl (decide_eq_false (fun z => c_2081 ((ti_e p_2080 L32_0).mp z))) ?_
    refine Rn.n hT 1 (pc' := 12) (L' := [some (.ref q0), some (.int m1), some (.int m2), some (.int m3)]) (st' := [.int m2]) rfl ?_
    by_cases c_2082 : x2 < 0
    · rw [if_pos c_2082] at e
      refine Rn.bt hT rfl rfl rfl (decide_eq_true ((ti_l p2 L32_0).mpr c_2082)) ?_
      exact Rn.weak (ll_n (ll_n (ll_n (ll_n ll_e)))) (RX11_would_b38 hd hR hq e)
    · rw [if_neg c_2082] at e
      refine Rn.bf hT rfl rfl rfl (decide_eq_false (fun z => c_2082 ((ti_l p2 L32_0).mp z))) ?_
      refine Rn.n hT 2 (pc' := 17) (L' := [some (.ref q0), some (.int m1), some (.int m2), some (.int m3)]) (st' := [.ref q0, .int m2]) rfl ?_
      refine Rn.hp hT rfl rfl (gR_hp (rp_gP (k := 4) hR (T11_o t0) rfl (nn_114 hR t0))) ?_
      refine Rn.hp hT rfl rfl (gR_hp (rp_gR hR (T2_o (ty_114 hR t0)) rfl)) ?_
      obtain ⟨z_2083, g_2083, p_2083⟩ : ∃ z : Int32, gI h 7 1 ((s q0 4).toNat + 16) = some z ∧ z.toInt = s ((s q0 4).toNat + 16) 1 := rp_gI (k := 1) hR (T7_o (T2_16 (ty_114 hR t0))) rfl
      refine Rn.hp hT rfl rfl (gI_hp g_2083) ?_
      by_cases c_2084 : (s ((s q0 4).toNat + 16) 1) < x2
      · rw [if_pos c_2084] at e
        refine Rn.bt hT rfl rfl rfl (decide_eq_true ((ti_l p_2083 p2).mpr c_2084)) ?_
        exact Rn.weak (ll_n (ll_n (ll_n (ll_n ll_e)))) (RX11_would_b38 hd hR hq e)
      · rw [if_neg c_2084] at e
        refine Rn.bf hT rfl rfl rfl (decide_eq_false (fun z => c_2084 ((ti_l p_2083 p2).mp z))) ?_
        refine Rn.n hT 1 (pc' := 30) (L' := [some (.ref q0), some (.int m1), some (.int m2), some (.int m3)]) (st' := [.int m3]) rfl ?_
        by_cases c_2085 : x3 < 0
        · rw [if_pos c_2085] at e
          refine Rn.bt hT rfl rfl rfl (decide_eq_true ((ti_l p3 L32_0).mpr c_2085)) ?_
          exact Rn.weak (ll_n (ll_n (ll_n (ll_n ll_e)))) (RX11_would_b38 hd hR hq e)
        · rw [if_neg c_2085] at e
          refine Rn.bf hT rfl rfl rfl (decide_eq_false (fun z => c_2085 ((ti_l p3 L32_0).mp z))) ?_
          refine Rn.n hT 2 (pc' := 35) (L' := [some (.ref q0), some (.int m1), some (.int m2), some (.int m3)]) (st' := [.int (2 : Int32), .int m3]) rfl ?_
          by_cases c_2086 : x3 ≤ 2
          · rw [if_pos c_2086] at e
            refine Rn.bt hT rfl rfl rfl (decide_eq_true ((ti_le p3 L32_2).mpr c_2086)) ?_
            refine Rn.n hT 1 (pc' := 41) (L' := [some (.ref q0), some (.int m1), some (.int m2), some (.int m3)]) (st' := [.ref q0]) rfl ?_
            refine Rn.hp hT rfl rfl (gR_hp (rp_gR hR (T11_o t0) rfl)) ?_
            refine Rn.n hT 1 (pc' := 45) (L' := [some (.ref q0), some (.int m1), some (.int m2), some (.int m3)]) (st' := [.ref q0, .ref (q0 + 81)]) rfl ?_
            refine Rn.hp hT rfl rfl (gR_hp (rp_gP (k := 4) hR (T11_o t0) rfl (nn_114 hR t0))) ?_
            refine Rn.n hT 1 (pc' := 49) (L' := [some (.ref q0), some (.int m1), some (.int m2), some (.int m3)]) (st' := [.ref q0, .ref ((s q0 4).toNat), .ref (q0 + 81)]) rfl ?_
            obtain ⟨v_2087, e_2087, e⟩ := Option.bind_eq_some_iff.mp e
            refine Rn.call hT rfl rfl rfl (Nat.le_of_ble_eq_true rfl) (rcv_v gX11_ruleInForce (by omega) (rp_ck hR (T11_o t0))) (RX11_ruleInForce (by omega) hR t0 e_2087 (fun t_2087 => ?_))
            show Rn d _ _ 52 [some (.ref q0), some (.int m1), some (.int m2), some (.int m3)] [iv_rf (rvo v_2087), .ref ((s q0 4).toNat), .ref (q0 + 81)] h Q
            refine Rn.n hT 1 (pc' := 53) (L' := [some (.ref q0), some (.int m1), some (.int m2), some (.int m3)]) (st' := [.int m2, iv_rf (rvo v_2087), .ref ((s q0 4).toNat), .ref (q0 + 81)]) rfl ?_
            obtain ⟨s_2089, e_2088, e⟩ := Option.bind_eq_some_iff.mp e
            refine Rn.call hT rfl rfl rfl (Nat.le_of_ble_eq_true rfl) (rcv_v gX10_liveTo (by omega) (rp_ck hR (T10_o (T11_11 t0)))) (RX10_liveTo (by omega) hR (T11_11 t0) (ty_114 hR t0) t_2087 p2 e_2088 (fun h_2089 R_2089 => ?_))
            show Rn d _ _ 56 [some (.ref q0), some (.int m1), some (.int m2), some (.int m3)] [] h_2089 Q
            refine Rn.n hT 2 (pc' := 58) (L' := [some (.ref q0), some (.int m1), some (.int m2), some (.int m3)]) (st' := [.int (2 : Int32), .int m3]) rfl ?_
            by_cases c_2090 : x3 = 2
            · rw [if_pos c_2090] at e
              refine Rn.bf hT rfl rfl rfl (decide_eq_false (fun z => z ((ti_e p3 L32_2).mpr c_2090))) ?_
              refine Rn.n hT 1 (pc' := 62) (L' := [some (.ref q0), some (.int m1), some (.int m2), some (.int m3)]) (st' := [.ref q0]) rfl ?_
              refine Rn.hp hT rfl rfl (gR_hp (rp_gR R_2089 (T11_o t0) rfl)) ?_
              obtain ⟨z_2094, g_2094, p_2094⟩ : ∃ z : Int32, gI h_2089 10 2 (q0 + 81) = some z ∧ z.toInt = s_2089 (q0 + 81) 2 := rp_gI (k := 2) R_2089 (T10_o (T11_11 t0)) rfl
              refine Rn.hp hT rfl rfl (gI_hp g_2094) ?_
              obtain rfl := Option.some.inj e
              exact Rn.ret hT rfl rfl rfl (hq z_2094 h_2089 p_2094 R_2089)
            · rw [if_neg c_2090] at e
              refine Rn.bt hT rfl rfl rfl (decide_eq_true (fun z => c_2090 ((ti_e p3 L32_2).mp z))) ?_
              refine Rn.n hT 1 (pc' := 70) (L' := [some (.ref q0), some (.int m1), some (.int m2), some (.int m3)]) (st' := [.int m3]) rfl ?_
              by_cases c_2091 : x3 = 0
              · rw [if_pos c_2091] at e
                refine Rn.bf hT rfl rfl rfl (decide_eq_false (fun z => z ((ti_e p3 L32_0).mpr c_2091))) ?_
                refine Rn.n hT 1 (pc' := 74) (L' := [some (.ref q0), some (.int m1), some (.int m2), some (.int m3)]) (st' := [.ref q0]) rfl ?_
                refine Rn.hp hT rfl rfl (gR_hp (rp_gR R_2089 (T11_o t0) rfl)) ?_
                refine Rn.hp hT rfl rfl (gR_hp (rp_gR R_2089 (T10_o (T11_11 t0)) rfl)) ?_
                refine Rn.hp hT rfl rfl (gR_hp (rp_gR R_2089 (T1_o (T10_0 (T11_11 t0))) rfl)) ?_
                refine Rn.n hT 1 (pc' := 84) (L' := [some (.ref q0), some (.int m1), some (.int m2), some (.int m3)]) (st' := [.int m1, .ref (((q0 + 81) + 1) + 1)]) rfl ?_
                obtain ⟨v_2093, e_2093, e⟩ := Option.bind_eq_some_iff.mp e
                obtain ⟨z_2093, g_2093, p_2093⟩ := rp_aI R_2089 (T1_5 (T10_0 (T11_11 t0))) (T1_5l (T10_0 (T11_11 t0))) p1 e_2093
                refine Rn.hp hT rfl rfl (aI_hp g_2093) ?_
                refine Rn.n hT 1 (pc' := 100) (L' := [some (.ref q0), some (.int m1), some (.int m2), some (.int m3)]) (st' := [.int z_2093]) rfl ?_
                exact Rn.weak (ll_n (ll_n (ll_n (ll_n ll_e)))) (RX11_would_b100 hd R_2089 p_2093 hq e)
              · rw [if_neg c_2091] at e
                refine Rn.bt hT rfl rfl rfl (decide_eq_true (fun z => c_2091 ((ti_e p3 L32_0).mp z))) ?_
                refine Rn.n hT 1 (pc' := 89) (L' := [some (.ref q0), some (.int m1), some (.int m2), some (.int m3)]) (st' := [.ref q0]) rfl ?_
                refine Rn.hp hT rfl rfl (gR_hp (rp_gR R_2089 (T11_o t0) rfl)) ?_
                refine Rn.hp hT rfl rfl (gR_hp (rp_gR R_2089 (T10_o (T11_11 t0)) rfl)) ?_
                refine Rn.hp hT rfl rfl (gR_hp (rp_gR R_2089 (T1_o (T10_0 (T11_11 t0))) rfl)) ?_
                refine Rn.n hT 1 (pc' := 99) (L' := [some (.ref q0), some (.int m1), some (.int m2), some (.int m3)]) (st' := [.int m1, .ref (((q0 + 81) + 1) + 2)]) rfl ?_
                obtain ⟨v_2092, e_2092, e⟩ := Option.bind_eq_some_iff.mp e
                obtain ⟨z_2092, g_2092, p_2092⟩ := rp_aI R_2089 (T1_6 (T10_0 (T11_11 t0))) (T1_6l (T10_0 (T11_11 t0))) p1 e_2092
                refine Rn.hp hT rfl rfl (aI_hp g_2092) ?_
                exact Rn.weak (ll_n (ll_n (ll_n (ll_n ll_e)))) (RX11_would_b100 hd R_2089 p_2092 hq e)
          · rw [if_neg c_2086] at e
            refine Rn.bf hT rfl rfl rfl (decide_eq_false (fun z => c_2086 ((ti_le p3 L32_2).mp z))) ?_
            exact Rn.weak (ll_n (ll_n (ll_n (ll_n ll_e)))) (RX11_would_b38 hd hR hq e)
set_option maxRecDepth 10000 in
theorem hX11_follow : iv_Tb 173 tX11_follow := iv_tb_of (m := mX11_follow) rfl
set_option maxRecDepth 10000 in
theorem gX11_follow : PG.2 173 = some mX11_follow := iv_pi_of (t := tX11_follow) rfl (by decide)
def FX11_follow_b109 (N : Nat) (s : iv_M) (q0 : Nat) (x2 : Int) (xs0 : Int) (xs1 : Int) (kb : iv_M → Int → Int → Option (Int × iv_M)) (kx : iv_M → Int → Option (Int × iv_M)) : Option (Int × iv_M) := (kb s (w32 (xs1 + xs0)) (w32 (x2 + 1)))
set_option maxRecDepth 10000 in
set_option maxHeartbeats 4000000 in
theorem RX11_follow_b109 {d N nc Ls : Nat} {Xs : Nat → Int32} (hd : 4 ≤ d) {h : iv_H} {s : iv_M} (hR : Rep nc Ls Xs h s) {q0 : Nat} (t0 : T11 nc q0) {m2 : Int32} {x2 : Int} (p2 : m2.toInt = x2) {ms0 : Int32} {xs0 : Int} (ps0 : ms0.toInt = xs0) {ms1 : Int32} {xs1 : Int} (ps1 : ms1.toInt = xs1) {kb : iv_M → Int → Int → Option (Int × iv_M)} {kx : iv_M → Int → Option (Int × iv_M)} {r : Int × iv_M} {Q : Option Value → iv_H → Prop} (hb : ∀ (h : iv_H) (s : iv_M) (hR : Rep nc Ls Xs h s) (mw1 : Int32) (xw1 : Int) (pw1 : mw1.toInt = xw1) (mw2 : Int32) (xw2 : Int) (pw2 : mw2.toInt = xw2), kb s xw1 xw2 = some r → Rn d 173 (some .int) 16 [some (.ref q0), some (.int mw1), some (.int mw2), none, none] [] h Q) (hk : ∀ (h : iv_H) (s : iv_M) (hR : Rep nc Ls Xs h s) (mw1 : Int32) (xw1 : Int) (pw1 : mw1.toInt = xw1), kx s xw1 = some r → Rn d 173 (some .int) 117 [some (.ref q0), some (.int mw1), none, none, none] [] h Q) (hq : ∀ (z : Int32) (h1 : iv_H), z.toInt = r.1 → Rep nc Ls Xs h1 r.2 → Q (some (.int z)) h1) (e : FX11_follow_b109 N s q0 x2 xs0 xs1 kb kx = some r) : Rn d 173 (some .int) 109 [some (.ref q0), none, some (.int m2), none, none] [.int ms0, .int ms1] h Q := by
  have hT := hX11_follow
  unfold FX11_follow_b109 at e
  refine Rn.n hT 4 (pc' := 16) (L' := [some (.ref q0), some (.int (ms1 + ms0)), some (.int (m2 + (1 : Int32))), none, none]) (st' := []) rfl ?_
  exact Rn.weak (ll_s (ll_s (ll_s (ll_n (ll_n ll_e))))) (hb h s hR (ms1 + ms0) (w32 (xs1 + xs0)) (ti_add ps1 ps0) (m2 + (1 : Int32)) (w32 (x2 + 1)) (ti_add p2 L32_1) e)
def FX11_follow_b95 (N : Nat) (s : iv_M) (q0 : Nat) (x1 : Int) (x2 : Int) (x4 : Int) (xs0 : Int) (qs1 : Nat) (kb : iv_M → Int → Int → Option (Int × iv_M)) (kx : iv_M → Int → Option (Int × iv_M)) : Option (Int × iv_M) := ((FX11_nightComes N s qs1 xs0).bind fun s_2112 => (if x4 = 0 then (FX11_follow_b109 N s_2112 q0 x2 1 x1 kb kx) else (FX11_follow_b109 N s_2112 q0 x2 0 x1 kb kx)))
set_option maxRecDepth 10000 in
set_option maxHeartbeats 4000000 in
theorem RX11_follow_b95 {d N nc Ls : Nat} {Xs : Nat → Int32} (hd : 4 ≤ d) {h : iv_H} {s : iv_M} (hR : Rep nc Ls Xs h s) {q0 : Nat} (t0 : T11 nc q0) {m1 : Int32} {x1 : Int} (p1 : m1.toInt = x1) {m2 : Int32} {x2 : Int} (p2 : m2.toInt = x2) {m4 : Int32} {x4 : Int} (p4 : m4.toInt = x4) {ms0 : Int32} {xs0 : Int} (ps0 : ms0.toInt = xs0) {qs1 : Nat} (ts1 : T11 nc qs1) {kb : iv_M → Int → Int → Option (Int × iv_M)} {kx : iv_M → Int → Option (Int × iv_M)} {r : Int × iv_M} {Q : Option Value → iv_H → Prop} (hb : ∀ (h : iv_H) (s : iv_M) (hR : Rep nc Ls Xs h s) (mw1 : Int32) (xw1 : Int) (pw1 : mw1.toInt = xw1) (mw2 : Int32) (xw2 : Int) (pw2 : mw2.toInt = xw2), kb s xw1 xw2 = some r → Rn d 173 (some .int) 16 [some (.ref q0), some (.int mw1), some (.int mw2), none, none] [] h Q) (hk : ∀ (h : iv_H) (s : iv_M) (hR : Rep nc Ls Xs h s) (mw1 : Int32) (xw1 : Int) (pw1 : mw1.toInt = xw1), kx s xw1 = some r → Rn d 173 (some .int) 117 [some (.ref q0), some (.int mw1), none, none, none] [] h Q) (hq : ∀ (z : Int32) (h1 : iv_H), z.toInt = r.1 → Rep nc Ls Xs h1 r.2 → Q (some (.int z)) h1) (e : FX11_follow_b95 N s q0 x1 x2 x4 xs0 qs1 kb kx = some r) : Rn d 173 (some .int) 95 [some (.ref q0), some (.int m1), some (.int m2), none, some (.int m4)] [.int ms0, .ref qs1] h Q := by
  have hT := hX11_follow
  unfold FX11_follow_b95 at e
  obtain ⟨s_2112, e_2111, e⟩ := Option.bind_eq_some_iff.mp e
  refine Rn.call hT rfl rfl rfl (Nat.le_of_ble_eq_true rfl) (rcv_v gX11_nightComes (by omega) (rp_ck hR (T11_o ts1))) (RX11_nightComes (by omega) hR ts1 ps0 e_2111 (fun h_2112 R_2112 => ?_))
  show Rn d _ _ 98 [some (.ref q0), some (.int m1), some (.int m2), none, some (.int m4)] [] h_2112 Q
  refine Rn.n hT 2 (pc' := 101) (L' := [some (.ref q0), some (.int m1), some (.int m2), none, some (.int m4)]) (st' := [.int m4, .int m1]) rfl ?_
  by_cases c_2113 : x4 = 0
  · rw [if_pos c_2113] at e
    refine Rn.bt hT rfl rfl rfl (decide_eq_true ((ti_e p4 L32_0).mpr c_2113)) ?_
    refine Rn.n hT 1 (pc' := 109) (L' := [some (.ref q0), some (.int m1), some (.int m2), none, some (.int m4)]) (st' := [.int (1 : Int32), .int m1]) rfl ?_
    exact Rn.weak (ll_s (ll_n (ll_s (ll_n (ll_n ll_e))))) (RX11_follow_b109 hd R_2112 t0 p2 L32_1 p1 hb hk hq e)
  · rw [if_neg c_2113] at e
    refine Rn.bf hT rfl rfl rfl (decide_eq_false (fun z => c_2113 ((ti_e p4 L32_0).mp z))) ?_
    refine Rn.n hT 2 (pc' := 109) (L' := [some (.ref q0), some (.int m1), some (.int m2), none, some (.int m4)]) (st' := [.int (0 : Int32), .int m1]) rfl ?_
    exact Rn.weak (ll_s (ll_n (ll_s (ll_n (ll_n ll_e))))) (RX11_follow_b109 hd R_2112 t0 p2 L32_0 p1 hb hk hq e)
def FX11_follow_b82 (N : Nat) (s : iv_M) (q0 : Nat) (x1 : Int) (x2 : Int) (x3 : Int) (xs0 : Int) (kb : iv_M → Int → Int → Option (Int × iv_M)) (kx : iv_M → Int → Option (Int × iv_M)) : Option (Int × iv_M) := (if xs0 = 0 then (FX11_follow_b95 N s q0 x1 x2 xs0 (-1) q0 kb kx) else (FX11_follow_b95 N s q0 x1 x2 xs0 x3 q0 kb kx))
set_option maxRecDepth 10000 in
set_option maxHeartbeats 4000000 in
theorem RX11_follow_b82 {d N nc Ls : Nat} {Xs : Nat → Int32} (hd : 4 ≤ d) {h : iv_H} {s : iv_M} (hR : Rep nc Ls Xs h s) {q0 : Nat} (t0 : T11 nc q0) {m1 : Int32} {x1 : Int} (p1 : m1.toInt = x1) {m2 : Int32} {x2 : Int} (p2 : m2.toInt = x2) {m3 : Int32} {x3 : Int} (p3 : m3.toInt = x3) {ms0 : Int32} {xs0 : Int} (ps0 : ms0.toInt = xs0) {kb : iv_M → Int → Int → Option (Int × iv_M)} {kx : iv_M → Int → Option (Int × iv_M)} {r : Int × iv_M} {Q : Option Value → iv_H → Prop} (hb : ∀ (h : iv_H) (s : iv_M) (hR : Rep nc Ls Xs h s) (mw1 : Int32) (xw1 : Int) (pw1 : mw1.toInt = xw1) (mw2 : Int32) (xw2 : Int) (pw2 : mw2.toInt = xw2), kb s xw1 xw2 = some r → Rn d 173 (some .int) 16 [some (.ref q0), some (.int mw1), some (.int mw2), none, none] [] h Q) (hk : ∀ (h : iv_H) (s : iv_M) (hR : Rep nc Ls Xs h s) (mw1 : Int32) (xw1 : Int) (pw1 : mw1.toInt = xw1), kx s xw1 = some r → Rn d 173 (some .int) 117 [some (.ref q0), some (.int mw1), none, none, none] [] h Q) (hq : ∀ (z : Int32) (h1 : iv_H), z.toInt = r.1 → Rep nc Ls Xs h1 r.2 → Q (some (.int z)) h1) (e : FX11_follow_b82 N s q0 x1 x2 x3 xs0 kb kx = some r) : Rn d 173 (some .int) 82 [some (.ref q0), some (.int m1), some (.int m2), some (.int m3), none] [.int ms0] h Q := by
  have hT := hX11_follow
  unfold FX11_follow_b82 at e
  refine Rn.n hT 3 (pc' := 87) (L' := [some (.ref q0), some (.int m1), some (.int m2), some (.int m3), some (.int ms0)]) (st' := [.int ms0, .ref q0]) rfl ?_
  by_cases c_2110 : xs0 = 0
  · rw [if_pos c_2110] at e
    refine Rn.bt hT rfl rfl rfl (decide_eq_true ((ti_e ps0 L32_0).mpr c_2110)) ?_
    refine Rn.n hT 1 (pc' := 95) (L' := [some (.ref q0), some (.int m1), some (.int m2), some (.int m3), some (.int ms0)]) (st' := [.int (-1 : Int32), .ref q0]) rfl ?_
    exact Rn.weak (ll_s (ll_s (ll_s (ll_n (ll_s ll_e))))) (RX11_follow_b95 hd hR t0 p1 p2 ps0 L32_m1 t0 hb hk hq e)
  · rw [if_neg c_2110] at e
    refine Rn.bf hT rfl rfl rfl (decide_eq_false (fun z => c_2110 ((ti_e ps0 L32_0).mp z))) ?_
    refine Rn.n hT 2 (pc' := 95) (L' := [some (.ref q0), some (.int m1), some (.int m2), some (.int m3), some (.int ms0)]) (st' := [.int m3, .ref q0]) rfl ?_
    exact Rn.weak (ll_s (ll_s (ll_s (ll_n (ll_s ll_e))))) (RX11_follow_b95 hd hR t0 p1 p2 ps0 p3 t0 hb hk hq e)
def FX11_follow_l16 (N : Nat) (q0 : Nat) (kx : iv_M → Int → Option (Int × iv_M)) : Nat → iv_M → Int → Int → Option (Int × iv_M)
  | 0, _, _, _ => none
  | n + 1, s, x1, x2 => (if (s ((s q0 4).toNat + 16) 1) ≤ x2 then (kx s x1) else ((rd s (((s q0 4).toNat + 16) + 1) ((sh (((s q0 4).toNat + 16) + 1)).2 : Int) x2).bind fun v_2103 => ((FX11_ruleInForce N s q0).bind fun v_2104 => ((FX3_open N s (q0 + 62) ((s q0 4).toNat) ((s q0 4).toNat + 1) v_2104).bind fun s_2106 => ((FX3_broken N s_2106 (q0 + 62) (w32 v_2103)).bind fun r_2107 => (fun (v_2107 : Int) (s_2108 : iv_M) => (if v_2107 = 0 then (FX11_follow_b82 N s_2108 q0 x1 x2 (w32 v_2103) 1 (FX11_follow_l16 N q0 kx n) kx) else (FX11_follow_b82 N s_2108 q0 x1 x2 (w32 v_2103) 0 (FX11_follow_l16 N q0 kx n) kx))) r_2107.1 r_2107.2)))))
set_option maxRecDepth 10000 in
set_option maxHeartbeats 4000000 in
theorem RX11_follow_l16 {d N nc Ls : Nat} {Xs : Nat → Int32} (hd : 4 ≤ d) {q0 : Nat} (t0 : T11 nc q0) {kx : iv_M → Int → Option (Int × iv_M)} {r : Int × iv_M} {Q : Option Value → iv_H → Prop} (hk : ∀ (h : iv_H) (s : iv_M) (hR : Rep nc Ls Xs h s) (m1 : Int32) (x1 : Int) (p1 : m1.toInt = x1), kx s x1 = some r → Rn d 173 (some .int) 117 [some (.ref q0), some (.int m1), none, none, none] [] h Q) (hq : ∀ (z : Int32) (h1 : iv_H), z.toInt = r.1 → Rep nc Ls Xs h1 r.2 → Q (some (.int z)) h1) : ∀ (n : Nat) (h : iv_H) (s : iv_M) (hR : Rep nc Ls Xs h s) (m1 : Int32) (x1 : Int) (p1 : m1.toInt = x1) (m2 : Int32) (x2 : Int) (p2 : m2.toInt = x2), FX11_follow_l16 N q0 kx n s x1 x2 = some r → Rn d 173 (some .int) 16 [some (.ref q0), some (.int m1), some (.int m2), none, none] [] h Q := by
  have hT := hX11_follow
  intro n
  induction n with
  | zero =>
    intro h s hR m1 x1 p1 m2 x2 p2 e
    rw [FX11_follow_l16] at e
    cases e
  | succ n ih =>
    intro h s hR m1 x1 p1 m2 x2 p2 e
    rw [FX11_follow_l16] at e
    refine Rn.n hT 2 (pc' := 18) (L' := [some (.ref q0), some (.int m1), some (.int m2), none, none]) (st' := [.ref q0, .int m2]) rfl ?_
    refine Rn.hp hT rfl rfl (gR_hp (rp_gP (k := 4) hR (T11_o t0) rfl (nn_114 hR t0))) ?_
    refine Rn.hp hT rfl rfl (gR_hp (rp_gR hR (T2_o (ty_114 hR t0)) rfl)) ?_
    obtain ⟨z_2101, g_2101, p_2101⟩ : ∃ z : Int32, gI h 7 1 ((s q0 4).toNat + 16) = some z ∧ z.toInt = s ((s q0 4).toNat + 16) 1 := rp_gI (k := 1) hR (T7_o (T2_16 (ty_114 hR t0))) rfl
    refine Rn.hp hT rfl rfl (gI_hp g_2101) ?_
    by_cases c_2102 : (s ((s q0 4).toNat + 16) 1) ≤ x2
    · rw [if_pos c_2102] at e
      refine Rn.bt hT rfl rfl rfl (decide_eq_true ((ti_le p_2101 p2).mpr c_2102)) ?_
      exact Rn.weak (ll_s (ll_s (ll_n (ll_n (ll_n ll_e))))) (hk h s hR m1 x1 p1 e)
    · rw [if_neg c_2102] at e
      refine Rn.bf hT rfl rfl rfl (decide_eq_false (fun z => c_2102 ((ti_le p_2101 p2).mp z))) ?_
      refine Rn.n hT 1 (pc' := 31) (L' := [some (.ref q0), some (.int m1), some (.int m2), none, none]) (st' := [.ref q0]) rfl ?_
      refine Rn.hp hT rfl rfl (gR_hp (rp_gP (k := 4) hR (T11_o t0) rfl (nn_114 hR t0))) ?_
      refine Rn.hp hT rfl rfl (gR_hp (rp_gR hR (T2_o (ty_114 hR t0)) rfl)) ?_
      refine Rn.hp hT rfl rfl (gR_hp (rp_gR hR (T7_o (T2_16 (ty_114 hR t0))) rfl)) ?_
      refine Rn.n hT 1 (pc' := 41) (L' := [some (.ref q0), some (.int m1), some (.int m2), none, none]) (st' := [.int m2, .ref (((s q0 4).toNat + 16) + 1)]) rfl ?_
      obtain ⟨v_2103, e_2103, e⟩ := Option.bind_eq_some_iff.mp e
      obtain ⟨z_2103, g_2103, p_2103⟩ := rp_aJ hR (T7_0 (T2_16 (ty_114 hR t0))) rfl p2 e_2103
      refine Rn.hp hT rfl rfl (aJ_hp g_2103) ?_
      refine Rn.n hT 3 (pc' := 45) (L' := [some (.ref q0), some (.int m1), some (.int m2), some (.int ((z_2103).toInt32)), none]) (st' := [.ref q0]) rfl ?_
      refine Rn.hp hT rfl rfl (gR_hp (rp_gR hR (T11_o t0) rfl)) ?_
      refine Rn.n hT 1 (pc' := 49) (L' := [some (.ref q0), some (.int m1), some (.int m2), some (.int ((z_2103).toInt32)), none]) (st' := [.ref q0, .ref (q0 + 62)]) rfl ?_
      refine Rn.hp hT rfl rfl (gR_hp (rp_gP (k := 4) hR (T11_o t0) rfl (nn_114 hR t0))) ?_
      refine Rn.n hT 1 (pc' := 53) (L' := [some (.ref q0), some (.int m1), some (.int m2), some (.int ((z_2103).toInt32)), none]) (st' := [.ref q0, .ref ((s q0 4).toNat), .ref (q0 + 62)]) rfl ?_
      refine Rn.hp hT rfl rfl (gR_hp (rp_gP (k := 4) hR (T11_o t0) rfl (nn_114 hR t0))) ?_
      refine Rn.hp hT rfl rfl (gR_hp (rp_gR hR (T2_o (ty_114 hR t0)) rfl)) ?_
      refine Rn.n hT 1 (pc' := 60) (L' := [some (.ref q0), some (.int m1), some (.int m2), some (.int ((z_2103).toInt32)), none]) (st' := [.ref q0, .ref ((s q0 4).toNat + 1), .ref ((s q0 4).toNat), .ref (q0 + 62)]) rfl ?_
      obtain ⟨v_2104, e_2104, e⟩ := Option.bind_eq_some_iff.mp e
      refine Rn.call hT rfl rfl rfl (Nat.le_of_ble_eq_true rfl) (rcv_v gX11_ruleInForce (by omega) (rp_ck hR (T11_o t0))) (RX11_ruleInForce (by omega) hR t0 e_2104 (fun t_2104 => ?_))
      show Rn d _ _ 63 [some (.ref q0), some (.int m1), some (.int m2), some (.int ((z_2103).toInt32)), none] [iv_rf (rvo v_2104), .ref ((s q0 4).toNat + 1), .ref ((s q0 4).toNat), .ref (q0 + 62)] h Q
      obtain ⟨s_2106, e_2105, e⟩ := Option.bind_eq_some_iff.mp e
      refine Rn.call hT rfl rfl rfl (Nat.le_of_ble_eq_true rfl) (rcv_v gX3_open (by omega) (rp_ck hR (T3_o (T11_9 t0)))) (RX3_open (by omega) hR (T11_9 t0) (ty_114 hR t0) (T2_9 (ty_114 hR t0)) t_2104 e_2105 (fun h_2106 R_2106 => ?_))
      show Rn d _ _ 66 [some (.ref q0), some (.int m1), some (.int m2), some (.int ((z_2103).toInt32)), none] [] h_2106 Q
      refine Rn.n hT 1 (pc' := 67) (L' := [some (.ref q0), some (.int m1), some (.int m2), some (.int ((z_2103).toInt32)), none]) (st' := [.ref q0]) rfl ?_
      refine Rn.hp hT rfl rfl (gR_hp (rp_gR R_2106 (T11_o t0) rfl)) ?_
      refine Rn.n hT 1 (pc' := 71) (L' := [some (.ref q0), some (.int m1), some (.int m2), some (.int ((z_2103).toInt32)), none]) (st' := [.int ((z_2103).toInt32), .ref (q0 + 62)]) rfl ?_
      obtain ⟨⟨v_2107, s_2108⟩, e_2107, e⟩ := Option.bind_eq_some_iff.mp e
      try dsimp only at e
      try dsimp only at e
      refine Rn.call hT rfl rfl rfl (Nat.le_of_ble_eq_true rfl) (rcv_v gX3_broken (by omega) (rp_ck R_2106 (T3_o (T11_9 t0)))) (RX3_broken (by omega) R_2106 (T11_9 t0) (tj_i p_2103) e_2107 (fun z_2107 h_2108 p_2107 R_2108 => ?_))
      show Rn d _ _ 74 [some (.ref q0), some (.int m1), some (.int m2), some (.int ((z_2103).toInt32)), none] [.int z_2107] h_2108 Q
      by_cases c_2109 : v_2107 = 0
      · rw [if_pos c_2109] at e
        refine Rn.bf hT rfl rfl rfl (decide_eq_false (fun z => z ((ti_e p_2107 L32_0).mpr c_2109))) ?_
        refine Rn.n hT 2 (pc' := 82) (L' := [some (.ref q0), some (.int m1), some (.int m2), some (.int ((z_2103).toInt32)), none]) (st' := [.int (1 : Int32)]) rfl ?_
        exact Rn.weak (ll_s (ll_s (ll_s (ll_s (ll_n ll_e))))) (RX11_follow_b82 hd R_2108 t0 p1 p2 (tj_i p_2103) L32_1 ih hk hq e)
      · rw [if_neg c_2109] at e
        refine Rn.bt hT rfl rfl rfl (decide_eq_true (fun z => c_2109 ((ti_e p_2107 L32_0).mp z))) ?_
        refine Rn.n hT 1 (pc' := 82) (L' := [some (.ref q0), some (.int m1), some (.int m2), some (.int ((z_2103).toInt32)), none]) (st' := [.int (0 : Int32)]) rfl ?_
        exact Rn.weak (ll_s (ll_s (ll_s (ll_s (ll_n ll_e))))) (RX11_follow_b82 hd R_2108 t0 p1 p2 (tj_i p_2103) L32_0 ih hk hq e)
def FX11_follow (N : Nat) (s : iv_M) (q0 : Nat) : Option (Int × iv_M) := (if (s ((s q0 4).toNat) 0) = 0 then (some ((-1), s)) else (FX11_follow_l16 N q0 (fun (s_2097 : iv_M) (x2098_1 : Int) => ((pt s_2097 ((s_2097 q0 4).toNat + 16) 1 0).bind fun s_2099 => (some (x2098_1, s_2099)))) N s 0 0))
set_option maxRecDepth 10000 in
set_option maxHeartbeats 4000000 in
theorem RX11_follow {d N nc Ls : Nat} {Xs : Nat → Int32} (hd : 5 ≤ d) {h : iv_H} {s : iv_M} (hR : Rep nc Ls Xs h s) {q0 : Nat} (t0 : T11 nc q0) {r : Int × iv_M} {Q : Option Value → iv_H → Prop} (e : FX11_follow N s q0 = some r) (hq : ∀ (z : Int32) (h1 : iv_H), z.toInt = r.1 → Rep nc Ls Xs h1 r.2 → Q (some (.int z)) h1) : Cl d 173 [.ref q0] h Q := by
  obtain ⟨d, rfl⟩ : ∃ k, d = k + 1 := ⟨d - 1, by omega⟩
  have hd : 4 ≤ d := by omega
  have hT := hX11_follow
  unfold FX11_follow at e
  refine Cl.into (by decide) gX11_follow rfl ?_
  show Rn d 173 (some .int) 0 [some (.ref q0), none, none, none, none] [] h Q
  refine Rn.n hT 1 (pc' := 1) (L' := [some (.ref q0), none, none, none, none]) (st' := [.ref q0]) rfl ?_
  refine Rn.hp hT rfl rfl (gR_hp (rp_gP (k := 4) hR (T11_o t0) rfl (nn_114 hR t0))) ?_
  obtain ⟨z_2095, g_2095, p_2095⟩ : ∃ z : Int32, gI h 2 0 ((s q0 4).toNat) = some z ∧ z.toInt = s ((s q0 4).toNat) 0 := rp_gI (k := 0) hR (T2_o (ty_114 hR t0)) rfl
  refine Rn.hp hT rfl rfl (gI_hp g_2095) ?_
  by_cases c_2096 : (s ((s q0 4).toNat) 0) = 0
  · rw [if_pos c_2096] at e
    refine Rn.bf hT rfl rfl rfl (decide_eq_false (fun z => z ((ti_e p_2095 L32_0).mpr c_2096))) ?_
    refine Rn.n hT 1 (pc' := 11) (L' := [some (.ref q0), none, none, none, none]) (st' := [.int (-1 : Int32)]) rfl ?_
    obtain rfl := Option.some.inj e
    exact Rn.ret hT rfl rfl rfl (hq (-1 : Int32) h L32_m1 hR)
  · rw [if_neg c_2096] at e
    refine Rn.bt hT rfl rfl rfl (decide_eq_true (fun z => c_2096 ((ti_e p_2095 L32_0).mp z))) ?_
    refine Rn.n hT 4 (pc' := 16) (L' := [some (.ref q0), some (.int (0 : Int32)), some (.int (0 : Int32)), none, none]) (st' := []) rfl ?_
    refine Rn.weak (ll_s (ll_s (ll_s (ll_n (ll_n ll_e))))) (RX11_follow_l16 hd t0 (fun h_2097 s_2097 R_2097 m2098_1 x2098_1 p2098_1 e => ?_) hq N h s hR (0 : Int32) 0 L32_0 (0 : Int32) 0 L32_0 e)
    try dsimp only at e
    refine Rn.n hT 1 (pc' := 118) (L' := [some (.ref q0), some (.int m2098_1), none, none, none]) (st' := [.ref q0]) rfl ?_
    refine Rn.hp hT rfl rfl (gR_hp (rp_gP (k := 4) R_2097 (T11_o t0) rfl (nn_114 R_2097 t0))) ?_
    refine Rn.hp hT rfl rfl (gR_hp (rp_gR R_2097 (T2_o (ty_114 R_2097 t0)) rfl)) ?_
    refine Rn.n hT 1 (pc' := 125) (L' := [some (.ref q0), some (.int m2098_1), none, none, none]) (st' := [.int (0 : Int32), .ref ((s_2097 q0 4).toNat + 16)]) rfl ?_
    obtain ⟨s_2099, e_2100, e⟩ := Option.bind_eq_some_iff.mp e
    obtain ⟨h_2099, g_2100, R_2099⟩ := rp_pI (ci := 7) (k := 1) R_2097 (T7_o (T2_16 (ty_114 R_2097 t0))) rfl rfl L32_0 e_2100
    refine Rn.hp hT rfl rfl (pV_hp rfl g_2100) ?_
    refine Rn.n hT 1 (pc' := 129) (L' := [some (.ref q0), some (.int m2098_1), none, none, none]) (st' := [.int m2098_1]) rfl ?_
    obtain rfl := Option.some.inj e
    exact Rn.ret hT rfl rfl rfl (hq m2098_1 h_2099 p2098_1 R_2099)
