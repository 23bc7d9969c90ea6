-- FLAT MIRRORS, 5 (written by wip/whole/mir2.py)
set_option maxRecDepth 10000 in
theorem hX11_palace : iv_Tb 139 tX11_palace := iv_tb_of (m := mX11_palace) rfl
set_option maxRecDepth 10000 in
theorem gX11_palace : PG.2 139 = some mX11_palace := iv_pi_of (t := tX11_palace) rfl (by decide)
def FX11_palace (N : Nat) (s : iv_M) (q0 : Nat) : Option (Int × iv_M) := ((FX5_read N s (q0 + 54) (q0 + 1) (s q0 1) ((s q0 5).toNat)).bind fun r_1780 => (fun (v_1780 : Int) (s_1781 : iv_M) => ((pt s_1781 q0 1 0).bind fun s_1782 => (if v_1780 = 0 then ((pt s_1782 ((s_1782 q0 5).toNat) 7 (s_1782 ((s_1782 q0 4).toNat) 7)).bind fun s_1786 => ((pt s_1786 q0 4 (((s_1786 q0 5).toNat : Nat) : Int)).bind fun s_1788 => ((pt s_1788 q0 5 (((s_1786 q0 4).toNat : Nat) : Int)).bind fun s_1790 => ((pt s_1790 q0 15 (w32 ((s_1790 q0 15) + 1))).bind fun s_1793 => (some ((s_1793 ((s_1793 q0 4).toNat + 1) 2), s_1793)))))) else (some ((w32 ((-2) - v_1780)), s_1782))))) r_1780.1 r_1780.2)
set_option maxRecDepth 10000 in
set_option maxHeartbeats 4000000 in
theorem RX11_palace {d N nc Ls : Nat} {Xs : Nat → Int32} (hd : 15 ≤ d) {h : iv_H} {s : iv_M} (hR : Rep nc Ls Xs h s) {q0 : Nat} (t0 : T11 nc q0) {r : Int × iv_M} {Q : Option Value → iv_H → Prop} (e : FX11_palace N s q0 = some r) (hq : ∀ (z : Int32) (h1 : iv_H), z.toInt = r.1 → Rep nc Ls Xs h1 r.2 → Q (some (.int z)) h1) : Cl d 139 [.ref q0] h Q := by
  obtain ⟨d, rfl⟩ : ∃ k, d = k + 1 := ⟨d - 1, by omega⟩
  have hd : 14 ≤ d := by omega
  have hT := hX11_palace
  unfold FX11_palace at e
  refine Cl.into (by decide) gX11_palace rfl ?_
  show Rn d 139 (some .int) 0 [some (.ref q0), none, none] [] h Q
  refine Rn.n hT 1 (pc' := 1) (L' := [some (.ref q0), none, none]) (st' := [.ref q0]) rfl ?_
  refine Rn.hp hT rfl rfl (gR_hp (rp_gR hR (T11_o t0) rfl)) ?_
  refine Rn.n hT 1 (pc' := 5) (L' := [some (.ref q0), none, none]) (st' := [.ref q0, .ref (q0 + 54)]) rfl ?_
  refine Rn.hp hT rfl rfl (gR_hp (rp_gR hR (T11_o t0) rfl)) ?_
  refine Rn.n hT 1 (pc' := 9) (L' := [some (.ref q0), none, none]) (st' := [.ref q0, .ref (q0 + 1), .ref (q0 + 54)]) rfl ?_
  obtain ⟨z_1779, g_1779, p_1779⟩ : ∃ z : Int32, gI h 11 1 q0 = some z ∧ z.toInt = s q0 1 := rp_gI (k := 1) hR (T11_o t0) rfl
  refine Rn.hp hT rfl rfl (gI_hp g_1779) ?_
  refine Rn.n hT 1 (pc' := 13) (L' := [some (.ref q0), none, none]) (st' := [.ref q0, .int z_1779, .ref (q0 + 1), .ref (q0 + 54)]) rfl ?_
  refine Rn.hp hT rfl rfl (gR_hp (rp_gP (k := 5) hR (T11_o t0) rfl (nn_115 hR t0))) ?_
  obtain ⟨⟨v_1780, s_1781⟩, e_1780, e⟩ := Option.bind_eq_some_iff.mp e
  try dsimp only at e
  try dsimp only at e
  refine Rn.call hT rfl rfl rfl (Nat.le_of_ble_eq_true rfl) (rcv_v gX5_read (by omega) (rp_ck hR (T5_o (T11_7 t0)))) (RX5_read (by omega) hR (T11_7 t0) (T11_0 t0) p_1779 (ty_115 hR t0) e_1780 (fun z_1780 h_1781 p_1780 R_1781 => ?_))
  show Rn d _ _ 19 [some (.ref q0), none, none] [.int z_1780] h_1781 Q
  refine Rn.n hT 3 (pc' := 22) (L' := [some (.ref q0), some (.int z_1780), none]) (st' := [.int (0 : Int32), .ref q0]) rfl ?_
  obtain ⟨s_1782, e_1783, e⟩ := Option.bind_eq_some_iff.mp e
  obtain ⟨h_1782, g_1783, R_1782⟩ := rp_pI (ci := 11) (k := 1) R_1781 (T11_o t0) rfl rfl L32_0 e_1783
  refine Rn.hp hT rfl rfl (pV_hp rfl g_1783) ?_
  refine Rn.n hT 1 (pc' := 26) (L' := [some (.ref q0), some (.int z_1780), none]) (st' := [.int z_1780]) rfl ?_
  by_cases c_1784 : v_1780 = 0
  · rw [if_pos c_1784] at e
    refine Rn.bt hT rfl rfl rfl (decide_eq_true ((ti_e p_1780 L32_0).mpr c_1784)) ?_
    refine Rn.n hT 1 (pc' := 35) (L' := [some (.ref q0), some (.int z_1780), none]) (st' := [.ref q0]) rfl ?_
    refine Rn.hp hT rfl rfl (gR_hp (rp_gP (k := 5) R_1782 (T11_o t0) rfl (nn_115 R_1782 t0))) ?_
    refine Rn.n hT 1 (pc' := 39) (L' := [some (.ref q0), some (.int z_1780), none]) (st' := [.ref q0, .ref ((s_1782 q0 5).toNat)]) rfl ?_
    refine Rn.hp hT rfl rfl (gR_hp (rp_gP (k := 4) R_1782 (T11_o t0) rfl (nn_114 R_1782 t0))) ?_
    obtain ⟨z_1785, g_1785, p_1785⟩ : ∃ z : Int32, gI h_1782 2 7 ((s_1782 q0 4).toNat) = some z ∧ z.toInt = s_1782 ((s_1782 q0 4).toNat) 7 := rp_gI (k := 7) R_1782 (T2_o (ty_114 R_1782 t0)) rfl
    refine Rn.hp hT rfl rfl (gI_hp g_1785) ?_
    obtain ⟨s_1786, e_1787, e⟩ := Option.bind_eq_some_iff.mp e
    obtain ⟨h_1786, g_1787, R_1786⟩ := rp_pI (ci := 2) (k := 7) R_1782 (T2_o (ty_115 R_1782 t0)) rfl rfl p_1785 e_1787
    refine Rn.hp hT rfl rfl (pV_hp rfl g_1787) ?_
    refine Rn.n hT 1 (pc' := 49) (L' := [some (.ref q0), some (.int z_1780), none]) (st' := [.ref q0]) rfl ?_
    refine Rn.hp hT rfl rfl (gR_hp (rp_gP (k := 4) R_1786 (T11_o t0) rfl (nn_114 R_1786 t0))) ?_
    refine Rn.n hT 3 (pc' := 55) (L' := [some (.ref q0), some (.int z_1780), some (.ref ((s_1786 q0 4).toNat))]) (st' := [.ref q0, .ref q0]) rfl ?_
    refine Rn.hp hT rfl rfl (gR_hp (rp_gP (k := 5) R_1786 (T11_o t0) rfl (nn_115 R_1786 t0))) ?_
    obtain ⟨s_1788, e_1789, e⟩ := Option.bind_eq_some_iff.mp e
    obtain ⟨h_1788, g_1789, R_1788⟩ := rp_pP (ci := 11) (k := 4) R_1786 (T11_o t0) rfl (Mt_11 R_1786.2.2.2.2.2 (T11_o t0) (Or.inl rfl) (ty_115 R_1786 t0)) e_1789
    refine Rn.hp hT rfl rfl (pV_hp rfl g_1789) ?_
    refine Rn.n hT 2 (pc' := 63) (L' := [some (.ref q0), some (.int z_1780), some (.ref ((s_1786 q0 4).toNat))]) (st' := [.ref ((s_1786 q0 4).toNat), .ref q0]) rfl ?_
    obtain ⟨s_1790, e_1791, e⟩ := Option.bind_eq_some_iff.mp e
    obtain ⟨h_1790, g_1791, R_1790⟩ := rp_pP (ci := 11) (k := 5) R_1788 (T11_o t0) rfl (Mt_11 R_1788.2.2.2.2.2 (T11_o t0) (Or.inr rfl) (ty_114 R_1786 t0)) e_1791
    refine Rn.hp hT rfl rfl (pV_hp rfl g_1791) ?_
    refine Rn.n hT 2 (pc' := 68) (L' := [some (.ref q0), some (.int z_1780), some (.ref ((s_1786 q0 4).toNat))]) (st' := [.ref q0, .ref q0]) rfl ?_
    obtain ⟨z_1792, g_1792, p_1792⟩ : ∃ z : Int32, gI h_1790 11 15 q0 = some z ∧ z.toInt = s_1790 q0 15 := rp_gI (k := 15) R_1790 (T11_o t0) rfl
    refine Rn.hp hT rfl rfl (gI_hp g_1792) ?_
    refine Rn.n hT 2 (pc' := 73) (L' := [some (.ref q0), some (.int z_1780), some (.ref ((s_1786 q0 4).toNat))]) (st' := [.int (z_1792 + (1 : Int32)), .ref q0]) rfl ?_
    obtain ⟨s_1793, e_1794, e⟩ := Option.bind_eq_some_iff.mp e
    obtain ⟨h_1793, g_1794, R_1793⟩ := rp_pI (ci := 11) (k := 15) R_1790 (T11_o t0) rfl rfl (ti_add p_1792 L32_1) e_1794
    refine Rn.hp hT rfl rfl (pV_hp rfl g_1794) ?_
    refine Rn.n hT 1 (pc' := 77) (L' := [some (.ref q0), some (.int z_1780), some (.ref ((s_1786 q0 4).toNat))]) (st' := [.ref q0]) rfl ?_
    refine Rn.hp hT rfl rfl (gR_hp (rp_gP (k := 4) R_1793 (T11_o t0) rfl (nn_114 R_1793 t0))) ?_
    refine Rn.hp hT rfl rfl (gR_hp (rp_gR R_1793 (T2_o (ty_114 R_1793 t0)) rfl)) ?_
    obtain ⟨z_1795, g_1795, p_1795⟩ : ∃ z : Int32, gI h_1793 1 2 ((s_1793 q0 4).toNat + 1) = some z ∧ z.toInt = s_1793 ((s_1793 q0 4).toNat + 1) 2 := rp_gI (k := 2) R_1793 (T1_o (T2_9 (ty_114 R_1793 t0))) rfl
    refine Rn.hp hT rfl rfl (gI_hp g_1795) ?_
    obtain rfl := Option.some.inj e
    exact Rn.ret hT rfl rfl rfl (hq z_1795 h_1793 p_1795 R_1793)
  · rw [if_neg c_1784] at e
    refine Rn.bf hT rfl rfl rfl (decide_eq_false (fun z => c_1784 ((ti_e p_1780 L32_0).mp z))) ?_
    refine Rn.n hT 3 (pc' := 33) (L' := [some (.ref q0), some (.int z_1780), none]) (st' := [.int ((-2 : Int32) - z_1780)]) rfl ?_
    obtain rfl := Option.some.inj e
    exact Rn.ret hT rfl rfl rfl (hq ((-2 : Int32) - z_1780) h_1782 (ti_sub L32_m2 p_1780) R_1782)
set_option maxRecDepth 10000 in
theorem hX11_rule : iv_Tb 140 tX11_rule := iv_tb_of (m := mX11_rule) rfl
set_option maxRecDepth 10000 in
theorem gX11_rule : PG.2 140 = some mX11_rule := iv_pi_of (t := tX11_rule) rfl (by decide)
def FX11_rule (N : Nat) (s : iv_M) (q0 : Nat) : Option (Int × iv_M) := (if (s q0 3) < 6 then ((FX8_read N s (q0 + 57) (q0 + 1) (s q0 1)).bind fun r_1799 => (fun (v_1799 : Int) (s_1800 : iv_M) => ((pt s_1800 q0 1 0).bind fun s_1801 => (if v_1799 = 0 then ((gx (q0 + 2) 6 (s_1801 q0 3)).bind fun v_1805 => ((FX8_copyTo N s_1801 (q0 + 57) v_1805).bind fun s_1807 => ((pt s_1807 q0 3 (w32 ((s_1807 q0 3) + 1))).bind fun s_1809 => (some ((w32 ((s_1809 q0 3) - 1)), s_1809))))) else (some ((w32 ((-2) - v_1799)), s_1801))))) r_1799.1 r_1799.2) else (some ((-1), s)))
set_option maxRecDepth 10000 in
set_option maxHeartbeats 4000000 in
theorem RX11_rule {d N nc Ls : Nat} {Xs : Nat → Int32} (hd : 17 ≤ d) {h : iv_H} {s : iv_M} (hR : Rep nc Ls Xs h s) {q0 : Nat} (t0 : T11 nc q0) {r : Int × iv_M} {Q : Option Value → iv_H → Prop} (e : FX11_rule N s q0 = some r) (hq : ∀ (z : Int32) (h1 : iv_H), z.toInt = r.1 → Rep nc Ls Xs h1 r.2 → Q (some (.int z)) h1) : Cl d 140 [.ref q0] h Q := by
  obtain ⟨d, rfl⟩ : ∃ k, d = k + 1 := ⟨d - 1, by omega⟩
  have hd : 16 ≤ d := by omega
  have hT := hX11_rule
  unfold FX11_rule at e
  refine Cl.into (by decide) gX11_rule rfl ?_
  show Rn d 140 (some .int) 0 [some (.ref q0), none] [] h Q
  refine Rn.n hT 1 (pc' := 1) (L' := [some (.ref q0), none]) (st' := [.ref q0]) rfl ?_
  obtain ⟨z_1796, g_1796, p_1796⟩ : ∃ z : Int32, gI h 11 3 q0 = some z ∧ z.toInt = s q0 3 := rp_gI (k := 3) hR (T11_o t0) rfl
  refine Rn.hp hT rfl rfl (gI_hp g_1796) ?_
  refine Rn.n hT 1 (pc' := 6) (L' := [some (.ref q0), none]) (st' := [.int (6 : Int32), .int z_1796]) rfl ?_
  by_cases c_1797 : (s q0 3) < 6
  · rw [if_pos c_1797] at e
    refine Rn.bt hT rfl rfl rfl (decide_eq_true ((ti_l p_1796 L32_6).mpr c_1797)) ?_
    refine Rn.n hT 1 (pc' := 12) (L' := [some (.ref q0), none]) (st' := [.ref q0]) rfl ?_
    refine Rn.hp hT rfl rfl (gR_hp (rp_gR hR (T11_o t0) rfl)) ?_
    refine Rn.n hT 1 (pc' := 16) (L' := [some (.ref q0), none]) (st' := [.ref q0, .ref (q0 + 57)]) rfl ?_
    refine Rn.hp hT rfl rfl (gR_hp (rp_gR hR (T11_o t0) rfl)) ?_
    refine Rn.n hT 1 (pc' := 20) (L' := [some (.ref q0), none]) (st' := [.ref q0, .ref (q0 + 1), .ref (q0 + 57)]) rfl ?_
    obtain ⟨z_1798, g_1798, p_1798⟩ : ∃ z : Int32, gI h 11 1 q0 = some z ∧ z.toInt = s q0 1 := rp_gI (k := 1) hR (T11_o t0) rfl
    refine Rn.hp hT rfl rfl (gI_hp g_1798) ?_
    obtain ⟨⟨v_1799, s_1800⟩, e_1799, e⟩ := Option.bind_eq_some_iff.mp e
    try dsimp only at e
    try dsimp only at e
    refine Rn.call hT rfl rfl rfl (Nat.le_of_ble_eq_true rfl) (rcv_v gX8_read (by omega) (rp_ck hR (T8_o (T11_8 t0)))) (RX8_read (by omega) hR (T11_8 t0) (T11_0 t0) p_1798 e_1799 (fun z_1799 h_1800 p_1799 R_1800 => ?_))
    show Rn d _ _ 26 [some (.ref q0), none] [.int z_1799] h_1800 Q
    refine Rn.n hT 3 (pc' := 29) (L' := [some (.ref q0), some (.int z_1799)]) (st' := [.int (0 : Int32), .ref q0]) rfl ?_
    obtain ⟨s_1801, e_1802, e⟩ := Option.bind_eq_some_iff.mp e
    obtain ⟨h_1801, g_1802, R_1801⟩ := rp_pI (ci := 11) (k := 1) R_1800 (T11_o t0) rfl rfl L32_0 e_1802
    refine Rn.hp hT rfl rfl (pV_hp rfl g_1802) ?_
    refine Rn.n hT 1 (pc' := 33) (L' := [some (.ref q0), some (.int z_1799)]) (st' := [.int z_1799]) rfl ?_
    by_cases c_1803 : v_1799 = 0
    · rw [if_pos c_1803] at e
      refine Rn.bt hT rfl rfl rfl (decide_eq_true ((ti_e p_1799 L32_0).mpr c_1803)) ?_
      refine Rn.n hT 1 (pc' := 42) (L' := [some (.ref q0), some (.int z_1799)]) (st' := [.ref q0]) rfl ?_
      refine Rn.hp hT rfl rfl (gR_hp (rp_gR R_1801 (T11_o t0) rfl)) ?_
      refine Rn.n hT 1 (pc' := 46) (L' := [some (.ref q0), some (.int z_1799)]) (st' := [.ref q0, .ref (q0 + 57)]) rfl ?_
      refine Rn.hp hT rfl rfl (gR_hp (rp_gR R_1801 (T11_o t0) rfl)) ?_
      refine Rn.n hT 1 (pc' := 50) (L' := [some (.ref q0), some (.int z_1799)]) (st' := [.ref q0, .ref (q0 + 2), .ref (q0 + 57)]) rfl ?_
      obtain ⟨z_1804, g_1804, p_1804⟩ : ∃ z : Int32, gI h_1801 11 3 q0 = some z ∧ z.toInt = s_1801 q0 3 := rp_gI (k := 3) R_1801 (T11_o t0) rfl
      refine Rn.hp hT rfl rfl (gI_hp g_1804) ?_
      obtain ⟨v_1805, e_1805, e⟩ := Option.bind_eq_some_iff.mp e
      refine Rn.hp hT rfl rfl (aR_hp (rp_gx (m := 6) R_1801 (T11_2 t0) p_1804 e_1805)) ?_
      obtain ⟨s_1807, e_1806, e⟩ := Option.bind_eq_some_iff.mp e
      refine Rn.call hT rfl rfl rfl (Nat.le_of_ble_eq_true rfl) (rcv_v gX8_copyTo (by omega) (rp_ck R_1801 (T8_o (T11_8 t0)))) (RX8_copyTo (by omega) R_1801 (T11_8 t0) (ga_a (gx_ty (T11_2g t0) e_1805)) e_1806 (fun h_1807 R_1807 => ?_))
      show Rn d _ _ 57 [some (.ref q0), some (.int z_1799)] [] h_1807 Q
      refine Rn.n hT 2 (pc' := 59) (L' := [some (.ref q0), some (.int z_1799)]) (st' := [.ref q0, .ref q0]) rfl ?_
      obtain ⟨z_1808, g_1808, p_1808⟩ : ∃ z : Int32, gI h_1807 11 3 q0 = some z ∧ z.toInt = s_1807 q0 3 := rp_gI (k := 3) R_1807 (T11_o t0) rfl
      refine Rn.hp hT rfl rfl (gI_hp g_1808) ?_
      refine Rn.n hT 2 (pc' := 64) (L' := [some (.ref q0), some (.int z_1799)]) (st' := [.int (z_1808 + (1 : Int32)), .ref q0]) rfl ?_
      obtain ⟨s_1809, e_1810, e⟩ := Option.bind_eq_some_iff.mp e
      obtain ⟨h_1809, g_1810, R_1809⟩ := rp_pI (ci := 11) (k := 3) R_1807 (T11_o t0) rfl rfl (ti_add p_1808 L32_1) e_1810
      refine Rn.hp hT rfl rfl (pV_hp rfl g_1810) ?_
      refine Rn.n hT 1 (pc' := 68) (L' := [some (.ref q0), some (.int z_1799)]) (st' := [.ref q0]) rfl ?_
      obtain ⟨z_1811, g_1811, p_1811⟩ : ∃ z : Int32, gI h_1809 11 3 q0 = some z ∧ z.toInt = s_1809 q0 3 := rp_gI (k := 3) R_1809 (T11_o t0) rfl
      refine Rn.hp hT rfl rfl (gI_hp g_1811) ?_
      refine Rn.n hT 2 (pc' := 73) (L' := [some (.ref q0), some (.int z_1799)]) (st' := [.int (z_1811 - (1 : Int32))]) rfl ?_
      obtain rfl := Option.some.inj e
      exact Rn.ret hT rfl rfl rfl (hq (z_1811 - (1 : Int32)) h_1809 (ti_sub p_1811 L32_1) R_1809)
    · rw [if_neg c_1803] at e
      refine Rn.bf hT rfl rfl rfl (decide_eq_false (fun z => c_1803 ((ti_e p_1799 L32_0).mp z))) ?_
      refine Rn.n hT 3 (pc' := 40) (L' := [some (.ref q0), some (.int z_1799)]) (st' := [.int ((-2 : Int32) - z_1799)]) rfl ?_
      obtain rfl := Option.some.inj e
      exact Rn.ret hT rfl rfl rfl (hq ((-2 : Int32) - z_1799) h_1801 (ti_sub L32_m2 p_1799) R_1801)
  · rw [if_neg c_1797] at e
    refine Rn.bf hT rfl rfl rfl (decide_eq_false (fun z => c_1797 ((ti_l p_1796 L32_6).mp z))) ?_
    refine Rn.n hT 1 (pc' := 10) (L' := [some (.ref q0), none]) (st' := [.int (-1 : Int32)]) rfl ?_
    obtain rfl := Option.some.inj e
    exact Rn.ret hT rfl rfl rfl (hq (-1 : Int32) h L32_m1 hR)
set_option maxRecDepth 10000 in
theorem hX11_force : iv_Tb 141 tX11_force := iv_tb_of (m := mX11_force) rfl
set_option maxRecDepth 10000 in
theorem gX11_force : PG.2 141 = some mX11_force := iv_pi_of (t := tX11_force) rfl (by decide)
def FX11_force_b23 (N : Nat) (s : iv_M)   : Option (Int × iv_M) := (some ((-2), s))
set_option maxRecDepth 10000 in
set_option maxHeartbeats 4000000 in
theorem RX11_force_b23 {d N nc Ls : Nat} {Xs : Nat → Int32} (hd : 0 ≤ d) {h : iv_H} {s : iv_M} (hR : Rep nc Ls Xs h s)   {r : Int × iv_M} {Q : Option Value → iv_H → Prop} (hq : ∀ (z : Int32) (h1 : iv_H), z.toInt = r.1 → Rep nc Ls Xs h1 r.2 → Q (some (.int z)) h1) (e : FX11_force_b23 N s   = some r) : Rn d 141 (some .int) 23 [none, none, none] [] h Q := by
  have hT := hX11_force
  unfold FX11_force_b23 at e
  refine Rn.n hT 1 (pc' := 25) (L' := [none, none, none]) (st' := [.int (-2 : Int32)]) rfl ?_
  obtain rfl := Option.some.inj e
  exact Rn.ret hT rfl rfl rfl (hq (-2 : Int32) h L32_m2 hR)
def FX11_force (N : Nat) (s : iv_M) (q0 : Nat) (x1 : Int) : Option (Int × iv_M) := (if (s ((s q0 4).toNat) 0) = 0 then (FX11_force_b23 N s) else (if x1 < (-1) then (FX11_force_b23 N s) else (if x1 < (s q0 3) then ((pt s ((s q0 4).toNat) 5 x1).bind fun s_1818 => ((pt s_1818 q0 15 (w32 ((s_1818 q0 15) + 1))).bind fun s_1821 => (some ((s ((s q0 4).toNat) 5), s_1821)))) else (FX11_force_b23 N s))))
set_option maxRecDepth 10000 in
set_option maxHeartbeats 4000000 in
theorem RX11_force {d N nc Ls : Nat} {Xs : Nat → Int32} (hd : 1 ≤ d) {h : iv_H} {s : iv_M} (hR : Rep nc Ls Xs h s) {q0 : Nat} (t0 : T11 nc q0) {m1 : Int32} {x1 : Int} (p1 : m1.toInt = x1) {r : Int × iv_M} {Q : Option Value → iv_H → Prop} (e : FX11_force N s q0 x1 = some r) (hq : ∀ (z : Int32) (h1 : iv_H), z.toInt = r.1 → Rep nc Ls Xs h1 r.2 → Q (some (.int z)) h1) : Cl d 141 [.ref q0, .int m1] h Q := by
  obtain ⟨d, rfl⟩ : ∃ k, d = k + 1 := ⟨d - 1, by omega⟩
  have hd : 0 ≤ d := by omega
  have hT := hX11_force
  unfold FX11_force at e
  refine Cl.into (by decide) gX11_force rfl ?_
  show Rn d 141 (some .int) 0 [some (.ref q0), some (.int m1), none] [] h Q
  refine Rn.n hT 1 (pc' := 1) (L' := [some (.ref q0), some (.int m1), none]) (st' := [.ref q0]) rfl ?_
  refine Rn.hp hT rfl rfl (gR_hp (rp_gP (k := 4) hR (T11_o t0) rfl (nn_114 hR t0))) ?_
  obtain ⟨z_1812, g_1812, p_1812⟩ : ∃ z : Int32, gI h 2 0 ((s q0 4).toNat) = some z ∧ z.toInt = s ((s q0 4).toNat) 0 := rp_gI (k := 0) hR (T2_o (ty_114 hR t0)) rfl
  refine Rn.hp hT rfl rfl (gI_hp g_1812) ?_
  by_cases c_1813 : (s ((s q0 4).toNat) 0) = 0
  · rw [if_pos c_1813] at e
    refine Rn.bt hT rfl rfl rfl (decide_eq_true ((ti_e p_1812 L32_0).mpr c_1813)) ?_
    exact Rn.weak (ll_n (ll_n (ll_n ll_e))) (RX11_force_b23 hd hR hq e)
  · rw [if_neg c_1813] at e
    refine Rn.bf hT rfl rfl rfl (decide_eq_false (fun z => c_1813 ((ti_e p_1812 L32_0).mp z))) ?_
    refine Rn.n hT 2 (pc' := 12) (L' := [some (.ref q0), some (.int m1), none]) (st' := [.int (-1 : Int32), .int m1]) rfl ?_
    by_cases c_1814 : x1 < (-1)
    · rw [if_pos c_1814] at e
      refine Rn.bt hT rfl rfl rfl (decide_eq_true ((ti_l p1 L32_m1).mpr c_1814)) ?_
      exact Rn.weak (ll_n (ll_n (ll_n ll_e))) (RX11_force_b23 hd hR hq e)
    · rw [if_neg c_1814] at e
      refine Rn.bf hT rfl rfl rfl (decide_eq_false (fun z => c_1814 ((ti_l p1 L32_m1).mp z))) ?_
      refine Rn.n hT 2 (pc' := 17) (L' := [some (.ref q0), some (.int m1), none]) (st' := [.ref q0, .int m1]) rfl ?_
      obtain ⟨z_1815, g_1815, p_1815⟩ : ∃ z : Int32, gI h 11 3 q0 = some z ∧ z.toInt = s q0 3 := rp_gI (k := 3) hR (T11_o t0) rfl
      refine Rn.hp hT rfl rfl (gI_hp g_1815) ?_
      by_cases c_1816 : x1 < (s q0 3)
      · rw [if_pos c_1816] at e
        refine Rn.bt hT rfl rfl rfl (decide_eq_true ((ti_l p1 p_1815).mpr c_1816)) ?_
        refine Rn.n hT 1 (pc' := 27) (L' := [some (.ref q0), some (.int m1), none]) (st' := [.ref q0]) rfl ?_
        refine Rn.hp hT rfl rfl (gR_hp (rp_gP (k := 4) hR (T11_o t0) rfl (nn_114 hR t0))) ?_
        obtain ⟨z_1817, g_1817, p_1817⟩ : ∃ z : Int32, gI h 2 5 ((s q0 4).toNat) = some z ∧ z.toInt = s ((s q0 4).toNat) 5 := rp_gI (k := 5) hR (T2_o (ty_114 hR t0)) rfl
        refine Rn.hp hT rfl rfl (gI_hp g_1817) ?_
        refine Rn.n hT 2 (pc' := 35) (L' := [some (.ref q0), some (.int m1), some (.int z_1817)]) (st' := [.ref q0]) rfl ?_
        refine Rn.hp hT rfl rfl (gR_hp (rp_gP (k := 4) hR (T11_o t0) rfl (nn_114 hR t0))) ?_
        refine Rn.n hT 1 (pc' := 39) (L' := [some (.ref q0), some (.int m1), some (.int z_1817)]) (st' := [.int m1, .ref ((s q0 4).toNat)]) rfl ?_
        obtain ⟨s_1818, e_1819, e⟩ := Option.bind_eq_some_iff.mp e
        obtain ⟨h_1818, g_1819, R_1818⟩ := rp_pI (ci := 2) (k := 5) hR (T2_o (ty_114 hR t0)) rfl rfl p1 e_1819
        refine Rn.hp hT rfl rfl (pV_hp rfl g_1819) ?_
        refine Rn.n hT 2 (pc' := 44) (L' := [some (.ref q0), some (.int m1), some (.int z_1817)]) (st' := [.ref q0, .ref q0]) rfl ?_
        obtain ⟨z_1820, g_1820, p_1820⟩ : ∃ z : Int32, gI h_1818 11 15 q0 = some z ∧ z.toInt = s_1818 q0 15 := rp_gI (k := 15) R_1818 (T11_o t0) rfl
        refine Rn.hp hT rfl rfl (gI_hp g_1820) ?_
        refine Rn.n hT 2 (pc' := 49) (L' := [some (.ref q0), some (.int m1), some (.int z_1817)]) (st' := [.int (z_1820 + (1 : Int32)), .ref q0]) rfl ?_
        obtain ⟨s_1821, e_1822, e⟩ := Option.bind_eq_some_iff.mp e
        obtain ⟨h_1821, g_1822, R_1821⟩ := rp_pI (ci := 11) (k := 15) R_1818 (T11_o t0) rfl rfl (ti_add p_1820 L32_1) e_1822
        refine Rn.hp hT rfl rfl (pV_hp rfl g_1822) ?_
        refine Rn.n hT 1 (pc' := 53) (L' := [some (.ref q0), some (.int m1), some (.int z_1817)]) (st' := [.int z_1817]) rfl ?_
        obtain rfl := Option.some.inj e
        exact Rn.ret hT rfl rfl rfl (hq z_1817 h_1821 p_1817 R_1821)
      · rw [if_neg c_1816] at e
        refine Rn.bf hT rfl rfl rfl (decide_eq_false (fun z => c_1816 ((ti_l p1 p_1815).mp z))) ?_
        exact Rn.weak (ll_n (ll_n (ll_n ll_e))) (RX11_force_b23 hd hR hq e)
set_option maxRecDepth 10000 in
theorem hX11_ruleInForce : iv_Tb 142 tX11_ruleInForce := iv_tb_of (m := mX11_ruleInForce) rfl
set_option maxRecDepth 10000 in
theorem gX11_ruleInForce : PG.2 142 = some mX11_ruleInForce := iv_pi_of (t := tX11_ruleInForce) rfl (by decide)
def FX11_ruleInForce_b39 (N : Nat) (s : iv_M)   : Option (Int) := (some (-1))
set_option maxRecDepth 10000 in
set_option maxHeartbeats 4000000 in
theorem RX11_ruleInForce_b39 {d N nc Ls : Nat} {Xs : Nat → Int32} (hd : 0 ≤ d) {h : iv_H} {s : iv_M} (hR : Rep nc Ls Xs h s)   {r : Int} {Q : Option Value → iv_H → Prop} (hq : (r < 0 ∨ TR nc (r).toNat) → Q (some (iv_rf (rvo r))) h) (e : FX11_ruleInForce_b39 N s   = some r) : Rn d 142 (some (.array .int)) 39 [none] [] h Q := by
  have hT := hX11_ruleInForce
  unfold FX11_ruleInForce_b39 at e
  refine Rn.n hT 1 (pc' := 40) (L' := [none]) (st' := [.null]) rfl ?_
  obtain rfl := Option.some.inj e
  exact Rn.ret hT rfl rfl rfl (hq (Or.inl (by decide)))
def FX11_ruleInForce (N : Nat) (s : iv_M) (q0 : Nat) : Option (Int) := (if (s ((s q0 4).toNat) 5) < 0 then (FX11_ruleInForce_b39 N s) else (if (s q0 3) ≤ (s ((s q0 4).toNat) 5) then (FX11_ruleInForce_b39 N s) else ((gx (q0 + 2) 6 (s ((s q0 4).toNat) 5)).bind fun v_1829 => (some ((v_1829 : Nat) : Int)))))
set_option maxRecDepth 10000 in
set_option maxHeartbeats 4000000 in
theorem RX11_ruleInForce {d N nc Ls : Nat} {Xs : Nat → Int32} (hd : 1 ≤ d) {h : iv_H} {s : iv_M} (hR : Rep nc Ls Xs h s) {q0 : Nat} (t0 : T11 nc q0) {r : Int} {Q : Option Value → iv_H → Prop} (e : FX11_ruleInForce N s q0 = some r) (hq : (r < 0 ∨ TR nc (r).toNat) → Q (some (iv_rf (rvo r))) h) : Cl d 142 [.ref q0] h Q := by
  obtain ⟨d, rfl⟩ : ∃ k, d = k + 1 := ⟨d - 1, by omega⟩
  have hd : 0 ≤ d := by omega
  have hT := hX11_ruleInForce
  unfold FX11_ruleInForce at e
  refine Cl.into (by decide) gX11_ruleInForce rfl ?_
  show Rn d 142 (some (.array .int)) 0 [some (.ref q0)] [] h Q
  refine Rn.n hT 1 (pc' := 1) (L' := [some (.ref q0)]) (st' := [.ref q0]) rfl ?_
  refine Rn.hp hT rfl rfl (gR_hp (rp_gP (k := 4) hR (T11_o t0) rfl (nn_114 hR t0))) ?_
  obtain ⟨z_1823, g_1823, p_1823⟩ : ∃ z : Int32, gI h 2 5 ((s q0 4).toNat) = some z ∧ z.toInt = s ((s q0 4).toNat) 5 := rp_gI (k := 5) hR (T2_o (ty_114 hR t0)) rfl
  refine Rn.hp hT rfl rfl (gI_hp g_1823) ?_
  by_cases c_1824 : (s ((s q0 4).toNat) 5) < 0
  · rw [if_pos c_1824] at e
    refine Rn.bt hT rfl rfl rfl (decide_eq_true ((ti_l p_1823 L32_0).mpr c_1824)) ?_
    exact Rn.weak (ll_n ll_e) (RX11_ruleInForce_b39 hd hR hq e)
  · rw [if_neg c_1824] at e
    refine Rn.bf hT rfl rfl rfl (decide_eq_false (fun z => c_1824 ((ti_l p_1823 L32_0).mp z))) ?_
    refine Rn.n hT 1 (pc' := 11) (L' := [some (.ref q0)]) (st' := [.ref q0]) rfl ?_
    refine Rn.hp hT rfl rfl (gR_hp (rp_gP (k := 4) hR (T11_o t0) rfl (nn_114 hR t0))) ?_
    obtain ⟨z_1825, g_1825, p_1825⟩ : ∃ z : Int32, gI h 2 5 ((s q0 4).toNat) = some z ∧ z.toInt = s ((s q0 4).toNat) 5 := rp_gI (k := 5) hR (T2_o (ty_114 hR t0)) rfl
    refine Rn.hp hT rfl rfl (gI_hp g_1825) ?_
    refine Rn.n hT 1 (pc' := 18) (L' := [some (.ref q0)]) (st' := [.ref q0, .int z_1825]) rfl ?_
    obtain ⟨z_1826, g_1826, p_1826⟩ : ∃ z : Int32, gI h 11 3 q0 = some z ∧ z.toInt = s q0 3 := rp_gI (k := 3) hR (T11_o t0) rfl
    refine Rn.hp hT rfl rfl (gI_hp g_1826) ?_
    by_cases c_1827 : (s q0 3) ≤ (s ((s q0 4).toNat) 5)
    · rw [if_pos c_1827] at e
      refine Rn.bt hT rfl rfl rfl (decide_eq_true ((ti_le p_1826 p_1825).mpr c_1827)) ?_
      exact Rn.weak (ll_n ll_e) (RX11_ruleInForce_b39 hd hR hq e)
    · rw [if_neg c_1827] at e
      refine Rn.bf hT rfl rfl rfl (decide_eq_false (fun z => c_1827 ((ti_le p_1826 p_1825).mp z))) ?_
      refine Rn.n hT 1 (pc' := 25) (L' := [some (.ref q0)]) (st' := [.ref q0]) rfl ?_
      refine Rn.hp hT rfl rfl (gR_hp (rp_gR hR (T11_o t0) rfl)) ?_
      refine Rn.n hT 1 (pc' := 29) (L' := [some (.ref q0)]) (st' := [.ref q0, .ref (q0 + 2)]) rfl ?_
      refine Rn.hp hT rfl rfl (gR_hp (rp_gP (k := 4) hR (T11_o t0) rfl (nn_114 hR t0))) ?_
      obtain ⟨z_1828, g_1828, p_1828⟩ : ∃ z : Int32, gI h 2 5 ((s q0 4).toNat) = some z ∧ z.toInt = s ((s q0 4).toNat) 5 := rp_gI (k := 5) hR (T2_o (ty_114 hR t0)) rfl
      refine Rn.hp hT rfl rfl (gI_hp g_1828) ?_
      obtain ⟨v_1829, e_1829, e⟩ := Option.bind_eq_some_iff.mp e
      refine Rn.hp hT rfl rfl (aR_hp (rp_gx (m := 6) hR (T11_2 t0) p_1828 e_1829)) ?_
      refine Rn.n hT 1 (pc' := 40) (L' := [some (.ref q0)]) (st' := [.ref v_1829]) rfl ?_
      obtain rfl := Option.some.inj e
      exact Rn.ret hT rfl rfl rfl (by have := hq (Or.inr (gx_ty (T11_2g t0) e_1829)); rw [rvo_nat] at this; exact this)
set_option maxRecDepth 10000 in
theorem hX11_law : iv_Tb 143 tX11_law := iv_tb_of (m := mX11_law) rfl
set_option maxRecDepth 10000 in
theorem gX11_law : PG.2 143 = some mX11_law := iv_pi_of (t := tX11_law) rfl (by decide)
def FX11_law_b19 (N : Nat) (s : iv_M)   : Option (Int × iv_M) := (some ((-2), s))
set_option maxRecDepth 10000 in
set_option maxHeartbeats 4000000 in
theorem RX11_law_b19 {d N nc Ls : Nat} {Xs : Nat → Int32} (hd : 0 ≤ d) {h : iv_H} {s : iv_M} (hR : Rep nc Ls Xs h s)   {r : Int × iv_M} {Q : Option Value → iv_H → Prop} (hq : ∀ (z : Int32) (h1 : iv_H), z.toInt = r.1 → Rep nc Ls Xs h1 r.2 → Q (some (.int z)) h1) (e : FX11_law_b19 N s   = some r) : Rn d 143 (some .int) 19 [none, none, none] [] h Q := by
  have hT := hX11_law
  unfold FX11_law_b19 at e
  refine Rn.n hT 1 (pc' := 21) (L' := [none, none, none]) (st' := [.int (-2 : Int32)]) rfl ?_
  obtain rfl := Option.some.inj e
  exact Rn.ret hT rfl rfl rfl (hq (-2 : Int32) h L32_m2 hR)
def FX11_law (N : Nat) (s : iv_M) (q0 : Nat) (x1 : Int) : Option (Int × iv_M) := (if (s ((s q0 4).toNat) 0) = 0 then (FX11_law_b19 N s) else (if x1 < 0 then (FX11_law_b19 N s) else (if x1 ≤ 2 then ((pt s ((s q0 4).toNat) 4 x1).bind fun s_1835 => ((pt s_1835 q0 15 (w32 ((s_1835 q0 15) + 1))).bind fun s_1838 => (some ((s ((s q0 4).toNat) 4), s_1838)))) else (FX11_law_b19 N s))))
set_option maxRecDepth 10000 in
set_option maxHeartbeats 4000000 in
theorem RX11_law {d N nc Ls : Nat} {Xs : Nat → Int32} (hd : 1 ≤ d) {h : iv_H} {s : iv_M} (hR : Rep nc Ls Xs h s) {q0 : Nat} (t0 : T11 nc q0) {m1 : Int32} {x1 : Int} (p1 : m1.toInt = x1) {r : Int × iv_M} {Q : Option Value → iv_H → Prop} (e : FX11_law N s q0 x1 = some r) (hq : ∀ (z : Int32) (h1 : iv_H), z.toInt = r.1 → Rep nc Ls Xs h1 r.2 → Q (some (.int z)) h1) : Cl d 143 [.ref q0, .int m1] h Q := by
  obtain ⟨d, rfl⟩ : ∃ k, d = k + 1 := ⟨d - 1, by omega⟩
  have hd : 0 ≤ d := by omega
  have hT := hX11_law
  unfold FX11_law at e
  refine Cl.into (by decide) gX11_law rfl ?_
  show Rn d 143 (some .int) 0 [some (.ref q0), some (.int m1), none] [] h Q
  refine Rn.n hT 1 (pc' := 1) (L' := [some (.ref q0), some (.int m1), none]) (st' := [.ref q0]) rfl ?_
  refine Rn.hp hT rfl rfl (gR_hp (rp_gP (k := 4) hR (T11_o t0) rfl (nn_114 hR t0))) ?_
  obtain ⟨z_1830, g_1830, p_1830⟩ : ∃ z : Int32, gI h 2 0 ((s q0 4).toNat) = some z ∧ z.toInt = s ((s q0 4).toNat) 0 := rp_gI (k := 0) hR (T2_o (ty_114 hR t0)) rfl
  refine Rn.hp hT rfl rfl (gI_hp g_1830) ?_
  by_cases c_1831 : (s ((s q0 4).toNat) 0) = 0
  · rw [if_pos c_1831] at e
    refine Rn.bt hT rfl rfl rfl (decide_eq_true ((ti_e p_1830 L32_0).mpr c_1831)) ?_
    exact Rn.weak (ll_n (ll_n (ll_n ll_e))) (RX11_law_b19 hd hR hq e)
  · rw [if_neg c_1831] at e
    refine Rn.bf hT rfl rfl rfl (decide_eq_false (fun z => c_1831 ((ti_e p_1830 L32_0).mp z))) ?_
    refine Rn.n hT 1 (pc' := 11) (L' := [some (.ref q0), some (.int m1), none]) (st' := [.int m1]) rfl ?_
    by_cases c_1832 : x1 < 0
    · rw [if_pos c_1832] at e
      refine Rn.bt hT rfl rfl rfl (decide_eq_true ((ti_l p1 L32_0).mpr c_1832)) ?_
      exact Rn.weak (ll_n (ll_n (ll_n ll_e))) (RX11_law_b19 hd hR hq e)
    · rw [if_neg c_1832] at e
      refine Rn.bf hT rfl rfl rfl (decide_eq_false (fun z => c_1832 ((ti_l p1 L32_0).mp z))) ?_
      refine Rn.n hT 2 (pc' := 16) (L' := [some (.ref q0), some (.int m1), none]) (st' := [.int (2 : Int32), .int m1]) rfl ?_
      by_cases c_1833 : x1 ≤ 2
      · rw [if_pos c_1833] at e
        refine Rn.bt hT rfl rfl rfl (decide_eq_true ((ti_le p1 L32_2).mpr c_1833)) ?_
        refine Rn.n hT 1 (pc' := 23) (L' := [some (.ref q0), some (.int m1), none]) (st' := [.ref q0]) rfl ?_
        refine Rn.hp hT rfl rfl (gR_hp (rp_gP (k := 4) hR (T11_o t0) rfl (nn_114 hR t0))) ?_
        obtain ⟨z_1834, g_1834, p_1834⟩ : ∃ z : Int32, gI h 2 4 ((s q0 4).toNat) = some z ∧ z.toInt = s ((s q0 4).toNat) 4 := rp_gI (k := 4) hR (T2_o (ty_114 hR t0)) rfl
        refine Rn.hp hT rfl rfl (gI_hp g_1834) ?_
        refine Rn.n hT 2 (pc' := 31) (L' := [some (.ref q0), some (.int m1), some (.int z_1834)]) (st' := [.ref q0]) rfl ?_
        refine Rn.hp hT rfl rfl (gR_hp (rp_gP (k := 4) hR (T11_o t0) rfl (nn_114 hR t0))) ?_
        refine Rn.n hT 1 (pc' := 35) (L' := [some (.ref q0), some (.int m1), some (.int z_1834)]) (st' := [.int m1, .ref ((s q0 4).toNat)]) rfl ?_
        obtain ⟨s_1835, e_1836, e⟩ := Option.bind_eq_some_iff.mp e
        obtain ⟨h_1835, g_1836, R_1835⟩ := rp_pI (ci := 2) (k := 4) hR (T2_o (ty_114 hR t0)) rfl rfl p1 e_1836
        refine Rn.hp hT rfl rfl (pV_hp rfl g_1836) ?_
        refine Rn.n hT 2 (pc' := 40) (L' := [some (.ref q0), some (.int m1), some (.int z_1834)]) (st' := [.ref q0, .ref q0]) rfl ?_
        obtain ⟨z_1837, g_1837, p_1837⟩ : ∃ z : Int32, gI h_1835 11 15 q0 = some z ∧ z.toInt = s_1835 q0 15 := rp_gI (k := 15) R_1835 (T11_o t0) rfl
        refine Rn.hp hT rfl rfl (gI_hp g_1837) ?_
        refine Rn.n hT 2 (pc' := 45) (L' := [some (.ref q0), some (.int m1), some (.int z_1834)]) (st' := [.int (z_1837 + (1 : Int32)), .ref q0]) rfl ?_
        obtain ⟨s_1838, e_1839, e⟩ := Option.bind_eq_some_iff.mp e
        obtain ⟨h_1838, g_1839, R_1838⟩ := rp_pI (ci := 11) (k := 15) R_1835 (T11_o t0) rfl rfl (ti_add p_1837 L32_1) e_1839
        refine Rn.hp hT rfl rfl (pV_hp rfl g_1839) ?_
        refine Rn.n hT 1 (pc' := 49) (L' := [some (.ref q0), some (.int m1), some (.int z_1834)]) (st' := [.int z_1834]) rfl ?_
        obtain rfl := Option.some.inj e
        exact Rn.ret hT rfl rfl rfl (hq z_1834 h_1838 p_1834 R_1838)
      · rw [if_neg c_1833] at e
        refine Rn.bf hT rfl rfl rfl (decide_eq_false (fun z => c_1833 ((ti_le p1 L32_2).mp z))) ?_
        exact Rn.weak (ll_n (ll_n (ll_n ll_e))) (RX11_law_b19 hd hR hq e)
set_option maxRecDepth 10000 in
theorem hX11_room : iv_Tb 144 tX11_room := iv_tb_of (m := mX11_room) rfl
set_option maxRecDepth 10000 in
theorem gX11_room : PG.2 144 = some mX11_room := iv_pi_of (t := tX11_room) rfl (by decide)
def FX11_room_b121 (N : Nat) (s : iv_M)  (xs0 : Int) : Option (Int) := (some xs0)
set_option maxRecDepth 10000 in
set_option maxHeartbeats 4000000 in
theorem RX11_room_b121 {d N nc Ls : Nat} {Xs : Nat → Int32} (hd : 1 ≤ d) {h : iv_H} {s : iv_M} (hR : Rep nc Ls Xs h s)  {ms0 : Int32} {xs0 : Int} (ps0 : ms0.toInt = xs0) {r : Int} {Q : Option Value → iv_H → Prop} (hq : ∀ (z : Int32), z.toInt = r → Q (some (.int z)) h) (e : FX11_room_b121 N s  xs0 = some r) : Rn d 144 (some .int) 121 [none, none, none] [.int ms0] h Q := by
  have hT := hX11_room
  unfold FX11_room_b121 at e
  obtain rfl := Option.some.inj e
  exact Rn.ret hT rfl rfl rfl (hq ms0 ps0)
def FX11_room (N : Nat) (s : iv_M) (q0 : Nat) (x1 : Int) (x2 : Int) : Option (Int) := ((FX2_isRoom N s ((s q0 4).toNat) x1).bind fun v_1840 => (if v_1840 = 0 then (some (-1)) else (if x2 = 0 then ((rd s (((s q0 4).toNat + 1) + 1) 12 x1).bind fun v_1843 => (some v_1843)) else (if x2 = 1 then ((rd s (((s q0 4).toNat + 1) + 2) 12 x1).bind fun v_1845 => (some v_1845)) else (if x2 = 2 then ((FX1_sortOf N s ((s q0 4).toNat + 1) x1 (w32 (x2 - 2))).bind fun v_1847 => (some v_1847)) else (if x2 = 3 then ((FX1_sortOf N s ((s q0 4).toNat + 1) x1 (w32 (x2 - 2))).bind fun v_1849 => (some v_1849)) else (if x2 = 4 then ((FX1_sortOf N s ((s q0 4).toNat + 1) x1 (w32 (x2 - 2))).bind fun v_1851 => (some v_1851)) else (if x2 = 5 then ((FX1_sortOf N s ((s q0 4).toNat + 1) x1 (w32 (x2 - 2))).bind fun v_1853 => (some v_1853)) else (if x2 = 6 then ((FX2_isFixed N s ((s q0 4).toNat) x1).bind fun v_1855 => (if v_1855 = 0 then (FX11_room_b121 N s 0) else (FX11_room_b121 N s 1))) else (if x2 = 7 then ((FX2_keysIn N s ((s q0 4).toNat) x1).bind fun v_1858 => (some v_1858)) else (if x2 = 8 then ((FX2_sleepersIn N s ((s q0 4).toNat) x1).bind fun v_1860 => (some v_1860)) else (some (-1)))))))))))))
set_option maxRecDepth 10000 in
set_option maxHeartbeats 4000000 in
theorem RX11_room {d N nc Ls : Nat} {Xs : Nat → Int32} (hd : 2 ≤ d) {h : iv_H} {s : iv_M} (hR : Rep nc Ls Xs h s) {q0 : Nat} (t0 : T11 nc q0) {m1 : Int32} {x1 : Int} (p1 : m1.toInt = x1) {m2 : Int32} {x2 : Int} (p2 : m2.toInt = x2) {r : Int} {Q : Option Value → iv_H → Prop} (e : FX11_room N s q0 x1 x2 = some r) (hq : ∀ (z : Int32), z.toInt = r → Q (some (.int z)) h) : Cl d 144 [.ref q0, .int m1, .int m2] h Q := by
  obtain ⟨d, rfl⟩ : ∃ k, d = k + 1 := ⟨d - 1, by omega⟩
  have hd : 1 ≤ d := by omega
  have hT := hX11_room
  unfold FX11_room at e
  refine Cl.into (by decide) gX11_room rfl ?_
  show Rn d 144 (some .int) 0 [some (.ref q0), some (.int m1), some (.int m2)] [] h Q
  refine Rn.n hT 1 (pc' := 1) (L' := [some (.ref q0), some (.int m1), some (.int m2)]) (st' := [.ref q0]) rfl ?_
  refine Rn.hp hT rfl rfl (gR_hp (rp_gP (k := 4) hR (T11_o t0) rfl (nn_114 hR t0))) ?_
  refine Rn.n hT 1 (pc' := 5) (L' := [some (.ref q0), some (.int m1), some (.int m2)]) (st' := [.int m1, .ref ((s q0 4).toNat)]) rfl ?_
  obtain ⟨v_1840, e_1840, e⟩ := Option.bind_eq_some_iff.mp e
  refine Rn.call hT rfl rfl rfl (Nat.le_of_ble_eq_true rfl) (rcv_v gX2_isRoom (by omega) (rp_ck hR (T2_o (ty_114 hR t0)))) (RX2_isRoom (by omega) hR (ty_114 hR t0) p1 e_1840 (fun z_1840 p_1840 => ?_))
  show Rn d _ _ 8 [some (.ref q0), some (.int m1), some (.int m2)] [.int z_1840] h Q
  by_cases c_1841 : v_1840 = 0
  · rw [if_pos c_1841] at e
    refine Rn.bf hT rfl rfl rfl (decide_eq_false (fun z => z ((ti_e p_1840 L32_0).mpr c_1841))) ?_
    refine Rn.n hT 1 (pc' := 12) (L' := [some (.ref q0), some (.int m1), some (.int m2)]) (st' := [.int (-1 : Int32)]) rfl ?_
    obtain rfl := Option.some.inj e
    exact Rn.ret hT rfl rfl rfl (hq (-1 : Int32) L32_m1)
  · rw [if_neg c_1841] at e
    refine Rn.bt hT rfl rfl rfl (decide_eq_true (fun z => c_1841 ((ti_e p_1840 L32_0).mp z))) ?_
    refine Rn.n hT 1 (pc' := 14) (L' := [some (.ref q0), some (.int m1), some (.int m2)]) (st' := [.int m2]) rfl ?_
    by_cases c_1842 : x2 = 0
    · rw [if_pos c_1842] at e
      refine Rn.sw2 hT rfl rfl rfl (if_pos ((ti_e p2 L32_0).mpr c_1842)) ?_
      refine Rn.n hT 1 (pc' := 65) (L' := [some (.ref q0), some (.int m1), some (.int m2)]) (st' := [.ref q0]) rfl ?_
      refine Rn.hp hT rfl rfl (gR_hp (rp_gP (k := 4) hR (T11_o t0) rfl (nn_114 hR t0))) ?_
      refine Rn.hp hT rfl rfl (gR_hp (rp_gR hR (T2_o (ty_114 hR t0)) rfl)) ?_
      refine Rn.hp hT rfl rfl (gR_hp (rp_gR hR (T1_o (T2_9 (ty_114 hR t0))) rfl)) ?_
      refine Rn.n hT 1 (pc' := 75) (L' := [some (.ref q0), some (.int m1), some (.int m2)]) (st' := [.int m1, .ref (((s q0 4).toNat + 1) + 1)]) rfl ?_
      obtain ⟨v_1843, e_1843, e⟩ := Option.bind_eq_some_iff.mp e
      obtain ⟨z_1843, g_1843, p_1843⟩ := rp_aI hR (T1_5 (T2_9 (ty_114 hR t0))) (T1_5l (T2_9 (ty_114 hR t0))) p1 e_1843
      refine Rn.hp hT rfl rfl (aI_hp g_1843) ?_
      obtain rfl := Option.some.inj e
      exact Rn.ret hT rfl rfl rfl (hq z_1843 p_1843)
    · rw [if_neg c_1842] at e
      by_cases c_1844 : x2 = 1
      · rw [if_pos c_1844] at e
        refine Rn.sw2 hT rfl rfl rfl ((if_neg (fun z => c_1842 ((ti_e p2 L32_0).mp z))).trans (if_pos ((ti_e p2 L32_1).mpr c_1844))) ?_
        refine Rn.n hT 1 (pc' := 78) (L' := [some (.ref q0), some (.int m1), some (.int m2)]) (st' := [.ref q0]) rfl ?_
        refine Rn.hp hT rfl rfl (gR_hp (rp_gP (k := 4) hR (T11_o t0) rfl (nn_114 hR t0))) ?_
        refine Rn.hp hT rfl rfl (gR_hp (rp_gR hR (T2_o (ty_114 hR t0)) rfl)) ?_
        refine Rn.hp hT rfl rfl (gR_hp (rp_gR hR (T1_o (T2_9 (ty_114 hR t0))) rfl)) ?_
        refine Rn.n hT 1 (pc' := 88) (L' := [some (.ref q0), some (.int m1), some (.int m2)]) (st' := [.int m1, .ref (((s q0 4).toNat + 1) + 2)]) rfl ?_
        obtain ⟨v_1845, e_1845, e⟩ := Option.bind_eq_some_iff.mp e
        obtain ⟨z_1845, g_1845, p_1845⟩ := rp_aI hR (T1_6 (T2_9 (ty_114 hR t0))) (T1_6l (T2_9 (ty_114 hR t0))) p1 e_1845
        refine Rn.hp hT rfl rfl (aI_hp g_1845) ?_
        obtain rfl := Option.some.inj e
        exact Rn.ret hT rfl rfl rfl (hq z_1845 p_1845)
      · rw [if_neg c_1844] at e
        by_cases c_1846 : x2 = 2
        · rw [if_pos c_1846] at e
          refine Rn.sw2 hT rfl rfl rfl ((if_neg (fun z => c_1842 ((ti_e p2 L32_0).mp z))).trans ((if_neg (fun z => c_1844 ((ti_e p2 L32_1).mp z))).trans (if_pos ((ti_e p2 L32_2).mpr c_1846)))) ?_
          refine Rn.n hT 1 (pc' := 91) (L' := [some (.ref q0), some (.int m1), some (.int m2)]) (st' := [.ref q0]) rfl ?_
          refine Rn.hp hT rfl rfl (gR_hp (rp_gP (k := 4) hR (T11_o t0) rfl (nn_114 hR t0))) ?_
          refine Rn.hp hT rfl rfl (gR_hp (rp_gR hR (T2_o (ty_114 hR t0)) rfl)) ?_
          refine Rn.n hT 4 (pc' := 101) (L' := [some (.ref q0), some (.int m1), some (.int m2)]) (st' := [.int (m2 - (2 : Int32)), .int m1, .ref ((s q0 4).toNat + 1)]) rfl ?_
          obtain ⟨v_1847, e_1847, e⟩ := Option.bind_eq_some_iff.mp e
          refine Rn.call hT rfl rfl rfl (Nat.le_of_ble_eq_true rfl) (rcv_v gX1_sortOf (by omega) (rp_ck hR (T1_o (T2_9 (ty_114 hR t0))))) (RX1_sortOf (by omega) hR (T2_9 (ty_114 hR t0)) p1 (ti_sub p2 L32_2) e_1847 (fun z_1847 p_1847 => ?_))
          show Rn d _ _ 104 [some (.ref q0), some (.int m1), some (.int m2)] [.int z_1847] h Q
          obtain rfl := Option.some.inj e
          exact Rn.ret hT rfl rfl rfl (hq z_1847 p_1847)
        · rw [if_neg c_1846] at e
          by_cases c_1848 : x2 = 3
          · rw [if_pos c_1848] at e
            refine Rn.sw2 hT rfl rfl rfl ((if_neg (fun z => c_1842 ((ti_e p2 L32_0).mp z))).trans ((if_neg (fun z => c_1844 ((ti_e p2 L32_1).mp z))).trans ((if_neg (fun z => c_1846 ((ti_e p2 L32_2).mp z))).trans (if_pos ((ti_e p2 L32_3).mpr c_1848))))) ?_
            refine Rn.n hT 1 (pc' := 91) (L' := [some (.ref q0), some (.int m1), some (.int m2)]) (st' := [.ref q0]) rfl ?_
            refine Rn.hp hT rfl rfl (gR_hp (rp_gP (k := 4) hR (T11_o t0) rfl (nn_114 hR t0))) ?_
            refine Rn.hp hT rfl rfl (gR_hp (rp_gR hR (T2_o (ty_114 hR t0)) rfl)) ?_
            refine Rn.n hT 4 (pc' := 101) (L' := [some (.ref q0), some (.int m1), some (.int m2)]) (st' := [.int (m2 - (2 : Int32)), .int m1, .ref ((s q0 4).toNat + 1)]) rfl ?_
            obtain ⟨v_1849, e_1849, e⟩ := Option.bind_eq_some_iff.mp e
            refine Rn.call hT rfl rfl rfl (Nat.le_of_ble_eq_true rfl) (rcv_v gX1_sortOf (by omega) (rp_ck hR (T1_o (T2_9 (ty_114 hR t0))))) (RX1_sortOf (by omega) hR (T2_9 (ty_114 hR t0)) p1 (ti_sub p2 L32_2) e_1849 (fun z_1849 p_1849 => ?_))
            show Rn d _ _ 104 [some (.ref q0), some (.int m1), some (.int m2)] [.int z_1849] h Q
            obtain rfl := Option.some.inj e
            exact Rn.ret hT rfl rfl rfl (hq z_1849 p_1849)
          · rw [if_neg c_1848] at e
            by_cases c_1850 : x2 = 4
            · rw [if_pos c_1850] at e
              refine Rn.sw2 hT rfl rfl rfl ((if_neg (fun z => c_1842 ((ti_e p2 L32_0).mp z))).trans ((if_neg (fun z => c_1844 ((ti_e p2 L32_1).mp z))).trans ((if_neg (fun z => c_1846 ((ti_e p2 L32_2).mp z))).trans ((if_neg (fun z => c_1848 ((ti_e p2 L32_3).mp z))).trans (if_pos ((ti_e p2 L32_4).mpr c_1850)))))) ?_
              refine Rn.n hT 1 (pc' := 91) (L' := [some (.ref q0), some (.int m1), some (.int m2)]) (st' := [.ref q0]) rfl ?_
              refine Rn.hp hT rfl rfl (gR_hp (rp_gP (k := 4) hR (T11_o t0) rfl (nn_114 hR t0))) ?_
              refine Rn.hp hT rfl rfl (gR_hp (rp_gR hR (T2_o (ty_114 hR t0)) rfl)) ?_
              refine Rn.n hT 4 (pc' := 101) (L' := [some (.ref q0), some (.int m1), some (.int m2)]) (st' := [.int (m2 - (2 : Int32)), .int m1, .ref ((s q0 4).toNat + 1)]) rfl ?_
              obtain ⟨v_1851, e_1851, e⟩ := Option.bind_eq_some_iff.mp e
              refine Rn.call hT rfl rfl rfl (Nat.le_of_ble_eq_true rfl) (rcv_v gX1_sortOf (by omega) (rp_ck hR (T1_o (T2_9 (ty_114 hR t0))))) (RX1_sortOf (by omega) hR (T2_9 (ty_114 hR t0)) p1 (ti_sub p2 L32_2) e_1851 (fun z_1851 p_1851 => ?_))
              show Rn d _ _ 104 [some (.ref q0), some (.int m1), some (.int m2)] [.int z_1851] h Q
              obtain rfl := Option.some.inj e
              exact Rn.ret hT rfl rfl rfl (hq z_1851 p_1851)
            · rw [if_neg c_1850] at e
              by_cases c_1852 : x2 = 5
              · rw [if_pos c_1852] at e
                refine Rn.sw2 hT rfl rfl rfl ((if_neg (fun z => c_1842 ((ti_e p2 L32_0).mp z))).trans ((if_neg (fun z => c_1844 ((ti_e p2 L32_1).mp z))).trans ((if_neg (fun z => c_1846 ((ti_e p2 L32_2).mp z))).trans ((if_neg (fun z => c_1848 ((ti_e p2 L32_3).mp z))).trans ((if_neg (fun z => c_1850 ((ti_e p2 L32_4).mp z))).trans (if_pos ((ti_e p2 L32_5).mpr c_1852))))))) ?_
                refine Rn.n hT 1 (pc' := 91) (L' := [some (.ref q0), some (.int m1), some (.int m2)]) (st' := [.ref q0]) rfl ?_
                refine Rn.hp hT rfl rfl (gR_hp (rp_gP (k := 4) hR (T11_o t0) rfl (nn_114 hR t0))) ?_
                refine Rn.hp hT rfl rfl (gR_hp (rp_gR hR (T2_o (ty_114 hR t0)) rfl)) ?_
                refine Rn.n hT 4 (pc' := 101) (L' := [some (.ref q0), some (.int m1), some (.int m2)]) (st' := [.int (m2 - (2 : Int32)), .int m1, .ref ((s q0 4).toNat + 1)]) rfl ?_
                obtain ⟨v_1853, e_1853, e⟩ := Option.bind_eq_some_iff.mp e
                refine Rn.call hT rfl rfl rfl (Nat.le_of_ble_eq_true rfl) (rcv_v gX1_sortOf (by omega) (rp_ck hR (T1_o (T2_9 (ty_114 hR t0))))) (RX1_sortOf (by omega) hR (T2_9 (ty_114 hR t0)) p1 (ti_sub p2 L32_2) e_1853 (fun z_1853 p_1853 => ?_))
                show Rn d _ _ 104 [some (.ref q0), some (.int m1), some (.int m2)] [.int z_1853] h Q
                obtain rfl := Option.some.inj e
                exact Rn.ret hT rfl rfl rfl (hq z_1853 p_1853)
              · rw [if_neg c_1852] at e
                by_cases c_1854 : x2 = 6
                · rw [if_pos c_1854] at e
                  refine Rn.sw2 hT rfl rfl rfl ((if_neg (fun z => c_1842 ((ti_e p2 L32_0).mp z))).trans ((if_neg (fun z => c_1844 ((ti_e p2 L32_1).mp z))).trans ((if_neg (fun z => c_1846 ((ti_e p2 L32_2).mp z))).trans ((if_neg (fun z => c_1848 ((ti_e p2 L32_3).mp z))).trans ((if_neg (fun z => c_1850 ((ti_e p2 L32_4).mp z))).trans ((if_neg (fun z => c_1852 ((ti_e p2 L32_5).mp z))).trans (if_pos ((ti_e p2 L32_6).mpr c_1854)))))))) ?_
                  refine Rn.n hT 1 (pc' := 106) (L' := [some (.ref q0), some (.int m1), some (.int m2)]) (st' := [.ref q0]) rfl ?_
                  refine Rn.hp hT rfl rfl (gR_hp (rp_gP (k := 4) hR (T11_o t0) rfl (nn_114 hR t0))) ?_
                  refine Rn.n hT 1 (pc' := 110) (L' := [some (.ref q0), some (.int m1), some (.int m2)]) (st' := [.int m1, .ref ((s q0 4).toNat)]) rfl ?_
                  obtain ⟨v_1855, e_1855, e⟩ := Option.bind_eq_some_iff.mp e
                  refine Rn.call hT rfl rfl rfl (Nat.le_of_ble_eq_true rfl) (rcv_v gX2_isFixed (by omega) (rp_ck hR (T2_o (ty_114 hR t0)))) (RX2_isFixed (by omega) hR (ty_114 hR t0) p1 e_1855 (fun z_1855 p_1855 => ?_))
                  show Rn d _ _ 113 [some (.ref q0), some (.int m1), some (.int m2)] [.int z_1855] h Q
                  by_cases c_1856 : v_1855 = 0
                  · rw [if_pos c_1856] at e
                    refine Rn.bt hT rfl rfl rfl (decide_eq_true ((ti_e p_1855 L32_0).mpr c_1856)) ?_
                    refine Rn.n hT 1 (pc' := 121) (L' := [some (.ref q0), some (.int m1), some (.int m2)]) (st' := [.int (0 : Int32)]) rfl ?_
                    exact Rn.weak (ll_n (ll_n (ll_n ll_e))) (RX11_room_b121 hd hR L32_0 hq e)
                  · rw [if_neg c_1856] at e
                    refine Rn.bf hT rfl rfl rfl (decide_eq_false (fun z => c_1856 ((ti_e p_1855 L32_0).mp z))) ?_
                    refine Rn.n hT 2 (pc' := 121) (L' := [some (.ref q0), some (.int m1), some (.int m2)]) (st' := [.int (1 : Int32)]) rfl ?_
                    exact Rn.weak (ll_n (ll_n (ll_n ll_e))) (RX11_room_b121 hd hR L32_1 hq e)
                · rw [if_neg c_1854] at e
                  by_cases c_1857 : x2 = 7
                  · rw [if_pos c_1857] at e
                    refine Rn.sw2 hT rfl rfl rfl ((if_neg (fun z => c_1842 ((ti_e p2 L32_0).mp z))).trans ((if_neg (fun z => c_1844 ((ti_e p2 L32_1).mp z))).trans ((if_neg (fun z => c_1846 ((ti_e p2 L32_2).mp z))).trans ((if_neg (fun z => c_1848 ((ti_e p2 L32_3).mp z))).trans ((if_neg (fun z => c_1850 ((ti_e p2 L32_4).mp z))).trans ((if_neg (fun z => c_1852 ((ti_e p2 L32_5).mp z))).trans ((if_neg (fun z => c_1854 ((ti_e p2 L32_6).mp z))).trans (if_pos ((ti_e p2 L32_7).mpr c_1857))))))))) ?_
                    refine Rn.n hT 1 (pc' := 123) (L' := [some (.ref q0), some (.int m1), some (.int m2)]) (st' := [.ref q0]) rfl ?_
                    refine Rn.hp hT rfl rfl (gR_hp (rp_gP (k := 4) hR (T11_o t0) rfl (nn_114 hR t0))) ?_
                    refine Rn.n hT 1 (pc' := 127) (L' := [some (.ref q0), some (.int m1), some (.int m2)]) (st' := [.int m1, .ref ((s q0 4).toNat)]) rfl ?_
                    obtain ⟨v_1858, e_1858, e⟩ := Option.bind_eq_some_iff.mp e
                    refine Rn.call hT rfl rfl rfl (Nat.le_of_ble_eq_true rfl) (rcv_v gX2_keysIn (by omega) (rp_ck hR (T2_o (ty_114 hR t0)))) (RX2_keysIn (by omega) hR (ty_114 hR t0) p1 e_1858 (fun z_1858 p_1858 => ?_))
                    show Rn d _ _ 130 [some (.ref q0), some (.int m1), some (.int m2)] [.int z_1858] h Q
                    obtain rfl := Option.some.inj e
                    exact Rn.ret hT rfl rfl rfl (hq z_1858 p_1858)
                  · rw [if_neg c_1857] at e
                    by_cases c_1859 : x2 = 8
                    · rw [if_pos c_1859] at e
                      refine Rn.sw2 hT rfl rfl rfl ((if_neg (fun z => c_1842 ((ti_e p2 L32_0).mp z))).trans ((if_neg (fun z => c_1844 ((ti_e p2 L32_1).mp z))).trans ((if_neg (fun z => c_1846 ((ti_e p2 L32_2).mp z))).trans ((if_neg (fun z => c_1848 ((ti_e p2 L32_3).mp z))).trans ((if_neg (fun z => c_1850 ((ti_e p2 L32_4).mp z))).trans ((if_neg (fun z => c_1852 ((ti_e p2 L32_5).mp z))).trans ((if_neg (fun z => c_1854 ((ti_e p2 L32_6).mp z))).trans ((if_neg (fun z => c_1857 ((ti_e p2 L32_7).mp z))).trans (if_pos ((ti_e p2 L32_8).mpr c_1859)))))))))) ?_
                      refine Rn.n hT 1 (pc' := 132) (L' := [some (.ref q0), some (.int m1), some (.int m2)]) (st' := [.ref q0]) rfl ?_
                      refine Rn.hp hT rfl rfl (gR_hp (rp_gP (k := 4) hR (T11_o t0) rfl (nn_114 hR t0))) ?_
                      refine Rn.n hT 1 (pc' := 136) (L' := [some (.ref q0), some (.int m1), some (.int m2)]) (st' := [.int m1, .ref ((s q0 4).toNat)]) rfl ?_
                      obtain ⟨v_1860, e_1860, e⟩ := Option.bind_eq_some_iff.mp e
                      refine Rn.call hT rfl rfl rfl (Nat.le_of_ble_eq_true rfl) (rcv_v gX2_sleepersIn (by omega) (rp_ck hR (T2_o (ty_114 hR t0)))) (RX2_sleepersIn (by omega) hR (ty_114 hR t0) p1 e_1860 (fun z_1860 p_1860 => ?_))
                      show Rn d _ _ 139 [some (.ref q0), some (.int m1), some (.int m2)] [.int z_1860] h Q
                      obtain rfl := Option.some.inj e
                      exact Rn.ret hT rfl rfl rfl (hq z_1860 p_1860)
                    · rw [if_neg c_1859] at e
                      refine Rn.sw2 hT rfl rfl rfl ((if_neg (fun z => c_1842 ((ti_e p2 L32_0).mp z))).trans ((if_neg (fun z => c_1844 ((ti_e p2 L32_1).mp z))).trans ((if_neg (fun z => c_1846 ((ti_e p2 L32_2).mp z))).trans ((if_neg (fun z => c_1848 ((ti_e p2 L32_3).mp z))).trans ((if_neg (fun z => c_1850 ((ti_e p2 L32_4).mp z))).trans ((if_neg (fun z => c_1852 ((ti_e p2 L32_5).mp z))).trans ((if_neg (fun z => c_1854 ((ti_e p2 L32_6).mp z))).trans ((if_neg (fun z => c_1857 ((ti_e p2 L32_7).mp z))).trans ((if_neg (fun z => c_1859 ((ti_e p2 L32_8).mp z))).trans rfl))))))))) ?_
                      refine Rn.n hT 1 (pc' := 141) (L' := [some (.ref q0), some (.int m1), some (.int m2)]) (st' := [.int (-1 : Int32)]) rfl ?_
                      obtain rfl := Option.some.inj e
                      exact Rn.ret hT rfl rfl rfl (hq (-1 : Int32) L32_m1)
set_option maxRecDepth 10000 in
theorem hX11_at : iv_Tb 145 tX11_at := iv_tb_of (m := mX11_at) rfl
set_option maxRecDepth 10000 in
theorem gX11_at : PG.2 145 = some mX11_at := iv_pi_of (t := tX11_at) rfl (by decide)
def FX11_at_b35 (N : Nat) (s : iv_M)  (xs0 : Int) : Option (Int) := (some xs0)
set_option maxRecDepth 10000 in
set_option maxHeartbeats 4000000 in
theorem RX11_at_b35 {d N nc Ls : Nat} {Xs : Nat → Int32} (hd : 1 ≤ d) {h : iv_H} {s : iv_M} (hR : Rep nc Ls Xs h s)  {ms0 : Int32} {xs0 : Int} (ps0 : ms0.toInt = xs0) {r : Int} {Q : Option Value → iv_H → Prop} (hq : ∀ (z : Int32), z.toInt = r → Q (some (.int z)) h) (e : FX11_at_b35 N s  xs0 = some r) : Rn d 145 (some .int) 35 [none, none, none, none] [.int ms0] h Q := by
  have hT := hX11_at
  unfold FX11_at_b35 at e
  obtain rfl := Option.some.inj e
  exact Rn.ret hT rfl rfl rfl (hq ms0 ps0)
def FX11_at (N : Nat) (s : iv_M) (q0 : Nat) (x1 : Int) (x2 : Int) : Option (Int) := ((FX1_cellAt N s ((s q0 4).toNat + 1) x1 x2).bind fun v_1861 => (if v_1861 = (-1) then (FX11_at_b35 N s (-2)) else ((rd s (((s q0 4).toNat + 1) + 3) 16 v_1861).bind fun v_1863 => (FX11_at_b35 N s v_1863))))
set_option maxRecDepth 10000 in
set_option maxHeartbeats 4000000 in
theorem RX11_at {d N nc Ls : Nat} {Xs : Nat → Int32} (hd : 2 ≤ d) {h : iv_H} {s : iv_M} (hR : Rep nc Ls Xs h s) {q0 : Nat} (t0 : T11 nc q0) {m1 : Int32} {x1 : Int} (p1 : m1.toInt = x1) {m2 : Int32} {x2 : Int} (p2 : m2.toInt = x2) {r : Int} {Q : Option Value → iv_H → Prop} (e : FX11_at N s q0 x1 x2 = some r) (hq : ∀ (z : Int32), z.toInt = r → Q (some (.int z)) h) : Cl d 145 [.ref q0, .int m1, .int m2] h Q := by
  obtain ⟨d, rfl⟩ : ∃ k, d = k + 1 := ⟨d - 1, by omega⟩
  have hd : 1 ≤ d := by omega
  have hT := hX11_at
  unfold FX11_at at e
  refine Cl.into (by decide) gX11_at rfl ?_
  show Rn d 145 (some .int) 0 [some (.ref q0), some (.int m1), some (.int m2), none] [] h Q
  refine Rn.n hT 1 (pc' := 1) (L' := [some (.ref q0), some (.int m1), some (.int m2), none]) (st' := [.ref q0]) rfl ?_
  refine Rn.hp hT rfl rfl (gR_hp (rp_gP (k := 4) hR (T11_o t0) rfl (nn_114 hR t0))) ?_
  refine Rn.hp hT rfl rfl (gR_hp (rp_gR hR (T2_o (ty_114 hR t0)) rfl)) ?_
  refine Rn.n hT 2 (pc' := 9) (L' := [some (.ref q0), some (.int m1), some (.int m2), none]) (st' := [.int m2, .int m1, .ref ((s q0 4).toNat + 1)]) rfl ?_
  obtain ⟨v_1861, e_1861, e⟩ := Option.bind_eq_some_iff.mp e
  refine Rn.call hT rfl rfl rfl (Nat.le_of_ble_eq_true rfl) (rcv_v gX1_cellAt (by omega) (rp_ck hR (T1_o (T2_9 (ty_114 hR t0))))) (RX1_cellAt (by omega) hR (T2_9 (ty_114 hR t0)) p1 p2 e_1861 (fun z_1861 p_1861 => ?_))
  show Rn d _ _ 12 [some (.ref q0), some (.int m1), some (.int m2), none] [.int z_1861] h Q
  refine Rn.n hT 3 (pc' := 15) (L' := [some (.ref q0), some (.int m1), some (.int m2), some (.int z_1861)]) (st' := [.int (-1 : Int32), .int z_1861]) rfl ?_
  by_cases c_1862 : v_1861 = (-1)
  · rw [if_pos c_1862] at e
    refine Rn.bf hT rfl rfl rfl (decide_eq_false (fun z => z ((ti_e p_1861 L32_m1).mpr c_1862))) ?_
    refine Rn.n hT 2 (pc' := 35) (L' := [some (.ref q0), some (.int m1), some (.int m2), some (.int z_1861)]) (st' := [.int (-2 : Int32)]) rfl ?_
    exact Rn.weak (ll_n (ll_n (ll_n (ll_n ll_e)))) (RX11_at_b35 hd hR L32_m2 hq e)
  · rw [if_neg c_1862] at e
    refine Rn.bt hT rfl rfl rfl (decide_eq_true (fun z => c_1862 ((ti_e p_1861 L32_m1).mp z))) ?_
    refine Rn.n hT 1 (pc' := 24) (L' := [some (.ref q0), some (.int m1), some (.int m2), some (.int z_1861)]) (st' := [.ref q0]) rfl ?_
    refine Rn.hp hT rfl rfl (gR_hp (rp_gP (k := 4) hR (T11_o t0) rfl (nn_114 hR t0))) ?_
    refine Rn.hp hT rfl rfl (gR_hp (rp_gR hR (T2_o (ty_114 hR t0)) rfl)) ?_
    refine Rn.hp hT rfl rfl (gR_hp (rp_gR hR (T1_o (T2_9 (ty_114 hR t0))) rfl)) ?_
    refine Rn.n hT 1 (pc' := 34) (L' := [some (.ref q0), some (.int m1), some (.int m2), some (.int z_1861)]) (st' := [.int z_1861, .ref (((s q0 4).toNat + 1) + 3)]) rfl ?_
    obtain ⟨v_1863, e_1863, e⟩ := Option.bind_eq_some_iff.mp e
    obtain ⟨z_1863, g_1863, p_1863⟩ := rp_aI hR (T1_7 (T2_9 (ty_114 hR t0))) (T1_7l (T2_9 (ty_114 hR t0))) p_1861 e_1863
    refine Rn.hp hT rfl rfl (aI_hp g_1863) ?_
    exact Rn.weak (ll_n (ll_n (ll_n (ll_n ll_e)))) (RX11_at_b35 hd hR p_1863 hq e)
set_option maxRecDepth 10000 in
theorem hX11_sleeps : iv_Tb 146 tX11_sleeps := iv_tb_of (m := mX11_sleeps) rfl
set_option maxRecDepth 10000 in
theorem gX11_sleeps : PG.2 146 = some mX11_sleeps := iv_pi_of (t := tX11_sleeps) rfl (by decide)
def FX11_sleeps_b24 (N : Nat) (s : iv_M)  (xs0 : Int) : Option (Int) := (some xs0)
set_option maxRecDepth 10000 in
set_option maxHeartbeats 4000000 in
theorem RX11_sleeps_b24 {d N nc Ls : Nat} {Xs : Nat → Int32} (hd : 1 ≤ d) {h : iv_H} {s : iv_M} (hR : Rep nc Ls Xs h s)  {ms0 : Int32} {xs0 : Int} (ps0 : ms0.toInt = xs0) {r : Int} {Q : Option Value → iv_H → Prop} (hq : ∀ (z : Int32), z.toInt = r → Q (some (.int z)) h) (e : FX11_sleeps_b24 N s  xs0 = some r) : Rn d 146 (some .int) 24 [none, none] [.int ms0] h Q := by
  have hT := hX11_sleeps
  unfold FX11_sleeps_b24 at e
  obtain rfl := Option.some.inj e
  exact Rn.ret hT rfl rfl rfl (hq ms0 ps0)
def FX11_sleeps (N : Nat) (s : iv_M) (q0 : Nat) (x1 : Int) : Option (Int) := ((FX2_isPerson N s ((s q0 4).toNat) x1).bind fun v_1864 => (if v_1864 = 0 then (FX11_sleeps_b24 N s (-1)) else ((rd s ((s q0 4).toNat + 9) 6 x1).bind fun v_1866 => (FX11_sleeps_b24 N s v_1866))))
set_option maxRecDepth 10000 in
set_option maxHeartbeats 4000000 in
theorem RX11_sleeps {d N nc Ls : Nat} {Xs : Nat → Int32} (hd : 2 ≤ d) {h : iv_H} {s : iv_M} (hR : Rep nc Ls Xs h s) {q0 : Nat} (t0 : T11 nc q0) {m1 : Int32} {x1 : Int} (p1 : m1.toInt = x1) {r : Int} {Q : Option Value → iv_H → Prop} (e : FX11_sleeps N s q0 x1 = some r) (hq : ∀ (z : Int32), z.toInt = r → Q (some (.int z)) h) : Cl d 146 [.ref q0, .int m1] h Q := by
  obtain ⟨d, rfl⟩ : ∃ k, d = k + 1 := ⟨d - 1, by omega⟩
  have hd : 1 ≤ d := by omega
  have hT := hX11_sleeps
  unfold FX11_sleeps at e
  refine Cl.into (by decide) gX11_sleeps rfl ?_
  show Rn d 146 (some .int) 0 [some (.ref q0), some (.int m1)] [] h Q
  refine Rn.n hT 1 (pc' := 1) (L' := [some (.ref q0), some (.int m1)]) (st' := [.ref q0]) rfl ?_
  refine Rn.hp hT rfl rfl (gR_hp (rp_gP (k := 4) hR (T11_o t0) rfl (nn_114 hR t0))) ?_
  refine Rn.n hT 1 (pc' := 5) (L' := [some (.ref q0), some (.int m1)]) (st' := [.int m1, .ref ((s q0 4).toNat)]) rfl ?_
  obtain ⟨v_1864, e_1864, e⟩ := Option.bind_eq_some_iff.mp e
  refine Rn.call hT rfl rfl rfl (Nat.le_of_ble_eq_true rfl) (rcv_v gX2_isPerson (by omega) (rp_ck hR (T2_o (ty_114 hR t0)))) (RX2_isPerson (by omega) hR (ty_114 hR t0) p1 e_1864 (fun z_1864 p_1864 => ?_))
  show Rn d _ _ 8 [some (.ref q0), some (.int m1)] [.int z_1864] h Q
  by_cases c_1865 : v_1864 = 0
  · rw [if_pos c_1865] at e
    refine Rn.bt hT rfl rfl rfl (decide_eq_true ((ti_e p_1864 L32_0).mpr c_1865)) ?_
    refine Rn.n hT 1 (pc' := 24) (L' := [some (.ref q0), some (.int m1)]) (st' := [.int (-1 : Int32)]) rfl ?_
    exact Rn.weak (ll_n (ll_n ll_e)) (RX11_sleeps_b24 hd hR L32_m1 hq e)
  · rw [if_neg c_1865] at e
    refine Rn.bf hT rfl rfl rfl (decide_eq_false (fun z => c_1865 ((ti_e p_1864 L32_0).mp z))) ?_
    refine Rn.n hT 1 (pc' := 12) (L' := [some (.ref q0), some (.int m1)]) (st' := [.ref q0]) rfl ?_
    refine Rn.hp hT rfl rfl (gR_hp (rp_gP (k := 4) hR (T11_o t0) rfl (nn_114 hR t0))) ?_
    refine Rn.hp hT rfl rfl (gR_hp (rp_gR hR (T2_o (ty_114 hR t0)) rfl)) ?_
    refine Rn.n hT 1 (pc' := 19) (L' := [some (.ref q0), some (.int m1)]) (st' := [.int m1, .ref ((s q0 4).toNat + 9)]) rfl ?_
    obtain ⟨v_1866, e_1866, e⟩ := Option.bind_eq_some_iff.mp e
    obtain ⟨z_1866, g_1866, p_1866⟩ := rp_aI hR (T2_11 (ty_114 hR t0)) (T2_11l (ty_114 hR t0)) p1 e_1866
    refine Rn.hp hT rfl rfl (aI_hp g_1866) ?_
    refine Rn.n hT 1 (pc' := 24) (L' := [some (.ref q0), some (.int m1)]) (st' := [.int z_1866]) rfl ?_
    exact Rn.weak (ll_n (ll_n ll_e)) (RX11_sleeps_b24 hd hR p_1866 hq e)
set_option maxRecDepth 10000 in
theorem hX11_mismatch : iv_Tb 147 tX11_mismatch := iv_tb_of (m := mX11_mismatch) rfl
set_option maxRecDepth 10000 in
theorem gX11_mismatch : PG.2 147 = some mX11_mismatch := iv_pi_of (t := tX11_mismatch) rfl (by decide)
def FX11_mismatch_b19 (N : Nat) (s : iv_M)   : Option (Int) := (some (-1))
set_option maxRecDepth 10000 in
set_option maxHeartbeats 4000000 in
theorem RX11_mismatch_b19 {d N nc Ls : Nat} {Xs : Nat → Int32} (hd : 2 ≤ d) {h : iv_H} {s : iv_M} (hR : Rep nc Ls Xs h s)   {r : Int} {Q : Option Value → iv_H → Prop} (hq : ∀ (z : Int32), z.toInt = r → Q (some (.int z)) h) (e : FX11_mismatch_b19 N s   = some r) : Rn d 147 (some .int) 19 [none, none, none, none] [] h Q := by
  have hT := hX11_mismatch
  unfold FX11_mismatch_b19 at e
  refine Rn.n hT 1 (pc' := 20) (L' := [none, none, none, none]) (st' := [.int (-1 : Int32)]) rfl ?_
  obtain rfl := Option.some.inj e
  exact Rn.ret hT rfl rfl rfl (hq (-1 : Int32) L32_m1)
def FX11_mismatch_b82 (N : Nat) (s : iv_M)  (xs0 : Int) : Option (Int) := (some xs0)
set_option maxRecDepth 10000 in
set_option maxHeartbeats 4000000 in
theorem RX11_mismatch_b82 {d N nc Ls : Nat} {Xs : Nat → Int32} (hd : 2 ≤ d) {h : iv_H} {s : iv_M} (hR : Rep nc Ls Xs h s)  {ms0 : Int32} {xs0 : Int} (ps0 : ms0.toInt = xs0) {r : Int} {Q : Option Value → iv_H → Prop} (hq : ∀ (z : Int32), z.toInt = r → Q (some (.int z)) h) (e : FX11_mismatch_b82 N s  xs0 = some r) : Rn d 147 (some .int) 82 [none, none, none, none] [.int ms0] h Q := by
  have hT := hX11_mismatch
  unfold FX11_mismatch_b82 at e
  obtain rfl := Option.some.inj e
  exact Rn.ret hT rfl rfl rfl (hq ms0 ps0)
def FX11_mismatch (N : Nat) (s : iv_M) (q0 : Nat) (x1 : Int) : Option (Int) := (if (s ((s q0 4).toNat) 0) = 0 then (FX11_mismatch_b19 N s) else (if x1 < 0 then (FX11_mismatch_b19 N s) else (if x1 ≤ 3 then (if x1 = 0 then ((FX1_mismatches N s ((s q0 4).toNat + 1)).bind fun v_1876 => (some v_1876)) else ((FX1_firstMismatch N s ((s q0 4).toNat + 1)).bind fun v_1872 => (if v_1872 = (-1) then (some (-2)) else (if x1 = 1 then (some (bAn (dv32 v_1872 4) 3)) else (if x1 = 2 then (FX11_mismatch_b82 N s (sr32 (dv32 v_1872 4) 2)) else (FX11_mismatch_b82 N s (Int.tmod v_1872 4))))))) else (FX11_mismatch_b19 N s))))
set_option maxRecDepth 10000 in
set_option maxHeartbeats 4000000 in
theorem RX11_mismatch {d N nc Ls : Nat} {Xs : Nat → Int32} (hd : 3 ≤ d) {h : iv_H} {s : iv_M} (hR : Rep nc Ls Xs h s) {q0 : Nat} (t0 : T11 nc q0) {m1 : Int32} {x1 : Int} (p1 : m1.toInt = x1) {r : Int} {Q : Option Value → iv_H → Prop} (e : FX11_mismatch N s q0 x1 = some r) (hq : ∀ (z : Int32), z.toInt = r → Q (some (.int z)) h) : Cl d 147 [.ref q0, .int m1] h Q := by
  obtain ⟨d, rfl⟩ : ∃ k, d = k + 1 := ⟨d - 1, by omega⟩
  have hd : 2 ≤ d := by omega
  have hT := hX11_mismatch
  unfold FX11_mismatch at e
  refine Cl.into (by decide) gX11_mismatch rfl ?_
  show Rn d 147 (some .int) 0 [some (.ref q0), some (.int m1), none, none] [] h Q
  refine Rn.n hT 1 (pc' := 1) (L' := [some (.ref q0), some (.int m1), none, none]) (st' := [.ref q0]) rfl ?_
  refine Rn.hp hT rfl rfl (gR_hp (rp_gP (k := 4) hR (T11_o t0) rfl (nn_114 hR t0))) ?_
  obtain ⟨z_1867, g_1867, p_1867⟩ : ∃ z : Int32, gI h 2 0 ((s q0 4).toNat) = some z ∧ z.toInt = s ((s q0 4).toNat) 0 := rp_gI (k := 0) hR (T2_o (ty_114 hR t0)) rfl
  refine Rn.hp hT rfl rfl (gI_hp g_1867) ?_
  by_cases c_1868 : (s ((s q0 4).toNat) 0) = 0
  · rw [if_pos c_1868] at e
    refine Rn.bt hT rfl rfl rfl (decide_eq_true ((ti_e p_1867 L32_0).mpr c_1868)) ?_
    exact Rn.weak (ll_n (ll_n (ll_n (ll_n ll_e)))) (RX11_mismatch_b19 hd hR hq e)
  · rw [if_neg c_1868] at e
    refine Rn.bf hT rfl rfl rfl (decide_eq_false (fun z => c_1868 ((ti_e p_1867 L32_0).mp z))) ?_
    refine Rn.n hT 1 (pc' := 11) (L' := [some (.ref q0), some (.int m1), none, none]) (st' := [.int m1]) rfl ?_
    by_cases c_1869 : x1 < 0
    · rw [if_pos c_1869] at e
      refine Rn.bt hT rfl rfl rfl (decide_eq_true ((ti_l p1 L32_0).mpr c_1869)) ?_
      exact Rn.weak (ll_n (ll_n (ll_n (ll_n ll_e)))) (RX11_mismatch_b19 hd hR hq e)
    · rw [if_neg c_1869] at e
      refine Rn.bf hT rfl rfl rfl (decide_eq_false (fun z => c_1869 ((ti_l p1 L32_0).mp z))) ?_
      refine Rn.n hT 2 (pc' := 16) (L' := [some (.ref q0), some (.int m1), none, none]) (st' := [.int (3 : Int32), .int m1]) rfl ?_
      by_cases c_1870 : x1 ≤ 3
      · rw [if_pos c_1870] at e
        refine Rn.bt hT rfl rfl rfl (decide_eq_true ((ti_le p1 L32_3).mpr c_1870)) ?_
        refine Rn.n hT 1 (pc' := 22) (L' := [some (.ref q0), some (.int m1), none, none]) (st' := [.int m1]) rfl ?_
        by_cases c_1871 : x1 = 0
        · rw [if_pos c_1871] at e
          refine Rn.bf hT rfl rfl rfl (decide_eq_false (fun z => z ((ti_e p1 L32_0).mpr c_1871))) ?_
          refine Rn.n hT 1 (pc' := 26) (L' := [some (.ref q0), some (.int m1), none, none]) (st' := [.ref q0]) rfl ?_
          refine Rn.hp hT rfl rfl (gR_hp (rp_gP (k := 4) hR (T11_o t0) rfl (nn_114 hR t0))) ?_
          refine Rn.hp hT rfl rfl (gR_hp (rp_gR hR (T2_o (ty_114 hR t0)) rfl)) ?_
          obtain ⟨v_1876, e_1876, e⟩ := Option.bind_eq_some_iff.mp e
          refine Rn.call hT rfl rfl rfl (Nat.le_of_ble_eq_true rfl) (rcv_v gX1_mismatches (by omega) (rp_ck hR (T1_o (T2_9 (ty_114 hR t0))))) (RX1_mismatches (by omega) hR (T2_9 (ty_114 hR t0)) e_1876 (fun z_1876 p_1876 => ?_))
          show Rn d _ _ 35 [some (.ref q0), some (.int m1), none, none] [.int z_1876] h Q
          obtain rfl := Option.some.inj e
          exact Rn.ret hT rfl rfl rfl (hq z_1876 p_1876)
        · rw [if_neg c_1871] at e
          refine Rn.bt hT rfl rfl rfl (decide_eq_true (fun z => c_1871 ((ti_e p1 L32_0).mp z))) ?_
          refine Rn.n hT 1 (pc' := 37) (L' := [some (.ref q0), some (.int m1), none, none]) (st' := [.ref q0]) rfl ?_
          refine Rn.hp hT rfl rfl (gR_hp (rp_gP (k := 4) hR (T11_o t0) rfl (nn_114 hR t0))) ?_
          refine Rn.hp hT rfl rfl (gR_hp (rp_gR hR (T2_o (ty_114 hR t0)) rfl)) ?_
          obtain ⟨v_1872, e_1872, e⟩ := Option.bind_eq_some_iff.mp e
          refine Rn.call hT rfl rfl rfl (Nat.le_of_ble_eq_true rfl) (rcv_v gX1_firstMismatch (by omega) (rp_ck hR (T1_o (T2_9 (ty_114 hR t0))))) (RX1_firstMismatch (by omega) hR (T2_9 (ty_114 hR t0)) e_1872 (fun z_1872 p_1872 => ?_))
          show Rn d _ _ 46 [some (.ref q0), some (.int m1), none, none] [.int z_1872] h Q
          refine Rn.n hT 3 (pc' := 49) (L' := [some (.ref q0), some (.int m1), some (.int z_1872), none]) (st' := [.int (-1 : Int32), .int z_1872]) rfl ?_
          by_cases c_1873 : v_1872 = (-1)
          · rw [if_pos c_1873] at e
            refine Rn.bf hT rfl rfl rfl (decide_eq_false (fun z => z ((ti_e p_1872 L32_m1).mpr c_1873))) ?_
            refine Rn.n hT 1 (pc' := 54) (L' := [some (.ref q0), some (.int m1), some (.int z_1872), none]) (st' := [.int (-2 : Int32)]) rfl ?_
            obtain rfl := Option.some.inj e
            exact Rn.ret hT rfl rfl rfl (hq (-2 : Int32) L32_m2)
          · rw [if_neg c_1873] at e
            refine Rn.bt hT rfl rfl rfl (decide_eq_true (fun z => c_1873 ((ti_e p_1872 L32_m1).mp z))) ?_
            refine Rn.n hT 6 (pc' := 61) (L' := [some (.ref q0), some (.int m1), some (.int z_1872), some (.int (z_1872 / (4 : Int32)))]) (st' := [.int (1 : Int32), .int m1]) rfl ?_
            by_cases c_1874 : x1 = 1
            · rw [if_pos c_1874] at e
              refine Rn.bf hT rfl rfl rfl (decide_eq_false (fun z => z ((ti_e p1 L32_1).mpr c_1874))) ?_
              refine Rn.n hT 3 (pc' := 67) (L' := [some (.ref q0), some (.int m1), some (.int z_1872), some (.int (z_1872 / (4 : Int32)))]) (st' := [.int ((z_1872 / (4 : Int32)) &&& (3 : Int32))]) rfl ?_
              obtain rfl := Option.some.inj e
              exact Rn.ret hT rfl rfl rfl (hq ((z_1872 / (4 : Int32)) &&& (3 : Int32)) (ti_and (ti_div p_1872 L32_4) L32_3))
            · rw [if_neg c_1874] at e
              refine Rn.bt hT rfl rfl rfl (decide_eq_true (fun z => c_1874 ((ti_e p1 L32_1).mp z))) ?_
              refine Rn.n hT 2 (pc' := 70) (L' := [some (.ref q0), some (.int m1), some (.int z_1872), some (.int (z_1872 / (4 : Int32)))]) (st' := [.int (2 : Int32), .int m1]) rfl ?_
              by_cases c_1875 : x1 = 2
              · rw [if_pos c_1875] at e
                refine Rn.bf hT rfl rfl rfl (decide_eq_false (fun z => z ((ti_e p1 L32_2).mpr c_1875))) ?_
                refine Rn.n hT 4 (pc' := 82) (L' := [some (.ref q0), some (.int m1), some (.int z_1872), some (.int (z_1872 / (4 : Int32)))]) (st' := [.int ((z_1872 / (4 : Int32)) >>> ((2 : Int32) &&& 31))]) rfl ?_
                exact Rn.weak (ll_n (ll_n (ll_n (ll_n ll_e)))) (RX11_mismatch_b82 hd hR (ti_shr (ti_div p_1872 L32_4) L32_2) hq e)
              · rw [if_neg c_1875] at e
                refine Rn.bt hT rfl rfl rfl (decide_eq_true (fun z => c_1875 ((ti_e p1 L32_2).mp z))) ?_
                refine Rn.n hT 3 (pc' := 82) (L' := [some (.ref q0), some (.int m1), some (.int z_1872), some (.int (z_1872 / (4 : Int32)))]) (st' := [.int (z_1872 - z_1872 / (4 : Int32) * (4 : Int32))]) rfl ?_
                exact Rn.weak (ll_n (ll_n (ll_n (ll_n ll_e)))) (RX11_mismatch_b82 hd hR (ti_rem p_1872 L32_4) hq e)
      · rw [if_neg c_1870] at e
        refine Rn.bf hT rfl rfl rfl (decide_eq_false (fun z => c_1870 ((ti_le p1 L32_3).mp z))) ?_
        exact Rn.weak (ll_n (ll_n (ll_n (ll_n ll_e)))) (RX11_mismatch_b19 hd hR hq e)
set_option maxRecDepth 10000 in
theorem hX11_dayCame : iv_Tb 148 tX11_dayCame := iv_tb_of (m := mX11_dayCame) rfl
set_option maxRecDepth 10000 in
theorem gX11_dayCame : PG.2 148 = some mX11_dayCame := iv_pi_of (t := tX11_dayCame) rfl (by decide)
def FX11_dayCame (N : Nat) (s : iv_M) (q0 : Nat) : Option (iv_M) := ((FX2_forgetPast N s ((s q0 4).toNat)).bind fun s_1878 => ((pt s_1878 q0 15 (w32 ((s_1878 q0 15) + 1))).bind fun s_1880 => some s_1880))
set_option maxRecDepth 10000 in
set_option maxHeartbeats 4000000 in
theorem RX11_dayCame {d N nc Ls : Nat} {Xs : Nat → Int32} (hd : 2 ≤ d) {h : iv_H} {s : iv_M} (hR : Rep nc Ls Xs h s) {q0 : Nat} (t0 : T11 nc q0) {r : iv_M} {Q : Option Value → iv_H → Prop} (e : FX11_dayCame N s q0 = some r) (hq : ∀ h1, Rep nc Ls Xs h1 r → Q none h1) : Cl d 148 [.ref q0] h Q := by
  obtain ⟨d, rfl⟩ : ∃ k, d = k + 1 := ⟨d - 1, by omega⟩
  have hd : 1 ≤ d := by omega
  have hT := hX11_dayCame
  unfold FX11_dayCame at e
  refine Cl.into (by decide) gX11_dayCame rfl ?_
  show Rn d 148 none 0 [some (.ref q0)] [] h Q
  refine Rn.n hT 1 (pc' := 1) (L' := [some (.ref q0)]) (st' := [.ref q0]) rfl ?_
  refine Rn.hp hT rfl rfl (gR_hp (rp_gP (k := 4) hR (T11_o t0) rfl (nn_114 hR t0))) ?_
  obtain ⟨s_1878, e_1877, e⟩ := Option.bind_eq_some_iff.mp e
  refine Rn.call hT rfl rfl rfl (Nat.le_of_ble_eq_true rfl) (rcv_v gX2_forgetPast (by omega) (rp_ck hR (T2_o (ty_114 hR t0)))) (RX2_forgetPast (by omega) hR (ty_114 hR t0) e_1877 (fun h_1878 R_1878 => ?_))
  show Rn d _ _ 7 [some (.ref q0)] [] h_1878 Q
  refine Rn.n hT 2 (pc' := 9) (L' := [some (.ref q0)]) (st' := [.ref q0, .ref q0]) rfl ?_
  obtain ⟨z_1879, g_1879, p_1879⟩ : ∃ z : Int32, gI h_1878 11 15 q0 = some z ∧ z.toInt = s_1878 q0 15 := rp_gI (k := 15) R_1878 (T11_o t0) rfl
  refine Rn.hp hT rfl rfl (gI_hp g_1879) ?_
  refine Rn.n hT 2 (pc' := 14) (L' := [some (.ref q0)]) (st' := [.int (z_1879 + (1 : Int32)), .ref q0]) rfl ?_
  obtain ⟨s_1880, e_1881, e⟩ := Option.bind_eq_some_iff.mp e
  obtain ⟨h_1880, g_1881, R_1880⟩ := rp_pI (ci := 11) (k := 15) R_1878 (T11_o t0) rfl rfl (ti_add p_1879 L32_1) e_1881
  refine Rn.hp hT rfl rfl (pV_hp rfl g_1881) ?_
  obtain rfl := Option.some.inj e
  exact Rn.ret hT rfl rfl rfl (hq h_1880 R_1880)
set_option maxRecDepth 10000 in
theorem hX11_brick : iv_Tb 149 tX11_brick := iv_tb_of (m := mX11_brick) rfl
set_option maxRecDepth 10000 in
theorem gX11_brick : PG.2 149 = some mX11_brick := iv_pi_of (t := tX11_brick) rfl (by decide)
def FX11_brick_b30 (N : Nat) (s : iv_M)   : Option (Int × iv_M) := (some ((-2), s))
set_option maxRecDepth 10000 in
set_option maxHeartbeats 4000000 in
theorem RX11_brick_b30 {d N nc Ls : Nat} {Xs : Nat → Int32} (hd : 2 ≤ d) {h : iv_H} {s : iv_M} (hR : Rep nc Ls Xs h s)   {r : Int × iv_M} {Q : Option Value → iv_H → Prop} (hq : ∀ (z : Int32) (h1 : iv_H), z.toInt = r.1 → Rep nc Ls Xs h1 r.2 → Q (some (.int z)) h1) (e : FX11_brick_b30 N s   = some r) : Rn d 149 (some .int) 30 [none, none, none, none, none] [] h Q := by
  have hT := hX11_brick
  unfold FX11_brick_b30 at e
  refine Rn.n hT 1 (pc' := 32) (L' := [none, none, none, none, none]) (st' := [.int (-2 : Int32)]) rfl ?_
  obtain rfl := Option.some.inj e
  exact Rn.ret hT rfl rfl rfl (hq (-2 : Int32) h L32_m2 hR)
def FX11_brick (N : Nat) (s : iv_M) (q0 : Nat) (x1 : Int) (x2 : Int) (x3 : Int) : Option (Int × iv_M) := ((FX2_isRoom N s ((s q0 4).toNat) x1).bind fun v_1882 => (if v_1882 = 0 then (FX11_brick_b30 N s) else (if x2 < 0 then (FX11_brick_b30 N s) else (if 4 ≤ x2 then (FX11_brick_b30 N s) else (if x3 < 0 then (FX11_brick_b30 N s) else (if x3 ≤ 6 then ((FX1_sortOf N s ((s q0 4).toNat + 1) x1 x2).bind fun v_1888 => (if v_1888 = x3 then (some ((-2), s)) else ((FX1_setSort N s ((s q0 4).toNat + 1) x1 x2 x3).bind fun s_1891 => ((FX11_dayCame N s_1891 q0).bind fun s_1893 => (some (v_1888, s_1893)))))) else (FX11_brick_b30 N s)))))))
set_option maxRecDepth 10000 in
set_option maxHeartbeats 4000000 in
theorem RX11_brick {d N nc Ls : Nat} {Xs : Nat → Int32} (hd : 3 ≤ d) {h : iv_H} {s : iv_M} (hR : Rep nc Ls Xs h s) {q0 : Nat} (t0 : T11 nc q0) {m1 : Int32} {x1 : Int} (p1 : m1.toInt = x1) {m2 : Int32} {x2 : Int} (p2 : m2.toInt = x2) {m3 : Int32} {x3 : Int} (p3 : m3.toInt = x3) {r : Int × iv_M} {Q : Option Value → iv_H → Prop} (e : FX11_brick N s q0 x1 x2 x3 = some r) (hq : ∀ (z : Int32) (h1 : iv_H), z.toInt = r.1 → Rep nc Ls Xs h1 r.2 → Q (some (.int z)) h1) : Cl d 149 [.ref q0, .int m1, .int m2, .int m3] h Q := by
  obtain ⟨d, rfl⟩ : ∃ k, d = k + 1 := ⟨d - 1, by omega⟩
  have hd : 2 ≤ d := by omega
  have hT := hX11_brick
  unfold FX11_brick at e
  refine Cl.into (by decide) gX11_brick rfl ?_
  show Rn d 149 (some .int) 0 [some (.ref q0), some (.int m1), some (.int m2), some (.int m3), none] [] h Q
  refine Rn.n hT 1 (pc' := 1) (L' := [some (.ref q0), some (.int m1), some (.int m2), some (.int m3), none]) (st' := [.ref q0]) rfl ?_
  refine Rn.hp hT rfl rfl (gR_hp (rp_gP (k := 4) hR (T11_o t0) rfl (nn_114 hR t0))) ?_
  refine Rn.n hT 1 (pc' := 5) (L' := [some (.ref q0), some (.int m1), some (.int m2), some (.int m3), none]) (st' := [.int m1, .ref ((s q0 4).toNat)]) rfl ?_
  obtain ⟨v_1882, e_1882, e⟩ := Option.bind_eq_some_iff.mp e
  refine Rn.call hT rfl rfl rfl (Nat.le_of_ble_eq_true rfl) (rcv_v gX2_isRoom (by omega) (rp_ck hR (T2_o (ty_114 hR t0)))) (RX2_isRoom (by omega) hR (ty_114 hR t0) p1 e_1882 (fun z_1882 p_1882 => ?_))
  show Rn d _ _ 8 [some (.ref q0), some (.int m1), some (.int m2), some (.int m3), none] [.int z_1882] h Q
  by_cases c_1883 : v_1882 = 0
  · rw [if_pos c_1883] at e
    refine Rn.bt hT rfl rfl rfl (decide_eq_true ((ti_e p_1882 L32_0).mpr c_1883)) ?_
    exact Rn.weak (ll_n (ll_n (ll_n (ll_n (ll_n ll_e))))) (RX11_brick_b30 hd hR hq e)
  · rw [if_neg c_1883] at e
    refine Rn.bf hT rfl rfl rfl (decide_eq_false (fun z => c_1883 ((ti_e p_1882 L32_0).mp z))) ?_
    refine Rn.n hT 1 (pc' := 12) (L' := [some (.ref q0), some (.int m1), some (.int m2), some (.int m3), none]) (st' := [.int m2]) rfl ?_
    by_cases c_1884 : x2 < 0
    · rw [if_pos c_1884] at e
      refine Rn.bt hT rfl rfl rfl (decide_eq_true ((ti_l p2 L32_0).mpr c_1884)) ?_
      exact Rn.weak (ll_n (ll_n (ll_n (ll_n (ll_n ll_e))))) (RX11_brick_b30 hd hR hq e)
    · rw [if_neg c_1884] at e
      refine Rn.bf hT rfl rfl rfl (decide_eq_false (fun z => c_1884 ((ti_l p2 L32_0).mp z))) ?_
      refine Rn.n hT 2 (pc' := 17) (L' := [some (.ref q0), some (.int m1), some (.int m2), some (.int m3), none]) (st' := [.int (4 : Int32), .int m2]) rfl ?_
      by_cases c_1885 : 4 ≤ x2
      · rw [if_pos c_1885] at e
        refine Rn.bt hT rfl rfl rfl (decide_eq_true ((ti_le L32_4 p2).mpr c_1885)) ?_
        exact Rn.weak (ll_n (ll_n (ll_n (ll_n (ll_n ll_e))))) (RX11_brick_b30 hd hR hq e)
      · rw [if_neg c_1885] at e
        refine Rn.bf hT rfl rfl rfl (decide_eq_false (fun z => c_1885 ((ti_le L32_4 p2).mp z))) ?_
        refine Rn.n hT 1 (pc' := 21) (L' := [some (.ref q0), some (.int m1), some (.int m2), some (.int m3), none]) (st' := [.int m3]) rfl ?_
        by_cases c_1886 : x3 < 0
        · rw [if_pos c_1886] at e
          refine Rn.bt hT rfl rfl rfl (decide_eq_true ((ti_l p3 L32_0).mpr c_1886)) ?_
          exact Rn.weak (ll_n (ll_n (ll_n (ll_n (ll_n ll_e))))) (RX11_brick_b30 hd hR hq e)
        · rw [if_neg c_1886] at e
          refine Rn.bf hT rfl rfl rfl (decide_eq_false (fun z => c_1886 ((ti_l p3 L32_0).mp z))) ?_
          refine Rn.n hT 2 (pc' := 27) (L' := [some (.ref q0), some (.int m1), some (.int m2), some (.int m3), none]) (st' := [.int (6 : Int32), .int m3]) rfl ?_
          by_cases c_1887 : x3 ≤ 6
          · rw [if_pos c_1887] at e
            refine Rn.bt hT rfl rfl rfl (decide_eq_true ((ti_le p3 L32_6).mpr c_1887)) ?_
            refine Rn.n hT 1 (pc' := 34) (L' := [some (.ref q0), some (.int m1), some (.int m2), some (.int m3), none]) (st' := [.ref q0]) rfl ?_
            refine Rn.hp hT rfl rfl (gR_hp (rp_gP (k := 4) hR (T11_o t0) rfl (nn_114 hR t0))) ?_
            refine Rn.hp hT rfl rfl (gR_hp (rp_gR hR (T2_o (ty_114 hR t0)) rfl)) ?_
            refine Rn.n hT 2 (pc' := 42) (L' := [some (.ref q0), some (.int m1), some (.int m2), some (.int m3), none]) (st' := [.int m2, .int m1, .ref ((s q0 4).toNat + 1)]) rfl ?_
            obtain ⟨v_1888, e_1888, e⟩ := Option.bind_eq_some_iff.mp e
            refine Rn.call hT rfl rfl rfl (Nat.le_of_ble_eq_true rfl) (rcv_v gX1_sortOf (by omega) (rp_ck hR (T1_o (T2_9 (ty_114 hR t0))))) (RX1_sortOf (by omega) hR (T2_9 (ty_114 hR t0)) p1 p2 e_1888 (fun z_1888 p_1888 => ?_))
            show Rn d _ _ 45 [some (.ref q0), some (.int m1), some (.int m2), some (.int m3), none] [.int z_1888] h Q
            refine Rn.n hT 3 (pc' := 50) (L' := [some (.ref q0), some (.int m1), some (.int m2), some (.int m3), some (.int z_1888)]) (st' := [.int m3, .int z_1888]) rfl ?_
            by_cases c_1889 : v_1888 = x3
            · rw [if_pos c_1889] at e
              refine Rn.bf hT rfl rfl rfl (decide_eq_false (fun z => z ((ti_e p_1888 p3).mpr c_1889))) ?_
              refine Rn.n hT 1 (pc' := 55) (L' := [some (.ref q0), some (.int m1), some (.int m2), some (.int m3), some (.int z_1888)]) (st' := [.int (-2 : Int32)]) rfl ?_
              obtain rfl := Option.some.inj e
              exact Rn.ret hT rfl rfl rfl (hq (-2 : Int32) h L32_m2 hR)
            · rw [if_neg c_1889] at e
              refine Rn.bt hT rfl rfl rfl (decide_eq_true (fun z => c_1889 ((ti_e p_1888 p3).mp z))) ?_
              refine Rn.n hT 1 (pc' := 57) (L' := [some (.ref q0), some (.int m1), some (.int m2), some (.int m3), some (.int z_1888)]) (st' := [.ref q0]) rfl ?_
              refine Rn.hp hT rfl rfl (gR_hp (rp_gP (k := 4) hR (T11_o t0) rfl (nn_114 hR t0))) ?_
              refine Rn.hp hT rfl rfl (gR_hp (rp_gR hR (T2_o (ty_114 hR t0)) rfl)) ?_
              refine Rn.n hT 3 (pc' := 66) (L' := [some (.ref q0), some (.int m1), some (.int m2), some (.int m3), some (.int z_1888)]) (st' := [.int m3, .int m2, .int m1, .ref ((s q0 4).toNat + 1)]) rfl ?_
              obtain ⟨s_1891, e_1890, e⟩ := Option.bind_eq_some_iff.mp e
              refine Rn.call hT rfl rfl rfl (Nat.le_of_ble_eq_true rfl) (rcv_v gX1_setSort (by omega) (rp_ck hR (T1_o (T2_9 (ty_114 hR t0))))) (RX1_setSort (by omega) hR (T2_9 (ty_114 hR t0)) p1 p2 p3 e_1890 (fun h_1891 R_1891 => ?_))
              show Rn d _ _ 69 [some (.ref q0), some (.int m1), some (.int m2), some (.int m3), some (.int z_1888)] [] h_1891 Q
              refine Rn.n hT 1 (pc' := 70) (L' := [some (.ref q0), some (.int m1), some (.int m2), some (.int m3), some (.int z_1888)]) (st' := [.ref q0]) rfl ?_
              obtain ⟨s_1893, e_1892, e⟩ := Option.bind_eq_some_iff.mp e
              refine Rn.call hT rfl rfl rfl (Nat.le_of_ble_eq_true rfl) (rcv_v gX11_dayCame (by omega) (rp_ck R_1891 (T11_o t0))) (RX11_dayCame (by omega) R_1891 t0 e_1892 (fun h_1893 R_1893 => ?_))
              show Rn d _ _ 73 [some (.ref q0), some (.int m1), some (.int m2), some (.int m3), some (.int z_1888)] [] h_1893 Q
              refine Rn.n hT 1 (pc' := 75) (L' := [some (.ref q0), some (.int m1), some (.int m2), some (.int m3), some (.int z_1888)]) (st' := [.int z_1888]) rfl ?_
              obtain rfl := Option.some.inj e
              exact Rn.ret hT rfl rfl rfl (hq z_1888 h_1893 p_1888 R_1893)
          · rw [if_neg c_1887] at e
            refine Rn.bf hT rfl rfl rfl (decide_eq_false (fun z => c_1887 ((ti_le p3 L32_6).mp z))) ?_
            exact Rn.weak (ll_n (ll_n (ll_n (ll_n (ll_n ll_e))))) (RX11_brick_b30 hd hR hq e)
set_option maxRecDepth 10000 in
theorem hX11_lay : iv_Tb 150 tX11_lay := iv_tb_of (m := mX11_lay) rfl
set_option maxRecDepth 10000 in
theorem gX11_lay : PG.2 150 = some mX11_lay := iv_pi_of (t := tX11_lay) rfl (by decide)
def FX11_lay_b36 (N : Nat) (s : iv_M)   : Option (Int × iv_M) := (some ((-2), s))
set_option maxRecDepth 10000 in
set_option maxHeartbeats 4000000 in
theorem RX11_lay_b36 {d N nc Ls : Nat} {Xs : Nat → Int32} (hd : 2 ≤ d) {h : iv_H} {s : iv_M} (hR : Rep nc Ls Xs h s)   {r : Int × iv_M} {Q : Option Value → iv_H → Prop} (hq : ∀ (z : Int32) (h1 : iv_H), z.toInt = r.1 → Rep nc Ls Xs h1 r.2 → Q (some (.int z)) h1) (e : FX11_lay_b36 N s   = some r) : Rn d 150 (some .int) 36 [none, none, none, none] [] h Q := by
  have hT := hX11_lay
  unfold FX11_lay_b36 at e
  refine Rn.n hT 1 (pc' := 38) (L' := [none, none, none, none]) (st' := [.int (-2 : Int32)]) rfl ?_
  obtain rfl := Option.some.inj e
  exact Rn.ret hT rfl rfl rfl (hq (-2 : Int32) h L32_m2 hR)
def FX11_lay_b39 (N : Nat) (s : iv_M) (q0 : Nat) (x1 : Int) (x2 : Int)  : Option (Int × iv_M) := ((rd s ((s q0 4).toNat + 8) 5 x1).bind fun v_1901 => (if v_1901 = x2 then (some ((-2), s)) else ((wr s ((s q0 4).toNat + 8) 5 x1 x2).bind fun s_1903 => ((FX11_dayCame N s_1903 q0).bind fun s_1906 => (some (v_1901, s_1906))))))
set_option maxRecDepth 10000 in
set_option maxHeartbeats 4000000 in
theorem RX11_lay_b39 {d N nc Ls : Nat} {Xs : Nat → Int32} (hd : 2 ≤ d) {h : iv_H} {s : iv_M} (hR : Rep nc Ls Xs h s) {q0 : Nat} (t0 : T11 nc q0) {m1 : Int32} {x1 : Int} (p1 : m1.toInt = x1) {m2 : Int32} {x2 : Int} (p2 : m2.toInt = x2)  {r : Int × iv_M} {Q : Option Value → iv_H → Prop} (hq : ∀ (z : Int32) (h1 : iv_H), z.toInt = r.1 → Rep nc Ls Xs h1 r.2 → Q (some (.int z)) h1) (e : FX11_lay_b39 N s q0 x1 x2  = some r) : Rn d 150 (some .int) 39 [some (.ref q0), some (.int m1), some (.int m2), none] [] h Q := by
  have hT := hX11_lay
  unfold FX11_lay_b39 at e
  refine Rn.n hT 1 (pc' := 40) (L' := [some (.ref q0), some (.int m1), some (.int m2), none]) (st' := [.ref q0]) rfl ?_
  refine Rn.hp hT rfl rfl (gR_hp (rp_gP (k := 4) hR (T11_o t0) rfl (nn_114 hR t0))) ?_
  refine Rn.hp hT rfl rfl (gR_hp (rp_gR hR (T2_o (ty_114 hR t0)) rfl)) ?_
  refine Rn.n hT 1 (pc' := 47) (L' := [some (.ref q0), some (.int m1), some (.int m2), none]) (st' := [.int m1, .ref ((s q0 4).toNat + 8)]) rfl ?_
  obtain ⟨v_1901, e_1901, e⟩ := Option.bind_eq_some_iff.mp e
  obtain ⟨z_1901, g_1901, p_1901⟩ := rp_aI hR (T2_10 (ty_114 hR t0)) (T2_10l (ty_114 hR t0)) p1 e_1901
  refine Rn.hp hT rfl rfl (aI_hp g_1901) ?_
  refine Rn.n hT 3 (pc' := 51) (L' := [some (.ref q0), some (.int m1), some (.int m2), some (.int z_1901)]) (st' := [.int m2, .int z_1901]) rfl ?_
  by_cases c_1902 : v_1901 = x2
  · rw [if_pos c_1902] at e
    refine Rn.bf hT rfl rfl rfl (decide_eq_false (fun z => z ((ti_e p_1901 p2).mpr c_1902))) ?_
    refine Rn.n hT 1 (pc' := 56) (L' := [some (.ref q0), some (.int m1), some (.int m2), some (.int z_1901)]) (st' := [.int (-2 : Int32)]) rfl ?_
    obtain rfl := Option.some.inj e
    exact Rn.ret hT rfl rfl rfl (hq (-2 : Int32) h L32_m2 hR)
  · rw [if_neg c_1902] at e
    refine Rn.bt hT rfl rfl rfl (decide_eq_true (fun z => c_1902 ((ti_e p_1901 p2).mp z))) ?_
    refine Rn.n hT 1 (pc' := 58) (L' := [some (.ref q0), some (.int m1), some (.int m2), some (.int z_1901)]) (st' := [.ref q0]) rfl ?_
    refine Rn.hp hT rfl rfl (gR_hp (rp_gP (k := 4) hR (T11_o t0) rfl (nn_114 hR t0))) ?_
    refine Rn.hp hT rfl rfl (gR_hp (rp_gR hR (T2_o (ty_114 hR t0)) rfl)) ?_
    refine Rn.n hT 2 (pc' := 66) (L' := [some (.ref q0), some (.int m1), some (.int m2), some (.int z_1901)]) (st' := [.int m2, .int m1, .ref ((s q0 4).toNat + 8)]) rfl ?_
    obtain ⟨s_1903, e_1904, e⟩ := Option.bind_eq_some_iff.mp e
    obtain ⟨h_1903, g_1904, R_1903⟩ := rp_wI hR (T2_10 (ty_114 hR t0)) (T2_10l (ty_114 hR t0)) p1 p2 e_1904
    refine Rn.hp hT rfl rfl (wI_hp g_1904) ?_
    refine Rn.n hT 1 (pc' := 68) (L' := [some (.ref q0), some (.int m1), some (.int m2), some (.int z_1901)]) (st' := [.ref q0]) rfl ?_
    obtain ⟨s_1906, e_1905, e⟩ := Option.bind_eq_some_iff.mp e
    refine Rn.call hT rfl rfl rfl (Nat.le_of_ble_eq_true rfl) (rcv_v gX11_dayCame (by omega) (rp_ck R_1903 (T11_o t0))) (RX11_dayCame (by omega) R_1903 t0 e_1905 (fun h_1906 R_1906 => ?_))
    show Rn d _ _ 71 [some (.ref q0), some (.int m1), some (.int m2), some (.int z_1901)] [] h_1906 Q
    refine Rn.n hT 1 (pc' := 72) (L' := [some (.ref q0), some (.int m1), some (.int m2), some (.int z_1901)]) (st' := [.int z_1901]) rfl ?_
    obtain rfl := Option.some.inj e
    exact Rn.ret hT rfl rfl rfl (hq z_1901 h_1906 p_1901 R_1906)
def FX11_lay (N : Nat) (s : iv_M) (q0 : Nat) (x1 : Int) (x2 : Int) : Option (Int × iv_M) := (if (s ((s q0 4).toNat) 0) = 0 then (FX11_lay_b36 N s) else (if x1 < 1 then (FX11_lay_b36 N s) else (if 4 < x1 then (FX11_lay_b36 N s) else (if x2 = (-1) then (FX11_lay_b39 N s q0 x1 x2) else ((FX2_isRoom N s ((s q0 4).toNat) x2).bind fun v_1899 => (if v_1899 = 0 then (FX11_lay_b36 N s) else (FX11_lay_b39 N s q0 x1 x2)))))))
set_option maxRecDepth 10000 in
set_option maxHeartbeats 4000000 in
theorem RX11_lay {d N nc Ls : Nat} {Xs : Nat → Int32} (hd : 3 ≤ d) {h : iv_H} {s : iv_M} (hR : Rep nc Ls Xs h s) {q0 : Nat} (t0 : T11 nc q0) {m1 : Int32} {x1 : Int} (p1 : m1.toInt = x1) {m2 : Int32} {x2 : Int} (p2 : m2.toInt = x2) {r : Int × iv_M} {Q : Option Value → iv_H → Prop} (e : FX11_lay N s q0 x1 x2 = some r) (hq : ∀ (z : Int32) (h1 : iv_H), z.toInt = r.1 → Rep nc Ls Xs h1 r.2 → Q (some (.int z)) h1) : Cl d 150 [.ref q0, .int m1, .int m2] h Q := by
  obtain ⟨d, rfl⟩ : ∃ k, d = k + 1 := ⟨d - 1, by omega⟩
  have hd : 2 ≤ d := by omega
  have hT := hX11_lay
  unfold FX11_lay at e
  refine Cl.into (by decide) gX11_lay rfl ?_
  show Rn d 150 (some .int) 0 [some (.ref q0), some (.int m1), some (.int m2), none] [] h Q
  refine Rn.n hT 1 (pc' := 1) (L' := [some (.ref q0), some (.int m1), some (.int m2), none]) (st' := [.ref q0]) rfl ?_
  refine Rn.hp hT rfl rfl (gR_hp (rp_gP (k := 4) hR (T11_o t0) rfl (nn_114 hR t0))) ?_
  obtain ⟨z_1894, g_1894, p_1894⟩ : ∃ z : Int32, gI h 2 0 ((s q0 4).toNat) = some z ∧ z.toInt = s ((s q0 4).toNat) 0 := rp_gI (k := 0) hR (T2_o (ty_114 hR t0)) rfl
  refine Rn.hp hT rfl rfl (gI_hp g_1894) ?_
  by_cases c_1895 : (s ((s q0 4).toNat) 0) = 0
  · rw [if_pos c_1895] at e
    refine Rn.bt hT rfl rfl rfl (decide_eq_true ((ti_e p_1894 L32_0).mpr c_1895)) ?_
    exact Rn.weak (ll_n (ll_n (ll_n (ll_n ll_e)))) (RX11_lay_b36 hd hR hq e)
  · rw [if_neg c_1895] at e
    refine Rn.bf hT rfl rfl rfl (decide_eq_false (fun z => c_1895 ((ti_e p_1894 L32_0).mp z))) ?_
    refine Rn.n hT 2 (pc' := 12) (L' := [some (.ref q0), some (.int m1), some (.int m2), none]) (st' := [.int (1 : Int32), .int m1]) rfl ?_
    by_cases c_1896 : x1 < 1
    · rw [if_pos c_1896] at e
      refine Rn.bt hT rfl rfl rfl (decide_eq_true ((ti_l p1 L32_1).mpr c_1896)) ?_
      exact Rn.weak (ll_n (ll_n (ll_n (ll_n ll_e)))) (RX11_lay_b36 hd hR hq e)
    · rw [if_neg c_1896] at e
      refine Rn.bf hT rfl rfl rfl (decide_eq_false (fun z => c_1896 ((ti_l p1 L32_1).mp z))) ?_
      refine Rn.n hT 2 (pc' := 17) (L' := [some (.ref q0), some (.int m1), some (.int m2), none]) (st' := [.int (4 : Int32), .int m1]) rfl ?_
      by_cases c_1897 : 4 < x1
      · rw [if_pos c_1897] at e
        refine Rn.bt hT rfl rfl rfl (decide_eq_true ((ti_l L32_4 p1).mpr c_1897)) ?_
        exact Rn.weak (ll_n (ll_n (ll_n (ll_n ll_e)))) (RX11_lay_b36 hd hR hq e)
      · rw [if_neg c_1897] at e
        refine Rn.bf hT rfl rfl rfl (decide_eq_false (fun z => c_1897 ((ti_l L32_4 p1).mp z))) ?_
        refine Rn.n hT 2 (pc' := 22) (L' := [some (.ref q0), some (.int m1), some (.int m2), none]) (st' := [.int (-1 : Int32), .int m2]) rfl ?_
        by_cases c_1898 : x2 = (-1)
        · rw [if_pos c_1898] at e
          refine Rn.bt hT rfl rfl rfl (decide_eq_true ((ti_e p2 L32_m1).mpr c_1898)) ?_
          exact Rn.weak (ll_s (ll_s (ll_s (ll_n ll_e)))) (RX11_lay_b39 hd hR t0 p1 p2 hq e)
        · rw [if_neg c_1898] at e
          refine Rn.bf hT rfl rfl rfl (decide_eq_false (fun z => c_1898 ((ti_e p2 L32_m1).mp z))) ?_
          refine Rn.n hT 1 (pc' := 26) (L' := [some (.ref q0), some (.int m1), some (.int m2), none]) (st' := [.ref q0]) rfl ?_
          refine Rn.hp hT rfl rfl (gR_hp (rp_gP (k := 4) hR (T11_o t0) rfl (nn_114 hR t0))) ?_
          refine Rn.n hT 1 (pc' := 30) (L' := [some (.ref q0), some (.int m1), some (.int m2), none]) (st' := [.int m2, .ref ((s q0 4).toNat)]) rfl ?_
          obtain ⟨v_1899, e_1899, e⟩ := Option.bind_eq_some_iff.mp e
          refine Rn.call hT rfl rfl rfl (Nat.le_of_ble_eq_true rfl) (rcv_v gX2_isRoom (by omega) (rp_ck hR (T2_o (ty_114 hR t0)))) (RX2_isRoom (by omega) hR (ty_114 hR t0) p2 e_1899 (fun z_1899 p_1899 => ?_))
          show Rn d _ _ 33 [some (.ref q0), some (.int m1), some (.int m2), none] [.int z_1899] h Q
          by_cases c_1900 : v_1899 = 0
          · rw [if_pos c_1900] at e
            refine Rn.bf hT rfl rfl rfl (decide_eq_false (fun z => z ((ti_e p_1899 L32_0).mpr c_1900))) ?_
            exact Rn.weak (ll_n (ll_n (ll_n (ll_n ll_e)))) (RX11_lay_b36 hd hR hq e)
          · rw [if_neg c_1900] at e
            refine Rn.bt hT rfl rfl rfl (decide_eq_true (fun z => c_1900 ((ti_e p_1899 L32_0).mp z))) ?_
            exact Rn.weak (ll_s (ll_s (ll_s (ll_n ll_e)))) (RX11_lay_b39 hd hR t0 p1 p2 hq e)
set_option maxRecDepth 10000 in
theorem hX11_bed : iv_Tb 151 tX11_bed := iv_tb_of (m := mX11_bed) rfl
set_option maxRecDepth 10000 in
theorem gX11_bed : PG.2 151 = some mX11_bed := iv_pi_of (t := tX11_bed) rfl (by decide)
def FX11_bed_b35 (N : Nat) (s : iv_M)   : Option (Int × iv_M) := (some ((-2), s))
set_option maxRecDepth 10000 in
set_option maxHeartbeats 4000000 in
theorem RX11_bed_b35 {d N nc Ls : Nat} {Xs : Nat → Int32} (hd : 2 ≤ d) {h : iv_H} {s : iv_M} (hR : Rep nc Ls Xs h s)   {r : Int × iv_M} {Q : Option Value → iv_H → Prop} (hq : ∀ (z : Int32) (h1 : iv_H), z.toInt = r.1 → Rep nc Ls Xs h1 r.2 → Q (some (.int z)) h1) (e : FX11_bed_b35 N s   = some r) : Rn d 151 (some .int) 35 [none, none, none, none] [] h Q := by
  have hT := hX11_bed
  unfold FX11_bed_b35 at e
  refine Rn.n hT 1 (pc' := 37) (L' := [none, none, none, none]) (st' := [.int (-2 : Int32)]) rfl ?_
  obtain rfl := Option.some.inj e
  exact Rn.ret hT rfl rfl rfl (hq (-2 : Int32) h L32_m2 hR)
def FX11_bed (N : Nat) (s : iv_M) (q0 : Nat) (x1 : Int) (x2 : Int) : Option (Int × iv_M) := ((FX2_isPerson N s ((s q0 4).toNat) x1).bind fun v_1907 => (if v_1907 = 0 then (FX11_bed_b35 N s) else ((FX2_isRoom N s ((s q0 4).toNat) x2).bind fun v_1909 => (if v_1909 = 0 then (FX11_bed_b35 N s) else ((rd s ((s q0 4).toNat + 9) 6 x1).bind fun v_1911 => (if v_1911 = x2 then (FX11_bed_b35 N s) else ((rd s ((s q0 4).toNat + 9) 6 x1).bind fun v_1913 => ((wr s ((s q0 4).toNat + 9) 6 x1 x2).bind fun s_1914 => ((FX11_dayCame N s_1914 q0).bind fun s_1917 => (some (v_1913, s_1917)))))))))))
set_option maxRecDepth 10000 in
set_option maxHeartbeats 4000000 in
theorem RX11_bed {d N nc Ls : Nat} {Xs : Nat → Int32} (hd : 3 ≤ d) {h : iv_H} {s : iv_M} (hR : Rep nc Ls Xs h s) {q0 : Nat} (t0 : T11 nc q0) {m1 : Int32} {x1 : Int} (p1 : m1.toInt = x1) {m2 : Int32} {x2 : Int} (p2 : m2.toInt = x2) {r : Int × iv_M} {Q : Option Value → iv_H → Prop} (e : FX11_bed N s q0 x1 x2 = some r) (hq : ∀ (z : Int32) (h1 : iv_H), z.toInt = r.1 → Rep nc Ls Xs h1 r.2 → Q (some (.int z)) h1) : Cl d 151 [.ref q0, .int m1, .int m2] h Q := by
  obtain ⟨d, rfl⟩ : ∃ k, d = k + 1 := ⟨d - 1, by omega⟩
  have hd : 2 ≤ d := by omega
  have hT := hX11_bed
  unfold FX11_bed at e
  refine Cl.into (by decide) gX11_bed rfl ?_
  show Rn d 151 (some .int) 0 [some (.ref q0), some (.int m1), some (.int m2), none] [] h Q
  refine Rn.n hT 1 (pc' := 1) (L' := [some (.ref q0), some (.int m1), some (.int m2), none]) (st' := [.ref q0]) rfl ?_
  refine Rn.hp hT rfl rfl (gR_hp (rp_gP (k := 4) hR (T11_o t0) rfl (nn_114 hR t0))) ?_
  refine Rn.n hT 1 (pc' := 5) (L' := [some (.ref q0), some (.int m1), some (.int m2), none]) (st' := [.int m1, .ref ((s q0 4).toNat)]) rfl ?_
  obtain ⟨v_1907, e_1907, e⟩ := Option.bind_eq_some_iff.mp e
  refine Rn.call hT rfl rfl rfl (Nat.le_of_ble_eq_true rfl) (rcv_v gX2_isPerson (by omega) (rp_ck hR (T2_o (ty_114 hR t0)))) (RX2_isPerson (by omega) hR (ty_114 hR t0) p1 e_1907 (fun z_1907 p_1907 => ?_))
  show Rn d _ _ 8 [some (.ref q0), some (.int m1), some (.int m2), none] [.int z_1907] h Q
  by_cases c_1908 : v_1907 = 0
  · rw [if_pos c_1908] at e
    refine Rn.bt hT rfl rfl rfl (decide_eq_true ((ti_e p_1907 L32_0).mpr c_1908)) ?_
    exact Rn.weak (ll_n (ll_n (ll_n (ll_n ll_e)))) (RX11_bed_b35 hd hR hq e)
  · rw [if_neg c_1908] at e
    refine Rn.bf hT rfl rfl rfl (decide_eq_false (fun z => c_1908 ((ti_e p_1907 L32_0).mp z))) ?_
    refine Rn.n hT 1 (pc' := 12) (L' := [some (.ref q0), some (.int m1), some (.int m2), none]) (st' := [.ref q0]) rfl ?_
    refine Rn.hp hT rfl rfl (gR_hp (rp_gP (k := 4) hR (T11_o t0) rfl (nn_114 hR t0))) ?_
    refine Rn.n hT 1 (pc' := 16) (L' := [some (.ref q0), some (.int m1), some (.int m2), none]) (st' := [.int m2, .ref ((s q0 4).toNat)]) rfl ?_
    obtain ⟨v_1909, e_1909, e⟩ := Option.bind_eq_some_iff.mp e
    refine Rn.call hT rfl rfl rfl (Nat.le_of_ble_eq_true rfl) (rcv_v gX2_isRoom (by omega) (rp_ck hR (T2_o (ty_114 hR t0)))) (RX2_isRoom (by omega) hR (ty_114 hR t0) p2 e_1909 (fun z_1909 p_1909 => ?_))
    show Rn d _ _ 19 [some (.ref q0), some (.int m1), some (.int m2), none] [.int z_1909] h Q
    by_cases c_1910 : v_1909 = 0
    · rw [if_pos c_1910] at e
      refine Rn.bt hT rfl rfl rfl (decide_eq_true ((ti_e p_1909 L32_0).mpr c_1910)) ?_
      exact Rn.weak (ll_n (ll_n (ll_n (ll_n ll_e)))) (RX11_bed_b35 hd hR hq e)
    · rw [if_neg c_1910] at e
      refine Rn.bf hT rfl rfl rfl (decide_eq_false (fun z => c_1910 ((ti_e p_1909 L32_0).mp z))) ?_
      refine Rn.n hT 1 (pc' := 23) (L' := [some (.ref q0), some (.int m1), some (.int m2), none]) (st' := [.ref q0]) rfl ?_
      refine Rn.hp hT rfl rfl (gR_hp (rp_gP (k := 4) hR (T11_o t0) rfl (nn_114 hR t0))) ?_
      refine Rn.hp hT rfl rfl (gR_hp (rp_gR hR (T2_o (ty_114 hR t0)) rfl)) ?_
      refine Rn.n hT 1 (pc' := 30) (L' := [some (.ref q0), some (.int m1), some (.int m2), none]) (st' := [.int m1, .ref ((s q0 4).toNat + 9)]) rfl ?_
      obtain ⟨v_1911, e_1911, e⟩ := Option.bind_eq_some_iff.mp e
      obtain ⟨z_1911, g_1911, p_1911⟩ := rp_aI hR (T2_11 (ty_114 hR t0)) (T2_11l (ty_114 hR t0)) p1 e_1911
      refine Rn.hp hT rfl rfl (aI_hp g_1911) ?_
      refine Rn.n hT 1 (pc' := 32) (L' := [some (.ref q0), some (.int m1), some (.int m2), none]) (st' := [.int m2, .int z_1911]) rfl ?_
      by_cases c_1912 : v_1911 = x2
      · rw [if_pos c_1912] at e
        refine Rn.bf hT rfl rfl rfl (decide_eq_false (fun z => z ((ti_e p_1911 p2).mpr c_1912))) ?_
        exact Rn.weak (ll_n (ll_n (ll_n (ll_n ll_e)))) (RX11_bed_b35 hd hR hq e)
      · rw [if_neg c_1912] at e
        refine Rn.bt hT rfl rfl rfl (decide_eq_true (fun z => c_1912 ((ti_e p_1911 p2).mp z))) ?_
        refine Rn.n hT 1 (pc' := 39) (L' := [some (.ref q0), some (.int m1), some (.int m2), none]) (st' := [.ref q0]) rfl ?_
        refine Rn.hp hT rfl rfl (gR_hp (rp_gP (k := 4) hR (T11_o t0) rfl (nn_114 hR t0))) ?_
        refine Rn.hp hT rfl rfl (gR_hp (rp_gR hR (T2_o (ty_114 hR t0)) rfl)) ?_
        refine Rn.n hT 1 (pc' := 46) (L' := [some (.ref q0), some (.int m1), some (.int m2), none]) (st' := [.int m1, .ref ((s q0 4).toNat + 9)]) rfl ?_
        obtain ⟨v_1913, e_1913, e⟩ := Option.bind_eq_some_iff.mp e
        obtain ⟨z_1913, g_1913, p_1913⟩ := rp_aI hR (T2_11 (ty_114 hR t0)) (T2_11l (ty_114 hR t0)) p1 e_1913
        refine Rn.hp hT rfl rfl (aI_hp g_1913) ?_
        refine Rn.n hT 2 (pc' := 49) (L' := [some (.ref q0), some (.int m1), some (.int m2), some (.int z_1913)]) (st' := [.ref q0]) rfl ?_
        refine Rn.hp hT rfl rfl (gR_hp (rp_gP (k := 4) hR (T11_o t0) rfl (nn_114 hR t0))) ?_
        refine Rn.hp hT rfl rfl (gR_hp (rp_gR hR (T2_o (ty_114 hR t0)) rfl)) ?_
        refine Rn.n hT 2 (pc' := 57) (L' := [some (.ref q0), some (.int m1), some (.int m2), some (.int z_1913)]) (st' := [.int m2, .int m1, .ref ((s q0 4).toNat + 9)]) rfl ?_
        obtain ⟨s_1914, e_1915, e⟩ := Option.bind_eq_some_iff.mp e
        obtain ⟨h_1914, g_1915, R_1914⟩ := rp_wI hR (T2_11 (ty_114 hR t0)) (T2_11l (ty_114 hR t0)) p1 p2 e_1915
        refine Rn.hp hT rfl rfl (wI_hp g_1915) ?_
        refine Rn.n hT 1 (pc' := 59) (L' := [some (.ref q0), some (.int m1), some (.int m2), some (.int z_1913)]) (st' := [.ref q0]) rfl ?_
        obtain ⟨s_1917, e_1916, e⟩ := Option.bind_eq_some_iff.mp e
        refine Rn.call hT rfl rfl rfl (Nat.le_of_ble_eq_true rfl) (rcv_v gX11_dayCame (by omega) (rp_ck R_1914 (T11_o t0))) (RX11_dayCame (by omega) R_1914 t0 e_1916 (fun h_1917 R_1917 => ?_))
        show Rn d _ _ 62 [some (.ref q0), some (.int m1), some (.int m2), some (.int z_1913)] [] h_1917 Q
        refine Rn.n hT 1 (pc' := 63) (L' := [some (.ref q0), some (.int m1), some (.int m2), some (.int z_1913)]) (st' := [.int z_1913]) rfl ?_
        obtain rfl := Option.some.inj e
        exact Rn.ret hT rfl rfl rfl (hq z_1913 h_1917 p_1913 R_1917)
set_option maxRecDepth 10000 in
theorem hX11_fix : iv_Tb 152 tX11_fix := iv_tb_of (m := mX11_fix) rfl
set_option maxRecDepth 10000 in
theorem gX11_fix : PG.2 152 = some mX11_fix := iv_pi_of (t := tX11_fix) rfl (by decide)
def FX11_fix_b23 (N : Nat) (s : iv_M)   : Option (Int × iv_M) := (some (0, s))
set_option maxRecDepth 10000 in
set_option maxHeartbeats 4000000 in
theorem RX11_fix_b23 {d N nc Ls : Nat} {Xs : Nat → Int32} (hd : 2 ≤ d) {h : iv_H} {s : iv_M} (hR : Rep nc Ls Xs h s)   {r : Int × iv_M} {Q : Option Value → iv_H → Prop} (hq : ∀ (z : Int32) (h1 : iv_H), z.toInt = r.1 → Rep nc Ls Xs h1 r.2 → Q (some (.int z)) h1) (e : FX11_fix_b23 N s   = some r) : Rn d 152 (some .boolean) 23 [none, none, none] [] h Q := by
  have hT := hX11_fix
  unfold FX11_fix_b23 at e
  refine Rn.n hT 1 (pc' := 24) (L' := [none, none, none]) (st' := [.int (0 : Int32)]) rfl ?_
  obtain rfl := Option.some.inj e
  exact Rn.ret hT rfl rfl rfl (hq (0 : Int32) h L32_0 hR)
def FX11_fix (N : Nat) (s : iv_M) (q0 : Nat) (x1 : Int) (x2 : Int) : Option (Int × iv_M) := ((FX2_isRoom N s ((s q0 4).toNat) x1).bind fun v_1918 => (if v_1918 = 0 then (FX11_fix_b23 N s) else ((FX2_isFixed N s ((s q0 4).toNat) x1).bind fun v_1920 => (if v_1920 = x2 then (FX11_fix_b23 N s) else ((pt s ((s q0 4).toNat) 3 (bXo (s ((s q0 4).toNat) 3) (sl32 1 x1))).bind fun s_1923 => ((FX11_dayCame N s_1923 q0).bind fun s_1926 => (some (1, s_1926))))))))
set_option maxRecDepth 10000 in
set_option maxHeartbeats 4000000 in
theorem RX11_fix {d N nc Ls : Nat} {Xs : Nat → Int32} (hd : 3 ≤ d) {h : iv_H} {s : iv_M} (hR : Rep nc Ls Xs h s) {q0 : Nat} (t0 : T11 nc q0) {m1 : Int32} {x1 : Int} (p1 : m1.toInt = x1) {m2 : Int32} {x2 : Int} (p2 : m2.toInt = x2) {r : Int × iv_M} {Q : Option Value → iv_H → Prop} (e : FX11_fix N s q0 x1 x2 = some r) (hq : ∀ (z : Int32) (h1 : iv_H), z.toInt = r.1 → Rep nc Ls Xs h1 r.2 → Q (some (.int z)) h1) : Cl d 152 [.ref q0, .int m1, .int m2] h Q := by
  obtain ⟨d, rfl⟩ : ∃ k, d = k + 1 := ⟨d - 1, by omega⟩
  have hd : 2 ≤ d := by omega
  have hT := hX11_fix
  unfold FX11_fix at e
  refine Cl.into (by decide) gX11_fix rfl ?_
  show Rn d 152 (some .boolean) 0 [some (.ref q0), some (.int m1), some (.int m2)] [] h Q
  refine Rn.n hT 1 (pc' := 1) (L' := [some (.ref q0), some (.int m1), some (.int m2)]) (st' := [.ref q0]) rfl ?_
  refine Rn.hp hT rfl rfl (gR_hp (rp_gP (k := 4) hR (T11_o t0) rfl (nn_114 hR t0))) ?_
  refine Rn.n hT 1 (pc' := 5) (L' := [some (.ref q0), some (.int m1), some (.int m2)]) (st' := [.int m1, .ref ((s q0 4).toNat)]) rfl ?_
  obtain ⟨v_1918, e_1918, e⟩ := Option.bind_eq_some_iff.mp e
  refine Rn.call hT rfl rfl rfl (Nat.le_of_ble_eq_true rfl) (rcv_v gX2_isRoom (by omega) (rp_ck hR (T2_o (ty_114 hR t0)))) (RX2_isRoom (by omega) hR (ty_114 hR t0) p1 e_1918 (fun z_1918 p_1918 => ?_))
  show Rn d _ _ 8 [some (.ref q0), some (.int m1), some (.int m2)] [.int z_1918] h Q
  by_cases c_1919 : v_1918 = 0
  · rw [if_pos c_1919] at e
    refine Rn.bt hT rfl rfl rfl (decide_eq_true ((ti_e p_1918 L32_0).mpr c_1919)) ?_
    exact Rn.weak (ll_n (ll_n (ll_n ll_e))) (RX11_fix_b23 hd hR hq e)
  · rw [if_neg c_1919] at e
    refine Rn.bf hT rfl rfl rfl (decide_eq_false (fun z => c_1919 ((ti_e p_1918 L32_0).mp z))) ?_
    refine Rn.n hT 1 (pc' := 12) (L' := [some (.ref q0), some (.int m1), some (.int m2)]) (st' := [.ref q0]) rfl ?_
    refine Rn.hp hT rfl rfl (gR_hp (rp_gP (k := 4) hR (T11_o t0) rfl (nn_114 hR t0))) ?_
    refine Rn.n hT 1 (pc' := 16) (L' := [some (.ref q0), some (.int m1), some (.int m2)]) (st' := [.int m1, .ref ((s q0 4).toNat)]) rfl ?_
    obtain ⟨v_1920, e_1920, e⟩ := Option.bind_eq_some_iff.mp e
    refine Rn.call hT rfl rfl rfl (Nat.le_of_ble_eq_true rfl) (rcv_v gX2_isFixed (by omega) (rp_ck hR (T2_o (ty_114 hR t0)))) (RX2_isFixed (by omega) hR (ty_114 hR t0) p1 e_1920 (fun z_1920 p_1920 => ?_))
    show Rn d _ _ 19 [some (.ref q0), some (.int m1), some (.int m2)] [.int z_1920] h Q
    refine Rn.n hT 1 (pc' := 20) (L' := [some (.ref q0), some (.int m1), some (.int m2)]) (st' := [.int m2, .int z_1920]) rfl ?_
    by_cases c_1921 : v_1920 = x2
    · rw [if_pos c_1921] at e
      refine Rn.bf hT rfl rfl rfl (decide_eq_false (fun z => z ((ti_e p_1920 p2).mpr c_1921))) ?_
      exact Rn.weak (ll_n (ll_n (ll_n ll_e))) (RX11_fix_b23 hd hR hq e)
    · rw [if_neg c_1921] at e
      refine Rn.bt hT rfl rfl rfl (decide_eq_true (fun z => c_1921 ((ti_e p_1920 p2).mp z))) ?_
      refine Rn.n hT 1 (pc' := 26) (L' := [some (.ref q0), some (.int m1), some (.int m2)]) (st' := [.ref q0]) rfl ?_
      refine Rn.hp hT rfl rfl (gR_hp (rp_gP (k := 4) hR (T11_o t0) rfl (nn_114 hR t0))) ?_
      refine Rn.n hT 1 (pc' := 30) (L' := [some (.ref q0), some (.int m1), some (.int m2)]) (st' := [.ref ((s q0 4).toNat), .ref ((s q0 4).toNat)]) rfl ?_
      obtain ⟨z_1922, g_1922, p_1922⟩ : ∃ z : Int32, gI h 2 3 ((s q0 4).toNat) = some z ∧ z.toInt = s ((s q0 4).toNat) 3 := rp_gI (k := 3) hR (T2_o (ty_114 hR t0)) rfl
      refine Rn.hp hT rfl rfl (gI_hp g_1922) ?_
      refine Rn.n hT 4 (pc' := 37) (L' := [some (.ref q0), some (.int m1), some (.int m2)]) (st' := [.int (z_1922 ^^^ ((1 : Int32) <<< (m1 &&& 31))), .ref ((s q0 4).toNat)]) rfl ?_
      obtain ⟨s_1923, e_1924, e⟩ := Option.bind_eq_some_iff.mp e
      obtain ⟨h_1923, g_1924, R_1923⟩ := rp_pI (ci := 2) (k := 3) hR (T2_o (ty_114 hR t0)) rfl rfl (ti_xor p_1922 (ti_shl L32_1 p1)) e_1924
      refine Rn.hp hT rfl rfl (pV_hp rfl g_1924) ?_
      refine Rn.n hT 1 (pc' := 41) (L' := [some (.ref q0), some (.int m1), some (.int m2)]) (st' := [.ref q0]) rfl ?_
      obtain ⟨s_1926, e_1925, e⟩ := Option.bind_eq_some_iff.mp e
      refine Rn.call hT rfl rfl rfl (Nat.le_of_ble_eq_true rfl) (rcv_v gX11_dayCame (by omega) (rp_ck R_1923 (T11_o t0))) (RX11_dayCame (by omega) R_1923 t0 e_1925 (fun h_1926 R_1926 => ?_))
      show Rn d _ _ 44 [some (.ref q0), some (.int m1), some (.int m2)] [] h_1926 Q
      refine Rn.n hT 1 (pc' := 45) (L' := [some (.ref q0), some (.int m1), some (.int m2)]) (st' := [.int (1 : Int32)]) rfl ?_
      obtain rfl := Option.some.inj e
      exact Rn.ret hT rfl rfl rfl (hq (1 : Int32) h_1926 L32_1 R_1926)
set_option maxRecDepth 10000 in
theorem hX11_nightComes : iv_Tb 155 tX11_nightComes := iv_tb_of (m := mX11_nightComes) rfl
set_option maxRecDepth 10000 in
theorem gX11_nightComes : PG.2 155 = some mX11_nightComes := iv_pi_of (t := tX11_nightComes) rfl (by decide)
def FX11_nightComes_b23 (N : Nat) (s : iv_M) (q0 : Nat)  : Option (iv_M) := ((pt s ((s q0 4).toNat) 6 (w32 ((s ((s q0 4).toNat) 6) + 1))).bind fun s_1933 => ((pt s_1933 q0 15 (w32 ((s_1933 q0 15) + 1))).bind fun s_1936 => some s_1936))
set_option maxRecDepth 10000 in
set_option maxHeartbeats 4000000 in
theorem RX11_nightComes_b23 {d N nc Ls : Nat} {Xs : Nat → Int32} (hd : 3 ≤ d) {h : iv_H} {s : iv_M} (hR : Rep nc Ls Xs h s) {q0 : Nat} (t0 : T11 nc q0)  {r : iv_M} {Q : Option Value → iv_H → Prop} (hq : ∀ h1, Rep nc Ls Xs h1 r → Q none h1) (e : FX11_nightComes_b23 N s q0  = some r) : Rn d 155 none 23 [some (.ref q0), none] [] h Q := by
  have hT := hX11_nightComes
  unfold FX11_nightComes_b23 at e
  refine Rn.n hT 1 (pc' := 24) (L' := [some (.ref q0), none]) (st' := [.ref q0]) rfl ?_
  refine Rn.hp hT rfl rfl (gR_hp (rp_gP (k := 4) hR (T11_o t0) rfl (nn_114 hR t0))) ?_
  refine Rn.n hT 1 (pc' := 28) (L' := [some (.ref q0), none]) (st' := [.ref ((s q0 4).toNat), .ref ((s q0 4).toNat)]) rfl ?_
  obtain ⟨z_1932, g_1932, p_1932⟩ : ∃ z : Int32, gI h 2 6 ((s q0 4).toNat) = some z ∧ z.toInt = s ((s q0 4).toNat) 6 := rp_gI (k := 6) hR (T2_o (ty_114 hR t0)) rfl
  refine Rn.hp hT rfl rfl (gI_hp g_1932) ?_
  refine Rn.n hT 2 (pc' := 33) (L' := [some (.ref q0), none]) (st' := [.int (z_1932 + (1 : Int32)), .ref ((s q0 4).toNat)]) rfl ?_
  obtain ⟨s_1933, e_1934, e⟩ := Option.bind_eq_some_iff.mp e
  obtain ⟨h_1933, g_1934, R_1933⟩ := rp_pI (ci := 2) (k := 6) hR (T2_o (ty_114 hR t0)) rfl rfl (ti_add p_1932 L32_1) e_1934
  refine Rn.hp hT rfl rfl (pV_hp rfl g_1934) ?_
  refine Rn.n hT 2 (pc' := 38) (L' := [some (.ref q0), none]) (st' := [.ref q0, .ref q0]) rfl ?_
  obtain ⟨z_1935, g_1935, p_1935⟩ : ∃ z : Int32, gI h_1933 11 15 q0 = some z ∧ z.toInt = s_1933 q0 15 := rp_gI (k := 15) R_1933 (T11_o t0) rfl
  refine Rn.hp hT rfl rfl (gI_hp g_1935) ?_
  refine Rn.n hT 2 (pc' := 43) (L' := [some (.ref q0), none]) (st' := [.int (z_1935 + (1 : Int32)), .ref q0]) rfl ?_
  obtain ⟨s_1936, e_1937, e⟩ := Option.bind_eq_some_iff.mp e
  obtain ⟨h_1936, g_1937, R_1936⟩ := rp_pI (ci := 11) (k := 15) R_1933 (T11_o t0) rfl rfl (ti_add p_1935 L32_1) e_1937
  refine Rn.hp hT rfl rfl (pV_hp rfl g_1937) ?_
  obtain rfl := Option.some.inj e
  exact Rn.ret hT rfl rfl rfl (hq h_1936 R_1936)
def FX11_nightComes (N : Nat) (s : iv_M) (q0 : Nat) (x1 : Int) : Option (iv_M) := ((FX2_keepPast N s ((s q0 4).toNat)).bind fun s_1928 => (if x1 = (-1) then (FX11_nightComes_b23 N s_1928 q0) else ((FX1_go N s_1928 ((s_1928 q0 4).toNat + 1) x1).bind fun s_1931 => (FX11_nightComes_b23 N s_1931 q0))))
set_option maxRecDepth 10000 in
set_option maxHeartbeats 4000000 in
theorem RX11_nightComes {d N nc Ls : Nat} {Xs : Nat → Int32} (hd : 4 ≤ d) {h : iv_H} {s : iv_M} (hR : Rep nc Ls Xs h s) {q0 : Nat} (t0 : T11 nc q0) {m1 : Int32} {x1 : Int} (p1 : m1.toInt = x1) {r : iv_M} {Q : Option Value → iv_H → Prop} (e : FX11_nightComes N s q0 x1 = some r) (hq : ∀ h1, Rep nc Ls Xs h1 r → Q none h1) : Cl d 155 [.ref q0, .int m1] h Q := by
  obtain ⟨d, rfl⟩ : ∃ k, d = k + 1 := ⟨d - 1, by omega⟩
  have hd : 3 ≤ d := by omega
  have hT := hX11_nightComes
  unfold FX11_nightComes at e
  refine Cl.into (by decide) gX11_nightComes rfl ?_
  show Rn d 155 none 0 [some (.ref q0), some (.int m1)] [] h Q
  refine Rn.n hT 1 (pc' := 1) (L' := [some (.ref q0), some (.int m1)]) (st' := [.ref q0]) rfl ?_
  refine Rn.hp hT rfl rfl (gR_hp (rp_gP (k := 4) hR (T11_o t0) rfl (nn_114 hR t0))) ?_
  obtain ⟨s_1928, e_1927, e⟩ := Option.bind_eq_some_iff.mp e
  refine Rn.call hT rfl rfl rfl (Nat.le_of_ble_eq_true rfl) (rcv_v gX2_keepPast (by omega) (rp_ck hR (T2_o (ty_114 hR t0)))) (RX2_keepPast (by omega) hR (ty_114 hR t0) e_1927 (fun h_1928 R_1928 => ?_))
  show Rn d _ _ 7 [some (.ref q0), some (.int m1)] [] h_1928 Q
  refine Rn.n hT 2 (pc' := 9) (L' := [some (.ref q0), some (.int m1)]) (st' := [.int (-1 : Int32), .int m1]) rfl ?_
  by_cases c_1929 : x1 = (-1)
  · rw [if_pos c_1929] at e
    refine Rn.bt hT rfl rfl rfl (decide_eq_true ((ti_e p1 L32_m1).mpr c_1929)) ?_
    exact Rn.weak (ll_s (ll_n ll_e)) (RX11_nightComes_b23 hd R_1928 t0 hq e)
  · rw [if_neg c_1929] at e
    refine Rn.bf hT rfl rfl rfl (decide_eq_false (fun z => c_1929 ((ti_e p1 L32_m1).mp z))) ?_
    refine Rn.n hT 1 (pc' := 13) (L' := [some (.ref q0), some (.int m1)]) (st' := [.ref q0]) rfl ?_
    refine Rn.hp hT rfl rfl (gR_hp (rp_gP (k := 4) R_1928 (T11_o t0) rfl (nn_114 R_1928 t0))) ?_
    refine Rn.hp hT rfl rfl (gR_hp (rp_gR R_1928 (T2_o (ty_114 R_1928 t0)) rfl)) ?_
    refine Rn.n hT 1 (pc' := 20) (L' := [some (.ref q0), some (.int m1)]) (st' := [.int m1, .ref ((s_1928 q0 4).toNat + 1)]) rfl ?_
    obtain ⟨s_1931, e_1930, e⟩ := Option.bind_eq_some_iff.mp e
    refine Rn.call hT rfl rfl rfl (Nat.le_of_ble_eq_true rfl) (rcv_v gX1_go (by omega) (rp_ck R_1928 (T1_o (T2_9 (ty_114 R_1928 t0))))) (RX1_go (by omega) R_1928 (T2_9 (ty_114 R_1928 t0)) p1 e_1930 (fun h_1931 R_1931 => ?_))
    show Rn d _ _ 23 [some (.ref q0), some (.int m1)] [] h_1931 Q
    exact Rn.weak (ll_s (ll_n ll_e)) (RX11_nightComes_b23 hd R_1931 t0 hq e)
set_option maxRecDepth 10000 in
theorem hX11_walk : iv_Tb 153 tX11_walk := iv_tb_of (m := mX11_walk) rfl
set_option maxRecDepth 10000 in
theorem gX11_walk : PG.2 153 = some mX11_walk := iv_pi_of (t := tX11_walk) rfl (by decide)
def FX11_walk (N : Nat) (s : iv_M) (q0 : Nat) (x1 : Int) (x2 : Int) (x3 : Int) : Option (Int × iv_M) := ((FX2_walkOf N s ((s q0 4).toNat) x1 x2 x3).bind fun v_1938 => (if v_1938 = (-1) then (some ((-1), s)) else ((FX11_ruleInForce N s q0).bind fun v_1940 => ((FX3_open N s (q0 + 62) ((s q0 4).toNat) ((s q0 4).toNat + 1) v_1940).bind fun s_1942 => ((FX3_broken N s_1942 (q0 + 62) v_1938).bind fun r_1943 => (fun (v_1943 : Int) (s_1944 : iv_M) => (if v_1943 = 0 then ((FX11_nightComes N s_1944 q0 v_1938).bind fun s_1947 => (some ((s_1947 ((s_1947 q0 4).toNat) 6), s_1947))) else (some ((w32 ((-2) - v_1943)), s_1944)))) r_1943.1 r_1943.2)))))
set_option maxRecDepth 10000 in
set_option maxHeartbeats 4000000 in
theorem RX11_walk {d N nc Ls : Nat} {Xs : Nat → Int32} (hd : 5 ≤ d) {h : iv_H} {s : iv_M} (hR : Rep nc Ls Xs h s) {q0 : Nat} (t0 : T11 nc q0) {m1 : Int32} {x1 : Int} (p1 : m1.toInt = x1) {m2 : Int32} {x2 : Int} (p2 : m2.toInt = x2) {m3 : Int32} {x3 : Int} (p3 : m3.toInt = x3) {r : Int × iv_M} {Q : Option Value → iv_H → Prop} (e : FX11_walk N s q0 x1 x2 x3 = some r) (hq : ∀ (z : Int32) (h1 : iv_H), z.toInt = r.1 → Rep nc Ls Xs h1 r.2 → Q (some (.int z)) h1) : Cl d 153 [.ref q0, .int m1, .int m2, .int m3] h Q := by
  obtain ⟨d, rfl⟩ : ∃ k, d = k + 1 := ⟨d - 1, by omega⟩
  have hd : 4 ≤ d := by omega
  have hT := hX11_walk
  unfold FX11_walk at e
  refine Cl.into (by decide) gX11_walk rfl ?_
  show Rn d 153 (some .int) 0 [some (.ref q0), some (.int m1), some (.int m2), some (.int m3), none, none] [] h Q
  refine Rn.n hT 1 (pc' := 1) (L' := [some (.ref q0), some (.int m1), some (.int m2), some (.int m3), none, none]) (st' := [.ref q0]) rfl ?_
  refine Rn.hp hT rfl rfl (gR_hp (rp_gP (k := 4) hR (T11_o t0) rfl (nn_114 hR t0))) ?_
  refine Rn.n hT 3 (pc' := 7) (L' := [some (.ref q0), some (.int m1), some (.int m2), some (.int m3), none, none]) (st' := [.int m3, .int m2, .int m1, .ref ((s q0 4).toNat)]) rfl ?_
  obtain ⟨v_1938, e_1938, e⟩ := Option.bind_eq_some_iff.mp e
  refine Rn.call hT rfl rfl rfl (Nat.le_of_ble_eq_true rfl) (rcv_v gX2_walkOf (by omega) (rp_ck hR (T2_o (ty_114 hR t0)))) (RX2_walkOf (by omega) hR (ty_114 hR t0) p1 p2 p3 e_1938 (fun z_1938 p_1938 => ?_))
  show Rn d _ _ 10 [some (.ref q0), some (.int m1), some (.int m2), some (.int m3), none, none] [.int z_1938] h Q
  refine Rn.n hT 3 (pc' := 15) (L' := [some (.ref q0), some (.int m1), some (.int m2), some (.int m3), some (.int z_1938), none]) (st' := [.int (-1 : Int32), .int z_1938]) rfl ?_
  by_cases c_1939 : v_1938 = (-1)
  · rw [if_pos c_1939] at e
    refine Rn.bf hT rfl rfl rfl (decide_eq_false (fun z => z ((ti_e p_1938 L32_m1).mpr c_1939))) ?_
    refine Rn.n hT 1 (pc' := 19) (L' := [some (.ref q0), some (.int m1), some (.int m2), some (.int m3), some (.int z_1938), none]) (st' := [.int (-1 : Int32)]) rfl ?_
    obtain rfl := Option.some.inj e
    exact Rn.ret hT rfl rfl rfl (hq (-1 : Int32) h L32_m1 hR)
  · rw [if_neg c_1939] at e
    refine Rn.bt hT rfl rfl rfl (decide_eq_true (fun z => c_1939 ((ti_e p_1938 L32_m1).mp z))) ?_
    refine Rn.n hT 1 (pc' := 21) (L' := [some (.ref q0), some (.int m1), some (.int m2), some (.int m3), some (.int z_1938), none]) (st' := [.ref q0]) rfl ?_
    refine Rn.hp hT rfl rfl (gR_hp (rp_gR hR (T11_o t0) rfl)) ?_
    refine Rn.n hT 1 (pc' := 25) (L' := [some (.ref q0), some (.int m1), some (.int m2), some (.int m3), some (.int z_1938), none]) (st' := [.ref q0, .ref (q0 + 62)]) rfl ?_
    refine Rn.hp hT rfl rfl (gR_hp (rp_gP (k := 4) hR (T11_o t0) rfl (nn_114 hR t0))) ?_
    refine Rn.n hT 1 (pc' := 29) (L' := [some (.ref q0), some (.int m1), some (.int m2), some (.int m3), some (.int z_1938), none]) (st' := [.ref q0, .ref ((s q0 4).toNat), .ref (q0 + 62)]) rfl ?_
    refine Rn.hp hT rfl rfl (gR_hp (rp_gP (k := 4) hR (T11_o t0) rfl (nn_114 hR t0))) ?_
    refine Rn.hp hT rfl rfl (gR_hp (rp_gR hR (T2_o (ty_114 hR t0)) rfl)) ?_
    refine Rn.n hT 1 (pc' := 36) (L' := [some (.ref q0), some (.int m1), some (.int m2), some (.int m3), some (.int z_1938), none]) (st' := [.ref q0, .ref ((s q0 4).toNat + 1), .ref ((s q0 4).toNat), .ref (q0 + 62)]) rfl ?_
    obtain ⟨v_1940, e_1940, e⟩ := Option.bind_eq_some_iff.mp e
    refine Rn.call hT rfl rfl rfl (Nat.le_of_ble_eq_true rfl) (rcv_v gX11_ruleInForce (by omega) (rp_ck hR (T11_o t0))) (RX11_ruleInForce (by omega) hR t0 e_1940 (fun t_1940 => ?_))
    show Rn d _ _ 39 [some (.ref q0), some (.int m1), some (.int m2), some (.int m3), some (.int z_1938), none] [iv_rf (rvo v_1940), .ref ((s q0 4).toNat + 1), .ref ((s q0 4).toNat), .ref (q0 + 62)] h Q
    obtain ⟨s_1942, e_1941, e⟩ := Option.bind_eq_some_iff.mp e
    refine Rn.call hT rfl rfl rfl (Nat.le_of_ble_eq_true rfl) (rcv_v gX3_open (by omega) (rp_ck hR (T3_o (T11_9 t0)))) (RX3_open (by omega) hR (T11_9 t0) (ty_114 hR t0) (T2_9 (ty_114 hR t0)) t_1940 e_1941 (fun h_1942 R_1942 => ?_))
    show Rn d _ _ 42 [some (.ref q0), some (.int m1), some (.int m2), some (.int m3), some (.int z_1938), none] [] h_1942 Q
    refine Rn.n hT 1 (pc' := 43) (L' := [some (.ref q0), some (.int m1), some (.int m2), some (.int m3), some (.int z_1938), none]) (st' := [.ref q0]) rfl ?_
    refine Rn.hp hT rfl rfl (gR_hp (rp_gR R_1942 (T11_o t0) rfl)) ?_
    refine Rn.n hT 1 (pc' := 48) (L' := [some (.ref q0), some (.int m1), some (.int m2), some (.int m3), some (.int z_1938), none]) (st' := [.int z_1938, .ref (q0 + 62)]) rfl ?_
    obtain ⟨⟨v_1943, s_1944⟩, e_1943, e⟩ := Option.bind_eq_some_iff.mp e
    try dsimp only at e
    try dsimp only at e
    refine Rn.call hT rfl rfl rfl (Nat.le_of_ble_eq_true rfl) (rcv_v gX3_broken (by omega) (rp_ck R_1942 (T3_o (T11_9 t0)))) (RX3_broken (by omega) R_1942 (T11_9 t0) p_1938 e_1943 (fun z_1943 h_1944 p_1943 R_1944 => ?_))
    show Rn d _ _ 51 [some (.ref q0), some (.int m1), some (.int m2), some (.int m3), some (.int z_1938), none] [.int z_1943] h_1944 Q
    refine Rn.n hT 2 (pc' := 55) (L' := [some (.ref q0), some (.int m1), some (.int m2), some (.int m3), some (.int z_1938), some (.int z_1943)]) (st' := [.int z_1943]) rfl ?_
    by_cases c_1945 : v_1943 = 0
    · rw [if_pos c_1945] at e
      refine Rn.bt hT rfl rfl rfl (decide_eq_true ((ti_e p_1943 L32_0).mpr c_1945)) ?_
      refine Rn.n hT 2 (pc' := 67) (L' := [some (.ref q0), some (.int m1), some (.int m2), some (.int m3), some (.int z_1938), some (.int z_1943)]) (st' := [.int z_1938, .ref q0]) rfl ?_
      obtain ⟨s_1947, e_1946, e⟩ := Option.bind_eq_some_iff.mp e
      refine Rn.call hT rfl rfl rfl (Nat.le_of_ble_eq_true rfl) (rcv_v gX11_nightComes (by omega) (rp_ck R_1944 (T11_o t0))) (RX11_nightComes (by omega) R_1944 t0 p_1938 e_1946 (fun h_1947 R_1947 => ?_))
      show Rn d _ _ 70 [some (.ref q0), some (.int m1), some (.int m2), some (.int m3), some (.int z_1938), some (.int z_1943)] [] h_1947 Q
      refine Rn.n hT 1 (pc' := 71) (L' := [some (.ref q0), some (.int m1), some (.int m2), some (.int m3), some (.int z_1938), some (.int z_1943)]) (st' := [.ref q0]) rfl ?_
      refine Rn.hp hT rfl rfl (gR_hp (rp_gP (k := 4) R_1947 (T11_o t0) rfl (nn_114 R_1947 t0))) ?_
      obtain ⟨z_1948, g_1948, p_1948⟩ : ∃ z : Int32, gI h_1947 2 6 ((s_1947 q0 4).toNat) = some z ∧ z.toInt = s_1947 ((s_1947 q0 4).toNat) 6 := rp_gI (k := 6) R_1947 (T2_o (ty_114 R_1947 t0)) rfl
      refine Rn.hp hT rfl rfl (gI_hp g_1948) ?_
      obtain rfl := Option.some.inj e
      exact Rn.ret hT rfl rfl rfl (hq z_1948 h_1947 p_1948 R_1947)
    · rw [if_neg c_1945] at e
      refine Rn.bf hT rfl rfl rfl (decide_eq_false (fun z => c_1945 ((ti_e p_1943 L32_0).mp z))) ?_
      refine Rn.n hT 3 (pc' := 63) (L' := [some (.ref q0), some (.int m1), some (.int m2), some (.int m3), some (.int z_1938), some (.int z_1943)]) (st' := [.int ((-2 : Int32) - z_1943)]) rfl ?_
      obtain rfl := Option.some.inj e
      exact Rn.ret hT rfl rfl rfl (hq ((-2 : Int32) - z_1943) h_1944 (ti_sub L32_m2 p_1943) R_1944)
set_option maxRecDepth 10000 in
theorem hX11_rest : iv_Tb 154 tX11_rest := iv_tb_of (m := mX11_rest) rfl
set_option maxRecDepth 10000 in
theorem gX11_rest : PG.2 154 = some mX11_rest := iv_pi_of (t := tX11_rest) rfl (by decide)
def FX11_rest (N : Nat) (s : iv_M) (q0 : Nat) : Option (Int × iv_M) := (if (s ((s q0 4).toNat) 0) = 0 then (some ((-1), s)) else ((FX11_nightComes N s q0 (-1)).bind fun s_1952 => (some ((s_1952 ((s_1952 q0 4).toNat) 6), s_1952))))
set_option maxRecDepth 10000 in
set_option maxHeartbeats 4000000 in
theorem RX11_rest {d N nc Ls : Nat} {Xs : Nat → Int32} (hd : 5 ≤ d) {h : iv_H} {s : iv_M} (hR : Rep nc Ls Xs h s) {q0 : Nat} (t0 : T11 nc q0) {r : Int × iv_M} {Q : Option Value → iv_H → Prop} (e : FX11_rest N s q0 = some r) (hq : ∀ (z : Int32) (h1 : iv_H), z.toInt = r.1 → Rep nc Ls Xs h1 r.2 → Q (some (.int z)) h1) : Cl d 154 [.ref q0] h Q := by
  obtain ⟨d, rfl⟩ : ∃ k, d = k + 1 := ⟨d - 1, by omega⟩
  have hd : 4 ≤ d := by omega
  have hT := hX11_rest
  unfold FX11_rest at e
  refine Cl.into (by decide) gX11_rest rfl ?_
  show Rn d 154 (some .int) 0 [some (.ref q0)] [] h Q
  refine Rn.n hT 1 (pc' := 1) (L' := [some (.ref q0)]) (st' := [.ref q0]) rfl ?_
  refine Rn.hp hT rfl rfl (gR_hp (rp_gP (k := 4) hR (T11_o t0) rfl (nn_114 hR t0))) ?_
  obtain ⟨z_1949, g_1949, p_1949⟩ : ∃ z : Int32, gI h 2 0 ((s q0 4).toNat) = some z ∧ z.toInt = s ((s q0 4).toNat) 0 := rp_gI (k := 0) hR (T2_o (ty_114 hR t0)) rfl
  refine Rn.hp hT rfl rfl (gI_hp g_1949) ?_
  by_cases c_1950 : (s ((s q0 4).toNat) 0) = 0
  · rw [if_pos c_1950] at e
    refine Rn.bf hT rfl rfl rfl (decide_eq_false (fun z => z ((ti_e p_1949 L32_0).mpr c_1950))) ?_
    refine Rn.n hT 1 (pc' := 11) (L' := [some (.ref q0)]) (st' := [.int (-1 : Int32)]) rfl ?_
    obtain rfl := Option.some.inj e
    exact Rn.ret hT rfl rfl rfl (hq (-1 : Int32) h L32_m1 hR)
  · rw [if_neg c_1950] at e
    refine Rn.bt hT rfl rfl rfl (decide_eq_true (fun z => c_1950 ((ti_e p_1949 L32_0).mp z))) ?_
    refine Rn.n hT 2 (pc' := 14) (L' := [some (.ref q0)]) (st' := [.int (-1 : Int32), .ref q0]) rfl ?_
    obtain ⟨s_1952, e_1951, e⟩ := Option.bind_eq_some_iff.mp e
    refine Rn.call hT rfl rfl rfl (Nat.le_of_ble_eq_true rfl) (rcv_v gX11_nightComes (by omega) (rp_ck hR (T11_o t0))) (RX11_nightComes (by omega) hR t0 L32_m1 e_1951 (fun h_1952 R_1952 => ?_))
    show Rn d _ _ 17 [some (.ref q0)] [] h_1952 Q
    refine Rn.n hT 1 (pc' := 18) (L' := [some (.ref q0)]) (st' := [.ref q0]) rfl ?_
    refine Rn.hp hT rfl rfl (gR_hp (rp_gP (k := 4) R_1952 (T11_o t0) rfl (nn_114 R_1952 t0))) ?_
    obtain ⟨z_1953, g_1953, p_1953⟩ : ∃ z : Int32, gI h_1952 2 6 ((s_1952 q0 4).toNat) = some z ∧ z.toInt = s_1952 ((s_1952 q0 4).toNat) 6 := rp_gI (k := 6) R_1952 (T2_o (ty_114 R_1952 t0)) rfl
    refine Rn.hp hT rfl rfl (gI_hp g_1953) ?_
    obtain rfl := Option.some.inj e
    exact Rn.ret hT rfl rfl rfl (hq z_1953 h_1952 p_1953 R_1952)
set_option maxRecDepth 10000 in
theorem hX11_undo : iv_Tb 156 tX11_undo := iv_tb_of (m := mX11_undo) rfl
set_option maxRecDepth 10000 in
theorem gX11_undo : PG.2 156 = some mX11_undo := iv_pi_of (t := tX11_undo) rfl (by decide)
def FX11_undo (N : Nat) (s : iv_M) (q0 : Nat) : Option (Int × iv_M) := (if (s ((s q0 4).toNat + 10) 1) = 0 then (some ((-2), s)) else ((FX2_takeNightBack N s ((s q0 4).toNat)).bind fun s_1957 => ((pt s_1957 q0 15 (w32 ((s_1957 q0 15) + 1))).bind fun s_1959 => (some ((s_1959 ((s_1959 q0 4).toNat + 10) 1), s_1959)))))
set_option maxRecDepth 10000 in
set_option maxHeartbeats 4000000 in
theorem RX11_undo {d N nc Ls : Nat} {Xs : Nat → Int32} (hd : 5 ≤ d) {h : iv_H} {s : iv_M} (hR : Rep nc Ls Xs h s) {q0 : Nat} (t0 : T11 nc q0) {r : Int × iv_M} {Q : Option Value → iv_H → Prop} (e : FX11_undo N s q0 = some r) (hq : ∀ (z : Int32) (h1 : iv_H), z.toInt = r.1 → Rep nc Ls Xs h1 r.2 → Q (some (.int z)) h1) : Cl d 156 [.ref q0] h Q := by
  obtain ⟨d, rfl⟩ : ∃ k, d = k + 1 := ⟨d - 1, by omega⟩
  have hd : 4 ≤ d := by omega
  have hT := hX11_undo
  unfold FX11_undo at e
  refine Cl.into (by decide) gX11_undo rfl ?_
  show Rn d 156 (some .int) 0 [some (.ref q0)] [] h Q
  refine Rn.n hT 1 (pc' := 1) (L' := [some (.ref q0)]) (st' := [.ref q0]) rfl ?_
  refine Rn.hp hT rfl rfl (gR_hp (rp_gP (k := 4) hR (T11_o t0) rfl (nn_114 hR t0))) ?_
  refine Rn.hp hT rfl rfl (gR_hp (rp_gR hR (T2_o (ty_114 hR t0)) rfl)) ?_
  obtain ⟨z_1954, g_1954, p_1954⟩ : ∃ z : Int32, gI h 7 1 ((s q0 4).toNat + 10) = some z ∧ z.toInt = s ((s q0 4).toNat + 10) 1 := rp_gI (k := 1) hR (T7_o (T2_12 (ty_114 hR t0))) rfl
  refine Rn.hp hT rfl rfl (gI_hp g_1954) ?_
  by_cases c_1955 : (s ((s q0 4).toNat + 10) 1) = 0
  · rw [if_pos c_1955] at e
    refine Rn.bf hT rfl rfl rfl (decide_eq_false (fun z => z ((ti_e p_1954 L32_0).mpr c_1955))) ?_
    refine Rn.n hT 1 (pc' := 15) (L' := [some (.ref q0)]) (st' := [.int (-2 : Int32)]) rfl ?_
    obtain rfl := Option.some.inj e
    exact Rn.ret hT rfl rfl rfl (hq (-2 : Int32) h L32_m2 hR)
  · rw [if_neg c_1955] at e
    refine Rn.bt hT rfl rfl rfl (decide_eq_true (fun z => c_1955 ((ti_e p_1954 L32_0).mp z))) ?_
    refine Rn.n hT 1 (pc' := 17) (L' := [some (.ref q0)]) (st' := [.ref q0]) rfl ?_
    refine Rn.hp hT rfl rfl (gR_hp (rp_gP (k := 4) hR (T11_o t0) rfl (nn_114 hR t0))) ?_
    obtain ⟨s_1957, e_1956, e⟩ := Option.bind_eq_some_iff.mp e
    refine Rn.call hT rfl rfl rfl (Nat.le_of_ble_eq_true rfl) (rcv_v gX2_takeNightBack (by omega) (rp_ck hR (T2_o (ty_114 hR t0)))) (RX2_takeNightBack (by omega) hR (ty_114 hR t0) e_1956 (fun h_1957 R_1957 => ?_))
    show Rn d _ _ 23 [some (.ref q0)] [] h_1957 Q
    refine Rn.n hT 2 (pc' := 25) (L' := [some (.ref q0)]) (st' := [.ref q0, .ref q0]) rfl ?_
    obtain ⟨z_1958, g_1958, p_1958⟩ : ∃ z : Int32, gI h_1957 11 15 q0 = some z ∧ z.toInt = s_1957 q0 15 := rp_gI (k := 15) R_1957 (T11_o t0) rfl
    refine Rn.hp hT rfl rfl (gI_hp g_1958) ?_
    refine Rn.n hT 2 (pc' := 30) (L' := [some (.ref q0)]) (st' := [.int (z_1958 + (1 : Int32)), .ref q0]) rfl ?_
    obtain ⟨s_1959, e_1960, e⟩ := Option.bind_eq_some_iff.mp e
    obtain ⟨h_1959, g_1960, R_1959⟩ := rp_pI (ci := 11) (k := 15) R_1957 (T11_o t0) rfl rfl (ti_add p_1958 L32_1) e_1960
    refine Rn.hp hT rfl rfl (pV_hp rfl g_1960) ?_
    refine Rn.n hT 1 (pc' := 34) (L' := [some (.ref q0)]) (st' := [.ref q0]) rfl ?_
    refine Rn.hp hT rfl rfl (gR_hp (rp_gP (k := 4) R_1959 (T11_o t0) rfl (nn_114 R_1959 t0))) ?_
    refine Rn.hp hT rfl rfl (gR_hp (rp_gR R_1959 (T2_o (ty_114 R_1959 t0)) rfl)) ?_
    obtain ⟨z_1961, g_1961, p_1961⟩ : ∃ z : Int32, gI h_1959 7 1 ((s_1959 q0 4).toNat + 10) = some z ∧ z.toInt = s_1959 ((s_1959 q0 4).toNat + 10) 1 := rp_gI (k := 1) R_1959 (T7_o (T2_12 (ty_114 R_1959 t0))) rfl
    refine Rn.hp hT rfl rfl (gI_hp g_1961) ?_
    obtain rfl := Option.some.inj e
    exact Rn.ret hT rfl rfl rfl (hq z_1961 h_1959 p_1961 R_1959)
set_option maxRecDepth 10000 in
theorem hX11_listWalks : iv_Tb 158 tX11_listWalks := iv_tb_of (m := mX11_listWalks) rfl
set_option maxRecDepth 10000 in
theorem gX11_listWalks : PG.2 158 = some mX11_listWalks := iv_pi_of (t := tX11_listWalks) rfl (by decide)
def FX11_listWalks (N : Nat) (s : iv_M) (q0 : Nat) : Option (Int × iv_M) := ((FX11_ruleInForce N s q0).bind fun v_1962 => ((FX3_open N s (q0 + 62) ((s q0 4).toNat) ((s q0 4).toNat + 1) v_1962).bind fun s_1964 => ((FX3_list N s_1964 (q0 + 62) (q0 + 112)).bind fun r_1965 => (fun (v_1965 : Int) (s_1966 : iv_M) => (some (v_1965, s_1966))) r_1965.1 r_1965.2)))
set_option maxRecDepth 10000 in
set_option maxHeartbeats 4000000 in
theorem RX11_listWalks {d N nc Ls : Nat} {Xs : Nat → Int32} (hd : 6 ≤ d) {h : iv_H} {s : iv_M} (hR : Rep nc Ls Xs h s) {q0 : Nat} (t0 : T11 nc q0) {r : Int × iv_M} {Q : Option Value → iv_H → Prop} (e : FX11_listWalks N s q0 = some r) (hq : ∀ (z : Int32) (h1 : iv_H), z.toInt = r.1 → Rep nc Ls Xs h1 r.2 → Q (some (.int z)) h1) : Cl d 158 [.ref q0] h Q := by
  obtain ⟨d, rfl⟩ : ∃ k, d = k + 1 := ⟨d - 1, by omega⟩
  have hd : 5 ≤ d := by omega
  have hT := hX11_listWalks
  unfold FX11_listWalks at e
  refine Cl.into (by decide) gX11_listWalks rfl ?_
  show Rn d 158 (some .int) 0 [some (.ref q0)] [] h Q
  refine Rn.n hT 1 (pc' := 1) (L' := [some (.ref q0)]) (st' := [.ref q0]) rfl ?_
  refine Rn.hp hT rfl rfl (gR_hp (rp_gR hR (T11_o t0) rfl)) ?_
  refine Rn.n hT 1 (pc' := 5) (L' := [some (.ref q0)]) (st' := [.ref q0, .ref (q0 + 62)]) rfl ?_
  refine Rn.hp hT rfl rfl (gR_hp (rp_gP (k := 4) hR (T11_o t0) rfl (nn_114 hR t0))) ?_
  refine Rn.n hT 1 (pc' := 9) (L' := [some (.ref q0)]) (st' := [.ref q0, .ref ((s q0 4).toNat), .ref (q0 + 62)]) rfl ?_
  refine Rn.hp hT rfl rfl (gR_hp (rp_gP (k := 4) hR (T11_o t0) rfl (nn_114 hR t0))) ?_
  refine Rn.hp hT rfl rfl (gR_hp (rp_gR hR (T2_o (ty_114 hR t0)) rfl)) ?_
  refine Rn.n hT 1 (pc' := 16) (L' := [some (.ref q0)]) (st' := [.ref q0, .ref ((s q0 4).toNat + 1), .ref ((s q0 4).toNat), .ref (q0 + 62)]) rfl ?_
  obtain ⟨v_1962, e_1962, e⟩ := Option.bind_eq_some_iff.mp e
  refine Rn.call hT rfl rfl rfl (Nat.le_of_ble_eq_true rfl) (rcv_v gX11_ruleInForce (by omega) (rp_ck hR (T11_o t0))) (RX11_ruleInForce (by omega) hR t0 e_1962 (fun t_1962 => ?_))
  show Rn d _ _ 19 [some (.ref q0)] [iv_rf (rvo v_1962), .ref ((s q0 4).toNat + 1), .ref ((s q0 4).toNat), .ref (q0 + 62)] h Q
  obtain ⟨s_1964, e_1963, e⟩ := Option.bind_eq_some_iff.mp e
  refine Rn.call hT rfl rfl rfl (Nat.le_of_ble_eq_true rfl) (rcv_v gX3_open (by omega) (rp_ck hR (T3_o (T11_9 t0)))) (RX3_open (by omega) hR (T11_9 t0) (ty_114 hR t0) (T2_9 (ty_114 hR t0)) t_1962 e_1963 (fun h_1964 R_1964 => ?_))
  show Rn d _ _ 22 [some (.ref q0)] [] h_1964 Q
  refine Rn.n hT 1 (pc' := 23) (L' := [some (.ref q0)]) (st' := [.ref q0]) rfl ?_
  refine Rn.hp hT rfl rfl (gR_hp (rp_gR R_1964 (T11_o t0) rfl)) ?_
  refine Rn.n hT 1 (pc' := 27) (L' := [some (.ref q0)]) (st' := [.ref q0, .ref (q0 + 62)]) rfl ?_
  refine Rn.hp hT rfl rfl (gR_hp (rp_gR R_1964 (T11_o t0) rfl)) ?_
  obtain ⟨⟨v_1965, s_1966⟩, e_1965, e⟩ := Option.bind_eq_some_iff.mp e
  try dsimp only at e
  try dsimp only at e
  refine Rn.call hT rfl rfl rfl (Nat.le_of_ble_eq_true rfl) (rcv_v gX3_list (by omega) (rp_ck R_1964 (T3_o (T11_9 t0)))) (RX3_list (by omega) R_1964 (T11_9 t0) (T11_14 t0) e_1965 (fun z_1965 h_1966 p_1965 R_1966 => ?_))
  show Rn d _ _ 33 [some (.ref q0)] [.int z_1965] h_1966 Q
  obtain rfl := Option.some.inj e
  exact Rn.ret hT rfl rfl rfl (hq z_1965 h_1966 p_1965 R_1966)
set_option maxRecDepth 10000 in
theorem hX11_can : iv_Tb 157 tX11_can := iv_tb_of (m := mX11_can) rfl
set_option maxRecDepth 10000 in
theorem gX11_can : PG.2 157 = some mX11_can := iv_pi_of (t := tX11_can) rfl (by decide)
def FX11_can_b18 (N : Nat) (s : iv_M)  (xs0 : Int) : Option (Int × iv_M) := (some (xs0, s))
set_option maxRecDepth 10000 in
set_option maxHeartbeats 4000000 in
theorem RX11_can_b18 {d N nc Ls : Nat} {Xs : Nat → Int32} (hd : 6 ≤ d) {h : iv_H} {s : iv_M} (hR : Rep nc Ls Xs h s)  {ms0 : Int32} {xs0 : Int} (ps0 : ms0.toInt = xs0) {r : Int × iv_M} {Q : Option Value → iv_H → Prop} (hq : ∀ (z : Int32) (h1 : iv_H), z.toInt = r.1 → Rep nc Ls Xs h1 r.2 → Q (some (.int z)) h1) (e : FX11_can_b18 N s  xs0 = some r) : Rn d 157 (some .int) 18 [none] [.int ms0] h Q := by
  have hT := hX11_can
  unfold FX11_can_b18 at e
  obtain rfl := Option.some.inj e
  exact Rn.ret hT rfl rfl rfl (hq ms0 h ps0 hR)
def FX11_can (N : Nat) (s : iv_M) (q0 : Nat) : Option (Int × iv_M) := (if (s ((s q0 4).toNat) 0) = 0 then (FX11_can_b18 N s (-1)) else ((FX11_listWalks N s q0).bind fun r_1969 => (fun (v_1969 : Int) (s_1970 : iv_M) => (FX11_can_b18 N s_1970 v_1969)) r_1969.1 r_1969.2))
set_option maxRecDepth 10000 in
set_option maxHeartbeats 4000000 in
theorem RX11_can {d N nc Ls : Nat} {Xs : Nat → Int32} (hd : 7 ≤ d) {h : iv_H} {s : iv_M} (hR : Rep nc Ls Xs h s) {q0 : Nat} (t0 : T11 nc q0) {r : Int × iv_M} {Q : Option Value → iv_H → Prop} (e : FX11_can N s q0 = some r) (hq : ∀ (z : Int32) (h1 : iv_H), z.toInt = r.1 → Rep nc Ls Xs h1 r.2 → Q (some (.int z)) h1) : Cl d 157 [.ref q0] h Q := by
  obtain ⟨d, rfl⟩ : ∃ k, d = k + 1 := ⟨d - 1, by omega⟩
  have hd : 6 ≤ d := by omega
  have hT := hX11_can
  unfold FX11_can at e
  refine Cl.into (by decide) gX11_can rfl ?_
  show Rn d 157 (some .int) 0 [some (.ref q0)] [] h Q
  refine Rn.n hT 1 (pc' := 1) (L' := [some (.ref q0)]) (st' := [.ref q0]) rfl ?_
  refine Rn.hp hT rfl rfl (gR_hp (rp_gP (k := 4) hR (T11_o t0) rfl (nn_114 hR t0))) ?_
  obtain ⟨z_1967, g_1967, p_1967⟩ : ∃ z : Int32, gI h 2 0 ((s q0 4).toNat) = some z ∧ z.toInt = s ((s q0 4).toNat) 0 := rp_gI (k := 0) hR (T2_o (ty_114 hR t0)) rfl
  refine Rn.hp hT rfl rfl (gI_hp g_1967) ?_
  by_cases c_1968 : (s ((s q0 4).toNat) 0) = 0
  · rw [if_pos c_1968] at e
    refine Rn.bt hT rfl rfl rfl (decide_eq_true ((ti_e p_1967 L32_0).mpr c_1968)) ?_
    refine Rn.n hT 1 (pc' := 18) (L' := [some (.ref q0)]) (st' := [.int (-1 : Int32)]) rfl ?_
    exact Rn.weak (ll_n ll_e) (RX11_can_b18 hd hR L32_m1 hq e)
  · rw [if_neg c_1968] at e
    refine Rn.bf hT rfl rfl rfl (decide_eq_false (fun z => c_1968 ((ti_e p_1967 L32_0).mp z))) ?_
    refine Rn.n hT 1 (pc' := 11) (L' := [some (.ref q0)]) (st' := [.ref q0]) rfl ?_
    obtain ⟨⟨v_1969, s_1970⟩, e_1969, e⟩ := Option.bind_eq_some_iff.mp e
    try dsimp only at e
    try dsimp only at e
    refine Rn.call hT rfl rfl rfl (Nat.le_of_ble_eq_true rfl) (rcv_v gX11_listWalks (by omega) (rp_ck hR (T11_o t0))) (RX11_listWalks (by omega) hR t0 e_1969 (fun z_1969 h_1970 p_1969 R_1970 => ?_))
    show Rn d _ _ 14 [some (.ref q0)] [.int z_1969] h_1970 Q
    refine Rn.n hT 1 (pc' := 18) (L' := [some (.ref q0)]) (st' := [.int z_1969]) rfl ?_
    exact Rn.weak (ll_n ll_e) (RX11_can_b18 hd R_1970 p_1969 hq e)
set_option maxRecDepth 10000 in
theorem hX11_partOf : iv_Tb 160 tX11_partOf := iv_tb_of (m := mX11_partOf) rfl
set_option maxRecDepth 10000 in
theorem gX11_partOf : PG.2 160 = some mX11_partOf := iv_pi_of (t := tX11_partOf) rfl (by decide)
def FX11_partOf_b27 (N : Nat) (s : iv_M)  (xs0 : Int) : Option (Int) := (some xs0)
set_option maxRecDepth 10000 in
set_option maxHeartbeats 4000000 in
theorem RX11_partOf_b27 {d N nc Ls : Nat} {Xs : Nat → Int32} (hd : 0 ≤ d) {h : iv_H} {s : iv_M} (hR : Rep nc Ls Xs h s)  {ms0 : Int32} {xs0 : Int} (ps0 : ms0.toInt = xs0) {r : Int} {Q : Option Value → iv_H → Prop} (hq : ∀ (z : Int32), z.toInt = r → Q (some (.int z)) h) (e : FX11_partOf_b27 N s  xs0 = some r) : Rn d 160 (some .int) 27 [none, none] [.int ms0] h Q := by
  have hT := hX11_partOf
  unfold FX11_partOf_b27 at e
  obtain rfl := Option.some.inj e
  exact Rn.ret hT rfl rfl rfl (hq ms0 ps0)
def FX11_partOf (N : Nat) (s : iv_M) (x0 : Int) (x1 : Int) : Option (Int) := (if x1 = 0 then (some (sr32 x0 8)) else (if x1 = 1 then (FX11_partOf_b27 N s (bAn (sr32 x0 4) 15)) else (FX11_partOf_b27 N s (bAn x0 15))))
set_option maxRecDepth 10000 in
set_option maxHeartbeats 4000000 in
theorem RX11_partOf {d N nc Ls : Nat} {Xs : Nat → Int32} (hd : 1 ≤ d) {h : iv_H} {s : iv_M} (hR : Rep nc Ls Xs h s) {m0 : Int32} {x0 : Int} (p0 : m0.toInt = x0) {m1 : Int32} {x1 : Int} (p1 : m1.toInt = x1) {r : Int} {Q : Option Value → iv_H → Prop} (e : FX11_partOf N s x0 x1 = some r) (hq : ∀ (z : Int32), z.toInt = r → Q (some (.int z)) h) : Cl d 160 [.int m0, .int m1] h Q := by
  obtain ⟨d, rfl⟩ : ∃ k, d = k + 1 := ⟨d - 1, by omega⟩
  have hd : 0 ≤ d := by omega
  have hT := hX11_partOf
  unfold FX11_partOf at e
  refine Cl.into (by decide) gX11_partOf rfl ?_
  show Rn d 160 (some .int) 0 [some (.int m0), some (.int m1)] [] h Q
  refine Rn.n hT 1 (pc' := 1) (L' := [some (.int m0), some (.int m1)]) (st' := [.int m1]) rfl ?_
  by_cases c_1971 : x1 = 0
  · rw [if_pos c_1971] at e
    refine Rn.bf hT rfl rfl rfl (decide_eq_false (fun z => z ((ti_e p1 L32_0).mpr c_1971))) ?_
    refine Rn.n hT 3 (pc' := 8) (L' := [some (.int m0), some (.int m1)]) (st' := [.int (m0 >>> ((8 : Int32) &&& 31))]) rfl ?_
    obtain rfl := Option.some.inj e
    exact Rn.ret hT rfl rfl rfl (hq (m0 >>> ((8 : Int32) &&& 31)) (ti_shr p0 L32_8))
  · rw [if_neg c_1971] at e
    refine Rn.bt hT rfl rfl rfl (decide_eq_true (fun z => c_1971 ((ti_e p1 L32_0).mp z))) ?_
    refine Rn.n hT 2 (pc' := 11) (L' := [some (.int m0), some (.int m1)]) (st' := [.int (1 : Int32), .int m1]) rfl ?_
    by_cases c_1972 : x1 = 1
    · rw [if_pos c_1972] at e
      refine Rn.bf hT rfl rfl rfl (decide_eq_false (fun z => z ((ti_e p1 L32_1).mpr c_1972))) ?_
      refine Rn.n hT 6 (pc' := 27) (L' := [some (.int m0), some (.int m1)]) (st' := [.int ((m0 >>> ((4 : Int32) &&& 31)) &&& (15 : Int32))]) rfl ?_
      exact Rn.weak (ll_n (ll_n ll_e)) (RX11_partOf_b27 hd hR (ti_and (ti_shr p0 L32_4) L32_15) hq e)
    · rw [if_neg c_1972] at e
      refine Rn.bt hT rfl rfl rfl (decide_eq_true (fun z => c_1972 ((ti_e p1 L32_1).mp z))) ?_
      refine Rn.n hT 3 (pc' := 27) (L' := [some (.int m0), some (.int m1)]) (st' := [.int (m0 &&& (15 : Int32))]) rfl ?_
      exact Rn.weak (ll_n (ll_n ll_e)) (RX11_partOf_b27 hd hR (ti_and p0 L32_15) hq e)
set_option maxRecDepth 10000 in
theorem hX11_choice : iv_Tb 159 tX11_choice := iv_tb_of (m := mX11_choice) rfl
set_option maxRecDepth 10000 in
theorem gX11_choice : PG.2 159 = some mX11_choice := iv_pi_of (t := tX11_choice) rfl (by decide)
def FX11_choice_b31 (N : Nat) (s : iv_M)   : Option (Int × iv_M) := (some ((-1), s))
set_option maxRecDepth 10000 in
set_option maxHeartbeats 4000000 in
theorem RX11_choice_b31 {d N nc Ls : Nat} {Xs : Nat → Int32} (hd : 6 ≤ d) {h : iv_H} {s : iv_M} (hR : Rep nc Ls Xs h s)   {r : Int × iv_M} {Q : Option Value → iv_H → Prop} (hq : ∀ (z : Int32) (h1 : iv_H), z.toInt = r.1 → Rep nc Ls Xs h1 r.2 → Q (some (.int z)) h1) (e : FX11_choice_b31 N s   = some r) : Rn d 159 (some .int) 31 [none, none, none] [] h Q := by
  have hT := hX11_choice
  unfold FX11_choice_b31 at e
  refine Rn.n hT 1 (pc' := 32) (L' := [none, none, none]) (st' := [.int (-1 : Int32)]) rfl ?_
  obtain rfl := Option.some.inj e
  exact Rn.ret hT rfl rfl rfl (hq (-1 : Int32) h L32_m1 hR)
def FX11_choice (N : Nat) (s : iv_M) (q0 : Nat) (x1 : Int) (x2 : Int) : Option (Int × iv_M) := (if (s ((s q0 4).toNat) 0) = 0 then (FX11_choice_b31 N s) else (if x1 < 0 then (FX11_choice_b31 N s) else (if x2 < 0 then (FX11_choice_b31 N s) else (if 3 < x2 then (FX11_choice_b31 N s) else ((FX11_listWalks N s q0).bind fun r_1978 => (fun (v_1978 : Int) (s_1979 : iv_M) => (if x1 < v_1978 then (if 3 ≤ x2 then ((FX1_mismatches N s_1979 ((s_1979 q0 4).toNat + 1)).bind fun v_1982 => ((rd s_1979 (q0 + 112) 126 x1).bind fun v_1983 => ((FX1_gain N s_1979 ((s_1979 q0 4).toNat + 1) v_1983).bind fun r_1984 => (fun (v_1984 : Int) (s_1985 : iv_M) => (some ((w32 (v_1982 + v_1984)), s_1985))) r_1984.1 r_1984.2))) else ((rd s_1979 (q0 + 112) 126 x1).bind fun v_1986 => ((FX11_partOf N s_1979 v_1986 x2).bind fun v_1987 => (some (v_1987, s_1979))))) else (FX11_choice_b31 N s_1979))) r_1978.1 r_1978.2)))))
set_option maxRecDepth 10000 in
set_option maxHeartbeats 4000000 in
theorem RX11_choice {d N nc Ls : Nat} {Xs : Nat → Int32} (hd : 7 ≤ d) {h : iv_H} {s : iv_M} (hR : Rep nc Ls Xs h s) {q0 : Nat} (t0 : T11 nc q0) {m1 : Int32} {x1 : Int} (p1 : m1.toInt = x1) {m2 : Int32} {x2 : Int} (p2 : m2.toInt = x2) {r : Int × iv_M} {Q : Option Value → iv_H → Prop} (e : FX11_choice N s q0 x1 x2 = some r) (hq : ∀ (z : Int32) (h1 : iv_H), z.toInt = r.1 → Rep nc Ls Xs h1 r.2 → Q (some (.int z)) h1) : Cl d 159 [.ref q0, .int m1, .int m2] h Q := by
  obtain ⟨d, rfl⟩ : ∃ k, d = k + 1 := ⟨d - 1, by omega⟩
  have hd : 6 ≤ d := by omega
  have hT := hX11_choice
  unfold FX11_choice at e
  refine Cl.into (by decide) gX11_choice rfl ?_
  show Rn d 159 (some .int) 0 [some (.ref q0), some (.int m1), some (.int m2)] [] h Q
  refine Rn.n hT 1 (pc' := 1) (L' := [some (.ref q0), some (.int m1), some (.int m2)]) (st' := [.ref q0]) rfl ?_
  refine Rn.hp hT rfl rfl (gR_hp (rp_gP (k := 4) hR (T11_o t0) rfl (nn_114 hR t0))) ?_
  obtain ⟨z_1973, g_1973, p_1973⟩ : ∃ z : Int32, gI h 2 0 ((s q0 4).toNat) = some z ∧ z.toInt = s ((s q0 4).toNat) 0 := rp_gI (k := 0) hR (T2_o (ty_114 hR t0)) rfl
  refine Rn.hp hT rfl rfl (gI_hp g_1973) ?_
  by_cases c_1974 : (s ((s q0 4).toNat) 0) = 0
  · rw [if_pos c_1974] at e
    refine Rn.bt hT rfl rfl rfl (decide_eq_true ((ti_e p_1973 L32_0).mpr c_1974)) ?_
    exact Rn.weak (ll_n (ll_n (ll_n ll_e))) (RX11_choice_b31 hd hR hq e)
  · rw [if_neg c_1974] at e
    refine Rn.bf hT rfl rfl rfl (decide_eq_false (fun z => c_1974 ((ti_e p_1973 L32_0).mp z))) ?_
    refine Rn.n hT 1 (pc' := 11) (L' := [some (.ref q0), some (.int m1), some (.int m2)]) (st' := [.int m1]) rfl ?_
    by_cases c_1975 : x1 < 0
    · rw [if_pos c_1975] at e
      refine Rn.bt hT rfl rfl rfl (decide_eq_true ((ti_l p1 L32_0).mpr c_1975)) ?_
      exact Rn.weak (ll_n (ll_n (ll_n ll_e))) (RX11_choice_b31 hd hR hq e)
    · rw [if_neg c_1975] at e
      refine Rn.bf hT rfl rfl rfl (decide_eq_false (fun z => c_1975 ((ti_l p1 L32_0).mp z))) ?_
      refine Rn.n hT 1 (pc' := 15) (L' := [some (.ref q0), some (.int m1), some (.int m2)]) (st' := [.int m2]) rfl ?_
      by_cases c_1976 : x2 < 0
      · rw [if_pos c_1976] at e
        refine Rn.bt hT rfl rfl rfl (decide_eq_true ((ti_l p2 L32_0).mpr c_1976)) ?_
        exact Rn.weak (ll_n (ll_n (ll_n ll_e))) (RX11_choice_b31 hd hR hq e)
      · rw [if_neg c_1976] at e
        refine Rn.bf hT rfl rfl rfl (decide_eq_false (fun z => c_1976 ((ti_l p2 L32_0).mp z))) ?_
        refine Rn.n hT 2 (pc' := 20) (L' := [some (.ref q0), some (.int m1), some (.int m2)]) (st' := [.int (3 : Int32), .int m2]) rfl ?_
        by_cases c_1977 : 3 < x2
        · rw [if_pos c_1977] at e
          refine Rn.bt hT rfl rfl rfl (decide_eq_true ((ti_l L32_3 p2).mpr c_1977)) ?_
          exact Rn.weak (ll_n (ll_n (ll_n ll_e))) (RX11_choice_b31 hd hR hq e)
        · rw [if_neg c_1977] at e
          refine Rn.bf hT rfl rfl rfl (decide_eq_false (fun z => c_1977 ((ti_l L32_3 p2).mp z))) ?_
          refine Rn.n hT 2 (pc' := 25) (L' := [some (.ref q0), some (.int m1), some (.int m2)]) (st' := [.ref q0, .int m1]) rfl ?_
          obtain ⟨⟨v_1978, s_1979⟩, e_1978, e⟩ := Option.bind_eq_some_iff.mp e
          try dsimp only at e
          try dsimp only at e
          refine Rn.call hT rfl rfl rfl (Nat.le_of_ble_eq_true rfl) (rcv_v gX11_listWalks (by omega) (rp_ck hR (T11_o t0))) (RX11_listWalks (by omega) hR t0 e_1978 (fun z_1978 h_1979 p_1978 R_1979 => ?_))
          show Rn d _ _ 28 [some (.ref q0), some (.int m1), some (.int m2)] [.int z_1978, .int m1] h_1979 Q
          by_cases c_1980 : x1 < v_1978
          · rw [if_pos c_1980] at e
            refine Rn.bt hT rfl rfl rfl (decide_eq_true ((ti_l p1 p_1978).mpr c_1980)) ?_
            refine Rn.n hT 2 (pc' := 35) (L' := [some (.ref q0), some (.int m1), some (.int m2)]) (st' := [.int (3 : Int32), .int m2]) rfl ?_
            by_cases c_1981 : 3 ≤ x2
            · rw [if_pos c_1981] at e
              refine Rn.bt hT rfl rfl rfl (decide_eq_true ((ti_le L32_3 p2).mpr c_1981)) ?_
              refine Rn.n hT 1 (pc' := 50) (L' := [some (.ref q0), some (.int m1), some (.int m2)]) (st' := [.ref q0]) rfl ?_
              refine Rn.hp hT rfl rfl (gR_hp (rp_gP (k := 4) R_1979 (T11_o t0) rfl (nn_114 R_1979 t0))) ?_
              refine Rn.hp hT rfl rfl (gR_hp (rp_gR R_1979 (T2_o (ty_114 R_1979 t0)) rfl)) ?_
              obtain ⟨v_1982, e_1982, e⟩ := Option.bind_eq_some_iff.mp e
              refine Rn.call hT rfl rfl rfl (Nat.le_of_ble_eq_true rfl) (rcv_v gX1_mismatches (by omega) (rp_ck R_1979 (T1_o (T2_9 (ty_114 R_1979 t0))))) (RX1_mismatches (by omega) R_1979 (T2_9 (ty_114 R_1979 t0)) e_1982 (fun z_1982 p_1982 => ?_))
              show Rn d _ _ 59 [some (.ref q0), some (.int m1), some (.int m2)] [.int z_1982] h_1979 Q
              refine Rn.n hT 1 (pc' := 60) (L' := [some (.ref q0), some (.int m1), some (.int m2)]) (st' := [.ref q0, .int z_1982]) rfl ?_
              refine Rn.hp hT rfl rfl (gR_hp (rp_gP (k := 4) R_1979 (T11_o t0) rfl (nn_114 R_1979 t0))) ?_
              refine Rn.hp hT rfl rfl (gR_hp (rp_gR R_1979 (T2_o (ty_114 R_1979 t0)) rfl)) ?_
              refine Rn.n hT 1 (pc' := 67) (L' := [some (.ref q0), some (.int m1), some (.int m2)]) (st' := [.ref q0, .ref ((s_1979 q0 4).toNat + 1), .int z_1982]) rfl ?_
              refine Rn.hp hT rfl rfl (gR_hp (rp_gR R_1979 (T11_o t0) rfl)) ?_
              refine Rn.n hT 1 (pc' := 71) (L' := [some (.ref q0), some (.int m1), some (.int m2)]) (st' := [.int m1, .ref (q0 + 112), .ref ((s_1979 q0 4).toNat + 1), .int z_1982]) rfl ?_
              obtain ⟨v_1983, e_1983, e⟩ := Option.bind_eq_some_iff.mp e
              obtain ⟨z_1983, g_1983, p_1983⟩ := rp_aI R_1979 (T11_14 t0) (T11_14l t0) p1 e_1983
              refine Rn.hp hT rfl rfl (aI_hp g_1983) ?_
              obtain ⟨⟨v_1984, s_1985⟩, e_1984, e⟩ := Option.bind_eq_some_iff.mp e
              try dsimp only at e
              try dsimp only at e
              refine Rn.call hT rfl rfl rfl (Nat.le_of_ble_eq_true rfl) (rcv_v gX1_gain (by omega) (rp_ck R_1979 (T1_o (T2_9 (ty_114 R_1979 t0))))) (RX1_gain (by omega) R_1979 (T2_9 (ty_114 R_1979 t0)) p_1983 e_1984 (fun z_1984 h_1985 p_1984 R_1985 => ?_))
              show Rn d _ _ 75 [some (.ref q0), some (.int m1), some (.int m2)] [.int z_1984, .int z_1982] h_1985 Q
              refine Rn.n hT 1 (pc' := 76) (L' := [some (.ref q0), some (.int m1), some (.int m2)]) (st' := [.int (z_1982 + z_1984)]) rfl ?_
              obtain rfl := Option.some.inj e
              exact Rn.ret hT rfl rfl rfl (hq (z_1982 + z_1984) h_1985 (ti_add p_1982 p_1984) R_1985)
            · rw [if_neg c_1981] at e
              refine Rn.bf hT rfl rfl rfl (decide_eq_false (fun z => c_1981 ((ti_le L32_3 p2).mp z))) ?_
              refine Rn.n hT 1 (pc' := 39) (L' := [some (.ref q0), some (.int m1), some (.int m2)]) (st' := [.ref q0]) rfl ?_
              refine Rn.hp hT rfl rfl (gR_hp (rp_gR R_1979 (T11_o t0) rfl)) ?_
              refine Rn.n hT 1 (pc' := 43) (L' := [some (.ref q0), some (.int m1), some (.int m2)]) (st' := [.int m1, .ref (q0 + 112)]) rfl ?_
              obtain ⟨v_1986, e_1986, e⟩ := Option.bind_eq_some_iff.mp e
              obtain ⟨z_1986, g_1986, p_1986⟩ := rp_aI R_1979 (T11_14 t0) (T11_14l t0) p1 e_1986
              refine Rn.hp hT rfl rfl (aI_hp g_1986) ?_
              refine Rn.n hT 1 (pc' := 45) (L' := [some (.ref q0), some (.int m1), some (.int m2)]) (st' := [.int m2, .int z_1986]) rfl ?_
              obtain ⟨v_1987, e_1987, e⟩ := Option.bind_eq_some_iff.mp e
              refine Rn.call hT rfl rfl rfl (Nat.le_of_ble_eq_true rfl) rfl (RX11_partOf (by omega) R_1979 p_1986 p2 e_1987 (fun z_1987 p_1987 => ?_))
              show Rn d _ _ 48 [some (.ref q0), some (.int m1), some (.int m2)] [.int z_1987] h_1979 Q
              obtain rfl := Option.some.inj e
              exact Rn.ret hT rfl rfl rfl (hq z_1987 h_1979 p_1987 R_1979)
          · rw [if_neg c_1980] at e
            refine Rn.bf hT rfl rfl rfl (decide_eq_false (fun z => c_1980 ((ti_l p1 p_1978).mp z))) ?_
            exact Rn.weak (ll_n (ll_n (ll_n ll_e))) (RX11_choice_b31 hd R_1979 hq e)
set_option maxRecDepth 10000 in
theorem hX11_draft : iv_Tb 161 tX11_draft := iv_tb_of (m := mX11_draft) rfl
set_option maxRecDepth 10000 in
theorem gX11_draft : PG.2 161 = some mX11_draft := iv_pi_of (t := tX11_draft) rfl (by decide)
def FX11_draft_b19 (N : Nat) (s : iv_M)   : Option (Int × iv_M) := (some ((-1), s))
set_option maxRecDepth 10000 in
set_option maxHeartbeats 4000000 in
theorem RX11_draft_b19 {d N nc Ls : Nat} {Xs : Nat → Int32} (hd : 2 ≤ d) {h : iv_H} {s : iv_M} (hR : Rep nc Ls Xs h s)   {r : Int × iv_M} {Q : Option Value → iv_H → Prop} (hq : ∀ (z : Int32) (h1 : iv_H), z.toInt = r.1 → Rep nc Ls Xs h1 r.2 → Q (some (.int z)) h1) (e : FX11_draft_b19 N s   = some r) : Rn d 161 (some .int) 19 [none, none] [] h Q := by
  have hT := hX11_draft
  unfold FX11_draft_b19 at e
  refine Rn.n hT 1 (pc' := 20) (L' := [none, none]) (st' := [.int (-1 : Int32)]) rfl ?_
  obtain rfl := Option.some.inj e
  exact Rn.ret hT rfl rfl rfl (hq (-1 : Int32) h L32_m1 hR)
def FX11_draft (N : Nat) (s : iv_M) (q0 : Nat) (x1 : Int) : Option (Int × iv_M) := (if (s ((s q0 4).toNat) 0) = 0 then (FX11_draft_b19 N s) else (if x1 < 0 then (FX11_draft_b19 N s) else (if x1 < 4 then ((FX2_keepDraft N s ((s q0 4).toNat) x1 ((s q0 4).toNat + 1)).bind fun s_1993 => ((pt s_1993 q0 15 (w32 ((s_1993 q0 15) + 1))).bind fun s_1995 => ((FX1_mismatches N s_1995 ((s_1995 q0 4).toNat + 1)).bind fun v_1997 => (some (v_1997, s_1995))))) else (FX11_draft_b19 N s))))
set_option maxRecDepth 10000 in
set_option maxHeartbeats 4000000 in
theorem RX11_draft {d N nc Ls : Nat} {Xs : Nat → Int32} (hd : 3 ≤ d) {h : iv_H} {s : iv_M} (hR : Rep nc Ls Xs h s) {q0 : Nat} (t0 : T11 nc q0) {m1 : Int32} {x1 : Int} (p1 : m1.toInt = x1) {r : Int × iv_M} {Q : Option Value → iv_H → Prop} (e : FX11_draft N s q0 x1 = some r) (hq : ∀ (z : Int32) (h1 : iv_H), z.toInt = r.1 → Rep nc Ls Xs h1 r.2 → Q (some (.int z)) h1) : Cl d 161 [.ref q0, .int m1] h Q := by
  obtain ⟨d, rfl⟩ : ∃ k, d = k + 1 := ⟨d - 1, by omega⟩
  have hd : 2 ≤ d := by omega
  have hT := hX11_draft
  unfold FX11_draft at e
  refine Cl.into (by decide) gX11_draft rfl ?_
  show Rn d 161 (some .int) 0 [some (.ref q0), some (.int m1)] [] h Q
  refine Rn.n hT 1 (pc' := 1) (L' := [some (.ref q0), some (.int m1)]) (st' := [.ref q0]) rfl ?_
  refine Rn.hp hT rfl rfl (gR_hp (rp_gP (k := 4) hR (T11_o t0) rfl (nn_114 hR t0))) ?_
  obtain ⟨z_1988, g_1988, p_1988⟩ : ∃ z : Int32, gI h 2 0 ((s q0 4).toNat) = some z ∧ z.toInt = s ((s q0 4).toNat) 0 := rp_gI (k := 0) hR (T2_o (ty_114 hR t0)) rfl
  refine Rn.hp hT rfl rfl (gI_hp g_1988) ?_
  by_cases c_1989 : (s ((s q0 4).toNat) 0) = 0
  · rw [if_pos c_1989] at e
    refine Rn.bt hT rfl rfl rfl (decide_eq_true ((ti_e p_1988 L32_0).mpr c_1989)) ?_
    exact Rn.weak (ll_n (ll_n ll_e)) (RX11_draft_b19 hd hR hq e)
  · rw [if_neg c_1989] at e
    refine Rn.bf hT rfl rfl rfl (decide_eq_false (fun z => c_1989 ((ti_e p_1988 L32_0).mp z))) ?_
    refine Rn.n hT 1 (pc' := 11) (L' := [some (.ref q0), some (.int m1)]) (st' := [.int m1]) rfl ?_
    by_cases c_1990 : x1 < 0
    · rw [if_pos c_1990] at e
      refine Rn.bt hT rfl rfl rfl (decide_eq_true ((ti_l p1 L32_0).mpr c_1990)) ?_
      exact Rn.weak (ll_n (ll_n ll_e)) (RX11_draft_b19 hd hR hq e)
    · rw [if_neg c_1990] at e
      refine Rn.bf hT rfl rfl rfl (decide_eq_false (fun z => c_1990 ((ti_l p1 L32_0).mp z))) ?_
      refine Rn.n hT 2 (pc' := 16) (L' := [some (.ref q0), some (.int m1)]) (st' := [.int (4 : Int32), .int m1]) rfl ?_
      by_cases c_1991 : x1 < 4
      · rw [if_pos c_1991] at e
        refine Rn.bt hT rfl rfl rfl (decide_eq_true ((ti_l p1 L32_4).mpr c_1991)) ?_
        refine Rn.n hT 1 (pc' := 22) (L' := [some (.ref q0), some (.int m1)]) (st' := [.ref q0]) rfl ?_
        refine Rn.hp hT rfl rfl (gR_hp (rp_gP (k := 4) hR (T11_o t0) rfl (nn_114 hR t0))) ?_
        refine Rn.n hT 2 (pc' := 27) (L' := [some (.ref q0), some (.int m1)]) (st' := [.ref q0, .int m1, .ref ((s q0 4).toNat)]) rfl ?_
        refine Rn.hp hT rfl rfl (gR_hp (rp_gP (k := 4) hR (T11_o t0) rfl (nn_114 hR t0))) ?_
        refine Rn.hp hT rfl rfl (gR_hp (rp_gR hR (T2_o (ty_114 hR t0)) rfl)) ?_
        obtain ⟨s_1993, e_1992, e⟩ := Option.bind_eq_some_iff.mp e
        refine Rn.call hT rfl rfl rfl (Nat.le_of_ble_eq_true rfl) (rcv_v gX2_keepDraft (by omega) (rp_ck hR (T2_o (ty_114 hR t0)))) (RX2_keepDraft (by omega) hR (ty_114 hR t0) p1 (T2_9 (ty_114 hR t0)) e_1992 (fun h_1993 R_1993 => ?_))
        show Rn d _ _ 36 [some (.ref q0), some (.int m1)] [] h_1993 Q
        refine Rn.n hT 2 (pc' := 38) (L' := [some (.ref q0), some (.int m1)]) (st' := [.ref q0, .ref q0]) rfl ?_
        obtain ⟨z_1994, g_1994, p_1994⟩ : ∃ z : Int32, gI h_1993 11 15 q0 = some z ∧ z.toInt = s_1993 q0 15 := rp_gI (k := 15) R_1993 (T11_o t0) rfl
        refine Rn.hp hT rfl rfl (gI_hp g_1994) ?_
        refine Rn.n hT 2 (pc' := 43) (L' := [some (.ref q0), some (.int m1)]) (st' := [.int (z_1994 + (1 : Int32)), .ref q0]) rfl ?_
        obtain ⟨s_1995, e_1996, e⟩ := Option.bind_eq_some_iff.mp e
        obtain ⟨h_1995, g_1996, R_1995⟩ := rp_pI (ci := 11) (k := 15) R_1993 (T11_o t0) rfl rfl (ti_add p_1994 L32_1) e_1996
        refine Rn.hp hT rfl rfl (pV_hp rfl g_1996) ?_
        refine Rn.n hT 1 (pc' := 47) (L' := [some (.ref q0), some (.int m1)]) (st' := [.ref q0]) rfl ?_
        refine Rn.hp hT rfl rfl (gR_hp (rp_gP (k := 4) R_1995 (T11_o t0) rfl (nn_114 R_1995 t0))) ?_
        refine Rn.hp hT rfl rfl (gR_hp (rp_gR R_1995 (T2_o (ty_114 R_1995 t0)) rfl)) ?_
        obtain ⟨v_1997, e_1997, e⟩ := Option.bind_eq_some_iff.mp e
        refine Rn.call hT rfl rfl rfl (Nat.le_of_ble_eq_true rfl) (rcv_v gX1_mismatches (by omega) (rp_ck R_1995 (T1_o (T2_9 (ty_114 R_1995 t0))))) (RX1_mismatches (by omega) R_1995 (T2_9 (ty_114 R_1995 t0)) e_1997 (fun z_1997 p_1997 => ?_))
        show Rn d _ _ 56 [some (.ref q0), some (.int m1)] [.int z_1997] h_1995 Q
        obtain rfl := Option.some.inj e
        exact Rn.ret hT rfl rfl rfl (hq z_1997 h_1995 p_1997 R_1995)
      · rw [if_neg c_1991] at e
        refine Rn.bf hT rfl rfl rfl (decide_eq_false (fun z => c_1991 ((ti_l p1 L32_4).mp z))) ?_
        exact Rn.weak (ll_n (ll_n ll_e)) (RX11_draft_b19 hd hR hq e)
set_option maxRecDepth 10000 in
theorem hX11_redraw : iv_Tb 162 tX11_redraw := iv_tb_of (m := mX11_redraw) rfl
set_option maxRecDepth 10000 in
theorem gX11_redraw : PG.2 162 = some mX11_redraw := iv_pi_of (t := tX11_redraw) rfl (by decide)
def FX11_redraw_b47 (N : Nat) (s : iv_M)   : Option (Int × iv_M) := (some (0, s))
set_option maxRecDepth 10000 in
set_option maxHeartbeats 4000000 in
theorem RX11_redraw_b47 {d N nc Ls : Nat} {Xs : Nat → Int32} (hd : 5 ≤ d) {h : iv_H} {s : iv_M} (hR : Rep nc Ls Xs h s)   {r : Int × iv_M} {Q : Option Value → iv_H → Prop} (hq : ∀ (z : Int32) (h1 : iv_H), z.toInt = r.1 → Rep nc Ls Xs h1 r.2 → Q (some (.int z)) h1) (e : FX11_redraw_b47 N s   = some r) : Rn d 162 (some .boolean) 47 [none, none, none, none, none, none] [] h Q := by
  have hT := hX11_redraw
  unfold FX11_redraw_b47 at e
  refine Rn.n hT 1 (pc' := 48) (L' := [none, none, none, none, none, none]) (st' := [.int (0 : Int32)]) rfl ?_
  obtain rfl := Option.some.inj e
  exact Rn.ret hT rfl rfl rfl (hq (0 : Int32) h L32_0 hR)
def FX11_redraw (N : Nat) (s : iv_M) (q0 : Nat) (x1 : Int) (x2 : Int) (x3 : Int) (x4 : Int) : Option (Int × iv_M) := ((FX2_walkOf N s ((s q0 4).toNat) x2 x3 x4).bind fun v_1998 => ((FX2_hasDraft N s ((s q0 4).toNat) x1).bind fun v_1999 => (if v_1999 = 0 then (FX11_redraw_b47 N s) else (if v_1998 = (-1) then (FX11_redraw_b47 N s) else ((FX10_redraws N s (q0 + 81) ((s q0 4).toNat) x1 v_1998).bind fun r_2002 => (fun (v_2002 : Int) (s_2003 : iv_M) => (if v_2002 = 0 then (FX11_redraw_b47 N s_2003) else ((FX2_keepDraft N s_2003 ((s_2003 q0 4).toNat) x1 ((q0 + 81) + 1)).bind fun s_2006 => ((pt s_2006 q0 15 (w32 ((s_2006 q0 15) + 1))).bind fun s_2008 => (some (1, s_2008)))))) r_2002.1 r_2002.2)))))
set_option maxRecDepth 10000 in
set_option maxHeartbeats 4000000 in
theorem RX11_redraw {d N nc Ls : Nat} {Xs : Nat → Int32} (hd : 6 ≤ d) {h : iv_H} {s : iv_M} (hR : Rep nc Ls Xs h s) {q0 : Nat} (t0 : T11 nc q0) {m1 : Int32} {x1 : Int} (p1 : m1.toInt = x1) {m2 : Int32} {x2 : Int} (p2 : m2.toInt = x2) {m3 : Int32} {x3 : Int} (p3 : m3.toInt = x3) {m4 : Int32} {x4 : Int} (p4 : m4.toInt = x4) {r : Int × iv_M} {Q : Option Value → iv_H → Prop} (e : FX11_redraw N s q0 x1 x2 x3 x4 = some r) (hq : ∀ (z : Int32) (h1 : iv_H), z.toInt = r.1 → Rep nc Ls Xs h1 r.2 → Q (some (.int z)) h1) : Cl d 162 [.ref q0, .int m1, .int m2, .int m3, .int m4] h Q := by
  obtain ⟨d, rfl⟩ : ∃ k, d = k + 1 := ⟨d - 1, by omega⟩
  have hd : 5 ≤ d := by omega
  have hT := hX11_redraw
  unfold FX11_redraw at e
  refine Cl.into (by decide) gX11_redraw rfl ?_
  show Rn d 162 (some .boolean) 0 [some (.ref q0), some (.int m1), some (.int m2), some (.int m3), some (.int m4), none] [] h Q
  refine Rn.n hT 1 (pc' := 1) (L' := [some (.ref q0), some (.int m1), some (.int m2), some (.int m3), some (.int m4), none]) (st' := [.ref q0]) rfl ?_
  refine Rn.hp hT rfl rfl (gR_hp (rp_gP (k := 4) hR (T11_o t0) rfl (nn_114 hR t0))) ?_
  refine Rn.n hT 3 (pc' := 8) (L' := [some (.ref q0), some (.int m1), some (.int m2), some (.int m3), some (.int m4), none]) (st' := [.int m4, .int m3, .int m2, .ref ((s q0 4).toNat)]) rfl ?_
  obtain ⟨v_1998, e_1998, e⟩ := Option.bind_eq_some_iff.mp e
  refine Rn.call hT rfl rfl rfl (Nat.le_of_ble_eq_true rfl) (rcv_v gX2_walkOf (by omega) (rp_ck hR (T2_o (ty_114 hR t0)))) (RX2_walkOf (by omega) hR (ty_114 hR t0) p2 p3 p4 e_1998 (fun z_1998 p_1998 => ?_))
  show Rn d _ _ 11 [some (.ref q0), some (.int m1), some (.int m2), some (.int m3), some (.int m4), none] [.int z_1998] h Q
  refine Rn.n hT 2 (pc' := 14) (L' := [some (.ref q0), some (.int m1), some (.int m2), some (.int m3), some (.int m4), some (.int z_1998)]) (st' := [.ref q0]) rfl ?_
  refine Rn.hp hT rfl rfl (gR_hp (rp_gP (k := 4) hR (T11_o t0) rfl (nn_114 hR t0))) ?_
  refine Rn.n hT 1 (pc' := 18) (L' := [some (.ref q0), some (.int m1), some (.int m2), some (.int m3), some (.int m4), some (.int z_1998)]) (st' := [.int m1, .ref ((s q0 4).toNat)]) rfl ?_
  obtain ⟨v_1999, e_1999, e⟩ := Option.bind_eq_some_iff.mp e
  refine Rn.call hT rfl rfl rfl (Nat.le_of_ble_eq_true rfl) (rcv_v gX2_hasDraft (by omega) (rp_ck hR (T2_o (ty_114 hR t0)))) (RX2_hasDraft (by omega) hR (ty_114 hR t0) p1 e_1999 (fun z_1999 p_1999 => ?_))
  show Rn d _ _ 21 [some (.ref q0), some (.int m1), some (.int m2), some (.int m3), some (.int m4), some (.int z_1998)] [.int z_1999] h Q
  by_cases c_2000 : v_1999 = 0
  · rw [if_pos c_2000] at e
    refine Rn.bt hT rfl rfl rfl (decide_eq_true ((ti_e p_1999 L32_0).mpr c_2000)) ?_
    exact Rn.weak (ll_n (ll_n (ll_n (ll_n (ll_n (ll_n ll_e)))))) (RX11_redraw_b47 hd hR hq e)
  · rw [if_neg c_2000] at e
    refine Rn.bf hT rfl rfl rfl (decide_eq_false (fun z => c_2000 ((ti_e p_1999 L32_0).mp z))) ?_
    refine Rn.n hT 2 (pc' := 27) (L' := [some (.ref q0), some (.int m1), some (.int m2), some (.int m3), some (.int m4), some (.int z_1998)]) (st' := [.int (-1 : Int32), .int z_1998]) rfl ?_
    by_cases c_2001 : v_1998 = (-1)
    · rw [if_pos c_2001] at e
      refine Rn.bt hT rfl rfl rfl (decide_eq_true ((ti_e p_1998 L32_m1).mpr c_2001)) ?_
      exact Rn.weak (ll_n (ll_n (ll_n (ll_n (ll_n (ll_n ll_e)))))) (RX11_redraw_b47 hd hR hq e)
    · rw [if_neg c_2001] at e
      refine Rn.bf hT rfl rfl rfl (decide_eq_false (fun z => c_2001 ((ti_e p_1998 L32_m1).mp z))) ?_
      refine Rn.n hT 1 (pc' := 31) (L' := [some (.ref q0), some (.int m1), some (.int m2), some (.int m3), some (.int m4), some (.int z_1998)]) (st' := [.ref q0]) rfl ?_
      refine Rn.hp hT rfl rfl (gR_hp (rp_gR hR (T11_o t0) rfl)) ?_
      refine Rn.n hT 1 (pc' := 35) (L' := [some (.ref q0), some (.int m1), some (.int m2), some (.int m3), some (.int m4), some (.int z_1998)]) (st' := [.ref q0, .ref (q0 + 81)]) rfl ?_
      refine Rn.hp hT rfl rfl (gR_hp (rp_gP (k := 4) hR (T11_o t0) rfl (nn_114 hR t0))) ?_
      refine Rn.n hT 2 (pc' := 41) (L' := [some (.ref q0), some (.int m1), some (.int m2), some (.int m3), some (.int m4), some (.int z_1998)]) (st' := [.int z_1998, .int m1, .ref ((s q0 4).toNat), .ref (q0 + 81)]) rfl ?_
      obtain ⟨⟨v_2002, s_2003⟩, e_2002, e⟩ := Option.bind_eq_some_iff.mp e
      try dsimp only at e
      try dsimp only at e
      refine Rn.call hT rfl rfl rfl (Nat.le_of_ble_eq_true rfl) (rcv_v gX10_redraws (by omega) (rp_ck hR (T10_o (T11_11 t0)))) (RX10_redraws (by omega) hR (T11_11 t0) (ty_114 hR t0) p1 p_1998 e_2002 (fun z_2002 h_2003 p_2002 R_2003 => ?_))
      show Rn d _ _ 44 [some (.ref q0), some (.int m1), some (.int m2), some (.int m3), some (.int m4), some (.int z_1998)] [.int z_2002] h_2003 Q
      by_cases c_2004 : v_2002 = 0
      · rw [if_pos c_2004] at e
        refine Rn.bf hT rfl rfl rfl (decide_eq_false (fun z => z ((ti_e p_2002 L32_0).mpr c_2004))) ?_
        exact Rn.weak (ll_n (ll_n (ll_n (ll_n (ll_n (ll_n ll_e)))))) (RX11_redraw_b47 hd R_2003 hq e)
      · rw [if_neg c_2004] at e
        refine Rn.bt hT rfl rfl rfl (decide_eq_true (fun z => c_2004 ((ti_e p_2002 L32_0).mp z))) ?_
        refine Rn.n hT 1 (pc' := 50) (L' := [some (.ref q0), some (.int m1), some (.int m2), some (.int m3), some (.int m4), some (.int z_1998)]) (st' := [.ref q0]) rfl ?_
        refine Rn.hp hT rfl rfl (gR_hp (rp_gP (k := 4) R_2003 (T11_o t0) rfl (nn_114 R_2003 t0))) ?_
        refine Rn.n hT 2 (pc' := 55) (L' := [some (.ref q0), some (.int m1), some (.int m2), some (.int m3), some (.int m4), some (.int z_1998)]) (st' := [.ref q0, .int m1, .ref ((s_2003 q0 4).toNat)]) rfl ?_
        refine Rn.hp hT rfl rfl (gR_hp (rp_gR R_2003 (T11_o t0) rfl)) ?_
        refine Rn.hp hT rfl rfl (gR_hp (rp_gR R_2003 (T10_o (T11_11 t0)) rfl)) ?_
        obtain ⟨s_2006, e_2005, e⟩ := Option.bind_eq_some_iff.mp e
        refine Rn.call hT rfl rfl rfl (Nat.le_of_ble_eq_true rfl) (rcv_v gX2_keepDraft (by omega) (rp_ck R_2003 (T2_o (ty_114 R_2003 t0)))) (RX2_keepDraft (by omega) R_2003 (ty_114 R_2003 t0) p1 (T10_0 (T11_11 t0)) e_2005 (fun h_2006 R_2006 => ?_))
        show Rn d _ _ 64 [some (.ref q0), some (.int m1), some (.int m2), some (.int m3), some (.int m4), some (.int z_1998)] [] h_2006 Q
        refine Rn.n hT 2 (pc' := 66) (L' := [some (.ref q0), some (.int m1), some (.int m2), some (.int m3), some (.int m4), some (.int z_1998)]) (st' := [.ref q0, .ref q0]) rfl ?_
        obtain ⟨z_2007, g_2007, p_2007⟩ : ∃ z : Int32, gI h_2006 11 15 q0 = some z ∧ z.toInt = s_2006 q0 15 := rp_gI (k := 15) R_2006 (T11_o t0) rfl
        refine Rn.hp hT rfl rfl (gI_hp g_2007) ?_
        refine Rn.n hT 2 (pc' := 71) (L' := [some (.ref q0), some (.int m1), some (.int m2), some (.int m3), some (.int m4), some (.int z_1998)]) (st' := [.int (z_2007 + (1 : Int32)), .ref q0]) rfl ?_
        obtain ⟨s_2008, e_2009, e⟩ := Option.bind_eq_some_iff.mp e
        obtain ⟨h_2008, g_2009, R_2008⟩ := rp_pI (ci := 11) (k := 15) R_2006 (T11_o t0) rfl rfl (ti_add p_2007 L32_1) e_2009
        refine Rn.hp hT rfl rfl (pV_hp rfl g_2009) ?_
        refine Rn.n hT 1 (pc' := 75) (L' := [some (.ref q0), some (.int m1), some (.int m2), some (.int m3), some (.int m4), some (.int z_1998)]) (st' := [.int (1 : Int32)]) rfl ?_
        obtain rfl := Option.some.inj e
        exact Rn.ret hT rfl rfl rfl (hq (1 : Int32) h_2008 L32_1 R_2008)
set_option maxRecDepth 10000 in
theorem hX11_drafted : iv_Tb 163 tX11_drafted := iv_tb_of (m := mX11_drafted) rfl
set_option maxRecDepth 10000 in
theorem gX11_drafted : PG.2 163 = some mX11_drafted := iv_pi_of (t := tX11_drafted) rfl (by decide)
def FX11_drafted_b31 (N : Nat) (s : iv_M)   : Option (Int) := (some (-1))
set_option maxRecDepth 10000 in
set_option maxHeartbeats 4000000 in
theorem RX11_drafted_b31 {d N nc Ls : Nat} {Xs : Nat → Int32} (hd : 1 ≤ d) {h : iv_H} {s : iv_M} (hR : Rep nc Ls Xs h s)   {r : Int} {Q : Option Value → iv_H → Prop} (hq : ∀ (z : Int32), z.toInt = r → Q (some (.int z)) h) (e : FX11_drafted_b31 N s   = some r) : Rn d 163 (some .int) 31 [none, none, none, none] [] h Q := by
  have hT := hX11_drafted
  unfold FX11_drafted_b31 at e
  refine Rn.n hT 1 (pc' := 32) (L' := [none, none, none, none]) (st' := [.int (-1 : Int32)]) rfl ?_
  obtain rfl := Option.some.inj e
  exact Rn.ret hT rfl rfl rfl (hq (-1 : Int32) L32_m1)
def FX11_drafted_b58 (N : Nat) (s : iv_M)  (xs0 : Int) : Option (Int) := (some xs0)
set_option maxRecDepth 10000 in
set_option maxHeartbeats 4000000 in
theorem RX11_drafted_b58 {d N nc Ls : Nat} {Xs : Nat → Int32} (hd : 1 ≤ d) {h : iv_H} {s : iv_M} (hR : Rep nc Ls Xs h s)  {ms0 : Int32} {xs0 : Int} (ps0 : ms0.toInt = xs0) {r : Int} {Q : Option Value → iv_H → Prop} (hq : ∀ (z : Int32), z.toInt = r → Q (some (.int z)) h) (e : FX11_drafted_b58 N s  xs0 = some r) : Rn d 163 (some .int) 58 [none, none, none, none] [.int ms0] h Q := by
  have hT := hX11_drafted
  unfold FX11_drafted_b58 at e
  obtain rfl := Option.some.inj e
  exact Rn.ret hT rfl rfl rfl (hq ms0 ps0)
def FX11_drafted (N : Nat) (s : iv_M) (q0 : Nat) (x1 : Int) (x2 : Int) (x3 : Int) : Option (Int) := ((FX2_hasDraft N s ((s q0 4).toNat) x1).bind fun v_2010 => (if v_2010 = 0 then (FX11_drafted_b31 N s) else ((FX2_isRoom N s ((s q0 4).toNat) x2).bind fun v_2012 => (if v_2012 = 0 then (FX11_drafted_b31 N s) else (if x3 < 0 then (FX11_drafted_b31 N s) else (if x3 ≤ 1 then (if x3 = 0 then ((FX2_draftCell N s ((s q0 4).toNat) x1 x2).bind fun v_2018 => (FX11_drafted_b58 N s v_2018)) else ((FX2_draftTurn N s ((s q0 4).toNat) x1 x2).bind fun v_2017 => (FX11_drafted_b58 N s v_2017))) else (FX11_drafted_b31 N s)))))))
set_option maxRecDepth 10000 in
set_option maxHeartbeats 4000000 in
theorem RX11_drafted {d N nc Ls : Nat} {Xs : Nat → Int32} (hd : 2 ≤ d) {h : iv_H} {s : iv_M} (hR : Rep nc Ls Xs h s) {q0 : Nat} (t0 : T11 nc q0) {m1 : Int32} {x1 : Int} (p1 : m1.toInt = x1) {m2 : Int32} {x2 : Int} (p2 : m2.toInt = x2) {m3 : Int32} {x3 : Int} (p3 : m3.toInt = x3) {r : Int} {Q : Option Value → iv_H → Prop} (e : FX11_drafted N s q0 x1 x2 x3 = some r) (hq : ∀ (z : Int32), z.toInt = r → Q (some (.int z)) h) : Cl d 163 [.ref q0, .int m1, .int m2, .int m3] h Q := by
  obtain ⟨d, rfl⟩ : ∃ k, d = k + 1 := ⟨d - 1, by omega⟩
  have hd : 1 ≤ d := by omega
  have hT := hX11_drafted
  unfold FX11_drafted at e
  refine Cl.into (by decide) gX11_drafted rfl ?_
  show Rn d 163 (some .int) 0 [some (.ref q0), some (.int m1), some (.int m2), some (.int m3)] [] h Q
  refine Rn.n hT 1 (pc' := 1) (L' := [some (.ref q0), some (.int m1), some (.int m2), some (.int m3)]) (st' := [.ref q0]) rfl ?_
  refine Rn.hp hT rfl rfl (gR_hp (rp_gP (k := 4) hR (T11_o t0) rfl (nn_114 hR t0))) ?_
  refine Rn.n hT 1 (pc' := 5) (L' := [some (.ref q0), some (.int m1), some (.int m2), some (.int m3)]) (st' := [.int m1, .ref ((s q0 4).toNat)]) rfl ?_
  obtain ⟨v_2010, e_2010, e⟩ := Option.bind_eq_some_iff.mp e
  refine Rn.call hT rfl rfl rfl (Nat.le_of_ble_eq_true rfl) (rcv_v gX2_hasDraft (by omega) (rp_ck hR (T2_o (ty_114 hR t0)))) (RX2_hasDraft (by omega) hR (ty_114 hR t0) p1 e_2010 (fun z_2010 p_2010 => ?_))
  show Rn d _ _ 8 [some (.ref q0), some (.int m1), some (.int m2), some (.int m3)] [.int z_2010] h Q
  by_cases c_2011 : v_2010 = 0
  · rw [if_pos c_2011] at e
    refine Rn.bt hT rfl rfl rfl (decide_eq_true ((ti_e p_2010 L32_0).mpr c_2011)) ?_
    exact Rn.weak (ll_n (ll_n (ll_n (ll_n ll_e)))) (RX11_drafted_b31 hd hR hq e)
  · rw [if_neg c_2011] at e
    refine Rn.bf hT rfl rfl rfl (decide_eq_false (fun z => c_2011 ((ti_e p_2010 L32_0).mp z))) ?_
    refine Rn.n hT 1 (pc' := 12) (L' := [some (.ref q0), some (.int m1), some (.int m2), some (.int m3)]) (st' := [.ref q0]) rfl ?_
    refine Rn.hp hT rfl rfl (gR_hp (rp_gP (k := 4) hR (T11_o t0) rfl (nn_114 hR t0))) ?_
    refine Rn.n hT 1 (pc' := 16) (L' := [some (.ref q0), some (.int m1), some (.int m2), some (.int m3)]) (st' := [.int m2, .ref ((s q0 4).toNat)]) rfl ?_
    obtain ⟨v_2012, e_2012, e⟩ := Option.bind_eq_some_iff.mp e
    refine Rn.call hT rfl rfl rfl (Nat.le_of_ble_eq_true rfl) (rcv_v gX2_isRoom (by omega) (rp_ck hR (T2_o (ty_114 hR t0)))) (RX2_isRoom (by omega) hR (ty_114 hR t0) p2 e_2012 (fun z_2012 p_2012 => ?_))
    show Rn d _ _ 19 [some (.ref q0), some (.int m1), some (.int m2), some (.int m3)] [.int z_2012] h Q
    by_cases c_2013 : v_2012 = 0
    · rw [if_pos c_2013] at e
      refine Rn.bt hT rfl rfl rfl (decide_eq_true ((ti_e p_2012 L32_0).mpr c_2013)) ?_
      exact Rn.weak (ll_n (ll_n (ll_n (ll_n ll_e)))) (RX11_drafted_b31 hd hR hq e)
    · rw [if_neg c_2013] at e
      refine Rn.bf hT rfl rfl rfl (decide_eq_false (fun z => c_2013 ((ti_e p_2012 L32_0).mp z))) ?_
      refine Rn.n hT 1 (pc' := 23) (L' := [some (.ref q0), some (.int m1), some (.int m2), some (.int m3)]) (st' := [.int m3]) rfl ?_
      by_cases c_2014 : x3 < 0
      · rw [if_pos c_2014] at e
        refine Rn.bt hT rfl rfl rfl (decide_eq_true ((ti_l p3 L32_0).mpr c_2014)) ?_
        exact Rn.weak (ll_n (ll_n (ll_n (ll_n ll_e)))) (RX11_drafted_b31 hd hR hq e)
      · rw [if_neg c_2014] at e
        refine Rn.bf hT rfl rfl rfl (decide_eq_false (fun z => c_2014 ((ti_l p3 L32_0).mp z))) ?_
        refine Rn.n hT 2 (pc' := 28) (L' := [some (.ref q0), some (.int m1), some (.int m2), some (.int m3)]) (st' := [.int (1 : Int32), .int m3]) rfl ?_
        by_cases c_2015 : x3 ≤ 1
        · rw [if_pos c_2015] at e
          refine Rn.bt hT rfl rfl rfl (decide_eq_true ((ti_le p3 L32_1).mpr c_2015)) ?_
          refine Rn.n hT 1 (pc' := 34) (L' := [some (.ref q0), some (.int m1), some (.int m2), some (.int m3)]) (st' := [.int m3]) rfl ?_
          by_cases c_2016 : x3 = 0
          · rw [if_pos c_2016] at e
            refine Rn.bf hT rfl rfl rfl (decide_eq_false (fun z => z ((ti_e p3 L32_0).mpr c_2016))) ?_
            refine Rn.n hT 1 (pc' := 38) (L' := [some (.ref q0), some (.int m1), some (.int m2), some (.int m3)]) (st' := [.ref q0]) rfl ?_
            refine Rn.hp hT rfl rfl (gR_hp (rp_gP (k := 4) hR (T11_o t0) rfl (nn_114 hR t0))) ?_
            refine Rn.n hT 2 (pc' := 43) (L' := [some (.ref q0), some (.int m1), some (.int m2), some (.int m3)]) (st' := [.int m2, .int m1, .ref ((s q0 4).toNat)]) rfl ?_
            obtain ⟨v_2018, e_2018, e⟩ := Option.bind_eq_some_iff.mp e
            refine Rn.call hT rfl rfl rfl (Nat.le_of_ble_eq_true rfl) (rcv_v gX2_draftCell (by omega) (rp_ck hR (T2_o (ty_114 hR t0)))) (RX2_draftCell (by omega) hR (ty_114 hR t0) p1 p2 e_2018 (fun z_2018 p_2018 => ?_))
            show Rn d _ _ 46 [some (.ref q0), some (.int m1), some (.int m2), some (.int m3)] [.int z_2018] h Q
            refine Rn.n hT 1 (pc' := 58) (L' := [some (.ref q0), some (.int m1), some (.int m2), some (.int m3)]) (st' := [.int z_2018]) rfl ?_
            exact Rn.weak (ll_n (ll_n (ll_n (ll_n ll_e)))) (RX11_drafted_b58 hd hR p_2018 hq e)
          · rw [if_neg c_2016] at e
            refine Rn.bt hT rfl rfl rfl (decide_eq_true (fun z => c_2016 ((ti_e p3 L32_0).mp z))) ?_
            refine Rn.n hT 1 (pc' := 50) (L' := [some (.ref q0), some (.int m1), some (.int m2), some (.int m3)]) (st' := [.ref q0]) rfl ?_
            refine Rn.hp hT rfl rfl (gR_hp (rp_gP (k := 4) hR (T11_o t0) rfl (nn_114 hR t0))) ?_
            refine Rn.n hT 2 (pc' := 55) (L' := [some (.ref q0), some (.int m1), some (.int m2), some (.int m3)]) (st' := [.int m2, .int m1, .ref ((s q0 4).toNat)]) rfl ?_
            obtain ⟨v_2017, e_2017, e⟩ := Option.bind_eq_some_iff.mp e
            refine Rn.call hT rfl rfl rfl (Nat.le_of_ble_eq_true rfl) (rcv_v gX2_draftTurn (by omega) (rp_ck hR (T2_o (ty_114 hR t0)))) (RX2_draftTurn (by omega) hR (ty_114 hR t0) p1 p2 e_2017 (fun z_2017 p_2017 => ?_))
            show Rn d _ _ 58 [some (.ref q0), some (.int m1), some (.int m2), some (.int m3)] [.int z_2017] h Q
            exact Rn.weak (ll_n (ll_n (ll_n (ll_n ll_e)))) (RX11_drafted_b58 hd hR p_2017 hq e)
        · rw [if_neg c_2015] at e
          refine Rn.bf hT rfl rfl rfl (decide_eq_false (fun z => c_2015 ((ti_le p3 L32_1).mp z))) ?_
          exact Rn.weak (ll_n (ll_n (ll_n (ll_n ll_e)))) (RX11_drafted_b31 hd hR hq e)
set_option maxRecDepth 10000 in
theorem hX11_nights : iv_Tb 164 tX11_nights := iv_tb_of (m := mX11_nights) rfl
set_option maxRecDepth 10000 in
theorem gX11_nights : PG.2 164 = some mX11_nights := iv_pi_of (t := tX11_nights) rfl (by decide)
def FX11_nights (N : Nat) (s : iv_M) (q0 : Nat) (x1 : Int) : Option (Int × iv_M) := ((FX2_hasDraft N s ((s q0 4).toNat) x1).bind fun v_2019 => (if v_2019 = 0 then (some ((-1), s)) else ((FX11_ruleInForce N s q0).bind fun v_2021 => ((FX9_ask N s (q0 + 64) ((s q0 4).toNat) v_2021 x1 (s q0 15)).bind fun s_2024 => (some ((s_2024 (q0 + 64) 11), s_2024))))))
set_option maxRecDepth 10000 in
set_option maxHeartbeats 4000000 in
theorem RX11_nights {d N nc Ls : Nat} {Xs : Nat → Int32} (hd : 8 ≤ d) {h : iv_H} {s : iv_M} (hR : Rep nc Ls Xs h s) {q0 : Nat} (t0 : T11 nc q0) {m1 : Int32} {x1 : Int} (p1 : m1.toInt = x1) {r : Int × iv_M} {Q : Option Value → iv_H → Prop} (e : FX11_nights N s q0 x1 = some r) (hq : ∀ (z : Int32) (h1 : iv_H), z.toInt = r.1 → Rep nc Ls Xs h1 r.2 → Q (some (.int z)) h1) : Cl d 164 [.ref q0, .int m1] h Q := by
  obtain ⟨d, rfl⟩ : ∃ k, d = k + 1 := ⟨d - 1, by omega⟩
  have hd : 7 ≤ d := by omega
  have hT := hX11_nights
  unfold FX11_nights at e
  refine Cl.into (by decide) gX11_nights rfl ?_
  show Rn d 164 (some .int) 0 [some (.ref q0), some (.int m1)] [] h Q
  refine Rn.n hT 1 (pc' := 1) (L' := [some (.ref q0), some (.int m1)]) (st' := [.ref q0]) rfl ?_
  refine Rn.hp hT rfl rfl (gR_hp (rp_gP (k := 4) hR (T11_o t0) rfl (nn_114 hR t0))) ?_
  refine Rn.n hT 1 (pc' := 5) (L' := [some (.ref q0), some (.int m1)]) (st' := [.int m1, .ref ((s q0 4).toNat)]) rfl ?_
  obtain ⟨v_2019, e_2019, e⟩ := Option.bind_eq_some_iff.mp e
  refine Rn.call hT rfl rfl rfl (Nat.le_of_ble_eq_true rfl) (rcv_v gX2_hasDraft (by omega) (rp_ck hR (T2_o (ty_114 hR t0)))) (RX2_hasDraft (by omega) hR (ty_114 hR t0) p1 e_2019 (fun z_2019 p_2019 => ?_))
  show Rn d _ _ 8 [some (.ref q0), some (.int m1)] [.int z_2019] h Q
  by_cases c_2020 : v_2019 = 0
  · rw [if_pos c_2020] at e
    refine Rn.bf hT rfl rfl rfl (decide_eq_false (fun z => z ((ti_e p_2019 L32_0).mpr c_2020))) ?_
    refine Rn.n hT 1 (pc' := 12) (L' := [some (.ref q0), some (.int m1)]) (st' := [.int (-1 : Int32)]) rfl ?_
    obtain rfl := Option.some.inj e
    exact Rn.ret hT rfl rfl rfl (hq (-1 : Int32) h L32_m1 hR)
  · rw [if_neg c_2020] at e
    refine Rn.bt hT rfl rfl rfl (decide_eq_true (fun z => c_2020 ((ti_e p_2019 L32_0).mp z))) ?_
    refine Rn.n hT 1 (pc' := 14) (L' := [some (.ref q0), some (.int m1)]) (st' := [.ref q0]) rfl ?_
    refine Rn.hp hT rfl rfl (gR_hp (rp_gR hR (T11_o t0) rfl)) ?_
    refine Rn.n hT 1 (pc' := 18) (L' := [some (.ref q0), some (.int m1)]) (st' := [.ref q0, .ref (q0 + 64)]) rfl ?_
    refine Rn.hp hT rfl rfl (gR_hp (rp_gP (k := 4) hR (T11_o t0) rfl (nn_114 hR t0))) ?_
    refine Rn.n hT 1 (pc' := 22) (L' := [some (.ref q0), some (.int m1)]) (st' := [.ref q0, .ref ((s q0 4).toNat), .ref (q0 + 64)]) rfl ?_
    obtain ⟨v_2021, e_2021, e⟩ := Option.bind_eq_some_iff.mp e
    refine Rn.call hT rfl rfl rfl (Nat.le_of_ble_eq_true rfl) (rcv_v gX11_ruleInForce (by omega) (rp_ck hR (T11_o t0))) (RX11_ruleInForce (by omega) hR t0 e_2021 (fun t_2021 => ?_))
    show Rn d _ _ 25 [some (.ref q0), some (.int m1)] [iv_rf (rvo v_2021), .ref ((s q0 4).toNat), .ref (q0 + 64)] h Q
    refine Rn.n hT 2 (pc' := 27) (L' := [some (.ref q0), some (.int m1)]) (st' := [.ref q0, .int m1, iv_rf (rvo v_2021), .ref ((s q0 4).toNat), .ref (q0 + 64)]) rfl ?_
    obtain ⟨z_2022, g_2022, p_2022⟩ : ∃ z : Int32, gI h 11 15 q0 = some z ∧ z.toInt = s q0 15 := rp_gI (k := 15) hR (T11_o t0) rfl
    refine Rn.hp hT rfl rfl (gI_hp g_2022) ?_
    obtain ⟨s_2024, e_2023, e⟩ := Option.bind_eq_some_iff.mp e
    refine Rn.call hT rfl rfl rfl (Nat.le_of_ble_eq_true rfl) (rcv_v gX9_ask (by omega) (rp_ck hR (T9_o (T11_10 t0)))) (RX9_ask (by omega) hR (T11_10 t0) (ty_114 hR t0) t_2021 p1 p_2022 e_2023 (fun h_2024 R_2024 => ?_))
    show Rn d _ _ 33 [some (.ref q0), some (.int m1)] [] h_2024 Q
    refine Rn.n hT 1 (pc' := 34) (L' := [some (.ref q0), some (.int m1)]) (st' := [.ref q0]) rfl ?_
    refine Rn.hp hT rfl rfl (gR_hp (rp_gR R_2024 (T11_o t0) rfl)) ?_
    obtain ⟨z_2025, g_2025, p_2025⟩ : ∃ z : Int32, gI h_2024 9 11 (q0 + 64) = some z ∧ z.toInt = s_2024 (q0 + 64) 11 := rp_gI (k := 11) R_2024 (T9_o (T11_10 t0)) rfl
    refine Rn.hp hT rfl rfl (gI_hp g_2025) ?_
    obtain rfl := Option.some.inj e
    exact Rn.ret hT rfl rfl rfl (hq z_2025 h_2024 p_2025 R_2024)
set_option maxRecDepth 10000 in
theorem hX11_row : iv_Tb 165 tX11_row := iv_tb_of (m := mX11_row) rfl
set_option maxRecDepth 10000 in
theorem gX11_row : PG.2 165 = some mX11_row := iv_pi_of (t := tX11_row) rfl (by decide)
def FX11_row_b24 (N : Nat) (s : iv_M)   : Option (Int × iv_M) := (some ((-1), s))
set_option maxRecDepth 10000 in
set_option maxHeartbeats 4000000 in
theorem RX11_row_b24 {d N nc Ls : Nat} {Xs : Nat → Int32} (hd : 7 ≤ d) {h : iv_H} {s : iv_M} (hR : Rep nc Ls Xs h s)   {r : Int × iv_M} {Q : Option Value → iv_H → Prop} (hq : ∀ (z : Int32) (h1 : iv_H), z.toInt = r.1 → Rep nc Ls Xs h1 r.2 → Q (some (.int z)) h1) (e : FX11_row_b24 N s   = some r) : Rn d 165 (some .int) 24 [none, none, none, none] [] h Q := by
  have hT := hX11_row
  unfold FX11_row_b24 at e
  refine Rn.n hT 1 (pc' := 25) (L' := [none, none, none, none]) (st' := [.int (-1 : Int32)]) rfl ?_
  obtain rfl := Option.some.inj e
  exact Rn.ret hT rfl rfl rfl (hq (-1 : Int32) h L32_m1 hR)
def FX11_row_b105 (N : Nat) (s : iv_M)  (xs0 : Int) : Option (Int × iv_M) := (some (xs0, s))
set_option maxRecDepth 10000 in
set_option maxHeartbeats 4000000 in
theorem RX11_row_b105 {d N nc Ls : Nat} {Xs : Nat → Int32} (hd : 7 ≤ d) {h : iv_H} {s : iv_M} (hR : Rep nc Ls Xs h s)  {ms0 : Int32} {xs0 : Int} (ps0 : ms0.toInt = xs0) {r : Int × iv_M} {Q : Option Value → iv_H → Prop} (hq : ∀ (z : Int32) (h1 : iv_H), z.toInt = r.1 → Rep nc Ls Xs h1 r.2 → Q (some (.int z)) h1) (e : FX11_row_b105 N s  xs0 = some r) : Rn d 165 (some .int) 105 [none, none, none, none] [.int ms0] h Q := by
  have hT := hX11_row
  unfold FX11_row_b105 at e
  obtain rfl := Option.some.inj e
  exact Rn.ret hT rfl rfl rfl (hq ms0 h ps0 hR)
def FX11_row_b103 (N : Nat) (s : iv_M)   : Option (Int × iv_M) := (FX11_row_b105 N s (-2))
set_option maxRecDepth 10000 in
set_option maxHeartbeats 4000000 in
theorem RX11_row_b103 {d N nc Ls : Nat} {Xs : Nat → Int32} (hd : 7 ≤ d) {h : iv_H} {s : iv_M} (hR : Rep nc Ls Xs h s)   {r : Int × iv_M} {Q : Option Value → iv_H → Prop} (hq : ∀ (z : Int32) (h1 : iv_H), z.toInt = r.1 → Rep nc Ls Xs h1 r.2 → Q (some (.int z)) h1) (e : FX11_row_b103 N s   = some r) : Rn d 165 (some .int) 103 [none, none, none, none] [] h Q := by
  have hT := hX11_row
  unfold FX11_row_b103 at e
  refine Rn.n hT 1 (pc' := 105) (L' := [none, none, none, none]) (st' := [.int (-2 : Int32)]) rfl ?_
  exact Rn.weak (ll_n (ll_n (ll_n (ll_n ll_e)))) (RX11_row_b105 hd hR L32_m2 hq e)
def FX11_row (N : Nat) (s : iv_M) (q0 : Nat) (x1 : Int) (x2 : Int) (x3 : Int) : Option (Int × iv_M) := ((FX2_hasDraft N s ((s q0 4).toNat) x1).bind fun v_2026 => (if v_2026 = 0 then (FX11_row_b24 N s) else (if x2 < 0 then (FX11_row_b24 N s) else (if x3 < 0 then (FX11_row_b24 N s) else (if x3 ≤ 2 then ((FX11_ruleInForce N s q0).bind fun v_2031 => ((FX9_ask N s (q0 + 64) ((s q0 4).toNat) v_2031 x1 (s q0 15)).bind fun s_2034 => (if 0 ≤ (s_2034 (q0 + 64) 11) then (if (s_2034 (q0 + 64) 11) ≤ x2 then (FX11_row_b103 N s_2034) else (if 1500 ≤ x2 then (FX11_row_b103 N s_2034) else ((rd s_2034 ((q0 + 64) + 16) 1500 x2).bind fun v_2041 => ((FX11_partOf N s_2034 v_2041 x3).bind fun v_2042 => (FX11_row_b105 N s_2034 v_2042))))) else (some ((s_2034 (q0 + 64) 11), s_2034))))) else (FX11_row_b24 N s))))))
set_option maxRecDepth 10000 in
set_option maxHeartbeats 4000000 in
theorem RX11_row {d N nc Ls : Nat} {Xs : Nat → Int32} (hd : 8 ≤ d) {h : iv_H} {s : iv_M} (hR : Rep nc Ls Xs h s) {q0 : Nat} (t0 : T11 nc q0) {m1 : Int32} {x1 : Int} (p1 : m1.toInt = x1) {m2 : Int32} {x2 : Int} (p2 : m2.toInt = x2) {m3 : Int32} {x3 : Int} (p3 : m3.toInt = x3) {r : Int × iv_M} {Q : Option Value → iv_H → Prop} (e : FX11_row N s q0 x1 x2 x3 = some r) (hq : ∀ (z : Int32) (h1 : iv_H), z.toInt = r.1 → Rep nc Ls Xs h1 r.2 → Q (some (.int z)) h1) : Cl d 165 [.ref q0, .int m1, .int m2, .int m3] h Q := by
  obtain ⟨d, rfl⟩ : ∃ k, d = k + 1 := ⟨d - 1, by omega⟩
  have hd : 7 ≤ d := by omega
  have hT := hX11_row
  unfold FX11_row at e
  refine Cl.into (by decide) gX11_row rfl ?_
  show Rn d 165 (some .int) 0 [some (.ref q0), some (.int m1), some (.int m2), some (.int m3)] [] h Q
  refine Rn.n hT 1 (pc' := 1) (L' := [some (.ref q0), some (.int m1), some (.int m2), some (.int m3)]) (st' := [.ref q0]) rfl ?_
  refine Rn.hp hT rfl rfl (gR_hp (rp_gP (k := 4) hR (T11_o t0) rfl (nn_114 hR t0))) ?_
  refine Rn.n hT 1 (pc' := 5) (L' := [some (.ref q0), some (.int m1), some (.int m2), some (.int m3)]) (st' := [.int m1, .ref ((s q0 4).toNat)]) rfl ?_
  obtain ⟨v_2026, e_2026, e⟩ := Option.bind_eq_some_iff.mp e
  refine Rn.call hT rfl rfl rfl (Nat.le_of_ble_eq_true rfl) (rcv_v gX2_hasDraft (by omega) (rp_ck hR (T2_o (ty_114 hR t0)))) (RX2_hasDraft (by omega) hR (ty_114 hR t0) p1 e_2026 (fun z_2026 p_2026 => ?_))
  show Rn d _ _ 8 [some (.ref q0), some (.int m1), some (.int m2), some (.int m3)] [.int z_2026] h Q
  by_cases c_2027 : v_2026 = 0
  · rw [if_pos c_2027] at e
    refine Rn.bt hT rfl rfl rfl (decide_eq_true ((ti_e p_2026 L32_0).mpr c_2027)) ?_
    exact Rn.weak (ll_n (ll_n (ll_n (ll_n ll_e)))) (RX11_row_b24 hd hR hq e)
  · rw [if_neg c_2027] at e
    refine Rn.bf hT rfl rfl rfl (decide_eq_false (fun z => c_2027 ((ti_e p_2026 L32_0).mp z))) ?_
    refine Rn.n hT 1 (pc' := 12) (L' := [some (.ref q0), some (.int m1), some (.int m2), some (.int m3)]) (st' := [.int m2]) rfl ?_
    by_cases c_2028 : x2 < 0
    · rw [if_pos c_2028] at e
      refine Rn.bt hT rfl rfl rfl (decide_eq_true ((ti_l p2 L32_0).mpr c_2028)) ?_
      exact Rn.weak (ll_n (ll_n (ll_n (ll_n ll_e)))) (RX11_row_b24 hd hR hq e)
    · rw [if_neg c_2028] at e
      refine Rn.bf hT rfl rfl rfl (decide_eq_false (fun z => c_2028 ((ti_l p2 L32_0).mp z))) ?_
      refine Rn.n hT 1 (pc' := 16) (L' := [some (.ref q0), some (.int m1), some (.int m2), some (.int m3)]) (st' := [.int m3]) rfl ?_
      by_cases c_2029 : x3 < 0
      · rw [if_pos c_2029] at e
        refine Rn.bt hT rfl rfl rfl (decide_eq_true ((ti_l p3 L32_0).mpr c_2029)) ?_
        exact Rn.weak (ll_n (ll_n (ll_n (ll_n ll_e)))) (RX11_row_b24 hd hR hq e)
      · rw [if_neg c_2029] at e
        refine Rn.bf hT rfl rfl rfl (decide_eq_false (fun z => c_2029 ((ti_l p3 L32_0).mp z))) ?_
        refine Rn.n hT 2 (pc' := 21) (L' := [some (.ref q0), some (.int m1), some (.int m2), some (.int m3)]) (st' := [.int (2 : Int32), .int m3]) rfl ?_
        by_cases c_2030 : x3 ≤ 2
        · rw [if_pos c_2030] at e
          refine Rn.bt hT rfl rfl rfl (decide_eq_true ((ti_le p3 L32_2).mpr c_2030)) ?_
          refine Rn.n hT 1 (pc' := 27) (L' := [some (.ref q0), some (.int m1), some (.int m2), some (.int m3)]) (st' := [.ref q0]) rfl ?_
          refine Rn.hp hT rfl rfl (gR_hp (rp_gR hR (T11_o t0) rfl)) ?_
          refine Rn.n hT 1 (pc' := 31) (L' := [some (.ref q0), some (.int m1), some (.int m2), some (.int m3)]) (st' := [.ref q0, .ref (q0 + 64)]) rfl ?_
          refine Rn.hp hT rfl rfl (gR_hp (rp_gP (k := 4) hR (T11_o t0) rfl (nn_114 hR t0))) ?_
          refine Rn.n hT 1 (pc' := 35) (L' := [some (.ref q0), some (.int m1), some (.int m2), some (.int m3)]) (st' := [.ref q0, .ref ((s q0 4).toNat), .ref (q0 + 64)]) rfl ?_
          obtain ⟨v_2031, e_2031, e⟩ := Option.bind_eq_some_iff.mp e
          refine Rn.call hT rfl rfl rfl (Nat.le_of_ble_eq_true rfl) (rcv_v gX11_ruleInForce (by omega) (rp_ck hR (T11_o t0))) (RX11_ruleInForce (by omega) hR t0 e_2031 (fun t_2031 => ?_))
          show Rn d _ _ 38 [some (.ref q0), some (.int m1), some (.int m2), some (.int m3)] [iv_rf (rvo v_2031), .ref ((s q0 4).toNat), .ref (q0 + 64)] h Q
          refine Rn.n hT 2 (pc' := 40) (L' := [some (.ref q0), some (.int m1), some (.int m2), some (.int m3)]) (st' := [.ref q0, .int m1, iv_rf (rvo v_2031), .ref ((s q0 4).toNat), .ref (q0 + 64)]) rfl ?_
          obtain ⟨z_2032, g_2032, p_2032⟩ : ∃ z : Int32, gI h 11 15 q0 = some z ∧ z.toInt = s q0 15 := rp_gI (k := 15) hR (T11_o t0) rfl
          refine Rn.hp hT rfl rfl (gI_hp g_2032) ?_
          obtain ⟨s_2034, e_2033, e⟩ := Option.bind_eq_some_iff.mp e
          refine Rn.call hT rfl rfl rfl (Nat.le_of_ble_eq_true rfl) (rcv_v gX9_ask (by omega) (rp_ck hR (T9_o (T11_10 t0)))) (RX9_ask (by omega) hR (T11_10 t0) (ty_114 hR t0) t_2031 p1 p_2032 e_2033 (fun h_2034 R_2034 => ?_))
          show Rn d _ _ 46 [some (.ref q0), some (.int m1), some (.int m2), some (.int m3)] [] h_2034 Q
          refine Rn.n hT 1 (pc' := 47) (L' := [some (.ref q0), some (.int m1), some (.int m2), some (.int m3)]) (st' := [.ref q0]) rfl ?_
          refine Rn.hp hT rfl rfl (gR_hp (rp_gR R_2034 (T11_o t0) rfl)) ?_
          obtain ⟨z_2035, g_2035, p_2035⟩ : ∃ z : Int32, gI h_2034 9 11 (q0 + 64) = some z ∧ z.toInt = s_2034 (q0 + 64) 11 := rp_gI (k := 11) R_2034 (T9_o (T11_10 t0)) rfl
          refine Rn.hp hT rfl rfl (gI_hp g_2035) ?_
          by_cases c_2036 : 0 ≤ (s_2034 (q0 + 64) 11)
          · rw [if_pos c_2036] at e
            refine Rn.bt hT rfl rfl rfl (decide_eq_true ((ti_le L32_0 p_2035).mpr c_2036)) ?_
            refine Rn.n hT 2 (pc' := 66) (L' := [some (.ref q0), some (.int m1), some (.int m2), some (.int m3)]) (st' := [.ref q0, .int m2]) rfl ?_
            refine Rn.hp hT rfl rfl (gR_hp (rp_gR R_2034 (T11_o t0) rfl)) ?_
            obtain ⟨z_2037, g_2037, p_2037⟩ : ∃ z : Int32, gI h_2034 9 11 (q0 + 64) = some z ∧ z.toInt = s_2034 (q0 + 64) 11 := rp_gI (k := 11) R_2034 (T9_o (T11_10 t0)) rfl
            refine Rn.hp hT rfl rfl (gI_hp g_2037) ?_
            by_cases c_2038 : (s_2034 (q0 + 64) 11) ≤ x2
            · rw [if_pos c_2038] at e
              refine Rn.bt hT rfl rfl rfl (decide_eq_true ((ti_le p_2037 p2).mpr c_2038)) ?_
              exact Rn.weak (ll_n (ll_n (ll_n (ll_n ll_e)))) (RX11_row_b103 hd R_2034 hq e)
            · rw [if_neg c_2038] at e
              refine Rn.bf hT rfl rfl rfl (decide_eq_false (fun z => c_2038 ((ti_le p_2037 p2).mp z))) ?_
              refine Rn.n hT 2 (pc' := 77) (L' := [some (.ref q0), some (.int m1), some (.int m2), some (.int m3)]) (st' := [.ref q0, .int m2]) rfl ?_
              refine Rn.hp hT rfl rfl (gR_hp (rp_gR R_2034 (T11_o t0) rfl)) ?_
              refine Rn.hp hT rfl rfl (gR_hp (rp_gR R_2034 (T9_o (T11_10 t0)) rfl)) ?_
              obtain ⟨z_2039, g_2039, p_2039⟩ : ∃ z : Int32, aL h_2034 ((q0 + 64) + 16) = some z ∧ z.toInt = 1500 := rp_aL R_2034 (T9_12 (T11_10 t0)) (Or.inl rfl) (T9_12l (T11_10 t0))
              refine Rn.hp hT rfl rfl (aL_hp g_2039) ?_
              by_cases c_2040 : 1500 ≤ x2
              · rw [if_pos c_2040] at e
                refine Rn.bt hT rfl rfl rfl (decide_eq_true ((ti_le p_2039 p2).mpr c_2040)) ?_
                exact Rn.weak (ll_n (ll_n (ll_n (ll_n ll_e)))) (RX11_row_b103 hd R_2034 hq e)
              · rw [if_neg c_2040] at e
                refine Rn.bf hT rfl rfl rfl (decide_eq_false (fun z => c_2040 ((ti_le p_2039 p2).mp z))) ?_
                refine Rn.n hT 1 (pc' := 88) (L' := [some (.ref q0), some (.int m1), some (.int m2), some (.int m3)]) (st' := [.ref q0]) rfl ?_
                refine Rn.hp hT rfl rfl (gR_hp (rp_gR R_2034 (T11_o t0) rfl)) ?_
                refine Rn.hp hT rfl rfl (gR_hp (rp_gR R_2034 (T9_o (T11_10 t0)) rfl)) ?_
                refine Rn.n hT 1 (pc' := 95) (L' := [some (.ref q0), some (.int m1), some (.int m2), some (.int m3)]) (st' := [.int m2, .ref ((q0 + 64) + 16)]) rfl ?_
                obtain ⟨v_2041, e_2041, e⟩ := Option.bind_eq_some_iff.mp e
                obtain ⟨z_2041, g_2041, p_2041⟩ := rp_aI R_2034 (T9_12 (T11_10 t0)) (T9_12l (T11_10 t0)) p2 e_2041
                refine Rn.hp hT rfl rfl (aI_hp g_2041) ?_
                refine Rn.n hT 1 (pc' := 97) (L' := [some (.ref q0), some (.int m1), some (.int m2), some (.int m3)]) (st' := [.int m3, .int z_2041]) rfl ?_
                obtain ⟨v_2042, e_2042, e⟩ := Option.bind_eq_some_iff.mp e
                refine Rn.call hT rfl rfl rfl (Nat.le_of_ble_eq_true rfl) rfl (RX11_partOf (by omega) R_2034 p_2041 p3 e_2042 (fun z_2042 p_2042 => ?_))
                show Rn d _ _ 100 [some (.ref q0), some (.int m1), some (.int m2), some (.int m3)] [.int z_2042] h_2034 Q
                refine Rn.n hT 1 (pc' := 105) (L' := [some (.ref q0), some (.int m1), some (.int m2), some (.int m3)]) (st' := [.int z_2042]) rfl ?_
                exact Rn.weak (ll_n (ll_n (ll_n (ll_n ll_e)))) (RX11_row_b105 hd R_2034 p_2042 hq e)
          · rw [if_neg c_2036] at e
            refine Rn.bf hT rfl rfl rfl (decide_eq_false (fun z => c_2036 ((ti_le L32_0 p_2035).mp z))) ?_
            refine Rn.n hT 1 (pc' := 57) (L' := [some (.ref q0), some (.int m1), some (.int m2), some (.int m3)]) (st' := [.ref q0]) rfl ?_
            refine Rn.hp hT rfl rfl (gR_hp (rp_gR R_2034 (T11_o t0) rfl)) ?_
            obtain ⟨z_2043, g_2043, p_2043⟩ : ∃ z : Int32, gI h_2034 9 11 (q0 + 64) = some z ∧ z.toInt = s_2034 (q0 + 64) 11 := rp_gI (k := 11) R_2034 (T9_o (T11_10 t0)) rfl
            refine Rn.hp hT rfl rfl (gI_hp g_2043) ?_
            obtain rfl := Option.some.inj e
            exact Rn.ret hT rfl rfl rfl (hq z_2043 h_2034 p_2043 R_2034)
        · rw [if_neg c_2030] at e
          refine Rn.bf hT rfl rfl rfl (decide_eq_false (fun z => c_2030 ((ti_le p3 L32_2).mp z))) ?_
          exact Rn.weak (ll_n (ll_n (ll_n (ll_n ll_e)))) (RX11_row_b24 hd hR hq e)
set_option maxRecDepth 10000 in
theorem hX11_marks : iv_Tb 166 tX11_marks := iv_tb_of (m := mX11_marks) rfl
set_option maxRecDepth 10000 in
theorem gX11_marks : PG.2 166 = some mX11_marks := iv_pi_of (t := tX11_marks) rfl (by decide)
def FX11_marks_b27 (N : Nat) (s : iv_M)  (xs0 : Int) : Option (Int × iv_M) := (some (xs0, s))
set_option maxRecDepth 10000 in
set_option maxHeartbeats 4000000 in
theorem RX11_marks_b27 {d N nc Ls : Nat} {Xs : Nat → Int32} (hd : 6 ≤ d) {h : iv_H} {s : iv_M} (hR : Rep nc Ls Xs h s)  {ms0 : Int32} {xs0 : Int} (ps0 : ms0.toInt = xs0) {r : Int × iv_M} {Q : Option Value → iv_H → Prop} (hq : ∀ (z : Int32) (h1 : iv_H), z.toInt = r.1 → Rep nc Ls Xs h1 r.2 → Q (some (.int z)) h1) (e : FX11_marks_b27 N s  xs0 = some r) : Rn d 166 (some .int) 27 [none, none] [.int ms0] h Q := by
  have hT := hX11_marks
  unfold FX11_marks_b27 at e
  obtain rfl := Option.some.inj e
  exact Rn.ret hT rfl rfl rfl (hq ms0 h ps0 hR)
def FX11_marks (N : Nat) (s : iv_M) (q0 : Nat) (x1 : Int) : Option (Int × iv_M) := ((FX2_hasDraft N s ((s q0 4).toNat) x1).bind fun v_2044 => (if v_2044 = 0 then (FX11_marks_b27 N s (-1)) else ((FX9_marksOf N s (q0 + 64) ((s q0 4).toNat) x1).bind fun r_2046 => (fun (v_2046 : Int) (s_2047 : iv_M) => (FX11_marks_b27 N s_2047 v_2046)) r_2046.1 r_2046.2)))
set_option maxRecDepth 10000 in
set_option maxHeartbeats 4000000 in
theorem RX11_marks {d N nc Ls : Nat} {Xs : Nat → Int32} (hd : 7 ≤ d) {h : iv_H} {s : iv_M} (hR : Rep nc Ls Xs h s) {q0 : Nat} (t0 : T11 nc q0) {m1 : Int32} {x1 : Int} (p1 : m1.toInt = x1) {r : Int × iv_M} {Q : Option Value → iv_H → Prop} (e : FX11_marks N s q0 x1 = some r) (hq : ∀ (z : Int32) (h1 : iv_H), z.toInt = r.1 → Rep nc Ls Xs h1 r.2 → Q (some (.int z)) h1) : Cl d 166 [.ref q0, .int m1] h Q := by
  obtain ⟨d, rfl⟩ : ∃ k, d = k + 1 := ⟨d - 1, by omega⟩
  have hd : 6 ≤ d := by omega
  have hT := hX11_marks
  unfold FX11_marks at e
  refine Cl.into (by decide) gX11_marks rfl ?_
  show Rn d 166 (some .int) 0 [some (.ref q0), some (.int m1)] [] h Q
  refine Rn.n hT 1 (pc' := 1) (L' := [some (.ref q0), some (.int m1)]) (st' := [.ref q0]) rfl ?_
  refine Rn.hp hT rfl rfl (gR_hp (rp_gP (k := 4) hR (T11_o t0) rfl (nn_114 hR t0))) ?_
  refine Rn.n hT 1 (pc' := 5) (L' := [some (.ref q0), some (.int m1)]) (st' := [.int m1, .ref ((s q0 4).toNat)]) rfl ?_
  obtain ⟨v_2044, e_2044, e⟩ := Option.bind_eq_some_iff.mp e
  refine Rn.call hT rfl rfl rfl (Nat.le_of_ble_eq_true rfl) (rcv_v gX2_hasDraft (by omega) (rp_ck hR (T2_o (ty_114 hR t0)))) (RX2_hasDraft (by omega) hR (ty_114 hR t0) p1 e_2044 (fun z_2044 p_2044 => ?_))
  show Rn d _ _ 8 [some (.ref q0), some (.int m1)] [.int z_2044] h Q
  by_cases c_2045 : v_2044 = 0
  · rw [if_pos c_2045] at e
    refine Rn.bt hT rfl rfl rfl (decide_eq_true ((ti_e p_2044 L32_0).mpr c_2045)) ?_
    refine Rn.n hT 1 (pc' := 27) (L' := [some (.ref q0), some (.int m1)]) (st' := [.int (-1 : Int32)]) rfl ?_
    exact Rn.weak (ll_n (ll_n ll_e)) (RX11_marks_b27 hd hR L32_m1 hq e)
  · rw [if_neg c_2045] at e
    refine Rn.bf hT rfl rfl rfl (decide_eq_false (fun z => c_2045 ((ti_e p_2044 L32_0).mp z))) ?_
    refine Rn.n hT 1 (pc' := 12) (L' := [some (.ref q0), some (.int m1)]) (st' := [.ref q0]) rfl ?_
    refine Rn.hp hT rfl rfl (gR_hp (rp_gR hR (T11_o t0) rfl)) ?_
    refine Rn.n hT 1 (pc' := 16) (L' := [some (.ref q0), some (.int m1)]) (st' := [.ref q0, .ref (q0 + 64)]) rfl ?_
    refine Rn.hp hT rfl rfl (gR_hp (rp_gP (k := 4) hR (T11_o t0) rfl (nn_114 hR t0))) ?_
    refine Rn.n hT 1 (pc' := 20) (L' := [some (.ref q0), some (.int m1)]) (st' := [.int m1, .ref ((s q0 4).toNat), .ref (q0 + 64)]) rfl ?_
    obtain ⟨⟨v_2046, s_2047⟩, e_2046, e⟩ := Option.bind_eq_some_iff.mp e
    try dsimp only at e
    try dsimp only at e
    refine Rn.call hT rfl rfl rfl (Nat.le_of_ble_eq_true rfl) (rcv_v gX9_marksOf (by omega) (rp_ck hR (T9_o (T11_10 t0)))) (RX9_marksOf (by omega) hR (T11_10 t0) (ty_114 hR t0) p1 e_2046 (fun z_2046 h_2047 p_2046 R_2047 => ?_))
    show Rn d _ _ 23 [some (.ref q0), some (.int m1)] [.int z_2046] h_2047 Q
    refine Rn.n hT 1 (pc' := 27) (L' := [some (.ref q0), some (.int m1)]) (st' := [.int z_2046]) rfl ?_
    exact Rn.weak (ll_n (ll_n ll_e)) (RX11_marks_b27 hd R_2047 p_2046 hq e)
set_option maxRecDepth 10000 in
theorem hX11_floors : iv_Tb 167 tX11_floors := iv_tb_of (m := mX11_floors) rfl
set_option maxRecDepth 10000 in
theorem gX11_floors : PG.2 167 = some mX11_floors := iv_pi_of (t := tX11_floors) rfl (by decide)
def FX11_floors_b25 (N : Nat) (s : iv_M)  (xs0 : Int) : Option (Int × iv_M) := (some (xs0, s))
set_option maxRecDepth 10000 in
set_option maxHeartbeats 4000000 in
theorem RX11_floors_b25 {d N nc Ls : Nat} {Xs : Nat → Int32} (hd : 44 ≤ d) {h : iv_H} {s : iv_M} (hR : Rep nc Ls Xs h s)  {ms0 : Int32} {xs0 : Int} (ps0 : ms0.toInt = xs0) {r : Int × iv_M} {Q : Option Value → iv_H → Prop} (hq : ∀ (z : Int32) (h1 : iv_H), z.toInt = r.1 → Rep nc Ls Xs h1 r.2 → Q (some (.int z)) h1) (e : FX11_floors_b25 N s  xs0 = some r) : Rn d 167 (some .int) 25 [none] [.int ms0] h Q := by
  have hT := hX11_floors
  unfold FX11_floors_b25 at e
  obtain rfl := Option.some.inj e
  exact Rn.ret hT rfl rfl rfl (hq ms0 h ps0 hR)
def FX11_floors (N : Nat) (s : iv_M) (q0 : Nat) : Option (Int × iv_M) := (if (s ((s q0 4).toNat) 0) = 0 then (FX11_floors_b25 N s (-1)) else ((FX4_layRooms N s (q0 + 102) ((s q0 4).toNat)).bind fun r_2050 => (fun (v_2050 : Int) (s_2051 : iv_M) => (FX11_floors_b25 N s_2051 v_2050)) r_2050.1 r_2050.2))
set_option maxRecDepth 10000 in
set_option maxHeartbeats 4000000 in
theorem RX11_floors {d N nc Ls : Nat} {Xs : Nat → Int32} (hd : 45 ≤ d) {h : iv_H} {s : iv_M} (hR : Rep nc Ls Xs h s) {q0 : Nat} (t0 : T11 nc q0) {r : Int × iv_M} {Q : Option Value → iv_H → Prop} (e : FX11_floors N s q0 = some r) (hq : ∀ (z : Int32) (h1 : iv_H), z.toInt = r.1 → Rep nc Ls Xs h1 r.2 → Q (some (.int z)) h1) : Cl d 167 [.ref q0] h Q := by
  obtain ⟨d, rfl⟩ : ∃ k, d = k + 1 := ⟨d - 1, by omega⟩
  have hd : 44 ≤ d := by omega
  have hT := hX11_floors
  unfold FX11_floors at e
  refine Cl.into (by decide) gX11_floors rfl ?_
  show Rn d 167 (some .int) 0 [some (.ref q0)] [] h Q
  refine Rn.n hT 1 (pc' := 1) (L' := [some (.ref q0)]) (st' := [.ref q0]) rfl ?_
  refine Rn.hp hT rfl rfl (gR_hp (rp_gP (k := 4) hR (T11_o t0) rfl (nn_114 hR t0))) ?_
  obtain ⟨z_2048, g_2048, p_2048⟩ : ∃ z : Int32, gI h 2 0 ((s q0 4).toNat) = some z ∧ z.toInt = s ((s q0 4).toNat) 0 := rp_gI (k := 0) hR (T2_o (ty_114 hR t0)) rfl
  refine Rn.hp hT rfl rfl (gI_hp g_2048) ?_
  by_cases c_2049 : (s ((s q0 4).toNat) 0) = 0
  · rw [if_pos c_2049] at e
    refine Rn.bt hT rfl rfl rfl (decide_eq_true ((ti_e p_2048 L32_0).mpr c_2049)) ?_
    refine Rn.n hT 1 (pc' := 25) (L' := [some (.ref q0)]) (st' := [.int (-1 : Int32)]) rfl ?_
    exact Rn.weak (ll_n ll_e) (RX11_floors_b25 hd hR L32_m1 hq e)
  · rw [if_neg c_2049] at e
    refine Rn.bf hT rfl rfl rfl (decide_eq_false (fun z => c_2049 ((ti_e p_2048 L32_0).mp z))) ?_
    refine Rn.n hT 1 (pc' := 11) (L' := [some (.ref q0)]) (st' := [.ref q0]) rfl ?_
    refine Rn.hp hT rfl rfl (gR_hp (rp_gR hR (T11_o t0) rfl)) ?_
    refine Rn.n hT 1 (pc' := 15) (L' := [some (.ref q0)]) (st' := [.ref q0, .ref (q0 + 102)]) rfl ?_
    refine Rn.hp hT rfl rfl (gR_hp (rp_gP (k := 4) hR (T11_o t0) rfl (nn_114 hR t0))) ?_
    obtain ⟨⟨v_2050, s_2051⟩, e_2050, e⟩ := Option.bind_eq_some_iff.mp e
    try dsimp only at e
    try dsimp only at e
    refine Rn.call hT rfl rfl rfl (Nat.le_of_ble_eq_true rfl) (rcv_v gX4_layRooms (by omega) (rp_ck hR (T4_o (T11_13 t0)))) (RX4_layRooms (by omega) hR (T11_13 t0) (ty_114 hR t0) e_2050 (fun z_2050 h_2051 p_2050 R_2051 => ?_))
    show Rn d _ _ 21 [some (.ref q0)] [.int z_2050] h_2051 Q
    refine Rn.n hT 1 (pc' := 25) (L' := [some (.ref q0)]) (st' := [.int z_2050]) rfl ?_
    exact Rn.weak (ll_n ll_e) (RX11_floors_b25 hd R_2051 p_2050 hq e)
set_option maxRecDepth 10000 in
theorem hX11_steps : iv_Tb 168 tX11_steps := iv_tb_of (m := mX11_steps) rfl
set_option maxRecDepth 10000 in
theorem gX11_steps : PG.2 168 = some mX11_steps := iv_pi_of (t := tX11_steps) rfl (by decide)
def FX11_steps_b22 (N : Nat) (s : iv_M)   : Option (Int × iv_M) := (some ((-1), s))
set_option maxRecDepth 10000 in
set_option maxHeartbeats 4000000 in
theorem RX11_steps_b22 {d N nc Ls : Nat} {Xs : Nat → Int32} (hd : 3 ≤ d) {h : iv_H} {s : iv_M} (hR : Rep nc Ls Xs h s)   {r : Int × iv_M} {Q : Option Value → iv_H → Prop} (hq : ∀ (z : Int32) (h1 : iv_H), z.toInt = r.1 → Rep nc Ls Xs h1 r.2 → Q (some (.int z)) h1) (e : FX11_steps_b22 N s   = some r) : Rn d 168 (some .int) 22 [none, none, none] [] h Q := by
  have hT := hX11_steps
  unfold FX11_steps_b22 at e
  refine Rn.n hT 1 (pc' := 23) (L' := [none, none, none]) (st' := [.int (-1 : Int32)]) rfl ?_
  obtain rfl := Option.some.inj e
  exact Rn.ret hT rfl rfl rfl (hq (-1 : Int32) h L32_m1 hR)
def FX11_steps (N : Nat) (s : iv_M) (q0 : Nat) (x1 : Int) (x2 : Int) : Option (Int × iv_M) := ((FX2_isRoom N s ((s q0 4).toNat) x1).bind fun v_2052 => (if v_2052 = 0 then (FX11_steps_b22 N s) else ((FX2_isRoom N s ((s q0 4).toNat) x2).bind fun v_2054 => (if v_2054 = 0 then (FX11_steps_b22 N s) else ((FX0_spread N s (q0 + 98) ((s q0 4).toNat) x1).bind fun s_2057 => ((FX0_fewest N s_2057 (q0 + 98) x2).bind fun v_2058 => (some (v_2058, s_2057))))))))
set_option maxRecDepth 10000 in
set_option maxHeartbeats 4000000 in
theorem RX11_steps {d N nc Ls : Nat} {Xs : Nat → Int32} (hd : 4 ≤ d) {h : iv_H} {s : iv_M} (hR : Rep nc Ls Xs h s) {q0 : Nat} (t0 : T11 nc q0) {m1 : Int32} {x1 : Int} (p1 : m1.toInt = x1) {m2 : Int32} {x2 : Int} (p2 : m2.toInt = x2) {r : Int × iv_M} {Q : Option Value → iv_H → Prop} (e : FX11_steps N s q0 x1 x2 = some r) (hq : ∀ (z : Int32) (h1 : iv_H), z.toInt = r.1 → Rep nc Ls Xs h1 r.2 → Q (some (.int z)) h1) : Cl d 168 [.ref q0, .int m1, .int m2] h Q := by
  obtain ⟨d, rfl⟩ : ∃ k, d = k + 1 := ⟨d - 1, by omega⟩
  have hd : 3 ≤ d := by omega
  have hT := hX11_steps
  unfold FX11_steps at e
  refine Cl.into (by decide) gX11_steps rfl ?_
  show Rn d 168 (some .int) 0 [some (.ref q0), some (.int m1), some (.int m2)] [] h Q
  refine Rn.n hT 1 (pc' := 1) (L' := [some (.ref q0), some (.int m1), some (.int m2)]) (st' := [.ref q0]) rfl ?_
  refine Rn.hp hT rfl rfl (gR_hp (rp_gP (k := 4) hR (T11_o t0) rfl (nn_114 hR t0))) ?_
  refine Rn.n hT 1 (pc' := 5) (L' := [some (.ref q0), some (.int m1), some (.int m2)]) (st' := [.int m1, .ref ((s q0 4).toNat)]) rfl ?_
  obtain ⟨v_2052, e_2052, e⟩ := Option.bind_eq_some_iff.mp e
  refine Rn.call hT rfl rfl rfl (Nat.le_of_ble_eq_true rfl) (rcv_v gX2_isRoom (by omega) (rp_ck hR (T2_o (ty_114 hR t0)))) (RX2_isRoom (by omega) hR (ty_114 hR t0) p1 e_2052 (fun z_2052 p_2052 => ?_))
  show Rn d _ _ 8 [some (.ref q0), some (.int m1), some (.int m2)] [.int z_2052] h Q
  by_cases c_2053 : v_2052 = 0
  · rw [if_pos c_2053] at e
    refine Rn.bt hT rfl rfl rfl (decide_eq_true ((ti_e p_2052 L32_0).mpr c_2053)) ?_
    exact Rn.weak (ll_n (ll_n (ll_n ll_e))) (RX11_steps_b22 hd hR hq e)
  · rw [if_neg c_2053] at e
    refine Rn.bf hT rfl rfl rfl (decide_eq_false (fun z => c_2053 ((ti_e p_2052 L32_0).mp z))) ?_
    refine Rn.n hT 1 (pc' := 12) (L' := [some (.ref q0), some (.int m1), some (.int m2)]) (st' := [.ref q0]) rfl ?_
    refine Rn.hp hT rfl rfl (gR_hp (rp_gP (k := 4) hR (T11_o t0) rfl (nn_114 hR t0))) ?_
    refine Rn.n hT 1 (pc' := 16) (L' := [some (.ref q0), some (.int m1), some (.int m2)]) (st' := [.int m2, .ref ((s q0 4).toNat)]) rfl ?_
    obtain ⟨v_2054, e_2054, e⟩ := Option.bind_eq_some_iff.mp e
    refine Rn.call hT rfl rfl rfl (Nat.le_of_ble_eq_true rfl) (rcv_v gX2_isRoom (by omega) (rp_ck hR (T2_o (ty_114 hR t0)))) (RX2_isRoom (by omega) hR (ty_114 hR t0) p2 e_2054 (fun z_2054 p_2054 => ?_))
    show Rn d _ _ 19 [some (.ref q0), some (.int m1), some (.int m2)] [.int z_2054] h Q
    by_cases c_2055 : v_2054 = 0
    · rw [if_pos c_2055] at e
      refine Rn.bf hT rfl rfl rfl (decide_eq_false (fun z => z ((ti_e p_2054 L32_0).mpr c_2055))) ?_
      exact Rn.weak (ll_n (ll_n (ll_n ll_e))) (RX11_steps_b22 hd hR hq e)
    · rw [if_neg c_2055] at e
      refine Rn.bt hT rfl rfl rfl (decide_eq_true (fun z => c_2055 ((ti_e p_2054 L32_0).mp z))) ?_
      refine Rn.n hT 1 (pc' := 25) (L' := [some (.ref q0), some (.int m1), some (.int m2)]) (st' := [.ref q0]) rfl ?_
      refine Rn.hp hT rfl rfl (gR_hp (rp_gR hR (T11_o t0) rfl)) ?_
      refine Rn.n hT 1 (pc' := 29) (L' := [some (.ref q0), some (.int m1), some (.int m2)]) (st' := [.ref q0, .ref (q0 + 98)]) rfl ?_
      refine Rn.hp hT rfl rfl (gR_hp (rp_gP (k := 4) hR (T11_o t0) rfl (nn_114 hR t0))) ?_
      refine Rn.n hT 1 (pc' := 33) (L' := [some (.ref q0), some (.int m1), some (.int m2)]) (st' := [.int m1, .ref ((s q0 4).toNat), .ref (q0 + 98)]) rfl ?_
      obtain ⟨s_2057, e_2056, e⟩ := Option.bind_eq_some_iff.mp e
      refine Rn.call hT rfl rfl rfl (Nat.le_of_ble_eq_true rfl) (rcv_v gX0_spread (by omega) (rp_ck hR (T0_o (T11_12 t0)))) (RX0_spread (by omega) hR (T11_12 t0) (ty_114 hR t0) p1 e_2056 (fun h_2057 R_2057 => ?_))
      show Rn d _ _ 36 [some (.ref q0), some (.int m1), some (.int m2)] [] h_2057 Q
      refine Rn.n hT 1 (pc' := 37) (L' := [some (.ref q0), some (.int m1), some (.int m2)]) (st' := [.ref q0]) rfl ?_
      refine Rn.hp hT rfl rfl (gR_hp (rp_gR R_2057 (T11_o t0) rfl)) ?_
      refine Rn.n hT 1 (pc' := 41) (L' := [some (.ref q0), some (.int m1), some (.int m2)]) (st' := [.int m2, .ref (q0 + 98)]) rfl ?_
      obtain ⟨v_2058, e_2058, e⟩ := Option.bind_eq_some_iff.mp e
      refine Rn.call hT rfl rfl rfl (Nat.le_of_ble_eq_true rfl) (rcv_v gX0_fewest (by omega) (rp_ck R_2057 (T0_o (T11_12 t0)))) (RX0_fewest (by omega) R_2057 (T11_12 t0) p2 e_2058 (fun z_2058 p_2058 => ?_))
      show Rn d _ _ 44 [some (.ref q0), some (.int m1), some (.int m2)] [.int z_2058] h_2057 Q
      obtain rfl := Option.some.inj e
      exact Rn.ret hT rfl rfl rfl (hq z_2058 h_2057 p_2058 R_2057)
set_option maxRecDepth 10000 in
theorem hX11_reach : iv_Tb 169 tX11_reach := iv_tb_of (m := mX11_reach) rfl
set_option maxRecDepth 10000 in
theorem gX11_reach : PG.2 169 = some mX11_reach := iv_pi_of (t := tX11_reach) rfl (by decide)
def FX11_reach_b20 (N : Nat) (s : iv_M)   : Option (Int × iv_M) := (some ((-1), s))
set_option maxRecDepth 10000 in
set_option maxHeartbeats 4000000 in
theorem RX11_reach_b20 {d N nc Ls : Nat} {Xs : Nat → Int32} (hd : 3 ≤ d) {h : iv_H} {s : iv_M} (hR : Rep nc Ls Xs h s)   {r : Int × iv_M} {Q : Option Value → iv_H → Prop} (hq : ∀ (z : Int32) (h1 : iv_H), z.toInt = r.1 → Rep nc Ls Xs h1 r.2 → Q (some (.int z)) h1) (e : FX11_reach_b20 N s   = some r) : Rn d 169 (some .int) 20 [none, none, none] [] h Q := by
  have hT := hX11_reach
  unfold FX11_reach_b20 at e
  refine Rn.n hT 1 (pc' := 21) (L' := [none, none, none]) (st' := [.int (-1 : Int32)]) rfl ?_
  obtain rfl := Option.some.inj e
  exact Rn.ret hT rfl rfl rfl (hq (-1 : Int32) h L32_m1 hR)
def FX11_reach_b55 (N : Nat) (s : iv_M)  (xs0 : Int) : Option (Int × iv_M) := (some (xs0, s))
set_option maxRecDepth 10000 in
set_option maxHeartbeats 4000000 in
theorem RX11_reach_b55 {d N nc Ls : Nat} {Xs : Nat → Int32} (hd : 3 ≤ d) {h : iv_H} {s : iv_M} (hR : Rep nc Ls Xs h s)  {ms0 : Int32} {xs0 : Int} (ps0 : ms0.toInt = xs0) {r : Int × iv_M} {Q : Option Value → iv_H → Prop} (hq : ∀ (z : Int32) (h1 : iv_H), z.toInt = r.1 → Rep nc Ls Xs h1 r.2 → Q (some (.int z)) h1) (e : FX11_reach_b55 N s  xs0 = some r) : Rn d 169 (some .int) 55 [none, none, none] [.int ms0] h Q := by
  have hT := hX11_reach
  unfold FX11_reach_b55 at e
  obtain rfl := Option.some.inj e
  exact Rn.ret hT rfl rfl rfl (hq ms0 h ps0 hR)
def FX11_reach (N : Nat) (s : iv_M) (q0 : Nat) (x1 : Int) (x2 : Int) : Option (Int × iv_M) := ((FX2_isRoom N s ((s q0 4).toNat) x1).bind fun v_2059 => (if v_2059 = 0 then (FX11_reach_b20 N s) else (if x2 < 0 then (FX11_reach_b20 N s) else (if x2 ≤ 1 then ((FX0_spread N s (q0 + 98) ((s q0 4).toNat) x1).bind fun s_2064 => (if x2 = 0 then ((FX0_reachedRooms N s_2064 (q0 + 98)).bind fun v_2067 => (FX11_reach_b55 N s_2064 v_2067)) else ((FX0_reachedKeys N s_2064 (q0 + 98)).bind fun v_2066 => (FX11_reach_b55 N s_2064 v_2066)))) else (FX11_reach_b20 N s)))))
set_option maxRecDepth 10000 in
set_option maxHeartbeats 4000000 in
theorem RX11_reach {d N nc Ls : Nat} {Xs : Nat → Int32} (hd : 4 ≤ d) {h : iv_H} {s : iv_M} (hR : Rep nc Ls Xs h s) {q0 : Nat} (t0 : T11 nc q0) {m1 : Int32} {x1 : Int} (p1 : m1.toInt = x1) {m2 : Int32} {x2 : Int} (p2 : m2.toInt = x2) {r : Int × iv_M} {Q : Option Value → iv_H → Prop} (e : FX11_reach N s q0 x1 x2 = some r) (hq : ∀ (z : Int32) (h1 : iv_H), z.toInt = r.1 → Rep nc Ls Xs h1 r.2 → Q (some (.int z)) h1) : Cl d 169 [.ref q0, .int m1, .int m2] h Q := by
  obtain ⟨d, rfl⟩ : ∃ k, d = k + 1 := ⟨d - 1, by omega⟩
  have hd : 3 ≤ d := by omega
  have hT := hX11_reach
  unfold FX11_reach at e
  refine Cl.into (by decide) gX11_reach rfl ?_
  show Rn d 169 (some .int) 0 [some (.ref q0), some (.int m1), some (.int m2)] [] h Q
  refine Rn.n hT 1 (pc' := 1) (L' := [some (.ref q0), some (.int m1), some (.int m2)]) (st' := [.ref q0]) rfl ?_
  refine Rn.hp hT rfl rfl (gR_hp (rp_gP (k := 4) hR (T11_o t0) rfl (nn_114 hR t0))) ?_
  refine Rn.n hT 1 (pc' := 5) (L' := [some (.ref q0), some (.int m1), some (.int m2)]) (st' := [.int m1, .ref ((s q0 4).toNat)]) rfl ?_
  obtain ⟨v_2059, e_2059, e⟩ := Option.bind_eq_some_iff.mp e
  refine Rn.call hT rfl rfl rfl (Nat.le_of_ble_eq_true rfl) (rcv_v gX2_isRoom (by omega) (rp_ck hR (T2_o (ty_114 hR t0)))) (RX2_isRoom (by omega) hR (ty_114 hR t0) p1 e_2059 (fun z_2059 p_2059 => ?_))
  show Rn d _ _ 8 [some (.ref q0), some (.int m1), some (.int m2)] [.int z_2059] h Q
  by_cases c_2060 : v_2059 = 0
  · rw [if_pos c_2060] at e
    refine Rn.bt hT rfl rfl rfl (decide_eq_true ((ti_e p_2059 L32_0).mpr c_2060)) ?_
    exact Rn.weak (ll_n (ll_n (ll_n ll_e))) (RX11_reach_b20 hd hR hq e)
  · rw [if_neg c_2060] at e
    refine Rn.bf hT rfl rfl rfl (decide_eq_false (fun z => c_2060 ((ti_e p_2059 L32_0).mp z))) ?_
    refine Rn.n hT 1 (pc' := 12) (L' := [some (.ref q0), some (.int m1), some (.int m2)]) (st' := [.int m2]) rfl ?_
    by_cases c_2061 : x2 < 0
    · rw [if_pos c_2061] at e
      refine Rn.bt hT rfl rfl rfl (decide_eq_true ((ti_l p2 L32_0).mpr c_2061)) ?_
      exact Rn.weak (ll_n (ll_n (ll_n ll_e))) (RX11_reach_b20 hd hR hq e)
    · rw [if_neg c_2061] at e
      refine Rn.bf hT rfl rfl rfl (decide_eq_false (fun z => c_2061 ((ti_l p2 L32_0).mp z))) ?_
      refine Rn.n hT 2 (pc' := 17) (L' := [some (.ref q0), some (.int m1), some (.int m2)]) (st' := [.int (1 : Int32), .int m2]) rfl ?_
      by_cases c_2062 : x2 ≤ 1
      · rw [if_pos c_2062] at e
        refine Rn.bt hT rfl rfl rfl (decide_eq_true ((ti_le p2 L32_1).mpr c_2062)) ?_
        refine Rn.n hT 1 (pc' := 23) (L' := [some (.ref q0), some (.int m1), some (.int m2)]) (st' := [.ref q0]) rfl ?_
        refine Rn.hp hT rfl rfl (gR_hp (rp_gR hR (T11_o t0) rfl)) ?_
        refine Rn.n hT 1 (pc' := 27) (L' := [some (.ref q0), some (.int m1), some (.int m2)]) (st' := [.ref q0, .ref (q0 + 98)]) rfl ?_
        refine Rn.hp hT rfl rfl (gR_hp (rp_gP (k := 4) hR (T11_o t0) rfl (nn_114 hR t0))) ?_
        refine Rn.n hT 1 (pc' := 31) (L' := [some (.ref q0), some (.int m1), some (.int m2)]) (st' := [.int m1, .ref ((s q0 4).toNat), .ref (q0 + 98)]) rfl ?_
        obtain ⟨s_2064, e_2063, e⟩ := Option.bind_eq_some_iff.mp e
        refine Rn.call hT rfl rfl rfl (Nat.le_of_ble_eq_true rfl) (rcv_v gX0_spread (by omega) (rp_ck hR (T0_o (T11_12 t0)))) (RX0_spread (by omega) hR (T11_12 t0) (ty_114 hR t0) p1 e_2063 (fun h_2064 R_2064 => ?_))
        show Rn d _ _ 34 [some (.ref q0), some (.int m1), some (.int m2)] [] h_2064 Q
        refine Rn.n hT 1 (pc' := 35) (L' := [some (.ref q0), some (.int m1), some (.int m2)]) (st' := [.int m2]) rfl ?_
        by_cases c_2065 : x2 = 0
        · rw [if_pos c_2065] at e
          refine Rn.bf hT rfl rfl rfl (decide_eq_false (fun z => z ((ti_e p2 L32_0).mpr c_2065))) ?_
          refine Rn.n hT 1 (pc' := 39) (L' := [some (.ref q0), some (.int m1), some (.int m2)]) (st' := [.ref q0]) rfl ?_
          refine Rn.hp hT rfl rfl (gR_hp (rp_gR R_2064 (T11_o t0) rfl)) ?_
          obtain ⟨v_2067, e_2067, e⟩ := Option.bind_eq_some_iff.mp e
          refine Rn.call hT rfl rfl rfl (Nat.le_of_ble_eq_true rfl) (rcv_v gX0_reachedRooms (by omega) (rp_ck R_2064 (T0_o (T11_12 t0)))) (RX0_reachedRooms (by omega) R_2064 (T11_12 t0) e_2067 (fun z_2067 p_2067 => ?_))
          show Rn d _ _ 45 [some (.ref q0), some (.int m1), some (.int m2)] [.int z_2067] h_2064 Q
          refine Rn.n hT 1 (pc' := 55) (L' := [some (.ref q0), some (.int m1), some (.int m2)]) (st' := [.int z_2067]) rfl ?_
          exact Rn.weak (ll_n (ll_n (ll_n ll_e))) (RX11_reach_b55 hd R_2064 p_2067 hq e)
        · rw [if_neg c_2065] at e
          refine Rn.bt hT rfl rfl rfl (decide_eq_true (fun z => c_2065 ((ti_e p2 L32_0).mp z))) ?_
          refine Rn.n hT 1 (pc' := 49) (L' := [some (.ref q0), some (.int m1), some (.int m2)]) (st' := [.ref q0]) rfl ?_
          refine Rn.hp hT rfl rfl (gR_hp (rp_gR R_2064 (T11_o t0) rfl)) ?_
          obtain ⟨v_2066, e_2066, e⟩ := Option.bind_eq_some_iff.mp e
          refine Rn.call hT rfl rfl rfl (Nat.le_of_ble_eq_true rfl) (rcv_v gX0_reachedKeys (by omega) (rp_ck R_2064 (T0_o (T11_12 t0)))) (RX0_reachedKeys (by omega) R_2064 (T11_12 t0) e_2066 (fun z_2066 p_2066 => ?_))
          show Rn d _ _ 55 [some (.ref q0), some (.int m1), some (.int m2)] [.int z_2066] h_2064 Q
          exact Rn.weak (ll_n (ll_n (ll_n ll_e))) (RX11_reach_b55 hd R_2064 p_2066 hq e)
      · rw [if_neg c_2062] at e
        refine Rn.bf hT rfl rfl rfl (decide_eq_false (fun z => c_2062 ((ti_le p2 L32_1).mp z))) ?_
        exact Rn.weak (ll_n (ll_n (ll_n ll_e))) (RX11_reach_b20 hd hR hq e)
set_option maxRecDepth 10000 in
theorem hX11_gossip : iv_Tb 170 tX11_gossip := iv_tb_of (m := mX11_gossip) rfl
set_option maxRecDepth 10000 in
theorem gX11_gossip : PG.2 170 = some mX11_gossip := iv_pi_of (t := tX11_gossip) rfl (by decide)
def FX11_gossip_b21 (N : Nat) (s : iv_M)   : Option (Int) := (some (-1))
set_option maxRecDepth 10000 in
set_option maxHeartbeats 4000000 in
theorem RX11_gossip_b21 {d N nc Ls : Nat} {Xs : Nat → Int32} (hd : 4 ≤ d) {h : iv_H} {s : iv_M} (hR : Rep nc Ls Xs h s)   {r : Int} {Q : Option Value → iv_H → Prop} (hq : ∀ (z : Int32), z.toInt = r → Q (some (.int z)) h) (e : FX11_gossip_b21 N s   = some r) : Rn d 170 (some .int) 21 [none, none, none] [] h Q := by
  have hT := hX11_gossip
  unfold FX11_gossip_b21 at e
  refine Rn.n hT 1 (pc' := 22) (L' := [none, none, none]) (st' := [.int (-1 : Int32)]) rfl ?_
  obtain rfl := Option.some.inj e
  exact Rn.ret hT rfl rfl rfl (hq (-1 : Int32) L32_m1)
def FX11_gossip (N : Nat) (s : iv_M) (q0 : Nat) (x1 : Int) (x2 : Int) : Option (Int) := ((FX2_isRoom N s ((s q0 4).toNat) x1).bind fun v_2068 => (if v_2068 = 0 then (FX11_gossip_b21 N s) else (if x2 < 0 then (FX11_gossip_b21 N s) else (if x2 ≤ 16 then ((FX0_hearing N s (q0 + 98) ((s q0 4).toNat) x1 x2).bind fun v_2072 => ((FJ6_bitCount_0f7a4 N s v_2072).bind fun v_2073 => (some v_2073))) else (FX11_gossip_b21 N s)))))
set_option maxRecDepth 10000 in
set_option maxHeartbeats 4000000 in
theorem RX11_gossip {d N nc Ls : Nat} {Xs : Nat → Int32} (hd : 5 ≤ d) {h : iv_H} {s : iv_M} (hR : Rep nc Ls Xs h s) {q0 : Nat} (t0 : T11 nc q0) {m1 : Int32} {x1 : Int} (p1 : m1.toInt = x1) {m2 : Int32} {x2 : Int} (p2 : m2.toInt = x2) {r : Int} {Q : Option Value → iv_H → Prop} (e : FX11_gossip N s q0 x1 x2 = some r) (hq : ∀ (z : Int32), z.toInt = r → Q (some (.int z)) h) : Cl d 170 [.ref q0, .int m1, .int m2] h Q := by
  obtain ⟨d, rfl⟩ : ∃ k, d = k + 1 := ⟨d - 1, by omega⟩
  have hd : 4 ≤ d := by omega
  have hT := hX11_gossip
  unfold FX11_gossip at e
  refine Cl.into (by decide) gX11_gossip rfl ?_
  show Rn d 170 (some .int) 0 [some (.ref q0), some (.int m1), some (.int m2)] [] h Q
  refine Rn.n hT 1 (pc' := 1) (L' := [some (.ref q0), some (.int m1), some (.int m2)]) (st' := [.ref q0]) rfl ?_
  refine Rn.hp hT rfl rfl (gR_hp (rp_gP (k := 4) hR (T11_o t0) rfl (nn_114 hR t0))) ?_
  refine Rn.n hT 1 (pc' := 5) (L' := [some (.ref q0), some (.int m1), some (.int m2)]) (st' := [.int m1, .ref ((s q0 4).toNat)]) rfl ?_
  obtain ⟨v_2068, e_2068, e⟩ := Option.bind_eq_some_iff.mp e
  refine Rn.call hT rfl rfl rfl (Nat.le_of_ble_eq_true rfl) (rcv_v gX2_isRoom (by omega) (rp_ck hR (T2_o (ty_114 hR t0)))) (RX2_isRoom (by omega) hR (ty_114 hR t0) p1 e_2068 (fun z_2068 p_2068 => ?_))
  show Rn d _ _ 8 [some (.ref q0), some (.int m1), some (.int m2)] [.int z_2068] h Q
  by_cases c_2069 : v_2068 = 0
  · rw [if_pos c_2069] at e
    refine Rn.bt hT rfl rfl rfl (decide_eq_true ((ti_e p_2068 L32_0).mpr c_2069)) ?_
    exact Rn.weak (ll_n (ll_n (ll_n ll_e))) (RX11_gossip_b21 hd hR hq e)
  · rw [if_neg c_2069] at e
    refine Rn.bf hT rfl rfl rfl (decide_eq_false (fun z => c_2069 ((ti_e p_2068 L32_0).mp z))) ?_
    refine Rn.n hT 1 (pc' := 12) (L' := [some (.ref q0), some (.int m1), some (.int m2)]) (st' := [.int m2]) rfl ?_
    by_cases c_2070 : x2 < 0
    · rw [if_pos c_2070] at e
      refine Rn.bt hT rfl rfl rfl (decide_eq_true ((ti_l p2 L32_0).mpr c_2070)) ?_
      exact Rn.weak (ll_n (ll_n (ll_n ll_e))) (RX11_gossip_b21 hd hR hq e)
    · rw [if_neg c_2070] at e
      refine Rn.bf hT rfl rfl rfl (decide_eq_false (fun z => c_2070 ((ti_l p2 L32_0).mp z))) ?_
      refine Rn.n hT 2 (pc' := 18) (L' := [some (.ref q0), some (.int m1), some (.int m2)]) (st' := [.int (16 : Int32), .int m2]) rfl ?_
      by_cases c_2071 : x2 ≤ 16
      · rw [if_pos c_2071] at e
        refine Rn.bt hT rfl rfl rfl (decide_eq_true ((ti_le p2 L32_16).mpr c_2071)) ?_
        refine Rn.n hT 1 (pc' := 24) (L' := [some (.ref q0), some (.int m1), some (.int m2)]) (st' := [.ref q0]) rfl ?_
        refine Rn.hp hT rfl rfl (gR_hp (rp_gR hR (T11_o t0) rfl)) ?_
        refine Rn.n hT 1 (pc' := 28) (L' := [some (.ref q0), some (.int m1), some (.int m2)]) (st' := [.ref q0, .ref (q0 + 98)]) rfl ?_
        refine Rn.hp hT rfl rfl (gR_hp (rp_gP (k := 4) hR (T11_o t0) rfl (nn_114 hR t0))) ?_
        refine Rn.n hT 2 (pc' := 33) (L' := [some (.ref q0), some (.int m1), some (.int m2)]) (st' := [.int m2, .int m1, .ref ((s q0 4).toNat), .ref (q0 + 98)]) rfl ?_
        obtain ⟨v_2072, e_2072, e⟩ := Option.bind_eq_some_iff.mp e
        refine Rn.call hT rfl rfl rfl (Nat.le_of_ble_eq_true rfl) (rcv_v gX0_hearing (by omega) (rp_ck hR (T0_o (T11_12 t0)))) (RX0_hearing (by omega) hR (T11_12 t0) (ty_114 hR t0) p1 p2 e_2072 (fun z_2072 p_2072 => ?_))
        show Rn d _ _ 36 [some (.ref q0), some (.int m1), some (.int m2)] [.int z_2072] h Q
        obtain ⟨v_2073, e_2073, e⟩ := Option.bind_eq_some_iff.mp e
        refine Rn.call hT rfl rfl rfl (Nat.le_of_ble_eq_true rfl) rfl (RJ6_bitCount_0f7a4 (by omega) hR p_2072 e_2073 (fun z_2073 p_2073 => ?_))
        show Rn d _ _ 39 [some (.ref q0), some (.int m1), some (.int m2)] [.int z_2073] h Q
        obtain rfl := Option.some.inj e
        exact Rn.ret hT rfl rfl rfl (hq z_2073 p_2073)
      · rw [if_neg c_2071] at e
        refine Rn.bf hT rfl rfl rfl (decide_eq_false (fun z => c_2071 ((ti_le p2 L32_16).mp z))) ?_
        exact Rn.weak (ll_n (ll_n (ll_n ll_e))) (RX11_gossip_b21 hd hR hq e)
set_option maxRecDepth 10000 in
theorem hX11_almanac : iv_Tb 171 tX11_almanac := iv_tb_of (m := mX11_almanac) rfl
set_option maxRecDepth 10000 in
theorem gX11_almanac : PG.2 171 = some mX11_almanac := iv_pi_of (t := tX11_almanac) rfl (by decide)
def FX11_almanac_b67 (N : Nat) (s : iv_M)  (xs0 : Int) : Option (Int × iv_M) := (some (xs0, s))
set_option maxRecDepth 10000 in
set_option maxHeartbeats 4000000 in
theorem RX11_almanac_b67 {d N nc Ls : Nat} {Xs : Nat → Int32} (hd : 2 ≤ d) {h : iv_H} {s : iv_M} (hR : Rep nc Ls Xs h s)  {ms0 : Int32} {xs0 : Int} (ps0 : ms0.toInt = xs0) {r : Int × iv_M} {Q : Option Value → iv_H → Prop} (hq : ∀ (z : Int32) (h1 : iv_H), z.toInt = r.1 → Rep nc Ls Xs h1 r.2 → Q (some (.int z)) h1) (e : FX11_almanac_b67 N s  xs0 = some r) : Rn d 171 (some .int) 67 [none, none, none, none, none] [.int ms0] h Q := by
  have hT := hX11_almanac
  unfold FX11_almanac_b67 at e
  obtain rfl := Option.some.inj e
  exact Rn.ret hT rfl rfl rfl (hq ms0 h ps0 hR)
def FX11_almanac_b65 (N : Nat) (s : iv_M)   : Option (Int × iv_M) := (FX11_almanac_b67 N s (-2))
set_option maxRecDepth 10000 in
set_option maxHeartbeats 4000000 in
theorem RX11_almanac_b65 {d N nc Ls : Nat} {Xs : Nat → Int32} (hd : 2 ≤ d) {h : iv_H} {s : iv_M} (hR : Rep nc Ls Xs h s)   {r : Int × iv_M} {Q : Option Value → iv_H → Prop} (hq : ∀ (z : Int32) (h1 : iv_H), z.toInt = r.1 → Rep nc Ls Xs h1 r.2 → Q (some (.int z)) h1) (e : FX11_almanac_b65 N s   = some r) : Rn d 171 (some .int) 65 [none, none, none, none, none] [] h Q := by
  have hT := hX11_almanac
  unfold FX11_almanac_b65 at e
  refine Rn.n hT 1 (pc' := 67) (L' := [none, none, none, none, none]) (st' := [.int (-2 : Int32)]) rfl ?_
  exact Rn.weak (ll_n (ll_n (ll_n (ll_n (ll_n ll_e))))) (RX11_almanac_b67 hd hR L32_m2 hq e)
def FX11_almanac (N : Nat) (s : iv_M) (q0 : Nat) (x1 : Int) (x2 : Int) (x3 : Int) : Option (Int × iv_M) := (if x1 = (-1) then ((pt s ((s q0 4).toNat + 16) 1 0).bind fun s_2081 => (some (0, s_2081))) else ((FX2_walkOf N s ((s q0 4).toNat) x1 x2 x3).bind fun v_2075 => (if v_2075 = (-1) then (FX11_almanac_b65 N s) else ((FX7_add N s ((s q0 4).toNat + 16) v_2075).bind fun r_2077 => (fun (v_2077 : Int) (s_2078 : iv_M) => (if v_2077 = 0 then (FX11_almanac_b65 N s_2078) else (FX11_almanac_b67 N s_2078 (s_2078 ((s_2078 q0 4).toNat + 16) 1)))) r_2077.1 r_2077.2))))
set_option maxRecDepth 10000 in
set_option maxHeartbeats 4000000 in
theorem RX11_almanac {d N nc Ls : Nat} {Xs : Nat → Int32} (hd : 3 ≤ d) {h : iv_H} {s : iv_M} (hR : Rep nc Ls Xs h s) {q0 : Nat} (t0 : T11 nc q0) {m1 : Int32} {x1 : Int} (p1 : m1.toInt = x1) {m2 : Int32} {x2 : Int} (p2 : m2.toInt = x2) {m3 : Int32} {x3 : Int} (p3 : m3.toInt = x3) {r : Int × iv_M} {Q : Option Value → iv_H → Prop} (e : FX11_almanac N s q0 x1 x2 x3 = some r) (hq : ∀ (z : Int32) (h1 : iv_H), z.toInt = r.1 → Rep nc Ls Xs h1 r.2 → Q (some (.int z)) h1) : Cl d 171 [.ref q0, .int m1, .int m2, .int m3] h Q := by
  obtain ⟨d, rfl⟩ : ∃ k, d = k + 1 := ⟨d - 1, by omega⟩
  have hd : 2 ≤ d := by omega
  have hT := hX11_almanac
  unfold FX11_almanac at e
  refine Cl.into (by decide) gX11_almanac rfl ?_
  show Rn d 171 (some .int) 0 [some (.ref q0), some (.int m1), some (.int m2), some (.int m3), none] [] h Q
  refine Rn.n hT 2 (pc' := 2) (L' := [some (.ref q0), some (.int m1), some (.int m2), some (.int m3), none]) (st' := [.int (-1 : Int32), .int m1]) rfl ?_
  by_cases c_2074 : x1 = (-1)
  · rw [if_pos c_2074] at e
    refine Rn.bf hT rfl rfl rfl (decide_eq_false (fun z => z ((ti_e p1 L32_m1).mpr c_2074))) ?_
    refine Rn.n hT 1 (pc' := 6) (L' := [some (.ref q0), some (.int m1), some (.int m2), some (.int m3), none]) (st' := [.ref q0]) rfl ?_
    refine Rn.hp hT rfl rfl (gR_hp (rp_gP (k := 4) hR (T11_o t0) rfl (nn_114 hR t0))) ?_
    refine Rn.hp hT rfl rfl (gR_hp (rp_gR hR (T2_o (ty_114 hR t0)) rfl)) ?_
    refine Rn.n hT 1 (pc' := 13) (L' := [some (.ref q0), some (.int m1), some (.int m2), some (.int m3), none]) (st' := [.int (0 : Int32), .ref ((s q0 4).toNat + 16)]) rfl ?_
    obtain ⟨s_2081, e_2082, e⟩ := Option.bind_eq_some_iff.mp e
    obtain ⟨h_2081, g_2082, R_2081⟩ := rp_pI (ci := 7) (k := 1) hR (T7_o (T2_16 (ty_114 hR t0))) rfl rfl L32_0 e_2082
    refine Rn.hp hT rfl rfl (pV_hp rfl g_2082) ?_
    refine Rn.n hT 1 (pc' := 17) (L' := [some (.ref q0), some (.int m1), some (.int m2), some (.int m3), none]) (st' := [.int (0 : Int32)]) rfl ?_
    obtain rfl := Option.some.inj e
    exact Rn.ret hT rfl rfl rfl (hq (0 : Int32) h_2081 L32_0 R_2081)
  · rw [if_neg c_2074] at e
    refine Rn.bt hT rfl rfl rfl (decide_eq_true (fun z => c_2074 ((ti_e p1 L32_m1).mp z))) ?_
    refine Rn.n hT 1 (pc' := 19) (L' := [some (.ref q0), some (.int m1), some (.int m2), some (.int m3), none]) (st' := [.ref q0]) rfl ?_
    refine Rn.hp hT rfl rfl (gR_hp (rp_gP (k := 4) hR (T11_o t0) rfl (nn_114 hR t0))) ?_
    refine Rn.n hT 3 (pc' := 25) (L' := [some (.ref q0), some (.int m1), some (.int m2), some (.int m3), none]) (st' := [.int m3, .int m2, .int m1, .ref ((s q0 4).toNat)]) rfl ?_
    obtain ⟨v_2075, e_2075, e⟩ := Option.bind_eq_some_iff.mp e
    refine Rn.call hT rfl rfl rfl (Nat.le_of_ble_eq_true rfl) (rcv_v gX2_walkOf (by omega) (rp_ck hR (T2_o (ty_114 hR t0)))) (RX2_walkOf (by omega) hR (ty_114 hR t0) p1 p2 p3 e_2075 (fun z_2075 p_2075 => ?_))
    show Rn d _ _ 28 [some (.ref q0), some (.int m1), some (.int m2), some (.int m3), none] [.int z_2075] h Q
    refine Rn.n hT 3 (pc' := 33) (L' := [some (.ref q0), some (.int m1), some (.int m2), some (.int m3), some (.int z_2075)]) (st' := [.int (-1 : Int32), .int z_2075]) rfl ?_
    by_cases c_2076 : v_2075 = (-1)
    · rw [if_pos c_2076] at e
      refine Rn.bt hT rfl rfl rfl (decide_eq_true ((ti_e p_2075 L32_m1).mpr c_2076)) ?_
      exact Rn.weak (ll_n (ll_n (ll_n (ll_n (ll_n ll_e))))) (RX11_almanac_b65 hd hR hq e)
    · rw [if_neg c_2076] at e
      refine Rn.bf hT rfl rfl rfl (decide_eq_false (fun z => c_2076 ((ti_e p_2075 L32_m1).mp z))) ?_
      refine Rn.n hT 1 (pc' := 37) (L' := [some (.ref q0), some (.int m1), some (.int m2), some (.int m3), some (.int z_2075)]) (st' := [.ref q0]) rfl ?_
      refine Rn.hp hT rfl rfl (gR_hp (rp_gP (k := 4) hR (T11_o t0) rfl (nn_114 hR t0))) ?_
      refine Rn.hp hT rfl rfl (gR_hp (rp_gR hR (T2_o (ty_114 hR t0)) rfl)) ?_
      refine Rn.n hT 2 (pc' := 46) (L' := [some (.ref q0), some (.int m1), some (.int m2), some (.int m3), some (.int z_2075)]) (st' := [.long ((z_2075).toInt64), .ref ((s q0 4).toNat + 16)]) rfl ?_
      obtain ⟨⟨v_2077, s_2078⟩, e_2077, e⟩ := Option.bind_eq_some_iff.mp e
      try dsimp only at e
      try dsimp only at e
      refine Rn.call hT rfl rfl rfl (Nat.le_of_ble_eq_true rfl) (rcv_v gX7_add (by omega) (rp_ck hR (T7_o (T2_16 (ty_114 hR t0))))) (RX7_add (by omega) hR (T2_16 (ty_114 hR t0)) (ti_j p_2075) e_2077 (fun z_2077 h_2078 p_2077 R_2078 => ?_))
      show Rn d _ _ 49 [some (.ref q0), some (.int m1), some (.int m2), some (.int m3), some (.int z_2075)] [.int z_2077] h_2078 Q
      by_cases c_2079 : v_2077 = 0
      · rw [if_pos c_2079] at e
        refine Rn.bt hT rfl rfl rfl (decide_eq_true ((ti_e p_2077 L32_0).mpr c_2079)) ?_
        exact Rn.weak (ll_n (ll_n (ll_n (ll_n (ll_n ll_e))))) (RX11_almanac_b65 hd R_2078 hq e)
      · rw [if_neg c_2079] at e
        refine Rn.bf hT rfl rfl rfl (decide_eq_false (fun z => c_2079 ((ti_e p_2077 L32_0).mp z))) ?_
        refine Rn.n hT 1 (pc' := 53) (L' := [some (.ref q0), some (.int m1), some (.int m2), some (.int m3), some (.int z_2075)]) (st' := [.ref q0]) rfl ?_
        refine Rn.hp hT rfl rfl (gR_hp (rp_gP (k := 4) R_2078 (T11_o t0) rfl (nn_114 R_2078 t0))) ?_
        refine Rn.hp hT rfl rfl (gR_hp (rp_gR R_2078 (T2_o (ty_114 R_2078 t0)) rfl)) ?_
        obtain ⟨z_2080, g_2080, p_2080⟩ : ∃ z : Int32, gI h_2078 7 1 ((s_2078 q0 4).toNat + 16) = some z ∧ z.toInt = s_2078 ((s_2078 q0 4).toNat + 16) 1 := rp_gI (k := 1) R_2078 (T7_o (T2_16 (ty_114 R_2078 t0))) rfl
        refine Rn.hp hT rfl rfl (gI_hp g_2080) ?_
        refine Rn.n hT 1 (pc' := 67) (L' := [some (.ref q0), some (.int m1), some (.int m2), some (.int m3), some (.int z_2075)]) (st' := [.int z_2080]) rfl ?_
        exact Rn.weak (ll_n (ll_n (ll_n (ll_n (ll_n ll_e))))) (RX11_almanac_b67 hd R_2078 p_2080 hq e)
set_option maxRecDepth 10000 in
theorem hX11_would : iv_Tb 172 tX11_would := iv_tb_of (m := mX11_would) rfl
set_option maxRecDepth 10000 in
theorem gX11_would : PG.2 172 = some mX11_would := iv_pi_of (t := tX11_would) rfl (by decide)
def FX11_would_b38 (N : Nat) (s : iv_M)   : Option (Int × iv_M) := (some ((-1), s))
set_option maxRecDepth 10000 in
set_option maxHeartbeats 4000000 in
theorem RX11_would_b38 {d N nc Ls : Nat} {Xs : Nat → Int32} (hd : 6 ≤ d) {h : iv_H} {s : iv_M} (hR : Rep nc Ls Xs h s)   {r : Int × iv_M} {Q : Option Value → iv_H → Prop} (hq : ∀ (z : Int32) (h1 : iv_H), z.toInt = r.1 → Rep nc Ls Xs h1 r.2 → Q (some (.int z)) h1) (e : FX11_would_b38 N s   = some r) : Rn d 172 (some .int) 38 [none, none, none, none] [] h Q := by
  have hT := hX11_would
  unfold FX11_would_b38 at e
  refine Rn.n hT 1 (pc' := 39) (L' := [none, none, none, none]) (st' := [.int (-1 : Int32)]) rfl ?_
  obtain rfl := Option.some.inj e
  exact Rn.ret hT rfl rfl rfl (hq (-1 : Int32) h L32_m1 hR)
def FX11_would_b100 (N : Nat) (s : iv_M)  (xs0 : Int) : Option (Int × iv_M) := (some (xs0, s))
set_option maxRecDepth 10000 in
set_option maxHeartbeats 4000000 in
theorem RX11_would_b100 {d N nc Ls : Nat} {Xs : Nat → Int32} (hd : 6 ≤ d) {h : iv_H} {s : iv_M} (hR : Rep nc Ls Xs h s)  {ms0 : Int32} {xs0 : Int} (ps0 : ms0.toInt = xs0) {r : Int × iv_M} {Q : Option Value → iv_H → Prop} (hq : ∀ (z : Int32) (h1 : iv_H), z.toInt = r.1 → Rep nc Ls Xs h1 r.2 → Q (some (.int z)) h1) (e : FX11_would_b100 N s  xs0 = some r) : Rn d 172 (some .int) 100 [none, none, none, none] [.int ms0] h Q := by
  have hT := hX11_would
  unfold FX11_would_b100 at e
  obtain rfl := Option.some.inj e
  exact Rn.ret hT rfl rfl rfl (hq ms0 h ps0 hR)
def FX11_would (N : Nat) (s : iv_M) (q0 : Nat) (x1 : Int) (x2 : Int) (x3 : Int) : Option (Int × iv_M) := ((FX2_isRoom N s ((s q0 4).toNat) x1).bind fun v_2083 => (if v_2083 = 0 then (FX11_would_b38 N s) else (if x2 < 0 then (FX11_would_b38 N s) else (if (s ((s q0 4).toNat + 16) 1) < x2 then (FX11_would_b38 N s) else (if x3 < 0 then (FX11_would_b38 N s) else (if x3 ≤ 2 then ((FX11_ruleInForce N s q0).bind fun v_2090 => ((FX10_liveTo N s (q0 + 81) ((s q0 4).toNat) v_2090 x2).bind fun s_2092 => (if x3 = 2 then (some ((s_2092 (q0 + 81) 2), s_2092)) else (if x3 = 0 then ((rd s_2092 (((q0 + 81) + 1) + 1) 12 x1).bind fun v_2096 => (FX11_would_b100 N s_2092 v_2096)) else ((rd s_2092 (((q0 + 81) + 1) + 2) 12 x1).bind fun v_2095 => (FX11_would_b100 N s_2092 v_2095)))))) else (FX11_would_b38 N s)))))))
set_option maxRecDepth 10000 in
set_option maxHeartbeats 4000000 in
theorem RX11_would {d N nc Ls : Nat} {Xs : Nat → Int32} (hd : 7 ≤ d) {h : iv_H} {s : iv_M} (hR : Rep nc Ls Xs h s) {q0 : Nat} (t0 : T11 nc q0) {m1 : Int32} {x1 : Int} (p1 : m1.toInt = x1) {m2 : Int32} {x2 : Int} (p2 : m2.toInt = x2) {m3 : Int32} {x3 : Int} (p3 : m3.toInt = x3) {r : Int × iv_M} {Q : Option Value → iv_H → Prop} (e : FX11_would N s q0 x1 x2 x3 = some r) (hq : ∀ (z : Int32) (h1 : iv_H), z.toInt = r.1 → Rep nc Ls Xs h1 r.2 → Q (some (.int z)) h1) : Cl d 172 [.ref q0, .int m1, .int m2, .int m3] h Q := by
  obtain ⟨d, rfl⟩ : ∃ k, d = k + 1 := ⟨d - 1, by omega⟩
  have hd : 6 ≤ d := by omega
  have hT := hX11_would
  unfold FX11_would at e
  refine Cl.into (by decide) gX11_would rfl ?_
  show Rn d 172 (some .int) 0 [some (.ref q0), some (.int m1), some (.int m2), some (.int m3)] [] h Q
  refine Rn.n hT 1 (pc' := 1) (L' := [some (.ref q0), some (.int m1), some (.int m2), some (.int m3)]) (st' := [.ref q0]) rfl ?_
  refine Rn.hp hT rfl rfl (gR_hp (rp_gP (k := 4) hR (T11_o t0) rfl (nn_114 hR t0))) ?_
  refine Rn.n hT 1 (pc' := 5) (L' := [some (.ref q0), some (.int m1), some (.int m2), some (.int m3)]) (st' := [.int m1, .ref ((s q0 4).toNat)]) rfl ?_
  obtain ⟨v_2083, e_2083, e⟩ := Option.bind_eq_some_iff.mp e
  refine Rn.call hT rfl rfl rfl (Nat.le_of_ble_eq_true rfl) (rcv_v gX2_isRoom (by omega) (rp_ck hR (T2_o (ty_114 hR t0)))) (RX2_isRoom (by omega) hR (ty_114 hR t0) p1 e_2083 (fun z_2083 p_2083 => ?_))
  show Rn d _ _ 8 [some (.ref q0), some (.int m1), some (.int m2), some (.int m3)] [.int z_2083] h Q
  by_cases c_2084 : v_2083 = 0
  · rw [if_pos c_2084] at e
    refine Rn.bt hT rfl rfl rfl (decide_eq_true ((ti_e p_2083 L32_0).mpr c_2084)) ?_
    exact Rn.weak (ll_n (ll_n (ll_n (ll_n ll_e)))) (RX11_would_b38 hd hR hq e)
  · rw [if_neg c_2084] at e
    refine Rn.bf hT rfl rfl rfl (decide_eq_false (fun z => c_2084 ((ti_e p_2083 L32_0).mp z))) ?_
    refine Rn.n hT 1 (pc' := 12) (L' := [some (.ref q0), some (.int m1), some (.int m2), some (.int m3)]) (st' := [.int m2]) rfl ?_
    by_cases c_2085 : x2 < 0
    · rw [if_pos c_2085] at e
      refine Rn.bt hT rfl rfl rfl (decide_eq_true ((ti_l p2 L32_0).mpr c_2085)) ?_
      exact Rn.weak (ll_n (ll_n (ll_n (ll_n ll_e)))) (RX11_would_b38 hd hR hq e)
    · rw [if_neg c_2085] at e
      refine Rn.bf hT rfl rfl rfl (decide_eq_false (fun z => c_2085 ((ti_l p2 L32_0).mp z))) ?_
      refine Rn.n hT 2 (pc' := 17) (L' := [some (.ref q0), some (.int m1), some (.int m2), some (.int m3)]) (st' := [.ref q0, .int m2]) rfl ?_
      refine Rn.hp hT rfl rfl (gR_hp (rp_gP (k := 4) hR (T11_o t0) rfl (nn_114 hR t0))) ?_
      refine Rn.hp hT rfl rfl (gR_hp (rp_gR hR (T2_o (ty_114 hR t0)) rfl)) ?_
      obtain ⟨z_2086, g_2086, p_2086⟩ : ∃ z : Int32, gI h 7 1 ((s q0 4).toNat + 16) = some z ∧ z.toInt = s ((s q0 4).toNat + 16) 1 := rp_gI (k := 1) hR (T7_o (T2_16 (ty_114 hR t0))) rfl
      refine Rn.hp hT rfl rfl (gI_hp g_2086) ?_
      by_cases c_2087 : (s ((s q0 4).toNat + 16) 1) < x2
      · rw [if_pos c_2087] at e
        refine Rn.bt hT rfl rfl rfl (decide_eq_true ((ti_l p_2086 p2).mpr c_2087)) ?_
        exact Rn.weak (ll_n (ll_n (ll_n (ll_n ll_e)))) (RX11_would_b38 hd hR hq e)
      · rw [if_neg c_2087] at e
        refine Rn.bf hT rfl rfl rfl (decide_eq_false (fun z => c_2087 ((ti_l p_2086 p2).mp z))) ?_
        refine Rn.n hT 1 (pc' := 30) (L' := [some (.ref q0), some (.int m1), some (.int m2), some (.int m3)]) (st' := [.int m3]) rfl ?_
        by_cases c_2088 : x3 < 0
        · rw [if_pos c_2088] at e
          refine Rn.bt hT rfl rfl rfl (decide_eq_true ((ti_l p3 L32_0).mpr c_2088)) ?_
          exact Rn.weak (ll_n (ll_n (ll_n (ll_n ll_e)))) (RX11_would_b38 hd hR hq e)
        · rw [if_neg c_2088] at e
          refine Rn.bf hT rfl rfl rfl (decide_eq_false (fun z => c_2088 ((ti_l p3 L32_0).mp z))) ?_
          refine Rn.n hT 2 (pc' := 35) (L' := [some (.ref q0), some (.int m1), some (.int m2), some (.int m3)]) (st' := [.int (2 : Int32), .int m3]) rfl ?_
          by_cases c_2089 : x3 ≤ 2
          · rw [if_pos c_2089] at e
            refine Rn.bt hT rfl rfl rfl (decide_eq_true ((ti_le p3 L32_2).mpr c_2089)) ?_
            refine Rn.n hT 1 (pc' := 41) (L' := [some (.ref q0), some (.int m1), some (.int m2), some (.int m3)]) (st' := [.ref q0]) rfl ?_
            refine Rn.hp hT rfl rfl (gR_hp (rp_gR hR (T11_o t0) rfl)) ?_
            refine Rn.n hT 1 (pc' := 45) (L' := [some (.ref q0), some (.int m1), some (.int m2), some (.int m3)]) (st' := [.ref q0, .ref (q0 + 81)]) rfl ?_
            refine Rn.hp hT rfl rfl (gR_hp (rp_gP (k := 4) hR (T11_o t0) rfl (nn_114 hR t0))) ?_
            refine Rn.n hT 1 (pc' := 49) (L' := [some (.ref q0), some (.int m1), some (.int m2), some (.int m3)]) (st' := [.ref q0, .ref ((s q0 4).toNat), .ref (q0 + 81)]) rfl ?_
            obtain ⟨v_2090, e_2090, e⟩ := Option.bind_eq_some_iff.mp e
            refine Rn.call hT rfl rfl rfl (Nat.le_of_ble_eq_true rfl) (rcv_v gX11_ruleInForce (by omega) (rp_ck hR (T11_o t0))) (RX11_ruleInForce (by omega) hR t0 e_2090 (fun t_2090 => ?_))
            show Rn d _ _ 52 [some (.ref q0), some (.int m1), some (.int m2), some (.int m3)] [iv_rf (rvo v_2090), .ref ((s q0 4).toNat), .ref (q0 + 81)] h Q
            refine Rn.n hT 1 (pc' := 53) (L' := [some (.ref q0), some (.int m1), some (.int m2), some (.int m3)]) (st' := [.int m2, iv_rf (rvo v_2090), .ref ((s q0 4).toNat), .ref (q0 + 81)]) rfl ?_
            obtain ⟨s_2092, e_2091, e⟩ := Option.bind_eq_some_iff.mp e
            refine Rn.call hT rfl rfl rfl (Nat.le_of_ble_eq_true rfl) (rcv_v gX10_liveTo (by omega) (rp_ck hR (T10_o (T11_11 t0)))) (RX10_liveTo (by omega) hR (T11_11 t0) (ty_114 hR t0) t_2090 p2 e_2091 (fun h_2092 R_2092 => ?_))
            show Rn d _ _ 56 [some (.ref q0), some (.int m1), some (.int m2), some (.int m3)] [] h_2092 Q
            refine Rn.n hT 2 (pc' := 58) (L' := [some (.ref q0), some (.int m1), some (.int m2), some (.int m3)]) (st' := [.int (2 : Int32), .int m3]) rfl ?_
            by_cases c_2093 : x3 = 2
            · rw [if_pos c_2093] at e
              refine Rn.bf hT rfl rfl rfl (decide_eq_false (fun z => z ((ti_e p3 L32_2).mpr c_2093))) ?_
              refine Rn.n hT 1 (pc' := 62) (L' := [some (.ref q0), some (.int m1), some (.int m2), some (.int m3)]) (st' := [.ref q0]) rfl ?_
              refine Rn.hp hT rfl rfl (gR_hp (rp_gR R_2092 (T11_o t0) rfl)) ?_
              obtain ⟨z_2097, g_2097, p_2097⟩ : ∃ z : Int32, gI h_2092 10 2 (q0 + 81) = some z ∧ z.toInt = s_2092 (q0 + 81) 2 := rp_gI (k := 2) R_2092 (T10_o (T11_11 t0)) rfl
              refine Rn.hp hT rfl rfl (gI_hp g_2097) ?_
              obtain rfl := Option.some.inj e
              exact Rn.ret hT rfl rfl rfl (hq z_2097 h_2092 p_2097 R_2092)
            · rw [if_neg c_2093] at e
              refine Rn.bt hT rfl rfl rfl (decide_eq_true (fun z => c_2093 ((ti_e p3 L32_2).mp z))) ?_
              refine Rn.n hT 1 (pc' := 70) (L' := [some (.ref q0), some (.int m1), some (.int m2), some (.int m3)]) (st' := [.int m3]) rfl ?_
              by_cases c_2094 : x3 = 0
              · rw [if_pos c_2094] at e
                refine Rn.bf hT rfl rfl rfl (decide_eq_false (fun z => z ((ti_e p3 L32_0).mpr c_2094))) ?_
                refine Rn.n hT 1 (pc' := 74) (L' := [some (.ref q0), some (.int m1), some (.int m2), some (.int m3)]) (st' := [.ref q0]) rfl ?_
                refine Rn.hp hT rfl rfl (gR_hp (rp_gR R_2092 (T11_o t0) rfl)) ?_
                refine Rn.hp hT rfl rfl (gR_hp (rp_gR R_2092 (T10_o (T11_11 t0)) rfl)) ?_
                refine Rn.hp hT rfl rfl (gR_hp (rp_gR R_2092 (T1_o (T10_0 (T11_11 t0))) rfl)) ?_
                refine Rn.n hT 1 (pc' := 84) (L' := [some (.ref q0), some (.int m1), some (.int m2), some (.int m3)]) (st' := [.int m1, .ref (((q0 + 81) + 1) + 1)]) rfl ?_
                obtain ⟨v_2096, e_2096, e⟩ := Option.bind_eq_some_iff.mp e
                obtain ⟨z_2096, g_2096, p_2096⟩ := rp_aI R_2092 (T1_5 (T10_0 (T11_11 t0))) (T1_5l (T10_0 (T11_11 t0))) p1 e_2096
                refine Rn.hp hT rfl rfl (aI_hp g_2096) ?_
                refine Rn.n hT 1 (pc' := 100) (L' := [some (.ref q0), some (.int m1), some (.int m2), some (.int m3)]) (st' := [.int z_2096]) rfl ?_
                exact Rn.weak (ll_n (ll_n (ll_n (ll_n ll_e)))) (RX11_would_b100 hd R_2092 p_2096 hq e)
              · rw [if_neg c_2094] at e
                refine Rn.bt hT rfl rfl rfl (decide_eq_true (fun z => c_2094 ((ti_e p3 L32_0).mp z))) ?_
                refine Rn.n hT 1 (pc' := 89) (L' := [some (.ref q0), some (.int m1), some (.int m2), some (.int m3)]) (st' := [.ref q0]) rfl ?_
                refine Rn.hp hT rfl rfl (gR_hp (rp_gR R_2092 (T11_o t0) rfl)) ?_
                refine Rn.hp hT rfl rfl (gR_hp (rp_gR R_2092 (T10_o (T11_11 t0)) rfl)) ?_
                refine Rn.hp hT rfl rfl (gR_hp (rp_gR R_2092 (T1_o (T10_0 (T11_11 t0))) rfl)) ?_
                refine Rn.n hT 1 (pc' := 99) (L' := [some (.ref q0), some (.int m1), some (.int m2), some (.int m3)]) (st' := [.int m1, .ref (((q0 + 81) + 1) + 2)]) rfl ?_
                obtain ⟨v_2095, e_2095, e⟩ := Option.bind_eq_some_iff.mp e
                obtain ⟨z_2095, g_2095, p_2095⟩ := rp_aI R_2092 (T1_6 (T10_0 (T11_11 t0))) (T1_6l (T10_0 (T11_11 t0))) p1 e_2095
                refine Rn.hp hT rfl rfl (aI_hp g_2095) ?_
                exact Rn.weak (ll_n (ll_n (ll_n (ll_n ll_e)))) (RX11_would_b100 hd R_2092 p_2095 hq e)
          · rw [if_neg c_2089] at e
            refine Rn.bf hT rfl rfl rfl (decide_eq_false (fun z => c_2089 ((ti_le p3 L32_2).mp z))) ?_
            exact Rn.weak (ll_n (ll_n (ll_n (ll_n ll_e)))) (RX11_would_b38 hd hR hq e)
set_option maxRecDepth 10000 in
theorem hX11_follow : iv_Tb 173 tX11_follow := iv_tb_of (m := mX11_follow) rfl
set_option maxRecDepth 10000 in
theorem gX11_follow : PG.2 173 = some mX11_follow := iv_pi_of (t := tX11_follow) rfl (by decide)
def FX11_follow_b109 (N : Nat) (s : iv_M) (q0 : Nat) (x2 : Int) (xs0 : Int) (xs1 : Int) (kb : iv_M → Int → Int → Option (Int × iv_M)) (kx : iv_M → Int → Option (Int × iv_M)) : Option (Int × iv_M) := (kb s (w32 (xs1 + xs0)) (w32 (x2 + 1)))
set_option maxRecDepth 10000 in
set_option maxHeartbeats 4000000 in
theorem RX11_follow_b109 {d N nc Ls : Nat} {Xs : Nat → Int32} (hd : 4 ≤ d) {h : iv_H} {s : iv_M} (hR : Rep nc Ls Xs h s) {q0 : Nat} (t0 : T11 nc q0) {m2 : Int32} {x2 : Int} (p2 : m2.toInt = x2) {ms0 : Int32} {xs0 : Int} (ps0 : ms0.toInt = xs0) {ms1 : Int32} {xs1 : Int} (ps1 : ms1.toInt = xs1) {kb : iv_M → Int → Int → Option (Int × iv_M)} {kx : iv_M → Int → Option (Int × iv_M)} {r : Int × iv_M} {Q : Option Value → iv_H → Prop} (hb : ∀ (h : iv_H) (s : iv_M) (hR : Rep nc Ls Xs h s) (mw1 : Int32) (xw1 : Int) (pw1 : mw1.toInt = xw1) (mw2 : Int32) (xw2 : Int) (pw2 : mw2.toInt = xw2), kb s xw1 xw2 = some r → Rn d 173 (some .int) 16 [some (.ref q0), some (.int mw1), some (.int mw2), none, none] [] h Q) (hk : ∀ (h : iv_H) (s : iv_M) (hR : Rep nc Ls Xs h s) (mw1 : Int32) (xw1 : Int) (pw1 : mw1.toInt = xw1), kx s xw1 = some r → Rn d 173 (some .int) 117 [some (.ref q0), some (.int mw1), none, none, none] [] h Q) (hq : ∀ (z : Int32) (h1 : iv_H), z.toInt = r.1 → Rep nc Ls Xs h1 r.2 → Q (some (.int z)) h1) (e : FX11_follow_b109 N s q0 x2 xs0 xs1 kb kx = some r) : Rn d 173 (some .int) 109 [some (.ref q0), none, some (.int m2), none, none] [.int ms0, .int ms1] h Q := by
  have hT := hX11_follow
  unfold FX11_follow_b109 at e
  refine Rn.n hT 4 (pc' := 16) (L' := [some (.ref q0), some (.int (ms1 + ms0)), some (.int (m2 + (1 : Int32))), none, none]) (st' := []) rfl ?_
  exact Rn.weak (ll_s (ll_s (ll_s (ll_n (ll_n ll_e))))) (hb h s hR (ms1 + ms0) (w32 (xs1 + xs0)) (ti_add ps1 ps0) (m2 + (1 : Int32)) (w32 (x2 + 1)) (ti_add p2 L32_1) e)
def FX11_follow_b95 (N : Nat) (s : iv_M) (q0 : Nat) (x1 : Int) (x2 : Int) (x4 : Int) (xs0 : Int) (qs1 : Nat) (kb : iv_M → Int → Int → Option (Int × iv_M)) (kx : iv_M → Int → Option (Int × iv_M)) : Option (Int × iv_M) := ((FX11_nightComes N s qs1 xs0).bind fun s_2115 => (if x4 = 0 then (FX11_follow_b109 N s_2115 q0 x2 1 x1 kb kx) else (FX11_follow_b109 N s_2115 q0 x2 0 x1 kb kx)))
set_option maxRecDepth 10000 in
set_option maxHeartbeats 4000000 in
theorem RX11_follow_b95 {d N nc Ls : Nat} {Xs : Nat → Int32} (hd : 4 ≤ d) {h : iv_H} {s : iv_M} (hR : Rep nc Ls Xs h s) {q0 : Nat} (t0 : T11 nc q0) {m1 : Int32} {x1 : Int} (p1 : m1.toInt = x1) {m2 : Int32} {x2 : Int} (p2 : m2.toInt = x2) {m4 : Int32} {x4 : Int} (p4 : m4.toInt = x4) {ms0 : Int32} {xs0 : Int} (ps0 : ms0.toInt = xs0) {qs1 : Nat} (ts1 : T11 nc qs1) {kb : iv_M → Int → Int → Option (Int × iv_M)} {kx : iv_M → Int → Option (Int × iv_M)} {r : Int × iv_M} {Q : Option Value → iv_H → Prop} (hb : ∀ (h : iv_H) (s : iv_M) (hR : Rep nc Ls Xs h s) (mw1 : Int32) (xw1 : Int) (pw1 : mw1.toInt = xw1) (mw2 : Int32) (xw2 : Int) (pw2 : mw2.toInt = xw2), kb s xw1 xw2 = some r → Rn d 173 (some .int) 16 [some (.ref q0), some (.int mw1), some (.int mw2), none, none] [] h Q) (hk : ∀ (h : iv_H) (s : iv_M) (hR : Rep nc Ls Xs h s) (mw1 : Int32) (xw1 : Int) (pw1 : mw1.toInt = xw1), kx s xw1 = some r → Rn d 173 (some .int) 117 [some (.ref q0), some (.int mw1), none, none, none] [] h Q) (hq : ∀ (z : Int32) (h1 : iv_H), z.toInt = r.1 → Rep nc Ls Xs h1 r.2 → Q (some (.int z)) h1) (e : FX11_follow_b95 N s q0 x1 x2 x4 xs0 qs1 kb kx = some r) : Rn d 173 (some .int) 95 [some (.ref q0), some (.int m1), some (.int m2), none, some (.int m4)] [.int ms0, .ref qs1] h Q := by
  have hT := hX11_follow
  unfold FX11_follow_b95 at e
  obtain ⟨s_2115, e_2114, e⟩ := Option.bind_eq_some_iff.mp e
  refine Rn.call hT rfl rfl rfl (Nat.le_of_ble_eq_true rfl) (rcv_v gX11_nightComes (by omega) (rp_ck hR (T11_o ts1))) (RX11_nightComes (by omega) hR ts1 ps0 e_2114 (fun h_2115 R_2115 => ?_))
  show Rn d _ _ 98 [some (.ref q0), some (.int m1), some (.int m2), none, some (.int m4)] [] h_2115 Q
  refine Rn.n hT 2 (pc' := 101) (L' := [some (.ref q0), some (.int m1), some (.int m2), none, some (.int m4)]) (st' := [.int m4, .int m1]) rfl ?_
  by_cases c_2116 : x4 = 0
  · rw [if_pos c_2116] at e
    refine Rn.bt hT rfl rfl rfl (decide_eq_true ((ti_e p4 L32_0).mpr c_2116)) ?_
    refine Rn.n hT 1 (pc' := 109) (L' := [some (.ref q0), some (.int m1), some (.int m2), none, some (.int m4)]) (st' := [.int (1 : Int32), .int m1]) rfl ?_
    exact Rn.weak (ll_s (ll_n (ll_s (ll_n (ll_n ll_e))))) (RX11_follow_b109 hd R_2115 t0 p2 L32_1 p1 hb hk hq e)
  · rw [if_neg c_2116] at e
    refine Rn.bf hT rfl rfl rfl (decide_eq_false (fun z => c_2116 ((ti_e p4 L32_0).mp z))) ?_
    refine Rn.n hT 2 (pc' := 109) (L' := [some (.ref q0), some (.int m1), some (.int m2), none, some (.int m4)]) (st' := [.int (0 : Int32), .int m1]) rfl ?_
    exact Rn.weak (ll_s (ll_n (ll_s (ll_n (ll_n ll_e))))) (RX11_follow_b109 hd R_2115 t0 p2 L32_0 p1 hb hk hq e)
def FX11_follow_b82 (N : Nat) (s : iv_M) (q0 : Nat) (x1 : Int) (x2 : Int) (x3 : Int) (xs0 : Int) (kb : iv_M → Int → Int → Option (Int × iv_M)) (kx : iv_M → Int → Option (Int × iv_M)) : Option (Int × iv_M) := (if xs0 = 0 then (FX11_follow_b95 N s q0 x1 x2 xs0 (-1) q0 kb kx) else (FX11_follow_b95 N s q0 x1 x2 xs0 x3 q0 kb kx))
set_option maxRecDepth 10000 in
set_option maxHeartbeats 4000000 in
theorem RX11_follow_b82 {d N nc Ls : Nat} {Xs : Nat → Int32} (hd : 4 ≤ d) {h : iv_H} {s : iv_M} (hR : Rep nc Ls Xs h s) {q0 : Nat} (t0 : T11 nc q0) {m1 : Int32} {x1 : Int} (p1 : m1.toInt = x1) {m2 : Int32} {x2 : Int} (p2 : m2.toInt = x2) {m3 : Int32} {x3 : Int} (p3 : m3.toInt = x3) {ms0 : Int32} {xs0 : Int} (ps0 : ms0.toInt = xs0) {kb : iv_M → Int → Int → Option (Int × iv_M)} {kx : iv_M → Int → Option (Int × iv_M)} {r : Int × iv_M} {Q : Option Value → iv_H → Prop} (hb : ∀ (h : iv_H) (s : iv_M) (hR : Rep nc Ls Xs h s) (mw1 : Int32) (xw1 : Int) (pw1 : mw1.toInt = xw1) (mw2 : Int32) (xw2 : Int) (pw2 : mw2.toInt = xw2), kb s xw1 xw2 = some r → Rn d 173 (some .int) 16 [some (.ref q0), some (.int mw1), some (.int mw2), none, none] [] h Q) (hk : ∀ (h : iv_H) (s : iv_M) (hR : Rep nc Ls Xs h s) (mw1 : Int32) (xw1 : Int) (pw1 : mw1.toInt = xw1), kx s xw1 = some r → Rn d 173 (some .int) 117 [some (.ref q0), some (.int mw1), none, none, none] [] h Q) (hq : ∀ (z : Int32) (h1 : iv_H), z.toInt = r.1 → Rep nc Ls Xs h1 r.2 → Q (some (.int z)) h1) (e : FX11_follow_b82 N s q0 x1 x2 x3 xs0 kb kx = some r) : Rn d 173 (some .int) 82 [some (.ref q0), some (.int m1), some (.int m2), some (.int m3), none] [.int ms0] h Q := by
  have hT := hX11_follow
  unfold FX11_follow_b82 at e
  refine Rn.n hT 3 (pc' := 87) (L' := [some (.ref q0), some (.int m1), some (.int m2), some (.int m3), some (.int ms0)]) (st' := [.int ms0, .ref q0]) rfl ?_
  by_cases c_2113 : xs0 = 0
  · rw [if_pos c_2113] at e
    refine Rn.bt hT rfl rfl rfl (decide_eq_true ((ti_e ps0 L32_0).mpr c_2113)) ?_
    refine Rn.n hT 1 (pc' := 95) (L' := [some (.ref q0), some (.int m1), some (.int m2), some (.int m3), some (.int ms0)]) (st' := [.int (-1 : Int32), .ref q0]) rfl ?_
    exact Rn.weak (ll_s (ll_s (ll_s (ll_n (ll_s ll_e))))) (RX11_follow_b95 hd hR t0 p1 p2 ps0 L32_m1 t0 hb hk hq e)
  · rw [if_neg c_2113] at e
    refine Rn.bf hT rfl rfl rfl (decide_eq_false (fun z => c_2113 ((ti_e ps0 L32_0).mp z))) ?_
    refine Rn.n hT 2 (pc' := 95) (L' := [some (.ref q0), some (.int m1), some (.int m2), some (.int m3), some (.int ms0)]) (st' := [.int m3, .ref q0]) rfl ?_
    exact Rn.weak (ll_s (ll_s (ll_s (ll_n (ll_s ll_e))))) (RX11_follow_b95 hd hR t0 p1 p2 ps0 p3 t0 hb hk hq e)
def FX11_follow_l16 (N : Nat) (q0 : Nat) (kx : iv_M → Int → Option (Int × iv_M)) : Nat → iv_M → Int → Int → Option (Int × iv_M)
  | 0, _, _, _ => none
  | n + 1, s, x1, x2 => (if (s ((s q0 4).toNat + 16) 1) ≤ x2 then (kx s x1) else ((rd s (((s q0 4).toNat + 16) + 1) ((sh (((s q0 4).toNat + 16) + 1)).2 : Int) x2).bind fun v_2106 => ((FX11_ruleInForce N s q0).bind fun v_2107 => ((FX3_open N s (q0 + 62) ((s q0 4).toNat) ((s q0 4).toNat + 1) v_2107).bind fun s_2109 => ((FX3_broken N s_2109 (q0 + 62) (w32 v_2106)).bind fun r_2110 => (fun (v_2110 : Int) (s_2111 : iv_M) => (if v_2110 = 0 then (FX11_follow_b82 N s_2111 q0 x1 x2 (w32 v_2106) 1 (FX11_follow_l16 N q0 kx n) kx) else (FX11_follow_b82 N s_2111 q0 x1 x2 (w32 v_2106) 0 (FX11_follow_l16 N q0 kx n) kx))) r_2110.1 r_2110.2)))))
set_option maxRecDepth 10000 in
set_option maxHeartbeats 4000000 in
theorem RX11_follow_l16 {d N nc Ls : Nat} {Xs : Nat → Int32} (hd : 4 ≤ d) {q0 : Nat} (t0 : T11 nc q0) {kx : iv_M → Int → Option (Int × iv_M)} {r : Int × iv_M} {Q : Option Value → iv_H → Prop} (hk : ∀ (h : iv_H) (s : iv_M) (hR : Rep nc Ls Xs h s) (m1 : Int32) (x1 : Int) (p1 : m1.toInt = x1), kx s x1 = some r → Rn d 173 (some .int) 117 [some (.ref q0), some (.int m1), none, none, none] [] h Q) (hq : ∀ (z : Int32) (h1 : iv_H), z.toInt = r.1 → Rep nc Ls Xs h1 r.2 → Q (some (.int z)) h1) : ∀ (n : Nat) (h : iv_H) (s : iv_M) (hR : Rep nc Ls Xs h s) (m1 : Int32) (x1 : Int) (p1 : m1.toInt = x1) (m2 : Int32) (x2 : Int) (p2 : m2.toInt = x2), FX11_follow_l16 N q0 kx n s x1 x2 = some r → Rn d 173 (some .int) 16 [some (.ref q0), some (.int m1), some (.int m2), none, none] [] h Q := by
  have hT := hX11_follow
  intro n
  induction n with
  | zero =>
    intro h s hR m1 x1 p1 m2 x2 p2 e
    rw [FX11_follow_l16] at e
    cases e
  | succ n ih =>
    intro h s hR m1 x1 p1 m2 x2 p2 e
    rw [FX11_follow_l16] at e
    refine Rn.n hT 2 (pc' := 18) (L' := [some (.ref q0), some (.int m1), some (.int m2), none, none]) (st' := [.ref q0, .int m2]) rfl ?_
    refine Rn.hp hT rfl rfl (gR_hp (rp_gP (k := 4) hR (T11_o t0) rfl (nn_114 hR t0))) ?_
    refine Rn.hp hT rfl rfl (gR_hp (rp_gR hR (T2_o (ty_114 hR t0)) rfl)) ?_
    obtain ⟨z_2104, g_2104, p_2104⟩ : ∃ z : Int32, gI h 7 1 ((s q0 4).toNat + 16) = some z ∧ z.toInt = s ((s q0 4).toNat + 16) 1 := rp_gI (k := 1) hR (T7_o (T2_16 (ty_114 hR t0))) rfl
    refine Rn.hp hT rfl rfl (gI_hp g_2104) ?_
    by_cases c_2105 : (s ((s q0 4).toNat + 16) 1) ≤ x2
    · rw [if_pos c_2105] at e
      refine Rn.bt hT rfl rfl rfl (decide_eq_true ((ti_le p_2104 p2).mpr c_2105)) ?_
      exact Rn.weak (ll_s (ll_s (ll_n (ll_n (ll_n ll_e))))) (hk h s hR m1 x1 p1 e)
    · rw [if_neg c_2105] at e
      refine Rn.bf hT rfl rfl rfl (decide_eq_false (fun z => c_2105 ((ti_le p_2104 p2).mp z))) ?_
      refine Rn.n hT 1 (pc' := 31) (L' := [some (.ref q0), some (.int m1), some (.int m2), none, none]) (st' := [.ref q0]) rfl ?_
      refine Rn.hp hT rfl rfl (gR_hp (rp_gP (k := 4) hR (T11_o t0) rfl (nn_114 hR t0))) ?_
      refine Rn.hp hT rfl rfl (gR_hp (rp_gR hR (T2_o (ty_114 hR t0)) rfl)) ?_
      refine Rn.hp hT rfl rfl (gR_hp (rp_gR hR (T7_o (T2_16 (ty_114 hR t0))) rfl)) ?_
      refine Rn.n hT 1 (pc' := 41) (L' := [some (.ref q0), some (.int m1), some (.int m2), none, none]) (st' := [.int m2, .ref (((s q0 4).toNat + 16) + 1)]) rfl ?_
      obtain ⟨v_2106, e_2106, e⟩ := Option.bind_eq_some_iff.mp e
      obtain ⟨z_2106, g_2106, p_2106⟩ := rp_aJ hR (T7_0 (T2_16 (ty_114 hR t0))) rfl p2 e_2106
      refine Rn.hp hT rfl rfl (aJ_hp g_2106) ?_
      refine Rn.n hT 3 (pc' := 45) (L' := [some (.ref q0), some (.int m1), some (.int m2), some (.int ((z_2106).toInt32)), none]) (st' := [.ref q0]) rfl ?_
      refine Rn.hp hT rfl rfl (gR_hp (rp_gR hR (T11_o t0) rfl)) ?_
      refine Rn.n hT 1 (pc' := 49) (L' := [some (.ref q0), some (.int m1), some (.int m2), some (.int ((z_2106).toInt32)), none]) (st' := [.ref q0, .ref (q0 + 62)]) rfl ?_
      refine Rn.hp hT rfl rfl (gR_hp (rp_gP (k := 4) hR (T11_o t0) rfl (nn_114 hR t0))) ?_
      refine Rn.n hT 1 (pc' := 53) (L' := [some (.ref q0), some (.int m1), some (.int m2), some (.int ((z_2106).toInt32)), none]) (st' := [.ref q0, .ref ((s q0 4).toNat), .ref (q0 + 62)]) rfl ?_
      refine Rn.hp hT rfl rfl (gR_hp (rp_gP (k := 4) hR (T11_o t0) rfl (nn_114 hR t0))) ?_
      refine Rn.hp hT rfl rfl (gR_hp (rp_gR hR (T2_o (ty_114 hR t0)) rfl)) ?_
      refine Rn.n hT 1 (pc' := 60) (L' := [some (.ref q0), some (.int m1), some (.int m2), some (.int ((z_2106).toInt32)), none]) (st' := [.ref q0, .ref ((s q0 4).toNat + 1), .ref ((s q0 4).toNat), .ref (q0 + 62)]) rfl ?_
      obtain ⟨v_2107, e_2107, e⟩ := Option.bind_eq_some_iff.mp e
      refine Rn.call hT rfl rfl rfl (Nat.le_of_ble_eq_true rfl) (rcv_v gX11_ruleInForce (by omega) (rp_ck hR (T11_o t0))) (RX11_ruleInForce (by omega) hR t0 e_2107 (fun t_2107 => ?_))
      show Rn d _ _ 63 [some (.ref q0), some (.int m1), some (.int m2), some (.int ((z_2106).toInt32)), none] [iv_rf (rvo v_2107), .ref ((s q0 4).toNat + 1), .ref ((s q0 4).toNat), .ref (q0 + 62)] h Q
      obtain ⟨s_2109, e_2108, e⟩ := Option.bind_eq_some_iff.mp e
      refine Rn.call hT rfl rfl rfl (Nat.le_of_ble_eq_true rfl) (rcv_v gX3_open (by omega) (rp_ck hR (T3_o (T11_9 t0)))) (RX3_open (by omega) hR (T11_9 t0) (ty_114 hR t0) (T2_9 (ty_114 hR t0)) t_2107 e_2108 (fun h_2109 R_2109 => ?_))
      show Rn d _ _ 66 [some (.ref q0), some (.int m1), some (.int m2), some (.int ((z_2106).toInt32)), none] [] h_2109 Q
      refine Rn.n hT 1 (pc' := 67) (L' := [some (.ref q0), some (.int m1), some (.int m2), some (.int ((z_2106).toInt32)), none]) (st' := [.ref q0]) rfl ?_
      refine Rn.hp hT rfl rfl (gR_hp (rp_gR R_2109 (T11_o t0) rfl)) ?_
      refine Rn.n hT 1 (pc' := 71) (L' := [some (.ref q0), some (.int m1), some (.int m2), some (.int ((z_2106).toInt32)), none]) (st' := [.int ((z_2106).toInt32), .ref (q0 + 62)]) rfl ?_
      obtain ⟨⟨v_2110, s_2111⟩, e_2110, e⟩ := Option.bind_eq_some_iff.mp e
      try dsimp only at e
      try dsimp only at e
      refine Rn.call hT rfl rfl rfl (Nat.le_of_ble_eq_true rfl) (rcv_v gX3_broken (by omega) (rp_ck R_2109 (T3_o (T11_9 t0)))) (RX3_broken (by omega) R_2109 (T11_9 t0) (tj_i p_2106) e_2110 (fun z_2110 h_2111 p_2110 R_2111 => ?_))
      show Rn d _ _ 74 [some (.ref q0), some (.int m1), some (.int m2), some (.int ((z_2106).toInt32)), none] [.int z_2110] h_2111 Q
      by_cases c_2112 : v_2110 = 0
      · rw [if_pos c_2112] at e
        refine Rn.bf hT rfl rfl rfl (decide_eq_false (fun z => z ((ti_e p_2110 L32_0).mpr c_2112))) ?_
        refine Rn.n hT 2 (pc' := 82) (L' := [some (.ref q0), some (.int m1), some (.int m2), some (.int ((z_2106).toInt32)), none]) (st' := [.int (1 : Int32)]) rfl ?_
        exact Rn.weak (ll_s (ll_s (ll_s (ll_s (ll_n ll_e))))) (RX11_follow_b82 hd R_2111 t0 p1 p2 (tj_i p_2106) L32_1 ih hk hq e)
      · rw [if_neg c_2112] at e
        refine Rn.bt hT rfl rfl rfl (decide_eq_true (fun z => c_2112 ((ti_e p_2110 L32_0).mp z))) ?_
        refine Rn.n hT 1 (pc' := 82) (L' := [some (.ref q0), some (.int m1), some (.int m2), some (.int ((z_2106).toInt32)), none]) (st' := [.int (0 : Int32)]) rfl ?_
        exact Rn.weak (ll_s (ll_s (ll_s (ll_s (ll_n ll_e))))) (RX11_follow_b82 hd R_2111 t0 p1 p2 (tj_i p_2106) L32_0 ih hk hq e)
def FX11_follow (N : Nat) (s : iv_M) (q0 : Nat) : Option (Int × iv_M) := (if (s ((s q0 4).toNat) 0) = 0 then (some ((-1), s)) else (FX11_follow_l16 N q0 (fun (s_2100 : iv_M) (x2101_1 : Int) => ((pt s_2100 ((s_2100 q0 4).toNat + 16) 1 0).bind fun s_2102 => (some (x2101_1, s_2102)))) N s 0 0))
set_option maxRecDepth 10000 in
set_option maxHeartbeats 4000000 in
theorem RX11_follow {d N nc Ls : Nat} {Xs : Nat → Int32} (hd : 5 ≤ d) {h : iv_H} {s : iv_M} (hR : Rep nc Ls Xs h s) {q0 : Nat} (t0 : T11 nc q0) {r : Int × iv_M} {Q : Option Value → iv_H → Prop} (e : FX11_follow N s q0 = some r) (hq : ∀ (z : Int32) (h1 : iv_H), z.toInt = r.1 → Rep nc Ls Xs h1 r.2 → Q (some (.int z)) h1) : Cl d 173 [.ref q0] h Q := by
  obtain ⟨d, rfl⟩ : ∃ k, d = k + 1 := ⟨d - 1, by omega⟩
  have hd : 4 ≤ d := by omega
  have hT := hX11_follow
  unfold FX11_follow at e
  refine Cl.into (by decide) gX11_follow rfl ?_
  show Rn d 173 (some .int) 0 [some (.ref q0), none, none, none, none] [] h Q
  refine Rn.n hT 1 (pc' := 1) (L' := [some (.ref q0), none, none, none, none]) (st' := [.ref q0]) rfl ?_
  refine Rn.hp hT rfl rfl (gR_hp (rp_gP (k := 4) hR (T11_o t0) rfl (nn_114 hR t0))) ?_
  obtain ⟨z_2098, g_2098, p_2098⟩ : ∃ z : Int32, gI h 2 0 ((s q0 4).toNat) = some z ∧ z.toInt = s ((s q0 4).toNat) 0 := rp_gI (k := 0) hR (T2_o (ty_114 hR t0)) rfl
  refine Rn.hp hT rfl rfl (gI_hp g_2098) ?_
  by_cases c_2099 : (s ((s q0 4).toNat) 0) = 0
  · rw [if_pos c_2099] at e
    refine Rn.bf hT rfl rfl rfl (decide_eq_false (fun z => z ((ti_e p_2098 L32_0).mpr c_2099))) ?_
    refine Rn.n hT 1 (pc' := 11) (L' := [some (.ref q0), none, none, none, none]) (st' := [.int (-1 : Int32)]) rfl ?_
    obtain rfl := Option.some.inj e
    exact Rn.ret hT rfl rfl rfl (hq (-1 : Int32) h L32_m1 hR)
  · rw [if_neg c_2099] at e
    refine Rn.bt hT rfl rfl rfl (decide_eq_true (fun z => c_2099 ((ti_e p_2098 L32_0).mp z))) ?_
    refine Rn.n hT 4 (pc' := 16) (L' := [some (.ref q0), some (.int (0 : Int32)), some (.int (0 : Int32)), none, none]) (st' := []) rfl ?_
    refine Rn.weak (ll_s (ll_s (ll_s (ll_n (ll_n ll_e))))) (RX11_follow_l16 hd t0 (fun h_2100 s_2100 R_2100 m2101_1 x2101_1 p2101_1 e => ?_) hq N h s hR (0 : Int32) 0 L32_0 (0 : Int32) 0 L32_0 e)
    try dsimp only at e
    refine Rn.n hT 1 (pc' := 118) (L' := [some (.ref q0), some (.int m2101_1), none, none, none]) (st' := [.ref q0]) rfl ?_
    refine Rn.hp hT rfl rfl (gR_hp (rp_gP (k := 4) R_2100 (T11_o t0) rfl (nn_114 R_2100 t0))) ?_
    refine Rn.hp hT rfl rfl (gR_hp (rp_gR R_2100 (T2_o (ty_114 R_2100 t0)) rfl)) ?_
    refine Rn.n hT 1 (pc' := 125) (L' := [some (.ref q0), some (.int m2101_1), none, none, none]) (st' := [.int (0 : Int32), .ref ((s_2100 q0 4).toNat + 16)]) rfl ?_
    obtain ⟨s_2102, e_2103, e⟩ := Option.bind_eq_some_iff.mp e
    obtain ⟨h_2102, g_2103, R_2102⟩ := rp_pI (ci := 7) (k := 1) R_2100 (T7_o (T2_16 (ty_114 R_2100 t0))) rfl rfl L32_0 e_2103
    refine Rn.hp hT rfl rfl (pV_hp rfl g_2103) ?_
    refine Rn.n hT 1 (pc' := 129) (L' := [some (.ref q0), some (.int m2101_1), none, none, none]) (st' := [.int m2101_1]) rfl ?_
    obtain rfl := Option.some.inj e
    exact Rn.ret hT rfl rfl rfl (hq m2101_1 h_2102 p2101_1 R_2102)
