-- FLAT MIRRORS, 3 (written by wip/whole/mir2.py)
set_option maxRecDepth 10000 in
theorem hX6_readNumber : iv_Tb 90 tX6_readNumber := iv_tb_of (m := mX6_readNumber) rfl
set_option maxRecDepth 10000 in
theorem gX6_readNumber : PG.2 90 = some mX6_readNumber := iv_pi_of (t := tX6_readNumber) rfl (by decide)
def FX6_readNumber_b75 (N : Nat) (s : iv_M) (q0 : Nat) (x1 : Int) (x2 : Int) (xs0 : Int) (kb : iv_M → Int → Option (Int × iv_M)) (kx : iv_M → Int → Option (Int × iv_M)) : Option (Int × iv_M) := ((pt s q0 2 (w32 ((s q0 2) + 1))).bind fun s_986 => (kb s_986 xs0))
set_option maxRecDepth 10000 in
set_option maxHeartbeats 4000000 in
theorem RX6_readNumber_b75 {d N nc Ls : Nat} {Xs : Nat → Int32} (hd : 2 ≤ d) {h : iv_H} {s : iv_M} (hR : Rep nc Ls Xs h s) {q0 : Nat} (t0 : T6 nc q0) {m1 : Int32} {x1 : Int} (p1 : m1.toInt = x1) {m2 : Int32} {x2 : Int} (p2 : m2.toInt = x2) {ms0 : Int32} {xs0 : Int} (ps0 : ms0.toInt = xs0) {kb : iv_M → Int → Option (Int × iv_M)} {kx : iv_M → Int → Option (Int × iv_M)} {r : Int × iv_M} {Q : Option Value → iv_H → Prop} (hb : ∀ (h : iv_H) (s : iv_M) (hR : Rep nc Ls Xs h s) (mw3 : Int32) (xw3 : Int) (pw3 : mw3.toInt = xw3), kb s xw3 = some r → Rn d 90 (some .int) 15 [some (.ref q0), some (.int m1), some (.int m2), some (.int mw3)] [] h Q) (hk : ∀ (h : iv_H) (s : iv_M) (hR : Rep nc Ls Xs h s) (mw3 : Int32) (xw3 : Int) (pw3 : mw3.toInt = xw3), kx s xw3 = some r → Rn d 90 (some .int) 89 [some (.ref q0), some (.int m1), some (.int m2), some (.int mw3)] [] h Q) (hq : ∀ (z : Int32) (h1 : iv_H), z.toInt = r.1 → Rep nc Ls Xs h1 r.2 → Q (some (.int z)) h1) (e : FX6_readNumber_b75 N s q0 x1 x2 xs0 kb kx = some r) : Rn d 90 (some .int) 75 [some (.ref q0), some (.int m1), some (.int m2), none] [.int ms0] h Q := by
  have hT := hX6_readNumber
  unfold FX6_readNumber_b75 at e
  refine Rn.n hT 3 (pc' := 78) (L' := [some (.ref q0), some (.int m1), some (.int m2), some (.int ms0)]) (st' := [.ref q0, .ref q0]) rfl ?_
  obtain ⟨z_985, g_985, p_985⟩ : ∃ z : Int32, gI h 6 2 q0 = some z ∧ z.toInt = s q0 2 := rp_gI (k := 2) hR (T6_o t0) rfl
  refine Rn.hp hT rfl rfl (gI_hp g_985) ?_
  refine Rn.n hT 2 (pc' := 83) (L' := [some (.ref q0), some (.int m1), some (.int m2), some (.int ms0)]) (st' := [.int (z_985 + (1 : Int32)), .ref q0]) rfl ?_
  obtain ⟨s_986, e_987, e⟩ := Option.bind_eq_some_iff.mp e
  obtain ⟨h_986, g_987, R_986⟩ := rp_pI (ci := 6) (k := 2) hR (T6_o t0) rfl rfl (ti_add p_985 L32_1) e_987
  refine Rn.hp hT rfl rfl (pV_hp rfl g_987) ?_
  refine Rn.n hT 1 (pc' := 15) (L' := [some (.ref q0), some (.int m1), some (.int m2), some (.int ms0)]) (st' := []) rfl ?_
  exact Rn.weak (ll_s (ll_s (ll_s (ll_s ll_e)))) (hb h_986 s_986 R_986 ms0 xs0 ps0 e)
def FX6_readNumber_l15 (N : Nat) (q0 : Nat) (x1 : Int) (x2 : Int) (kx : iv_M → Int → Option (Int × iv_M)) : Nat → iv_M → Int → Option (Int × iv_M)
  | 0, _, _ => none
  | n + 1, s, x3 => (if (s q0 1) ≤ (s q0 2) then (kx s x3) else ((rd s ((s q0 0).toNat) ((sh ((s q0 0).toNat)).2 : Int) (s q0 2)).bind fun v_977 => ((FX6_isDigit N s v_977).bind fun v_978 => (if v_978 = 0 then (kx s x3) else (if 5 ≤ (w32 ((s q0 2) - (s q0 3))) then (FX6_readNumber_b75 N s q0 x1 x2 x3 (FX6_readNumber_l15 N q0 x1 x2 kx n) kx) else ((rd s ((s q0 0).toNat) ((sh ((s q0 0).toNat)).2 : Int) (s q0 2)).bind fun v_984 => (FX6_readNumber_b75 N s q0 x1 x2 (w32 ((w32 ((w32 (10 * x3)) + v_984)) - 48)) (FX6_readNumber_l15 N q0 x1 x2 kx n) kx)))))))
set_option maxRecDepth 10000 in
set_option maxHeartbeats 4000000 in
theorem RX6_readNumber_l15 {d N nc Ls : Nat} {Xs : Nat → Int32} (hd : 2 ≤ d) {q0 : Nat} (t0 : T6 nc q0) {m1 : Int32} {x1 : Int} (p1 : m1.toInt = x1) {m2 : Int32} {x2 : Int} (p2 : m2.toInt = x2) {kx : iv_M → Int → Option (Int × iv_M)} {r : Int × iv_M} {Q : Option Value → iv_H → Prop} (hk : ∀ (h : iv_H) (s : iv_M) (hR : Rep nc Ls Xs h s) (m3 : Int32) (x3 : Int) (p3 : m3.toInt = x3), kx s x3 = some r → Rn d 90 (some .int) 89 [some (.ref q0), some (.int m1), some (.int m2), some (.int m3)] [] h Q) (hq : ∀ (z : Int32) (h1 : iv_H), z.toInt = r.1 → Rep nc Ls Xs h1 r.2 → Q (some (.int z)) h1) : ∀ (n : Nat) (h : iv_H) (s : iv_M) (hR : Rep nc Ls Xs h s) (m3 : Int32) (x3 : Int) (p3 : m3.toInt = x3), FX6_readNumber_l15 N q0 x1 x2 kx n s x3 = some r → Rn d 90 (some .int) 15 [some (.ref q0), some (.int m1), some (.int m2), some (.int m3)] [] h Q := by
  have hT := hX6_readNumber
  intro n
  induction n with
  | zero =>
    intro h s hR m3 x3 p3 e
    rw [FX6_readNumber_l15] at e
    cases e
  | succ n ih =>
    intro h s hR m3 x3 p3 e
    rw [FX6_readNumber_l15] at e
    refine Rn.n hT 1 (pc' := 16) (L' := [some (.ref q0), some (.int m1), some (.int m2), some (.int m3)]) (st' := [.ref q0]) rfl ?_
    obtain ⟨z_973, g_973, p_973⟩ : ∃ z : Int32, gI h 6 2 q0 = some z ∧ z.toInt = s q0 2 := rp_gI (k := 2) hR (T6_o t0) rfl
    refine Rn.hp hT rfl rfl (gI_hp g_973) ?_
    refine Rn.n hT 1 (pc' := 20) (L' := [some (.ref q0), some (.int m1), some (.int m2), some (.int m3)]) (st' := [.ref q0, .int z_973]) rfl ?_
    obtain ⟨z_974, g_974, p_974⟩ : ∃ z : Int32, gI h 6 1 q0 = some z ∧ z.toInt = s q0 1 := rp_gI (k := 1) hR (T6_o t0) rfl
    refine Rn.hp hT rfl rfl (gI_hp g_974) ?_
    by_cases c_975 : (s q0 1) ≤ (s q0 2)
    · rw [if_pos c_975] at e
      refine Rn.bt hT rfl rfl rfl (decide_eq_true ((ti_le p_974 p_973).mpr c_975)) ?_
      exact Rn.weak (ll_s (ll_s (ll_s (ll_s ll_e)))) (hk h s hR m3 x3 p3 e)
    · rw [if_neg c_975] at e
      refine Rn.bf hT rfl rfl rfl (decide_eq_false (fun z => c_975 ((ti_le p_974 p_973).mp z))) ?_
      refine Rn.n hT 1 (pc' := 27) (L' := [some (.ref q0), some (.int m1), some (.int m2), some (.int m3)]) (st' := [.ref q0]) rfl ?_
      refine Rn.hp hT rfl rfl (gR_hp (rp_gP (k := 0) hR (T6_o t0) rfl (nn_60 hR t0))) ?_
      refine Rn.n hT 1 (pc' := 31) (L' := [some (.ref q0), some (.int m1), some (.int m2), some (.int m3)]) (st' := [.ref q0, .ref ((s q0 0).toNat)]) rfl ?_
      obtain ⟨z_976, g_976, p_976⟩ : ∃ z : Int32, gI h 6 2 q0 = some z ∧ z.toInt = s q0 2 := rp_gI (k := 2) hR (T6_o t0) rfl
      refine Rn.hp hT rfl rfl (gI_hp g_976) ?_
      obtain ⟨v_977, e_977, e⟩ := Option.bind_eq_some_iff.mp e
      obtain ⟨z_977, g_977, p_977⟩ := rp_aB hR (ty_60 hR t0) (Or.inl rfl) rfl p_976 e_977
      refine Rn.hp hT rfl rfl (aB_hp g_977) ?_
      obtain ⟨v_978, e_978, e⟩ := Option.bind_eq_some_iff.mp e
      refine Rn.call hT rfl rfl rfl (Nat.le_of_ble_eq_true rfl) rfl (RX6_isDigit (by omega) hR p_977 e_978 (fun z_978 p_978 => ?_))
      show Rn d _ _ 38 [some (.ref q0), some (.int m1), some (.int m2), some (.int m3)] [.int z_978] h Q
      by_cases c_979 : v_978 = 0
      · rw [if_pos c_979] at e
        refine Rn.bt hT rfl rfl rfl (decide_eq_true ((ti_e p_978 L32_0).mpr c_979)) ?_
        exact Rn.weak (ll_s (ll_s (ll_s (ll_s ll_e)))) (hk h s hR m3 x3 p3 e)
      · rw [if_neg c_979] at e
        refine Rn.bf hT rfl rfl rfl (decide_eq_false (fun z => c_979 ((ti_e p_978 L32_0).mp z))) ?_
        refine Rn.n hT 1 (pc' := 42) (L' := [some (.ref q0), some (.int m1), some (.int m2), some (.int m3)]) (st' := [.ref q0]) rfl ?_
        obtain ⟨z_980, g_980, p_980⟩ : ∃ z : Int32, gI h 6 2 q0 = some z ∧ z.toInt = s q0 2 := rp_gI (k := 2) hR (T6_o t0) rfl
        refine Rn.hp hT rfl rfl (gI_hp g_980) ?_
        refine Rn.n hT 1 (pc' := 46) (L' := [some (.ref q0), some (.int m1), some (.int m2), some (.int m3)]) (st' := [.ref q0, .int z_980]) rfl ?_
        obtain ⟨z_981, g_981, p_981⟩ : ∃ z : Int32, gI h 6 3 q0 = some z ∧ z.toInt = s q0 3 := rp_gI (k := 3) hR (T6_o t0) rfl
        refine Rn.hp hT rfl rfl (gI_hp g_981) ?_
        refine Rn.n hT 2 (pc' := 51) (L' := [some (.ref q0), some (.int m1), some (.int m2), some (.int m3)]) (st' := [.int (5 : Int32), .int (z_980 - z_981)]) rfl ?_
        by_cases c_982 : 5 ≤ (w32 ((s q0 2) - (s q0 3)))
        · rw [if_pos c_982] at e
          refine Rn.bt hT rfl rfl rfl (decide_eq_true ((ti_le L32_5 (ti_sub p_980 p_981)).mpr c_982)) ?_
          refine Rn.n hT 1 (pc' := 75) (L' := [some (.ref q0), some (.int m1), some (.int m2), some (.int m3)]) (st' := [.int m3]) rfl ?_
          exact Rn.weak (ll_s (ll_s (ll_s (ll_n ll_e)))) (RX6_readNumber_b75 hd hR t0 p1 p2 p3 ih hk hq e)
        · rw [if_neg c_982] at e
          refine Rn.bf hT rfl rfl rfl (decide_eq_false (fun z => c_982 ((ti_le L32_5 (ti_sub p_980 p_981)).mp z))) ?_
          refine Rn.n hT 4 (pc' := 59) (L' := [some (.ref q0), some (.int m1), some (.int m2), some (.int m3)]) (st' := [.ref q0, .int ((10 : Int32) * m3)]) rfl ?_
          refine Rn.hp hT rfl rfl (gR_hp (rp_gP (k := 0) hR (T6_o t0) rfl (nn_60 hR t0))) ?_
          refine Rn.n hT 1 (pc' := 63) (L' := [some (.ref q0), some (.int m1), some (.int m2), some (.int m3)]) (st' := [.ref q0, .ref ((s q0 0).toNat), .int ((10 : Int32) * m3)]) rfl ?_
          obtain ⟨z_983, g_983, p_983⟩ : ∃ z : Int32, gI h 6 2 q0 = some z ∧ z.toInt = s q0 2 := rp_gI (k := 2) hR (T6_o t0) rfl
          refine Rn.hp hT rfl rfl (gI_hp g_983) ?_
          obtain ⟨v_984, e_984, e⟩ := Option.bind_eq_some_iff.mp e
          obtain ⟨z_984, g_984, p_984⟩ := rp_aB hR (ty_60 hR t0) (Or.inl rfl) rfl p_983 e_984
          refine Rn.hp hT rfl rfl (aB_hp g_984) ?_
          refine Rn.n hT 4 (pc' := 75) (L' := [some (.ref q0), some (.int m1), some (.int m2), some (.int m3)]) (st' := [.int ((((10 : Int32) * m3) + z_984) - (48 : Int32))]) rfl ?_
          exact Rn.weak (ll_s (ll_s (ll_s (ll_n ll_e)))) (RX6_readNumber_b75 hd hR t0 p1 p2 (ti_sub (ti_add (ti_mul L32_10 p3) p_984) L32_48) ih hk hq e)
def FX6_readNumber_b144 (N : Nat) (s : iv_M) (x3 : Int)  : Option (Int × iv_M) := (some (x3, s))
set_option maxRecDepth 10000 in
set_option maxHeartbeats 4000000 in
theorem RX6_readNumber_b144 {d N nc Ls : Nat} {Xs : Nat → Int32} (hd : 2 ≤ d) {h : iv_H} {s : iv_M} (hR : Rep nc Ls Xs h s) {m3 : Int32} {x3 : Int} (p3 : m3.toInt = x3)  {r : Int × iv_M} {Q : Option Value → iv_H → Prop} (hq : ∀ (z : Int32) (h1 : iv_H), z.toInt = r.1 → Rep nc Ls Xs h1 r.2 → Q (some (.int z)) h1) (e : FX6_readNumber_b144 N s x3  = some r) : Rn d 90 (some .int) 144 [none, none, none, some (.int m3)] [] h Q := by
  have hT := hX6_readNumber
  unfold FX6_readNumber_b144 at e
  refine Rn.n hT 1 (pc' := 145) (L' := [none, none, none, some (.int m3)]) (st' := [.int m3]) rfl ?_
  obtain rfl := Option.some.inj e
  exact Rn.ret hT rfl rfl rfl (hq m3 h p3 hR)
def FX6_readNumber_b135 (N : Nat) (s : iv_M) (q0 : Nat) (x3 : Int)  : Option (Int × iv_M) := ((FX6_fail N s q0 (s q0 3) 1).bind fun s_1001 => (FX6_readNumber_b144 N s_1001 x3))
set_option maxRecDepth 10000 in
set_option maxHeartbeats 4000000 in
theorem RX6_readNumber_b135 {d N nc Ls : Nat} {Xs : Nat → Int32} (hd : 2 ≤ d) {h : iv_H} {s : iv_M} (hR : Rep nc Ls Xs h s) {q0 : Nat} (t0 : T6 nc q0) {m3 : Int32} {x3 : Int} (p3 : m3.toInt = x3)  {r : Int × iv_M} {Q : Option Value → iv_H → Prop} (hq : ∀ (z : Int32) (h1 : iv_H), z.toInt = r.1 → Rep nc Ls Xs h1 r.2 → Q (some (.int z)) h1) (e : FX6_readNumber_b135 N s q0 x3  = some r) : Rn d 90 (some .int) 135 [some (.ref q0), none, none, some (.int m3)] [] h Q := by
  have hT := hX6_readNumber
  unfold FX6_readNumber_b135 at e
  refine Rn.n hT 2 (pc' := 137) (L' := [some (.ref q0), none, none, some (.int m3)]) (st' := [.ref q0, .ref q0]) rfl ?_
  obtain ⟨z_999, g_999, p_999⟩ : ∃ z : Int32, gI h 6 3 q0 = some z ∧ z.toInt = s q0 3 := rp_gI (k := 3) hR (T6_o t0) rfl
  refine Rn.hp hT rfl rfl (gI_hp g_999) ?_
  refine Rn.n hT 1 (pc' := 141) (L' := [some (.ref q0), none, none, some (.int m3)]) (st' := [.int (1 : Int32), .int z_999, .ref q0]) rfl ?_
  obtain ⟨s_1001, e_1000, e⟩ := Option.bind_eq_some_iff.mp e
  refine Rn.call hT rfl rfl rfl (Nat.le_of_ble_eq_true rfl) (rcv_v gX6_fail (by omega) (rp_ck hR (T6_o t0))) (RX6_fail (by omega) hR t0 p_999 L32_1 e_1000 (fun h_1001 R_1001 => ?_))
  show Rn d _ _ 144 [some (.ref q0), none, none, some (.int m3)] [] h_1001 Q
  exact Rn.weak (ll_n (ll_n (ll_n (ll_s ll_e)))) (RX6_readNumber_b144 hd R_1001 p3 hq e)
def FX6_readNumber_b89 (N : Nat) (s : iv_M) (q0 : Nat) (x1 : Int) (x2 : Int) (x3 : Int)  : Option (Int × iv_M) := (if (s q0 2) = (s q0 3) then ((FX6_fail N s q0 (s q0 2) 0).bind fun s_998 => (FX6_readNumber_b144 N s_998 x3)) else (if 5 < (w32 ((s q0 2) - (s q0 3))) then (FX6_readNumber_b135 N s q0 x3) else (if x3 < x1 then (FX6_readNumber_b135 N s q0 x3) else (if x3 ≤ x2 then (FX6_readNumber_b144 N s x3) else (FX6_readNumber_b135 N s q0 x3)))))
set_option maxRecDepth 10000 in
set_option maxHeartbeats 4000000 in
theorem RX6_readNumber_b89 {d N nc Ls : Nat} {Xs : Nat → Int32} (hd : 2 ≤ d) {h : iv_H} {s : iv_M} (hR : Rep nc Ls Xs h s) {q0 : Nat} (t0 : T6 nc q0) {m1 : Int32} {x1 : Int} (p1 : m1.toInt = x1) {m2 : Int32} {x2 : Int} (p2 : m2.toInt = x2) {m3 : Int32} {x3 : Int} (p3 : m3.toInt = x3)  {r : Int × iv_M} {Q : Option Value → iv_H → Prop} (hq : ∀ (z : Int32) (h1 : iv_H), z.toInt = r.1 → Rep nc Ls Xs h1 r.2 → Q (some (.int z)) h1) (e : FX6_readNumber_b89 N s q0 x1 x2 x3  = some r) : Rn d 90 (some .int) 89 [some (.ref q0), some (.int m1), some (.int m2), some (.int m3)] [] h Q := by
  have hT := hX6_readNumber
  unfold FX6_readNumber_b89 at e
  refine Rn.n hT 1 (pc' := 90) (L' := [some (.ref q0), some (.int m1), some (.int m2), some (.int m3)]) (st' := [.ref q0]) rfl ?_
  obtain ⟨z_988, g_988, p_988⟩ : ∃ z : Int32, gI h 6 2 q0 = some z ∧ z.toInt = s q0 2 := rp_gI (k := 2) hR (T6_o t0) rfl
  refine Rn.hp hT rfl rfl (gI_hp g_988) ?_
  refine Rn.n hT 1 (pc' := 94) (L' := [some (.ref q0), some (.int m1), some (.int m2), some (.int m3)]) (st' := [.ref q0, .int z_988]) rfl ?_
  obtain ⟨z_989, g_989, p_989⟩ : ∃ z : Int32, gI h 6 3 q0 = some z ∧ z.toInt = s q0 3 := rp_gI (k := 3) hR (T6_o t0) rfl
  refine Rn.hp hT rfl rfl (gI_hp g_989) ?_
  by_cases c_990 : (s q0 2) = (s q0 3)
  · rw [if_pos c_990] at e
    refine Rn.bf hT rfl rfl rfl (decide_eq_false (fun z => z ((ti_e p_988 p_989).mpr c_990))) ?_
    refine Rn.n hT 2 (pc' := 102) (L' := [some (.ref q0), some (.int m1), some (.int m2), some (.int m3)]) (st' := [.ref q0, .ref q0]) rfl ?_
    obtain ⟨z_996, g_996, p_996⟩ : ∃ z : Int32, gI h 6 2 q0 = some z ∧ z.toInt = s q0 2 := rp_gI (k := 2) hR (T6_o t0) rfl
    refine Rn.hp hT rfl rfl (gI_hp g_996) ?_
    refine Rn.n hT 1 (pc' := 106) (L' := [some (.ref q0), some (.int m1), some (.int m2), some (.int m3)]) (st' := [.int (0 : Int32), .int z_996, .ref q0]) rfl ?_
    obtain ⟨s_998, e_997, e⟩ := Option.bind_eq_some_iff.mp e
    refine Rn.call hT rfl rfl rfl (Nat.le_of_ble_eq_true rfl) (rcv_v gX6_fail (by omega) (rp_ck hR (T6_o t0))) (RX6_fail (by omega) hR t0 p_996 L32_0 e_997 (fun h_998 R_998 => ?_))
    show Rn d _ _ 109 [some (.ref q0), some (.int m1), some (.int m2), some (.int m3)] [] h_998 Q
    refine Rn.n hT 1 (pc' := 144) (L' := [some (.ref q0), some (.int m1), some (.int m2), some (.int m3)]) (st' := []) rfl ?_
    exact Rn.weak (ll_n (ll_n (ll_n (ll_s ll_e)))) (RX6_readNumber_b144 hd R_998 p3 hq e)
  · rw [if_neg c_990] at e
    refine Rn.bt hT rfl rfl rfl (decide_eq_true (fun z => c_990 ((ti_e p_988 p_989).mp z))) ?_
    refine Rn.n hT 1 (pc' := 113) (L' := [some (.ref q0), some (.int m1), some (.int m2), some (.int m3)]) (st' := [.ref q0]) rfl ?_
    obtain ⟨z_991, g_991, p_991⟩ : ∃ z : Int32, gI h 6 2 q0 = some z ∧ z.toInt = s q0 2 := rp_gI (k := 2) hR (T6_o t0) rfl
    refine Rn.hp hT rfl rfl (gI_hp g_991) ?_
    refine Rn.n hT 1 (pc' := 117) (L' := [some (.ref q0), some (.int m1), some (.int m2), some (.int m3)]) (st' := [.ref q0, .int z_991]) rfl ?_
    obtain ⟨z_992, g_992, p_992⟩ : ∃ z : Int32, gI h 6 3 q0 = some z ∧ z.toInt = s q0 3 := rp_gI (k := 3) hR (T6_o t0) rfl
    refine Rn.hp hT rfl rfl (gI_hp g_992) ?_
    refine Rn.n hT 2 (pc' := 122) (L' := [some (.ref q0), some (.int m1), some (.int m2), some (.int m3)]) (st' := [.int (5 : Int32), .int (z_991 - z_992)]) rfl ?_
    by_cases c_993 : 5 < (w32 ((s q0 2) - (s q0 3)))
    · rw [if_pos c_993] at e
      refine Rn.bt hT rfl rfl rfl (decide_eq_true ((ti_l L32_5 (ti_sub p_991 p_992)).mpr c_993)) ?_
      exact Rn.weak (ll_s (ll_n (ll_n (ll_s ll_e)))) (RX6_readNumber_b135 hd hR t0 p3 hq e)
    · rw [if_neg c_993] at e
      refine Rn.bf hT rfl rfl rfl (decide_eq_false (fun z => c_993 ((ti_l L32_5 (ti_sub p_991 p_992)).mp z))) ?_
      refine Rn.n hT 2 (pc' := 127) (L' := [some (.ref q0), some (.int m1), some (.int m2), some (.int m3)]) (st' := [.int m1, .int m3]) rfl ?_
      by_cases c_994 : x3 < x1
      · rw [if_pos c_994] at e
        refine Rn.bt hT rfl rfl rfl (decide_eq_true ((ti_l p3 p1).mpr c_994)) ?_
        exact Rn.weak (ll_s (ll_n (ll_n (ll_s ll_e)))) (RX6_readNumber_b135 hd hR t0 p3 hq e)
      · rw [if_neg c_994] at e
        refine Rn.bf hT rfl rfl rfl (decide_eq_false (fun z => c_994 ((ti_l p3 p1).mp z))) ?_
        refine Rn.n hT 2 (pc' := 132) (L' := [some (.ref q0), some (.int m1), some (.int m2), some (.int m3)]) (st' := [.int m2, .int m3]) rfl ?_
        by_cases c_995 : x3 ≤ x2
        · rw [if_pos c_995] at e
          refine Rn.bt hT rfl rfl rfl (decide_eq_true ((ti_le p3 p2).mpr c_995)) ?_
          exact Rn.weak (ll_n (ll_n (ll_n (ll_s ll_e)))) (RX6_readNumber_b144 hd hR p3 hq e)
        · rw [if_neg c_995] at e
          refine Rn.bf hT rfl rfl rfl (decide_eq_false (fun z => c_995 ((ti_le p3 p2).mp z))) ?_
          exact Rn.weak (ll_s (ll_n (ll_n (ll_s ll_e)))) (RX6_readNumber_b135 hd hR t0 p3 hq e)
def FX6_readNumber (N : Nat) (s : iv_M) (q0 : Nat) (x1 : Int) (x2 : Int) : Option (Int × iv_M) := ((FX6_skipBlanks N s q0).bind fun r_966 => (fun (v_966 : Int) (s_967 : iv_M) => ((pt s_967 q0 3 (s_967 q0 2)).bind fun s_969 => (FX6_readNumber_l15 N q0 x1 x2 (fun (s_971 : iv_M) (x972_3 : Int) => (FX6_readNumber_b89 N s_971 q0 x1 x2 x972_3)) N s_969 0))) r_966.1 r_966.2)
set_option maxRecDepth 10000 in
set_option maxHeartbeats 4000000 in
theorem RX6_readNumber {d N nc Ls : Nat} {Xs : Nat → Int32} (hd : 3 ≤ d) {h : iv_H} {s : iv_M} (hR : Rep nc Ls Xs h s) {q0 : Nat} (t0 : T6 nc q0) {m1 : Int32} {x1 : Int} (p1 : m1.toInt = x1) {m2 : Int32} {x2 : Int} (p2 : m2.toInt = x2) {r : Int × iv_M} {Q : Option Value → iv_H → Prop} (e : FX6_readNumber N s q0 x1 x2 = some r) (hq : ∀ (z : Int32) (h1 : iv_H), z.toInt = r.1 → Rep nc Ls Xs h1 r.2 → Q (some (.int z)) h1) : Cl d 90 [.ref q0, .int m1, .int m2] h Q := by
  obtain ⟨d, rfl⟩ : ∃ k, d = k + 1 := ⟨d - 1, by omega⟩
  have hd : 2 ≤ d := by omega
  have hT := hX6_readNumber
  unfold FX6_readNumber at e
  refine Cl.into (by decide) gX6_readNumber rfl ?_
  show Rn d 90 (some .int) 0 [some (.ref q0), some (.int m1), some (.int m2), none] [] h Q
  refine Rn.n hT 1 (pc' := 1) (L' := [some (.ref q0), some (.int m1), some (.int m2), none]) (st' := [.ref q0]) rfl ?_
  obtain ⟨⟨v_966, s_967⟩, e_966, e⟩ := Option.bind_eq_some_iff.mp e
  try dsimp only at e
  try dsimp only at e
  refine Rn.call hT rfl rfl rfl (Nat.le_of_ble_eq_true rfl) (rcv_v gX6_skipBlanks (by omega) (rp_ck hR (T6_o t0))) (RX6_skipBlanks (by omega) hR t0 e_966 (fun z_966 h_967 p_966 R_967 => ?_))
  show Rn d _ _ 4 [some (.ref q0), some (.int m1), some (.int m2), none] [.int z_966] h_967 Q
  refine Rn.n hT 3 (pc' := 7) (L' := [some (.ref q0), some (.int m1), some (.int m2), none]) (st' := [.ref q0, .ref q0]) rfl ?_
  obtain ⟨z_968, g_968, p_968⟩ : ∃ z : Int32, gI h_967 6 2 q0 = some z ∧ z.toInt = s_967 q0 2 := rp_gI (k := 2) R_967 (T6_o t0) rfl
  refine Rn.hp hT rfl rfl (gI_hp g_968) ?_
  obtain ⟨s_969, e_970, e⟩ := Option.bind_eq_some_iff.mp e
  obtain ⟨h_969, g_970, R_969⟩ := rp_pI (ci := 6) (k := 3) R_967 (T6_o t0) rfl rfl p_968 e_970
  refine Rn.hp hT rfl rfl (pV_hp rfl g_970) ?_
  refine Rn.n hT 2 (pc' := 15) (L' := [some (.ref q0), some (.int m1), some (.int m2), some (.int (0 : Int32))]) (st' := []) rfl ?_
  refine Rn.weak (ll_s (ll_s (ll_s (ll_s ll_e)))) (RX6_readNumber_l15 hd t0 p1 p2 (fun h_971 s_971 R_971 m972_3 x972_3 p972_3 e => ?_) hq N h_969 s_969 R_969 (0 : Int32) 0 L32_0 e)
  try dsimp only at e
  exact Rn.weak (ll_s (ll_s (ll_s (ll_s ll_e)))) (RX6_readNumber_b89 hd R_971 t0 p1 p2 p972_3 hq e)
set_option maxRecDepth 10000 in
theorem hX5_readFloor : iv_Tb 79 tX5_readFloor := iv_tb_of (m := mX5_readFloor) rfl
set_option maxRecDepth 10000 in
theorem gX5_readFloor : PG.2 79 = some mX5_readFloor := iv_pi_of (t := tX5_readFloor) rfl (by decide)
def FX5_readFloor_b47 (N : Nat) (s : iv_M)   : Option (iv_M) := some s
set_option maxRecDepth 10000 in
set_option maxHeartbeats 4000000 in
theorem RX5_readFloor_b47 {d N nc Ls : Nat} {Xs : Nat → Int32} (hd : 4 ≤ d) {h : iv_H} {s : iv_M} (hR : Rep nc Ls Xs h s)   {r : iv_M} {Q : Option Value → iv_H → Prop} (hq : ∀ h1, Rep nc Ls Xs h1 r → Q none h1) (e : FX5_readFloor_b47 N s   = some r) : Rn d 79 none 47 [none, none, none, none] [] h Q := by
  have hT := hX5_readFloor
  unfold FX5_readFloor_b47 at e
  obtain rfl := Option.some.inj e
  exact Rn.ret hT rfl rfl rfl (hq h hR)
def FX5_readFloor (N : Nat) (s : iv_M) (q0 : Nat) (q1 : Nat) : Option (iv_M) := ((FX6_readNumber N s (q0 + 1) 1 4).bind fun r_1002 => (fun (v_1002 : Int) (s_1003 : iv_M) => (if (s_1003 (q0 + 1) 4) = 0 then ((FX6_readNumber N s_1003 (q0 + 1) 1 4).bind fun r_1006 => (fun (v_1006 : Int) (s_1007 : iv_M) => (if (s_1007 (q0 + 1) 4) = 0 then ((FX2_build N s_1007 q1 v_1002 v_1006).bind fun s_1011 => (FX5_readFloor_b47 N s_1011)) else (FX5_readFloor_b47 N s_1007))) r_1006.1 r_1006.2) else some s_1003)) r_1002.1 r_1002.2)
set_option maxRecDepth 10000 in
set_option maxHeartbeats 4000000 in
theorem RX5_readFloor {d N nc Ls : Nat} {Xs : Nat → Int32} (hd : 5 ≤ d) {h : iv_H} {s : iv_M} (hR : Rep nc Ls Xs h s) {q0 : Nat} (t0 : T5 nc q0) {q1 : Nat} (t1 : T2 nc q1) {r : iv_M} {Q : Option Value → iv_H → Prop} (e : FX5_readFloor N s q0 q1 = some r) (hq : ∀ h1, Rep nc Ls Xs h1 r → Q none h1) : Cl d 79 [.ref q0, .ref q1] h Q := by
  obtain ⟨d, rfl⟩ : ∃ k, d = k + 1 := ⟨d - 1, by omega⟩
  have hd : 4 ≤ d := by omega
  have hT := hX5_readFloor
  unfold FX5_readFloor at e
  refine Cl.into (by decide) gX5_readFloor rfl ?_
  show Rn d 79 none 0 [some (.ref q0), some (.ref q1), none, none] [] h Q
  refine Rn.n hT 1 (pc' := 1) (L' := [some (.ref q0), some (.ref q1), none, none]) (st' := [.ref q0]) rfl ?_
  refine Rn.hp hT rfl rfl (gR_hp (rp_gR hR (T5_o t0) rfl)) ?_
  refine Rn.n hT 2 (pc' := 6) (L' := [some (.ref q0), some (.ref q1), none, none]) (st' := [.int (4 : Int32), .int (1 : Int32), .ref (q0 + 1)]) rfl ?_
  obtain ⟨⟨v_1002, s_1003⟩, e_1002, e⟩ := Option.bind_eq_some_iff.mp e
  try dsimp only at e
  try dsimp only at e
  refine Rn.call hT rfl rfl rfl (Nat.le_of_ble_eq_true rfl) (rcv_v gX6_readNumber (by omega) (rp_ck hR (T6_o (T5_0 t0)))) (RX6_readNumber (by omega) hR (T5_0 t0) L32_1 L32_4 e_1002 (fun z_1002 h_1003 p_1002 R_1003 => ?_))
  show Rn d _ _ 9 [some (.ref q0), some (.ref q1), none, none] [.int z_1002] h_1003 Q
  refine Rn.n hT 2 (pc' := 11) (L' := [some (.ref q0), some (.ref q1), some (.int z_1002), none]) (st' := [.ref q0]) rfl ?_
  refine Rn.hp hT rfl rfl (gR_hp (rp_gR R_1003 (T5_o t0) rfl)) ?_
  obtain ⟨z_1004, g_1004, p_1004⟩ : ∃ z : Int32, gI h_1003 6 4 (q0 + 1) = some z ∧ z.toInt = s_1003 (q0 + 1) 4 := rp_gI (k := 4) R_1003 (T6_o (T5_0 t0)) rfl
  refine Rn.hp hT rfl rfl (gI_hp g_1004) ?_
  by_cases c_1005 : (s_1003 (q0 + 1) 4) = 0
  · rw [if_pos c_1005] at e
    refine Rn.bt hT rfl rfl rfl (decide_eq_true ((ti_e p_1004 L32_0).mpr c_1005)) ?_
    refine Rn.n hT 1 (pc' := 22) (L' := [some (.ref q0), some (.ref q1), some (.int z_1002), none]) (st' := [.ref q0]) rfl ?_
    refine Rn.hp hT rfl rfl (gR_hp (rp_gR R_1003 (T5_o t0) rfl)) ?_
    refine Rn.n hT 2 (pc' := 27) (L' := [some (.ref q0), some (.ref q1), some (.int z_1002), none]) (st' := [.int (4 : Int32), .int (1 : Int32), .ref (q0 + 1)]) rfl ?_
    obtain ⟨⟨v_1006, s_1007⟩, e_1006, e⟩ := Option.bind_eq_some_iff.mp e
    try dsimp only at e
    try dsimp only at e
    refine Rn.call hT rfl rfl rfl (Nat.le_of_ble_eq_true rfl) (rcv_v gX6_readNumber (by omega) (rp_ck R_1003 (T6_o (T5_0 t0)))) (RX6_readNumber (by omega) R_1003 (T5_0 t0) L32_1 L32_4 e_1006 (fun z_1006 h_1007 p_1006 R_1007 => ?_))
    show Rn d _ _ 30 [some (.ref q0), some (.ref q1), some (.int z_1002), none] [.int z_1006] h_1007 Q
    refine Rn.n hT 2 (pc' := 32) (L' := [some (.ref q0), some (.ref q1), some (.int z_1002), some (.int z_1006)]) (st' := [.ref q0]) rfl ?_
    refine Rn.hp hT rfl rfl (gR_hp (rp_gR R_1007 (T5_o t0) rfl)) ?_
    obtain ⟨z_1008, g_1008, p_1008⟩ : ∃ z : Int32, gI h_1007 6 4 (q0 + 1) = some z ∧ z.toInt = s_1007 (q0 + 1) 4 := rp_gI (k := 4) R_1007 (T6_o (T5_0 t0)) rfl
    refine Rn.hp hT rfl rfl (gI_hp g_1008) ?_
    by_cases c_1009 : (s_1007 (q0 + 1) 4) = 0
    · rw [if_pos c_1009] at e
      refine Rn.bf hT rfl rfl rfl (decide_eq_false (fun z => z ((ti_e p_1008 L32_0).mpr c_1009))) ?_
      refine Rn.n hT 3 (pc' := 44) (L' := [some (.ref q0), some (.ref q1), some (.int z_1002), some (.int z_1006)]) (st' := [.int z_1006, .int z_1002, .ref q1]) rfl ?_
      obtain ⟨s_1011, e_1010, e⟩ := Option.bind_eq_some_iff.mp e
      refine Rn.call hT rfl rfl rfl (Nat.le_of_ble_eq_true rfl) (rcv_v gX2_build (by omega) (rp_ck R_1007 (T2_o t1))) (RX2_build (by omega) R_1007 t1 p_1002 p_1006 e_1010 (fun h_1011 R_1011 => ?_))
      show Rn d _ _ 47 [some (.ref q0), some (.ref q1), some (.int z_1002), some (.int z_1006)] [] h_1011 Q
      exact Rn.weak (ll_n (ll_n (ll_n (ll_n ll_e)))) (RX5_readFloor_b47 hd R_1011 hq e)
    · rw [if_neg c_1009] at e
      refine Rn.bt hT rfl rfl rfl (decide_eq_true (fun z => c_1009 ((ti_e p_1008 L32_0).mp z))) ?_
      exact Rn.weak (ll_n (ll_n (ll_n (ll_n ll_e)))) (RX5_readFloor_b47 hd R_1007 hq e)
  · rw [if_neg c_1005] at e
    refine Rn.bf hT rfl rfl rfl (decide_eq_false (fun z => c_1005 ((ti_e p_1004 L32_0).mp z))) ?_
    obtain rfl := Option.some.inj e
    exact Rn.ret hT rfl rfl rfl (hq h_1003 R_1003)
set_option maxRecDepth 10000 in
theorem hX5_sortOf : iv_Tb 81 tX5_sortOf := iv_tb_of (m := mX5_sortOf) rfl
set_option maxRecDepth 10000 in
theorem gX5_sortOf : PG.2 81 = some mX5_sortOf := iv_pi_of (t := tX5_sortOf) rfl (by decide)
def FX5_sortOf_b64 (N : Nat) (s : iv_M)  (xs0 : Int) : Option (Int) := (some xs0)
set_option maxRecDepth 10000 in
set_option maxHeartbeats 4000000 in
theorem RX5_sortOf_b64 {d N nc Ls : Nat} {Xs : Nat → Int32} (hd : 0 ≤ d) {h : iv_H} {s : iv_M} (hR : Rep nc Ls Xs h s)  {ms0 : Int32} {xs0 : Int} (ps0 : ms0.toInt = xs0) {r : Int} {Q : Option Value → iv_H → Prop} (hq : ∀ (z : Int32), z.toInt = r → Q (some (.int z)) h) (e : FX5_sortOf_b64 N s  xs0 = some r) : Rn d 81 (some .int) 64 [none] [.int ms0] h Q := by
  have hT := hX5_sortOf
  unfold FX5_sortOf_b64 at e
  obtain rfl := Option.some.inj e
  exact Rn.ret hT rfl rfl rfl (hq ms0 ps0)
def FX5_sortOf_b63 (N : Nat) (s : iv_M)   : Option (Int) := (FX5_sortOf_b64 N s (-1))
set_option maxRecDepth 10000 in
set_option maxHeartbeats 4000000 in
theorem RX5_sortOf_b63 {d N nc Ls : Nat} {Xs : Nat → Int32} (hd : 0 ≤ d) {h : iv_H} {s : iv_M} (hR : Rep nc Ls Xs h s)   {r : Int} {Q : Option Value → iv_H → Prop} (hq : ∀ (z : Int32), z.toInt = r → Q (some (.int z)) h) (e : FX5_sortOf_b63 N s   = some r) : Rn d 81 (some .int) 63 [none] [] h Q := by
  have hT := hX5_sortOf
  unfold FX5_sortOf_b63 at e
  refine Rn.n hT 1 (pc' := 64) (L' := [none]) (st' := [.int (-1 : Int32)]) rfl ?_
  exact Rn.weak (ll_n ll_e) (RX5_sortOf_b64 hd hR L32_m1 hq e)
def FX5_sortOf (N : Nat) (s : iv_M) (x0 : Int) : Option (Int) := (if x0 = 46 then (some 0) else (if x0 = 100 then (some 1) else (if x0 = 119 then (some 2) else (if x0 < 49 then (FX5_sortOf_b63 N s) else (if 52 < x0 then (FX5_sortOf_b63 N s) else (FX5_sortOf_b64 N s (w32 ((w32 (3 + x0)) - 49))))))))
set_option maxRecDepth 10000 in
set_option maxHeartbeats 4000000 in
theorem RX5_sortOf {d N nc Ls : Nat} {Xs : Nat → Int32} (hd : 1 ≤ d) {h : iv_H} {s : iv_M} (hR : Rep nc Ls Xs h s) {m0 : Int32} {x0 : Int} (p0 : m0.toInt = x0) {r : Int} {Q : Option Value → iv_H → Prop} (e : FX5_sortOf N s x0 = some r) (hq : ∀ (z : Int32), z.toInt = r → Q (some (.int z)) h) : Cl d 81 [.int m0] h Q := by
  obtain ⟨d, rfl⟩ : ∃ k, d = k + 1 := ⟨d - 1, by omega⟩
  have hd : 0 ≤ d := by omega
  have hT := hX5_sortOf
  unfold FX5_sortOf at e
  refine Cl.into (by decide) gX5_sortOf rfl ?_
  show Rn d 81 (some .int) 0 [some (.int m0)] [] h Q
  refine Rn.n hT 1 (pc' := 1) (L' := [some (.int m0)]) (st' := [.int m0]) rfl ?_
  by_cases c_1012 : x0 = 46
  · rw [if_pos c_1012] at e
    refine Rn.sw2 hT rfl rfl rfl (if_pos ((ti_e p0 L32_46).mpr c_1012)) ?_
    refine Rn.n hT 1 (pc' := 37) (L' := [some (.int m0)]) (st' := [.int (0 : Int32)]) rfl ?_
    obtain rfl := Option.some.inj e
    exact Rn.ret hT rfl rfl rfl (hq (0 : Int32) L32_0)
  · rw [if_neg c_1012] at e
    by_cases c_1013 : x0 = 100
    · rw [if_pos c_1013] at e
      refine Rn.sw2 hT rfl rfl rfl ((if_neg (fun z => c_1012 ((ti_e p0 L32_46).mp z))).trans (if_pos ((ti_e p0 L32_100).mpr c_1013))) ?_
      refine Rn.n hT 1 (pc' := 39) (L' := [some (.int m0)]) (st' := [.int (1 : Int32)]) rfl ?_
      obtain rfl := Option.some.inj e
      exact Rn.ret hT rfl rfl rfl (hq (1 : Int32) L32_1)
    · rw [if_neg c_1013] at e
      by_cases c_1014 : x0 = 119
      · rw [if_pos c_1014] at e
        refine Rn.sw2 hT rfl rfl rfl ((if_neg (fun z => c_1012 ((ti_e p0 L32_46).mp z))).trans ((if_neg (fun z => c_1013 ((ti_e p0 L32_100).mp z))).trans (if_pos ((ti_e p0 L32_119).mpr c_1014)))) ?_
        refine Rn.n hT 1 (pc' := 41) (L' := [some (.int m0)]) (st' := [.int (2 : Int32)]) rfl ?_
        obtain rfl := Option.some.inj e
        exact Rn.ret hT rfl rfl rfl (hq (2 : Int32) L32_2)
      · rw [if_neg c_1014] at e
        refine Rn.sw2 hT rfl rfl rfl ((if_neg (fun z => c_1012 ((ti_e p0 L32_46).mp z))).trans ((if_neg (fun z => c_1013 ((ti_e p0 L32_100).mp z))).trans ((if_neg (fun z => c_1014 ((ti_e p0 L32_119).mp z))).trans rfl))) ?_
        refine Rn.n hT 2 (pc' := 45) (L' := [some (.int m0)]) (st' := [.int (49 : Int32), .int m0]) rfl ?_
        by_cases c_1015 : x0 < 49
        · rw [if_pos c_1015] at e
          refine Rn.bt hT rfl rfl rfl (decide_eq_true ((ti_l p0 L32_49).mpr c_1015)) ?_
          exact Rn.weak (ll_n ll_e) (RX5_sortOf_b63 hd hR hq e)
        · rw [if_neg c_1015] at e
          refine Rn.bf hT rfl rfl rfl (decide_eq_false (fun z => c_1015 ((ti_l p0 L32_49).mp z))) ?_
          refine Rn.n hT 2 (pc' := 51) (L' := [some (.int m0)]) (st' := [.int (52 : Int32), .int m0]) rfl ?_
          by_cases c_1016 : 52 < x0
          · rw [if_pos c_1016] at e
            refine Rn.bt hT rfl rfl rfl (decide_eq_true ((ti_l L32_52 p0).mpr c_1016)) ?_
            exact Rn.weak (ll_n ll_e) (RX5_sortOf_b63 hd hR hq e)
          · rw [if_neg c_1016] at e
            refine Rn.bf hT rfl rfl rfl (decide_eq_false (fun z => c_1016 ((ti_l L32_52 p0).mp z))) ?_
            refine Rn.n hT 6 (pc' := 64) (L' := [some (.int m0)]) (st' := [.int (((3 : Int32) + m0) - (49 : Int32))]) rfl ?_
            exact Rn.weak (ll_n ll_e) (RX5_sortOf_b64 hd hR (ti_sub (ti_add L32_3 p0) L32_49) hq e)
set_option maxRecDepth 10000 in
theorem hX5_readRoom : iv_Tb 80 tX5_readRoom := iv_tb_of (m := mX5_readRoom) rfl
set_option maxRecDepth 10000 in
theorem gX5_readRoom : PG.2 80 = some mX5_readRoom := iv_pi_of (t := tX5_readRoom) rfl (by decide)
def FX5_readRoom_l10 (N : Nat) (q0 : Nat) (q1 : Nat) (kx : iv_M → Option (iv_M)) : Nat → iv_M → Int → Option (iv_M)
  | 0, _, _ => none
  | n + 1, s, x2 => (if 4 ≤ x2 then (kx s) else ((FX6_here N s (q0 + 1)).bind fun v_1041 => ((FX5_sortOf N s v_1041).bind fun v_1042 => (if v_1042 = (-1) then ((FX6_fail N s (q0 + 1) (s (q0 + 1) 2) 0).bind fun s_1052 => some s_1052) else ((wr s (q1 + 4) 48 (w32 ((w32 (4 * (s q1 2))) + x2)) v_1042).bind fun s_1045 => ((pt s_1045 (q0 + 1) 2 (w32 ((s_1045 (q0 + 1) 2) + 1))).bind fun s_1048 => (FX5_readRoom_l10 N q0 q1 kx n s_1048 (w32 (x2 + 1)))))))))
set_option maxRecDepth 10000 in
set_option maxHeartbeats 4000000 in
theorem RX5_readRoom_l10 {d N nc Ls : Nat} {Xs : Nat → Int32} (hd : 3 ≤ d) {q0 : Nat} (t0 : T5 nc q0) {q1 : Nat} (t1 : T1 nc q1) {kx : iv_M → Option (iv_M)} {r : iv_M} {Q : Option Value → iv_H → Prop} (hk : ∀ (h : iv_H) (s : iv_M) (hR : Rep nc Ls Xs h s), kx s = some r → Rn d 80 none 80 [some (.ref q0), some (.ref q1), none, none, none, none] [] h Q) (hq : ∀ h1, Rep nc Ls Xs h1 r → Q none h1) : ∀ (n : Nat) (h : iv_H) (s : iv_M) (hR : Rep nc Ls Xs h s) (m2 : Int32) (x2 : Int) (p2 : m2.toInt = x2), FX5_readRoom_l10 N q0 q1 kx n s x2 = some r → Rn d 80 none 10 [some (.ref q0), some (.ref q1), some (.int m2), none, none, none] [] h Q := by
  have hT := hX5_readRoom
  intro n
  induction n with
  | zero =>
    intro h s hR m2 x2 p2 e
    rw [FX5_readRoom_l10] at e
    cases e
  | succ n ih =>
    intro h s hR m2 x2 p2 e
    rw [FX5_readRoom_l10] at e
    refine Rn.n hT 2 (pc' := 12) (L' := [some (.ref q0), some (.ref q1), some (.int m2), none, none, none]) (st' := [.int (4 : Int32), .int m2]) rfl ?_
    by_cases c_1040 : 4 ≤ x2
    · rw [if_pos c_1040] at e
      refine Rn.bt hT rfl rfl rfl (decide_eq_true ((ti_le L32_4 p2).mpr c_1040)) ?_
      exact Rn.weak (ll_s (ll_s (ll_n (ll_n (ll_n (ll_n ll_e)))))) (hk h s hR e)
    · rw [if_neg c_1040] at e
      refine Rn.bf hT rfl rfl rfl (decide_eq_false (fun z => c_1040 ((ti_le L32_4 p2).mp z))) ?_
      refine Rn.n hT 1 (pc' := 16) (L' := [some (.ref q0), some (.ref q1), some (.int m2), none, none, none]) (st' := [.ref q0]) rfl ?_
      refine Rn.hp hT rfl rfl (gR_hp (rp_gR hR (T5_o t0) rfl)) ?_
      obtain ⟨v_1041, e_1041, e⟩ := Option.bind_eq_some_iff.mp e
      refine Rn.call hT rfl rfl rfl (Nat.le_of_ble_eq_true rfl) (rcv_v gX6_here (by omega) (rp_ck hR (T6_o (T5_0 t0)))) (RX6_here (by omega) hR (T5_0 t0) e_1041 (fun z_1041 p_1041 => ?_))
      show Rn d _ _ 22 [some (.ref q0), some (.ref q1), some (.int m2), none, none, none] [.int z_1041] h Q
      obtain ⟨v_1042, e_1042, e⟩ := Option.bind_eq_some_iff.mp e
      refine Rn.call hT rfl rfl rfl (Nat.le_of_ble_eq_true rfl) rfl (RX5_sortOf (by omega) hR p_1041 e_1042 (fun z_1042 p_1042 => ?_))
      show Rn d _ _ 25 [some (.ref q0), some (.ref q1), some (.int m2), none, none, none] [.int z_1042] h Q
      refine Rn.n hT 3 (pc' := 28) (L' := [some (.ref q0), some (.ref q1), some (.int m2), some (.int z_1042), none, none]) (st' := [.int (-1 : Int32), .int z_1042]) rfl ?_
      by_cases c_1043 : v_1042 = (-1)
      · rw [if_pos c_1043] at e
        refine Rn.bf hT rfl rfl rfl (decide_eq_false (fun z => z ((ti_e p_1042 L32_m1).mpr c_1043))) ?_
        refine Rn.n hT 1 (pc' := 32) (L' := [some (.ref q0), some (.ref q1), some (.int m2), some (.int z_1042), none, none]) (st' := [.ref q0]) rfl ?_
        refine Rn.hp hT rfl rfl (gR_hp (rp_gR hR (T5_o t0) rfl)) ?_
        refine Rn.n hT 1 (pc' := 36) (L' := [some (.ref q0), some (.ref q1), some (.int m2), some (.int z_1042), none, none]) (st' := [.ref q0, .ref (q0 + 1)]) rfl ?_
        refine Rn.hp hT rfl rfl (gR_hp (rp_gR hR (T5_o t0) rfl)) ?_
        obtain ⟨z_1050, g_1050, p_1050⟩ : ∃ z : Int32, gI h 6 2 (q0 + 1) = some z ∧ z.toInt = s (q0 + 1) 2 := rp_gI (k := 2) hR (T6_o (T5_0 t0)) rfl
        refine Rn.hp hT rfl rfl (gI_hp g_1050) ?_
        refine Rn.n hT 1 (pc' := 43) (L' := [some (.ref q0), some (.ref q1), some (.int m2), some (.int z_1042), none, none]) (st' := [.int (0 : Int32), .int z_1050, .ref (q0 + 1)]) rfl ?_
        obtain ⟨s_1052, e_1051, e⟩ := Option.bind_eq_some_iff.mp e
        refine Rn.call hT rfl rfl rfl (Nat.le_of_ble_eq_true rfl) (rcv_v gX6_fail (by omega) (rp_ck hR (T6_o (T5_0 t0)))) (RX6_fail (by omega) hR (T5_0 t0) p_1050 L32_0 e_1051 (fun h_1052 R_1052 => ?_))
        show Rn d _ _ 46 [some (.ref q0), some (.ref q1), some (.int m2), some (.int z_1042), none, none] [] h_1052 Q
        obtain rfl := Option.some.inj e
        exact Rn.ret hT rfl rfl rfl (hq h_1052 R_1052)
      · rw [if_neg c_1043] at e
        refine Rn.bt hT rfl rfl rfl (decide_eq_true (fun z => c_1043 ((ti_e p_1042 L32_m1).mp z))) ?_
        refine Rn.n hT 1 (pc' := 48) (L' := [some (.ref q0), some (.ref q1), some (.int m2), some (.int z_1042), none, none]) (st' := [.ref q1]) rfl ?_
        refine Rn.hp hT rfl rfl (gR_hp (rp_gR hR (T1_o t1) rfl)) ?_
        refine Rn.n hT 2 (pc' := 53) (L' := [some (.ref q0), some (.ref q1), some (.int m2), some (.int z_1042), none, none]) (st' := [.ref q1, .int (4 : Int32), .ref (q1 + 4)]) rfl ?_
        obtain ⟨z_1044, g_1044, p_1044⟩ : ∃ z : Int32, gI h 1 2 q1 = some z ∧ z.toInt = s q1 2 := rp_gI (k := 2) hR (T1_o t1) rfl
        refine Rn.hp hT rfl rfl (gI_hp g_1044) ?_
        refine Rn.n hT 4 (pc' := 60) (L' := [some (.ref q0), some (.ref q1), some (.int m2), some (.int z_1042), none, none]) (st' := [.int z_1042, .int (((4 : Int32) * z_1044) + m2), .ref (q1 + 4)]) rfl ?_
        obtain ⟨s_1045, e_1046, e⟩ := Option.bind_eq_some_iff.mp e
        obtain ⟨h_1045, g_1046, R_1045⟩ := rp_wI hR (T1_8 t1) (T1_8l t1) (ti_add (ti_mul L32_4 p_1044) p2) p_1042 e_1046
        refine Rn.hp hT rfl rfl (wI_hp g_1046) ?_
        refine Rn.n hT 1 (pc' := 62) (L' := [some (.ref q0), some (.ref q1), some (.int m2), some (.int z_1042), none, none]) (st' := [.ref q0]) rfl ?_
        refine Rn.hp hT rfl rfl (gR_hp (rp_gR R_1045 (T5_o t0) rfl)) ?_
        refine Rn.n hT 1 (pc' := 66) (L' := [some (.ref q0), some (.ref q1), some (.int m2), some (.int z_1042), none, none]) (st' := [.ref (q0 + 1), .ref (q0 + 1)]) rfl ?_
        obtain ⟨z_1047, g_1047, p_1047⟩ : ∃ z : Int32, gI h_1045 6 2 (q0 + 1) = some z ∧ z.toInt = s_1045 (q0 + 1) 2 := rp_gI (k := 2) R_1045 (T6_o (T5_0 t0)) rfl
        refine Rn.hp hT rfl rfl (gI_hp g_1047) ?_
        refine Rn.n hT 2 (pc' := 71) (L' := [some (.ref q0), some (.ref q1), some (.int m2), some (.int z_1042), none, none]) (st' := [.int (z_1047 + (1 : Int32)), .ref (q0 + 1)]) rfl ?_
        obtain ⟨s_1048, e_1049, e⟩ := Option.bind_eq_some_iff.mp e
        obtain ⟨h_1048, g_1049, R_1048⟩ := rp_pI (ci := 6) (k := 2) R_1045 (T6_o (T5_0 t0)) rfl rfl (ti_add p_1047 L32_1) e_1049
        refine Rn.hp hT rfl rfl (pV_hp rfl g_1049) ?_
        refine Rn.n hT 2 (pc' := 10) (L' := [some (.ref q0), some (.ref q1), some (.int (m2 + (1 : Int32))), some (.int z_1042), none, none]) (st' := []) rfl ?_
        exact Rn.weak (ll_s (ll_s (ll_s (ll_n (ll_n (ll_n ll_e)))))) (ih h_1048 s_1048 R_1048 (m2 + (1 : Int32)) (w32 (x2 + 1)) (ti_add p2 L32_1) e)
def FX5_readRoom_b157 (N : Nat) (s : iv_M) (q0 : Nat) (x3 : Int)  : Option (iv_M) := ((FX6_fail N s (q0 + 1) x3 5).bind fun s_1054 => some s_1054)
set_option maxRecDepth 10000 in
set_option maxHeartbeats 4000000 in
theorem RX5_readRoom_b157 {d N nc Ls : Nat} {Xs : Nat → Int32} (hd : 3 ≤ d) {h : iv_H} {s : iv_M} (hR : Rep nc Ls Xs h s) {q0 : Nat} (t0 : T5 nc q0) {m3 : Int32} {x3 : Int} (p3 : m3.toInt = x3)  {r : iv_M} {Q : Option Value → iv_H → Prop} (hq : ∀ h1, Rep nc Ls Xs h1 r → Q none h1) (e : FX5_readRoom_b157 N s q0 x3  = some r) : Rn d 80 none 157 [some (.ref q0), none, none, some (.int m3), none, none] [] h Q := by
  have hT := hX5_readRoom
  unfold FX5_readRoom_b157 at e
  refine Rn.n hT 1 (pc' := 158) (L' := [some (.ref q0), none, none, some (.int m3), none, none]) (st' := [.ref q0]) rfl ?_
  refine Rn.hp hT rfl rfl (gR_hp (rp_gR hR (T5_o t0) rfl)) ?_
  refine Rn.n hT 2 (pc' := 163) (L' := [some (.ref q0), none, none, some (.int m3), none, none]) (st' := [.int (5 : Int32), .int m3, .ref (q0 + 1)]) rfl ?_
  obtain ⟨s_1054, e_1053, e⟩ := Option.bind_eq_some_iff.mp e
  refine Rn.call hT rfl rfl rfl (Nat.le_of_ble_eq_true rfl) (rcv_v gX6_fail (by omega) (rp_ck hR (T6_o (T5_0 t0)))) (RX6_fail (by omega) hR (T5_0 t0) p3 L32_5 e_1053 (fun h_1054 R_1054 => ?_))
  show Rn d _ _ 166 [some (.ref q0), none, none, some (.int m3), none, none] [] h_1054 Q
  obtain rfl := Option.some.inj e
  exact Rn.ret hT rfl rfl rfl (hq h_1054 R_1054)
def FX5_readRoom (N : Nat) (s : iv_M) (q0 : Nat) (q1 : Nat) : Option (iv_M) := ((FX6_skipBlanks N s (q0 + 1)).bind fun r_1017 => (fun (v_1017 : Int) (s_1018 : iv_M) => (FX5_readRoom_l10 N q0 q1 (fun (s_1019 : iv_M) => ((FX6_readNumber N s_1019 (q0 + 1) 0 3).bind fun r_1021 => (fun (v_1021 : Int) (s_1022 : iv_M) => (if (s_1022 (q0 + 1) 4) = 0 then ((FX6_readNumber N s_1022 (q0 + 1) 0 3).bind fun r_1026 => (fun (v_1026 : Int) (s_1027 : iv_M) => (if (s_1027 (q0 + 1) 4) = 0 then ((FX1_cellAt N s_1027 q1 v_1021 v_1026).bind fun v_1030 => (if v_1030 = (-1) then (FX5_readRoom_b157 N s_1027 q0 (s_1022 (q0 + 1) 3)) else ((rd s_1027 (q1 + 3) 16 v_1030).bind fun v_1032 => (if v_1032 = (-1) then ((FX1_put N s_1027 q1 (s_1027 q1 2) v_1030 0).bind fun s_1036 => ((pt s_1036 q1 2 (w32 ((s_1036 q1 2) + 1))).bind fun s_1038 => some s_1038)) else (FX5_readRoom_b157 N s_1027 q0 (s_1022 (q0 + 1) 3)))))) else some s_1027)) r_1026.1 r_1026.2) else some s_1022)) r_1021.1 r_1021.2)) N s_1018 0)) r_1017.1 r_1017.2)
set_option maxRecDepth 10000 in
set_option maxHeartbeats 4000000 in
theorem RX5_readRoom {d N nc Ls : Nat} {Xs : Nat → Int32} (hd : 4 ≤ d) {h : iv_H} {s : iv_M} (hR : Rep nc Ls Xs h s) {q0 : Nat} (t0 : T5 nc q0) {q1 : Nat} (t1 : T1 nc q1) {r : iv_M} {Q : Option Value → iv_H → Prop} (e : FX5_readRoom N s q0 q1 = some r) (hq : ∀ h1, Rep nc Ls Xs h1 r → Q none h1) : Cl d 80 [.ref q0, .ref q1] h Q := by
  obtain ⟨d, rfl⟩ : ∃ k, d = k + 1 := ⟨d - 1, by omega⟩
  have hd : 3 ≤ d := by omega
  have hT := hX5_readRoom
  unfold FX5_readRoom at e
  refine Cl.into (by decide) gX5_readRoom rfl ?_
  show Rn d 80 none 0 [some (.ref q0), some (.ref q1), none, none, none, none] [] h Q
  refine Rn.n hT 1 (pc' := 1) (L' := [some (.ref q0), some (.ref q1), none, none, none, none]) (st' := [.ref q0]) rfl ?_
  refine Rn.hp hT rfl rfl (gR_hp (rp_gR hR (T5_o t0) rfl)) ?_
  obtain ⟨⟨v_1017, s_1018⟩, e_1017, e⟩ := Option.bind_eq_some_iff.mp e
  try dsimp only at e
  try dsimp only at e
  refine Rn.call hT rfl rfl rfl (Nat.le_of_ble_eq_true rfl) (rcv_v gX6_skipBlanks (by omega) (rp_ck hR (T6_o (T5_0 t0)))) (RX6_skipBlanks (by omega) hR (T5_0 t0) e_1017 (fun z_1017 h_1018 p_1017 R_1018 => ?_))
  show Rn d _ _ 7 [some (.ref q0), some (.ref q1), none, none, none, none] [.int z_1017] h_1018 Q
  refine Rn.n hT 3 (pc' := 10) (L' := [some (.ref q0), some (.ref q1), some (.int (0 : Int32)), none, none, none]) (st' := []) rfl ?_
  refine Rn.weak (ll_s (ll_s (ll_s (ll_n (ll_n (ll_n ll_e)))))) (RX5_readRoom_l10 hd t0 t1 (fun h_1019 s_1019 R_1019 e => ?_) hq N h_1018 s_1018 R_1018 (0 : Int32) 0 L32_0 e)
  try dsimp only at e
  refine Rn.n hT 1 (pc' := 81) (L' := [some (.ref q0), some (.ref q1), none, none, none, none]) (st' := [.ref q0]) rfl ?_
  refine Rn.hp hT rfl rfl (gR_hp (rp_gR R_1019 (T5_o t0) rfl)) ?_
  refine Rn.n hT 2 (pc' := 86) (L' := [some (.ref q0), some (.ref q1), none, none, none, none]) (st' := [.int (3 : Int32), .int (0 : Int32), .ref (q0 + 1)]) rfl ?_
  obtain ⟨⟨v_1021, s_1022⟩, e_1021, e⟩ := Option.bind_eq_some_iff.mp e
  try dsimp only at e
  try dsimp only at e
  refine Rn.call hT rfl rfl rfl (Nat.le_of_ble_eq_true rfl) (rcv_v gX6_readNumber (by omega) (rp_ck R_1019 (T6_o (T5_0 t0)))) (RX6_readNumber (by omega) R_1019 (T5_0 t0) L32_0 L32_3 e_1021 (fun z_1021 h_1022 p_1021 R_1022 => ?_))
  show Rn d _ _ 89 [some (.ref q0), some (.ref q1), none, none, none, none] [.int z_1021] h_1022 Q
  refine Rn.n hT 2 (pc' := 91) (L' := [some (.ref q0), some (.ref q1), some (.int z_1021), none, none, none]) (st' := [.ref q0]) rfl ?_
  refine Rn.hp hT rfl rfl (gR_hp (rp_gR R_1022 (T5_o t0) rfl)) ?_
  obtain ⟨z_1023, g_1023, p_1023⟩ : ∃ z : Int32, gI h_1022 6 3 (q0 + 1) = some z ∧ z.toInt = s_1022 (q0 + 1) 3 := rp_gI (k := 3) R_1022 (T6_o (T5_0 t0)) rfl
  refine Rn.hp hT rfl rfl (gI_hp g_1023) ?_
  refine Rn.n hT 2 (pc' := 99) (L' := [some (.ref q0), some (.ref q1), some (.int z_1021), some (.int z_1023), none, none]) (st' := [.ref q0]) rfl ?_
  refine Rn.hp hT rfl rfl (gR_hp (rp_gR R_1022 (T5_o t0) rfl)) ?_
  obtain ⟨z_1024, g_1024, p_1024⟩ : ∃ z : Int32, gI h_1022 6 4 (q0 + 1) = some z ∧ z.toInt = s_1022 (q0 + 1) 4 := rp_gI (k := 4) R_1022 (T6_o (T5_0 t0)) rfl
  refine Rn.hp hT rfl rfl (gI_hp g_1024) ?_
  by_cases c_1025 : (s_1022 (q0 + 1) 4) = 0
  · rw [if_pos c_1025] at e
    refine Rn.bt hT rfl rfl rfl (decide_eq_true ((ti_e p_1024 L32_0).mpr c_1025)) ?_
    refine Rn.n hT 1 (pc' := 110) (L' := [some (.ref q0), some (.ref q1), some (.int z_1021), some (.int z_1023), none, none]) (st' := [.ref q0]) rfl ?_
    refine Rn.hp hT rfl rfl (gR_hp (rp_gR R_1022 (T5_o t0) rfl)) ?_
    refine Rn.n hT 2 (pc' := 115) (L' := [some (.ref q0), some (.ref q1), some (.int z_1021), some (.int z_1023), none, none]) (st' := [.int (3 : Int32), .int (0 : Int32), .ref (q0 + 1)]) rfl ?_
    obtain ⟨⟨v_1026, s_1027⟩, e_1026, e⟩ := Option.bind_eq_some_iff.mp e
    try dsimp only at e
    try dsimp only at e
    refine Rn.call hT rfl rfl rfl (Nat.le_of_ble_eq_true rfl) (rcv_v gX6_readNumber (by omega) (rp_ck R_1022 (T6_o (T5_0 t0)))) (RX6_readNumber (by omega) R_1022 (T5_0 t0) L32_0 L32_3 e_1026 (fun z_1026 h_1027 p_1026 R_1027 => ?_))
    show Rn d _ _ 118 [some (.ref q0), some (.ref q1), some (.int z_1021), some (.int z_1023), none, none] [.int z_1026] h_1027 Q
    refine Rn.n hT 2 (pc' := 121) (L' := [some (.ref q0), some (.ref q1), some (.int z_1021), some (.int z_1023), some (.int z_1026), none]) (st' := [.ref q0]) rfl ?_
    refine Rn.hp hT rfl rfl (gR_hp (rp_gR R_1027 (T5_o t0) rfl)) ?_
    obtain ⟨z_1028, g_1028, p_1028⟩ : ∃ z : Int32, gI h_1027 6 4 (q0 + 1) = some z ∧ z.toInt = s_1027 (q0 + 1) 4 := rp_gI (k := 4) R_1027 (T6_o (T5_0 t0)) rfl
    refine Rn.hp hT rfl rfl (gI_hp g_1028) ?_
    by_cases c_1029 : (s_1027 (q0 + 1) 4) = 0
    · rw [if_pos c_1029] at e
      refine Rn.bt hT rfl rfl rfl (decide_eq_true ((ti_e p_1028 L32_0).mpr c_1029)) ?_
      refine Rn.n hT 3 (pc' := 135) (L' := [some (.ref q0), some (.ref q1), some (.int z_1021), some (.int z_1023), some (.int z_1026), none]) (st' := [.int z_1026, .int z_1021, .ref q1]) rfl ?_
      obtain ⟨v_1030, e_1030, e⟩ := Option.bind_eq_some_iff.mp e
      refine Rn.call hT rfl rfl rfl (Nat.le_of_ble_eq_true rfl) (rcv_v gX1_cellAt (by omega) (rp_ck R_1027 (T1_o t1))) (RX1_cellAt (by omega) R_1027 t1 p_1021 p_1026 e_1030 (fun z_1030 p_1030 => ?_))
      show Rn d _ _ 138 [some (.ref q0), some (.ref q1), some (.int z_1021), some (.int z_1023), some (.int z_1026), none] [.int z_1030] h_1027 Q
      refine Rn.n hT 3 (pc' := 143) (L' := [some (.ref q0), some (.ref q1), some (.int z_1021), some (.int z_1023), some (.int z_1026), some (.int z_1030)]) (st' := [.int (-1 : Int32), .int z_1030]) rfl ?_
      by_cases c_1031 : v_1030 = (-1)
      · rw [if_pos c_1031] at e
        refine Rn.bt hT rfl rfl rfl (decide_eq_true ((ti_e p_1030 L32_m1).mpr c_1031)) ?_
        exact Rn.weak (ll_s (ll_n (ll_n (ll_s (ll_n (ll_n ll_e)))))) (RX5_readRoom_b157 hd R_1027 t0 p_1023 hq e)
      · rw [if_neg c_1031] at e
        refine Rn.bf hT rfl rfl rfl (decide_eq_false (fun z => c_1031 ((ti_e p_1030 L32_m1).mp z))) ?_
        refine Rn.n hT 1 (pc' := 147) (L' := [some (.ref q0), some (.ref q1), some (.int z_1021), some (.int z_1023), some (.int z_1026), some (.int z_1030)]) (st' := [.ref q1]) rfl ?_
        refine Rn.hp hT rfl rfl (gR_hp (rp_gR R_1027 (T1_o t1) rfl)) ?_
        refine Rn.n hT 1 (pc' := 152) (L' := [some (.ref q0), some (.ref q1), some (.int z_1021), some (.int z_1023), some (.int z_1026), some (.int z_1030)]) (st' := [.int z_1030, .ref (q1 + 3)]) rfl ?_
        obtain ⟨v_1032, e_1032, e⟩ := Option.bind_eq_some_iff.mp e
        obtain ⟨z_1032, g_1032, p_1032⟩ := rp_aI R_1027 (T1_7 t1) (T1_7l t1) p_1030 e_1032
        refine Rn.hp hT rfl rfl (aI_hp g_1032) ?_
        refine Rn.n hT 1 (pc' := 154) (L' := [some (.ref q0), some (.ref q1), some (.int z_1021), some (.int z_1023), some (.int z_1026), some (.int z_1030)]) (st' := [.int (-1 : Int32), .int z_1032]) rfl ?_
        by_cases c_1033 : v_1032 = (-1)
        · rw [if_pos c_1033] at e
          refine Rn.bt hT rfl rfl rfl (decide_eq_true ((ti_e p_1032 L32_m1).mpr c_1033)) ?_
          refine Rn.n hT 2 (pc' := 169) (L' := [some (.ref q0), some (.ref q1), some (.int z_1021), some (.int z_1023), some (.int z_1026), some (.int z_1030)]) (st' := [.ref q1, .ref q1]) rfl ?_
          obtain ⟨z_1034, g_1034, p_1034⟩ : ∃ z : Int32, gI h_1027 1 2 q1 = some z ∧ z.toInt = s_1027 q1 2 := rp_gI (k := 2) R_1027 (T1_o t1) rfl
          refine Rn.hp hT rfl rfl (gI_hp g_1034) ?_
          refine Rn.n hT 2 (pc' := 175) (L' := [some (.ref q0), some (.ref q1), some (.int z_1021), some (.int z_1023), some (.int z_1026), some (.int z_1030)]) (st' := [.int (0 : Int32), .int z_1030, .int z_1034, .ref q1]) rfl ?_
          obtain ⟨s_1036, e_1035, e⟩ := Option.bind_eq_some_iff.mp e
          refine Rn.call hT rfl rfl rfl (Nat.le_of_ble_eq_true rfl) (rcv_v gX1_put (by omega) (rp_ck R_1027 (T1_o t1))) (RX1_put (by omega) R_1027 t1 p_1034 p_1030 L32_0 e_1035 (fun h_1036 R_1036 => ?_))
          show Rn d _ _ 178 [some (.ref q0), some (.ref q1), some (.int z_1021), some (.int z_1023), some (.int z_1026), some (.int z_1030)] [] h_1036 Q
          refine Rn.n hT 2 (pc' := 180) (L' := [some (.ref q0), some (.ref q1), some (.int z_1021), some (.int z_1023), some (.int z_1026), some (.int z_1030)]) (st' := [.ref q1, .ref q1]) rfl ?_
          obtain ⟨z_1037, g_1037, p_1037⟩ : ∃ z : Int32, gI h_1036 1 2 q1 = some z ∧ z.toInt = s_1036 q1 2 := rp_gI (k := 2) R_1036 (T1_o t1) rfl
          refine Rn.hp hT rfl rfl (gI_hp g_1037) ?_
          refine Rn.n hT 2 (pc' := 185) (L' := [some (.ref q0), some (.ref q1), some (.int z_1021), some (.int z_1023), some (.int z_1026), some (.int z_1030)]) (st' := [.int (z_1037 + (1 : Int32)), .ref q1]) rfl ?_
          obtain ⟨s_1038, e_1039, e⟩ := Option.bind_eq_some_iff.mp e
          obtain ⟨h_1038, g_1039, R_1038⟩ := rp_pI (ci := 1) (k := 2) R_1036 (T1_o t1) rfl rfl (ti_add p_1037 L32_1) e_1039
          refine Rn.hp hT rfl rfl (pV_hp rfl g_1039) ?_
          obtain rfl := Option.some.inj e
          exact Rn.ret hT rfl rfl rfl (hq h_1038 R_1038)
        · rw [if_neg c_1033] at e
          refine Rn.bf hT rfl rfl rfl (decide_eq_false (fun z => c_1033 ((ti_e p_1032 L32_m1).mp z))) ?_
          exact Rn.weak (ll_s (ll_n (ll_n (ll_s (ll_n (ll_n ll_e)))))) (RX5_readRoom_b157 hd R_1027 t0 p_1023 hq e)
    · rw [if_neg c_1029] at e
      refine Rn.bf hT rfl rfl rfl (decide_eq_false (fun z => c_1029 ((ti_e p_1028 L32_0).mp z))) ?_
      obtain rfl := Option.some.inj e
      exact Rn.ret hT rfl rfl rfl (hq h_1027 R_1027)
  · rw [if_neg c_1025] at e
    refine Rn.bf hT rfl rfl rfl (decide_eq_false (fun z => c_1025 ((ti_e p_1024 L32_0).mp z))) ?_
    obtain rfl := Option.some.inj e
    exact Rn.ret hT rfl rfl rfl (hq h_1022 R_1022)
set_option maxRecDepth 10000 in
theorem hX5_readFixed : iv_Tb 82 tX5_readFixed := iv_tb_of (m := mX5_readFixed) rfl
set_option maxRecDepth 10000 in
theorem gX5_readFixed : PG.2 82 = some mX5_readFixed := iv_pi_of (t := tX5_readFixed) rfl (by decide)
def FX5_readFixed_b40 (N : Nat) (s : iv_M)   : Option (iv_M) := some s
set_option maxRecDepth 10000 in
set_option maxHeartbeats 4000000 in
theorem RX5_readFixed_b40 {d N nc Ls : Nat} {Xs : Nat → Int32} (hd : 3 ≤ d) {h : iv_H} {s : iv_M} (hR : Rep nc Ls Xs h s)   {r : iv_M} {Q : Option Value → iv_H → Prop} (hq : ∀ h1, Rep nc Ls Xs h1 r → Q none h1) (e : FX5_readFixed_b40 N s   = some r) : Rn d 82 none 40 [none, none, none] [] h Q := by
  have hT := hX5_readFixed
  unfold FX5_readFixed_b40 at e
  obtain rfl := Option.some.inj e
  exact Rn.ret hT rfl rfl rfl (hq h hR)
def FX5_readFixed (N : Nat) (s : iv_M) (q0 : Nat) (q1 : Nat) : Option (iv_M) := ((FX6_readNumber N s (q0 + 1) 0 (w32 ((s (q1 + 1) 2) - 1))).bind fun r_1056 => (fun (v_1056 : Int) (s_1057 : iv_M) => (if (s_1057 (q0 + 1) 4) = 0 then ((pt s_1057 q1 3 (bOr (s_1057 q1 3) (sl32 1 v_1056))).bind fun s_1061 => (FX5_readFixed_b40 N s_1061)) else (FX5_readFixed_b40 N s_1057))) r_1056.1 r_1056.2)
set_option maxRecDepth 10000 in
set_option maxHeartbeats 4000000 in
theorem RX5_readFixed {d N nc Ls : Nat} {Xs : Nat → Int32} (hd : 4 ≤ d) {h : iv_H} {s : iv_M} (hR : Rep nc Ls Xs h s) {q0 : Nat} (t0 : T5 nc q0) {q1 : Nat} (t1 : T2 nc q1) {r : iv_M} {Q : Option Value → iv_H → Prop} (e : FX5_readFixed N s q0 q1 = some r) (hq : ∀ h1, Rep nc Ls Xs h1 r → Q none h1) : Cl d 82 [.ref q0, .ref q1] h Q := by
  obtain ⟨d, rfl⟩ : ∃ k, d = k + 1 := ⟨d - 1, by omega⟩
  have hd : 3 ≤ d := by omega
  have hT := hX5_readFixed
  unfold FX5_readFixed at e
  refine Cl.into (by decide) gX5_readFixed rfl ?_
  show Rn d 82 none 0 [some (.ref q0), some (.ref q1), none] [] h Q
  refine Rn.n hT 1 (pc' := 1) (L' := [some (.ref q0), some (.ref q1), none]) (st' := [.ref q0]) rfl ?_
  refine Rn.hp hT rfl rfl (gR_hp (rp_gR hR (T5_o t0) rfl)) ?_
  refine Rn.n hT 2 (pc' := 6) (L' := [some (.ref q0), some (.ref q1), none]) (st' := [.ref q1, .int (0 : Int32), .ref (q0 + 1)]) rfl ?_
  refine Rn.hp hT rfl rfl (gR_hp (rp_gR hR (T2_o t1) rfl)) ?_
  obtain ⟨z_1055, g_1055, p_1055⟩ : ∃ z : Int32, gI h 1 2 (q1 + 1) = some z ∧ z.toInt = s (q1 + 1) 2 := rp_gI (k := 2) hR (T1_o (T2_9 t1)) rfl
  refine Rn.hp hT rfl rfl (gI_hp g_1055) ?_
  refine Rn.n hT 2 (pc' := 14) (L' := [some (.ref q0), some (.ref q1), none]) (st' := [.int (z_1055 - (1 : Int32)), .int (0 : Int32), .ref (q0 + 1)]) rfl ?_
  obtain ⟨⟨v_1056, s_1057⟩, e_1056, e⟩ := Option.bind_eq_some_iff.mp e
  try dsimp only at e
  try dsimp only at e
  refine Rn.call hT rfl rfl rfl (Nat.le_of_ble_eq_true rfl) (rcv_v gX6_readNumber (by omega) (rp_ck hR (T6_o (T5_0 t0)))) (RX6_readNumber (by omega) hR (T5_0 t0) L32_0 (ti_sub p_1055 L32_1) e_1056 (fun z_1056 h_1057 p_1056 R_1057 => ?_))
  show Rn d _ _ 17 [some (.ref q0), some (.ref q1), none] [.int z_1056] h_1057 Q
  refine Rn.n hT 2 (pc' := 19) (L' := [some (.ref q0), some (.ref q1), some (.int z_1056)]) (st' := [.ref q0]) rfl ?_
  refine Rn.hp hT rfl rfl (gR_hp (rp_gR R_1057 (T5_o t0) rfl)) ?_
  obtain ⟨z_1058, g_1058, p_1058⟩ : ∃ z : Int32, gI h_1057 6 4 (q0 + 1) = some z ∧ z.toInt = s_1057 (q0 + 1) 4 := rp_gI (k := 4) R_1057 (T6_o (T5_0 t0)) rfl
  refine Rn.hp hT rfl rfl (gI_hp g_1058) ?_
  by_cases c_1059 : (s_1057 (q0 + 1) 4) = 0
  · rw [if_pos c_1059] at e
    refine Rn.bf hT rfl rfl rfl (decide_eq_false (fun z => z ((ti_e p_1058 L32_0).mpr c_1059))) ?_
    refine Rn.n hT 2 (pc' := 30) (L' := [some (.ref q0), some (.ref q1), some (.int z_1056)]) (st' := [.ref q1, .ref q1]) rfl ?_
    obtain ⟨z_1060, g_1060, p_1060⟩ : ∃ z : Int32, gI h_1057 2 3 q1 = some z ∧ z.toInt = s_1057 q1 3 := rp_gI (k := 3) R_1057 (T2_o t1) rfl
    refine Rn.hp hT rfl rfl (gI_hp g_1060) ?_
    refine Rn.n hT 4 (pc' := 37) (L' := [some (.ref q0), some (.ref q1), some (.int z_1056)]) (st' := [.int (z_1060 ||| ((1 : Int32) <<< (z_1056 &&& 31))), .ref q1]) rfl ?_
    obtain ⟨s_1061, e_1062, e⟩ := Option.bind_eq_some_iff.mp e
    obtain ⟨h_1061, g_1062, R_1061⟩ := rp_pI (ci := 2) (k := 3) R_1057 (T2_o t1) rfl rfl (ti_or p_1060 (ti_shl L32_1 p_1056)) e_1062
    refine Rn.hp hT rfl rfl (pV_hp rfl g_1062) ?_
    exact Rn.weak (ll_n (ll_n (ll_n ll_e))) (RX5_readFixed_b40 hd R_1061 hq e)
  · rw [if_neg c_1059] at e
    refine Rn.bt hT rfl rfl rfl (decide_eq_true (fun z => c_1059 ((ti_e p_1058 L32_0).mp z))) ?_
    exact Rn.weak (ll_n (ll_n (ll_n ll_e))) (RX5_readFixed_b40 hd R_1057 hq e)
set_option maxRecDepth 10000 in
theorem hX5_readKey : iv_Tb 83 tX5_readKey := iv_tb_of (m := mX5_readKey) rfl
set_option maxRecDepth 10000 in
theorem gX5_readKey : PG.2 83 = some mX5_readKey := iv_pi_of (t := tX5_readKey) rfl (by decide)
def FX5_readKey_b56 (N : Nat) (s : iv_M)   : Option (iv_M) := some s
set_option maxRecDepth 10000 in
set_option maxHeartbeats 4000000 in
theorem RX5_readKey_b56 {d N nc Ls : Nat} {Xs : Nat → Int32} (hd : 3 ≤ d) {h : iv_H} {s : iv_M} (hR : Rep nc Ls Xs h s)   {r : iv_M} {Q : Option Value → iv_H → Prop} (hq : ∀ h1, Rep nc Ls Xs h1 r → Q none h1) (e : FX5_readKey_b56 N s   = some r) : Rn d 83 none 56 [none, none, none, none] [] h Q := by
  have hT := hX5_readKey
  unfold FX5_readKey_b56 at e
  obtain rfl := Option.some.inj e
  exact Rn.ret hT rfl rfl rfl (hq h hR)
def FX5_readKey (N : Nat) (s : iv_M) (q0 : Nat) (q1 : Nat) : Option (iv_M) := ((FX6_readNumber N s (q0 + 1) 1 4).bind fun r_1063 => (fun (v_1063 : Int) (s_1064 : iv_M) => (if (s_1064 (q0 + 1) 4) = 0 then ((FX6_readNumber N s_1064 (q0 + 1) 0 (w32 ((s_1064 (q1 + 1) 2) - 1))).bind fun r_1068 => (fun (v_1068 : Int) (s_1069 : iv_M) => (if (s_1069 (q0 + 1) 4) = 0 then ((wr s_1069 (q1 + 8) 5 v_1063 v_1068).bind fun s_1072 => (FX5_readKey_b56 N s_1072)) else (FX5_readKey_b56 N s_1069))) r_1068.1 r_1068.2) else some s_1064)) r_1063.1 r_1063.2)
set_option maxRecDepth 10000 in
set_option maxHeartbeats 4000000 in
theorem RX5_readKey {d N nc Ls : Nat} {Xs : Nat → Int32} (hd : 4 ≤ d) {h : iv_H} {s : iv_M} (hR : Rep nc Ls Xs h s) {q0 : Nat} (t0 : T5 nc q0) {q1 : Nat} (t1 : T2 nc q1) {r : iv_M} {Q : Option Value → iv_H → Prop} (e : FX5_readKey N s q0 q1 = some r) (hq : ∀ h1, Rep nc Ls Xs h1 r → Q none h1) : Cl d 83 [.ref q0, .ref q1] h Q := by
  obtain ⟨d, rfl⟩ : ∃ k, d = k + 1 := ⟨d - 1, by omega⟩
  have hd : 3 ≤ d := by omega
  have hT := hX5_readKey
  unfold FX5_readKey at e
  refine Cl.into (by decide) gX5_readKey rfl ?_
  show Rn d 83 none 0 [some (.ref q0), some (.ref q1), none, none] [] h Q
  refine Rn.n hT 1 (pc' := 1) (L' := [some (.ref q0), some (.ref q1), none, none]) (st' := [.ref q0]) rfl ?_
  refine Rn.hp hT rfl rfl (gR_hp (rp_gR hR (T5_o t0) rfl)) ?_
  refine Rn.n hT 2 (pc' := 6) (L' := [some (.ref q0), some (.ref q1), none, none]) (st' := [.int (4 : Int32), .int (1 : Int32), .ref (q0 + 1)]) rfl ?_
  obtain ⟨⟨v_1063, s_1064⟩, e_1063, e⟩ := Option.bind_eq_some_iff.mp e
  try dsimp only at e
  try dsimp only at e
  refine Rn.call hT rfl rfl rfl (Nat.le_of_ble_eq_true rfl) (rcv_v gX6_readNumber (by omega) (rp_ck hR (T6_o (T5_0 t0)))) (RX6_readNumber (by omega) hR (T5_0 t0) L32_1 L32_4 e_1063 (fun z_1063 h_1064 p_1063 R_1064 => ?_))
  show Rn d _ _ 9 [some (.ref q0), some (.ref q1), none, none] [.int z_1063] h_1064 Q
  refine Rn.n hT 2 (pc' := 11) (L' := [some (.ref q0), some (.ref q1), some (.int z_1063), none]) (st' := [.ref q0]) rfl ?_
  refine Rn.hp hT rfl rfl (gR_hp (rp_gR R_1064 (T5_o t0) rfl)) ?_
  obtain ⟨z_1065, g_1065, p_1065⟩ : ∃ z : Int32, gI h_1064 6 4 (q0 + 1) = some z ∧ z.toInt = s_1064 (q0 + 1) 4 := rp_gI (k := 4) R_1064 (T6_o (T5_0 t0)) rfl
  refine Rn.hp hT rfl rfl (gI_hp g_1065) ?_
  by_cases c_1066 : (s_1064 (q0 + 1) 4) = 0
  · rw [if_pos c_1066] at e
    refine Rn.bt hT rfl rfl rfl (decide_eq_true ((ti_e p_1065 L32_0).mpr c_1066)) ?_
    refine Rn.n hT 1 (pc' := 22) (L' := [some (.ref q0), some (.ref q1), some (.int z_1063), none]) (st' := [.ref q0]) rfl ?_
    refine Rn.hp hT rfl rfl (gR_hp (rp_gR R_1064 (T5_o t0) rfl)) ?_
    refine Rn.n hT 2 (pc' := 27) (L' := [some (.ref q0), some (.ref q1), some (.int z_1063), none]) (st' := [.ref q1, .int (0 : Int32), .ref (q0 + 1)]) rfl ?_
    refine Rn.hp hT rfl rfl (gR_hp (rp_gR R_1064 (T2_o t1) rfl)) ?_
    obtain ⟨z_1067, g_1067, p_1067⟩ : ∃ z : Int32, gI h_1064 1 2 (q1 + 1) = some z ∧ z.toInt = s_1064 (q1 + 1) 2 := rp_gI (k := 2) R_1064 (T1_o (T2_9 t1)) rfl
    refine Rn.hp hT rfl rfl (gI_hp g_1067) ?_
    refine Rn.n hT 2 (pc' := 35) (L' := [some (.ref q0), some (.ref q1), some (.int z_1063), none]) (st' := [.int (z_1067 - (1 : Int32)), .int (0 : Int32), .ref (q0 + 1)]) rfl ?_
    obtain ⟨⟨v_1068, s_1069⟩, e_1068, e⟩ := Option.bind_eq_some_iff.mp e
    try dsimp only at e
    try dsimp only at e
    refine Rn.call hT rfl rfl rfl (Nat.le_of_ble_eq_true rfl) (rcv_v gX6_readNumber (by omega) (rp_ck R_1064 (T6_o (T5_0 t0)))) (RX6_readNumber (by omega) R_1064 (T5_0 t0) L32_0 (ti_sub p_1067 L32_1) e_1068 (fun z_1068 h_1069 p_1068 R_1069 => ?_))
    show Rn d _ _ 38 [some (.ref q0), some (.ref q1), some (.int z_1063), none] [.int z_1068] h_1069 Q
    refine Rn.n hT 2 (pc' := 40) (L' := [some (.ref q0), some (.ref q1), some (.int z_1063), some (.int z_1068)]) (st' := [.ref q0]) rfl ?_
    refine Rn.hp hT rfl rfl (gR_hp (rp_gR R_1069 (T5_o t0) rfl)) ?_
    obtain ⟨z_1070, g_1070, p_1070⟩ : ∃ z : Int32, gI h_1069 6 4 (q0 + 1) = some z ∧ z.toInt = s_1069 (q0 + 1) 4 := rp_gI (k := 4) R_1069 (T6_o (T5_0 t0)) rfl
    refine Rn.hp hT rfl rfl (gI_hp g_1070) ?_
    by_cases c_1071 : (s_1069 (q0 + 1) 4) = 0
    · rw [if_pos c_1071] at e
      refine Rn.bf hT rfl rfl rfl (decide_eq_false (fun z => z ((ti_e p_1070 L32_0).mpr c_1071))) ?_
      refine Rn.n hT 1 (pc' := 50) (L' := [some (.ref q0), some (.ref q1), some (.int z_1063), some (.int z_1068)]) (st' := [.ref q1]) rfl ?_
      refine Rn.hp hT rfl rfl (gR_hp (rp_gR R_1069 (T2_o t1) rfl)) ?_
      refine Rn.n hT 2 (pc' := 55) (L' := [some (.ref q0), some (.ref q1), some (.int z_1063), some (.int z_1068)]) (st' := [.int z_1068, .int z_1063, .ref (q1 + 8)]) rfl ?_
      obtain ⟨s_1072, e_1073, e⟩ := Option.bind_eq_some_iff.mp e
      obtain ⟨h_1072, g_1073, R_1072⟩ := rp_wI R_1069 (T2_10 t1) (T2_10l t1) p_1063 p_1068 e_1073
      refine Rn.hp hT rfl rfl (wI_hp g_1073) ?_
      exact Rn.weak (ll_n (ll_n (ll_n (ll_n ll_e)))) (RX5_readKey_b56 hd R_1072 hq e)
    · rw [if_neg c_1071] at e
      refine Rn.bt hT rfl rfl rfl (decide_eq_true (fun z => c_1071 ((ti_e p_1070 L32_0).mp z))) ?_
      exact Rn.weak (ll_n (ll_n (ll_n (ll_n ll_e)))) (RX5_readKey_b56 hd R_1069 hq e)
  · rw [if_neg c_1066] at e
    refine Rn.bf hT rfl rfl rfl (decide_eq_false (fun z => c_1066 ((ti_e p_1065 L32_0).mp z))) ?_
    obtain rfl := Option.some.inj e
    exact Rn.ret hT rfl rfl rfl (hq h_1064 R_1064)
set_option maxRecDepth 10000 in
theorem hX5_readPerson : iv_Tb 84 tX5_readPerson := iv_tb_of (m := mX5_readPerson) rfl
set_option maxRecDepth 10000 in
theorem gX5_readPerson : PG.2 84 = some mX5_readPerson := iv_pi_of (t := tX5_readPerson) rfl (by decide)
def FX5_readPerson_b48 (N : Nat) (s : iv_M)   : Option (iv_M) := some s
set_option maxRecDepth 10000 in
set_option maxHeartbeats 4000000 in
theorem RX5_readPerson_b48 {d N nc Ls : Nat} {Xs : Nat → Int32} (hd : 3 ≤ d) {h : iv_H} {s : iv_M} (hR : Rep nc Ls Xs h s)   {r : iv_M} {Q : Option Value → iv_H → Prop} (hq : ∀ h1, Rep nc Ls Xs h1 r → Q none h1) (e : FX5_readPerson_b48 N s   = some r) : Rn d 84 none 48 [none, none, none] [] h Q := by
  have hT := hX5_readPerson
  unfold FX5_readPerson_b48 at e
  obtain rfl := Option.some.inj e
  exact Rn.ret hT rfl rfl rfl (hq h hR)
def FX5_readPerson (N : Nat) (s : iv_M) (q0 : Nat) (q1 : Nat) : Option (iv_M) := ((FX6_readNumber N s (q0 + 1) 0 (w32 ((s (q1 + 1) 2) - 1))).bind fun r_1075 => (fun (v_1075 : Int) (s_1076 : iv_M) => (if (s_1076 (q0 + 1) 4) = 0 then ((wr s_1076 (q1 + 9) 6 (s_1076 q1 2) v_1075).bind fun s_1080 => ((pt s_1080 q1 2 (w32 ((s_1080 q1 2) + 1))).bind fun s_1083 => (FX5_readPerson_b48 N s_1083))) else (FX5_readPerson_b48 N s_1076))) r_1075.1 r_1075.2)
set_option maxRecDepth 10000 in
set_option maxHeartbeats 4000000 in
theorem RX5_readPerson {d N nc Ls : Nat} {Xs : Nat → Int32} (hd : 4 ≤ d) {h : iv_H} {s : iv_M} (hR : Rep nc Ls Xs h s) {q0 : Nat} (t0 : T5 nc q0) {q1 : Nat} (t1 : T2 nc q1) {r : iv_M} {Q : Option Value → iv_H → Prop} (e : FX5_readPerson N s q0 q1 = some r) (hq : ∀ h1, Rep nc Ls Xs h1 r → Q none h1) : Cl d 84 [.ref q0, .ref q1] h Q := by
  obtain ⟨d, rfl⟩ : ∃ k, d = k + 1 := ⟨d - 1, by omega⟩
  have hd : 3 ≤ d := by omega
  have hT := hX5_readPerson
  unfold FX5_readPerson at e
  refine Cl.into (by decide) gX5_readPerson rfl ?_
  show Rn d 84 none 0 [some (.ref q0), some (.ref q1), none] [] h Q
  refine Rn.n hT 1 (pc' := 1) (L' := [some (.ref q0), some (.ref q1), none]) (st' := [.ref q0]) rfl ?_
  refine Rn.hp hT rfl rfl (gR_hp (rp_gR hR (T5_o t0) rfl)) ?_
  refine Rn.n hT 2 (pc' := 6) (L' := [some (.ref q0), some (.ref q1), none]) (st' := [.ref q1, .int (0 : Int32), .ref (q0 + 1)]) rfl ?_
  refine Rn.hp hT rfl rfl (gR_hp (rp_gR hR (T2_o t1) rfl)) ?_
  obtain ⟨z_1074, g_1074, p_1074⟩ : ∃ z : Int32, gI h 1 2 (q1 + 1) = some z ∧ z.toInt = s (q1 + 1) 2 := rp_gI (k := 2) hR (T1_o (T2_9 t1)) rfl
  refine Rn.hp hT rfl rfl (gI_hp g_1074) ?_
  refine Rn.n hT 2 (pc' := 14) (L' := [some (.ref q0), some (.ref q1), none]) (st' := [.int (z_1074 - (1 : Int32)), .int (0 : Int32), .ref (q0 + 1)]) rfl ?_
  obtain ⟨⟨v_1075, s_1076⟩, e_1075, e⟩ := Option.bind_eq_some_iff.mp e
  try dsimp only at e
  try dsimp only at e
  refine Rn.call hT rfl rfl rfl (Nat.le_of_ble_eq_true rfl) (rcv_v gX6_readNumber (by omega) (rp_ck hR (T6_o (T5_0 t0)))) (RX6_readNumber (by omega) hR (T5_0 t0) L32_0 (ti_sub p_1074 L32_1) e_1075 (fun z_1075 h_1076 p_1075 R_1076 => ?_))
  show Rn d _ _ 17 [some (.ref q0), some (.ref q1), none] [.int z_1075] h_1076 Q
  refine Rn.n hT 2 (pc' := 19) (L' := [some (.ref q0), some (.ref q1), some (.int z_1075)]) (st' := [.ref q0]) rfl ?_
  refine Rn.hp hT rfl rfl (gR_hp (rp_gR R_1076 (T5_o t0) rfl)) ?_
  obtain ⟨z_1077, g_1077, p_1077⟩ : ∃ z : Int32, gI h_1076 6 4 (q0 + 1) = some z ∧ z.toInt = s_1076 (q0 + 1) 4 := rp_gI (k := 4) R_1076 (T6_o (T5_0 t0)) rfl
  refine Rn.hp hT rfl rfl (gI_hp g_1077) ?_
  by_cases c_1078 : (s_1076 (q0 + 1) 4) = 0
  · rw [if_pos c_1078] at e
    refine Rn.bf hT rfl rfl rfl (decide_eq_false (fun z => z ((ti_e p_1077 L32_0).mpr c_1078))) ?_
    refine Rn.n hT 1 (pc' := 29) (L' := [some (.ref q0), some (.ref q1), some (.int z_1075)]) (st' := [.ref q1]) rfl ?_
    refine Rn.hp hT rfl rfl (gR_hp (rp_gR R_1076 (T2_o t1) rfl)) ?_
    refine Rn.n hT 1 (pc' := 33) (L' := [some (.ref q0), some (.ref q1), some (.int z_1075)]) (st' := [.ref q1, .ref (q1 + 9)]) rfl ?_
    obtain ⟨z_1079, g_1079, p_1079⟩ : ∃ z : Int32, gI h_1076 2 2 q1 = some z ∧ z.toInt = s_1076 q1 2 := rp_gI (k := 2) R_1076 (T2_o t1) rfl
    refine Rn.hp hT rfl rfl (gI_hp g_1079) ?_
    refine Rn.n hT 1 (pc' := 37) (L' := [some (.ref q0), some (.ref q1), some (.int z_1075)]) (st' := [.int z_1075, .int z_1079, .ref (q1 + 9)]) rfl ?_
    obtain ⟨s_1080, e_1081, e⟩ := Option.bind_eq_some_iff.mp e
    obtain ⟨h_1080, g_1081, R_1080⟩ := rp_wI R_1076 (T2_11 t1) (T2_11l t1) p_1079 p_1075 e_1081
    refine Rn.hp hT rfl rfl (wI_hp g_1081) ?_
    refine Rn.n hT 2 (pc' := 40) (L' := [some (.ref q0), some (.ref q1), some (.int z_1075)]) (st' := [.ref q1, .ref q1]) rfl ?_
    obtain ⟨z_1082, g_1082, p_1082⟩ : ∃ z : Int32, gI h_1080 2 2 q1 = some z ∧ z.toInt = s_1080 q1 2 := rp_gI (k := 2) R_1080 (T2_o t1) rfl
    refine Rn.hp hT rfl rfl (gI_hp g_1082) ?_
    refine Rn.n hT 2 (pc' := 45) (L' := [some (.ref q0), some (.ref q1), some (.int z_1075)]) (st' := [.int (z_1082 + (1 : Int32)), .ref q1]) rfl ?_
    obtain ⟨s_1083, e_1084, e⟩ := Option.bind_eq_some_iff.mp e
    obtain ⟨h_1083, g_1084, R_1083⟩ := rp_pI (ci := 2) (k := 2) R_1080 (T2_o t1) rfl rfl (ti_add p_1082 L32_1) e_1084
    refine Rn.hp hT rfl rfl (pV_hp rfl g_1084) ?_
    exact Rn.weak (ll_n (ll_n (ll_n ll_e))) (RX5_readPerson_b48 hd R_1083 hq e)
  · rw [if_neg c_1078] at e
    refine Rn.bt hT rfl rfl rfl (decide_eq_true (fun z => c_1078 ((ti_e p_1077 L32_0).mp z))) ?_
    exact Rn.weak (ll_n (ll_n (ll_n ll_e))) (RX5_readPerson_b48 hd R_1076 hq e)
set_option maxRecDepth 10000 in
theorem hX5_readClause : iv_Tb 77 tX5_readClause := iv_tb_of (m := mX5_readClause) rfl
set_option maxRecDepth 10000 in
theorem gX5_readClause : PG.2 77 = some mX5_readClause := iv_pi_of (t := tX5_readClause) rfl (by decide)
def FX5_readClause_b146 (N : Nat) (s : iv_M)   : Option (iv_M) := some s
set_option maxRecDepth 10000 in
set_option maxHeartbeats 4000000 in
theorem RX5_readClause_b146 {d N nc Ls : Nat} {Xs : Nat → Int32} (hd : 12 ≤ d) {h : iv_H} {s : iv_M} (hR : Rep nc Ls Xs h s)   {r : iv_M} {Q : Option Value → iv_H → Prop} (hq : ∀ h1, Rep nc Ls Xs h1 r → Q none h1) (e : FX5_readClause_b146 N s   = some r) : Rn d 77 none 146 [none, none, none, none] [] h Q := by
  have hT := hX5_readClause
  unfold FX5_readClause_b146 at e
  obtain rfl := Option.some.inj e
  exact Rn.ret hT rfl rfl rfl (hq h hR)
def FX5_readClause (N : Nat) (s : iv_M) (q0 : Nat) (q1 : Nat) (x2 : Int) : Option (iv_M) := ((FX6_readWord N s (q0 + 1) 1000010).bind fun r_1085 => (fun (v_1085 : Int) (s_1086 : iv_M) => (if (s_1086 (q0 + 1) 4) = 0 then ((FX5_isTooMuch N s_1086 q0 q1 x2 v_1085).bind fun v_1089 => (if v_1089 = 0 then (if v_1085 = 0 then ((FX5_readFloor N s_1086 q0 q1).bind fun s_1093 => (FX5_readClause_b146 N s_1093)) else (if v_1085 = 1 then ((FX5_readRoom N s_1086 q0 (q1 + 1)).bind fun s_1096 => (FX5_readClause_b146 N s_1096)) else (if v_1085 = 2 then ((FX5_readFixed N s_1086 q0 q1).bind fun s_1099 => (FX5_readClause_b146 N s_1099)) else (if v_1085 = 3 then ((FX5_readKey N s_1086 q0 q1).bind fun s_1102 => (FX5_readClause_b146 N s_1102)) else (if v_1085 = 4 then ((FX5_readPerson N s_1086 q0 q1).bind fun s_1105 => (FX5_readClause_b146 N s_1105)) else ((FX6_readNumber N s_1086 (q0 + 1) 1 7).bind fun r_1106 => (fun (v_1106 : Int) (s_1107 : iv_M) => ((pt s_1107 q1 1 v_1106).bind fun s_1108 => ((pt s_1108 q0 1 1).bind fun s_1110 => (FX5_readClause_b146 N s_1110)))) r_1106.1 r_1106.2)))))) else ((FX6_fail N s_1086 (q0 + 1) (s_1086 (q0 + 1) 3) 4).bind fun s_1114 => some s_1114))) else some s_1086)) r_1085.1 r_1085.2)
set_option maxRecDepth 10000 in
set_option maxHeartbeats 4000000 in
theorem RX5_readClause {d N nc Ls : Nat} {Xs : Nat → Int32} (hd : 13 ≤ d) {h : iv_H} {s : iv_M} (hR : Rep nc Ls Xs h s) {q0 : Nat} (t0 : T5 nc q0) {q1 : Nat} (t1 : T2 nc q1) {m2 : Int32} {x2 : Int} (p2 : m2.toInt = x2) {r : iv_M} {Q : Option Value → iv_H → Prop} (e : FX5_readClause N s q0 q1 x2 = some r) (hq : ∀ h1, Rep nc Ls Xs h1 r → Q none h1) : Cl d 77 [.ref q0, .ref q1, .int m2] h Q := by
  obtain ⟨d, rfl⟩ : ∃ k, d = k + 1 := ⟨d - 1, by omega⟩
  have hd : 12 ≤ d := by omega
  have hT := hX5_readClause
  unfold FX5_readClause at e
  refine Cl.into (by decide) gX5_readClause rfl ?_
  show Rn d 77 none 0 [some (.ref q0), some (.ref q1), some (.int m2), none] [] h Q
  refine Rn.n hT 1 (pc' := 1) (L' := [some (.ref q0), some (.ref q1), some (.int m2), none]) (st' := [.ref q0]) rfl ?_
  refine Rn.hp hT rfl rfl (gR_hp (rp_gR hR (T5_o t0) rfl)) ?_
  refine Rn.n hT 1 (pc' := 6) (L' := [some (.ref q0), some (.ref q1), some (.int m2), none]) (st' := [.ref 1000010, .ref (q0 + 1)]) rfl ?_
  obtain ⟨⟨v_1085, s_1086⟩, e_1085, e⟩ := Option.bind_eq_some_iff.mp e
  try dsimp only at e
  try dsimp only at e
  refine Rn.call hT rfl rfl rfl (Nat.le_of_ble_eq_true rfl) (rcv_v gX6_readWord (by omega) (rp_ck hR (T6_o (T5_0 t0)))) (RX6_readWord (by omega) hR (T5_0 t0) TS_1000010 e_1085 (fun z_1085 h_1086 p_1085 R_1086 => ?_))
  show Rn d _ _ 9 [some (.ref q0), some (.ref q1), some (.int m2), none] [.int z_1085] h_1086 Q
  refine Rn.n hT 2 (pc' := 11) (L' := [some (.ref q0), some (.ref q1), some (.int m2), some (.int z_1085)]) (st' := [.ref q0]) rfl ?_
  refine Rn.hp hT rfl rfl (gR_hp (rp_gR R_1086 (T5_o t0) rfl)) ?_
  obtain ⟨z_1087, g_1087, p_1087⟩ : ∃ z : Int32, gI h_1086 6 4 (q0 + 1) = some z ∧ z.toInt = s_1086 (q0 + 1) 4 := rp_gI (k := 4) R_1086 (T6_o (T5_0 t0)) rfl
  refine Rn.hp hT rfl rfl (gI_hp g_1087) ?_
  by_cases c_1088 : (s_1086 (q0 + 1) 4) = 0
  · rw [if_pos c_1088] at e
    refine Rn.bt hT rfl rfl rfl (decide_eq_true ((ti_e p_1087 L32_0).mpr c_1088)) ?_
    refine Rn.n hT 4 (pc' := 25) (L' := [some (.ref q0), some (.ref q1), some (.int m2), some (.int z_1085)]) (st' := [.int z_1085, .int m2, .ref q1, .ref q0]) rfl ?_
    obtain ⟨v_1089, e_1089, e⟩ := Option.bind_eq_some_iff.mp e
    refine Rn.call hT rfl rfl rfl (Nat.le_of_ble_eq_true rfl) (rcv_v gX5_isTooMuch (by omega) (rp_ck R_1086 (T5_o t0))) (RX5_isTooMuch (by omega) R_1086 t0 t1 p2 p_1085 e_1089 (fun z_1089 p_1089 => ?_))
    show Rn d _ _ 28 [some (.ref q0), some (.ref q1), some (.int m2), some (.int z_1085)] [.int z_1089] h_1086 Q
    by_cases c_1090 : v_1089 = 0
    · rw [if_pos c_1090] at e
      refine Rn.bt hT rfl rfl rfl (decide_eq_true ((ti_e p_1089 L32_0).mpr c_1090)) ?_
      refine Rn.n hT 1 (pc' := 48) (L' := [some (.ref q0), some (.ref q1), some (.int m2), some (.int z_1085)]) (st' := [.int z_1085]) rfl ?_
      by_cases c_1091 : v_1085 = 0
      · rw [if_pos c_1091] at e
        refine Rn.sw2 hT rfl rfl rfl (if_pos ((ti_e p_1085 L32_0).mpr c_1091)) ?_
        refine Rn.n hT 2 (pc' := 86) (L' := [some (.ref q0), some (.ref q1), some (.int m2), some (.int z_1085)]) (st' := [.ref q1, .ref q0]) rfl ?_
        obtain ⟨s_1093, e_1092, e⟩ := Option.bind_eq_some_iff.mp e
        refine Rn.call hT rfl rfl rfl (Nat.le_of_ble_eq_true rfl) (rcv_v gX5_readFloor (by omega) (rp_ck R_1086 (T5_o t0))) (RX5_readFloor (by omega) R_1086 t0 t1 e_1092 (fun h_1093 R_1093 => ?_))
        show Rn d _ _ 89 [some (.ref q0), some (.ref q1), some (.int m2), some (.int z_1085)] [] h_1093 Q
        refine Rn.n hT 1 (pc' := 146) (L' := [some (.ref q0), some (.ref q1), some (.int m2), some (.int z_1085)]) (st' := []) rfl ?_
        exact Rn.weak (ll_n (ll_n (ll_n (ll_n ll_e)))) (RX5_readClause_b146 hd R_1093 hq e)
      · rw [if_neg c_1091] at e
        by_cases c_1094 : v_1085 = 1
        · rw [if_pos c_1094] at e
          refine Rn.sw2 hT rfl rfl rfl ((if_neg (fun z => c_1091 ((ti_e p_1085 L32_0).mp z))).trans (if_pos ((ti_e p_1085 L32_1).mpr c_1094))) ?_
          refine Rn.n hT 2 (pc' := 94) (L' := [some (.ref q0), some (.ref q1), some (.int m2), some (.int z_1085)]) (st' := [.ref q1, .ref q0]) rfl ?_
          refine Rn.hp hT rfl rfl (gR_hp (rp_gR R_1086 (T2_o t1) rfl)) ?_
          obtain ⟨s_1096, e_1095, e⟩ := Option.bind_eq_some_iff.mp e
          refine Rn.call hT rfl rfl rfl (Nat.le_of_ble_eq_true rfl) (rcv_v gX5_readRoom (by omega) (rp_ck R_1086 (T5_o t0))) (RX5_readRoom (by omega) R_1086 t0 (T2_9 t1) e_1095 (fun h_1096 R_1096 => ?_))
          show Rn d _ _ 100 [some (.ref q0), some (.ref q1), some (.int m2), some (.int z_1085)] [] h_1096 Q
          refine Rn.n hT 1 (pc' := 146) (L' := [some (.ref q0), some (.ref q1), some (.int m2), some (.int z_1085)]) (st' := []) rfl ?_
          exact Rn.weak (ll_n (ll_n (ll_n (ll_n ll_e)))) (RX5_readClause_b146 hd R_1096 hq e)
        · rw [if_neg c_1094] at e
          by_cases c_1097 : v_1085 = 2
          · rw [if_pos c_1097] at e
            refine Rn.sw2 hT rfl rfl rfl ((if_neg (fun z => c_1091 ((ti_e p_1085 L32_0).mp z))).trans ((if_neg (fun z => c_1094 ((ti_e p_1085 L32_1).mp z))).trans (if_pos ((ti_e p_1085 L32_2).mpr c_1097)))) ?_
            refine Rn.n hT 2 (pc' := 105) (L' := [some (.ref q0), some (.ref q1), some (.int m2), some (.int z_1085)]) (st' := [.ref q1, .ref q0]) rfl ?_
            obtain ⟨s_1099, e_1098, e⟩ := Option.bind_eq_some_iff.mp e
            refine Rn.call hT rfl rfl rfl (Nat.le_of_ble_eq_true rfl) (rcv_v gX5_readFixed (by omega) (rp_ck R_1086 (T5_o t0))) (RX5_readFixed (by omega) R_1086 t0 t1 e_1098 (fun h_1099 R_1099 => ?_))
            show Rn d _ _ 108 [some (.ref q0), some (.ref q1), some (.int m2), some (.int z_1085)] [] h_1099 Q
            refine Rn.n hT 1 (pc' := 146) (L' := [some (.ref q0), some (.ref q1), some (.int m2), some (.int z_1085)]) (st' := []) rfl ?_
            exact Rn.weak (ll_n (ll_n (ll_n (ll_n ll_e)))) (RX5_readClause_b146 hd R_1099 hq e)
          · rw [if_neg c_1097] at e
            by_cases c_1100 : v_1085 = 3
            · rw [if_pos c_1100] at e
              refine Rn.sw2 hT rfl rfl rfl ((if_neg (fun z => c_1091 ((ti_e p_1085 L32_0).mp z))).trans ((if_neg (fun z => c_1094 ((ti_e p_1085 L32_1).mp z))).trans ((if_neg (fun z => c_1097 ((ti_e p_1085 L32_2).mp z))).trans (if_pos ((ti_e p_1085 L32_3).mpr c_1100))))) ?_
              refine Rn.n hT 2 (pc' := 113) (L' := [some (.ref q0), some (.ref q1), some (.int m2), some (.int z_1085)]) (st' := [.ref q1, .ref q0]) rfl ?_
              obtain ⟨s_1102, e_1101, e⟩ := Option.bind_eq_some_iff.mp e
              refine Rn.call hT rfl rfl rfl (Nat.le_of_ble_eq_true rfl) (rcv_v gX5_readKey (by omega) (rp_ck R_1086 (T5_o t0))) (RX5_readKey (by omega) R_1086 t0 t1 e_1101 (fun h_1102 R_1102 => ?_))
              show Rn d _ _ 116 [some (.ref q0), some (.ref q1), some (.int m2), some (.int z_1085)] [] h_1102 Q
              refine Rn.n hT 1 (pc' := 146) (L' := [some (.ref q0), some (.ref q1), some (.int m2), some (.int z_1085)]) (st' := []) rfl ?_
              exact Rn.weak (ll_n (ll_n (ll_n (ll_n ll_e)))) (RX5_readClause_b146 hd R_1102 hq e)
            · rw [if_neg c_1100] at e
              by_cases c_1103 : v_1085 = 4
              · rw [if_pos c_1103] at e
                refine Rn.sw2 hT rfl rfl rfl ((if_neg (fun z => c_1091 ((ti_e p_1085 L32_0).mp z))).trans ((if_neg (fun z => c_1094 ((ti_e p_1085 L32_1).mp z))).trans ((if_neg (fun z => c_1097 ((ti_e p_1085 L32_2).mp z))).trans ((if_neg (fun z => c_1100 ((ti_e p_1085 L32_3).mp z))).trans (if_pos ((ti_e p_1085 L32_4).mpr c_1103)))))) ?_
                refine Rn.n hT 2 (pc' := 121) (L' := [some (.ref q0), some (.ref q1), some (.int m2), some (.int z_1085)]) (st' := [.ref q1, .ref q0]) rfl ?_
                obtain ⟨s_1105, e_1104, e⟩ := Option.bind_eq_some_iff.mp e
                refine Rn.call hT rfl rfl rfl (Nat.le_of_ble_eq_true rfl) (rcv_v gX5_readPerson (by omega) (rp_ck R_1086 (T5_o t0))) (RX5_readPerson (by omega) R_1086 t0 t1 e_1104 (fun h_1105 R_1105 => ?_))
                show Rn d _ _ 124 [some (.ref q0), some (.ref q1), some (.int m2), some (.int z_1085)] [] h_1105 Q
                refine Rn.n hT 1 (pc' := 146) (L' := [some (.ref q0), some (.ref q1), some (.int m2), some (.int z_1085)]) (st' := []) rfl ?_
                exact Rn.weak (ll_n (ll_n (ll_n (ll_n ll_e)))) (RX5_readClause_b146 hd R_1105 hq e)
              · rw [if_neg c_1103] at e
                refine Rn.sw2 hT rfl rfl rfl ((if_neg (fun z => c_1091 ((ti_e p_1085 L32_0).mp z))).trans ((if_neg (fun z => c_1094 ((ti_e p_1085 L32_1).mp z))).trans ((if_neg (fun z => c_1097 ((ti_e p_1085 L32_2).mp z))).trans ((if_neg (fun z => c_1100 ((ti_e p_1085 L32_3).mp z))).trans ((if_neg (fun z => c_1103 ((ti_e p_1085 L32_4).mp z))).trans rfl))))) ?_
                refine Rn.n hT 2 (pc' := 129) (L' := [some (.ref q0), some (.ref q1), some (.int m2), some (.int z_1085)]) (st' := [.ref q0, .ref q1]) rfl ?_
                refine Rn.hp hT rfl rfl (gR_hp (rp_gR R_1086 (T5_o t0) rfl)) ?_
                refine Rn.n hT 2 (pc' := 135) (L' := [some (.ref q0), some (.ref q1), some (.int m2), some (.int z_1085)]) (st' := [.int (7 : Int32), .int (1 : Int32), .ref (q0 + 1), .ref q1]) rfl ?_
                obtain ⟨⟨v_1106, s_1107⟩, e_1106, e⟩ := Option.bind_eq_some_iff.mp e
                try dsimp only at e
                try dsimp only at e
                refine Rn.call hT rfl rfl rfl (Nat.le_of_ble_eq_true rfl) (rcv_v gX6_readNumber (by omega) (rp_ck R_1086 (T6_o (T5_0 t0)))) (RX6_readNumber (by omega) R_1086 (T5_0 t0) L32_1 L32_7 e_1106 (fun z_1106 h_1107 p_1106 R_1107 => ?_))
                show Rn d _ _ 138 [some (.ref q0), some (.ref q1), some (.int m2), some (.int z_1085)] [.int z_1106, .ref q1] h_1107 Q
                obtain ⟨s_1108, e_1109, e⟩ := Option.bind_eq_some_iff.mp e
                obtain ⟨h_1108, g_1109, R_1108⟩ := rp_pI (ci := 2) (k := 1) R_1107 (T2_o t1) rfl rfl p_1106 e_1109
                refine Rn.hp hT rfl rfl (pV_hp rfl g_1109) ?_
                refine Rn.n hT 2 (pc' := 143) (L' := [some (.ref q0), some (.ref q1), some (.int m2), some (.int z_1085)]) (st' := [.int (1 : Int32), .ref q0]) rfl ?_
                obtain ⟨s_1110, e_1111, e⟩ := Option.bind_eq_some_iff.mp e
                obtain ⟨h_1110, g_1111, R_1110⟩ := rp_pI (ci := 5) (k := 1) R_1108 (T5_o t0) rfl rfl L32_1 e_1111
                refine Rn.hp hT rfl rfl (pV_hp (by decide) g_1111) ?_
                exact Rn.weak (ll_n (ll_n (ll_n (ll_n ll_e)))) (RX5_readClause_b146 hd R_1110 hq e)
    · rw [if_neg c_1090] at e
      refine Rn.bf hT rfl rfl rfl (decide_eq_false (fun z => c_1090 ((ti_e p_1089 L32_0).mp z))) ?_
      refine Rn.n hT 1 (pc' := 32) (L' := [some (.ref q0), some (.ref q1), some (.int m2), some (.int z_1085)]) (st' := [.ref q0]) rfl ?_
      refine Rn.hp hT rfl rfl (gR_hp (rp_gR R_1086 (T5_o t0) rfl)) ?_
      refine Rn.n hT 1 (pc' := 36) (L' := [some (.ref q0), some (.ref q1), some (.int m2), some (.int z_1085)]) (st' := [.ref q0, .ref (q0 + 1)]) rfl ?_
      refine Rn.hp hT rfl rfl (gR_hp (rp_gR R_1086 (T5_o t0) rfl)) ?_
      obtain ⟨z_1112, g_1112, p_1112⟩ : ∃ z : Int32, gI h_1086 6 3 (q0 + 1) = some z ∧ z.toInt = s_1086 (q0 + 1) 3 := rp_gI (k := 3) R_1086 (T6_o (T5_0 t0)) rfl
      refine Rn.hp hT rfl rfl (gI_hp g_1112) ?_
      refine Rn.n hT 1 (pc' := 43) (L' := [some (.ref q0), some (.ref q1), some (.int m2), some (.int z_1085)]) (st' := [.int (4 : Int32), .int z_1112, .ref (q0 + 1)]) rfl ?_
      obtain ⟨s_1114, e_1113, e⟩ := Option.bind_eq_some_iff.mp e
      refine Rn.call hT rfl rfl rfl (Nat.le_of_ble_eq_true rfl) (rcv_v gX6_fail (by omega) (rp_ck R_1086 (T6_o (T5_0 t0)))) (RX6_fail (by omega) R_1086 (T5_0 t0) p_1112 L32_4 e_1113 (fun h_1114 R_1114 => ?_))
      show Rn d _ _ 46 [some (.ref q0), some (.ref q1), some (.int m2), some (.int z_1085)] [] h_1114 Q
      obtain rfl := Option.some.inj e
      exact Rn.ret hT rfl rfl rfl (hq h_1114 R_1114)
  · rw [if_neg c_1088] at e
    refine Rn.bf hT rfl rfl rfl (decide_eq_false (fun z => c_1088 ((ti_e p_1087 L32_0).mp z))) ?_
    obtain rfl := Option.some.inj e
    exact Rn.ret hT rfl rfl rfl (hq h_1086 R_1086)
set_option maxRecDepth 10000 in
theorem hX5_goesOn : iv_Tb 76 tX5_goesOn := iv_tb_of (m := mX5_goesOn) rfl
set_option maxRecDepth 10000 in
theorem gX5_goesOn : PG.2 76 = some mX5_goesOn := iv_pi_of (t := tX5_goesOn) rfl (by decide)
def FX5_goesOn_b61 (N : Nat) (s : iv_M)   : Option (Int × iv_M) := (some (0, s))
set_option maxRecDepth 10000 in
set_option maxHeartbeats 4000000 in
theorem RX5_goesOn_b61 {d N nc Ls : Nat} {Xs : Nat → Int32} (hd : 2 ≤ d) {h : iv_H} {s : iv_M} (hR : Rep nc Ls Xs h s)   {r : Int × iv_M} {Q : Option Value → iv_H → Prop} (hq : ∀ (z : Int32) (h1 : iv_H), z.toInt = r.1 → Rep nc Ls Xs h1 r.2 → Q (some (.int z)) h1) (e : FX5_goesOn_b61 N s   = some r) : Rn d 76 (some .boolean) 61 [none, none] [] h Q := by
  have hT := hX5_goesOn
  unfold FX5_goesOn_b61 at e
  refine Rn.n hT 1 (pc' := 62) (L' := [none, none]) (st' := [.int (0 : Int32)]) rfl ?_
  obtain rfl := Option.some.inj e
  exact Rn.ret hT rfl rfl rfl (hq (0 : Int32) h L32_0 hR)
def FX5_goesOn (N : Nat) (s : iv_M) (q0 : Nat) : Option (Int × iv_M) := (if (s (q0 + 1) 4) = 0 then ((FX6_skipBlanks N s (q0 + 1)).bind fun r_1117 => (fun (v_1117 : Int) (s_1118 : iv_M) => (if v_1117 = 59 then ((pt s_1118 (q0 + 1) 2 (w32 ((s_1118 (q0 + 1) 2) + 1))).bind fun s_1125 => (some (1, s_1125))) else (if v_1117 = (-1) then (FX5_goesOn_b61 N s_1118) else ((FX6_fail N s_1118 (q0 + 1) (s_1118 (q0 + 1) 2) 0).bind fun s_1123 => (FX5_goesOn_b61 N s_1123))))) r_1117.1 r_1117.2) else (some (0, s)))
set_option maxRecDepth 10000 in
set_option maxHeartbeats 4000000 in
theorem RX5_goesOn {d N nc Ls : Nat} {Xs : Nat → Int32} (hd : 3 ≤ d) {h : iv_H} {s : iv_M} (hR : Rep nc Ls Xs h s) {q0 : Nat} (t0 : T5 nc q0) {r : Int × iv_M} {Q : Option Value → iv_H → Prop} (e : FX5_goesOn N s q0 = some r) (hq : ∀ (z : Int32) (h1 : iv_H), z.toInt = r.1 → Rep nc Ls Xs h1 r.2 → Q (some (.int z)) h1) : Cl d 76 [.ref q0] h Q := by
  obtain ⟨d, rfl⟩ : ∃ k, d = k + 1 := ⟨d - 1, by omega⟩
  have hd : 2 ≤ d := by omega
  have hT := hX5_goesOn
  unfold FX5_goesOn at e
  refine Cl.into (by decide) gX5_goesOn rfl ?_
  show Rn d 76 (some .boolean) 0 [some (.ref q0), none] [] h Q
  refine Rn.n hT 1 (pc' := 1) (L' := [some (.ref q0), none]) (st' := [.ref q0]) rfl ?_
  refine Rn.hp hT rfl rfl (gR_hp (rp_gR hR (T5_o t0) rfl)) ?_
  obtain ⟨z_1115, g_1115, p_1115⟩ : ∃ z : Int32, gI h 6 4 (q0 + 1) = some z ∧ z.toInt = s (q0 + 1) 4 := rp_gI (k := 4) hR (T6_o (T5_0 t0)) rfl
  refine Rn.hp hT rfl rfl (gI_hp g_1115) ?_
  by_cases c_1116 : (s (q0 + 1) 4) = 0
  · rw [if_pos c_1116] at e
    refine Rn.bt hT rfl rfl rfl (decide_eq_true ((ti_e p_1115 L32_0).mpr c_1116)) ?_
    refine Rn.n hT 1 (pc' := 13) (L' := [some (.ref q0), none]) (st' := [.ref q0]) rfl ?_
    refine Rn.hp hT rfl rfl (gR_hp (rp_gR hR (T5_o t0) rfl)) ?_
    obtain ⟨⟨v_1117, s_1118⟩, e_1117, e⟩ := Option.bind_eq_some_iff.mp e
    try dsimp only at e
    try dsimp only at e
    refine Rn.call hT rfl rfl rfl (Nat.le_of_ble_eq_true rfl) (rcv_v gX6_skipBlanks (by omega) (rp_ck hR (T6_o (T5_0 t0)))) (RX6_skipBlanks (by omega) hR (T5_0 t0) e_1117 (fun z_1117 h_1118 p_1117 R_1118 => ?_))
    show Rn d _ _ 19 [some (.ref q0), none] [.int z_1117] h_1118 Q
    refine Rn.n hT 3 (pc' := 23) (L' := [some (.ref q0), some (.int z_1117)]) (st' := [.int (59 : Int32), .int z_1117]) rfl ?_
    by_cases c_1119 : v_1117 = 59
    · rw [if_pos c_1119] at e
      refine Rn.bf hT rfl rfl rfl (decide_eq_false (fun z => z ((ti_e p_1117 L32_59).mpr c_1119))) ?_
      refine Rn.n hT 1 (pc' := 27) (L' := [some (.ref q0), some (.int z_1117)]) (st' := [.ref q0]) rfl ?_
      refine Rn.hp hT rfl rfl (gR_hp (rp_gR R_1118 (T5_o t0) rfl)) ?_
      refine Rn.n hT 1 (pc' := 31) (L' := [some (.ref q0), some (.int z_1117)]) (st' := [.ref (q0 + 1), .ref (q0 + 1)]) rfl ?_
      obtain ⟨z_1124, g_1124, p_1124⟩ : ∃ z : Int32, gI h_1118 6 2 (q0 + 1) = some z ∧ z.toInt = s_1118 (q0 + 1) 2 := rp_gI (k := 2) R_1118 (T6_o (T5_0 t0)) rfl
      refine Rn.hp hT rfl rfl (gI_hp g_1124) ?_
      refine Rn.n hT 2 (pc' := 36) (L' := [some (.ref q0), some (.int z_1117)]) (st' := [.int (z_1124 + (1 : Int32)), .ref (q0 + 1)]) rfl ?_
      obtain ⟨s_1125, e_1126, e⟩ := Option.bind_eq_some_iff.mp e
      obtain ⟨h_1125, g_1126, R_1125⟩ := rp_pI (ci := 6) (k := 2) R_1118 (T6_o (T5_0 t0)) rfl rfl (ti_add p_1124 L32_1) e_1126
      refine Rn.hp hT rfl rfl (pV_hp rfl g_1126) ?_
      refine Rn.n hT 1 (pc' := 40) (L' := [some (.ref q0), some (.int z_1117)]) (st' := [.int (1 : Int32)]) rfl ?_
      obtain rfl := Option.some.inj e
      exact Rn.ret hT rfl rfl rfl (hq (1 : Int32) h_1125 L32_1 R_1125)
    · rw [if_neg c_1119] at e
      refine Rn.bt hT rfl rfl rfl (decide_eq_true (fun z => c_1119 ((ti_e p_1117 L32_59).mp z))) ?_
      refine Rn.n hT 2 (pc' := 43) (L' := [some (.ref q0), some (.int z_1117)]) (st' := [.int (-1 : Int32), .int z_1117]) rfl ?_
      by_cases c_1120 : v_1117 = (-1)
      · rw [if_pos c_1120] at e
        refine Rn.bt hT rfl rfl rfl (decide_eq_true ((ti_e p_1117 L32_m1).mpr c_1120)) ?_
        exact Rn.weak (ll_n (ll_n ll_e)) (RX5_goesOn_b61 hd R_1118 hq e)
      · rw [if_neg c_1120] at e
        refine Rn.bf hT rfl rfl rfl (decide_eq_false (fun z => c_1120 ((ti_e p_1117 L32_m1).mp z))) ?_
        refine Rn.n hT 1 (pc' := 47) (L' := [some (.ref q0), some (.int z_1117)]) (st' := [.ref q0]) rfl ?_
        refine Rn.hp hT rfl rfl (gR_hp (rp_gR R_1118 (T5_o t0) rfl)) ?_
        refine Rn.n hT 1 (pc' := 51) (L' := [some (.ref q0), some (.int z_1117)]) (st' := [.ref q0, .ref (q0 + 1)]) rfl ?_
        refine Rn.hp hT rfl rfl (gR_hp (rp_gR R_1118 (T5_o t0) rfl)) ?_
        obtain ⟨z_1121, g_1121, p_1121⟩ : ∃ z : Int32, gI h_1118 6 2 (q0 + 1) = some z ∧ z.toInt = s_1118 (q0 + 1) 2 := rp_gI (k := 2) R_1118 (T6_o (T5_0 t0)) rfl
        refine Rn.hp hT rfl rfl (gI_hp g_1121) ?_
        refine Rn.n hT 1 (pc' := 58) (L' := [some (.ref q0), some (.int z_1117)]) (st' := [.int (0 : Int32), .int z_1121, .ref (q0 + 1)]) rfl ?_
        obtain ⟨s_1123, e_1122, e⟩ := Option.bind_eq_some_iff.mp e
        refine Rn.call hT rfl rfl rfl (Nat.le_of_ble_eq_true rfl) (rcv_v gX6_fail (by omega) (rp_ck R_1118 (T6_o (T5_0 t0)))) (RX6_fail (by omega) R_1118 (T5_0 t0) p_1121 L32_0 e_1122 (fun h_1123 R_1123 => ?_))
        show Rn d _ _ 61 [some (.ref q0), some (.int z_1117)] [] h_1123 Q
        exact Rn.weak (ll_n (ll_n ll_e)) (RX5_goesOn_b61 hd R_1123 hq e)
  · rw [if_neg c_1116] at e
    refine Rn.bf hT rfl rfl rfl (decide_eq_false (fun z => c_1116 ((ti_e p_1115 L32_0).mp z))) ?_
    refine Rn.n hT 1 (pc' := 11) (L' := [some (.ref q0), none]) (st' := [.int (0 : Int32)]) rfl ?_
    obtain rfl := Option.some.inj e
    exact Rn.ret hT rfl rfl rfl (hq (0 : Int32) h L32_0 hR)
set_option maxRecDepth 10000 in
theorem hX5_read : iv_Tb 75 tX5_read := iv_tb_of (m := mX5_read) rfl
set_option maxRecDepth 10000 in
theorem gX5_read : PG.2 75 = some mX5_read := iv_pi_of (t := tX5_read) rfl (by decide)
def FX5_read_l26 (N : Nat) (q0 : Nat) (q3 : Nat) (kx : iv_M → Option (Int × iv_M)) : Nat → iv_M → Int → Int → Option (Int × iv_M)
  | 0, _, _, _ => none
  | n + 1, s, x4, x5 => (if x4 = 0 then (kx s) else (if 40 < x5 then (kx s) else ((FX5_readClause N s q0 q3 x5).bind fun s_1138 => ((FX5_goesOn N s_1138 q0).bind fun r_1139 => (fun (v_1139 : Int) (s_1140 : iv_M) => (FX5_read_l26 N q0 q3 kx n s_1140 v_1139 (w32 (x5 + 1)))) r_1139.1 r_1139.2))))
set_option maxRecDepth 10000 in
set_option maxHeartbeats 4000000 in
theorem RX5_read_l26 {d N nc Ls : Nat} {Xs : Nat → Int32} (hd : 13 ≤ d) {q0 : Nat} (t0 : T5 nc q0) {q3 : Nat} (t3 : T2 nc q3) {kx : iv_M → Option (Int × iv_M)} {r : Int × iv_M} {Q : Option Value → iv_H → Prop} (hk : ∀ (h : iv_H) (s : iv_M) (hR : Rep nc Ls Xs h s), kx s = some r → Rn d 75 (some .int) 57 [some (.ref q0), none, none, none, none, none] [] h Q) (hq : ∀ (z : Int32) (h1 : iv_H), z.toInt = r.1 → Rep nc Ls Xs h1 r.2 → Q (some (.int z)) h1) : ∀ (n : Nat) (h : iv_H) (s : iv_M) (hR : Rep nc Ls Xs h s) (m4 : Int32) (x4 : Int) (p4 : m4.toInt = x4) (m5 : Int32) (x5 : Int) (p5 : m5.toInt = x5), FX5_read_l26 N q0 q3 kx n s x4 x5 = some r → Rn d 75 (some .int) 26 [some (.ref q0), none, none, some (.ref q3), some (.int m4), some (.int m5)] [] h Q := by
  have hT := hX5_read
  intro n
  induction n with
  | zero =>
    intro h s hR m4 x4 p4 m5 x5 p5 e
    rw [FX5_read_l26] at e
    cases e
  | succ n ih =>
    intro h s hR m4 x4 p4 m5 x5 p5 e
    rw [FX5_read_l26] at e
    refine Rn.n hT 1 (pc' := 28) (L' := [some (.ref q0), none, none, some (.ref q3), some (.int m4), some (.int m5)]) (st' := [.int m4]) rfl ?_
    by_cases c_1135 : x4 = 0
    · rw [if_pos c_1135] at e
      refine Rn.bt hT rfl rfl rfl (decide_eq_true ((ti_e p4 L32_0).mpr c_1135)) ?_
      exact Rn.weak (ll_s (ll_n (ll_n (ll_n (ll_n (ll_n ll_e)))))) (hk h s hR e)
    · rw [if_neg c_1135] at e
      refine Rn.bf hT rfl rfl rfl (decide_eq_false (fun z => c_1135 ((ti_e p4 L32_0).mp z))) ?_
      refine Rn.n hT 2 (pc' := 35) (L' := [some (.ref q0), none, none, some (.ref q3), some (.int m4), some (.int m5)]) (st' := [.int (40 : Int32), .int m5]) rfl ?_
      by_cases c_1136 : 40 < x5
      · rw [if_pos c_1136] at e
        refine Rn.bt hT rfl rfl rfl (decide_eq_true ((ti_l L32_40 p5).mpr c_1136)) ?_
        exact Rn.weak (ll_s (ll_n (ll_n (ll_n (ll_n (ll_n ll_e)))))) (hk h s hR e)
      · rw [if_neg c_1136] at e
        refine Rn.bf hT rfl rfl rfl (decide_eq_false (fun z => c_1136 ((ti_l L32_40 p5).mp z))) ?_
        refine Rn.n hT 3 (pc' := 42) (L' := [some (.ref q0), none, none, some (.ref q3), some (.int m4), some (.int m5)]) (st' := [.int m5, .ref q3, .ref q0]) rfl ?_
        obtain ⟨s_1138, e_1137, e⟩ := Option.bind_eq_some_iff.mp e
        refine Rn.call hT rfl rfl rfl (Nat.le_of_ble_eq_true rfl) (rcv_v gX5_readClause (by omega) (rp_ck hR (T5_o t0))) (RX5_readClause (by omega) hR t0 t3 p5 e_1137 (fun h_1138 R_1138 => ?_))
        show Rn d _ _ 45 [some (.ref q0), none, none, some (.ref q3), some (.int m4), some (.int m5)] [] h_1138 Q
        refine Rn.n hT 1 (pc' := 46) (L' := [some (.ref q0), none, none, some (.ref q3), some (.int m4), some (.int m5)]) (st' := [.ref q0]) rfl ?_
        obtain ⟨⟨v_1139, s_1140⟩, e_1139, e⟩ := Option.bind_eq_some_iff.mp e
        try dsimp only at e
        try dsimp only at e
        refine Rn.call hT rfl rfl rfl (Nat.le_of_ble_eq_true rfl) (rcv_v gX5_goesOn (by omega) (rp_ck R_1138 (T5_o t0))) (RX5_goesOn (by omega) R_1138 t0 e_1139 (fun z_1139 h_1140 p_1139 R_1140 => ?_))
        show Rn d _ _ 49 [some (.ref q0), none, none, some (.ref q3), some (.int m4), some (.int m5)] [.int z_1139] h_1140 Q
        refine Rn.n hT 3 (pc' := 26) (L' := [some (.ref q0), none, none, some (.ref q3), some (.int z_1139), some (.int (m5 + (1 : Int32)))]) (st' := []) rfl ?_
        exact Rn.weak (ll_s (ll_n (ll_n (ll_s (ll_s (ll_s ll_e)))))) (ih h_1140 s_1140 R_1140 z_1139 v_1139 p_1139 (m5 + (1 : Int32)) (w32 (x5 + 1)) (ti_add p5 L32_1) e)
def FX5_read_b57 (N : Nat) (s : iv_M) (q0 : Nat)  : Option (Int × iv_M) := (some ((s (q0 + 1) 4), s))
set_option maxRecDepth 10000 in
set_option maxHeartbeats 4000000 in
theorem RX5_read_b57 {d N nc Ls : Nat} {Xs : Nat → Int32} (hd : 13 ≤ d) {h : iv_H} {s : iv_M} (hR : Rep nc Ls Xs h s) {q0 : Nat} (t0 : T5 nc q0)  {r : Int × iv_M} {Q : Option Value → iv_H → Prop} (hq : ∀ (z : Int32) (h1 : iv_H), z.toInt = r.1 → Rep nc Ls Xs h1 r.2 → Q (some (.int z)) h1) (e : FX5_read_b57 N s q0  = some r) : Rn d 75 (some .int) 57 [some (.ref q0), none, none, none, none, none] [] h Q := by
  have hT := hX5_read
  unfold FX5_read_b57 at e
  refine Rn.n hT 1 (pc' := 58) (L' := [some (.ref q0), none, none, none, none, none]) (st' := [.ref q0]) rfl ?_
  refine Rn.hp hT rfl rfl (gR_hp (rp_gR hR (T5_o t0) rfl)) ?_
  obtain ⟨z_1141, g_1141, p_1141⟩ : ∃ z : Int32, gI h 6 4 (q0 + 1) = some z ∧ z.toInt = s (q0 + 1) 4 := rp_gI (k := 4) hR (T6_o (T5_0 t0)) rfl
  refine Rn.hp hT rfl rfl (gI_hp g_1141) ?_
  obtain rfl := Option.some.inj e
  exact Rn.ret hT rfl rfl rfl (hq z_1141 h p_1141 hR)
def FX5_read (N : Nat) (s : iv_M) (q0 : Nat) (q1 : Nat) (x2 : Int) (q3 : Nat) : Option (Int × iv_M) := ((FX6_open N s (q0 + 1) q1 x2).bind fun s_1128 => ((pt s_1128 q0 1 0).bind fun s_1129 => ((FX2_build N s_1129 q3 0 0).bind fun s_1132 => (FX5_read_l26 N q0 q3 (fun (s_1133 : iv_M) => (FX5_read_b57 N s_1133 q0)) N s_1132 1 0))))
set_option maxRecDepth 10000 in
set_option maxHeartbeats 4000000 in
theorem RX5_read {d N nc Ls : Nat} {Xs : Nat → Int32} (hd : 14 ≤ d) {h : iv_H} {s : iv_M} (hR : Rep nc Ls Xs h s) {q0 : Nat} (t0 : T5 nc q0) {q1 : Nat} (t1 : TA 2 nc q1) {m2 : Int32} {x2 : Int} (p2 : m2.toInt = x2) {q3 : Nat} (t3 : T2 nc q3) {r : Int × iv_M} {Q : Option Value → iv_H → Prop} (e : FX5_read N s q0 q1 x2 q3 = some r) (hq : ∀ (z : Int32) (h1 : iv_H), z.toInt = r.1 → Rep nc Ls Xs h1 r.2 → Q (some (.int z)) h1) : Cl d 75 [.ref q0, .ref q1, .int m2, .ref q3] h Q := by
  obtain ⟨d, rfl⟩ : ∃ k, d = k + 1 := ⟨d - 1, by omega⟩
  have hd : 13 ≤ d := by omega
  have hT := hX5_read
  unfold FX5_read at e
  refine Cl.into (by decide) gX5_read rfl ?_
  show Rn d 75 (some .int) 0 [some (.ref q0), some (.ref q1), some (.int m2), some (.ref q3), none, none] [] h Q
  refine Rn.n hT 1 (pc' := 1) (L' := [some (.ref q0), some (.ref q1), some (.int m2), some (.ref q3), none, none]) (st' := [.ref q0]) rfl ?_
  refine Rn.hp hT rfl rfl (gR_hp (rp_gR hR (T5_o t0) rfl)) ?_
  refine Rn.n hT 2 (pc' := 6) (L' := [some (.ref q0), some (.ref q1), some (.int m2), some (.ref q3), none, none]) (st' := [.int m2, .ref q1, .ref (q0 + 1)]) rfl ?_
  obtain ⟨s_1128, e_1127, e⟩ := Option.bind_eq_some_iff.mp e
  refine Rn.call hT rfl rfl rfl (Nat.le_of_ble_eq_true rfl) (rcv_v gX6_open (by omega) (rp_ck hR (T6_o (T5_0 t0)))) (RX6_open (by omega) hR (T5_0 t0) t1 p2 e_1127 (fun h_1128 R_1128 => ?_))
  show Rn d _ _ 9 [some (.ref q0), some (.ref q1), some (.int m2), some (.ref q3), none, none] [] h_1128 Q
  refine Rn.n hT 2 (pc' := 11) (L' := [some (.ref q0), some (.ref q1), some (.int m2), some (.ref q3), none, none]) (st' := [.int (0 : Int32), .ref q0]) rfl ?_
  obtain ⟨s_1129, e_1130, e⟩ := Option.bind_eq_some_iff.mp e
  obtain ⟨h_1129, g_1130, R_1129⟩ := rp_pI (ci := 5) (k := 1) R_1128 (T5_o t0) rfl rfl L32_0 e_1130
  refine Rn.hp hT rfl rfl (pV_hp (by decide) g_1130) ?_
  refine Rn.n hT 3 (pc' := 17) (L' := [some (.ref q0), some (.ref q1), some (.int m2), some (.ref q3), none, none]) (st' := [.int (0 : Int32), .int (0 : Int32), .ref q3]) rfl ?_
  obtain ⟨s_1132, e_1131, e⟩ := Option.bind_eq_some_iff.mp e
  refine Rn.call hT rfl rfl rfl (Nat.le_of_ble_eq_true rfl) (rcv_v gX2_build (by omega) (rp_ck R_1129 (T2_o t3))) (RX2_build (by omega) R_1129 t3 L32_0 L32_0 e_1131 (fun h_1132 R_1132 => ?_))
  show Rn d _ _ 20 [some (.ref q0), some (.ref q1), some (.int m2), some (.ref q3), none, none] [] h_1132 Q
  refine Rn.n hT 4 (pc' := 26) (L' := [some (.ref q0), some (.ref q1), some (.int m2), some (.ref q3), some (.int (1 : Int32)), some (.int (0 : Int32))]) (st' := []) rfl ?_
  refine Rn.weak (ll_s (ll_n (ll_n (ll_s (ll_s (ll_s ll_e)))))) (RX5_read_l26 hd t0 t3 (fun h_1133 s_1133 R_1133 e => ?_) hq N h_1132 s_1132 R_1132 (1 : Int32) 1 L32_1 (0 : Int32) 0 L32_0 e)
  try dsimp only at e
  exact Rn.weak (ll_s (ll_n (ll_n (ll_n (ll_n (ll_n ll_e)))))) (RX5_read_b57 hd R_1133 t0 hq e)
set_option maxRecDepth 10000 in
theorem hX8_readBar : iv_Tb 103 tX8_readBar := iv_tb_of (m := mX8_readBar) rfl
set_option maxRecDepth 10000 in
theorem gX8_readBar : PG.2 103 = some mX8_readBar := iv_pi_of (t := tX8_readBar) rfl (by decide)
def FX8_readBar_b34 (N : Nat) (s : iv_M) (q0 : Nat)  : Option (iv_M) := ((pt s q0 7 (w32 ((s q0 7) + 1))).bind fun s_1150 => ((pt s_1150 q0 5 1).bind fun s_1152 => some s_1152))
set_option maxRecDepth 10000 in
set_option maxHeartbeats 4000000 in
theorem RX8_readBar_b34 {d N nc Ls : Nat} {Xs : Nat → Int32} (hd : 12 ≤ d) {h : iv_H} {s : iv_M} (hR : Rep nc Ls Xs h s) {q0 : Nat} (t0 : T8 nc q0)  {r : iv_M} {Q : Option Value → iv_H → Prop} (hq : ∀ h1, Rep nc Ls Xs h1 r → Q none h1) (e : FX8_readBar_b34 N s q0  = some r) : Rn d 103 none 34 [some (.ref q0)] [] h Q := by
  have hT := hX8_readBar
  unfold FX8_readBar_b34 at e
  refine Rn.n hT 2 (pc' := 36) (L' := [some (.ref q0)]) (st' := [.ref q0, .ref q0]) rfl ?_
  obtain ⟨z_1149, g_1149, p_1149⟩ : ∃ z : Int32, gI h 8 7 q0 = some z ∧ z.toInt = s q0 7 := rp_gI (k := 7) hR (T8_o t0) rfl
  refine Rn.hp hT rfl rfl (gI_hp g_1149) ?_
  refine Rn.n hT 2 (pc' := 41) (L' := [some (.ref q0)]) (st' := [.int (z_1149 + (1 : Int32)), .ref q0]) rfl ?_
  obtain ⟨s_1150, e_1151, e⟩ := Option.bind_eq_some_iff.mp e
  obtain ⟨h_1150, g_1151, R_1150⟩ := rp_pI (ci := 8) (k := 7) hR (T8_o t0) rfl rfl (ti_add p_1149 L32_1) e_1151
  refine Rn.hp hT rfl rfl (pV_hp rfl g_1151) ?_
  refine Rn.n hT 2 (pc' := 46) (L' := [some (.ref q0)]) (st' := [.int (1 : Int32), .ref q0]) rfl ?_
  obtain ⟨s_1152, e_1153, e⟩ := Option.bind_eq_some_iff.mp e
  obtain ⟨h_1152, g_1153, R_1152⟩ := rp_pI (ci := 8) (k := 5) R_1150 (T8_o t0) rfl rfl L32_1 e_1153
  refine Rn.hp hT rfl rfl (pV_hp rfl g_1153) ?_
  obtain rfl := Option.some.inj e
  exact Rn.ret hT rfl rfl rfl (hq h_1152 R_1152)
def FX8_readBar (N : Nat) (s : iv_M) (q0 : Nat) : Option (iv_M) := ((FX6_readWord N s (q0 + 1) 1000012).bind fun r_1142 => (fun (v_1142 : Int) (s_1143 : iv_M) => (if (s_1143 q0 7) < 12 then (FX8_readBar_b34 N s_1143 q0) else ((FX6_fail N s_1143 (q0 + 1) (s_1143 (q0 + 1) 3) 4).bind fun s_1148 => (FX8_readBar_b34 N s_1148 q0)))) r_1142.1 r_1142.2)
set_option maxRecDepth 10000 in
set_option maxHeartbeats 4000000 in
theorem RX8_readBar {d N nc Ls : Nat} {Xs : Nat → Int32} (hd : 13 ≤ d) {h : iv_H} {s : iv_M} (hR : Rep nc Ls Xs h s) {q0 : Nat} (t0 : T8 nc q0) {r : iv_M} {Q : Option Value → iv_H → Prop} (e : FX8_readBar N s q0 = some r) (hq : ∀ h1, Rep nc Ls Xs h1 r → Q none h1) : Cl d 103 [.ref q0] h Q := by
  obtain ⟨d, rfl⟩ : ∃ k, d = k + 1 := ⟨d - 1, by omega⟩
  have hd : 12 ≤ d := by omega
  have hT := hX8_readBar
  unfold FX8_readBar at e
  refine Cl.into (by decide) gX8_readBar rfl ?_
  show Rn d 103 none 0 [some (.ref q0)] [] h Q
  refine Rn.n hT 1 (pc' := 1) (L' := [some (.ref q0)]) (st' := [.ref q0]) rfl ?_
  refine Rn.hp hT rfl rfl (gR_hp (rp_gR hR (T8_o t0) rfl)) ?_
  refine Rn.n hT 1 (pc' := 6) (L' := [some (.ref q0)]) (st' := [.ref 1000012, .ref (q0 + 1)]) rfl ?_
  obtain ⟨⟨v_1142, s_1143⟩, e_1142, e⟩ := Option.bind_eq_some_iff.mp e
  try dsimp only at e
  try dsimp only at e
  refine Rn.call hT rfl rfl rfl (Nat.le_of_ble_eq_true rfl) (rcv_v gX6_readWord (by omega) (rp_ck hR (T6_o (T8_0 t0)))) (RX6_readWord (by omega) hR (T8_0 t0) TS_1000012 e_1142 (fun z_1142 h_1143 p_1142 R_1143 => ?_))
  show Rn d _ _ 9 [some (.ref q0)] [.int z_1142] h_1143 Q
  refine Rn.n hT 2 (pc' := 11) (L' := [some (.ref q0)]) (st' := [.ref q0]) rfl ?_
  obtain ⟨z_1144, g_1144, p_1144⟩ : ∃ z : Int32, gI h_1143 8 7 q0 = some z ∧ z.toInt = s_1143 q0 7 := rp_gI (k := 7) R_1143 (T8_o t0) rfl
  refine Rn.hp hT rfl rfl (gI_hp g_1144) ?_
  refine Rn.n hT 1 (pc' := 16) (L' := [some (.ref q0)]) (st' := [.int (12 : Int32), .int z_1144]) rfl ?_
  by_cases c_1145 : (s_1143 q0 7) < 12
  · rw [if_pos c_1145] at e
    refine Rn.bt hT rfl rfl rfl (decide_eq_true ((ti_l p_1144 L32_12).mpr c_1145)) ?_
    exact Rn.weak (ll_s ll_e) (RX8_readBar_b34 hd R_1143 t0 hq e)
  · rw [if_neg c_1145] at e
    refine Rn.bf hT rfl rfl rfl (decide_eq_false (fun z => c_1145 ((ti_l p_1144 L32_12).mp z))) ?_
    refine Rn.n hT 1 (pc' := 20) (L' := [some (.ref q0)]) (st' := [.ref q0]) rfl ?_
    refine Rn.hp hT rfl rfl (gR_hp (rp_gR R_1143 (T8_o t0) rfl)) ?_
    refine Rn.n hT 1 (pc' := 24) (L' := [some (.ref q0)]) (st' := [.ref q0, .ref (q0 + 1)]) rfl ?_
    refine Rn.hp hT rfl rfl (gR_hp (rp_gR R_1143 (T8_o t0) rfl)) ?_
    obtain ⟨z_1146, g_1146, p_1146⟩ : ∃ z : Int32, gI h_1143 6 3 (q0 + 1) = some z ∧ z.toInt = s_1143 (q0 + 1) 3 := rp_gI (k := 3) R_1143 (T6_o (T8_0 t0)) rfl
    refine Rn.hp hT rfl rfl (gI_hp g_1146) ?_
    refine Rn.n hT 1 (pc' := 31) (L' := [some (.ref q0)]) (st' := [.int (4 : Int32), .int z_1146, .ref (q0 + 1)]) rfl ?_
    obtain ⟨s_1148, e_1147, e⟩ := Option.bind_eq_some_iff.mp e
    refine Rn.call hT rfl rfl rfl (Nat.le_of_ble_eq_true rfl) (rcv_v gX6_fail (by omega) (rp_ck R_1143 (T6_o (T8_0 t0)))) (RX6_fail (by omega) R_1143 (T8_0 t0) p_1146 L32_4 e_1147 (fun h_1148 R_1148 => ?_))
    show Rn d _ _ 34 [some (.ref q0)] [] h_1148 Q
    exact Rn.weak (ll_s ll_e) (RX8_readBar_b34 hd R_1148 t0 hq e)
set_option maxRecDepth 10000 in
theorem hX8_hold : iv_Tb 114 tX8_hold := iv_tb_of (m := mX8_hold) rfl
set_option maxRecDepth 10000 in
theorem gX8_hold : PG.2 114 = some mX8_hold := iv_pi_of (t := tX8_hold) rfl (by decide)
def FX8_hold_b32 (N : Nat) (s : iv_M)   : Option (iv_M) := some s
set_option maxRecDepth 10000 in
set_option maxHeartbeats 4000000 in
theorem RX8_hold_b32 {d N nc Ls : Nat} {Xs : Nat → Int32} (hd : 0 ≤ d) {h : iv_H} {s : iv_M} (hR : Rep nc Ls Xs h s)   {r : iv_M} {Q : Option Value → iv_H → Prop} (hq : ∀ h1, Rep nc Ls Xs h1 r → Q none h1) (e : FX8_hold_b32 N s   = some r) : Rn d 114 none 32 [none, none] [] h Q := by
  have hT := hX8_hold
  unfold FX8_hold_b32 at e
  obtain rfl := Option.some.inj e
  exact Rn.ret hT rfl rfl rfl (hq h hR)
def FX8_hold (N : Nat) (s : iv_M) (q0 : Nat) (x1 : Int) : Option (iv_M) := (if 64 ≤ (s q0 4) then (FX8_hold_b32 N s) else ((wr s (q0 + 4) 64 (s q0 4) x1).bind fun s_1158 => ((pt s_1158 q0 4 (w32 ((s_1158 q0 4) + 1))).bind fun s_1161 => (FX8_hold_b32 N s_1161))))
set_option maxRecDepth 10000 in
set_option maxHeartbeats 4000000 in
theorem RX8_hold {d N nc Ls : Nat} {Xs : Nat → Int32} (hd : 1 ≤ d) {h : iv_H} {s : iv_M} (hR : Rep nc Ls Xs h s) {q0 : Nat} (t0 : T8 nc q0) {m1 : Int32} {x1 : Int} (p1 : m1.toInt = x1) {r : iv_M} {Q : Option Value → iv_H → Prop} (e : FX8_hold N s q0 x1 = some r) (hq : ∀ h1, Rep nc Ls Xs h1 r → Q none h1) : Cl d 114 [.ref q0, .int m1] h Q := by
  obtain ⟨d, rfl⟩ : ∃ k, d = k + 1 := ⟨d - 1, by omega⟩
  have hd : 0 ≤ d := by omega
  have hT := hX8_hold
  unfold FX8_hold at e
  refine Cl.into (by decide) gX8_hold rfl ?_
  show Rn d 114 none 0 [some (.ref q0), some (.int m1)] [] h Q
  refine Rn.n hT 1 (pc' := 1) (L' := [some (.ref q0), some (.int m1)]) (st' := [.ref q0]) rfl ?_
  obtain ⟨z_1154, g_1154, p_1154⟩ : ∃ z : Int32, gI h 8 4 q0 = some z ∧ z.toInt = s q0 4 := rp_gI (k := 4) hR (T8_o t0) rfl
  refine Rn.hp hT rfl rfl (gI_hp g_1154) ?_
  refine Rn.n hT 1 (pc' := 5) (L' := [some (.ref q0), some (.int m1)]) (st' := [.ref q0, .int z_1154]) rfl ?_
  refine Rn.hp hT rfl rfl (gR_hp (rp_gR hR (T8_o t0) rfl)) ?_
  obtain ⟨z_1155, g_1155, p_1155⟩ : ∃ z : Int32, aL h (q0 + 4) = some z ∧ z.toInt = 64 := rp_aL hR (T8_3 t0) (Or.inl rfl) (T8_3l t0)
  refine Rn.hp hT rfl rfl (aL_hp g_1155) ?_
  by_cases c_1156 : 64 ≤ (s q0 4)
  · rw [if_pos c_1156] at e
    refine Rn.bt hT rfl rfl rfl (decide_eq_true ((ti_le p_1155 p_1154).mpr c_1156)) ?_
    exact Rn.weak (ll_n (ll_n ll_e)) (RX8_hold_b32 hd hR hq e)
  · rw [if_neg c_1156] at e
    refine Rn.bf hT rfl rfl rfl (decide_eq_false (fun z => c_1156 ((ti_le p_1155 p_1154).mp z))) ?_
    refine Rn.n hT 1 (pc' := 13) (L' := [some (.ref q0), some (.int m1)]) (st' := [.ref q0]) rfl ?_
    refine Rn.hp hT rfl rfl (gR_hp (rp_gR hR (T8_o t0) rfl)) ?_
    refine Rn.n hT 1 (pc' := 17) (L' := [some (.ref q0), some (.int m1)]) (st' := [.ref q0, .ref (q0 + 4)]) rfl ?_
    obtain ⟨z_1157, g_1157, p_1157⟩ : ∃ z : Int32, gI h 8 4 q0 = some z ∧ z.toInt = s q0 4 := rp_gI (k := 4) hR (T8_o t0) rfl
    refine Rn.hp hT rfl rfl (gI_hp g_1157) ?_
    refine Rn.n hT 1 (pc' := 21) (L' := [some (.ref q0), some (.int m1)]) (st' := [.int m1, .int z_1157, .ref (q0 + 4)]) rfl ?_
    obtain ⟨s_1158, e_1159, e⟩ := Option.bind_eq_some_iff.mp e
    obtain ⟨h_1158, g_1159, R_1158⟩ := rp_wI hR (T8_3 t0) (T8_3l t0) p_1157 p1 e_1159
    refine Rn.hp hT rfl rfl (wI_hp g_1159) ?_
    refine Rn.n hT 2 (pc' := 24) (L' := [some (.ref q0), some (.int m1)]) (st' := [.ref q0, .ref q0]) rfl ?_
    obtain ⟨z_1160, g_1160, p_1160⟩ : ∃ z : Int32, gI h_1158 8 4 q0 = some z ∧ z.toInt = s_1158 q0 4 := rp_gI (k := 4) R_1158 (T8_o t0) rfl
    refine Rn.hp hT rfl rfl (gI_hp g_1160) ?_
    refine Rn.n hT 2 (pc' := 29) (L' := [some (.ref q0), some (.int m1)]) (st' := [.int (z_1160 + (1 : Int32)), .ref q0]) rfl ?_
    obtain ⟨s_1161, e_1162, e⟩ := Option.bind_eq_some_iff.mp e
    obtain ⟨h_1161, g_1162, R_1161⟩ := rp_pI (ci := 8) (k := 4) R_1158 (T8_o t0) rfl rfl (ti_add p_1160 L32_1) e_1162
    refine Rn.hp hT rfl rfl (pV_hp rfl g_1162) ?_
    exact Rn.weak (ll_n (ll_n ll_e)) (RX8_hold_b32 hd R_1161 hq e)
set_option maxRecDepth 10000 in
theorem hX8_deepen : iv_Tb 105 tX8_deepen := iv_tb_of (m := mX8_deepen) rfl
set_option maxRecDepth 10000 in
theorem gX8_deepen : PG.2 105 = some mX8_deepen := iv_pi_of (t := tX8_deepen) rfl (by decide)
def FX8_deepen (N : Nat) (s : iv_M) (q0 : Nat) (x1 : Int) (x2 : Int) : Option (iv_M) := (if (s q0 8) < 10 then ((pt s q0 8 (w32 ((s q0 8) + 1))).bind fun s_1166 => ((FX8_hold N s_1166 q0 x1).bind fun s_1169 => some s_1169)) else ((FX6_fail N s (q0 + 1) x2 2).bind fun s_1171 => some s_1171))
set_option maxRecDepth 10000 in
set_option maxHeartbeats 4000000 in
theorem RX8_deepen {d N nc Ls : Nat} {Xs : Nat → Int32} (hd : 2 ≤ d) {h : iv_H} {s : iv_M} (hR : Rep nc Ls Xs h s) {q0 : Nat} (t0 : T8 nc q0) {m1 : Int32} {x1 : Int} (p1 : m1.toInt = x1) {m2 : Int32} {x2 : Int} (p2 : m2.toInt = x2) {r : iv_M} {Q : Option Value → iv_H → Prop} (e : FX8_deepen N s q0 x1 x2 = some r) (hq : ∀ h1, Rep nc Ls Xs h1 r → Q none h1) : Cl d 105 [.ref q0, .int m1, .int m2] h Q := by
  obtain ⟨d, rfl⟩ : ∃ k, d = k + 1 := ⟨d - 1, by omega⟩
  have hd : 1 ≤ d := by omega
  have hT := hX8_deepen
  unfold FX8_deepen at e
  refine Cl.into (by decide) gX8_deepen rfl ?_
  show Rn d 105 none 0 [some (.ref q0), some (.int m1), some (.int m2)] [] h Q
  refine Rn.n hT 1 (pc' := 1) (L' := [some (.ref q0), some (.int m1), some (.int m2)]) (st' := [.ref q0]) rfl ?_
  obtain ⟨z_1163, g_1163, p_1163⟩ : ∃ z : Int32, gI h 8 8 q0 = some z ∧ z.toInt = s q0 8 := rp_gI (k := 8) hR (T8_o t0) rfl
  refine Rn.hp hT rfl rfl (gI_hp g_1163) ?_
  refine Rn.n hT 1 (pc' := 6) (L' := [some (.ref q0), some (.int m1), some (.int m2)]) (st' := [.int (10 : Int32), .int z_1163]) rfl ?_
  by_cases c_1164 : (s q0 8) < 10
  · rw [if_pos c_1164] at e
    refine Rn.bt hT rfl rfl rfl (decide_eq_true ((ti_l p_1163 L32_10).mpr c_1164)) ?_
    refine Rn.n hT 2 (pc' := 21) (L' := [some (.ref q0), some (.int m1), some (.int m2)]) (st' := [.ref q0, .ref q0]) rfl ?_
    obtain ⟨z_1165, g_1165, p_1165⟩ : ∃ z : Int32, gI h 8 8 q0 = some z ∧ z.toInt = s q0 8 := rp_gI (k := 8) hR (T8_o t0) rfl
    refine Rn.hp hT rfl rfl (gI_hp g_1165) ?_
    refine Rn.n hT 2 (pc' := 26) (L' := [some (.ref q0), some (.int m1), some (.int m2)]) (st' := [.int (z_1165 + (1 : Int32)), .ref q0]) rfl ?_
    obtain ⟨s_1166, e_1167, e⟩ := Option.bind_eq_some_iff.mp e
    obtain ⟨h_1166, g_1167, R_1166⟩ := rp_pI (ci := 8) (k := 8) hR (T8_o t0) rfl rfl (ti_add p_1165 L32_1) e_1167
    refine Rn.hp hT rfl rfl (pV_hp rfl g_1167) ?_
    refine Rn.n hT 2 (pc' := 31) (L' := [some (.ref q0), some (.int m1), some (.int m2)]) (st' := [.int m1, .ref q0]) rfl ?_
    obtain ⟨s_1169, e_1168, e⟩ := Option.bind_eq_some_iff.mp e
    refine Rn.call hT rfl rfl rfl (Nat.le_of_ble_eq_true rfl) (rcv_v gX8_hold (by omega) (rp_ck R_1166 (T8_o t0))) (RX8_hold (by omega) R_1166 t0 p1 e_1168 (fun h_1169 R_1169 => ?_))
    show Rn d _ _ 34 [some (.ref q0), some (.int m1), some (.int m2)] [] h_1169 Q
    obtain rfl := Option.some.inj e
    exact Rn.ret hT rfl rfl rfl (hq h_1169 R_1169)
  · rw [if_neg c_1164] at e
    refine Rn.bf hT rfl rfl rfl (decide_eq_false (fun z => c_1164 ((ti_l p_1163 L32_10).mp z))) ?_
    refine Rn.n hT 1 (pc' := 10) (L' := [some (.ref q0), some (.int m1), some (.int m2)]) (st' := [.ref q0]) rfl ?_
    refine Rn.hp hT rfl rfl (gR_hp (rp_gR hR (T8_o t0) rfl)) ?_
    refine Rn.n hT 2 (pc' := 15) (L' := [some (.ref q0), some (.int m1), some (.int m2)]) (st' := [.int (2 : Int32), .int m2, .ref (q0 + 1)]) rfl ?_
    obtain ⟨s_1171, e_1170, e⟩ := Option.bind_eq_some_iff.mp e
    refine Rn.call hT rfl rfl rfl (Nat.le_of_ble_eq_true rfl) (rcv_v gX6_fail (by omega) (rp_ck hR (T6_o (T8_0 t0)))) (RX6_fail (by omega) hR (T8_0 t0) p2 L32_2 e_1170 (fun h_1171 R_1171 => ?_))
    show Rn d _ _ 18 [some (.ref q0), some (.int m1), some (.int m2)] [] h_1171 Q
    obtain rfl := Option.some.inj e
    exact Rn.ret hT rfl rfl rfl (hq h_1171 R_1171)
set_option maxRecDepth 10000 in
theorem hX8_countOne : iv_Tb 107 tX8_countOne := iv_tb_of (m := mX8_countOne) rfl
set_option maxRecDepth 10000 in
theorem gX8_countOne : PG.2 107 = some mX8_countOne := iv_pi_of (t := tX8_countOne) rfl (by decide)
def FX8_countOne_b18 (N : Nat) (s : iv_M) (q0 : Nat)  : Option (iv_M) := ((pt s q0 10 (w32 ((s q0 10) + 1))).bind fun s_1177 => some s_1177)
set_option maxRecDepth 10000 in
set_option maxHeartbeats 4000000 in
theorem RX8_countOne_b18 {d N nc Ls : Nat} {Xs : Nat → Int32} (hd : 1 ≤ d) {h : iv_H} {s : iv_M} (hR : Rep nc Ls Xs h s) {q0 : Nat} (t0 : T8 nc q0)  {r : iv_M} {Q : Option Value → iv_H → Prop} (hq : ∀ h1, Rep nc Ls Xs h1 r → Q none h1) (e : FX8_countOne_b18 N s q0  = some r) : Rn d 107 none 18 [some (.ref q0), none] [] h Q := by
  have hT := hX8_countOne
  unfold FX8_countOne_b18 at e
  refine Rn.n hT 2 (pc' := 20) (L' := [some (.ref q0), none]) (st' := [.ref q0, .ref q0]) rfl ?_
  obtain ⟨z_1176, g_1176, p_1176⟩ : ∃ z : Int32, gI h 8 10 q0 = some z ∧ z.toInt = s q0 10 := rp_gI (k := 10) hR (T8_o t0) rfl
  refine Rn.hp hT rfl rfl (gI_hp g_1176) ?_
  refine Rn.n hT 2 (pc' := 25) (L' := [some (.ref q0), none]) (st' := [.int (z_1176 + (1 : Int32)), .ref q0]) rfl ?_
  obtain ⟨s_1177, e_1178, e⟩ := Option.bind_eq_some_iff.mp e
  obtain ⟨h_1177, g_1178, R_1177⟩ := rp_pI (ci := 8) (k := 10) hR (T8_o t0) rfl rfl (ti_add p_1176 L32_1) e_1178
  refine Rn.hp hT rfl rfl (pV_hp rfl g_1178) ?_
  obtain rfl := Option.some.inj e
  exact Rn.ret hT rfl rfl rfl (hq h_1177 R_1177)
def FX8_countOne (N : Nat) (s : iv_M) (q0 : Nat) (x1 : Int) : Option (iv_M) := (if (s q0 10) < 60 then (FX8_countOne_b18 N s q0) else ((FX6_fail N s (q0 + 1) x1 3).bind fun s_1175 => (FX8_countOne_b18 N s_1175 q0)))
set_option maxRecDepth 10000 in
set_option maxHeartbeats 4000000 in
theorem RX8_countOne {d N nc Ls : Nat} {Xs : Nat → Int32} (hd : 2 ≤ d) {h : iv_H} {s : iv_M} (hR : Rep nc Ls Xs h s) {q0 : Nat} (t0 : T8 nc q0) {m1 : Int32} {x1 : Int} (p1 : m1.toInt = x1) {r : iv_M} {Q : Option Value → iv_H → Prop} (e : FX8_countOne N s q0 x1 = some r) (hq : ∀ h1, Rep nc Ls Xs h1 r → Q none h1) : Cl d 107 [.ref q0, .int m1] h Q := by
  obtain ⟨d, rfl⟩ : ∃ k, d = k + 1 := ⟨d - 1, by omega⟩
  have hd : 1 ≤ d := by omega
  have hT := hX8_countOne
  unfold FX8_countOne at e
  refine Cl.into (by decide) gX8_countOne rfl ?_
  show Rn d 107 none 0 [some (.ref q0), some (.int m1)] [] h Q
  refine Rn.n hT 1 (pc' := 1) (L' := [some (.ref q0), some (.int m1)]) (st' := [.ref q0]) rfl ?_
  obtain ⟨z_1172, g_1172, p_1172⟩ : ∃ z : Int32, gI h 8 10 q0 = some z ∧ z.toInt = s q0 10 := rp_gI (k := 10) hR (T8_o t0) rfl
  refine Rn.hp hT rfl rfl (gI_hp g_1172) ?_
  refine Rn.n hT 1 (pc' := 6) (L' := [some (.ref q0), some (.int m1)]) (st' := [.int (60 : Int32), .int z_1172]) rfl ?_
  by_cases c_1173 : (s q0 10) < 60
  · rw [if_pos c_1173] at e
    refine Rn.bt hT rfl rfl rfl (decide_eq_true ((ti_l p_1172 L32_60).mpr c_1173)) ?_
    exact Rn.weak (ll_s (ll_n ll_e)) (RX8_countOne_b18 hd hR t0 hq e)
  · rw [if_neg c_1173] at e
    refine Rn.bf hT rfl rfl rfl (decide_eq_false (fun z => c_1173 ((ti_l p_1172 L32_60).mp z))) ?_
    refine Rn.n hT 1 (pc' := 10) (L' := [some (.ref q0), some (.int m1)]) (st' := [.ref q0]) rfl ?_
    refine Rn.hp hT rfl rfl (gR_hp (rp_gR hR (T8_o t0) rfl)) ?_
    refine Rn.n hT 2 (pc' := 15) (L' := [some (.ref q0), some (.int m1)]) (st' := [.int (3 : Int32), .int m1, .ref (q0 + 1)]) rfl ?_
    obtain ⟨s_1175, e_1174, e⟩ := Option.bind_eq_some_iff.mp e
    refine Rn.call hT rfl rfl rfl (Nat.le_of_ble_eq_true rfl) (rcv_v gX6_fail (by omega) (rp_ck hR (T6_o (T8_0 t0)))) (RX6_fail (by omega) hR (T8_0 t0) p1 L32_3 e_1174 (fun h_1175 R_1175 => ?_))
    show Rn d _ _ 18 [some (.ref q0), some (.int m1)] [] h_1175 Q
    exact Rn.weak (ll_s (ll_n ll_e)) (RX8_countOne_b18 hd R_1175 t0 hq e)
set_option maxRecDepth 10000 in
theorem hX8_emit : iv_Tb 115 tX8_emit := iv_tb_of (m := mX8_emit) rfl
set_option maxRecDepth 10000 in
theorem gX8_emit : PG.2 115 = some mX8_emit := iv_pi_of (t := tX8_emit) rfl (by decide)
def FX8_emit_b30 (N : Nat) (s : iv_M)   : Option (iv_M) := some s
set_option maxRecDepth 10000 in
set_option maxHeartbeats 4000000 in
theorem RX8_emit_b30 {d N nc Ls : Nat} {Xs : Nat → Int32} (hd : 0 ≤ d) {h : iv_H} {s : iv_M} (hR : Rep nc Ls Xs h s)   {r : iv_M} {Q : Option Value → iv_H → Prop} (hq : ∀ h1, Rep nc Ls Xs h1 r → Q none h1) (e : FX8_emit_b30 N s   = some r) : Rn d 115 none 30 [none, none] [] h Q := by
  have hT := hX8_emit
  unfold FX8_emit_b30 at e
  obtain rfl := Option.some.inj e
  exact Rn.ret hT rfl rfl rfl (hq h hR)
def FX8_emit (N : Nat) (s : iv_M) (q0 : Nat) (x1 : Int) : Option (iv_M) := (if 400 ≤ (s q0 2) then (FX8_emit_b30 N s) else ((wr s (q0 + 3) 401 (s q0 2) x1).bind fun s_1182 => ((pt s_1182 q0 2 (w32 ((s_1182 q0 2) + 1))).bind fun s_1185 => (FX8_emit_b30 N s_1185))))
set_option maxRecDepth 10000 in
set_option maxHeartbeats 4000000 in
theorem RX8_emit {d N nc Ls : Nat} {Xs : Nat → Int32} (hd : 1 ≤ d) {h : iv_H} {s : iv_M} (hR : Rep nc Ls Xs h s) {q0 : Nat} (t0 : T8 nc q0) {m1 : Int32} {x1 : Int} (p1 : m1.toInt = x1) {r : iv_M} {Q : Option Value → iv_H → Prop} (e : FX8_emit N s q0 x1 = some r) (hq : ∀ h1, Rep nc Ls Xs h1 r → Q none h1) : Cl d 115 [.ref q0, .int m1] h Q := by
  obtain ⟨d, rfl⟩ : ∃ k, d = k + 1 := ⟨d - 1, by omega⟩
  have hd : 0 ≤ d := by omega
  have hT := hX8_emit
  unfold FX8_emit at e
  refine Cl.into (by decide) gX8_emit rfl ?_
  show Rn d 115 none 0 [some (.ref q0), some (.int m1)] [] h Q
  refine Rn.n hT 1 (pc' := 1) (L' := [some (.ref q0), some (.int m1)]) (st' := [.ref q0]) rfl ?_
  obtain ⟨z_1179, g_1179, p_1179⟩ : ∃ z : Int32, gI h 8 2 q0 = some z ∧ z.toInt = s q0 2 := rp_gI (k := 2) hR (T8_o t0) rfl
  refine Rn.hp hT rfl rfl (gI_hp g_1179) ?_
  refine Rn.n hT 1 (pc' := 7) (L' := [some (.ref q0), some (.int m1)]) (st' := [.int (400 : Int32), .int z_1179]) rfl ?_
  by_cases c_1180 : 400 ≤ (s q0 2)
  · rw [if_pos c_1180] at e
    refine Rn.bt hT rfl rfl rfl (decide_eq_true ((ti_le L32_400 p_1179).mpr c_1180)) ?_
    exact Rn.weak (ll_n (ll_n ll_e)) (RX8_emit_b30 hd hR hq e)
  · rw [if_neg c_1180] at e
    refine Rn.bf hT rfl rfl rfl (decide_eq_false (fun z => c_1180 ((ti_le L32_400 p_1179).mp z))) ?_
    refine Rn.n hT 1 (pc' := 11) (L' := [some (.ref q0), some (.int m1)]) (st' := [.ref q0]) rfl ?_
    refine Rn.hp hT rfl rfl (gR_hp (rp_gR hR (T8_o t0) rfl)) ?_
    refine Rn.n hT 1 (pc' := 15) (L' := [some (.ref q0), some (.int m1)]) (st' := [.ref q0, .ref (q0 + 3)]) rfl ?_
    obtain ⟨z_1181, g_1181, p_1181⟩ : ∃ z : Int32, gI h 8 2 q0 = some z ∧ z.toInt = s q0 2 := rp_gI (k := 2) hR (T8_o t0) rfl
    refine Rn.hp hT rfl rfl (gI_hp g_1181) ?_
    refine Rn.n hT 1 (pc' := 19) (L' := [some (.ref q0), some (.int m1)]) (st' := [.int m1, .int z_1181, .ref (q0 + 3)]) rfl ?_
    obtain ⟨s_1182, e_1183, e⟩ := Option.bind_eq_some_iff.mp e
    obtain ⟨h_1182, g_1183, R_1182⟩ := rp_wI hR (T8_1 t0) (T8_1l t0) p_1181 p1 e_1183
    refine Rn.hp hT rfl rfl (wI_hp g_1183) ?_
    refine Rn.n hT 2 (pc' := 22) (L' := [some (.ref q0), some (.int m1)]) (st' := [.ref q0, .ref q0]) rfl ?_
    obtain ⟨z_1184, g_1184, p_1184⟩ : ∃ z : Int32, gI h_1182 8 2 q0 = some z ∧ z.toInt = s_1182 q0 2 := rp_gI (k := 2) R_1182 (T8_o t0) rfl
    refine Rn.hp hT rfl rfl (gI_hp g_1184) ?_
    refine Rn.n hT 2 (pc' := 27) (L' := [some (.ref q0), some (.int m1)]) (st' := [.int (z_1184 + (1 : Int32)), .ref q0]) rfl ?_
    obtain ⟨s_1185, e_1186, e⟩ := Option.bind_eq_some_iff.mp e
    obtain ⟨h_1185, g_1186, R_1185⟩ := rp_pI (ci := 8) (k := 2) R_1182 (T8_o t0) rfl rfl (ti_add p_1184 L32_1) e_1186
    refine Rn.hp hT rfl rfl (pV_hp rfl g_1186) ?_
    exact Rn.weak (ll_n (ll_n ll_e)) (RX8_emit_b30 hd R_1185 hq e)
set_option maxRecDepth 10000 in
theorem hX8_readValue : iv_Tb 106 tX8_readValue := iv_tb_of (m := mX8_readValue) rfl
set_option maxRecDepth 10000 in
theorem gX8_readValue : PG.2 106 = some mX8_readValue := iv_pi_of (t := tX8_readValue) rfl (by decide)
def FX8_readValue_b89 (N : Nat) (s : iv_M)  (xs0 : Int) (qs1 : Nat) : Option (iv_M) := ((pt s qs1 5 xs0).bind fun s_1204 => some s_1204)
set_option maxRecDepth 10000 in
set_option maxHeartbeats 4000000 in
theorem RX8_readValue_b89 {d N nc Ls : Nat} {Xs : Nat → Int32} (hd : 12 ≤ d) {h : iv_H} {s : iv_M} (hR : Rep nc Ls Xs h s)  {ms0 : Int32} {xs0 : Int} (ps0 : ms0.toInt = xs0) {qs1 : Nat} (ts1 : T8 nc qs1) {r : iv_M} {Q : Option Value → iv_H → Prop} (hq : ∀ h1, Rep nc Ls Xs h1 r → Q none h1) (e : FX8_readValue_b89 N s  xs0 qs1 = some r) : Rn d 106 none 89 [none, none, none, none, none] [.int ms0, .ref qs1] h Q := by
  have hT := hX8_readValue
  unfold FX8_readValue_b89 at e
  obtain ⟨s_1204, e_1205, e⟩ := Option.bind_eq_some_iff.mp e
  obtain ⟨h_1204, g_1205, R_1204⟩ := rp_pI (ci := 8) (k := 5) hR (T8_o ts1) rfl rfl ps0 e_1205
  refine Rn.hp hT rfl rfl (pV_hp rfl g_1205) ?_
  obtain rfl := Option.some.inj e
  exact Rn.ret hT rfl rfl rfl (hq h_1204 R_1204)
def FX8_readValue_b60 (N : Nat) (s : iv_M) (q0 : Nat) (x3 : Int)  : Option (iv_M) := ((FX8_countOne N s q0 (s (q0 + 1) 3)).bind fun s_1199 => ((FX8_emit N s_1199 q0 x3).bind fun s_1201 => (if (s_1201 q0 6) = 0 then (FX8_readValue_b89 N s_1201 3 q0) else (FX8_readValue_b89 N s_1201 4 q0))))
set_option maxRecDepth 10000 in
set_option maxHeartbeats 4000000 in
theorem RX8_readValue_b60 {d N nc Ls : Nat} {Xs : Nat → Int32} (hd : 12 ≤ d) {h : iv_H} {s : iv_M} (hR : Rep nc Ls Xs h s) {q0 : Nat} (t0 : T8 nc q0) {m3 : Int32} {x3 : Int} (p3 : m3.toInt = x3)  {r : iv_M} {Q : Option Value → iv_H → Prop} (hq : ∀ h1, Rep nc Ls Xs h1 r → Q none h1) (e : FX8_readValue_b60 N s q0 x3  = some r) : Rn d 106 none 60 [some (.ref q0), none, none, some (.int m3), none] [] h Q := by
  have hT := hX8_readValue
  unfold FX8_readValue_b60 at e
  refine Rn.n hT 2 (pc' := 62) (L' := [some (.ref q0), none, none, some (.int m3), none]) (st' := [.ref q0, .ref q0]) rfl ?_
  refine Rn.hp hT rfl rfl (gR_hp (rp_gR hR (T8_o t0) rfl)) ?_
  obtain ⟨z_1197, g_1197, p_1197⟩ : ∃ z : Int32, gI h 6 3 (q0 + 1) = some z ∧ z.toInt = s (q0 + 1) 3 := rp_gI (k := 3) hR (T6_o (T8_0 t0)) rfl
  refine Rn.hp hT rfl rfl (gI_hp g_1197) ?_
  obtain ⟨s_1199, e_1198, e⟩ := Option.bind_eq_some_iff.mp e
  refine Rn.call hT rfl rfl rfl (Nat.le_of_ble_eq_true rfl) (rcv_v gX8_countOne (by omega) (rp_ck hR (T8_o t0))) (RX8_countOne (by omega) hR t0 p_1197 e_1198 (fun h_1199 R_1199 => ?_))
  show Rn d _ _ 71 [some (.ref q0), none, none, some (.int m3), none] [] h_1199 Q
  refine Rn.n hT 2 (pc' := 73) (L' := [some (.ref q0), none, none, some (.int m3), none]) (st' := [.int m3, .ref q0]) rfl ?_
  obtain ⟨s_1201, e_1200, e⟩ := Option.bind_eq_some_iff.mp e
  refine Rn.call hT rfl rfl rfl (Nat.le_of_ble_eq_true rfl) (rcv_v gX8_emit (by omega) (rp_ck R_1199 (T8_o t0))) (RX8_emit (by omega) R_1199 t0 p3 e_1200 (fun h_1201 R_1201 => ?_))
  show Rn d _ _ 76 [some (.ref q0), none, none, some (.int m3), none] [] h_1201 Q
  refine Rn.n hT 2 (pc' := 78) (L' := [some (.ref q0), none, none, some (.int m3), none]) (st' := [.ref q0, .ref q0]) rfl ?_
  obtain ⟨z_1202, g_1202, p_1202⟩ : ∃ z : Int32, gI h_1201 8 6 q0 = some z ∧ z.toInt = s_1201 q0 6 := rp_gI (k := 6) R_1201 (T8_o t0) rfl
  refine Rn.hp hT rfl rfl (gI_hp g_1202) ?_
  by_cases c_1203 : (s_1201 q0 6) = 0
  · rw [if_pos c_1203] at e
    refine Rn.bt hT rfl rfl rfl (decide_eq_true ((ti_e p_1202 L32_0).mpr c_1203)) ?_
    refine Rn.n hT 1 (pc' := 89) (L' := [some (.ref q0), none, none, some (.int m3), none]) (st' := [.int (3 : Int32), .ref q0]) rfl ?_
    exact Rn.weak (ll_n (ll_n (ll_n (ll_n (ll_n ll_e))))) (RX8_readValue_b89 hd R_1201 L32_3 t0 hq e)
  · rw [if_neg c_1203] at e
    refine Rn.bf hT rfl rfl rfl (decide_eq_false (fun z => c_1203 ((ti_e p_1202 L32_0).mp z))) ?_
    refine Rn.n hT 2 (pc' := 89) (L' := [some (.ref q0), none, none, some (.int m3), none]) (st' := [.int (4 : Int32), .ref q0]) rfl ?_
    exact Rn.weak (ll_n (ll_n (ll_n (ll_n (ll_n ll_e))))) (RX8_readValue_b89 hd R_1201 L32_4 t0 hq e)
def FX8_readValue (N : Nat) (s : iv_M) (q0 : Nat) (x1 : Int) (q2 : Nat) : Option (iv_M) := ((FX6_isLetter N s x1).bind fun v_1187 => (if v_1187 = 0 then ((FX6_readNumber N s (q0 + 1) 0 99999).bind fun r_1189 => (fun (v_1189 : Int) (s_1190 : iv_M) => (FX8_readValue_b60 N s_1190 q0 (w32 (100 + v_1189)))) r_1189.1 r_1189.2) else ((FX6_readWord N s (q0 + 1) q2).bind fun r_1191 => (fun (v_1191 : Int) (s_1192 : iv_M) => (if v_1191 = 13 then ((FX8_deepen N s_1192 q0 3 (s_1192 (q0 + 1) 3)).bind fun s_1196 => some s_1196) else (FX8_readValue_b60 N s_1192 q0 (w32 (20 + v_1191))))) r_1191.1 r_1191.2)))
set_option maxRecDepth 10000 in
set_option maxHeartbeats 4000000 in
theorem RX8_readValue {d N nc Ls : Nat} {Xs : Nat → Int32} (hd : 13 ≤ d) {h : iv_H} {s : iv_M} (hR : Rep nc Ls Xs h s) {q0 : Nat} (t0 : T8 nc q0) {m1 : Int32} {x1 : Int} (p1 : m1.toInt = x1) {q2 : Nat} (t2 : TS q2) {r : iv_M} {Q : Option Value → iv_H → Prop} (e : FX8_readValue N s q0 x1 q2 = some r) (hq : ∀ h1, Rep nc Ls Xs h1 r → Q none h1) : Cl d 106 [.ref q0, .int m1, .ref q2] h Q := by
  obtain ⟨d, rfl⟩ : ∃ k, d = k + 1 := ⟨d - 1, by omega⟩
  have hd : 12 ≤ d := by omega
  have hT := hX8_readValue
  unfold FX8_readValue at e
  refine Cl.into (by decide) gX8_readValue rfl ?_
  show Rn d 106 none 0 [some (.ref q0), some (.int m1), some (.ref q2), none, none] [] h Q
  refine Rn.n hT 1 (pc' := 1) (L' := [some (.ref q0), some (.int m1), some (.ref q2), none, none]) (st' := [.int m1]) rfl ?_
  obtain ⟨v_1187, e_1187, e⟩ := Option.bind_eq_some_iff.mp e
  refine Rn.call hT rfl rfl rfl (Nat.le_of_ble_eq_true rfl) rfl (RX6_isLetter (by omega) hR p1 e_1187 (fun z_1187 p_1187 => ?_))
  show Rn d _ _ 4 [some (.ref q0), some (.int m1), some (.ref q2), none, none] [.int z_1187] h Q
  by_cases c_1188 : v_1187 = 0
  · rw [if_pos c_1188] at e
    refine Rn.bt hT rfl rfl rfl (decide_eq_true ((ti_e p_1187 L32_0).mpr c_1188)) ?_
    refine Rn.n hT 2 (pc' := 49) (L' := [some (.ref q0), some (.int m1), some (.ref q2), none, none]) (st' := [.ref q0, .int (100 : Int32)]) rfl ?_
    refine Rn.hp hT rfl rfl (gR_hp (rp_gR hR (T8_o t0) rfl)) ?_
    refine Rn.n hT 2 (pc' := 55) (L' := [some (.ref q0), some (.int m1), some (.ref q2), none, none]) (st' := [.int (99999 : Int32), .int (0 : Int32), .ref (q0 + 1), .int (100 : Int32)]) rfl ?_
    obtain ⟨⟨v_1189, s_1190⟩, e_1189, e⟩ := Option.bind_eq_some_iff.mp e
    try dsimp only at e
    try dsimp only at e
    refine Rn.call hT rfl rfl rfl (Nat.le_of_ble_eq_true rfl) (rcv_v gX6_readNumber (by omega) (rp_ck hR (T6_o (T8_0 t0)))) (RX6_readNumber (by omega) hR (T8_0 t0) L32_0 L32_99999 e_1189 (fun z_1189 h_1190 p_1189 R_1190 => ?_))
    show Rn d _ _ 58 [some (.ref q0), some (.int m1), some (.ref q2), none, none] [.int z_1189, .int (100 : Int32)] h_1190 Q
    refine Rn.n hT 2 (pc' := 60) (L' := [some (.ref q0), some (.int m1), some (.ref q2), some (.int ((100 : Int32) + z_1189)), none]) (st' := []) rfl ?_
    exact Rn.weak (ll_s (ll_n (ll_n (ll_s (ll_n ll_e))))) (RX8_readValue_b60 hd R_1190 t0 (ti_add L32_100 p_1189) hq e)
  · rw [if_neg c_1188] at e
    refine Rn.bf hT rfl rfl rfl (decide_eq_false (fun z => c_1188 ((ti_e p_1187 L32_0).mp z))) ?_
    refine Rn.n hT 1 (pc' := 8) (L' := [some (.ref q0), some (.int m1), some (.ref q2), none, none]) (st' := [.ref q0]) rfl ?_
    refine Rn.hp hT rfl rfl (gR_hp (rp_gR hR (T8_o t0) rfl)) ?_
    refine Rn.n hT 1 (pc' := 12) (L' := [some (.ref q0), some (.int m1), some (.ref q2), none, none]) (st' := [.ref q2, .ref (q0 + 1)]) rfl ?_
    obtain ⟨⟨v_1191, s_1192⟩, e_1191, e⟩ := Option.bind_eq_some_iff.mp e
    try dsimp only at e
    try dsimp only at e
    refine Rn.call hT rfl rfl rfl (Nat.le_of_ble_eq_true rfl) (rcv_v gX6_readWord (by omega) (rp_ck hR (T6_o (T8_0 t0)))) (RX6_readWord (by omega) hR (T8_0 t0) t2 e_1191 (fun z_1191 h_1192 p_1191 R_1192 => ?_))
    show Rn d _ _ 15 [some (.ref q0), some (.int m1), some (.ref q2), none, none] [.int z_1191] h_1192 Q
    refine Rn.n hT 3 (pc' := 21) (L' := [some (.ref q0), some (.int m1), some (.ref q2), none, some (.int z_1191)]) (st' := [.int (13 : Int32), .int z_1191]) rfl ?_
    by_cases c_1193 : v_1191 = 13
    · rw [if_pos c_1193] at e
      refine Rn.bf hT rfl rfl rfl (decide_eq_false (fun z => z ((ti_e p_1191 L32_13).mpr c_1193))) ?_
      refine Rn.n hT 3 (pc' := 27) (L' := [some (.ref q0), some (.int m1), some (.ref q2), none, some (.int z_1191)]) (st' := [.ref q0, .int (3 : Int32), .ref q0]) rfl ?_
      refine Rn.hp hT rfl rfl (gR_hp (rp_gR R_1192 (T8_o t0) rfl)) ?_
      obtain ⟨z_1194, g_1194, p_1194⟩ : ∃ z : Int32, gI h_1192 6 3 (q0 + 1) = some z ∧ z.toInt = s_1192 (q0 + 1) 3 := rp_gI (k := 3) R_1192 (T6_o (T8_0 t0)) rfl
      refine Rn.hp hT rfl rfl (gI_hp g_1194) ?_
      obtain ⟨s_1196, e_1195, e⟩ := Option.bind_eq_some_iff.mp e
      refine Rn.call hT rfl rfl rfl (Nat.le_of_ble_eq_true rfl) (rcv_v gX8_deepen (by omega) (rp_ck R_1192 (T8_o t0))) (RX8_deepen (by omega) R_1192 t0 L32_3 p_1194 e_1195 (fun h_1196 R_1196 => ?_))
      show Rn d _ _ 36 [some (.ref q0), some (.int m1), some (.ref q2), none, some (.int z_1191)] [] h_1196 Q
      obtain rfl := Option.some.inj e
      exact Rn.ret hT rfl rfl rfl (hq h_1196 R_1196)
    · rw [if_neg c_1193] at e
      refine Rn.bt hT rfl rfl rfl (decide_eq_true (fun z => c_1193 ((ti_e p_1191 L32_13).mp z))) ?_
      refine Rn.n hT 5 (pc' := 60) (L' := [some (.ref q0), some (.int m1), some (.ref q2), some (.int ((20 : Int32) + z_1191)), some (.int z_1191)]) (st' := []) rfl ?_
      exact Rn.weak (ll_s (ll_n (ll_n (ll_s (ll_n ll_e))))) (RX8_readValue_b60 hd R_1192 t0 (ti_add L32_20 p_1191) hq e)
set_option maxRecDepth 10000 in
theorem hX8_readFact : iv_Tb 104 tX8_readFact := iv_tb_of (m := mX8_readFact) rfl
set_option maxRecDepth 10000 in
theorem gX8_readFact : PG.2 104 = some mX8_readFact := iv_pi_of (t := tX8_readFact) rfl (by decide)
def FX8_readFact_b57 (N : Nat) (s : iv_M)   : Option (iv_M) := some s
set_option maxRecDepth 10000 in
set_option maxHeartbeats 4000000 in
theorem RX8_readFact_b57 {d N nc Ls : Nat} {Xs : Nat → Int32} (hd : 13 ≤ d) {h : iv_H} {s : iv_M} (hR : Rep nc Ls Xs h s)   {r : iv_M} {Q : Option Value → iv_H → Prop} (hq : ∀ h1, Rep nc Ls Xs h1 r → Q none h1) (e : FX8_readFact_b57 N s   = some r) : Rn d 104 none 57 [none, none] [] h Q := by
  have hT := hX8_readFact
  unfold FX8_readFact_b57 at e
  obtain rfl := Option.some.inj e
  exact Rn.ret hT rfl rfl rfl (hq h hR)
def FX8_readFact (N : Nat) (s : iv_M) (q0 : Nat) (x1 : Int) : Option (iv_M) := ((pt s q0 6 0).bind fun s_1206 => (if x1 = 91 then ((FX8_deepen N s_1206 q0 14 (s_1206 (q0 + 1) 2)).bind fun s_1213 => ((pt s_1213 q0 9 (w32 ((s_1213 q0 9) + 1))).bind fun s_1215 => ((pt s_1215 (q0 + 1) 2 (w32 ((s_1215 (q0 + 1) 2) + 1))).bind fun s_1218 => (FX8_readFact_b57 N s_1218)))) else ((FX8_readValue N s_1206 q0 x1 1000013).bind fun s_1210 => (FX8_readFact_b57 N s_1210))))
set_option maxRecDepth 10000 in
set_option maxHeartbeats 4000000 in
theorem RX8_readFact {d N nc Ls : Nat} {Xs : Nat → Int32} (hd : 14 ≤ d) {h : iv_H} {s : iv_M} (hR : Rep nc Ls Xs h s) {q0 : Nat} (t0 : T8 nc q0) {m1 : Int32} {x1 : Int} (p1 : m1.toInt = x1) {r : iv_M} {Q : Option Value → iv_H → Prop} (e : FX8_readFact N s q0 x1 = some r) (hq : ∀ h1, Rep nc Ls Xs h1 r → Q none h1) : Cl d 104 [.ref q0, .int m1] h Q := by
  obtain ⟨d, rfl⟩ : ∃ k, d = k + 1 := ⟨d - 1, by omega⟩
  have hd : 13 ≤ d := by omega
  have hT := hX8_readFact
  unfold FX8_readFact at e
  refine Cl.into (by decide) gX8_readFact rfl ?_
  show Rn d 104 none 0 [some (.ref q0), some (.int m1)] [] h Q
  refine Rn.n hT 2 (pc' := 2) (L' := [some (.ref q0), some (.int m1)]) (st' := [.int (0 : Int32), .ref q0]) rfl ?_
  obtain ⟨s_1206, e_1207, e⟩ := Option.bind_eq_some_iff.mp e
  obtain ⟨h_1206, g_1207, R_1206⟩ := rp_pI (ci := 8) (k := 6) hR (T8_o t0) rfl rfl L32_0 e_1207
  refine Rn.hp hT rfl rfl (pV_hp (by decide) g_1207) ?_
  refine Rn.n hT 2 (pc' := 8) (L' := [some (.ref q0), some (.int m1)]) (st' := [.int (91 : Int32), .int m1]) rfl ?_
  by_cases c_1208 : x1 = 91
  · rw [if_pos c_1208] at e
    refine Rn.bf hT rfl rfl rfl (decide_eq_false (fun z => z ((ti_e p1 L32_91).mpr c_1208))) ?_
    refine Rn.n hT 3 (pc' := 15) (L' := [some (.ref q0), some (.int m1)]) (st' := [.ref q0, .int (14 : Int32), .ref q0]) rfl ?_
    refine Rn.hp hT rfl rfl (gR_hp (rp_gR R_1206 (T8_o t0) rfl)) ?_
    obtain ⟨z_1211, g_1211, p_1211⟩ : ∃ z : Int32, gI h_1206 6 2 (q0 + 1) = some z ∧ z.toInt = s_1206 (q0 + 1) 2 := rp_gI (k := 2) R_1206 (T6_o (T8_0 t0)) rfl
    refine Rn.hp hT rfl rfl (gI_hp g_1211) ?_
    obtain ⟨s_1213, e_1212, e⟩ := Option.bind_eq_some_iff.mp e
    refine Rn.call hT rfl rfl rfl (Nat.le_of_ble_eq_true rfl) (rcv_v gX8_deepen (by omega) (rp_ck R_1206 (T8_o t0))) (RX8_deepen (by omega) R_1206 t0 L32_14 p_1211 e_1212 (fun h_1213 R_1213 => ?_))
    show Rn d _ _ 24 [some (.ref q0), some (.int m1)] [] h_1213 Q
    refine Rn.n hT 2 (pc' := 26) (L' := [some (.ref q0), some (.int m1)]) (st' := [.ref q0, .ref q0]) rfl ?_
    obtain ⟨z_1214, g_1214, p_1214⟩ : ∃ z : Int32, gI h_1213 8 9 q0 = some z ∧ z.toInt = s_1213 q0 9 := rp_gI (k := 9) R_1213 (T8_o t0) rfl
    refine Rn.hp hT rfl rfl (gI_hp g_1214) ?_
    refine Rn.n hT 2 (pc' := 31) (L' := [some (.ref q0), some (.int m1)]) (st' := [.int (z_1214 + (1 : Int32)), .ref q0]) rfl ?_
    obtain ⟨s_1215, e_1216, e⟩ := Option.bind_eq_some_iff.mp e
    obtain ⟨h_1215, g_1216, R_1215⟩ := rp_pI (ci := 8) (k := 9) R_1213 (T8_o t0) rfl rfl (ti_add p_1214 L32_1) e_1216
    refine Rn.hp hT rfl rfl (pV_hp rfl g_1216) ?_
    refine Rn.n hT 1 (pc' := 35) (L' := [some (.ref q0), some (.int m1)]) (st' := [.ref q0]) rfl ?_
    refine Rn.hp hT rfl rfl (gR_hp (rp_gR R_1215 (T8_o t0) rfl)) ?_
    refine Rn.n hT 1 (pc' := 39) (L' := [some (.ref q0), some (.int m1)]) (st' := [.ref (q0 + 1), .ref (q0 + 1)]) rfl ?_
    obtain ⟨z_1217, g_1217, p_1217⟩ : ∃ z : Int32, gI h_1215 6 2 (q0 + 1) = some z ∧ z.toInt = s_1215 (q0 + 1) 2 := rp_gI (k := 2) R_1215 (T6_o (T8_0 t0)) rfl
    refine Rn.hp hT rfl rfl (gI_hp g_1217) ?_
    refine Rn.n hT 2 (pc' := 44) (L' := [some (.ref q0), some (.int m1)]) (st' := [.int (z_1217 + (1 : Int32)), .ref (q0 + 1)]) rfl ?_
    obtain ⟨s_1218, e_1219, e⟩ := Option.bind_eq_some_iff.mp e
    obtain ⟨h_1218, g_1219, R_1218⟩ := rp_pI (ci := 6) (k := 2) R_1215 (T6_o (T8_0 t0)) rfl rfl (ti_add p_1217 L32_1) e_1219
    refine Rn.hp hT rfl rfl (pV_hp rfl g_1219) ?_
    refine Rn.n hT 1 (pc' := 57) (L' := [some (.ref q0), some (.int m1)]) (st' := []) rfl ?_
    exact Rn.weak (ll_n (ll_n ll_e)) (RX8_readFact_b57 hd R_1218 hq e)
  · rw [if_neg c_1208] at e
    refine Rn.bt hT rfl rfl rfl (decide_eq_true (fun z => c_1208 ((ti_e p1 L32_91).mp z))) ?_
    refine Rn.n hT 3 (pc' := 54) (L' := [some (.ref q0), some (.int m1)]) (st' := [.ref 1000013, .int m1, .ref q0]) rfl ?_
    obtain ⟨s_1210, e_1209, e⟩ := Option.bind_eq_some_iff.mp e
    refine Rn.call hT rfl rfl rfl (Nat.le_of_ble_eq_true rfl) (rcv_v gX8_readValue (by omega) (rp_ck R_1206 (T8_o t0))) (RX8_readValue (by omega) R_1206 t0 p1 TS_1000013 e_1209 (fun h_1210 R_1210 => ?_))
    show Rn d _ _ 57 [some (.ref q0), some (.int m1)] [] h_1210 Q
    exact Rn.weak (ll_n (ll_n ll_e)) (RX8_readFact_b57 hd R_1210 hq e)
set_option maxRecDepth 10000 in
theorem hX8_arithmeticOf : iv_Tb 109 tX8_arithmeticOf := iv_tb_of (m := mX8_arithmeticOf) rfl
set_option maxRecDepth 10000 in
theorem gX8_arithmeticOf : PG.2 109 = some mX8_arithmeticOf := iv_pi_of (t := tX8_arithmeticOf) rfl (by decide)
def FX8_arithmeticOf (N : Nat) (s : iv_M) (x0 : Int) : Option (Int) := (if x0 = 37 then (some 13) else (if x0 = 38 then (some (-1)) else (if x0 = 39 then (some (-1)) else (if x0 = 40 then (some (-1)) else (if x0 = 41 then (some (-1)) else (if x0 = 42 then (some 11) else (if x0 = 43 then (some 9) else (if x0 = 44 then (some (-1)) else (if x0 = 45 then (some 10) else (if x0 = 46 then (some (-1)) else (if x0 = 47 then (some 12) else (some (-1)))))))))))))
set_option maxRecDepth 10000 in
set_option maxHeartbeats 4000000 in
theorem RX8_arithmeticOf {d N nc Ls : Nat} {Xs : Nat → Int32} (hd : 1 ≤ d) {h : iv_H} {s : iv_M} (hR : Rep nc Ls Xs h s) {m0 : Int32} {x0 : Int} (p0 : m0.toInt = x0) {r : Int} {Q : Option Value → iv_H → Prop} (e : FX8_arithmeticOf N s x0 = some r) (hq : ∀ (z : Int32), z.toInt = r → Q (some (.int z)) h) : Cl d 109 [.int m0] h Q := by
  obtain ⟨d, rfl⟩ : ∃ k, d = k + 1 := ⟨d - 1, by omega⟩
  have hd : 0 ≤ d := by omega
  have hT := hX8_arithmeticOf
  unfold FX8_arithmeticOf at e
  refine Cl.into (by decide) gX8_arithmeticOf rfl ?_
  show Rn d 109 (some .int) 0 [some (.int m0)] [] h Q
  refine Rn.n hT 1 (pc' := 1) (L' := [some (.int m0)]) (st' := [.int m0]) rfl ?_
  by_cases c_1220 : x0 = 37
  · rw [if_pos c_1220] at e
    refine Rn.sw2 hT rfl rfl rfl (if_pos ((ti_e p0 L32_37).mpr c_1220)) ?_
    refine Rn.n hT 1 (pc' := 74) (L' := [some (.int m0)]) (st' := [.int (13 : Int32)]) rfl ?_
    obtain rfl := Option.some.inj e
    exact Rn.ret hT rfl rfl rfl (hq (13 : Int32) L32_13)
  · rw [if_neg c_1220] at e
    by_cases c_1221 : x0 = 38
    · rw [if_pos c_1221] at e
      refine Rn.sw2 hT rfl rfl rfl ((if_neg (fun z => c_1220 ((ti_e p0 L32_37).mp z))).trans (if_pos ((ti_e p0 L32_38).mpr c_1221))) ?_
      refine Rn.n hT 1 (pc' := 76) (L' := [some (.int m0)]) (st' := [.int (-1 : Int32)]) rfl ?_
      obtain rfl := Option.some.inj e
      exact Rn.ret hT rfl rfl rfl (hq (-1 : Int32) L32_m1)
    · rw [if_neg c_1221] at e
      by_cases c_1222 : x0 = 39
      · rw [if_pos c_1222] at e
        refine Rn.sw2 hT rfl rfl rfl ((if_neg (fun z => c_1220 ((ti_e p0 L32_37).mp z))).trans ((if_neg (fun z => c_1221 ((ti_e p0 L32_38).mp z))).trans (if_pos ((ti_e p0 L32_39).mpr c_1222)))) ?_
        refine Rn.n hT 1 (pc' := 76) (L' := [some (.int m0)]) (st' := [.int (-1 : Int32)]) rfl ?_
        obtain rfl := Option.some.inj e
        exact Rn.ret hT rfl rfl rfl (hq (-1 : Int32) L32_m1)
      · rw [if_neg c_1222] at e
        by_cases c_1223 : x0 = 40
        · rw [if_pos c_1223] at e
          refine Rn.sw2 hT rfl rfl rfl ((if_neg (fun z => c_1220 ((ti_e p0 L32_37).mp z))).trans ((if_neg (fun z => c_1221 ((ti_e p0 L32_38).mp z))).trans ((if_neg (fun z => c_1222 ((ti_e p0 L32_39).mp z))).trans (if_pos ((ti_e p0 L32_40).mpr c_1223))))) ?_
          refine Rn.n hT 1 (pc' := 76) (L' := [some (.int m0)]) (st' := [.int (-1 : Int32)]) rfl ?_
          obtain rfl := Option.some.inj e
          exact Rn.ret hT rfl rfl rfl (hq (-1 : Int32) L32_m1)
        · rw [if_neg c_1223] at e
          by_cases c_1224 : x0 = 41
          · rw [if_pos c_1224] at e
            refine Rn.sw2 hT rfl rfl rfl ((if_neg (fun z => c_1220 ((ti_e p0 L32_37).mp z))).trans ((if_neg (fun z => c_1221 ((ti_e p0 L32_38).mp z))).trans ((if_neg (fun z => c_1222 ((ti_e p0 L32_39).mp z))).trans ((if_neg (fun z => c_1223 ((ti_e p0 L32_40).mp z))).trans (if_pos ((ti_e p0 L32_41).mpr c_1224)))))) ?_
            refine Rn.n hT 1 (pc' := 76) (L' := [some (.int m0)]) (st' := [.int (-1 : Int32)]) rfl ?_
            obtain rfl := Option.some.inj e
            exact Rn.ret hT rfl rfl rfl (hq (-1 : Int32) L32_m1)
          · rw [if_neg c_1224] at e
            by_cases c_1225 : x0 = 42
            · rw [if_pos c_1225] at e
              refine Rn.sw2 hT rfl rfl rfl ((if_neg (fun z => c_1220 ((ti_e p0 L32_37).mp z))).trans ((if_neg (fun z => c_1221 ((ti_e p0 L32_38).mp z))).trans ((if_neg (fun z => c_1222 ((ti_e p0 L32_39).mp z))).trans ((if_neg (fun z => c_1223 ((ti_e p0 L32_40).mp z))).trans ((if_neg (fun z => c_1224 ((ti_e p0 L32_41).mp z))).trans (if_pos ((ti_e p0 L32_42).mpr c_1225))))))) ?_
              refine Rn.n hT 1 (pc' := 68) (L' := [some (.int m0)]) (st' := [.int (11 : Int32)]) rfl ?_
              obtain rfl := Option.some.inj e
              exact Rn.ret hT rfl rfl rfl (hq (11 : Int32) L32_11)
            · rw [if_neg c_1225] at e
              by_cases c_1226 : x0 = 43
              · rw [if_pos c_1226] at e
                refine Rn.sw2 hT rfl rfl rfl ((if_neg (fun z => c_1220 ((ti_e p0 L32_37).mp z))).trans ((if_neg (fun z => c_1221 ((ti_e p0 L32_38).mp z))).trans ((if_neg (fun z => c_1222 ((ti_e p0 L32_39).mp z))).trans ((if_neg (fun z => c_1223 ((ti_e p0 L32_40).mp z))).trans ((if_neg (fun z => c_1224 ((ti_e p0 L32_41).mp z))).trans ((if_neg (fun z => c_1225 ((ti_e p0 L32_42).mp z))).trans (if_pos ((ti_e p0 L32_43).mpr c_1226)))))))) ?_
                refine Rn.n hT 1 (pc' := 62) (L' := [some (.int m0)]) (st' := [.int (9 : Int32)]) rfl ?_
                obtain rfl := Option.some.inj e
                exact Rn.ret hT rfl rfl rfl (hq (9 : Int32) L32_9)
              · rw [if_neg c_1226] at e
                by_cases c_1227 : x0 = 44
                · rw [if_pos c_1227] at e
                  refine Rn.sw2 hT rfl rfl rfl ((if_neg (fun z => c_1220 ((ti_e p0 L32_37).mp z))).trans ((if_neg (fun z => c_1221 ((ti_e p0 L32_38).mp z))).trans ((if_neg (fun z => c_1222 ((ti_e p0 L32_39).mp z))).trans ((if_neg (fun z => c_1223 ((ti_e p0 L32_40).mp z))).trans ((if_neg (fun z => c_1224 ((ti_e p0 L32_41).mp z))).trans ((if_neg (fun z => c_1225 ((ti_e p0 L32_42).mp z))).trans ((if_neg (fun z => c_1226 ((ti_e p0 L32_43).mp z))).trans (if_pos ((ti_e p0 L32_44).mpr c_1227))))))))) ?_
                  refine Rn.n hT 1 (pc' := 76) (L' := [some (.int m0)]) (st' := [.int (-1 : Int32)]) rfl ?_
                  obtain rfl := Option.some.inj e
                  exact Rn.ret hT rfl rfl rfl (hq (-1 : Int32) L32_m1)
                · rw [if_neg c_1227] at e
                  by_cases c_1228 : x0 = 45
                  · rw [if_pos c_1228] at e
                    refine Rn.sw2 hT rfl rfl rfl ((if_neg (fun z => c_1220 ((ti_e p0 L32_37).mp z))).trans ((if_neg (fun z => c_1221 ((ti_e p0 L32_38).mp z))).trans ((if_neg (fun z => c_1222 ((ti_e p0 L32_39).mp z))).trans ((if_neg (fun z => c_1223 ((ti_e p0 L32_40).mp z))).trans ((if_neg (fun z => c_1224 ((ti_e p0 L32_41).mp z))).trans ((if_neg (fun z => c_1225 ((ti_e p0 L32_42).mp z))).trans ((if_neg (fun z => c_1226 ((ti_e p0 L32_43).mp z))).trans ((if_neg (fun z => c_1227 ((ti_e p0 L32_44).mp z))).trans (if_pos ((ti_e p0 L32_45).mpr c_1228)))))))))) ?_
                    refine Rn.n hT 1 (pc' := 65) (L' := [some (.int m0)]) (st' := [.int (10 : Int32)]) rfl ?_
                    obtain rfl := Option.some.inj e
                    exact Rn.ret hT rfl rfl rfl (hq (10 : Int32) L32_10)
                  · rw [if_neg c_1228] at e
                    by_cases c_1229 : x0 = 46
                    · rw [if_pos c_1229] at e
                      refine Rn.sw2 hT rfl rfl rfl ((if_neg (fun z => c_1220 ((ti_e p0 L32_37).mp z))).trans ((if_neg (fun z => c_1221 ((ti_e p0 L32_38).mp z))).trans ((if_neg (fun z => c_1222 ((ti_e p0 L32_39).mp z))).trans ((if_neg (fun z => c_1223 ((ti_e p0 L32_40).mp z))).trans ((if_neg (fun z => c_1224 ((ti_e p0 L32_41).mp z))).trans ((if_neg (fun z => c_1225 ((ti_e p0 L32_42).mp z))).trans ((if_neg (fun z => c_1226 ((ti_e p0 L32_43).mp z))).trans ((if_neg (fun z => c_1227 ((ti_e p0 L32_44).mp z))).trans ((if_neg (fun z => c_1228 ((ti_e p0 L32_45).mp z))).trans (if_pos ((ti_e p0 L32_46).mpr c_1229))))))))))) ?_
                      refine Rn.n hT 1 (pc' := 76) (L' := [some (.int m0)]) (st' := [.int (-1 : Int32)]) rfl ?_
                      obtain rfl := Option.some.inj e
                      exact Rn.ret hT rfl rfl rfl (hq (-1 : Int32) L32_m1)
                    · rw [if_neg c_1229] at e
                      by_cases c_1230 : x0 = 47
                      · rw [if_pos c_1230] at e
                        refine Rn.sw2 hT rfl rfl rfl ((if_neg (fun z => c_1220 ((ti_e p0 L32_37).mp z))).trans ((if_neg (fun z => c_1221 ((ti_e p0 L32_38).mp z))).trans ((if_neg (fun z => c_1222 ((ti_e p0 L32_39).mp z))).trans ((if_neg (fun z => c_1223 ((ti_e p0 L32_40).mp z))).trans ((if_neg (fun z => c_1224 ((ti_e p0 L32_41).mp z))).trans ((if_neg (fun z => c_1225 ((ti_e p0 L32_42).mp z))).trans ((if_neg (fun z => c_1226 ((ti_e p0 L32_43).mp z))).trans ((if_neg (fun z => c_1227 ((ti_e p0 L32_44).mp z))).trans ((if_neg (fun z => c_1228 ((ti_e p0 L32_45).mp z))).trans ((if_neg (fun z => c_1229 ((ti_e p0 L32_46).mp z))).trans (if_pos ((ti_e p0 L32_47).mpr c_1230)))))))))))) ?_
                        refine Rn.n hT 1 (pc' := 71) (L' := [some (.int m0)]) (st' := [.int (12 : Int32)]) rfl ?_
                        obtain rfl := Option.some.inj e
                        exact Rn.ret hT rfl rfl rfl (hq (12 : Int32) L32_12)
                      · rw [if_neg c_1230] at e
                        refine Rn.sw2 hT rfl rfl rfl ((if_neg (fun z => c_1220 ((ti_e p0 L32_37).mp z))).trans ((if_neg (fun z => c_1221 ((ti_e p0 L32_38).mp z))).trans ((if_neg (fun z => c_1222 ((ti_e p0 L32_39).mp z))).trans ((if_neg (fun z => c_1223 ((ti_e p0 L32_40).mp z))).trans ((if_neg (fun z => c_1224 ((ti_e p0 L32_41).mp z))).trans ((if_neg (fun z => c_1225 ((ti_e p0 L32_42).mp z))).trans ((if_neg (fun z => c_1226 ((ti_e p0 L32_43).mp z))).trans ((if_neg (fun z => c_1227 ((ti_e p0 L32_44).mp z))).trans ((if_neg (fun z => c_1228 ((ti_e p0 L32_45).mp z))).trans ((if_neg (fun z => c_1229 ((ti_e p0 L32_46).mp z))).trans ((if_neg (fun z => c_1230 ((ti_e p0 L32_47).mp z))).trans rfl))))))))))) ?_
                        refine Rn.n hT 1 (pc' := 76) (L' := [some (.int m0)]) (st' := [.int (-1 : Int32)]) rfl ?_
                        obtain rfl := Option.some.inj e
                        exact Rn.ret hT rfl rfl rfl (hq (-1 : Int32) L32_m1)
set_option maxRecDepth 10000 in
theorem hX8_release : iv_Tb 113 tX8_release := iv_tb_of (m := mX8_release) rfl
set_option maxRecDepth 10000 in
theorem gX8_release : PG.2 113 = some mX8_release := iv_pi_of (t := tX8_release) rfl (by decide)
def FX8_release_b59 (N : Nat) (s : iv_M) (q0 : Nat) (x1 : Int) (xs0 : Int) (xs1 : Int) (qs2 : Nat) (kb : iv_M → Option (iv_M)) (kx : iv_M → Option (iv_M)) : Option (iv_M) := ((pt s qs2 8 (w32 (xs1 - xs0))).bind fun s_1246 => ((rd s_1246 (q0 + 4) 64 (s_1246 q0 4)).bind fun v_1249 => ((FX8_emit N s_1246 q0 v_1249).bind fun s_1251 => (kb s_1251))))
set_option maxRecDepth 10000 in
set_option maxHeartbeats 4000000 in
theorem RX8_release_b59 {d N nc Ls : Nat} {Xs : Nat → Int32} (hd : 1 ≤ d) {h : iv_H} {s : iv_M} (hR : Rep nc Ls Xs h s) {q0 : Nat} (t0 : T8 nc q0) {m1 : Int32} {x1 : Int} (p1 : m1.toInt = x1) {ms0 : Int32} {xs0 : Int} (ps0 : ms0.toInt = xs0) {ms1 : Int32} {xs1 : Int} (ps1 : ms1.toInt = xs1) {qs2 : Nat} (ts2 : T8 nc qs2) {kb : iv_M → Option (iv_M)} {kx : iv_M → Option (iv_M)} {r : iv_M} {Q : Option Value → iv_H → Prop} (hb : ∀ (h : iv_H) (s : iv_M) (hR : Rep nc Ls Xs h s), kb s = some r → Rn d 113 none 0 [some (.ref q0), some (.int m1)] [] h Q) (hk : ∀ (h : iv_H) (s : iv_M) (hR : Rep nc Ls Xs h s), kx s = some r → Rn d 113 none 79 [none, none] [] h Q) (hq : ∀ h1, Rep nc Ls Xs h1 r → Q none h1) (e : FX8_release_b59 N s q0 x1 xs0 xs1 qs2 kb kx = some r) : Rn d 113 none 59 [some (.ref q0), some (.int m1)] [.int ms0, .int ms1, .ref qs2] h Q := by
  have hT := hX8_release
  unfold FX8_release_b59 at e
  refine Rn.n hT 1 (pc' := 60) (L' := [some (.ref q0), some (.int m1)]) (st' := [.int (ms1 - ms0), .ref qs2]) rfl ?_
  obtain ⟨s_1246, e_1247, e⟩ := Option.bind_eq_some_iff.mp e
  obtain ⟨h_1246, g_1247, R_1246⟩ := rp_pI (ci := 8) (k := 8) hR (T8_o ts2) rfl rfl (ti_sub ps1 ps0) e_1247
  refine Rn.hp hT rfl rfl (pV_hp rfl g_1247) ?_
  refine Rn.n hT 2 (pc' := 65) (L' := [some (.ref q0), some (.int m1)]) (st' := [.ref q0, .ref q0]) rfl ?_
  refine Rn.hp hT rfl rfl (gR_hp (rp_gR R_1246 (T8_o t0) rfl)) ?_
  refine Rn.n hT 1 (pc' := 69) (L' := [some (.ref q0), some (.int m1)]) (st' := [.ref q0, .ref (q0 + 4), .ref q0]) rfl ?_
  obtain ⟨z_1248, g_1248, p_1248⟩ : ∃ z : Int32, gI h_1246 8 4 q0 = some z ∧ z.toInt = s_1246 q0 4 := rp_gI (k := 4) R_1246 (T8_o t0) rfl
  refine Rn.hp hT rfl rfl (gI_hp g_1248) ?_
  obtain ⟨v_1249, e_1249, e⟩ := Option.bind_eq_some_iff.mp e
  obtain ⟨z_1249, g_1249, p_1249⟩ := rp_aI R_1246 (T8_3 t0) (T8_3l t0) p_1248 e_1249
  refine Rn.hp hT rfl rfl (aI_hp g_1249) ?_
  obtain ⟨s_1251, e_1250, e⟩ := Option.bind_eq_some_iff.mp e
  refine Rn.call hT rfl rfl rfl (Nat.le_of_ble_eq_true rfl) (rcv_v gX8_emit (by omega) (rp_ck R_1246 (T8_o t0))) (RX8_emit (by omega) R_1246 t0 p_1249 e_1250 (fun h_1251 R_1251 => ?_))
  show Rn d _ _ 76 [some (.ref q0), some (.int m1)] [] h_1251 Q
  refine Rn.n hT 1 (pc' := 0) (L' := [some (.ref q0), some (.int m1)]) (st' := []) rfl ?_
  exact Rn.weak (ll_s (ll_s ll_e)) (hb h_1251 s_1251 R_1251 e)
def FX8_release_l0 (N : Nat) (q0 : Nat) (x1 : Int) (kx : iv_M → Option (iv_M)) : Nat → iv_M → Option (iv_M)
  | 0, _ => none
  | n + 1, s => (if (s q0 4) ≤ 0 then (kx s) else ((rd s (q0 + 4) 64 (w32 ((s q0 4) - 1))).bind fun v_1236 => ((rk v_1236).bind fun v_1237 => (if v_1237 < x1 then (kx s) else ((pt s q0 4 (w32 ((s q0 4) - 1))).bind fun s_1240 => ((rd s_1240 (q0 + 4) 64 (s_1240 q0 4)).bind fun v_1244 => (if v_1244 = 3 then (FX8_release_b59 N s_1240 q0 x1 1 (s_1240 q0 8) q0 (FX8_release_l0 N q0 x1 kx n) kx) else (FX8_release_b59 N s_1240 q0 x1 0 (s_1240 q0 8) q0 (FX8_release_l0 N q0 x1 kx n) kx))))))))
set_option maxRecDepth 10000 in
set_option maxHeartbeats 4000000 in
theorem RX8_release_l0 {d N nc Ls : Nat} {Xs : Nat → Int32} (hd : 1 ≤ d) {q0 : Nat} (t0 : T8 nc q0) {m1 : Int32} {x1 : Int} (p1 : m1.toInt = x1) {kx : iv_M → Option (iv_M)} {r : iv_M} {Q : Option Value → iv_H → Prop} (hk : ∀ (h : iv_H) (s : iv_M) (hR : Rep nc Ls Xs h s), kx s = some r → Rn d 113 none 79 [none, none] [] h Q) (hq : ∀ h1, Rep nc Ls Xs h1 r → Q none h1) : ∀ (n : Nat) (h : iv_H) (s : iv_M) (hR : Rep nc Ls Xs h s), FX8_release_l0 N q0 x1 kx n s = some r → Rn d 113 none 0 [some (.ref q0), some (.int m1)] [] h Q := by
  have hT := hX8_release
  intro n
  induction n with
  | zero =>
    intro h s hR e
    rw [FX8_release_l0] at e
    cases e
  | succ n ih =>
    intro h s hR e
    rw [FX8_release_l0] at e
    refine Rn.n hT 1 (pc' := 1) (L' := [some (.ref q0), some (.int m1)]) (st' := [.ref q0]) rfl ?_
    obtain ⟨z_1233, g_1233, p_1233⟩ : ∃ z : Int32, gI h 8 4 q0 = some z ∧ z.toInt = s q0 4 := rp_gI (k := 4) hR (T8_o t0) rfl
    refine Rn.hp hT rfl rfl (gI_hp g_1233) ?_
    by_cases c_1234 : (s q0 4) ≤ 0
    · rw [if_pos c_1234] at e
      refine Rn.bt hT rfl rfl rfl (decide_eq_true ((ti_le p_1233 L32_0).mpr c_1234)) ?_
      exact Rn.weak (ll_n (ll_n ll_e)) (hk h s hR e)
    · rw [if_neg c_1234] at e
      refine Rn.bf hT rfl rfl rfl (decide_eq_false (fun z => c_1234 ((ti_le p_1233 L32_0).mp z))) ?_
      refine Rn.hp hT rfl rfl rfl ?_
      refine Rn.n hT 1 (pc' := 11) (L' := [some (.ref q0), some (.int m1)]) (st' := [.ref q0, .ref 1000001]) rfl ?_
      refine Rn.hp hT rfl rfl (gR_hp (rp_gR hR (T8_o t0) rfl)) ?_
      refine Rn.n hT 1 (pc' := 15) (L' := [some (.ref q0), some (.int m1)]) (st' := [.ref q0, .ref (q0 + 4), .ref 1000001]) rfl ?_
      obtain ⟨z_1235, g_1235, p_1235⟩ : ∃ z : Int32, gI h 8 4 q0 = some z ∧ z.toInt = s q0 4 := rp_gI (k := 4) hR (T8_o t0) rfl
      refine Rn.hp hT rfl rfl (gI_hp g_1235) ?_
      refine Rn.n hT 2 (pc' := 20) (L' := [some (.ref q0), some (.int m1)]) (st' := [.int (z_1235 - (1 : Int32)), .ref (q0 + 4), .ref 1000001]) rfl ?_
      obtain ⟨v_1236, e_1236, e⟩ := Option.bind_eq_some_iff.mp e
      obtain ⟨z_1236, g_1236, p_1236⟩ := rp_aI hR (T8_3 t0) (T8_3l t0) (ti_sub p_1235 L32_1) e_1236
      refine Rn.hp hT rfl rfl (aI_hp g_1236) ?_
      obtain ⟨v_1237, e_1237, e⟩ := Option.bind_eq_some_iff.mp e
      obtain ⟨z_1237, g_1237, p_1237⟩ := rp_rk hR p_1236 e_1237
      refine Rn.hp hT rfl rfl (aI_hp g_1237) ?_
      refine Rn.n hT 1 (pc' := 23) (L' := [some (.ref q0), some (.int m1)]) (st' := [.int m1, .int z_1237]) rfl ?_
      by_cases c_1238 : v_1237 < x1
      · rw [if_pos c_1238] at e
        refine Rn.bt hT rfl rfl rfl (decide_eq_true ((ti_l p_1237 p1).mpr c_1238)) ?_
        exact Rn.weak (ll_n (ll_n ll_e)) (hk h s hR e)
      · rw [if_neg c_1238] at e
        refine Rn.bf hT rfl rfl rfl (decide_eq_false (fun z => c_1238 ((ti_l p_1237 p1).mp z))) ?_
        refine Rn.n hT 2 (pc' := 28) (L' := [some (.ref q0), some (.int m1)]) (st' := [.ref q0, .ref q0]) rfl ?_
        obtain ⟨z_1239, g_1239, p_1239⟩ : ∃ z : Int32, gI h 8 4 q0 = some z ∧ z.toInt = s q0 4 := rp_gI (k := 4) hR (T8_o t0) rfl
        refine Rn.hp hT rfl rfl (gI_hp g_1239) ?_
        refine Rn.n hT 2 (pc' := 33) (L' := [some (.ref q0), some (.int m1)]) (st' := [.int (z_1239 - (1 : Int32)), .ref q0]) rfl ?_
        obtain ⟨s_1240, e_1241, e⟩ := Option.bind_eq_some_iff.mp e
        obtain ⟨h_1240, g_1241, R_1240⟩ := rp_pI (ci := 8) (k := 4) hR (T8_o t0) rfl rfl (ti_sub p_1239 L32_1) e_1241
        refine Rn.hp hT rfl rfl (pV_hp rfl g_1241) ?_
        refine Rn.n hT 2 (pc' := 38) (L' := [some (.ref q0), some (.int m1)]) (st' := [.ref q0, .ref q0]) rfl ?_
        obtain ⟨z_1242, g_1242, p_1242⟩ : ∃ z : Int32, gI h_1240 8 8 q0 = some z ∧ z.toInt = s_1240 q0 8 := rp_gI (k := 8) R_1240 (T8_o t0) rfl
        refine Rn.hp hT rfl rfl (gI_hp g_1242) ?_
        refine Rn.n hT 1 (pc' := 42) (L' := [some (.ref q0), some (.int m1)]) (st' := [.ref q0, .int z_1242, .ref q0]) rfl ?_
        refine Rn.hp hT rfl rfl (gR_hp (rp_gR R_1240 (T8_o t0) rfl)) ?_
        refine Rn.n hT 1 (pc' := 46) (L' := [some (.ref q0), some (.int m1)]) (st' := [.ref q0, .ref (q0 + 4), .int z_1242, .ref q0]) rfl ?_
        obtain ⟨z_1243, g_1243, p_1243⟩ : ∃ z : Int32, gI h_1240 8 4 q0 = some z ∧ z.toInt = s_1240 q0 4 := rp_gI (k := 4) R_1240 (T8_o t0) rfl
        refine Rn.hp hT rfl rfl (gI_hp g_1243) ?_
        obtain ⟨v_1244, e_1244, e⟩ := Option.bind_eq_some_iff.mp e
        obtain ⟨z_1244, g_1244, p_1244⟩ := rp_aI R_1240 (T8_3 t0) (T8_3l t0) p_1243 e_1244
        refine Rn.hp hT rfl rfl (aI_hp g_1244) ?_
        refine Rn.n hT 1 (pc' := 51) (L' := [some (.ref q0), some (.int m1)]) (st' := [.int (3 : Int32), .int z_1244, .int z_1242, .ref q0]) rfl ?_
        by_cases c_1245 : v_1244 = 3
        · rw [if_pos c_1245] at e
          refine Rn.bf hT rfl rfl rfl (decide_eq_false (fun z => z ((ti_e p_1244 L32_3).mpr c_1245))) ?_
          refine Rn.n hT 2 (pc' := 59) (L' := [some (.ref q0), some (.int m1)]) (st' := [.int (1 : Int32), .int z_1242, .ref q0]) rfl ?_
          exact Rn.weak (ll_s (ll_s ll_e)) (RX8_release_b59 hd R_1240 t0 p1 L32_1 p_1242 t0 ih hk hq e)
        · rw [if_neg c_1245] at e
          refine Rn.bt hT rfl rfl rfl (decide_eq_true (fun z => c_1245 ((ti_e p_1244 L32_3).mp z))) ?_
          refine Rn.n hT 1 (pc' := 59) (L' := [some (.ref q0), some (.int m1)]) (st' := [.int (0 : Int32), .int z_1242, .ref q0]) rfl ?_
          exact Rn.weak (ll_s (ll_s ll_e)) (RX8_release_b59 hd R_1240 t0 p1 L32_0 p_1242 t0 ih hk hq e)
def FX8_release_b79 (N : Nat) (s : iv_M)   : Option (iv_M) := some s
set_option maxRecDepth 10000 in
set_option maxHeartbeats 4000000 in
theorem RX8_release_b79 {d N nc Ls : Nat} {Xs : Nat → Int32} (hd : 1 ≤ d) {h : iv_H} {s : iv_M} (hR : Rep nc Ls Xs h s)   {r : iv_M} {Q : Option Value → iv_H → Prop} (hq : ∀ h1, Rep nc Ls Xs h1 r → Q none h1) (e : FX8_release_b79 N s   = some r) : Rn d 113 none 79 [none, none] [] h Q := by
  have hT := hX8_release
  unfold FX8_release_b79 at e
  obtain rfl := Option.some.inj e
  exact Rn.ret hT rfl rfl rfl (hq h hR)
def FX8_release (N : Nat) (s : iv_M) (q0 : Nat) (x1 : Int) : Option (iv_M) := (FX8_release_l0 N q0 x1 (fun (s_1231 : iv_M) => (FX8_release_b79 N s_1231)) N s)
set_option maxRecDepth 10000 in
set_option maxHeartbeats 4000000 in
theorem RX8_release {d N nc Ls : Nat} {Xs : Nat → Int32} (hd : 2 ≤ d) {h : iv_H} {s : iv_M} (hR : Rep nc Ls Xs h s) {q0 : Nat} (t0 : T8 nc q0) {m1 : Int32} {x1 : Int} (p1 : m1.toInt = x1) {r : iv_M} {Q : Option Value → iv_H → Prop} (e : FX8_release N s q0 x1 = some r) (hq : ∀ h1, Rep nc Ls Xs h1 r → Q none h1) : Cl d 113 [.ref q0, .int m1] h Q := by
  obtain ⟨d, rfl⟩ : ∃ k, d = k + 1 := ⟨d - 1, by omega⟩
  have hd : 1 ≤ d := by omega
  have hT := hX8_release
  unfold FX8_release at e
  refine Cl.into (by decide) gX8_release rfl ?_
  show Rn d 113 none 0 [some (.ref q0), some (.int m1)] [] h Q
  refine Rn.weak (ll_s (ll_s ll_e)) (RX8_release_l0 hd t0 p1 (fun h_1231 s_1231 R_1231 e => ?_) hq N h s hR e)
  try dsimp only at e
  exact Rn.weak (ll_n (ll_n ll_e)) (RX8_release_b79 hd R_1231 hq e)
set_option maxRecDepth 10000 in
theorem hX8_join : iv_Tb 112 tX8_join := iv_tb_of (m := mX8_join) rfl
set_option maxRecDepth 10000 in
theorem gX8_join : PG.2 112 = some mX8_join := iv_pi_of (t := tX8_join) rfl (by decide)
def FX8_join (N : Nat) (s : iv_M) (q0 : Nat) (x1 : Int) : Option (iv_M) := ((rk x1).bind fun v_1252 => ((FX8_release N s q0 v_1252).bind fun s_1254 => ((FX8_hold N s_1254 q0 x1).bind fun s_1256 => some s_1256)))
set_option maxRecDepth 10000 in
set_option maxHeartbeats 4000000 in
theorem RX8_join {d N nc Ls : Nat} {Xs : Nat → Int32} (hd : 3 ≤ d) {h : iv_H} {s : iv_M} (hR : Rep nc Ls Xs h s) {q0 : Nat} (t0 : T8 nc q0) {m1 : Int32} {x1 : Int} (p1 : m1.toInt = x1) {r : iv_M} {Q : Option Value → iv_H → Prop} (e : FX8_join N s q0 x1 = some r) (hq : ∀ h1, Rep nc Ls Xs h1 r → Q none h1) : Cl d 112 [.ref q0, .int m1] h Q := by
  obtain ⟨d, rfl⟩ : ∃ k, d = k + 1 := ⟨d - 1, by omega⟩
  have hd : 2 ≤ d := by omega
  have hT := hX8_join
  unfold FX8_join at e
  refine Cl.into (by decide) gX8_join rfl ?_
  show Rn d 112 none 0 [some (.ref q0), some (.int m1)] [] h Q
  refine Rn.n hT 1 (pc' := 1) (L' := [some (.ref q0), some (.int m1)]) (st' := [.ref q0]) rfl ?_
  refine Rn.hp hT rfl rfl rfl ?_
  refine Rn.n hT 1 (pc' := 5) (L' := [some (.ref q0), some (.int m1)]) (st' := [.int m1, .ref 1000001, .ref q0]) rfl ?_
  obtain ⟨v_1252, e_1252, e⟩ := Option.bind_eq_some_iff.mp e
  obtain ⟨z_1252, g_1252, p_1252⟩ := rp_rk hR p1 e_1252
  refine Rn.hp hT rfl rfl (aI_hp g_1252) ?_
  obtain ⟨s_1254, e_1253, e⟩ := Option.bind_eq_some_iff.mp e
  refine Rn.call hT rfl rfl rfl (Nat.le_of_ble_eq_true rfl) (rcv_v gX8_release (by omega) (rp_ck hR (T8_o t0))) (RX8_release (by omega) hR t0 p_1252 e_1253 (fun h_1254 R_1254 => ?_))
  show Rn d _ _ 9 [some (.ref q0), some (.int m1)] [] h_1254 Q
  refine Rn.n hT 2 (pc' := 11) (L' := [some (.ref q0), some (.int m1)]) (st' := [.int m1, .ref q0]) rfl ?_
  obtain ⟨s_1256, e_1255, e⟩ := Option.bind_eq_some_iff.mp e
  refine Rn.call hT rfl rfl rfl (Nat.le_of_ble_eq_true rfl) (rcv_v gX8_hold (by omega) (rp_ck R_1254 (T8_o t0))) (RX8_hold (by omega) R_1254 t0 p1 e_1255 (fun h_1256 R_1256 => ?_))
  show Rn d _ _ 14 [some (.ref q0), some (.int m1)] [] h_1256 Q
  obtain rfl := Option.some.inj e
  exact Rn.ret hT rfl rfl rfl (hq h_1256 R_1256)
set_option maxRecDepth 10000 in
theorem hX8_readComparison : iv_Tb 110 tX8_readComparison := iv_tb_of (m := mX8_readComparison) rfl
set_option maxRecDepth 10000 in
theorem gX8_readComparison : PG.2 110 = some mX8_readComparison := iv_pi_of (t := tX8_readComparison) rfl (by decide)
def FX8_readComparison_b147 (N : Nat) (s : iv_M) (q0 : Nat)  : Option (iv_M) := ((pt s q0 6 1).bind fun s_1283 => ((pt s_1283 q0 5 2).bind fun s_1285 => some s_1285))
set_option maxRecDepth 10000 in
set_option maxHeartbeats 4000000 in
theorem RX8_readComparison_b147 {d N nc Ls : Nat} {Xs : Nat → Int32} (hd : 3 ≤ d) {h : iv_H} {s : iv_M} (hR : Rep nc Ls Xs h s) {q0 : Nat} (t0 : T8 nc q0)  {r : iv_M} {Q : Option Value → iv_H → Prop} (hq : ∀ h1, Rep nc Ls Xs h1 r → Q none h1) (e : FX8_readComparison_b147 N s q0  = some r) : Rn d 110 none 147 [some (.ref q0), none, none, none] [] h Q := by
  have hT := hX8_readComparison
  unfold FX8_readComparison_b147 at e
  refine Rn.n hT 2 (pc' := 149) (L' := [some (.ref q0), none, none, none]) (st' := [.int (1 : Int32), .ref q0]) rfl ?_
  obtain ⟨s_1283, e_1284, e⟩ := Option.bind_eq_some_iff.mp e
  obtain ⟨h_1283, g_1284, R_1283⟩ := rp_pI (ci := 8) (k := 6) hR (T8_o t0) rfl rfl L32_1 e_1284
  refine Rn.hp hT rfl rfl (pV_hp (by decide) g_1284) ?_
  refine Rn.n hT 2 (pc' := 154) (L' := [some (.ref q0), none, none, none]) (st' := [.int (2 : Int32), .ref q0]) rfl ?_
  obtain ⟨s_1285, e_1286, e⟩ := Option.bind_eq_some_iff.mp e
  obtain ⟨h_1285, g_1286, R_1285⟩ := rp_pI (ci := 8) (k := 5) R_1283 (T8_o t0) rfl rfl L32_2 e_1286
  refine Rn.hp hT rfl rfl (pV_hp rfl g_1286) ?_
  obtain rfl := Option.some.inj e
  exact Rn.ret hT rfl rfl rfl (hq h_1285 R_1285)
def FX8_readComparison_b111 (N : Nat) (s : iv_M) (q0 : Nat) (xs0 : Int) (qs1 : Nat) : Option (iv_M) := ((FX8_join N s qs1 xs0).bind fun s_1282 => (FX8_readComparison_b147 N s_1282 q0))
set_option maxRecDepth 10000 in
set_option maxHeartbeats 4000000 in
theorem RX8_readComparison_b111 {d N nc Ls : Nat} {Xs : Nat → Int32} (hd : 3 ≤ d) {h : iv_H} {s : iv_M} (hR : Rep nc Ls Xs h s) {q0 : Nat} (t0 : T8 nc q0) {ms0 : Int32} {xs0 : Int} (ps0 : ms0.toInt = xs0) {qs1 : Nat} (ts1 : T8 nc qs1) {r : iv_M} {Q : Option Value → iv_H → Prop} (hq : ∀ h1, Rep nc Ls Xs h1 r → Q none h1) (e : FX8_readComparison_b111 N s q0 xs0 qs1 = some r) : Rn d 110 none 111 [some (.ref q0), none, none, none] [.int ms0, .ref qs1] h Q := by
  have hT := hX8_readComparison
  unfold FX8_readComparison_b111 at e
  obtain ⟨s_1282, e_1281, e⟩ := Option.bind_eq_some_iff.mp e
  refine Rn.call hT rfl rfl rfl (Nat.le_of_ble_eq_true rfl) (rcv_v gX8_join (by omega) (rp_ck hR (T8_o ts1))) (RX8_join (by omega) hR ts1 ps0 e_1281 (fun h_1282 R_1282 => ?_))
  show Rn d _ _ 114 [some (.ref q0), none, none, none] [] h_1282 Q
  refine Rn.n hT 1 (pc' := 147) (L' := [some (.ref q0), none, none, none]) (st' := []) rfl ?_
  exact Rn.weak (ll_s (ll_n (ll_n (ll_n ll_e)))) (RX8_readComparison_b147 hd R_1282 t0 hq e)
def FX8_readComparison_b135 (N : Nat) (s : iv_M) (q0 : Nat) (xs0 : Int) (qs1 : Nat) : Option (iv_M) := ((FX8_join N s qs1 xs0).bind fun s_1288 => (FX8_readComparison_b147 N s_1288 q0))
set_option maxRecDepth 10000 in
set_option maxHeartbeats 4000000 in
theorem RX8_readComparison_b135 {d N nc Ls : Nat} {Xs : Nat → Int32} (hd : 3 ≤ d) {h : iv_H} {s : iv_M} (hR : Rep nc Ls Xs h s) {q0 : Nat} (t0 : T8 nc q0) {ms0 : Int32} {xs0 : Int} (ps0 : ms0.toInt = xs0) {qs1 : Nat} (ts1 : T8 nc qs1) {r : iv_M} {Q : Option Value → iv_H → Prop} (hq : ∀ h1, Rep nc Ls Xs h1 r → Q none h1) (e : FX8_readComparison_b135 N s q0 xs0 qs1 = some r) : Rn d 110 none 135 [some (.ref q0), none, none, none] [.int ms0, .ref qs1] h Q := by
  have hT := hX8_readComparison
  unfold FX8_readComparison_b135 at e
  obtain ⟨s_1288, e_1287, e⟩ := Option.bind_eq_some_iff.mp e
  refine Rn.call hT rfl rfl rfl (Nat.le_of_ble_eq_true rfl) (rcv_v gX8_join (by omega) (rp_ck hR (T8_o ts1))) (RX8_join (by omega) hR ts1 ps0 e_1287 (fun h_1288 R_1288 => ?_))
  show Rn d _ _ 138 [some (.ref q0), none, none, none] [] h_1288 Q
  refine Rn.n hT 1 (pc' := 147) (L' := [some (.ref q0), none, none, none]) (st' := []) rfl ?_
  exact Rn.weak (ll_s (ll_n (ll_n (ll_n ll_e)))) (RX8_readComparison_b147 hd R_1288 t0 hq e)
def FX8_readComparison_b90 (N : Nat) (s : iv_M) (q0 : Nat) (x1 : Int) (x2 : Int) (x3 : Int)  : Option (iv_M) := ((FX8_countOne N s q0 x2).bind fun s_1274 => (if x1 = 60 then (if x3 = 0 then (FX8_readComparison_b111 N s_1274 q0 4 q0) else (FX8_readComparison_b111 N s_1274 q0 5 q0)) else (if x1 = 62 then (if x3 = 0 then (FX8_readComparison_b135 N s_1274 q0 8 q0) else (FX8_readComparison_b135 N s_1274 q0 7 q0)) else ((FX8_join N s_1274 q0 6).bind fun s_1278 => (FX8_readComparison_b147 N s_1278 q0)))))
set_option maxRecDepth 10000 in
set_option maxHeartbeats 4000000 in
theorem RX8_readComparison_b90 {d N nc Ls : Nat} {Xs : Nat → Int32} (hd : 3 ≤ d) {h : iv_H} {s : iv_M} (hR : Rep nc Ls Xs h s) {q0 : Nat} (t0 : T8 nc q0) {m1 : Int32} {x1 : Int} (p1 : m1.toInt = x1) {m2 : Int32} {x2 : Int} (p2 : m2.toInt = x2) {m3 : Int32} {x3 : Int} (p3 : m3.toInt = x3)  {r : iv_M} {Q : Option Value → iv_H → Prop} (hq : ∀ h1, Rep nc Ls Xs h1 r → Q none h1) (e : FX8_readComparison_b90 N s q0 x1 x2 x3  = some r) : Rn d 110 none 90 [some (.ref q0), some (.int m1), some (.int m2), some (.int m3)] [] h Q := by
  have hT := hX8_readComparison
  unfold FX8_readComparison_b90 at e
  refine Rn.n hT 2 (pc' := 92) (L' := [some (.ref q0), some (.int m1), some (.int m2), some (.int m3)]) (st' := [.int m2, .ref q0]) rfl ?_
  obtain ⟨s_1274, e_1273, e⟩ := Option.bind_eq_some_iff.mp e
  refine Rn.call hT rfl rfl rfl (Nat.le_of_ble_eq_true rfl) (rcv_v gX8_countOne (by omega) (rp_ck hR (T8_o t0))) (RX8_countOne (by omega) hR t0 p2 e_1273 (fun h_1274 R_1274 => ?_))
  show Rn d _ _ 95 [some (.ref q0), some (.int m1), some (.int m2), some (.int m3)] [] h_1274 Q
  refine Rn.n hT 2 (pc' := 98) (L' := [some (.ref q0), some (.int m1), some (.int m2), some (.int m3)]) (st' := [.int (60 : Int32), .int m1]) rfl ?_
  by_cases c_1275 : x1 = 60
  · rw [if_pos c_1275] at e
    refine Rn.bf hT rfl rfl rfl (decide_eq_false (fun z => z ((ti_e p1 L32_60).mpr c_1275))) ?_
    refine Rn.n hT 2 (pc' := 103) (L' := [some (.ref q0), some (.int m1), some (.int m2), some (.int m3)]) (st' := [.int m3, .ref q0]) rfl ?_
    by_cases c_1280 : x3 = 0
    · rw [if_pos c_1280] at e
      refine Rn.bt hT rfl rfl rfl (decide_eq_true ((ti_e p3 L32_0).mpr c_1280)) ?_
      refine Rn.n hT 1 (pc' := 111) (L' := [some (.ref q0), some (.int m1), some (.int m2), some (.int m3)]) (st' := [.int (4 : Int32), .ref q0]) rfl ?_
      exact Rn.weak (ll_s (ll_n (ll_n (ll_n ll_e)))) (RX8_readComparison_b111 hd R_1274 t0 L32_4 t0 hq e)
    · rw [if_neg c_1280] at e
      refine Rn.bf hT rfl rfl rfl (decide_eq_false (fun z => c_1280 ((ti_e p3 L32_0).mp z))) ?_
      refine Rn.n hT 2 (pc' := 111) (L' := [some (.ref q0), some (.int m1), some (.int m2), some (.int m3)]) (st' := [.int (5 : Int32), .ref q0]) rfl ?_
      exact Rn.weak (ll_s (ll_n (ll_n (ll_n ll_e)))) (RX8_readComparison_b111 hd R_1274 t0 L32_5 t0 hq e)
  · rw [if_neg c_1275] at e
    refine Rn.bt hT rfl rfl rfl (decide_eq_true (fun z => c_1275 ((ti_e p1 L32_60).mp z))) ?_
    refine Rn.n hT 2 (pc' := 120) (L' := [some (.ref q0), some (.int m1), some (.int m2), some (.int m3)]) (st' := [.int (62 : Int32), .int m1]) rfl ?_
    by_cases c_1276 : x1 = 62
    · rw [if_pos c_1276] at e
      refine Rn.bf hT rfl rfl rfl (decide_eq_false (fun z => z ((ti_e p1 L32_62).mpr c_1276))) ?_
      refine Rn.n hT 2 (pc' := 125) (L' := [some (.ref q0), some (.int m1), some (.int m2), some (.int m3)]) (st' := [.int m3, .ref q0]) rfl ?_
      by_cases c_1279 : x3 = 0
      · rw [if_pos c_1279] at e
        refine Rn.bt hT rfl rfl rfl (decide_eq_true ((ti_e p3 L32_0).mpr c_1279)) ?_
        refine Rn.n hT 1 (pc' := 135) (L' := [some (.ref q0), some (.int m1), some (.int m2), some (.int m3)]) (st' := [.int (8 : Int32), .ref q0]) rfl ?_
        exact Rn.weak (ll_s (ll_n (ll_n (ll_n ll_e)))) (RX8_readComparison_b135 hd R_1274 t0 L32_8 t0 hq e)
      · rw [if_neg c_1279] at e
        refine Rn.bf hT rfl rfl rfl (decide_eq_false (fun z => c_1279 ((ti_e p3 L32_0).mp z))) ?_
        refine Rn.n hT 2 (pc' := 135) (L' := [some (.ref q0), some (.int m1), some (.int m2), some (.int m3)]) (st' := [.int (7 : Int32), .ref q0]) rfl ?_
        exact Rn.weak (ll_s (ll_n (ll_n (ll_n ll_e)))) (RX8_readComparison_b135 hd R_1274 t0 L32_7 t0 hq e)
    · rw [if_neg c_1276] at e
      refine Rn.bt hT rfl rfl rfl (decide_eq_true (fun z => c_1276 ((ti_e p1 L32_62).mp z))) ?_
      refine Rn.n hT 2 (pc' := 144) (L' := [some (.ref q0), some (.int m1), some (.int m2), some (.int m3)]) (st' := [.int (6 : Int32), .ref q0]) rfl ?_
      obtain ⟨s_1278, e_1277, e⟩ := Option.bind_eq_some_iff.mp e
      refine Rn.call hT rfl rfl rfl (Nat.le_of_ble_eq_true rfl) (rcv_v gX8_join (by omega) (rp_ck R_1274 (T8_o t0))) (RX8_join (by omega) R_1274 t0 L32_6 e_1277 (fun h_1278 R_1278 => ?_))
      show Rn d _ _ 147 [some (.ref q0), some (.int m1), some (.int m2), some (.int m3)] [] h_1278 Q
      exact Rn.weak (ll_s (ll_n (ll_n (ll_n ll_e)))) (RX8_readComparison_b147 hd R_1278 t0 hq e)
def FX8_readComparison_b72 (N : Nat) (s : iv_M) (q0 : Nat) (x1 : Int) (x2 : Int) (xs0 : Int) : Option (iv_M) := (if xs0 = 0 then (FX8_readComparison_b90 N s q0 x1 x2 xs0) else ((pt s (q0 + 1) 2 (w32 ((s (q0 + 1) 2) + 1))).bind fun s_1271 => (FX8_readComparison_b90 N s_1271 q0 x1 x2 xs0)))
set_option maxRecDepth 10000 in
set_option maxHeartbeats 4000000 in
theorem RX8_readComparison_b72 {d N nc Ls : Nat} {Xs : Nat → Int32} (hd : 3 ≤ d) {h : iv_H} {s : iv_M} (hR : Rep nc Ls Xs h s) {q0 : Nat} (t0 : T8 nc q0) {m1 : Int32} {x1 : Int} (p1 : m1.toInt = x1) {m2 : Int32} {x2 : Int} (p2 : m2.toInt = x2) {ms0 : Int32} {xs0 : Int} (ps0 : ms0.toInt = xs0) {r : iv_M} {Q : Option Value → iv_H → Prop} (hq : ∀ h1, Rep nc Ls Xs h1 r → Q none h1) (e : FX8_readComparison_b72 N s q0 x1 x2 xs0 = some r) : Rn d 110 none 72 [some (.ref q0), some (.int m1), some (.int m2), none] [.int ms0] h Q := by
  have hT := hX8_readComparison
  unfold FX8_readComparison_b72 at e
  refine Rn.n hT 2 (pc' := 74) (L' := [some (.ref q0), some (.int m1), some (.int m2), some (.int ms0)]) (st' := [.int ms0]) rfl ?_
  by_cases c_1269 : xs0 = 0
  · rw [if_pos c_1269] at e
    refine Rn.bt hT rfl rfl rfl (decide_eq_true ((ti_e ps0 L32_0).mpr c_1269)) ?_
    exact Rn.weak (ll_s (ll_s (ll_s (ll_s ll_e)))) (RX8_readComparison_b90 hd hR t0 p1 p2 ps0 hq e)
  · rw [if_neg c_1269] at e
    refine Rn.bf hT rfl rfl rfl (decide_eq_false (fun z => c_1269 ((ti_e ps0 L32_0).mp z))) ?_
    refine Rn.n hT 1 (pc' := 78) (L' := [some (.ref q0), some (.int m1), some (.int m2), some (.int ms0)]) (st' := [.ref q0]) rfl ?_
    refine Rn.hp hT rfl rfl (gR_hp (rp_gR hR (T8_o t0) rfl)) ?_
    refine Rn.n hT 1 (pc' := 82) (L' := [some (.ref q0), some (.int m1), some (.int m2), some (.int ms0)]) (st' := [.ref (q0 + 1), .ref (q0 + 1)]) rfl ?_
    obtain ⟨z_1270, g_1270, p_1270⟩ : ∃ z : Int32, gI h 6 2 (q0 + 1) = some z ∧ z.toInt = s (q0 + 1) 2 := rp_gI (k := 2) hR (T6_o (T8_0 t0)) rfl
    refine Rn.hp hT rfl rfl (gI_hp g_1270) ?_
    refine Rn.n hT 2 (pc' := 87) (L' := [some (.ref q0), some (.int m1), some (.int m2), some (.int ms0)]) (st' := [.int (z_1270 + (1 : Int32)), .ref (q0 + 1)]) rfl ?_
    obtain ⟨s_1271, e_1272, e⟩ := Option.bind_eq_some_iff.mp e
    obtain ⟨h_1271, g_1272, R_1271⟩ := rp_pI (ci := 6) (k := 2) hR (T6_o (T8_0 t0)) rfl rfl (ti_add p_1270 L32_1) e_1272
    refine Rn.hp hT rfl rfl (pV_hp rfl g_1272) ?_
    exact Rn.weak (ll_s (ll_s (ll_s (ll_s ll_e)))) (RX8_readComparison_b90 hd R_1271 t0 p1 p2 ps0 hq e)
def FX8_readComparison_b71 (N : Nat) (s : iv_M) (q0 : Nat) (x1 : Int) (x2 : Int)  : Option (iv_M) := (FX8_readComparison_b72 N s q0 x1 x2 0)
set_option maxRecDepth 10000 in
set_option maxHeartbeats 4000000 in
theorem RX8_readComparison_b71 {d N nc Ls : Nat} {Xs : Nat → Int32} (hd : 3 ≤ d) {h : iv_H} {s : iv_M} (hR : Rep nc Ls Xs h s) {q0 : Nat} (t0 : T8 nc q0) {m1 : Int32} {x1 : Int} (p1 : m1.toInt = x1) {m2 : Int32} {x2 : Int} (p2 : m2.toInt = x2)  {r : iv_M} {Q : Option Value → iv_H → Prop} (hq : ∀ h1, Rep nc Ls Xs h1 r → Q none h1) (e : FX8_readComparison_b71 N s q0 x1 x2  = some r) : Rn d 110 none 71 [some (.ref q0), some (.int m1), some (.int m2), none] [] h Q := by
  have hT := hX8_readComparison
  unfold FX8_readComparison_b71 at e
  refine Rn.n hT 1 (pc' := 72) (L' := [some (.ref q0), some (.int m1), some (.int m2), none]) (st' := [.int (0 : Int32)]) rfl ?_
  exact Rn.weak (ll_s (ll_s (ll_s (ll_n ll_e)))) (RX8_readComparison_b72 hd hR t0 p1 p2 L32_0 hq e)
def FX8_readComparison_b36 (N : Nat) (s : iv_M) (q0 : Nat) (x1 : Int) (x2 : Int)  : Option (iv_M) := ((pt s (q0 + 1) 2 (w32 ((s (q0 + 1) 2) + 1))).bind fun s_1264 => (if x1 = 61 then (FX8_readComparison_b71 N s_1264 q0 x1 x2) else ((FX6_here N s_1264 (q0 + 1)).bind fun v_1267 => (if v_1267 = 61 then (FX8_readComparison_b72 N s_1264 q0 x1 x2 1) else (FX8_readComparison_b71 N s_1264 q0 x1 x2)))))
set_option maxRecDepth 10000 in
set_option maxHeartbeats 4000000 in
theorem RX8_readComparison_b36 {d N nc Ls : Nat} {Xs : Nat → Int32} (hd : 3 ≤ d) {h : iv_H} {s : iv_M} (hR : Rep nc Ls Xs h s) {q0 : Nat} (t0 : T8 nc q0) {m1 : Int32} {x1 : Int} (p1 : m1.toInt = x1) {m2 : Int32} {x2 : Int} (p2 : m2.toInt = x2)  {r : iv_M} {Q : Option Value → iv_H → Prop} (hq : ∀ h1, Rep nc Ls Xs h1 r → Q none h1) (e : FX8_readComparison_b36 N s q0 x1 x2  = some r) : Rn d 110 none 36 [some (.ref q0), some (.int m1), some (.int m2), none] [] h Q := by
  have hT := hX8_readComparison
  unfold FX8_readComparison_b36 at e
  refine Rn.n hT 1 (pc' := 37) (L' := [some (.ref q0), some (.int m1), some (.int m2), none]) (st' := [.ref q0]) rfl ?_
  refine Rn.hp hT rfl rfl (gR_hp (rp_gR hR (T8_o t0) rfl)) ?_
  refine Rn.n hT 1 (pc' := 41) (L' := [some (.ref q0), some (.int m1), some (.int m2), none]) (st' := [.ref (q0 + 1), .ref (q0 + 1)]) rfl ?_
  obtain ⟨z_1263, g_1263, p_1263⟩ : ∃ z : Int32, gI h 6 2 (q0 + 1) = some z ∧ z.toInt = s (q0 + 1) 2 := rp_gI (k := 2) hR (T6_o (T8_0 t0)) rfl
  refine Rn.hp hT rfl rfl (gI_hp g_1263) ?_
  refine Rn.n hT 2 (pc' := 46) (L' := [some (.ref q0), some (.int m1), some (.int m2), none]) (st' := [.int (z_1263 + (1 : Int32)), .ref (q0 + 1)]) rfl ?_
  obtain ⟨s_1264, e_1265, e⟩ := Option.bind_eq_some_iff.mp e
  obtain ⟨h_1264, g_1265, R_1264⟩ := rp_pI (ci := 6) (k := 2) hR (T6_o (T8_0 t0)) rfl rfl (ti_add p_1263 L32_1) e_1265
  refine Rn.hp hT rfl rfl (pV_hp rfl g_1265) ?_
  refine Rn.n hT 2 (pc' := 52) (L' := [some (.ref q0), some (.int m1), some (.int m2), none]) (st' := [.int (61 : Int32), .int m1]) rfl ?_
  by_cases c_1266 : x1 = 61
  · rw [if_pos c_1266] at e
    refine Rn.bt hT rfl rfl rfl (decide_eq_true ((ti_e p1 L32_61).mpr c_1266)) ?_
    exact Rn.weak (ll_s (ll_s (ll_s (ll_n ll_e)))) (RX8_readComparison_b71 hd R_1264 t0 p1 p2 hq e)
  · rw [if_neg c_1266] at e
    refine Rn.bf hT rfl rfl rfl (decide_eq_false (fun z => c_1266 ((ti_e p1 L32_61).mp z))) ?_
    refine Rn.n hT 1 (pc' := 56) (L' := [some (.ref q0), some (.int m1), some (.int m2), none]) (st' := [.ref q0]) rfl ?_
    refine Rn.hp hT rfl rfl (gR_hp (rp_gR R_1264 (T8_o t0) rfl)) ?_
    obtain ⟨v_1267, e_1267, e⟩ := Option.bind_eq_some_iff.mp e
    refine Rn.call hT rfl rfl rfl (Nat.le_of_ble_eq_true rfl) (rcv_v gX6_here (by omega) (rp_ck R_1264 (T6_o (T8_0 t0)))) (RX6_here (by omega) R_1264 (T8_0 t0) e_1267 (fun z_1267 p_1267 => ?_))
    show Rn d _ _ 62 [some (.ref q0), some (.int m1), some (.int m2), none] [.int z_1267] h_1264 Q
    refine Rn.n hT 1 (pc' := 64) (L' := [some (.ref q0), some (.int m1), some (.int m2), none]) (st' := [.int (61 : Int32), .int z_1267]) rfl ?_
    by_cases c_1268 : v_1267 = 61
    · rw [if_pos c_1268] at e
      refine Rn.bf hT rfl rfl rfl (decide_eq_false (fun z => z ((ti_e p_1267 L32_61).mpr c_1268))) ?_
      refine Rn.n hT 2 (pc' := 72) (L' := [some (.ref q0), some (.int m1), some (.int m2), none]) (st' := [.int (1 : Int32)]) rfl ?_
      exact Rn.weak (ll_s (ll_s (ll_s (ll_n ll_e)))) (RX8_readComparison_b72 hd R_1264 t0 p1 p2 L32_1 hq e)
    · rw [if_neg c_1268] at e
      refine Rn.bt hT rfl rfl rfl (decide_eq_true (fun z => c_1268 ((ti_e p_1267 L32_61).mp z))) ?_
      exact Rn.weak (ll_s (ll_s (ll_s (ll_n ll_e)))) (RX8_readComparison_b71 hd R_1264 t0 p1 p2 hq e)
def FX8_readComparison (N : Nat) (s : iv_M) (q0 : Nat) (x1 : Int) : Option (iv_M) := (if x1 = 60 then (FX8_readComparison_b36 N s q0 x1 (s (q0 + 1) 2)) else (if x1 = 61 then (FX8_readComparison_b36 N s q0 x1 (s (q0 + 1) 2)) else (if x1 = 62 then (FX8_readComparison_b36 N s q0 x1 (s (q0 + 1) 2)) else ((FX6_fail N s (q0 + 1) (s (q0 + 1) 2) 0).bind fun s_1262 => some s_1262))))
set_option maxRecDepth 10000 in
set_option maxHeartbeats 4000000 in
theorem RX8_readComparison {d N nc Ls : Nat} {Xs : Nat → Int32} (hd : 4 ≤ d) {h : iv_H} {s : iv_M} (hR : Rep nc Ls Xs h s) {q0 : Nat} (t0 : T8 nc q0) {m1 : Int32} {x1 : Int} (p1 : m1.toInt = x1) {r : iv_M} {Q : Option Value → iv_H → Prop} (e : FX8_readComparison N s q0 x1 = some r) (hq : ∀ h1, Rep nc Ls Xs h1 r → Q none h1) : Cl d 110 [.ref q0, .int m1] h Q := by
  obtain ⟨d, rfl⟩ : ∃ k, d = k + 1 := ⟨d - 1, by omega⟩
  have hd : 3 ≤ d := by omega
  have hT := hX8_readComparison
  unfold FX8_readComparison at e
  refine Cl.into (by decide) gX8_readComparison rfl ?_
  show Rn d 110 none 0 [some (.ref q0), some (.int m1), none, none] [] h Q
  refine Rn.n hT 1 (pc' := 1) (L' := [some (.ref q0), some (.int m1), none, none]) (st' := [.ref q0]) rfl ?_
  refine Rn.hp hT rfl rfl (gR_hp (rp_gR hR (T8_o t0) rfl)) ?_
  obtain ⟨z_1257, g_1257, p_1257⟩ : ∃ z : Int32, gI h 6 2 (q0 + 1) = some z ∧ z.toInt = s (q0 + 1) 2 := rp_gI (k := 2) hR (T6_o (T8_0 t0)) rfl
  refine Rn.hp hT rfl rfl (gI_hp g_1257) ?_
  refine Rn.n hT 3 (pc' := 11) (L' := [some (.ref q0), some (.int m1), some (.int z_1257), none]) (st' := [.int (60 : Int32), .int m1]) rfl ?_
  by_cases c_1258 : x1 = 60
  · rw [if_pos c_1258] at e
    refine Rn.bt hT rfl rfl rfl (decide_eq_true ((ti_e p1 L32_60).mpr c_1258)) ?_
    exact Rn.weak (ll_s (ll_s (ll_s (ll_n ll_e)))) (RX8_readComparison_b36 hd hR t0 p1 p_1257 hq e)
  · rw [if_neg c_1258] at e
    refine Rn.bf hT rfl rfl rfl (decide_eq_false (fun z => c_1258 ((ti_e p1 L32_60).mp z))) ?_
    refine Rn.n hT 2 (pc' := 17) (L' := [some (.ref q0), some (.int m1), some (.int z_1257), none]) (st' := [.int (61 : Int32), .int m1]) rfl ?_
    by_cases c_1259 : x1 = 61
    · rw [if_pos c_1259] at e
      refine Rn.bt hT rfl rfl rfl (decide_eq_true ((ti_e p1 L32_61).mpr c_1259)) ?_
      exact Rn.weak (ll_s (ll_s (ll_s (ll_n ll_e)))) (RX8_readComparison_b36 hd hR t0 p1 p_1257 hq e)
    · rw [if_neg c_1259] at e
      refine Rn.bf hT rfl rfl rfl (decide_eq_false (fun z => c_1259 ((ti_e p1 L32_61).mp z))) ?_
      refine Rn.n hT 2 (pc' := 23) (L' := [some (.ref q0), some (.int m1), some (.int z_1257), none]) (st' := [.int (62 : Int32), .int m1]) rfl ?_
      by_cases c_1260 : x1 = 62
      · rw [if_pos c_1260] at e
        refine Rn.bt hT rfl rfl rfl (decide_eq_true ((ti_e p1 L32_62).mpr c_1260)) ?_
        exact Rn.weak (ll_s (ll_s (ll_s (ll_n ll_e)))) (RX8_readComparison_b36 hd hR t0 p1 p_1257 hq e)
      · rw [if_neg c_1260] at e
        refine Rn.bf hT rfl rfl rfl (decide_eq_false (fun z => c_1260 ((ti_e p1 L32_62).mp z))) ?_
        refine Rn.n hT 1 (pc' := 27) (L' := [some (.ref q0), some (.int m1), some (.int z_1257), none]) (st' := [.ref q0]) rfl ?_
        refine Rn.hp hT rfl rfl (gR_hp (rp_gR hR (T8_o t0) rfl)) ?_
        refine Rn.n hT 2 (pc' := 32) (L' := [some (.ref q0), some (.int m1), some (.int z_1257), none]) (st' := [.int (0 : Int32), .int z_1257, .ref (q0 + 1)]) rfl ?_
        obtain ⟨s_1262, e_1261, e⟩ := Option.bind_eq_some_iff.mp e
        refine Rn.call hT rfl rfl rfl (Nat.le_of_ble_eq_true rfl) (rcv_v gX6_fail (by omega) (rp_ck hR (T6_o (T8_0 t0)))) (RX6_fail (by omega) hR (T8_0 t0) p_1257 L32_0 e_1261 (fun h_1262 R_1262 => ?_))
        show Rn d _ _ 35 [some (.ref q0), some (.int m1), some (.int z_1257), none] [] h_1262 Q
        obtain rfl := Option.some.inj e
        exact Rn.ret hT rfl rfl rfl (hq h_1262 R_1262)
set_option maxRecDepth 10000 in
theorem hX8_readClosing : iv_Tb 111 tX8_readClosing := iv_tb_of (m := mX8_readClosing) rfl
set_option maxRecDepth 10000 in
theorem gX8_readClosing : PG.2 111 = some mX8_readClosing := iv_pi_of (t := tX8_readClosing) rfl (by decide)
def FX8_readClosing_b94 (N : Nat) (s : iv_M) (q0 : Nat)  : Option (Int × iv_M) := ((FX6_fail N s (q0 + 1) (s (q0 + 1) 2) 0).bind fun s_1316 => (some (0, s_1316)))
set_option maxRecDepth 10000 in
set_option maxHeartbeats 4000000 in
theorem RX8_readClosing_b94 {d N nc Ls : Nat} {Xs : Nat → Int32} (hd : 2 ≤ d) {h : iv_H} {s : iv_M} (hR : Rep nc Ls Xs h s) {q0 : Nat} (t0 : T8 nc q0)  {r : Int × iv_M} {Q : Option Value → iv_H → Prop} (hq : ∀ (z : Int32) (h1 : iv_H), z.toInt = r.1 → Rep nc Ls Xs h1 r.2 → Q (some (.int z)) h1) (e : FX8_readClosing_b94 N s q0  = some r) : Rn d 111 (some .boolean) 94 [some (.ref q0), none] [] h Q := by
  have hT := hX8_readClosing
  unfold FX8_readClosing_b94 at e
  refine Rn.n hT 1 (pc' := 95) (L' := [some (.ref q0), none]) (st' := [.ref q0]) rfl ?_
  refine Rn.hp hT rfl rfl (gR_hp (rp_gR hR (T8_o t0) rfl)) ?_
  refine Rn.n hT 1 (pc' := 99) (L' := [some (.ref q0), none]) (st' := [.ref q0, .ref (q0 + 1)]) rfl ?_
  refine Rn.hp hT rfl rfl (gR_hp (rp_gR hR (T8_o t0) rfl)) ?_
  obtain ⟨z_1314, g_1314, p_1314⟩ : ∃ z : Int32, gI h 6 2 (q0 + 1) = some z ∧ z.toInt = s (q0 + 1) 2 := rp_gI (k := 2) hR (T6_o (T8_0 t0)) rfl
  refine Rn.hp hT rfl rfl (gI_hp g_1314) ?_
  refine Rn.n hT 1 (pc' := 106) (L' := [some (.ref q0), none]) (st' := [.int (0 : Int32), .int z_1314, .ref (q0 + 1)]) rfl ?_
  obtain ⟨s_1316, e_1315, e⟩ := Option.bind_eq_some_iff.mp e
  refine Rn.call hT rfl rfl rfl (Nat.le_of_ble_eq_true rfl) (rcv_v gX6_fail (by omega) (rp_ck hR (T6_o (T8_0 t0)))) (RX6_fail (by omega) hR (T8_0 t0) p_1314 L32_0 e_1315 (fun h_1316 R_1316 => ?_))
  show Rn d _ _ 109 [some (.ref q0), none] [] h_1316 Q
  refine Rn.n hT 1 (pc' := 110) (L' := [some (.ref q0), none]) (st' := [.int (0 : Int32)]) rfl ?_
  obtain rfl := Option.some.inj e
  exact Rn.ret hT rfl rfl rfl (hq (0 : Int32) h_1316 L32_0 R_1316)
def FX8_readClosing_b168 (N : Nat) (s : iv_M)  (xs0 : Int) : Option (Int × iv_M) := (if xs0 = 0 ∨ xs0 = 1 then some (xs0, s) else none)
set_option maxRecDepth 10000 in
set_option maxHeartbeats 4000000 in
theorem RX8_readClosing_b168 {d N nc Ls : Nat} {Xs : Nat → Int32} (hd : 2 ≤ d) {h : iv_H} {s : iv_M} (hR : Rep nc Ls Xs h s)  {ms0 : Int32} {xs0 : Int} (ps0 : ms0.toInt = xs0) {r : Int × iv_M} {Q : Option Value → iv_H → Prop} (hq : ∀ (z : Int32) (h1 : iv_H), z.toInt = r.1 → Rep nc Ls Xs h1 r.2 → Q (some (.int z)) h1) (e : FX8_readClosing_b168 N s  xs0 = some r) : Rn d 111 (some .boolean) 168 [none, none] [.int ms0] h Q := by
  have hT := hX8_readClosing
  unfold FX8_readClosing_b168 at e
  by_cases c_1331 : xs0 = 0 ∨ xs0 = 1
  · rw [if_pos c_1331] at e
    obtain rfl := Option.some.inj e
    exact Rn.ret hT rfl rfl (if_pos (ti_b ps0 c_1331)) (hq ms0 h ps0 hR)
  · rw [if_neg c_1331] at e
    cases e
def FX8_readClosing_b152 (N : Nat) (s : iv_M) (q0 : Nat) (x1 : Int)  : Option (Int × iv_M) := ((pt s q0 5 0).bind fun s_1328 => (if x1 = 59 then (FX8_readClosing_b168 N s_1328 1) else (FX8_readClosing_b168 N s_1328 0)))
set_option maxRecDepth 10000 in
set_option maxHeartbeats 4000000 in
theorem RX8_readClosing_b152 {d N nc Ls : Nat} {Xs : Nat → Int32} (hd : 2 ≤ d) {h : iv_H} {s : iv_M} (hR : Rep nc Ls Xs h s) {q0 : Nat} (t0 : T8 nc q0) {m1 : Int32} {x1 : Int} (p1 : m1.toInt = x1)  {r : Int × iv_M} {Q : Option Value → iv_H → Prop} (hq : ∀ (z : Int32) (h1 : iv_H), z.toInt = r.1 → Rep nc Ls Xs h1 r.2 → Q (some (.int z)) h1) (e : FX8_readClosing_b152 N s q0 x1  = some r) : Rn d 111 (some .boolean) 152 [some (.ref q0), some (.int m1)] [] h Q := by
  have hT := hX8_readClosing
  unfold FX8_readClosing_b152 at e
  refine Rn.n hT 2 (pc' := 154) (L' := [some (.ref q0), some (.int m1)]) (st' := [.int (0 : Int32), .ref q0]) rfl ?_
  obtain ⟨s_1328, e_1329, e⟩ := Option.bind_eq_some_iff.mp e
  obtain ⟨h_1328, g_1329, R_1328⟩ := rp_pI (ci := 8) (k := 5) hR (T8_o t0) rfl rfl L32_0 e_1329
  refine Rn.hp hT rfl rfl (pV_hp rfl g_1329) ?_
  refine Rn.n hT 2 (pc' := 160) (L' := [some (.ref q0), some (.int m1)]) (st' := [.int (59 : Int32), .int m1]) rfl ?_
  by_cases c_1330 : x1 = 59
  · rw [if_pos c_1330] at e
    refine Rn.bf hT rfl rfl rfl (decide_eq_false (fun z => z ((ti_e p1 L32_59).mpr c_1330))) ?_
    refine Rn.n hT 2 (pc' := 168) (L' := [some (.ref q0), some (.int m1)]) (st' := [.int (1 : Int32)]) rfl ?_
    exact Rn.weak (ll_n (ll_n ll_e)) (RX8_readClosing_b168 hd R_1328 L32_1 hq e)
  · rw [if_neg c_1330] at e
    refine Rn.bt hT rfl rfl rfl (decide_eq_true (fun z => c_1330 ((ti_e p1 L32_59).mp z))) ?_
    refine Rn.n hT 1 (pc' := 168) (L' := [some (.ref q0), some (.int m1)]) (st' := [.int (0 : Int32)]) rfl ?_
    exact Rn.weak (ll_n (ll_n ll_e)) (RX8_readClosing_b168 hd R_1328 L32_0 hq e)
def FX8_readClosing_b133 (N : Nat) (s : iv_M) (q0 : Nat) (x1 : Int)  : Option (Int × iv_M) := (if x1 = 59 then ((pt s (q0 + 1) 2 (w32 ((s (q0 + 1) 2) + 1))).bind fun s_1326 => (FX8_readClosing_b152 N s_1326 q0 x1)) else (FX8_readClosing_b152 N s q0 x1))
set_option maxRecDepth 10000 in
set_option maxHeartbeats 4000000 in
theorem RX8_readClosing_b133 {d N nc Ls : Nat} {Xs : Nat → Int32} (hd : 2 ≤ d) {h : iv_H} {s : iv_M} (hR : Rep nc Ls Xs h s) {q0 : Nat} (t0 : T8 nc q0) {m1 : Int32} {x1 : Int} (p1 : m1.toInt = x1)  {r : Int × iv_M} {Q : Option Value → iv_H → Prop} (hq : ∀ (z : Int32) (h1 : iv_H), z.toInt = r.1 → Rep nc Ls Xs h1 r.2 → Q (some (.int z)) h1) (e : FX8_readClosing_b133 N s q0 x1  = some r) : Rn d 111 (some .boolean) 133 [some (.ref q0), some (.int m1)] [] h Q := by
  have hT := hX8_readClosing
  unfold FX8_readClosing_b133 at e
  refine Rn.n hT 2 (pc' := 136) (L' := [some (.ref q0), some (.int m1)]) (st' := [.int (59 : Int32), .int m1]) rfl ?_
  by_cases c_1324 : x1 = 59
  · rw [if_pos c_1324] at e
    refine Rn.bf hT rfl rfl rfl (decide_eq_false (fun z => z ((ti_e p1 L32_59).mpr c_1324))) ?_
    refine Rn.n hT 1 (pc' := 140) (L' := [some (.ref q0), some (.int m1)]) (st' := [.ref q0]) rfl ?_
    refine Rn.hp hT rfl rfl (gR_hp (rp_gR hR (T8_o t0) rfl)) ?_
    refine Rn.n hT 1 (pc' := 144) (L' := [some (.ref q0), some (.int m1)]) (st' := [.ref (q0 + 1), .ref (q0 + 1)]) rfl ?_
    obtain ⟨z_1325, g_1325, p_1325⟩ : ∃ z : Int32, gI h 6 2 (q0 + 1) = some z ∧ z.toInt = s (q0 + 1) 2 := rp_gI (k := 2) hR (T6_o (T8_0 t0)) rfl
    refine Rn.hp hT rfl rfl (gI_hp g_1325) ?_
    refine Rn.n hT 2 (pc' := 149) (L' := [some (.ref q0), some (.int m1)]) (st' := [.int (z_1325 + (1 : Int32)), .ref (q0 + 1)]) rfl ?_
    obtain ⟨s_1326, e_1327, e⟩ := Option.bind_eq_some_iff.mp e
    obtain ⟨h_1326, g_1327, R_1326⟩ := rp_pI (ci := 6) (k := 2) hR (T6_o (T8_0 t0)) rfl rfl (ti_add p_1325 L32_1) e_1327
    refine Rn.hp hT rfl rfl (pV_hp rfl g_1327) ?_
    exact Rn.weak (ll_s (ll_s ll_e)) (RX8_readClosing_b152 hd R_1326 t0 p1 hq e)
  · rw [if_neg c_1324] at e
    refine Rn.bt hT rfl rfl rfl (decide_eq_true (fun z => c_1324 ((ti_e p1 L32_59).mp z))) ?_
    exact Rn.weak (ll_s (ll_s ll_e)) (RX8_readClosing_b152 hd hR t0 p1 hq e)
def FX8_readClosing_b111 (N : Nat) (s : iv_M) (q0 : Nat) (x1 : Int)  : Option (Int × iv_M) := ((rk 1).bind fun v_1317 => ((FX8_release N s q0 v_1317).bind fun s_1319 => (if (s_1319 q0 7) ≤ 1 then (FX8_readClosing_b133 N s_1319 q0 x1) else ((FX8_emit N s_1319 q0 1).bind fun s_1323 => (FX8_readClosing_b133 N s_1323 q0 x1)))))
set_option maxRecDepth 10000 in
set_option maxHeartbeats 4000000 in
theorem RX8_readClosing_b111 {d N nc Ls : Nat} {Xs : Nat → Int32} (hd : 2 ≤ d) {h : iv_H} {s : iv_M} (hR : Rep nc Ls Xs h s) {q0 : Nat} (t0 : T8 nc q0) {m1 : Int32} {x1 : Int} (p1 : m1.toInt = x1)  {r : Int × iv_M} {Q : Option Value → iv_H → Prop} (hq : ∀ (z : Int32) (h1 : iv_H), z.toInt = r.1 → Rep nc Ls Xs h1 r.2 → Q (some (.int z)) h1) (e : FX8_readClosing_b111 N s q0 x1  = some r) : Rn d 111 (some .boolean) 111 [some (.ref q0), some (.int m1)] [] h Q := by
  have hT := hX8_readClosing
  unfold FX8_readClosing_b111 at e
  refine Rn.n hT 1 (pc' := 112) (L' := [some (.ref q0), some (.int m1)]) (st' := [.ref q0]) rfl ?_
  refine Rn.hp hT rfl rfl rfl ?_
  refine Rn.n hT 1 (pc' := 116) (L' := [some (.ref q0), some (.int m1)]) (st' := [.int (1 : Int32), .ref 1000001, .ref q0]) rfl ?_
  obtain ⟨v_1317, e_1317, e⟩ := Option.bind_eq_some_iff.mp e
  obtain ⟨z_1317, g_1317, p_1317⟩ := rp_rk hR L32_1 e_1317
  refine Rn.hp hT rfl rfl (aI_hp g_1317) ?_
  obtain ⟨s_1319, e_1318, e⟩ := Option.bind_eq_some_iff.mp e
  refine Rn.call hT rfl rfl rfl (Nat.le_of_ble_eq_true rfl) (rcv_v gX8_release (by omega) (rp_ck hR (T8_o t0))) (RX8_release (by omega) hR t0 p_1317 e_1318 (fun h_1319 R_1319 => ?_))
  show Rn d _ _ 120 [some (.ref q0), some (.int m1)] [] h_1319 Q
  refine Rn.n hT 1 (pc' := 121) (L' := [some (.ref q0), some (.int m1)]) (st' := [.ref q0]) rfl ?_
  obtain ⟨z_1320, g_1320, p_1320⟩ : ∃ z : Int32, gI h_1319 8 7 q0 = some z ∧ z.toInt = s_1319 q0 7 := rp_gI (k := 7) R_1319 (T8_o t0) rfl
  refine Rn.hp hT rfl rfl (gI_hp g_1320) ?_
  refine Rn.n hT 1 (pc' := 125) (L' := [some (.ref q0), some (.int m1)]) (st' := [.int (1 : Int32), .int z_1320]) rfl ?_
  by_cases c_1321 : (s_1319 q0 7) ≤ 1
  · rw [if_pos c_1321] at e
    refine Rn.bt hT rfl rfl rfl (decide_eq_true ((ti_le p_1320 L32_1).mpr c_1321)) ?_
    exact Rn.weak (ll_s (ll_s ll_e)) (RX8_readClosing_b133 hd R_1319 t0 p1 hq e)
  · rw [if_neg c_1321] at e
    refine Rn.bf hT rfl rfl rfl (decide_eq_false (fun z => c_1321 ((ti_le p_1320 L32_1).mp z))) ?_
    refine Rn.n hT 2 (pc' := 130) (L' := [some (.ref q0), some (.int m1)]) (st' := [.int (1 : Int32), .ref q0]) rfl ?_
    obtain ⟨s_1323, e_1322, e⟩ := Option.bind_eq_some_iff.mp e
    refine Rn.call hT rfl rfl rfl (Nat.le_of_ble_eq_true rfl) (rcv_v gX8_emit (by omega) (rp_ck R_1319 (T8_o t0))) (RX8_emit (by omega) R_1319 t0 L32_1 e_1322 (fun h_1323 R_1323 => ?_))
    show Rn d _ _ 133 [some (.ref q0), some (.int m1)] [] h_1323 Q
    exact Rn.weak (ll_s (ll_s ll_e)) (RX8_readClosing_b133 hd R_1323 t0 p1 hq e)
def FX8_readClosing_b76 (N : Nat) (s : iv_M) (q0 : Nat) (x1 : Int)  : Option (Int × iv_M) := (if 0 < (s q0 9) then (FX8_readClosing_b94 N s q0) else (if x1 = 59 then (FX8_readClosing_b111 N s q0 x1) else (if x1 = (-1) then (FX8_readClosing_b111 N s q0 x1) else (FX8_readClosing_b94 N s q0))))
set_option maxRecDepth 10000 in
set_option maxHeartbeats 4000000 in
theorem RX8_readClosing_b76 {d N nc Ls : Nat} {Xs : Nat → Int32} (hd : 2 ≤ d) {h : iv_H} {s : iv_M} (hR : Rep nc Ls Xs h s) {q0 : Nat} (t0 : T8 nc q0) {m1 : Int32} {x1 : Int} (p1 : m1.toInt = x1)  {r : Int × iv_M} {Q : Option Value → iv_H → Prop} (hq : ∀ (z : Int32) (h1 : iv_H), z.toInt = r.1 → Rep nc Ls Xs h1 r.2 → Q (some (.int z)) h1) (e : FX8_readClosing_b76 N s q0 x1  = some r) : Rn d 111 (some .boolean) 76 [some (.ref q0), some (.int m1)] [] h Q := by
  have hT := hX8_readClosing
  unfold FX8_readClosing_b76 at e
  refine Rn.n hT 1 (pc' := 77) (L' := [some (.ref q0), some (.int m1)]) (st' := [.ref q0]) rfl ?_
  obtain ⟨z_1310, g_1310, p_1310⟩ : ∃ z : Int32, gI h 8 9 q0 = some z ∧ z.toInt = s q0 9 := rp_gI (k := 9) hR (T8_o t0) rfl
  refine Rn.hp hT rfl rfl (gI_hp g_1310) ?_
  by_cases c_1311 : 0 < (s q0 9)
  · rw [if_pos c_1311] at e
    refine Rn.bt hT rfl rfl rfl (decide_eq_true ((ti_l L32_0 p_1310).mpr c_1311)) ?_
    exact Rn.weak (ll_s (ll_n ll_e)) (RX8_readClosing_b94 hd hR t0 hq e)
  · rw [if_neg c_1311] at e
    refine Rn.bf hT rfl rfl rfl (decide_eq_false (fun z => c_1311 ((ti_l L32_0 p_1310).mp z))) ?_
    refine Rn.n hT 2 (pc' := 86) (L' := [some (.ref q0), some (.int m1)]) (st' := [.int (59 : Int32), .int m1]) rfl ?_
    by_cases c_1312 : x1 = 59
    · rw [if_pos c_1312] at e
      refine Rn.bt hT rfl rfl rfl (decide_eq_true ((ti_e p1 L32_59).mpr c_1312)) ?_
      exact Rn.weak (ll_s (ll_s ll_e)) (RX8_readClosing_b111 hd hR t0 p1 hq e)
    · rw [if_neg c_1312] at e
      refine Rn.bf hT rfl rfl rfl (decide_eq_false (fun z => c_1312 ((ti_e p1 L32_59).mp z))) ?_
      refine Rn.n hT 2 (pc' := 91) (L' := [some (.ref q0), some (.int m1)]) (st' := [.int (-1 : Int32), .int m1]) rfl ?_
      by_cases c_1313 : x1 = (-1)
      · rw [if_pos c_1313] at e
        refine Rn.bt hT rfl rfl rfl (decide_eq_true ((ti_e p1 L32_m1).mpr c_1313)) ?_
        exact Rn.weak (ll_s (ll_s ll_e)) (RX8_readClosing_b111 hd hR t0 p1 hq e)
      · rw [if_neg c_1313] at e
        refine Rn.bf hT rfl rfl rfl (decide_eq_false (fun z => c_1313 ((ti_e p1 L32_m1).mp z))) ?_
        exact Rn.weak (ll_s (ll_n ll_e)) (RX8_readClosing_b94 hd hR t0 hq e)
def FX8_readClosing (N : Nat) (s : iv_M) (q0 : Nat) (x1 : Int) : Option (Int × iv_M) := (if x1 = 93 then (if (s q0 9) ≤ 0 then (FX8_readClosing_b76 N s q0 x1) else ((pt s (q0 + 1) 2 (w32 ((s (q0 + 1) 2) + 1))).bind fun s_1293 => ((rk 1).bind fun v_1295 => ((FX8_release N s_1293 q0 v_1295).bind fun s_1297 => ((pt s_1297 q0 9 (w32 ((s_1297 q0 9) - 1))).bind fun s_1299 => ((pt s_1299 q0 8 (w32 ((s_1299 q0 8) - 1))).bind fun s_1302 => ((pt s_1302 q0 4 (mxI 0 (w32 ((s_1302 q0 4) - 1)))).bind fun s_1306 => ((pt s_1306 q0 5 5).bind fun s_1308 => (some (1, s_1308)))))))))) else (FX8_readClosing_b76 N s q0 x1))
set_option maxRecDepth 10000 in
set_option maxHeartbeats 4000000 in
theorem RX8_readClosing {d N nc Ls : Nat} {Xs : Nat → Int32} (hd : 3 ≤ d) {h : iv_H} {s : iv_M} (hR : Rep nc Ls Xs h s) {q0 : Nat} (t0 : T8 nc q0) {m1 : Int32} {x1 : Int} (p1 : m1.toInt = x1) {r : Int × iv_M} {Q : Option Value → iv_H → Prop} (e : FX8_readClosing N s q0 x1 = some r) (hq : ∀ (z : Int32) (h1 : iv_H), z.toInt = r.1 → Rep nc Ls Xs h1 r.2 → Q (some (.int z)) h1) : Cl d 111 [.ref q0, .int m1] h Q := by
  obtain ⟨d, rfl⟩ : ∃ k, d = k + 1 := ⟨d - 1, by omega⟩
  have hd : 2 ≤ d := by omega
  have hT := hX8_readClosing
  unfold FX8_readClosing at e
  refine Cl.into (by decide) gX8_readClosing rfl ?_
  show Rn d 111 (some .boolean) 0 [some (.ref q0), some (.int m1)] [] h Q
  refine Rn.n hT 2 (pc' := 3) (L' := [some (.ref q0), some (.int m1)]) (st' := [.int (93 : Int32), .int m1]) rfl ?_
  by_cases c_1289 : x1 = 93
  · rw [if_pos c_1289] at e
    refine Rn.bf hT rfl rfl rfl (decide_eq_false (fun z => z ((ti_e p1 L32_93).mpr c_1289))) ?_
    refine Rn.n hT 1 (pc' := 7) (L' := [some (.ref q0), some (.int m1)]) (st' := [.ref q0]) rfl ?_
    obtain ⟨z_1290, g_1290, p_1290⟩ : ∃ z : Int32, gI h 8 9 q0 = some z ∧ z.toInt = s q0 9 := rp_gI (k := 9) hR (T8_o t0) rfl
    refine Rn.hp hT rfl rfl (gI_hp g_1290) ?_
    by_cases c_1291 : (s q0 9) ≤ 0
    · rw [if_pos c_1291] at e
      refine Rn.bt hT rfl rfl rfl (decide_eq_true ((ti_le p_1290 L32_0).mpr c_1291)) ?_
      exact Rn.weak (ll_s (ll_s ll_e)) (RX8_readClosing_b76 hd hR t0 p1 hq e)
    · rw [if_neg c_1291] at e
      refine Rn.bf hT rfl rfl rfl (decide_eq_false (fun z => c_1291 ((ti_le p_1290 L32_0).mp z))) ?_
      refine Rn.n hT 1 (pc' := 14) (L' := [some (.ref q0), some (.int m1)]) (st' := [.ref q0]) rfl ?_
      refine Rn.hp hT rfl rfl (gR_hp (rp_gR hR (T8_o t0) rfl)) ?_
      refine Rn.n hT 1 (pc' := 18) (L' := [some (.ref q0), some (.int m1)]) (st' := [.ref (q0 + 1), .ref (q0 + 1)]) rfl ?_
      obtain ⟨z_1292, g_1292, p_1292⟩ : ∃ z : Int32, gI h 6 2 (q0 + 1) = some z ∧ z.toInt = s (q0 + 1) 2 := rp_gI (k := 2) hR (T6_o (T8_0 t0)) rfl
      refine Rn.hp hT rfl rfl (gI_hp g_1292) ?_
      refine Rn.n hT 2 (pc' := 23) (L' := [some (.ref q0), some (.int m1)]) (st' := [.int (z_1292 + (1 : Int32)), .ref (q0 + 1)]) rfl ?_
      obtain ⟨s_1293, e_1294, e⟩ := Option.bind_eq_some_iff.mp e
      obtain ⟨h_1293, g_1294, R_1293⟩ := rp_pI (ci := 6) (k := 2) hR (T6_o (T8_0 t0)) rfl rfl (ti_add p_1292 L32_1) e_1294
      refine Rn.hp hT rfl rfl (pV_hp rfl g_1294) ?_
      refine Rn.n hT 1 (pc' := 27) (L' := [some (.ref q0), some (.int m1)]) (st' := [.ref q0]) rfl ?_
      refine Rn.hp hT rfl rfl rfl ?_
      refine Rn.n hT 1 (pc' := 31) (L' := [some (.ref q0), some (.int m1)]) (st' := [.int (1 : Int32), .ref 1000001, .ref q0]) rfl ?_
      obtain ⟨v_1295, e_1295, e⟩ := Option.bind_eq_some_iff.mp e
      obtain ⟨z_1295, g_1295, p_1295⟩ := rp_rk R_1293 L32_1 e_1295
      refine Rn.hp hT rfl rfl (aI_hp g_1295) ?_
      obtain ⟨s_1297, e_1296, e⟩ := Option.bind_eq_some_iff.mp e
      refine Rn.call hT rfl rfl rfl (Nat.le_of_ble_eq_true rfl) (rcv_v gX8_release (by omega) (rp_ck R_1293 (T8_o t0))) (RX8_release (by omega) R_1293 t0 p_1295 e_1296 (fun h_1297 R_1297 => ?_))
      show Rn d _ _ 35 [some (.ref q0), some (.int m1)] [] h_1297 Q
      refine Rn.n hT 2 (pc' := 37) (L' := [some (.ref q0), some (.int m1)]) (st' := [.ref q0, .ref q0]) rfl ?_
      obtain ⟨z_1298, g_1298, p_1298⟩ : ∃ z : Int32, gI h_1297 8 9 q0 = some z ∧ z.toInt = s_1297 q0 9 := rp_gI (k := 9) R_1297 (T8_o t0) rfl
      refine Rn.hp hT rfl rfl (gI_hp g_1298) ?_
      refine Rn.n hT 2 (pc' := 42) (L' := [some (.ref q0), some (.int m1)]) (st' := [.int (z_1298 - (1 : Int32)), .ref q0]) rfl ?_
      obtain ⟨s_1299, e_1300, e⟩ := Option.bind_eq_some_iff.mp e
      obtain ⟨h_1299, g_1300, R_1299⟩ := rp_pI (ci := 8) (k := 9) R_1297 (T8_o t0) rfl rfl (ti_sub p_1298 L32_1) e_1300
      refine Rn.hp hT rfl rfl (pV_hp rfl g_1300) ?_
      refine Rn.n hT 2 (pc' := 47) (L' := [some (.ref q0), some (.int m1)]) (st' := [.ref q0, .ref q0]) rfl ?_
      obtain ⟨z_1301, g_1301, p_1301⟩ : ∃ z : Int32, gI h_1299 8 8 q0 = some z ∧ z.toInt = s_1299 q0 8 := rp_gI (k := 8) R_1299 (T8_o t0) rfl
      refine Rn.hp hT rfl rfl (gI_hp g_1301) ?_
      refine Rn.n hT 2 (pc' := 52) (L' := [some (.ref q0), some (.int m1)]) (st' := [.int (z_1301 - (1 : Int32)), .ref q0]) rfl ?_
      obtain ⟨s_1302, e_1303, e⟩ := Option.bind_eq_some_iff.mp e
      obtain ⟨h_1302, g_1303, R_1302⟩ := rp_pI (ci := 8) (k := 8) R_1299 (T8_o t0) rfl rfl (ti_sub p_1301 L32_1) e_1303
      refine Rn.hp hT rfl rfl (pV_hp rfl g_1303) ?_
      refine Rn.n hT 3 (pc' := 58) (L' := [some (.ref q0), some (.int m1)]) (st' := [.ref q0, .int (0 : Int32), .ref q0]) rfl ?_
      obtain ⟨z_1304, g_1304, p_1304⟩ : ∃ z : Int32, gI h_1302 8 4 q0 = some z ∧ z.toInt = s_1302 q0 4 := rp_gI (k := 4) R_1302 (T8_o t0) rfl
      refine Rn.hp hT rfl rfl (gI_hp g_1304) ?_
      refine Rn.n hT 2 (pc' := 63) (L' := [some (.ref q0), some (.int m1)]) (st' := [.int (z_1304 - (1 : Int32)), .int (0 : Int32), .ref q0]) rfl ?_
      refine Rn.hp hT rfl rfl (mx_hp (Nat.le_of_ble_eq_true rfl)) ?_
      obtain ⟨s_1306, e_1307, e⟩ := Option.bind_eq_some_iff.mp e
      obtain ⟨h_1306, g_1307, R_1306⟩ := rp_pI (ci := 8) (k := 4) R_1302 (T8_o t0) rfl rfl (ti_mx L32_0 (ti_sub p_1304 L32_1)) e_1307
      refine Rn.hp hT rfl rfl (pV_hp rfl g_1307) ?_
      refine Rn.n hT 2 (pc' := 71) (L' := [some (.ref q0), some (.int m1)]) (st' := [.int (5 : Int32), .ref q0]) rfl ?_
      obtain ⟨s_1308, e_1309, e⟩ := Option.bind_eq_some_iff.mp e
      obtain ⟨h_1308, g_1309, R_1308⟩ := rp_pI (ci := 8) (k := 5) R_1306 (T8_o t0) rfl rfl L32_5 e_1309
      refine Rn.hp hT rfl rfl (pV_hp rfl g_1309) ?_
      refine Rn.n hT 1 (pc' := 75) (L' := [some (.ref q0), some (.int m1)]) (st' := [.int (1 : Int32)]) rfl ?_
      obtain rfl := Option.some.inj e
      exact Rn.ret hT rfl rfl rfl (hq (1 : Int32) h_1308 L32_1 R_1308)
  · rw [if_neg c_1289] at e
    refine Rn.bt hT rfl rfl rfl (decide_eq_true (fun z => c_1289 ((ti_e p1 L32_93).mp z))) ?_
    exact Rn.weak (ll_s (ll_s ll_e)) (RX8_readClosing_b76 hd hR t0 p1 hq e)
set_option maxRecDepth 10000 in
theorem hX8_readBehind : iv_Tb 108 tX8_readBehind := iv_tb_of (m := mX8_readBehind) rfl
set_option maxRecDepth 10000 in
theorem gX8_readBehind : PG.2 108 = some mX8_readBehind := iv_pi_of (t := tX8_readBehind) rfl (by decide)
def FX8_readBehind_b87 (N : Nat) (s : iv_M) (q0 : Nat) (xs0 : Int) (qs1 : Nat) : Option (Int × iv_M) := ((FX8_join N s qs1 xs0).bind fun s_1356 => ((pt s_1356 q0 5 1).bind fun s_1357 => (some (1, s_1357))))
set_option maxRecDepth 10000 in
set_option maxHeartbeats 4000000 in
theorem RX8_readBehind_b87 {d N nc Ls : Nat} {Xs : Nat → Int32} (hd : 12 ≤ d) {h : iv_H} {s : iv_M} (hR : Rep nc Ls Xs h s) {q0 : Nat} (t0 : T8 nc q0) {ms0 : Int32} {xs0 : Int} (ps0 : ms0.toInt = xs0) {qs1 : Nat} (ts1 : T8 nc qs1) {r : Int × iv_M} {Q : Option Value → iv_H → Prop} (hq : ∀ (z : Int32) (h1 : iv_H), z.toInt = r.1 → Rep nc Ls Xs h1 r.2 → Q (some (.int z)) h1) (e : FX8_readBehind_b87 N s q0 xs0 qs1 = some r) : Rn d 108 (some .boolean) 87 [some (.ref q0), none, none] [.int ms0, .ref qs1] h Q := by
  have hT := hX8_readBehind
  unfold FX8_readBehind_b87 at e
  obtain ⟨s_1356, e_1355, e⟩ := Option.bind_eq_some_iff.mp e
  refine Rn.call hT rfl rfl rfl (Nat.le_of_ble_eq_true rfl) (rcv_v gX8_join (by omega) (rp_ck hR (T8_o ts1))) (RX8_join (by omega) hR ts1 ps0 e_1355 (fun h_1356 R_1356 => ?_))
  show Rn d _ _ 90 [some (.ref q0), none, none] [] h_1356 Q
  refine Rn.n hT 2 (pc' := 92) (L' := [some (.ref q0), none, none]) (st' := [.int (1 : Int32), .ref q0]) rfl ?_
  obtain ⟨s_1357, e_1358, e⟩ := Option.bind_eq_some_iff.mp e
  obtain ⟨h_1357, g_1358, R_1357⟩ := rp_pI (ci := 8) (k := 5) R_1356 (T8_o t0) rfl rfl L32_1 e_1358
  refine Rn.hp hT rfl rfl (pV_hp rfl g_1358) ?_
  refine Rn.n hT 1 (pc' := 96) (L' := [some (.ref q0), none, none]) (st' := [.int (1 : Int32)]) rfl ?_
  obtain rfl := Option.some.inj e
  exact Rn.ret hT rfl rfl rfl (hq (1 : Int32) h_1357 L32_1 R_1357)
def FX8_readBehind_b16 (N : Nat) (s : iv_M) (q0 : Nat) (x1 : Int) (xs0 : Int) : Option (Int × iv_M) := (if xs0 = (-1) then (if (s q0 5) = 3 then ((FX8_readComparison N s q0 x1).bind fun s_1347 => (some (1, s_1347))) else ((FX6_isLetter N s x1).bind fun v_1338 => (if v_1338 = 0 then ((FX8_readClosing N s q0 x1).bind fun r_1340 => (fun (v_1340 : Int) (s_1341 : iv_M) => (if v_1340 = 0 ∨ v_1340 = 1 then some (v_1340, s_1341) else none)) r_1340.1 r_1340.2) else ((FX6_readWord N s (q0 + 1) 1000014).bind fun r_1343 => (fun (v_1343 : Int) (s_1344 : iv_M) => (if v_1343 = 0 then (FX8_readBehind_b87 N s_1344 q0 2 q0) else (FX8_readBehind_b87 N s_1344 q0 1 q0))) r_1343.1 r_1343.2)))) else ((pt s (q0 + 1) 2 (w32 ((s (q0 + 1) 2) + 1))).bind fun s_1349 => ((FX8_join N s_1349 q0 xs0).bind fun s_1352 => ((pt s_1352 q0 5 2).bind fun s_1353 => (some (1, s_1353))))))
set_option maxRecDepth 10000 in
set_option maxHeartbeats 4000000 in
theorem RX8_readBehind_b16 {d N nc Ls : Nat} {Xs : Nat → Int32} (hd : 12 ≤ d) {h : iv_H} {s : iv_M} (hR : Rep nc Ls Xs h s) {q0 : Nat} (t0 : T8 nc q0) {m1 : Int32} {x1 : Int} (p1 : m1.toInt = x1) {ms0 : Int32} {xs0 : Int} (ps0 : ms0.toInt = xs0) {r : Int × iv_M} {Q : Option Value → iv_H → Prop} (hq : ∀ (z : Int32) (h1 : iv_H), z.toInt = r.1 → Rep nc Ls Xs h1 r.2 → Q (some (.int z)) h1) (e : FX8_readBehind_b16 N s q0 x1 xs0 = some r) : Rn d 108 (some .boolean) 16 [some (.ref q0), some (.int m1), none] [.int ms0] h Q := by
  have hT := hX8_readBehind
  unfold FX8_readBehind_b16 at e
  refine Rn.n hT 3 (pc' := 19) (L' := [some (.ref q0), some (.int m1), some (.int ms0)]) (st' := [.int (-1 : Int32), .int ms0]) rfl ?_
  by_cases c_1335 : xs0 = (-1)
  · rw [if_pos c_1335] at e
    refine Rn.bt hT rfl rfl rfl (decide_eq_true ((ti_e ps0 L32_m1).mpr c_1335)) ?_
    refine Rn.n hT 1 (pc' := 48) (L' := [some (.ref q0), some (.int m1), some (.int ms0)]) (st' := [.ref q0]) rfl ?_
    obtain ⟨z_1336, g_1336, p_1336⟩ : ∃ z : Int32, gI h 8 5 q0 = some z ∧ z.toInt = s q0 5 := rp_gI (k := 5) hR (T8_o t0) rfl
    refine Rn.hp hT rfl rfl (gI_hp g_1336) ?_
    refine Rn.n hT 1 (pc' := 52) (L' := [some (.ref q0), some (.int m1), some (.int ms0)]) (st' := [.int (3 : Int32), .int z_1336]) rfl ?_
    by_cases c_1337 : (s q0 5) = 3
    · rw [if_pos c_1337] at e
      refine Rn.bf hT rfl rfl rfl (decide_eq_false (fun z => z ((ti_e p_1336 L32_3).mpr c_1337))) ?_
      refine Rn.n hT 2 (pc' := 57) (L' := [some (.ref q0), some (.int m1), some (.int ms0)]) (st' := [.int m1, .ref q0]) rfl ?_
      obtain ⟨s_1347, e_1346, e⟩ := Option.bind_eq_some_iff.mp e
      refine Rn.call hT rfl rfl rfl (Nat.le_of_ble_eq_true rfl) (rcv_v gX8_readComparison (by omega) (rp_ck hR (T8_o t0))) (RX8_readComparison (by omega) hR t0 p1 e_1346 (fun h_1347 R_1347 => ?_))
      show Rn d _ _ 60 [some (.ref q0), some (.int m1), some (.int ms0)] [] h_1347 Q
      refine Rn.n hT 1 (pc' := 61) (L' := [some (.ref q0), some (.int m1), some (.int ms0)]) (st' := [.int (1 : Int32)]) rfl ?_
      obtain rfl := Option.some.inj e
      exact Rn.ret hT rfl rfl rfl (hq (1 : Int32) h_1347 L32_1 R_1347)
    · rw [if_neg c_1337] at e
      refine Rn.bt hT rfl rfl rfl (decide_eq_true (fun z => c_1337 ((ti_e p_1336 L32_3).mp z))) ?_
      refine Rn.n hT 1 (pc' := 63) (L' := [some (.ref q0), some (.int m1), some (.int ms0)]) (st' := [.int m1]) rfl ?_
      obtain ⟨v_1338, e_1338, e⟩ := Option.bind_eq_some_iff.mp e
      refine Rn.call hT rfl rfl rfl (Nat.le_of_ble_eq_true rfl) rfl (RX6_isLetter (by omega) hR p1 e_1338 (fun z_1338 p_1338 => ?_))
      show Rn d _ _ 66 [some (.ref q0), some (.int m1), some (.int ms0)] [.int z_1338] h Q
      by_cases c_1339 : v_1338 = 0
      · rw [if_pos c_1339] at e
        refine Rn.bt hT rfl rfl rfl (decide_eq_true ((ti_e p_1338 L32_0).mpr c_1339)) ?_
        refine Rn.n hT 2 (pc' := 99) (L' := [some (.ref q0), some (.int m1), some (.int ms0)]) (st' := [.int m1, .ref q0]) rfl ?_
        obtain ⟨⟨v_1340, s_1341⟩, e_1340, e⟩ := Option.bind_eq_some_iff.mp e
        try dsimp only at e
        try dsimp only at e
        refine Rn.call hT rfl rfl rfl (Nat.le_of_ble_eq_true rfl) (rcv_v gX8_readClosing (by omega) (rp_ck hR (T8_o t0))) (RX8_readClosing (by omega) hR t0 p1 e_1340 (fun z_1340 h_1341 p_1340 R_1341 => ?_))
        show Rn d _ _ 102 [some (.ref q0), some (.int m1), some (.int ms0)] [.int z_1340] h_1341 Q
        by_cases c_1342 : v_1340 = 0 ∨ v_1340 = 1
        · rw [if_pos c_1342] at e
          obtain rfl := Option.some.inj e
          exact Rn.ret hT rfl rfl (if_pos (ti_b p_1340 c_1342)) (hq z_1340 h_1341 p_1340 R_1341)
        · rw [if_neg c_1342] at e
          cases e
      · rw [if_neg c_1339] at e
        refine Rn.bf hT rfl rfl rfl (decide_eq_false (fun z => c_1339 ((ti_e p_1338 L32_0).mp z))) ?_
        refine Rn.n hT 2 (pc' := 71) (L' := [some (.ref q0), some (.int m1), some (.int ms0)]) (st' := [.ref q0, .ref q0]) rfl ?_
        refine Rn.hp hT rfl rfl (gR_hp (rp_gR hR (T8_o t0) rfl)) ?_
        refine Rn.n hT 1 (pc' := 76) (L' := [some (.ref q0), some (.int m1), some (.int ms0)]) (st' := [.ref 1000014, .ref (q0 + 1), .ref q0]) rfl ?_
        obtain ⟨⟨v_1343, s_1344⟩, e_1343, e⟩ := Option.bind_eq_some_iff.mp e
        try dsimp only at e
        try dsimp only at e
        refine Rn.call hT rfl rfl rfl (Nat.le_of_ble_eq_true rfl) (rcv_v gX6_readWord (by omega) (rp_ck hR (T6_o (T8_0 t0)))) (RX6_readWord (by omega) hR (T8_0 t0) TS_1000014 e_1343 (fun z_1343 h_1344 p_1343 R_1344 => ?_))
        show Rn d _ _ 79 [some (.ref q0), some (.int m1), some (.int ms0)] [.int z_1343, .ref q0] h_1344 Q
        by_cases c_1345 : v_1343 = 0
        · rw [if_pos c_1345] at e
          refine Rn.bf hT rfl rfl rfl (decide_eq_false (fun z => z ((ti_e p_1343 L32_0).mpr c_1345))) ?_
          refine Rn.n hT 2 (pc' := 87) (L' := [some (.ref q0), some (.int m1), some (.int ms0)]) (st' := [.int (2 : Int32), .ref q0]) rfl ?_
          exact Rn.weak (ll_s (ll_n (ll_n ll_e))) (RX8_readBehind_b87 hd R_1344 t0 L32_2 t0 hq e)
        · rw [if_neg c_1345] at e
          refine Rn.bt hT rfl rfl rfl (decide_eq_true (fun z => c_1345 ((ti_e p_1343 L32_0).mp z))) ?_
          refine Rn.n hT 1 (pc' := 87) (L' := [some (.ref q0), some (.int m1), some (.int ms0)]) (st' := [.int (1 : Int32), .ref q0]) rfl ?_
          exact Rn.weak (ll_s (ll_n (ll_n ll_e))) (RX8_readBehind_b87 hd R_1344 t0 L32_1 t0 hq e)
  · rw [if_neg c_1335] at e
    refine Rn.bf hT rfl rfl rfl (decide_eq_false (fun z => c_1335 ((ti_e ps0 L32_m1).mp z))) ?_
    refine Rn.n hT 1 (pc' := 23) (L' := [some (.ref q0), some (.int m1), some (.int ms0)]) (st' := [.ref q0]) rfl ?_
    refine Rn.hp hT rfl rfl (gR_hp (rp_gR hR (T8_o t0) rfl)) ?_
    refine Rn.n hT 1 (pc' := 27) (L' := [some (.ref q0), some (.int m1), some (.int ms0)]) (st' := [.ref (q0 + 1), .ref (q0 + 1)]) rfl ?_
    obtain ⟨z_1348, g_1348, p_1348⟩ : ∃ z : Int32, gI h 6 2 (q0 + 1) = some z ∧ z.toInt = s (q0 + 1) 2 := rp_gI (k := 2) hR (T6_o (T8_0 t0)) rfl
    refine Rn.hp hT rfl rfl (gI_hp g_1348) ?_
    refine Rn.n hT 2 (pc' := 32) (L' := [some (.ref q0), some (.int m1), some (.int ms0)]) (st' := [.int (z_1348 + (1 : Int32)), .ref (q0 + 1)]) rfl ?_
    obtain ⟨s_1349, e_1350, e⟩ := Option.bind_eq_some_iff.mp e
    obtain ⟨h_1349, g_1350, R_1349⟩ := rp_pI (ci := 6) (k := 2) hR (T6_o (T8_0 t0)) rfl rfl (ti_add p_1348 L32_1) e_1350
    refine Rn.hp hT rfl rfl (pV_hp rfl g_1350) ?_
    refine Rn.n hT 2 (pc' := 37) (L' := [some (.ref q0), some (.int m1), some (.int ms0)]) (st' := [.int ms0, .ref q0]) rfl ?_
    obtain ⟨s_1352, e_1351, e⟩ := Option.bind_eq_some_iff.mp e
    refine Rn.call hT rfl rfl rfl (Nat.le_of_ble_eq_true rfl) (rcv_v gX8_join (by omega) (rp_ck R_1349 (T8_o t0))) (RX8_join (by omega) R_1349 t0 ps0 e_1351 (fun h_1352 R_1352 => ?_))
    show Rn d _ _ 40 [some (.ref q0), some (.int m1), some (.int ms0)] [] h_1352 Q
    refine Rn.n hT 2 (pc' := 42) (L' := [some (.ref q0), some (.int m1), some (.int ms0)]) (st' := [.int (2 : Int32), .ref q0]) rfl ?_
    obtain ⟨s_1353, e_1354, e⟩ := Option.bind_eq_some_iff.mp e
    obtain ⟨h_1353, g_1354, R_1353⟩ := rp_pI (ci := 8) (k := 5) R_1352 (T8_o t0) rfl rfl L32_2 e_1354
    refine Rn.hp hT rfl rfl (pV_hp rfl g_1354) ?_
    refine Rn.n hT 1 (pc' := 46) (L' := [some (.ref q0), some (.int m1), some (.int ms0)]) (st' := [.int (1 : Int32)]) rfl ?_
    obtain rfl := Option.some.inj e
    exact Rn.ret hT rfl rfl rfl (hq (1 : Int32) h_1353 L32_1 R_1353)
def FX8_readBehind (N : Nat) (s : iv_M) (q0 : Nat) (x1 : Int) : Option (Int × iv_M) := (if (s q0 5) = 5 then (FX8_readBehind_b16 N s q0 x1 (-1)) else ((FX8_arithmeticOf N s x1).bind fun v_1334 => (FX8_readBehind_b16 N s q0 x1 v_1334)))
set_option maxRecDepth 10000 in
set_option maxHeartbeats 4000000 in
theorem RX8_readBehind {d N nc Ls : Nat} {Xs : Nat → Int32} (hd : 13 ≤ d) {h : iv_H} {s : iv_M} (hR : Rep nc Ls Xs h s) {q0 : Nat} (t0 : T8 nc q0) {m1 : Int32} {x1 : Int} (p1 : m1.toInt = x1) {r : Int × iv_M} {Q : Option Value → iv_H → Prop} (e : FX8_readBehind N s q0 x1 = some r) (hq : ∀ (z : Int32) (h1 : iv_H), z.toInt = r.1 → Rep nc Ls Xs h1 r.2 → Q (some (.int z)) h1) : Cl d 108 [.ref q0, .int m1] h Q := by
  obtain ⟨d, rfl⟩ : ∃ k, d = k + 1 := ⟨d - 1, by omega⟩
  have hd : 12 ≤ d := by omega
  have hT := hX8_readBehind
  unfold FX8_readBehind at e
  refine Cl.into (by decide) gX8_readBehind rfl ?_
  show Rn d 108 (some .boolean) 0 [some (.ref q0), some (.int m1), none] [] h Q
  refine Rn.n hT 1 (pc' := 1) (L' := [some (.ref q0), some (.int m1), none]) (st' := [.ref q0]) rfl ?_
  obtain ⟨z_1332, g_1332, p_1332⟩ : ∃ z : Int32, gI h 8 5 q0 = some z ∧ z.toInt = s q0 5 := rp_gI (k := 5) hR (T8_o t0) rfl
  refine Rn.hp hT rfl rfl (gI_hp g_1332) ?_
  refine Rn.n hT 1 (pc' := 5) (L' := [some (.ref q0), some (.int m1), none]) (st' := [.int (5 : Int32), .int z_1332]) rfl ?_
  by_cases c_1333 : (s q0 5) = 5
  · rw [if_pos c_1333] at e
    refine Rn.bf hT rfl rfl rfl (decide_eq_false (fun z => z ((ti_e p_1332 L32_5).mpr c_1333))) ?_
    refine Rn.n hT 2 (pc' := 16) (L' := [some (.ref q0), some (.int m1), none]) (st' := [.int (-1 : Int32)]) rfl ?_
    exact Rn.weak (ll_s (ll_s (ll_n ll_e))) (RX8_readBehind_b16 hd hR t0 p1 L32_m1 hq e)
  · rw [if_neg c_1333] at e
    refine Rn.bt hT rfl rfl rfl (decide_eq_true (fun z => c_1333 ((ti_e p_1332 L32_5).mp z))) ?_
    refine Rn.n hT 1 (pc' := 13) (L' := [some (.ref q0), some (.int m1), none]) (st' := [.int m1]) rfl ?_
    obtain ⟨v_1334, e_1334, e⟩ := Option.bind_eq_some_iff.mp e
    refine Rn.call hT rfl rfl rfl (Nat.le_of_ble_eq_true rfl) rfl (RX8_arithmeticOf (by omega) hR p1 e_1334 (fun z_1334 p_1334 => ?_))
    show Rn d _ _ 16 [some (.ref q0), some (.int m1), none] [.int z_1334] h Q
    exact Rn.weak (ll_s (ll_s (ll_n ll_e))) (RX8_readBehind_b16 hd hR t0 p1 p_1334 hq e)
set_option maxRecDepth 10000 in
theorem hX8_readNext : iv_Tb 102 tX8_readNext := iv_tb_of (m := mX8_readNext) rfl
set_option maxRecDepth 10000 in
theorem gX8_readNext : PG.2 102 = some mX8_readNext := iv_pi_of (t := tX8_readNext) rfl (by decide)
def FX8_readNext (N : Nat) (s : iv_M) (q0 : Nat) (x1 : Int) : Option (Int × iv_M) := (if (s q0 5) = 0 then ((FX8_readBar N s q0).bind fun s_1362 => (some (1, s_1362))) else (if (s q0 5) = 1 then ((FX8_readFact N s q0 x1).bind fun s_1365 => (some (1, s_1365))) else (if (s q0 5) = 2 then ((FX8_readValue N s q0 x1 1000011).bind fun s_1368 => (some (1, s_1368))) else ((FX8_readBehind N s q0 x1).bind fun r_1369 => (fun (v_1369 : Int) (s_1370 : iv_M) => (if v_1369 = 0 ∨ v_1369 = 1 then some (v_1369, s_1370) else none)) r_1369.1 r_1369.2))))
set_option maxRecDepth 10000 in
set_option maxHeartbeats 4000000 in
theorem RX8_readNext {d N nc Ls : Nat} {Xs : Nat → Int32} (hd : 15 ≤ d) {h : iv_H} {s : iv_M} (hR : Rep nc Ls Xs h s) {q0 : Nat} (t0 : T8 nc q0) {m1 : Int32} {x1 : Int} (p1 : m1.toInt = x1) {r : Int × iv_M} {Q : Option Value → iv_H → Prop} (e : FX8_readNext N s q0 x1 = some r) (hq : ∀ (z : Int32) (h1 : iv_H), z.toInt = r.1 → Rep nc Ls Xs h1 r.2 → Q (some (.int z)) h1) : Cl d 102 [.ref q0, .int m1] h Q := by
  obtain ⟨d, rfl⟩ : ∃ k, d = k + 1 := ⟨d - 1, by omega⟩
  have hd : 14 ≤ d := by omega
  have hT := hX8_readNext
  unfold FX8_readNext at e
  refine Cl.into (by decide) gX8_readNext rfl ?_
  show Rn d 102 (some .boolean) 0 [some (.ref q0), some (.int m1)] [] h Q
  refine Rn.n hT 1 (pc' := 1) (L' := [some (.ref q0), some (.int m1)]) (st' := [.ref q0]) rfl ?_
  obtain ⟨z_1359, g_1359, p_1359⟩ : ∃ z : Int32, gI h 8 5 q0 = some z ∧ z.toInt = s q0 5 := rp_gI (k := 5) hR (T8_o t0) rfl
  refine Rn.hp hT rfl rfl (gI_hp g_1359) ?_
  by_cases c_1360 : (s q0 5) = 0
  · rw [if_pos c_1360] at e
    refine Rn.sw2 hT rfl rfl rfl (if_pos ((ti_e p_1359 L32_0).mpr c_1360)) ?_
    refine Rn.n hT 1 (pc' := 33) (L' := [some (.ref q0), some (.int m1)]) (st' := [.ref q0]) rfl ?_
    obtain ⟨s_1362, e_1361, e⟩ := Option.bind_eq_some_iff.mp e
    refine Rn.call hT rfl rfl rfl (Nat.le_of_ble_eq_true rfl) (rcv_v gX8_readBar (by omega) (rp_ck hR (T8_o t0))) (RX8_readBar (by omega) hR t0 e_1361 (fun h_1362 R_1362 => ?_))
    show Rn d _ _ 36 [some (.ref q0), some (.int m1)] [] h_1362 Q
    refine Rn.n hT 1 (pc' := 37) (L' := [some (.ref q0), some (.int m1)]) (st' := [.int (1 : Int32)]) rfl ?_
    obtain rfl := Option.some.inj e
    exact Rn.ret hT rfl rfl rfl (hq (1 : Int32) h_1362 L32_1 R_1362)
  · rw [if_neg c_1360] at e
    by_cases c_1363 : (s q0 5) = 1
    · rw [if_pos c_1363] at e
      refine Rn.sw2 hT rfl rfl rfl ((if_neg (fun z => c_1360 ((ti_e p_1359 L32_0).mp z))).trans (if_pos ((ti_e p_1359 L32_1).mpr c_1363))) ?_
      refine Rn.n hT 2 (pc' := 40) (L' := [some (.ref q0), some (.int m1)]) (st' := [.int m1, .ref q0]) rfl ?_
      obtain ⟨s_1365, e_1364, e⟩ := Option.bind_eq_some_iff.mp e
      refine Rn.call hT rfl rfl rfl (Nat.le_of_ble_eq_true rfl) (rcv_v gX8_readFact (by omega) (rp_ck hR (T8_o t0))) (RX8_readFact (by omega) hR t0 p1 e_1364 (fun h_1365 R_1365 => ?_))
      show Rn d _ _ 43 [some (.ref q0), some (.int m1)] [] h_1365 Q
      refine Rn.n hT 1 (pc' := 44) (L' := [some (.ref q0), some (.int m1)]) (st' := [.int (1 : Int32)]) rfl ?_
      obtain rfl := Option.some.inj e
      exact Rn.ret hT rfl rfl rfl (hq (1 : Int32) h_1365 L32_1 R_1365)
    · rw [if_neg c_1363] at e
      by_cases c_1366 : (s q0 5) = 2
      · rw [if_pos c_1366] at e
        refine Rn.sw2 hT rfl rfl rfl ((if_neg (fun z => c_1360 ((ti_e p_1359 L32_0).mp z))).trans ((if_neg (fun z => c_1363 ((ti_e p_1359 L32_1).mp z))).trans (if_pos ((ti_e p_1359 L32_2).mpr c_1366)))) ?_
        refine Rn.n hT 3 (pc' := 49) (L' := [some (.ref q0), some (.int m1)]) (st' := [.ref 1000011, .int m1, .ref q0]) rfl ?_
        obtain ⟨s_1368, e_1367, e⟩ := Option.bind_eq_some_iff.mp e
        refine Rn.call hT rfl rfl rfl (Nat.le_of_ble_eq_true rfl) (rcv_v gX8_readValue (by omega) (rp_ck hR (T8_o t0))) (RX8_readValue (by omega) hR t0 p1 TS_1000011 e_1367 (fun h_1368 R_1368 => ?_))
        show Rn d _ _ 52 [some (.ref q0), some (.int m1)] [] h_1368 Q
        refine Rn.n hT 1 (pc' := 53) (L' := [some (.ref q0), some (.int m1)]) (st' := [.int (1 : Int32)]) rfl ?_
        obtain rfl := Option.some.inj e
        exact Rn.ret hT rfl rfl rfl (hq (1 : Int32) h_1368 L32_1 R_1368)
      · rw [if_neg c_1366] at e
        refine Rn.sw2 hT rfl rfl rfl ((if_neg (fun z => c_1360 ((ti_e p_1359 L32_0).mp z))).trans ((if_neg (fun z => c_1363 ((ti_e p_1359 L32_1).mp z))).trans ((if_neg (fun z => c_1366 ((ti_e p_1359 L32_2).mp z))).trans rfl))) ?_
        refine Rn.n hT 2 (pc' := 56) (L' := [some (.ref q0), some (.int m1)]) (st' := [.int m1, .ref q0]) rfl ?_
        obtain ⟨⟨v_1369, s_1370⟩, e_1369, e⟩ := Option.bind_eq_some_iff.mp e
        try dsimp only at e
        try dsimp only at e
        refine Rn.call hT rfl rfl rfl (Nat.le_of_ble_eq_true rfl) (rcv_v gX8_readBehind (by omega) (rp_ck hR (T8_o t0))) (RX8_readBehind (by omega) hR t0 p1 e_1369 (fun z_1369 h_1370 p_1369 R_1370 => ?_))
        show Rn d _ _ 59 [some (.ref q0), some (.int m1)] [.int z_1369] h_1370 Q
        by_cases c_1371 : v_1369 = 0 ∨ v_1369 = 1
        · rw [if_pos c_1371] at e
          obtain rfl := Option.some.inj e
          exact Rn.ret hT rfl rfl (if_pos (ti_b p_1369 c_1371)) (hq z_1369 h_1370 p_1369 R_1370)
        · rw [if_neg c_1371] at e
          cases e
set_option maxRecDepth 10000 in
theorem hX8_read : iv_Tb 100 tX8_read := iv_tb_of (m := mX8_read) rfl
set_option maxRecDepth 10000 in
theorem gX8_read : PG.2 100 = some mX8_read := iv_pi_of (t := tX8_read) rfl (by decide)
def FX8_read_b95 (N : Nat) (s : iv_M) (q0 : Nat) (x4 : Int) (xs0 : Int) (kb : iv_M → Int → Int → Option (Int × iv_M)) (kx : iv_M → Option (Int × iv_M)) : Option (Int × iv_M) := (kb s xs0 (w32 (x4 + 1)))
set_option maxRecDepth 10000 in
set_option maxHeartbeats 4000000 in
theorem RX8_read_b95 {d N nc Ls : Nat} {Xs : Nat → Int32} (hd : 15 ≤ d) {h : iv_H} {s : iv_M} (hR : Rep nc Ls Xs h s) {q0 : Nat} (t0 : T8 nc q0) {m4 : Int32} {x4 : Int} (p4 : m4.toInt = x4) {ms0 : Int32} {xs0 : Int} (ps0 : ms0.toInt = xs0) {kb : iv_M → Int → Int → Option (Int × iv_M)} {kx : iv_M → Option (Int × iv_M)} {r : Int × iv_M} {Q : Option Value → iv_H → Prop} (hb : ∀ (h : iv_H) (s : iv_M) (hR : Rep nc Ls Xs h s) (mw3 : Int32) (xw3 : Int) (pw3 : mw3.toInt = xw3) (mw4 : Int32) (xw4 : Int) (pw4 : mw4.toInt = xw4), kb s xw3 xw4 = some r → Rn d 100 (some .int) 54 [some (.ref q0), none, none, some (.int mw3), some (.int mw4)] [] h Q) (hk : ∀ (h : iv_H) (s : iv_M) (hR : Rep nc Ls Xs h s), kx s = some r → Rn d 100 (some .int) 102 [some (.ref q0), none, none, none, none] [] h Q) (hq : ∀ (z : Int32) (h1 : iv_H), z.toInt = r.1 → Rep nc Ls Xs h1 r.2 → Q (some (.int z)) h1) (e : FX8_read_b95 N s q0 x4 xs0 kb kx = some r) : Rn d 100 (some .int) 95 [some (.ref q0), none, none, none, some (.int m4)] [.int ms0] h Q := by
  have hT := hX8_read
  unfold FX8_read_b95 at e
  refine Rn.n hT 3 (pc' := 54) (L' := [some (.ref q0), none, none, some (.int ms0), some (.int (m4 + (1 : Int32)))]) (st' := []) rfl ?_
  exact Rn.weak (ll_s (ll_n (ll_n (ll_s (ll_s ll_e))))) (hb h s hR ms0 xs0 ps0 (m4 + (1 : Int32)) (w32 (x4 + 1)) (ti_add p4 L32_1) e)
def FX8_read_b94 (N : Nat) (s : iv_M) (q0 : Nat) (x4 : Int)  (kb : iv_M → Int → Int → Option (Int × iv_M)) (kx : iv_M → Option (Int × iv_M)) : Option (Int × iv_M) := (FX8_read_b95 N s q0 x4 0 kb kx)
set_option maxRecDepth 10000 in
set_option maxHeartbeats 4000000 in
theorem RX8_read_b94 {d N nc Ls : Nat} {Xs : Nat → Int32} (hd : 15 ≤ d) {h : iv_H} {s : iv_M} (hR : Rep nc Ls Xs h s) {q0 : Nat} (t0 : T8 nc q0) {m4 : Int32} {x4 : Int} (p4 : m4.toInt = x4)  {kb : iv_M → Int → Int → Option (Int × iv_M)} {kx : iv_M → Option (Int × iv_M)} {r : Int × iv_M} {Q : Option Value → iv_H → Prop} (hb : ∀ (h : iv_H) (s : iv_M) (hR : Rep nc Ls Xs h s) (mw3 : Int32) (xw3 : Int) (pw3 : mw3.toInt = xw3) (mw4 : Int32) (xw4 : Int) (pw4 : mw4.toInt = xw4), kb s xw3 xw4 = some r → Rn d 100 (some .int) 54 [some (.ref q0), none, none, some (.int mw3), some (.int mw4)] [] h Q) (hk : ∀ (h : iv_H) (s : iv_M) (hR : Rep nc Ls Xs h s), kx s = some r → Rn d 100 (some .int) 102 [some (.ref q0), none, none, none, none] [] h Q) (hq : ∀ (z : Int32) (h1 : iv_H), z.toInt = r.1 → Rep nc Ls Xs h1 r.2 → Q (some (.int z)) h1) (e : FX8_read_b94 N s q0 x4  kb kx = some r) : Rn d 100 (some .int) 94 [some (.ref q0), none, none, none, some (.int m4)] [] h Q := by
  have hT := hX8_read
  unfold FX8_read_b94 at e
  refine Rn.n hT 1 (pc' := 95) (L' := [some (.ref q0), none, none, none, some (.int m4)]) (st' := [.int (0 : Int32)]) rfl ?_
  exact Rn.weak (ll_s (ll_n (ll_n (ll_n (ll_s ll_e))))) (RX8_read_b95 hd hR t0 p4 L32_0 hb hk hq e)
def FX8_read_l54 (N : Nat) (q0 : Nat) (kx : iv_M → Option (Int × iv_M)) : Nat → iv_M → Int → Int → Option (Int × iv_M)
  | 0, _, _, _ => none
  | n + 1, s, x3, x4 => (if 400 < x4 then (kx s) else (if x3 = 0 then (kx s) else ((FX6_skipBlanks N s (q0 + 1)).bind fun r_1394 => (fun (v_1394 : Int) (s_1395 : iv_M) => ((FX8_readNext N s_1395 q0 v_1394).bind fun r_1396 => (fun (v_1396 : Int) (s_1397 : iv_M) => (if v_1396 = 0 then (FX8_read_b94 N s_1397 q0 x4 (FX8_read_l54 N q0 kx n) kx) else (if (s_1397 (q0 + 1) 4) = 0 then (FX8_read_b95 N s_1397 q0 x4 1 (FX8_read_l54 N q0 kx n) kx) else (FX8_read_b94 N s_1397 q0 x4 (FX8_read_l54 N q0 kx n) kx)))) r_1396.1 r_1396.2)) r_1394.1 r_1394.2)))
set_option maxRecDepth 10000 in
set_option maxHeartbeats 4000000 in
theorem RX8_read_l54 {d N nc Ls : Nat} {Xs : Nat → Int32} (hd : 15 ≤ d) {q0 : Nat} (t0 : T8 nc q0) {kx : iv_M → Option (Int × iv_M)} {r : Int × iv_M} {Q : Option Value → iv_H → Prop} (hk : ∀ (h : iv_H) (s : iv_M) (hR : Rep nc Ls Xs h s), kx s = some r → Rn d 100 (some .int) 102 [some (.ref q0), none, none, none, none] [] h Q) (hq : ∀ (z : Int32) (h1 : iv_H), z.toInt = r.1 → Rep nc Ls Xs h1 r.2 → Q (some (.int z)) h1) : ∀ (n : Nat) (h : iv_H) (s : iv_M) (hR : Rep nc Ls Xs h s) (m3 : Int32) (x3 : Int) (p3 : m3.toInt = x3) (m4 : Int32) (x4 : Int) (p4 : m4.toInt = x4), FX8_read_l54 N q0 kx n s x3 x4 = some r → Rn d 100 (some .int) 54 [some (.ref q0), none, none, some (.int m3), some (.int m4)] [] h Q := by
  have hT := hX8_read
  intro n
  induction n with
  | zero =>
    intro h s hR m3 x3 p3 m4 x4 p4 e
    rw [FX8_read_l54] at e
    cases e
  | succ n ih =>
    intro h s hR m3 x3 p3 m4 x4 p4 e
    rw [FX8_read_l54] at e
    refine Rn.n hT 2 (pc' := 59) (L' := [some (.ref q0), none, none, some (.int m3), some (.int m4)]) (st' := [.int (400 : Int32), .int m4]) rfl ?_
    by_cases c_1392 : 400 < x4
    · rw [if_pos c_1392] at e
      refine Rn.bt hT rfl rfl rfl (decide_eq_true ((ti_l L32_400 p4).mpr c_1392)) ?_
      exact Rn.weak (ll_s (ll_n (ll_n (ll_n (ll_n ll_e))))) (hk h s hR e)
    · rw [if_neg c_1392] at e
      refine Rn.bf hT rfl rfl rfl (decide_eq_false (fun z => c_1392 ((ti_l L32_400 p4).mp z))) ?_
      refine Rn.n hT 1 (pc' := 63) (L' := [some (.ref q0), none, none, some (.int m3), some (.int m4)]) (st' := [.int m3]) rfl ?_
      by_cases c_1393 : x3 = 0
      · rw [if_pos c_1393] at e
        refine Rn.bt hT rfl rfl rfl (decide_eq_true ((ti_e p3 L32_0).mpr c_1393)) ?_
        exact Rn.weak (ll_s (ll_n (ll_n (ll_n (ll_n ll_e))))) (hk h s hR e)
      · rw [if_neg c_1393] at e
        refine Rn.bf hT rfl rfl rfl (decide_eq_false (fun z => c_1393 ((ti_e p3 L32_0).mp z))) ?_
        refine Rn.n hT 2 (pc' := 68) (L' := [some (.ref q0), none, none, some (.int m3), some (.int m4)]) (st' := [.ref q0, .ref q0]) rfl ?_
        refine Rn.hp hT rfl rfl (gR_hp (rp_gR hR (T8_o t0) rfl)) ?_
        obtain ⟨⟨v_1394, s_1395⟩, e_1394, e⟩ := Option.bind_eq_some_iff.mp e
        try dsimp only at e
        try dsimp only at e
        refine Rn.call hT rfl rfl rfl (Nat.le_of_ble_eq_true rfl) (rcv_v gX6_skipBlanks (by omega) (rp_ck hR (T6_o (T8_0 t0)))) (RX6_skipBlanks (by omega) hR (T8_0 t0) e_1394 (fun z_1394 h_1395 p_1394 R_1395 => ?_))
        show Rn d _ _ 74 [some (.ref q0), none, none, some (.int m3), some (.int m4)] [.int z_1394, .ref q0] h_1395 Q
        obtain ⟨⟨v_1396, s_1397⟩, e_1396, e⟩ := Option.bind_eq_some_iff.mp e
        try dsimp only at e
        try dsimp only at e
        refine Rn.call hT rfl rfl rfl (Nat.le_of_ble_eq_true rfl) (rcv_v gX8_readNext (by omega) (rp_ck R_1395 (T8_o t0))) (RX8_readNext (by omega) R_1395 t0 p_1394 e_1396 (fun z_1396 h_1397 p_1396 R_1397 => ?_))
        show Rn d _ _ 77 [some (.ref q0), none, none, some (.int m3), some (.int m4)] [.int z_1396] h_1397 Q
        by_cases c_1398 : v_1396 = 0
        · rw [if_pos c_1398] at e
          refine Rn.bt hT rfl rfl rfl (decide_eq_true ((ti_e p_1396 L32_0).mpr c_1398)) ?_
          exact Rn.weak (ll_s (ll_n (ll_n (ll_n (ll_s ll_e))))) (RX8_read_b94 hd R_1397 t0 p4 ih hk hq e)
        · rw [if_neg c_1398] at e
          refine Rn.bf hT rfl rfl rfl (decide_eq_false (fun z => c_1398 ((ti_e p_1396 L32_0).mp z))) ?_
          refine Rn.n hT 1 (pc' := 81) (L' := [some (.ref q0), none, none, some (.int m3), some (.int m4)]) (st' := [.ref q0]) rfl ?_
          refine Rn.hp hT rfl rfl (gR_hp (rp_gR R_1397 (T8_o t0) rfl)) ?_
          obtain ⟨z_1399, g_1399, p_1399⟩ : ∃ z : Int32, gI h_1397 6 4 (q0 + 1) = some z ∧ z.toInt = s_1397 (q0 + 1) 4 := rp_gI (k := 4) R_1397 (T6_o (T8_0 t0)) rfl
          refine Rn.hp hT rfl rfl (gI_hp g_1399) ?_
          by_cases c_1400 : (s_1397 (q0 + 1) 4) = 0
          · rw [if_pos c_1400] at e
            refine Rn.bf hT rfl rfl rfl (decide_eq_false (fun z => z ((ti_e p_1399 L32_0).mpr c_1400))) ?_
            refine Rn.n hT 2 (pc' := 95) (L' := [some (.ref q0), none, none, some (.int m3), some (.int m4)]) (st' := [.int (1 : Int32)]) rfl ?_
            exact Rn.weak (ll_s (ll_n (ll_n (ll_n (ll_s ll_e))))) (RX8_read_b95 hd R_1397 t0 p4 L32_1 ih hk hq e)
          · rw [if_neg c_1400] at e
            refine Rn.bt hT rfl rfl rfl (decide_eq_true (fun z => c_1400 ((ti_e p_1399 L32_0).mp z))) ?_
            exact Rn.weak (ll_s (ll_n (ll_n (ll_n (ll_s ll_e))))) (RX8_read_b94 hd R_1397 t0 p4 ih hk hq e)
def FX8_read_b102 (N : Nat) (s : iv_M) (q0 : Nat)  : Option (Int × iv_M) := (some ((s (q0 + 1) 4), s))
set_option maxRecDepth 10000 in
set_option maxHeartbeats 4000000 in
theorem RX8_read_b102 {d N nc Ls : Nat} {Xs : Nat → Int32} (hd : 15 ≤ d) {h : iv_H} {s : iv_M} (hR : Rep nc Ls Xs h s) {q0 : Nat} (t0 : T8 nc q0)  {r : Int × iv_M} {Q : Option Value → iv_H → Prop} (hq : ∀ (z : Int32) (h1 : iv_H), z.toInt = r.1 → Rep nc Ls Xs h1 r.2 → Q (some (.int z)) h1) (e : FX8_read_b102 N s q0  = some r) : Rn d 100 (some .int) 102 [some (.ref q0), none, none, none, none] [] h Q := by
  have hT := hX8_read
  unfold FX8_read_b102 at e
  refine Rn.n hT 1 (pc' := 103) (L' := [some (.ref q0), none, none, none, none]) (st' := [.ref q0]) rfl ?_
  refine Rn.hp hT rfl rfl (gR_hp (rp_gR hR (T8_o t0) rfl)) ?_
  obtain ⟨z_1401, g_1401, p_1401⟩ : ∃ z : Int32, gI h 6 4 (q0 + 1) = some z ∧ z.toInt = s (q0 + 1) 4 := rp_gI (k := 4) hR (T6_o (T8_0 t0)) rfl
  refine Rn.hp hT rfl rfl (gI_hp g_1401) ?_
  obtain rfl := Option.some.inj e
  exact Rn.ret hT rfl rfl rfl (hq z_1401 h p_1401 hR)
def FX8_read (N : Nat) (s : iv_M) (q0 : Nat) (q1 : Nat) (x2 : Int) : Option (Int × iv_M) := ((FX6_open N s (q0 + 1) q1 x2).bind fun s_1373 => ((pt s_1373 q0 2 0).bind fun s_1374 => ((pt s_1374 q0 4 0).bind fun s_1376 => ((pt s_1376 q0 5 0).bind fun s_1378 => ((pt s_1378 q0 6 0).bind fun s_1380 => ((pt s_1380 q0 7 0).bind fun s_1382 => ((pt s_1382 q0 8 0).bind fun s_1384 => ((pt s_1384 q0 9 0).bind fun s_1386 => ((pt s_1386 q0 10 0).bind fun s_1388 => (FX8_read_l54 N q0 (fun (s_1390 : iv_M) => (FX8_read_b102 N s_1390 q0)) N s_1388 1 0))))))))))
set_option maxRecDepth 10000 in
set_option maxHeartbeats 4000000 in
theorem RX8_read {d N nc Ls : Nat} {Xs : Nat → Int32} (hd : 16 ≤ d) {h : iv_H} {s : iv_M} (hR : Rep nc Ls Xs h s) {q0 : Nat} (t0 : T8 nc q0) {q1 : Nat} (t1 : TA 2 nc q1) {m2 : Int32} {x2 : Int} (p2 : m2.toInt = x2) {r : Int × iv_M} {Q : Option Value → iv_H → Prop} (e : FX8_read N s q0 q1 x2 = some r) (hq : ∀ (z : Int32) (h1 : iv_H), z.toInt = r.1 → Rep nc Ls Xs h1 r.2 → Q (some (.int z)) h1) : Cl d 100 [.ref q0, .ref q1, .int m2] h Q := by
  obtain ⟨d, rfl⟩ : ∃ k, d = k + 1 := ⟨d - 1, by omega⟩
  have hd : 15 ≤ d := by omega
  have hT := hX8_read
  unfold FX8_read at e
  refine Cl.into (by decide) gX8_read rfl ?_
  show Rn d 100 (some .int) 0 [some (.ref q0), some (.ref q1), some (.int m2), none, none] [] h Q
  refine Rn.n hT 1 (pc' := 1) (L' := [some (.ref q0), some (.ref q1), some (.int m2), none, none]) (st' := [.ref q0]) rfl ?_
  refine Rn.hp hT rfl rfl (gR_hp (rp_gR hR (T8_o t0) rfl)) ?_
  refine Rn.n hT 2 (pc' := 6) (L' := [some (.ref q0), some (.ref q1), some (.int m2), none, none]) (st' := [.int m2, .ref q1, .ref (q0 + 1)]) rfl ?_
  obtain ⟨s_1373, e_1372, e⟩ := Option.bind_eq_some_iff.mp e
  refine Rn.call hT rfl rfl rfl (Nat.le_of_ble_eq_true rfl) (rcv_v gX6_open (by omega) (rp_ck hR (T6_o (T8_0 t0)))) (RX6_open (by omega) hR (T8_0 t0) t1 p2 e_1372 (fun h_1373 R_1373 => ?_))
  show Rn d _ _ 9 [some (.ref q0), some (.ref q1), some (.int m2), none, none] [] h_1373 Q
  refine Rn.n hT 2 (pc' := 11) (L' := [some (.ref q0), some (.ref q1), some (.int m2), none, none]) (st' := [.int (0 : Int32), .ref q0]) rfl ?_
  obtain ⟨s_1374, e_1375, e⟩ := Option.bind_eq_some_iff.mp e
  obtain ⟨h_1374, g_1375, R_1374⟩ := rp_pI (ci := 8) (k := 2) R_1373 (T8_o t0) rfl rfl L32_0 e_1375
  refine Rn.hp hT rfl rfl (pV_hp rfl g_1375) ?_
  refine Rn.n hT 2 (pc' := 16) (L' := [some (.ref q0), some (.ref q1), some (.int m2), none, none]) (st' := [.int (0 : Int32), .ref q0]) rfl ?_
  obtain ⟨s_1376, e_1377, e⟩ := Option.bind_eq_some_iff.mp e
  obtain ⟨h_1376, g_1377, R_1376⟩ := rp_pI (ci := 8) (k := 4) R_1374 (T8_o t0) rfl rfl L32_0 e_1377
  refine Rn.hp hT rfl rfl (pV_hp rfl g_1377) ?_
  refine Rn.n hT 2 (pc' := 21) (L' := [some (.ref q0), some (.ref q1), some (.int m2), none, none]) (st' := [.int (0 : Int32), .ref q0]) rfl ?_
  obtain ⟨s_1378, e_1379, e⟩ := Option.bind_eq_some_iff.mp e
  obtain ⟨h_1378, g_1379, R_1378⟩ := rp_pI (ci := 8) (k := 5) R_1376 (T8_o t0) rfl rfl L32_0 e_1379
  refine Rn.hp hT rfl rfl (pV_hp rfl g_1379) ?_
  refine Rn.n hT 2 (pc' := 26) (L' := [some (.ref q0), some (.ref q1), some (.int m2), none, none]) (st' := [.int (0 : Int32), .ref q0]) rfl ?_
  obtain ⟨s_1380, e_1381, e⟩ := Option.bind_eq_some_iff.mp e
  obtain ⟨h_1380, g_1381, R_1380⟩ := rp_pI (ci := 8) (k := 6) R_1378 (T8_o t0) rfl rfl L32_0 e_1381
  refine Rn.hp hT rfl rfl (pV_hp (by decide) g_1381) ?_
  refine Rn.n hT 2 (pc' := 31) (L' := [some (.ref q0), some (.ref q1), some (.int m2), none, none]) (st' := [.int (0 : Int32), .ref q0]) rfl ?_
  obtain ⟨s_1382, e_1383, e⟩ := Option.bind_eq_some_iff.mp e
  obtain ⟨h_1382, g_1383, R_1382⟩ := rp_pI (ci := 8) (k := 7) R_1380 (T8_o t0) rfl rfl L32_0 e_1383
  refine Rn.hp hT rfl rfl (pV_hp rfl g_1383) ?_
  refine Rn.n hT 2 (pc' := 36) (L' := [some (.ref q0), some (.ref q1), some (.int m2), none, none]) (st' := [.int (0 : Int32), .ref q0]) rfl ?_
  obtain ⟨s_1384, e_1385, e⟩ := Option.bind_eq_some_iff.mp e
  obtain ⟨h_1384, g_1385, R_1384⟩ := rp_pI (ci := 8) (k := 8) R_1382 (T8_o t0) rfl rfl L32_0 e_1385
  refine Rn.hp hT rfl rfl (pV_hp rfl g_1385) ?_
  refine Rn.n hT 2 (pc' := 41) (L' := [some (.ref q0), some (.ref q1), some (.int m2), none, none]) (st' := [.int (0 : Int32), .ref q0]) rfl ?_
  obtain ⟨s_1386, e_1387, e⟩ := Option.bind_eq_some_iff.mp e
  obtain ⟨h_1386, g_1387, R_1386⟩ := rp_pI (ci := 8) (k := 9) R_1384 (T8_o t0) rfl rfl L32_0 e_1387
  refine Rn.hp hT rfl rfl (pV_hp rfl g_1387) ?_
  refine Rn.n hT 2 (pc' := 46) (L' := [some (.ref q0), some (.ref q1), some (.int m2), none, none]) (st' := [.int (0 : Int32), .ref q0]) rfl ?_
  obtain ⟨s_1388, e_1389, e⟩ := Option.bind_eq_some_iff.mp e
  obtain ⟨h_1388, g_1389, R_1388⟩ := rp_pI (ci := 8) (k := 10) R_1386 (T8_o t0) rfl rfl L32_0 e_1389
  refine Rn.hp hT rfl rfl (pV_hp rfl g_1389) ?_
  refine Rn.n hT 4 (pc' := 54) (L' := [some (.ref q0), some (.ref q1), some (.int m2), some (.int (1 : Int32)), some (.int (0 : Int32))]) (st' := []) rfl ?_
  refine Rn.weak (ll_s (ll_n (ll_n (ll_s (ll_s ll_e))))) (RX8_read_l54 hd t0 (fun h_1390 s_1390 R_1390 e => ?_) hq N h_1388 s_1388 R_1388 (1 : Int32) 1 L32_1 (0 : Int32) 0 L32_0 e)
  try dsimp only at e
  exact Rn.weak (ll_s (ll_n (ll_n (ll_n (ll_n ll_e))))) (RX8_read_b102 hd R_1390 t0 hq e)
set_option maxRecDepth 10000 in
theorem hX8_copyTo : iv_Tb 101 tX8_copyTo := iv_tb_of (m := mX8_copyTo) rfl
set_option maxRecDepth 10000 in
theorem gX8_copyTo : PG.2 101 = some mX8_copyTo := iv_pi_of (t := tX8_copyTo) rfl (by decide)
def FX8_copyTo (N : Nat) (s : iv_M) (q0 : Nat) (q1 : Nat) : Option (iv_M) := ((FJ7_fill_53178 N s q1 0).bind fun s_1403 => ((cp s_1403 (q0 + 3) 401 0 q1 ((sh q1).2 : Int) 0 (mnI (s_1403 q0 2) ((sh q1).2 : Int))).bind fun s_1408 => some s_1408))
set_option maxRecDepth 10000 in
set_option maxHeartbeats 4000000 in
theorem RX8_copyTo {d N nc Ls : Nat} {Xs : Nat → Int32} (hd : 2 ≤ d) {h : iv_H} {s : iv_M} (hR : Rep nc Ls Xs h s) {q0 : Nat} (t0 : T8 nc q0) {q1 : Nat} (t1 : TA 0 nc q1) {r : iv_M} {Q : Option Value → iv_H → Prop} (e : FX8_copyTo N s q0 q1 = some r) (hq : ∀ h1, Rep nc Ls Xs h1 r → Q none h1) : Cl d 101 [.ref q0, .ref q1] h Q := by
  obtain ⟨d, rfl⟩ : ∃ k, d = k + 1 := ⟨d - 1, by omega⟩
  have hd : 1 ≤ d := by omega
  have hT := hX8_copyTo
  unfold FX8_copyTo at e
  refine Cl.into (by decide) gX8_copyTo rfl ?_
  show Rn d 101 none 0 [some (.ref q0), some (.ref q1)] [] h Q
  refine Rn.n hT 2 (pc' := 2) (L' := [some (.ref q0), some (.ref q1)]) (st' := [.int (0 : Int32), .ref q1]) rfl ?_
  obtain ⟨s_1403, e_1402, e⟩ := Option.bind_eq_some_iff.mp e
  refine Rn.call hT rfl rfl rfl (Nat.le_of_ble_eq_true rfl) rfl (RJ7_fill_53178 (by omega) hR t1 L32_0 e_1402 (fun h_1403 R_1403 => ?_))
  show Rn d _ _ 5 [some (.ref q0), some (.ref q1)] [] h_1403 Q
  refine Rn.n hT 1 (pc' := 6) (L' := [some (.ref q0), some (.ref q1)]) (st' := [.ref q0]) rfl ?_
  refine Rn.hp hT rfl rfl (gR_hp (rp_gR R_1403 (T8_o t0) rfl)) ?_
  refine Rn.n hT 4 (pc' := 13) (L' := [some (.ref q0), some (.ref q1)]) (st' := [.ref q0, .int (0 : Int32), .ref q1, .int (0 : Int32), .ref (q0 + 3)]) rfl ?_
  obtain ⟨z_1404, g_1404, p_1404⟩ : ∃ z : Int32, gI h_1403 8 2 q0 = some z ∧ z.toInt = s_1403 q0 2 := rp_gI (k := 2) R_1403 (T8_o t0) rfl
  refine Rn.hp hT rfl rfl (gI_hp g_1404) ?_
  refine Rn.n hT 1 (pc' := 17) (L' := [some (.ref q0), some (.ref q1)]) (st' := [.ref q1, .int z_1404, .int (0 : Int32), .ref q1, .int (0 : Int32), .ref (q0 + 3)]) rfl ?_
  obtain ⟨z_1405, g_1405, p_1405⟩ : ∃ z : Int32, aL h_1403 q1 = some z ∧ z.toInt = ((sh q1).2 : Int) := rp_aL R_1403 t1 (Or.inl rfl) rfl
  refine Rn.hp hT rfl rfl (aL_hp g_1405) ?_
  refine Rn.hp hT rfl rfl (mn_hp (Nat.le_of_ble_eq_true rfl)) ?_
  obtain ⟨s_1408, e_1407, e⟩ := Option.bind_eq_some_iff.mp e
  obtain ⟨h_1408, g_1407, R_1408⟩ := rp_cp R_1403 (T8_1 t0) (T8_1l t0) L32_0 t1 rfl L32_0 (ti_mn p_1404 p_1405) e_1407
  refine Rn.hp hT rfl rfl (cpA_hp (Nat.le_of_ble_eq_true rfl) g_1407) ?_
  obtain rfl := Option.some.inj e
  exact Rn.ret hT rfl rfl rfl (hq h_1408 R_1408)
