-- FLAT MIRRORS, 6 (written by wip/whole/mir2.py)
set_option maxRecDepth 10000 in
theorem hX11_wish : iv_Tb 174 tX11_wish := iv_tb_of (m := mX11_wish) rfl
set_option maxRecDepth 10000 in
theorem gX11_wish : PG.2 174 = some mX11_wish := iv_pi_of (t := tX11_wish) rfl (by decide)
def FX11_wish_b60 (N : Nat) (s : iv_M)   : Option (Int × iv_M) := (some ((-2), s))
set_option maxRecDepth 10000 in
set_option maxHeartbeats 4000000 in
theorem RX11_wish_b60 {d N nc Ls : Nat} {Xs : Nat → Int32} (hd : 1 ≤ d) {h : iv_H} {s : iv_M} (hR : Rep nc Ls Xs h s)   {r : Int × iv_M} {Q : Option Value → iv_H → Prop} (hq : ∀ (z : Int32) (h1 : iv_H), z.toInt = r.1 → Rep nc Ls Xs h1 r.2 → Q (some (.int z)) h1) (e : FX11_wish_b60 N s   = some r) : Rn d 174 (some .int) 60 [none, none, none, none, none, none] [] h Q := by
  have hT := hX11_wish
  unfold FX11_wish_b60 at e
  refine Rn.n hT 1 (pc' := 62) (L' := [none, none, none, none, none, none]) (st' := [.int (-2 : Int32)]) rfl ?_
  obtain rfl := Option.some.inj e
  exact Rn.ret hT rfl rfl rfl (hq (-2 : Int32) h L32_m2 hR)
def FX11_wish_b103 (N : Nat) (s : iv_M)  (xs0 : Int) : Option (Int × iv_M) := (some (xs0, s))
set_option maxRecDepth 10000 in
set_option maxHeartbeats 4000000 in
theorem RX11_wish_b103 {d N nc Ls : Nat} {Xs : Nat → Int32} (hd : 1 ≤ d) {h : iv_H} {s : iv_M} (hR : Rep nc Ls Xs h s)  {ms0 : Int32} {xs0 : Int} (ps0 : ms0.toInt = xs0) {r : Int × iv_M} {Q : Option Value → iv_H → Prop} (hq : ∀ (z : Int32) (h1 : iv_H), z.toInt = r.1 → Rep nc Ls Xs h1 r.2 → Q (some (.int z)) h1) (e : FX11_wish_b103 N s  xs0 = some r) : Rn d 174 (some .int) 103 [none, none, none, none, none, none] [.int ms0] h Q := by
  have hT := hX11_wish
  unfold FX11_wish_b103 at e
  obtain rfl := Option.some.inj e
  exact Rn.ret hT rfl rfl rfl (hq ms0 h ps0 hR)
def FX11_wish (N : Nat) (s : iv_M) (q0 : Nat) (x1 : Int) (x2 : Int) (x3 : Int) (x4 : Int) : Option (Int × iv_M) := (if x1 = (-1) then ((pt s ((s q0 4).toNat + 18) 1 0).bind fun s_2128 => (some (0, s_2128))) else ((FX1_cellAt N s ((s q0 4).toNat + 1) x3 x4).bind fun v_2118 => ((FX2_isPerson N s ((s q0 4).toNat) x1).bind fun v_2119 => (if v_2119 = 0 then (FX11_wish_b60 N s) else (if x2 < 0 then (FX11_wish_b60 N s) else (if 10 < x2 then (FX11_wish_b60 N s) else (if v_2118 = (-1) then (FX11_wish_b60 N s) else ((FX7_add N s ((s q0 4).toNat + 18) (bOr (bOr (sl32 x1 8) (sl32 x2 4)) v_2118)).bind fun r_2124 => (fun (v_2124 : Int) (s_2125 : iv_M) => (if v_2124 = 0 then (FX11_wish_b103 N s_2125 (-2)) else (FX11_wish_b103 N s_2125 (s_2125 ((s_2125 q0 4).toNat + 18) 1)))) r_2124.1 r_2124.2))))))))
set_option maxRecDepth 10000 in
set_option maxHeartbeats 4000000 in
theorem RX11_wish {d N nc Ls : Nat} {Xs : Nat → Int32} (hd : 2 ≤ d) {h : iv_H} {s : iv_M} (hR : Rep nc Ls Xs h s) {q0 : Nat} (t0 : T11 nc q0) {m1 : Int32} {x1 : Int} (p1 : m1.toInt = x1) {m2 : Int32} {x2 : Int} (p2 : m2.toInt = x2) {m3 : Int32} {x3 : Int} (p3 : m3.toInt = x3) {m4 : Int32} {x4 : Int} (p4 : m4.toInt = x4) {r : Int × iv_M} {Q : Option Value → iv_H → Prop} (e : FX11_wish N s q0 x1 x2 x3 x4 = some r) (hq : ∀ (z : Int32) (h1 : iv_H), z.toInt = r.1 → Rep nc Ls Xs h1 r.2 → Q (some (.int z)) h1) : Cl d 174 [.ref q0, .int m1, .int m2, .int m3, .int m4] h Q := by
  obtain ⟨d, rfl⟩ : ∃ k, d = k + 1 := ⟨d - 1, by omega⟩
  have hd : 1 ≤ d := by omega
  have hT := hX11_wish
  unfold FX11_wish at e
  refine Cl.into (by decide) gX11_wish rfl ?_
  show Rn d 174 (some .int) 0 [some (.ref q0), some (.int m1), some (.int m2), some (.int m3), some (.int m4), none] [] h Q
  refine Rn.n hT 2 (pc' := 2) (L' := [some (.ref q0), some (.int m1), some (.int m2), some (.int m3), some (.int m4), none]) (st' := [.int (-1 : Int32), .int m1]) rfl ?_
  by_cases c_2117 : x1 = (-1)
  · rw [if_pos c_2117] at e
    refine Rn.bf hT rfl rfl rfl (decide_eq_false (fun z => z ((ti_e p1 L32_m1).mpr c_2117))) ?_
    refine Rn.n hT 1 (pc' := 6) (L' := [some (.ref q0), some (.int m1), some (.int m2), some (.int m3), some (.int m4), none]) (st' := [.ref q0]) rfl ?_
    refine Rn.hp hT rfl rfl (gR_hp (rp_gP (k := 4) hR (T11_o t0) rfl (nn_114 hR t0))) ?_
    refine Rn.hp hT rfl rfl (gR_hp (rp_gR hR (T2_o (ty_114 hR t0)) rfl)) ?_
    refine Rn.n hT 1 (pc' := 13) (L' := [some (.ref q0), some (.int m1), some (.int m2), some (.int m3), some (.int m4), none]) (st' := [.int (0 : Int32), .ref ((s q0 4).toNat + 18)]) rfl ?_
    obtain ⟨s_2128, e_2129, e⟩ := Option.bind_eq_some_iff.mp e
    obtain ⟨h_2128, g_2129, R_2128⟩ := rp_pI (ci := 7) (k := 1) hR (T7_o (T2_17 (ty_114 hR t0))) rfl rfl L32_0 e_2129
    refine Rn.hp hT rfl rfl (pV_hp rfl g_2129) ?_
    refine Rn.n hT 1 (pc' := 17) (L' := [some (.ref q0), some (.int m1), some (.int m2), some (.int m3), some (.int m4), none]) (st' := [.int (0 : Int32)]) rfl ?_
    obtain rfl := Option.some.inj e
    exact Rn.ret hT rfl rfl rfl (hq (0 : Int32) h_2128 L32_0 R_2128)
  · rw [if_neg c_2117] at e
    refine Rn.bt hT rfl rfl rfl (decide_eq_true (fun z => c_2117 ((ti_e p1 L32_m1).mp z))) ?_
    refine Rn.n hT 1 (pc' := 19) (L' := [some (.ref q0), some (.int m1), some (.int m2), some (.int m3), some (.int m4), none]) (st' := [.ref q0]) rfl ?_
    refine Rn.hp hT rfl rfl (gR_hp (rp_gP (k := 4) hR (T11_o t0) rfl (nn_114 hR t0))) ?_
    refine Rn.hp hT rfl rfl (gR_hp (rp_gR hR (T2_o (ty_114 hR t0)) rfl)) ?_
    refine Rn.n hT 2 (pc' := 28) (L' := [some (.ref q0), some (.int m1), some (.int m2), some (.int m3), some (.int m4), none]) (st' := [.int m4, .int m3, .ref ((s q0 4).toNat + 1)]) rfl ?_
    obtain ⟨v_2118, e_2118, e⟩ := Option.bind_eq_some_iff.mp e
    refine Rn.call hT rfl rfl rfl (Nat.le_of_ble_eq_true rfl) (rcv_v gX1_cellAt (by omega) (rp_ck hR (T1_o (T2_9 (ty_114 hR t0))))) (RX1_cellAt (by omega) hR (T2_9 (ty_114 hR t0)) p3 p4 e_2118 (fun z_2118 p_2118 => ?_))
    show Rn d _ _ 31 [some (.ref q0), some (.int m1), some (.int m2), some (.int m3), some (.int m4), none] [.int z_2118] h Q
    refine Rn.n hT 2 (pc' := 34) (L' := [some (.ref q0), some (.int m1), some (.int m2), some (.int m3), some (.int m4), some (.int z_2118)]) (st' := [.ref q0]) rfl ?_
    refine Rn.hp hT rfl rfl (gR_hp (rp_gP (k := 4) hR (T11_o t0) rfl (nn_114 hR t0))) ?_
    refine Rn.n hT 1 (pc' := 38) (L' := [some (.ref q0), some (.int m1), some (.int m2), some (.int m3), some (.int m4), some (.int z_2118)]) (st' := [.int m1, .ref ((s q0 4).toNat)]) rfl ?_
    obtain ⟨v_2119, e_2119, e⟩ := Option.bind_eq_some_iff.mp e
    refine Rn.call hT rfl rfl rfl (Nat.le_of_ble_eq_true rfl) (rcv_v gX2_isPerson (by omega) (rp_ck hR (T2_o (ty_114 hR t0)))) (RX2_isPerson (by omega) hR (ty_114 hR t0) p1 e_2119 (fun z_2119 p_2119 => ?_))
    show Rn d _ _ 41 [some (.ref q0), some (.int m1), some (.int m2), some (.int m3), some (.int m4), some (.int z_2118)] [.int z_2119] h Q
    by_cases c_2120 : v_2119 = 0
    · rw [if_pos c_2120] at e
      refine Rn.bt hT rfl rfl rfl (decide_eq_true ((ti_e p_2119 L32_0).mpr c_2120)) ?_
      exact Rn.weak (ll_n (ll_n (ll_n (ll_n (ll_n (ll_n ll_e)))))) (RX11_wish_b60 hd hR hq e)
    · rw [if_neg c_2120] at e
      refine Rn.bf hT rfl rfl rfl (decide_eq_false (fun z => c_2120 ((ti_e p_2119 L32_0).mp z))) ?_
      refine Rn.n hT 1 (pc' := 45) (L' := [some (.ref q0), some (.int m1), some (.int m2), some (.int m3), some (.int m4), some (.int z_2118)]) (st' := [.int m2]) rfl ?_
      by_cases c_2121 : x2 < 0
      · rw [if_pos c_2121] at e
        refine Rn.bt hT rfl rfl rfl (decide_eq_true ((ti_l p2 L32_0).mpr c_2121)) ?_
        exact Rn.weak (ll_n (ll_n (ll_n (ll_n (ll_n (ll_n ll_e)))))) (RX11_wish_b60 hd hR hq e)
      · rw [if_neg c_2121] at e
        refine Rn.bf hT rfl rfl rfl (decide_eq_false (fun z => c_2121 ((ti_l p2 L32_0).mp z))) ?_
        refine Rn.n hT 2 (pc' := 51) (L' := [some (.ref q0), some (.int m1), some (.int m2), some (.int m3), some (.int m4), some (.int z_2118)]) (st' := [.int (10 : Int32), .int m2]) rfl ?_
        by_cases c_2122 : 10 < x2
        · rw [if_pos c_2122] at e
          refine Rn.bt hT rfl rfl rfl (decide_eq_true ((ti_l L32_10 p2).mpr c_2122)) ?_
          exact Rn.weak (ll_n (ll_n (ll_n (ll_n (ll_n (ll_n ll_e)))))) (RX11_wish_b60 hd hR hq e)
        · rw [if_neg c_2122] at e
          refine Rn.bf hT rfl rfl rfl (decide_eq_false (fun z => c_2122 ((ti_l L32_10 p2).mp z))) ?_
          refine Rn.n hT 2 (pc' := 57) (L' := [some (.ref q0), some (.int m1), some (.int m2), some (.int m3), some (.int m4), some (.int z_2118)]) (st' := [.int (-1 : Int32), .int z_2118]) rfl ?_
          by_cases c_2123 : v_2118 = (-1)
          · rw [if_pos c_2123] at e
            refine Rn.bf hT rfl rfl rfl (decide_eq_false (fun z => z ((ti_e p_2118 L32_m1).mpr c_2123))) ?_
            exact Rn.weak (ll_n (ll_n (ll_n (ll_n (ll_n (ll_n ll_e)))))) (RX11_wish_b60 hd hR hq e)
          · rw [if_neg c_2123] at e
            refine Rn.bt hT rfl rfl rfl (decide_eq_true (fun z => c_2123 ((ti_e p_2118 L32_m1).mp z))) ?_
            refine Rn.n hT 1 (pc' := 64) (L' := [some (.ref q0), some (.int m1), some (.int m2), some (.int m3), some (.int m4), some (.int z_2118)]) (st' := [.ref q0]) rfl ?_
            refine Rn.hp hT rfl rfl (gR_hp (rp_gP (k := 4) hR (T11_o t0) rfl (nn_114 hR t0))) ?_
            refine Rn.hp hT rfl rfl (gR_hp (rp_gR hR (T2_o (ty_114 hR t0)) rfl)) ?_
            refine Rn.n hT 10 (pc' := 82) (L' := [some (.ref q0), some (.int m1), some (.int m2), some (.int m3), some (.int m4), some (.int z_2118)]) (st' := [.long (((((m1 <<< ((8 : Int32) &&& 31)) ||| (m2 <<< ((4 : Int32) &&& 31))) ||| z_2118)).toInt64), .ref ((s q0 4).toNat + 18)]) rfl ?_
            obtain ⟨⟨v_2124, s_2125⟩, e_2124, e⟩ := Option.bind_eq_some_iff.mp e
            try dsimp only at e
            try dsimp only at e
            refine Rn.call hT rfl rfl rfl (Nat.le_of_ble_eq_true rfl) (rcv_v gX7_add (by omega) (rp_ck hR (T7_o (T2_17 (ty_114 hR t0))))) (RX7_add (by omega) hR (T2_17 (ty_114 hR t0)) (ti_j (ti_or (ti_or (ti_shl p1 L32_8) (ti_shl p2 L32_4)) p_2118)) e_2124 (fun z_2124 h_2125 p_2124 R_2125 => ?_))
            show Rn d _ _ 85 [some (.ref q0), some (.int m1), some (.int m2), some (.int m3), some (.int m4), some (.int z_2118)] [.int z_2124] h_2125 Q
            by_cases c_2126 : v_2124 = 0
            · rw [if_pos c_2126] at e
              refine Rn.bt hT rfl rfl rfl (decide_eq_true ((ti_e p_2124 L32_0).mpr c_2126)) ?_
              refine Rn.n hT 1 (pc' := 103) (L' := [some (.ref q0), some (.int m1), some (.int m2), some (.int m3), some (.int m4), some (.int z_2118)]) (st' := [.int (-2 : Int32)]) rfl ?_
              exact Rn.weak (ll_n (ll_n (ll_n (ll_n (ll_n (ll_n ll_e)))))) (RX11_wish_b103 hd R_2125 L32_m2 hq e)
            · rw [if_neg c_2126] at e
              refine Rn.bf hT rfl rfl rfl (decide_eq_false (fun z => c_2126 ((ti_e p_2124 L32_0).mp z))) ?_
              refine Rn.n hT 1 (pc' := 89) (L' := [some (.ref q0), some (.int m1), some (.int m2), some (.int m3), some (.int m4), some (.int z_2118)]) (st' := [.ref q0]) rfl ?_
              refine Rn.hp hT rfl rfl (gR_hp (rp_gP (k := 4) R_2125 (T11_o t0) rfl (nn_114 R_2125 t0))) ?_
              refine Rn.hp hT rfl rfl (gR_hp (rp_gR R_2125 (T2_o (ty_114 R_2125 t0)) rfl)) ?_
              obtain ⟨z_2127, g_2127, p_2127⟩ : ∃ z : Int32, gI h_2125 7 1 ((s_2125 q0 4).toNat + 18) = some z ∧ z.toInt = s_2125 ((s_2125 q0 4).toNat + 18) 1 := rp_gI (k := 1) R_2125 (T7_o (T2_17 (ty_114 R_2125 t0))) rfl
              refine Rn.hp hT rfl rfl (gI_hp g_2127) ?_
              refine Rn.n hT 1 (pc' := 103) (L' := [some (.ref q0), some (.int m1), some (.int m2), some (.int m3), some (.int m4), some (.int z_2118)]) (st' := [.int z_2127]) rfl ?_
              exact Rn.weak (ll_n (ll_n (ll_n (ll_n (ll_n (ll_n ll_e)))))) (RX11_wish_b103 hd R_2125 p_2127 hq e)
set_option maxRecDepth 10000 in
theorem hX11_beds : iv_Tb 175 tX11_beds := iv_tb_of (m := mX11_beds) rfl
set_option maxRecDepth 10000 in
theorem gX11_beds : PG.2 175 = some mX11_beds := iv_pi_of (t := tX11_beds) rfl (by decide)
def FX11_beds_b20 (N : Nat) (s : iv_M)   : Option (Int × iv_M) := (some ((-1), s))
set_option maxRecDepth 10000 in
set_option maxHeartbeats 4000000 in
theorem RX11_beds_b20 {d N nc Ls : Nat} {Xs : Nat → Int32} (hd : 6 ≤ d) {h : iv_H} {s : iv_M} (hR : Rep nc Ls Xs h s)   {r : Int × iv_M} {Q : Option Value → iv_H → Prop} (hq : ∀ (z : Int32) (h1 : iv_H), z.toInt = r.1 → Rep nc Ls Xs h1 r.2 → Q (some (.int z)) h1) (e : FX11_beds_b20 N s   = some r) : Rn d 175 (some .int) 20 [none, none] [] h Q := by
  have hT := hX11_beds
  unfold FX11_beds_b20 at e
  refine Rn.n hT 1 (pc' := 21) (L' := [none, none]) (st' := [.int (-1 : Int32)]) rfl ?_
  obtain rfl := Option.some.inj e
  exact Rn.ret hT rfl rfl rfl (hq (-1 : Int32) h L32_m1 hR)
def FX11_beds_b92 (N : Nat) (s : iv_M)  (xs0 : Int) : Option (Int × iv_M) := (some (xs0, s))
set_option maxRecDepth 10000 in
set_option maxHeartbeats 4000000 in
theorem RX11_beds_b92 {d N nc Ls : Nat} {Xs : Nat → Int32} (hd : 6 ≤ d) {h : iv_H} {s : iv_M} (hR : Rep nc Ls Xs h s)  {ms0 : Int32} {xs0 : Int} (ps0 : ms0.toInt = xs0) {r : Int × iv_M} {Q : Option Value → iv_H → Prop} (hq : ∀ (z : Int32) (h1 : iv_H), z.toInt = r.1 → Rep nc Ls Xs h1 r.2 → Q (some (.int z)) h1) (e : FX11_beds_b92 N s  xs0 = some r) : Rn d 175 (some .int) 92 [none, none] [.int ms0] h Q := by
  have hT := hX11_beds
  unfold FX11_beds_b92 at e
  obtain rfl := Option.some.inj e
  exact Rn.ret hT rfl rfl rfl (hq ms0 h ps0 hR)
def FX11_beds (N : Nat) (s : iv_M) (q0 : Nat) (x1 : Int) : Option (Int × iv_M) := (if (s ((s q0 4).toNat) 0) = 0 then (FX11_beds_b20 N s) else (if x1 < 0 then (FX11_beds_b20 N s) else (if x1 ≤ 6 then ((FX11_ruleInForce N s q0).bind fun v_2134 => ((FX10_roomsWished N s (q0 + 81) ((s q0 4).toNat) v_2134 ((q0 + 102) + 8)).bind fun s_2136 => (if x1 = 0 then ((FX4_layPeople N s_2136 (q0 + 102) ((s_2136 q0 4).toNat)).bind fun r_2142 => (fun (v_2142 : Int) (s_2143 : iv_M) => (some (v_2142, s_2143))) r_2142.1 r_2142.2) else ((FX2_isPerson N s_2136 ((s_2136 q0 4).toNat) (w32 (x1 - 1))).bind fun v_2138 => (if v_2138 = 0 then (FX11_beds_b92 N s_2136 (-2)) else ((FX4_firstBed N s_2136 (q0 + 102) ((s_2136 q0 4).toNat) (w32 (x1 - 1))).bind fun r_2140 => (fun (v_2140 : Int) (s_2141 : iv_M) => (FX11_beds_b92 N s_2141 v_2140)) r_2140.1 r_2140.2)))))) else (FX11_beds_b20 N s))))
set_option maxRecDepth 10000 in
set_option maxHeartbeats 4000000 in
theorem RX11_beds {d N nc Ls : Nat} {Xs : Nat → Int32} (hd : 7 ≤ d) {h : iv_H} {s : iv_M} (hR : Rep nc Ls Xs h s) {q0 : Nat} (t0 : T11 nc q0) {m1 : Int32} {x1 : Int} (p1 : m1.toInt = x1) {r : Int × iv_M} {Q : Option Value → iv_H → Prop} (e : FX11_beds N s q0 x1 = some r) (hq : ∀ (z : Int32) (h1 : iv_H), z.toInt = r.1 → Rep nc Ls Xs h1 r.2 → Q (some (.int z)) h1) : Cl d 175 [.ref q0, .int m1] h Q := by
  obtain ⟨d, rfl⟩ : ∃ k, d = k + 1 := ⟨d - 1, by omega⟩
  have hd : 6 ≤ d := by omega
  have hT := hX11_beds
  unfold FX11_beds at e
  refine Cl.into (by decide) gX11_beds rfl ?_
  show Rn d 175 (some .int) 0 [some (.ref q0), some (.int m1)] [] h Q
  refine Rn.n hT 1 (pc' := 1) (L' := [some (.ref q0), some (.int m1)]) (st' := [.ref q0]) rfl ?_
  refine Rn.hp hT rfl rfl (gR_hp (rp_gP (k := 4) hR (T11_o t0) rfl (nn_114 hR t0))) ?_
  obtain ⟨z_2130, g_2130, p_2130⟩ : ∃ z : Int32, gI h 2 0 ((s q0 4).toNat) = some z ∧ z.toInt = s ((s q0 4).toNat) 0 := rp_gI (k := 0) hR (T2_o (ty_114 hR t0)) rfl
  refine Rn.hp hT rfl rfl (gI_hp g_2130) ?_
  by_cases c_2131 : (s ((s q0 4).toNat) 0) = 0
  · rw [if_pos c_2131] at e
    refine Rn.bt hT rfl rfl rfl (decide_eq_true ((ti_e p_2130 L32_0).mpr c_2131)) ?_
    exact Rn.weak (ll_n (ll_n ll_e)) (RX11_beds_b20 hd hR hq e)
  · rw [if_neg c_2131] at e
    refine Rn.bf hT rfl rfl rfl (decide_eq_false (fun z => c_2131 ((ti_e p_2130 L32_0).mp z))) ?_
    refine Rn.n hT 1 (pc' := 11) (L' := [some (.ref q0), some (.int m1)]) (st' := [.int m1]) rfl ?_
    by_cases c_2132 : x1 < 0
    · rw [if_pos c_2132] at e
      refine Rn.bt hT rfl rfl rfl (decide_eq_true ((ti_l p1 L32_0).mpr c_2132)) ?_
      exact Rn.weak (ll_n (ll_n ll_e)) (RX11_beds_b20 hd hR hq e)
    · rw [if_neg c_2132] at e
      refine Rn.bf hT rfl rfl rfl (decide_eq_false (fun z => c_2132 ((ti_l p1 L32_0).mp z))) ?_
      refine Rn.n hT 2 (pc' := 17) (L' := [some (.ref q0), some (.int m1)]) (st' := [.int (6 : Int32), .int m1]) rfl ?_
      by_cases c_2133 : x1 ≤ 6
      · rw [if_pos c_2133] at e
        refine Rn.bt hT rfl rfl rfl (decide_eq_true ((ti_le p1 L32_6).mpr c_2133)) ?_
        refine Rn.n hT 1 (pc' := 23) (L' := [some (.ref q0), some (.int m1)]) (st' := [.ref q0]) rfl ?_
        refine Rn.hp hT rfl rfl (gR_hp (rp_gR hR (T11_o t0) rfl)) ?_
        refine Rn.n hT 1 (pc' := 27) (L' := [some (.ref q0), some (.int m1)]) (st' := [.ref q0, .ref (q0 + 81)]) rfl ?_
        refine Rn.hp hT rfl rfl (gR_hp (rp_gP (k := 4) hR (T11_o t0) rfl (nn_114 hR t0))) ?_
        refine Rn.n hT 1 (pc' := 31) (L' := [some (.ref q0), some (.int m1)]) (st' := [.ref q0, .ref ((s q0 4).toNat), .ref (q0 + 81)]) rfl ?_
        obtain ⟨v_2134, e_2134, e⟩ := Option.bind_eq_some_iff.mp e
        refine Rn.call hT rfl rfl rfl (Nat.le_of_ble_eq_true rfl) (rcv_v gX11_ruleInForce (by omega) (rp_ck hR (T11_o t0))) (RX11_ruleInForce (by omega) hR t0 e_2134 (fun t_2134 => ?_))
        show Rn d _ _ 34 [some (.ref q0), some (.int m1)] [iv_rf (rvo v_2134), .ref ((s q0 4).toNat), .ref (q0 + 81)] h Q
        refine Rn.n hT 1 (pc' := 35) (L' := [some (.ref q0), some (.int m1)]) (st' := [.ref q0, iv_rf (rvo v_2134), .ref ((s q0 4).toNat), .ref (q0 + 81)]) rfl ?_
        refine Rn.hp hT rfl rfl (gR_hp (rp_gR hR (T11_o t0) rfl)) ?_
        refine Rn.hp hT rfl rfl (gR_hp (rp_gR hR (T4_o (T11_13 t0)) rfl)) ?_
        obtain ⟨s_2136, e_2135, e⟩ := Option.bind_eq_some_iff.mp e
        refine Rn.call hT rfl rfl rfl (Nat.le_of_ble_eq_true rfl) (rcv_v gX10_roomsWished (by omega) (rp_ck hR (T10_o (T11_11 t0)))) (RX10_roomsWished (by omega) hR (T11_11 t0) (ty_114 hR t0) t_2134 (T4_4 (T11_13 t0)) e_2135 (fun h_2136 R_2136 => ?_))
        show Rn d _ _ 44 [some (.ref q0), some (.int m1)] [] h_2136 Q
        refine Rn.n hT 1 (pc' := 45) (L' := [some (.ref q0), some (.int m1)]) (st' := [.int m1]) rfl ?_
        by_cases c_2137 : x1 = 0
        · rw [if_pos c_2137] at e
          refine Rn.bf hT rfl rfl rfl (decide_eq_false (fun z => z ((ti_e p1 L32_0).mpr c_2137))) ?_
          refine Rn.n hT 1 (pc' := 49) (L' := [some (.ref q0), some (.int m1)]) (st' := [.ref q0]) rfl ?_
          refine Rn.hp hT rfl rfl (gR_hp (rp_gR R_2136 (T11_o t0) rfl)) ?_
          refine Rn.n hT 1 (pc' := 53) (L' := [some (.ref q0), some (.int m1)]) (st' := [.ref q0, .ref (q0 + 102)]) rfl ?_
          refine Rn.hp hT rfl rfl (gR_hp (rp_gP (k := 4) R_2136 (T11_o t0) rfl (nn_114 R_2136 t0))) ?_
          obtain ⟨⟨v_2142, s_2143⟩, e_2142, e⟩ := Option.bind_eq_some_iff.mp e
          try dsimp only at e
          try dsimp only at e
          refine Rn.call hT rfl rfl rfl (Nat.le_of_ble_eq_true rfl) (rcv_v gX4_layPeople (by omega) (rp_ck R_2136 (T4_o (T11_13 t0)))) (RX4_layPeople (by omega) R_2136 (T11_13 t0) (ty_114 R_2136 t0) e_2142 (fun z_2142 h_2143 p_2142 R_2143 => ?_))
          show Rn d _ _ 59 [some (.ref q0), some (.int m1)] [.int z_2142] h_2143 Q
          obtain rfl := Option.some.inj e
          exact Rn.ret hT rfl rfl rfl (hq z_2142 h_2143 p_2142 R_2143)
        · rw [if_neg c_2137] at e
          refine Rn.bt hT rfl rfl rfl (decide_eq_true (fun z => c_2137 ((ti_e p1 L32_0).mp z))) ?_
          refine Rn.n hT 1 (pc' := 61) (L' := [some (.ref q0), some (.int m1)]) (st' := [.ref q0]) rfl ?_
          refine Rn.hp hT rfl rfl (gR_hp (rp_gP (k := 4) R_2136 (T11_o t0) rfl (nn_114 R_2136 t0))) ?_
          refine Rn.n hT 3 (pc' := 67) (L' := [some (.ref q0), some (.int m1)]) (st' := [.int (m1 - (1 : Int32)), .ref ((s_2136 q0 4).toNat)]) rfl ?_
          obtain ⟨v_2138, e_2138, e⟩ := Option.bind_eq_some_iff.mp e
          refine Rn.call hT rfl rfl rfl (Nat.le_of_ble_eq_true rfl) (rcv_v gX2_isPerson (by omega) (rp_ck R_2136 (T2_o (ty_114 R_2136 t0)))) (RX2_isPerson (by omega) R_2136 (ty_114 R_2136 t0) (ti_sub p1 L32_1) e_2138 (fun z_2138 p_2138 => ?_))
          show Rn d _ _ 70 [some (.ref q0), some (.int m1)] [.int z_2138] h_2136 Q
          by_cases c_2139 : v_2138 = 0
          · rw [if_pos c_2139] at e
            refine Rn.bt hT rfl rfl rfl (decide_eq_true ((ti_e p_2138 L32_0).mpr c_2139)) ?_
            refine Rn.n hT 1 (pc' := 92) (L' := [some (.ref q0), some (.int m1)]) (st' := [.int (-2 : Int32)]) rfl ?_
            exact Rn.weak (ll_n (ll_n ll_e)) (RX11_beds_b92 hd R_2136 L32_m2 hq e)
          · rw [if_neg c_2139] at e
            refine Rn.bf hT rfl rfl rfl (decide_eq_false (fun z => c_2139 ((ti_e p_2138 L32_0).mp z))) ?_
            refine Rn.n hT 1 (pc' := 74) (L' := [some (.ref q0), some (.int m1)]) (st' := [.ref q0]) rfl ?_
            refine Rn.hp hT rfl rfl (gR_hp (rp_gR R_2136 (T11_o t0) rfl)) ?_
            refine Rn.n hT 1 (pc' := 78) (L' := [some (.ref q0), some (.int m1)]) (st' := [.ref q0, .ref (q0 + 102)]) rfl ?_
            refine Rn.hp hT rfl rfl (gR_hp (rp_gP (k := 4) R_2136 (T11_o t0) rfl (nn_114 R_2136 t0))) ?_
            refine Rn.n hT 3 (pc' := 84) (L' := [some (.ref q0), some (.int m1)]) (st' := [.int (m1 - (1 : Int32)), .ref ((s_2136 q0 4).toNat), .ref (q0 + 102)]) rfl ?_
            obtain ⟨⟨v_2140, s_2141⟩, e_2140, e⟩ := Option.bind_eq_some_iff.mp e
            try dsimp only at e
            try dsimp only at e
            refine Rn.call hT rfl rfl rfl (Nat.le_of_ble_eq_true rfl) (rcv_v gX4_firstBed (by omega) (rp_ck R_2136 (T4_o (T11_13 t0)))) (RX4_firstBed (by omega) R_2136 (T11_13 t0) (ty_114 R_2136 t0) (ti_sub p1 L32_1) e_2140 (fun z_2140 h_2141 p_2140 R_2141 => ?_))
            show Rn d _ _ 87 [some (.ref q0), some (.int m1)] [.int z_2140] h_2141 Q
            refine Rn.n hT 1 (pc' := 92) (L' := [some (.ref q0), some (.int m1)]) (st' := [.int z_2140]) rfl ?_
            exact Rn.weak (ll_n (ll_n ll_e)) (RX11_beds_b92 hd R_2141 p_2140 hq e)
      · rw [if_neg c_2133] at e
        refine Rn.bf hT rfl rfl rfl (decide_eq_false (fun z => c_2133 ((ti_le p1 L32_6).mp z))) ?_
        exact Rn.weak (ll_n (ll_n ll_e)) (RX11_beds_b20 hd hR hq e)
set_option maxRecDepth 10000 in
theorem hX11_almost : iv_Tb 176 tX11_almost := iv_tb_of (m := mX11_almost) rfl
set_option maxRecDepth 10000 in
theorem gX11_almost : PG.2 176 = some mX11_almost := iv_pi_of (t := tX11_almost) rfl (by decide)
def FX11_almost_b22 (N : Nat) (s : iv_M)   : Option (Int × iv_M) := (some ((-1), s))
set_option maxRecDepth 10000 in
set_option maxHeartbeats 4000000 in
theorem RX11_almost_b22 {d N nc Ls : Nat} {Xs : Nat → Int32} (hd : 6 ≤ d) {h : iv_H} {s : iv_M} (hR : Rep nc Ls Xs h s)   {r : Int × iv_M} {Q : Option Value → iv_H → Prop} (hq : ∀ (z : Int32) (h1 : iv_H), z.toInt = r.1 → Rep nc Ls Xs h1 r.2 → Q (some (.int z)) h1) (e : FX11_almost_b22 N s   = some r) : Rn d 176 (some .int) 22 [none, none, none] [] h Q := by
  have hT := hX11_almost
  unfold FX11_almost_b22 at e
  refine Rn.n hT 1 (pc' := 23) (L' := [none, none, none]) (st' := [.int (-1 : Int32)]) rfl ?_
  obtain rfl := Option.some.inj e
  exact Rn.ret hT rfl rfl rfl (hq (-1 : Int32) h L32_m1 hR)
def FX11_almost (N : Nat) (s : iv_M) (q0 : Nat) (x1 : Int) (x2 : Int) : Option (Int × iv_M) := ((FX2_isPerson N s ((s q0 4).toNat) x1).bind fun v_2144 => (if v_2144 = 0 then (FX11_almost_b22 N s) else ((FX2_isRoom N s ((s q0 4).toNat) x2).bind fun v_2146 => (if v_2146 = 0 then (FX11_almost_b22 N s) else ((FX11_ruleInForce N s q0).bind fun v_2148 => ((FX10_roomsWished N s (q0 + 81) ((s q0 4).toNat) v_2148 ((q0 + 102) + 8)).bind fun s_2150 => ((rd s_2150 ((q0 + 102) + 8) 6 x1).bind fun v_2151 => ((wr s_2150 ((q0 + 102) + 8) 6 x1 (bAn v_2151 (sl32 1 x2))).bind fun s_2152 => ((FX4_layPeople N s_2152 (q0 + 102) ((s_2152 q0 4).toNat)).bind fun r_2154 => (fun (v_2154 : Int) (s_2155 : iv_M) => (some (v_2154, s_2155))) r_2154.1 r_2154.2)))))))))
set_option maxRecDepth 10000 in
set_option maxHeartbeats 4000000 in
theorem RX11_almost {d N nc Ls : Nat} {Xs : Nat → Int32} (hd : 7 ≤ d) {h : iv_H} {s : iv_M} (hR : Rep nc Ls Xs h s) {q0 : Nat} (t0 : T11 nc q0) {m1 : Int32} {x1 : Int} (p1 : m1.toInt = x1) {m2 : Int32} {x2 : Int} (p2 : m2.toInt = x2) {r : Int × iv_M} {Q : Option Value → iv_H → Prop} (e : FX11_almost N s q0 x1 x2 = some r) (hq : ∀ (z : Int32) (h1 : iv_H), z.toInt = r.1 → Rep nc Ls Xs h1 r.2 → Q (some (.int z)) h1) : Cl d 176 [.ref q0, .int m1, .int m2] h Q := by
  obtain ⟨d, rfl⟩ : ∃ k, d = k + 1 := ⟨d - 1, by omega⟩
  have hd : 6 ≤ d := by omega
  have hT := hX11_almost
  unfold FX11_almost at e
  refine Cl.into (by decide) gX11_almost rfl ?_
  show Rn d 176 (some .int) 0 [some (.ref q0), some (.int m1), some (.int m2)] [] h Q
  refine Rn.n hT 1 (pc' := 1) (L' := [some (.ref q0), some (.int m1), some (.int m2)]) (st' := [.ref q0]) rfl ?_
  refine Rn.hp hT rfl rfl (gR_hp (rp_gP (k := 4) hR (T11_o t0) rfl (nn_114 hR t0))) ?_
  refine Rn.n hT 1 (pc' := 5) (L' := [some (.ref q0), some (.int m1), some (.int m2)]) (st' := [.int m1, .ref ((s q0 4).toNat)]) rfl ?_
  obtain ⟨v_2144, e_2144, e⟩ := Option.bind_eq_some_iff.mp e
  refine Rn.call hT rfl rfl rfl (Nat.le_of_ble_eq_true rfl) (rcv_v gX2_isPerson (by omega) (rp_ck hR (T2_o (ty_114 hR t0)))) (RX2_isPerson (by omega) hR (ty_114 hR t0) p1 e_2144 (fun z_2144 p_2144 => ?_))
  show Rn d _ _ 8 [some (.ref q0), some (.int m1), some (.int m2)] [.int z_2144] h Q
  by_cases c_2145 : v_2144 = 0
  · rw [if_pos c_2145] at e
    refine Rn.bt hT rfl rfl rfl (decide_eq_true ((ti_e p_2144 L32_0).mpr c_2145)) ?_
    exact Rn.weak (ll_n (ll_n (ll_n ll_e))) (RX11_almost_b22 hd hR hq e)
  · rw [if_neg c_2145] at e
    refine Rn.bf hT rfl rfl rfl (decide_eq_false (fun z => c_2145 ((ti_e p_2144 L32_0).mp z))) ?_
    refine Rn.n hT 1 (pc' := 12) (L' := [some (.ref q0), some (.int m1), some (.int m2)]) (st' := [.ref q0]) rfl ?_
    refine Rn.hp hT rfl rfl (gR_hp (rp_gP (k := 4) hR (T11_o t0) rfl (nn_114 hR t0))) ?_
    refine Rn.n hT 1 (pc' := 16) (L' := [some (.ref q0), some (.int m1), some (.int m2)]) (st' := [.int m2, .ref ((s q0 4).toNat)]) rfl ?_
    obtain ⟨v_2146, e_2146, e⟩ := Option.bind_eq_some_iff.mp e
    refine Rn.call hT rfl rfl rfl (Nat.le_of_ble_eq_true rfl) (rcv_v gX2_isRoom (by omega) (rp_ck hR (T2_o (ty_114 hR t0)))) (RX2_isRoom (by omega) hR (ty_114 hR t0) p2 e_2146 (fun z_2146 p_2146 => ?_))
    show Rn d _ _ 19 [some (.ref q0), some (.int m1), some (.int m2)] [.int z_2146] h Q
    by_cases c_2147 : v_2146 = 0
    · rw [if_pos c_2147] at e
      refine Rn.bf hT rfl rfl rfl (decide_eq_false (fun z => z ((ti_e p_2146 L32_0).mpr c_2147))) ?_
      exact Rn.weak (ll_n (ll_n (ll_n ll_e))) (RX11_almost_b22 hd hR hq e)
    · rw [if_neg c_2147] at e
      refine Rn.bt hT rfl rfl rfl (decide_eq_true (fun z => c_2147 ((ti_e p_2146 L32_0).mp z))) ?_
      refine Rn.n hT 1 (pc' := 25) (L' := [some (.ref q0), some (.int m1), some (.int m2)]) (st' := [.ref q0]) rfl ?_
      refine Rn.hp hT rfl rfl (gR_hp (rp_gR hR (T11_o t0) rfl)) ?_
      refine Rn.n hT 1 (pc' := 29) (L' := [some (.ref q0), some (.int m1), some (.int m2)]) (st' := [.ref q0, .ref (q0 + 81)]) rfl ?_
      refine Rn.hp hT rfl rfl (gR_hp (rp_gP (k := 4) hR (T11_o t0) rfl (nn_114 hR t0))) ?_
      refine Rn.n hT 1 (pc' := 33) (L' := [some (.ref q0), some (.int m1), some (.int m2)]) (st' := [.ref q0, .ref ((s q0 4).toNat), .ref (q0 + 81)]) rfl ?_
      obtain ⟨v_2148, e_2148, e⟩ := Option.bind_eq_some_iff.mp e
      refine Rn.call hT rfl rfl rfl (Nat.le_of_ble_eq_true rfl) (rcv_v gX11_ruleInForce (by omega) (rp_ck hR (T11_o t0))) (RX11_ruleInForce (by omega) hR t0 e_2148 (fun t_2148 => ?_))
      show Rn d _ _ 36 [some (.ref q0), some (.int m1), some (.int m2)] [iv_rf (rvo v_2148), .ref ((s q0 4).toNat), .ref (q0 + 81)] h Q
      refine Rn.n hT 1 (pc' := 37) (L' := [some (.ref q0), some (.int m1), some (.int m2)]) (st' := [.ref q0, iv_rf (rvo v_2148), .ref ((s q0 4).toNat), .ref (q0 + 81)]) rfl ?_
      refine Rn.hp hT rfl rfl (gR_hp (rp_gR hR (T11_o t0) rfl)) ?_
      refine Rn.hp hT rfl rfl (gR_hp (rp_gR hR (T4_o (T11_13 t0)) rfl)) ?_
      obtain ⟨s_2150, e_2149, e⟩ := Option.bind_eq_some_iff.mp e
      refine Rn.call hT rfl rfl rfl (Nat.le_of_ble_eq_true rfl) (rcv_v gX10_roomsWished (by omega) (rp_ck hR (T10_o (T11_11 t0)))) (RX10_roomsWished (by omega) hR (T11_11 t0) (ty_114 hR t0) t_2148 (T4_4 (T11_13 t0)) e_2149 (fun h_2150 R_2150 => ?_))
      show Rn d _ _ 46 [some (.ref q0), some (.int m1), some (.int m2)] [] h_2150 Q
      refine Rn.n hT 1 (pc' := 47) (L' := [some (.ref q0), some (.int m1), some (.int m2)]) (st' := [.ref q0]) rfl ?_
      refine Rn.hp hT rfl rfl (gR_hp (rp_gR R_2150 (T11_o t0) rfl)) ?_
      refine Rn.hp hT rfl rfl (gR_hp (rp_gR R_2150 (T4_o (T11_13 t0)) rfl)) ?_
      refine Rn.n hT 2 (pc' := 55) (L' := [some (.ref q0), some (.int m1), some (.int m2)]) (st' := [.int m1, .ref ((q0 + 102) + 8), .int m1, .ref ((q0 + 102) + 8)]) rfl ?_
      obtain ⟨v_2151, e_2151, e⟩ := Option.bind_eq_some_iff.mp e
      obtain ⟨z_2151, g_2151, p_2151⟩ := rp_aI R_2150 (T4_4 (T11_13 t0)) (T4_4l (T11_13 t0)) p1 e_2151
      refine Rn.hp hT rfl rfl (aI_hp g_2151) ?_
      refine Rn.n hT 4 (pc' := 60) (L' := [some (.ref q0), some (.int m1), some (.int m2)]) (st' := [.int (z_2151 &&& ((1 : Int32) <<< (m2 &&& 31))), .int m1, .ref ((q0 + 102) + 8)]) rfl ?_
      obtain ⟨s_2152, e_2153, e⟩ := Option.bind_eq_some_iff.mp e
      obtain ⟨h_2152, g_2153, R_2152⟩ := rp_wI R_2150 (T4_4 (T11_13 t0)) (T4_4l (T11_13 t0)) p1 (ti_and p_2151 (ti_shl L32_1 p2)) e_2153
      refine Rn.hp hT rfl rfl (wI_hp g_2153) ?_
      refine Rn.n hT 1 (pc' := 62) (L' := [some (.ref q0), some (.int m1), some (.int m2)]) (st' := [.ref q0]) rfl ?_
      refine Rn.hp hT rfl rfl (gR_hp (rp_gR R_2152 (T11_o t0) rfl)) ?_
      refine Rn.n hT 1 (pc' := 66) (L' := [some (.ref q0), some (.int m1), some (.int m2)]) (st' := [.ref q0, .ref (q0 + 102)]) rfl ?_
      refine Rn.hp hT rfl rfl (gR_hp (rp_gP (k := 4) R_2152 (T11_o t0) rfl (nn_114 R_2152 t0))) ?_
      obtain ⟨⟨v_2154, s_2155⟩, e_2154, e⟩ := Option.bind_eq_some_iff.mp e
      try dsimp only at e
      try dsimp only at e
      refine Rn.call hT rfl rfl rfl (Nat.le_of_ble_eq_true rfl) (rcv_v gX4_layPeople (by omega) (rp_ck R_2152 (T4_o (T11_13 t0)))) (RX4_layPeople (by omega) R_2152 (T11_13 t0) (ty_114 R_2152 t0) e_2154 (fun z_2154 h_2155 p_2154 R_2155 => ?_))
      show Rn d _ _ 72 [some (.ref q0), some (.int m1), some (.int m2)] [.int z_2154] h_2155 Q
      obtain rfl := Option.some.inj e
      exact Rn.ret hT rfl rfl rfl (hq z_2154 h_2155 p_2154 R_2155)
set_option maxRecDepth 10000 in
theorem hX11_guards : iv_Tb 177 tX11_guards := iv_tb_of (m := mX11_guards) rfl
set_option maxRecDepth 10000 in
theorem gX11_guards : PG.2 177 = some mX11_guards := iv_pi_of (t := tX11_guards) rfl (by decide)
def FX11_guards_b19 (N : Nat) (s : iv_M)   : Option (Int × iv_M) := (some ((-1), s))
set_option maxRecDepth 10000 in
set_option maxHeartbeats 4000000 in
theorem RX11_guards_b19 {d N nc Ls : Nat} {Xs : Nat → Int32} (hd : 4 ≤ d) {h : iv_H} {s : iv_M} (hR : Rep nc Ls Xs h s)   {r : Int × iv_M} {Q : Option Value → iv_H → Prop} (hq : ∀ (z : Int32) (h1 : iv_H), z.toInt = r.1 → Rep nc Ls Xs h1 r.2 → Q (some (.int z)) h1) (e : FX11_guards_b19 N s   = some r) : Rn d 177 (some .int) 19 [none, none, none] [] h Q := by
  have hT := hX11_guards
  unfold FX11_guards_b19 at e
  refine Rn.n hT 1 (pc' := 20) (L' := [none, none, none]) (st' := [.int (-1 : Int32)]) rfl ?_
  obtain rfl := Option.some.inj e
  exact Rn.ret hT rfl rfl rfl (hq (-1 : Int32) h L32_m1 hR)
def FX11_guards_b48 (N : Nat) (s : iv_M)  (xs0 : Int) : Option (Int × iv_M) := (some (xs0, s))
set_option maxRecDepth 10000 in
set_option maxHeartbeats 4000000 in
theorem RX11_guards_b48 {d N nc Ls : Nat} {Xs : Nat → Int32} (hd : 4 ≤ d) {h : iv_H} {s : iv_M} (hR : Rep nc Ls Xs h s)  {ms0 : Int32} {xs0 : Int} (ps0 : ms0.toInt = xs0) {r : Int × iv_M} {Q : Option Value → iv_H → Prop} (hq : ∀ (z : Int32) (h1 : iv_H), z.toInt = r.1 → Rep nc Ls Xs h1 r.2 → Q (some (.int z)) h1) (e : FX11_guards_b48 N s  xs0 = some r) : Rn d 177 (some .int) 48 [none, none, none] [.int ms0] h Q := by
  have hT := hX11_guards
  unfold FX11_guards_b48 at e
  obtain rfl := Option.some.inj e
  exact Rn.ret hT rfl rfl rfl (hq ms0 h ps0 hR)
def FX11_guards (N : Nat) (s : iv_M) (q0 : Nat) (x1 : Int) : Option (Int × iv_M) := (if (s ((s q0 4).toNat) 0) = 0 then (FX11_guards_b19 N s) else (if x1 < 0 then (FX11_guards_b19 N s) else (if x1 ≤ 1 then ((FX0_guarding N s (q0 + 98) ((s q0 4).toNat + 1)).bind fun r_2160 => (fun (v_2160 : Int) (s_2161 : iv_M) => (if x1 = 0 then ((FJ6_bitCount_0f7a4 N s_2161 v_2160).bind fun v_2163 => (FX11_guards_b48 N s_2161 v_2163)) else (FX11_guards_b48 N s_2161 v_2160))) r_2160.1 r_2160.2) else (FX11_guards_b19 N s))))
set_option maxRecDepth 10000 in
set_option maxHeartbeats 4000000 in
theorem RX11_guards {d N nc Ls : Nat} {Xs : Nat → Int32} (hd : 5 ≤ d) {h : iv_H} {s : iv_M} (hR : Rep nc Ls Xs h s) {q0 : Nat} (t0 : T11 nc q0) {m1 : Int32} {x1 : Int} (p1 : m1.toInt = x1) {r : Int × iv_M} {Q : Option Value → iv_H → Prop} (e : FX11_guards N s q0 x1 = some r) (hq : ∀ (z : Int32) (h1 : iv_H), z.toInt = r.1 → Rep nc Ls Xs h1 r.2 → Q (some (.int z)) h1) : Cl d 177 [.ref q0, .int m1] h Q := by
  obtain ⟨d, rfl⟩ : ∃ k, d = k + 1 := ⟨d - 1, by omega⟩
  have hd : 4 ≤ d := by omega
  have hT := hX11_guards
  unfold FX11_guards at e
  refine Cl.into (by decide) gX11_guards rfl ?_
  show Rn d 177 (some .int) 0 [some (.ref q0), some (.int m1), none] [] h Q
  refine Rn.n hT 1 (pc' := 1) (L' := [some (.ref q0), some (.int m1), none]) (st' := [.ref q0]) rfl ?_
  refine Rn.hp hT rfl rfl (gR_hp (rp_gP (k := 4) hR (T11_o t0) rfl (nn_114 hR t0))) ?_
  obtain ⟨z_2156, g_2156, p_2156⟩ : ∃ z : Int32, gI h 2 0 ((s q0 4).toNat) = some z ∧ z.toInt = s ((s q0 4).toNat) 0 := rp_gI (k := 0) hR (T2_o (ty_114 hR t0)) rfl
  refine Rn.hp hT rfl rfl (gI_hp g_2156) ?_
  by_cases c_2157 : (s ((s q0 4).toNat) 0) = 0
  · rw [if_pos c_2157] at e
    refine Rn.bt hT rfl rfl rfl (decide_eq_true ((ti_e p_2156 L32_0).mpr c_2157)) ?_
    exact Rn.weak (ll_n (ll_n (ll_n ll_e))) (RX11_guards_b19 hd hR hq e)
  · rw [if_neg c_2157] at e
    refine Rn.bf hT rfl rfl rfl (decide_eq_false (fun z => c_2157 ((ti_e p_2156 L32_0).mp z))) ?_
    refine Rn.n hT 1 (pc' := 11) (L' := [some (.ref q0), some (.int m1), none]) (st' := [.int m1]) rfl ?_
    by_cases c_2158 : x1 < 0
    · rw [if_pos c_2158] at e
      refine Rn.bt hT rfl rfl rfl (decide_eq_true ((ti_l p1 L32_0).mpr c_2158)) ?_
      exact Rn.weak (ll_n (ll_n (ll_n ll_e))) (RX11_guards_b19 hd hR hq e)
    · rw [if_neg c_2158] at e
      refine Rn.bf hT rfl rfl rfl (decide_eq_false (fun z => c_2158 ((ti_l p1 L32_0).mp z))) ?_
      refine Rn.n hT 2 (pc' := 16) (L' := [some (.ref q0), some (.int m1), none]) (st' := [.int (1 : Int32), .int m1]) rfl ?_
      by_cases c_2159 : x1 ≤ 1
      · rw [if_pos c_2159] at e
        refine Rn.bt hT rfl rfl rfl (decide_eq_true ((ti_le p1 L32_1).mpr c_2159)) ?_
        refine Rn.n hT 1 (pc' := 22) (L' := [some (.ref q0), some (.int m1), none]) (st' := [.ref q0]) rfl ?_
        refine Rn.hp hT rfl rfl (gR_hp (rp_gR hR (T11_o t0) rfl)) ?_
        refine Rn.n hT 1 (pc' := 26) (L' := [some (.ref q0), some (.int m1), none]) (st' := [.ref q0, .ref (q0 + 98)]) rfl ?_
        refine Rn.hp hT rfl rfl (gR_hp (rp_gP (k := 4) hR (T11_o t0) rfl (nn_114 hR t0))) ?_
        refine Rn.hp hT rfl rfl (gR_hp (rp_gR hR (T2_o (ty_114 hR t0)) rfl)) ?_
        obtain ⟨⟨v_2160, s_2161⟩, e_2160, e⟩ := Option.bind_eq_some_iff.mp e
        try dsimp only at e
        try dsimp only at e
        refine Rn.call hT rfl rfl rfl (Nat.le_of_ble_eq_true rfl) (rcv_v gX0_guarding (by omega) (rp_ck hR (T0_o (T11_12 t0)))) (RX0_guarding (by omega) hR (T11_12 t0) (T2_9 (ty_114 hR t0)) e_2160 (fun z_2160 h_2161 p_2160 R_2161 => ?_))
        show Rn d _ _ 35 [some (.ref q0), some (.int m1), none] [.int z_2160] h_2161 Q
        refine Rn.n hT 2 (pc' := 37) (L' := [some (.ref q0), some (.int m1), some (.int z_2160)]) (st' := [.int m1]) rfl ?_
        by_cases c_2162 : x1 = 0
        · rw [if_pos c_2162] at e
          refine Rn.bf hT rfl rfl rfl (decide_eq_false (fun z => z ((ti_e p1 L32_0).mpr c_2162))) ?_
          refine Rn.n hT 1 (pc' := 41) (L' := [some (.ref q0), some (.int m1), some (.int z_2160)]) (st' := [.int z_2160]) rfl ?_
          obtain ⟨v_2163, e_2163, e⟩ := Option.bind_eq_some_iff.mp e
          refine Rn.call hT rfl rfl rfl (Nat.le_of_ble_eq_true rfl) rfl (RJ6_bitCount_0f7a4 (by omega) R_2161 p_2160 e_2163 (fun z_2163 p_2163 => ?_))
          show Rn d _ _ 44 [some (.ref q0), some (.int m1), some (.int z_2160)] [.int z_2163] h_2161 Q
          refine Rn.n hT 1 (pc' := 48) (L' := [some (.ref q0), some (.int m1), some (.int z_2160)]) (st' := [.int z_2163]) rfl ?_
          exact Rn.weak (ll_n (ll_n (ll_n ll_e))) (RX11_guards_b48 hd R_2161 p_2163 hq e)
        · rw [if_neg c_2162] at e
          refine Rn.bt hT rfl rfl rfl (decide_eq_true (fun z => c_2162 ((ti_e p1 L32_0).mp z))) ?_
          refine Rn.n hT 1 (pc' := 48) (L' := [some (.ref q0), some (.int m1), some (.int z_2160)]) (st' := [.int z_2160]) rfl ?_
          exact Rn.weak (ll_n (ll_n (ll_n ll_e))) (RX11_guards_b48 hd R_2161 p_2160 hq e)
      · rw [if_neg c_2159] at e
        refine Rn.bf hT rfl rfl rfl (decide_eq_false (fun z => c_2159 ((ti_le p1 L32_1).mp z))) ?_
        exact Rn.weak (ll_n (ll_n (ll_n ll_e))) (RX11_guards_b19 hd hR hq e)
set_option maxRecDepth 10000 in
theorem hX11_drift : iv_Tb 178 tX11_drift := iv_tb_of (m := mX11_drift) rfl
set_option maxRecDepth 10000 in
theorem gX11_drift : PG.2 178 = some mX11_drift := iv_pi_of (t := tX11_drift) rfl (by decide)
def FX11_drift_b19 (N : Nat) (s : iv_M)   : Option (Int) := (some (-1))
set_option maxRecDepth 10000 in
set_option maxHeartbeats 4000000 in
theorem RX11_drift_b19 {d N nc Ls : Nat} {Xs : Nat → Int32} (hd : 2 ≤ d) {h : iv_H} {s : iv_M} (hR : Rep nc Ls Xs h s)   {r : Int} {Q : Option Value → iv_H → Prop} (hq : ∀ (z : Int32), z.toInt = r → Q (some (.int z)) h) (e : FX11_drift_b19 N s   = some r) : Rn d 178 (some .int) 19 [none, none, none] [] h Q := by
  have hT := hX11_drift
  unfold FX11_drift_b19 at e
  refine Rn.n hT 1 (pc' := 20) (L' := [none, none, none]) (st' := [.int (-1 : Int32)]) rfl ?_
  obtain rfl := Option.some.inj e
  exact Rn.ret hT rfl rfl rfl (hq (-1 : Int32) L32_m1)
def FX11_drift_b75 (N : Nat) (s : iv_M)  (xs0 : Int) : Option (Int) := (some xs0)
set_option maxRecDepth 10000 in
set_option maxHeartbeats 4000000 in
theorem RX11_drift_b75 {d N nc Ls : Nat} {Xs : Nat → Int32} (hd : 2 ≤ d) {h : iv_H} {s : iv_M} (hR : Rep nc Ls Xs h s)  {ms0 : Int32} {xs0 : Int} (ps0 : ms0.toInt = xs0) {r : Int} {Q : Option Value → iv_H → Prop} (hq : ∀ (z : Int32), z.toInt = r → Q (some (.int z)) h) (e : FX11_drift_b75 N s  xs0 = some r) : Rn d 178 (some .int) 75 [none, none, none] [.int ms0] h Q := by
  have hT := hX11_drift
  unfold FX11_drift_b75 at e
  obtain rfl := Option.some.inj e
  exact Rn.ret hT rfl rfl rfl (hq ms0 ps0)
def FX11_drift (N : Nat) (s : iv_M) (q0 : Nat) (x1 : Int) : Option (Int) := (if (s ((s q0 4).toNat) 0) = 0 then (FX11_drift_b19 N s) else (if x1 < 0 then (FX11_drift_b19 N s) else (if x1 ≤ 2 then (if x1 = 0 then ((FX1_lockedDrift N s ((s q0 4).toNat + 1)).bind fun v_2173 => (some v_2173)) else ((FX1_mostDoors N s ((s q0 4).toNat + 1)).bind fun v_2169 => (if v_2169 = (-1) then (some (-2)) else (if x1 = 1 then (FX11_drift_b75 N s v_2169) else ((FX1_doorsThatMeet N s ((s q0 4).toNat + 1) v_2169).bind fun v_2172 => (FX11_drift_b75 N s v_2172)))))) else (FX11_drift_b19 N s))))
set_option maxRecDepth 10000 in
set_option maxHeartbeats 4000000 in
theorem RX11_drift {d N nc Ls : Nat} {Xs : Nat → Int32} (hd : 3 ≤ d) {h : iv_H} {s : iv_M} (hR : Rep nc Ls Xs h s) {q0 : Nat} (t0 : T11 nc q0) {m1 : Int32} {x1 : Int} (p1 : m1.toInt = x1) {r : Int} {Q : Option Value → iv_H → Prop} (e : FX11_drift N s q0 x1 = some r) (hq : ∀ (z : Int32), z.toInt = r → Q (some (.int z)) h) : Cl d 178 [.ref q0, .int m1] h Q := by
  obtain ⟨d, rfl⟩ : ∃ k, d = k + 1 := ⟨d - 1, by omega⟩
  have hd : 2 ≤ d := by omega
  have hT := hX11_drift
  unfold FX11_drift at e
  refine Cl.into (by decide) gX11_drift rfl ?_
  show Rn d 178 (some .int) 0 [some (.ref q0), some (.int m1), none] [] h Q
  refine Rn.n hT 1 (pc' := 1) (L' := [some (.ref q0), some (.int m1), none]) (st' := [.ref q0]) rfl ?_
  refine Rn.hp hT rfl rfl (gR_hp (rp_gP (k := 4) hR (T11_o t0) rfl (nn_114 hR t0))) ?_
  obtain ⟨z_2164, g_2164, p_2164⟩ : ∃ z : Int32, gI h 2 0 ((s q0 4).toNat) = some z ∧ z.toInt = s ((s q0 4).toNat) 0 := rp_gI (k := 0) hR (T2_o (ty_114 hR t0)) rfl
  refine Rn.hp hT rfl rfl (gI_hp g_2164) ?_
  by_cases c_2165 : (s ((s q0 4).toNat) 0) = 0
  · rw [if_pos c_2165] at e
    refine Rn.bt hT rfl rfl rfl (decide_eq_true ((ti_e p_2164 L32_0).mpr c_2165)) ?_
    exact Rn.weak (ll_n (ll_n (ll_n ll_e))) (RX11_drift_b19 hd hR hq e)
  · rw [if_neg c_2165] at e
    refine Rn.bf hT rfl rfl rfl (decide_eq_false (fun z => c_2165 ((ti_e p_2164 L32_0).mp z))) ?_
    refine Rn.n hT 1 (pc' := 11) (L' := [some (.ref q0), some (.int m1), none]) (st' := [.int m1]) rfl ?_
    by_cases c_2166 : x1 < 0
    · rw [if_pos c_2166] at e
      refine Rn.bt hT rfl rfl rfl (decide_eq_true ((ti_l p1 L32_0).mpr c_2166)) ?_
      exact Rn.weak (ll_n (ll_n (ll_n ll_e))) (RX11_drift_b19 hd hR hq e)
    · rw [if_neg c_2166] at e
      refine Rn.bf hT rfl rfl rfl (decide_eq_false (fun z => c_2166 ((ti_l p1 L32_0).mp z))) ?_
      refine Rn.n hT 2 (pc' := 16) (L' := [some (.ref q0), some (.int m1), none]) (st' := [.int (2 : Int32), .int m1]) rfl ?_
      by_cases c_2167 : x1 ≤ 2
      · rw [if_pos c_2167] at e
        refine Rn.bt hT rfl rfl rfl (decide_eq_true ((ti_le p1 L32_2).mpr c_2167)) ?_
        refine Rn.n hT 1 (pc' := 22) (L' := [some (.ref q0), some (.int m1), none]) (st' := [.int m1]) rfl ?_
        by_cases c_2168 : x1 = 0
        · rw [if_pos c_2168] at e
          refine Rn.bf hT rfl rfl rfl (decide_eq_false (fun z => z ((ti_e p1 L32_0).mpr c_2168))) ?_
          refine Rn.n hT 1 (pc' := 26) (L' := [some (.ref q0), some (.int m1), none]) (st' := [.ref q0]) rfl ?_
          refine Rn.hp hT rfl rfl (gR_hp (rp_gP (k := 4) hR (T11_o t0) rfl (nn_114 hR t0))) ?_
          refine Rn.hp hT rfl rfl (gR_hp (rp_gR hR (T2_o (ty_114 hR t0)) rfl)) ?_
          obtain ⟨v_2173, e_2173, e⟩ := Option.bind_eq_some_iff.mp e
          refine Rn.call hT rfl rfl rfl (Nat.le_of_ble_eq_true rfl) (rcv_v gX1_lockedDrift (by omega) (rp_ck hR (T1_o (T2_9 (ty_114 hR t0))))) (RX1_lockedDrift (by omega) hR (T2_9 (ty_114 hR t0)) e_2173 (fun z_2173 p_2173 => ?_))
          show Rn d _ _ 35 [some (.ref q0), some (.int m1), none] [.int z_2173] h Q
          obtain rfl := Option.some.inj e
          exact Rn.ret hT rfl rfl rfl (hq z_2173 p_2173)
        · rw [if_neg c_2168] at e
          refine Rn.bt hT rfl rfl rfl (decide_eq_true (fun z => c_2168 ((ti_e p1 L32_0).mp z))) ?_
          refine Rn.n hT 1 (pc' := 37) (L' := [some (.ref q0), some (.int m1), none]) (st' := [.ref q0]) rfl ?_
          refine Rn.hp hT rfl rfl (gR_hp (rp_gP (k := 4) hR (T11_o t0) rfl (nn_114 hR t0))) ?_
          refine Rn.hp hT rfl rfl (gR_hp (rp_gR hR (T2_o (ty_114 hR t0)) rfl)) ?_
          obtain ⟨v_2169, e_2169, e⟩ := Option.bind_eq_some_iff.mp e
          refine Rn.call hT rfl rfl rfl (Nat.le_of_ble_eq_true rfl) (rcv_v gX1_mostDoors (by omega) (rp_ck hR (T1_o (T2_9 (ty_114 hR t0))))) (RX1_mostDoors (by omega) hR (T2_9 (ty_114 hR t0)) e_2169 (fun z_2169 p_2169 => ?_))
          show Rn d _ _ 46 [some (.ref q0), some (.int m1), none] [.int z_2169] h Q
          refine Rn.n hT 3 (pc' := 49) (L' := [some (.ref q0), some (.int m1), some (.int z_2169)]) (st' := [.int (-1 : Int32), .int z_2169]) rfl ?_
          by_cases c_2170 : v_2169 = (-1)
          · rw [if_pos c_2170] at e
            refine Rn.bf hT rfl rfl rfl (decide_eq_false (fun z => z ((ti_e p_2169 L32_m1).mpr c_2170))) ?_
            refine Rn.n hT 1 (pc' := 54) (L' := [some (.ref q0), some (.int m1), some (.int z_2169)]) (st' := [.int (-2 : Int32)]) rfl ?_
            obtain rfl := Option.some.inj e
            exact Rn.ret hT rfl rfl rfl (hq (-2 : Int32) L32_m2)
          · rw [if_neg c_2170] at e
            refine Rn.bt hT rfl rfl rfl (decide_eq_true (fun z => c_2170 ((ti_e p_2169 L32_m1).mp z))) ?_
            refine Rn.n hT 2 (pc' := 57) (L' := [some (.ref q0), some (.int m1), some (.int z_2169)]) (st' := [.int (1 : Int32), .int m1]) rfl ?_
            by_cases c_2171 : x1 = 1
            · rw [if_pos c_2171] at e
              refine Rn.bf hT rfl rfl rfl (decide_eq_false (fun z => z ((ti_e p1 L32_1).mpr c_2171))) ?_
              refine Rn.n hT 2 (pc' := 75) (L' := [some (.ref q0), some (.int m1), some (.int z_2169)]) (st' := [.int z_2169]) rfl ?_
              exact Rn.weak (ll_n (ll_n (ll_n ll_e))) (RX11_drift_b75 hd hR p_2169 hq e)
            · rw [if_neg c_2171] at e
              refine Rn.bt hT rfl rfl rfl (decide_eq_true (fun z => c_2171 ((ti_e p1 L32_1).mp z))) ?_
              refine Rn.n hT 1 (pc' := 65) (L' := [some (.ref q0), some (.int m1), some (.int z_2169)]) (st' := [.ref q0]) rfl ?_
              refine Rn.hp hT rfl rfl (gR_hp (rp_gP (k := 4) hR (T11_o t0) rfl (nn_114 hR t0))) ?_
              refine Rn.hp hT rfl rfl (gR_hp (rp_gR hR (T2_o (ty_114 hR t0)) rfl)) ?_
              refine Rn.n hT 1 (pc' := 72) (L' := [some (.ref q0), some (.int m1), some (.int z_2169)]) (st' := [.int z_2169, .ref ((s q0 4).toNat + 1)]) rfl ?_
              obtain ⟨v_2172, e_2172, e⟩ := Option.bind_eq_some_iff.mp e
              refine Rn.call hT rfl rfl rfl (Nat.le_of_ble_eq_true rfl) (rcv_v gX1_doorsThatMeet (by omega) (rp_ck hR (T1_o (T2_9 (ty_114 hR t0))))) (RX1_doorsThatMeet (by omega) hR (T2_9 (ty_114 hR t0)) p_2169 e_2172 (fun z_2172 p_2172 => ?_))
              show Rn d _ _ 75 [some (.ref q0), some (.int m1), some (.int z_2169)] [.int z_2172] h Q
              exact Rn.weak (ll_n (ll_n (ll_n ll_e))) (RX11_drift_b75 hd hR p_2172 hq e)
      · rw [if_neg c_2167] at e
        refine Rn.bf hT rfl rfl rfl (decide_eq_false (fun z => c_2167 ((ti_le p1 L32_2).mp z))) ?_
        exact Rn.weak (ll_n (ll_n (ll_n ll_e))) (RX11_drift_b19 hd hR hq e)
set_option maxRecDepth 10000 in
theorem hX11_woke : iv_Tb 179 tX11_woke := iv_tb_of (m := mX11_woke) rfl
set_option maxRecDepth 10000 in
theorem gX11_woke : PG.2 179 = some mX11_woke := iv_pi_of (t := tX11_woke) rfl (by decide)
def FX11_woke_b79 (N : Nat) (s : iv_M)   : Option (Int × iv_M) := (some ((-2), s))
set_option maxRecDepth 10000 in
set_option maxHeartbeats 4000000 in
theorem RX11_woke_b79 {d N nc Ls : Nat} {Xs : Nat → Int32} (hd : 1 ≤ d) {h : iv_H} {s : iv_M} (hR : Rep nc Ls Xs h s)   {r : Int × iv_M} {Q : Option Value → iv_H → Prop} (hq : ∀ (z : Int32) (h1 : iv_H), z.toInt = r.1 → Rep nc Ls Xs h1 r.2 → Q (some (.int z)) h1) (e : FX11_woke_b79 N s   = some r) : Rn d 179 (some .int) 79 [none, none, none, none, none] [] h Q := by
  have hT := hX11_woke
  unfold FX11_woke_b79 at e
  refine Rn.n hT 1 (pc' := 81) (L' := [none, none, none, none, none]) (st' := [.int (-2 : Int32)]) rfl ?_
  obtain rfl := Option.some.inj e
  exact Rn.ret hT rfl rfl rfl (hq (-2 : Int32) h L32_m2 hR)
def FX11_woke (N : Nat) (s : iv_M) (q0 : Nat) (x1 : Int) (x2 : Int) (x3 : Int) : Option (Int × iv_M) := (if x1 = (-1) then ((pt s ((s q0 4).toNat + 20) 1 0).bind fun s_2186 => ((pt s_2186 q0 15 (w32 ((s_2186 q0 15) + 1))).bind fun s_2189 => (some (0, s_2189)))) else ((FX1_cellAt N s ((s q0 4).toNat + 1) x2 x3).bind fun v_2175 => ((FX2_isRoom N s ((s q0 4).toNat) x1).bind fun v_2176 => (if v_2176 = 0 then (FX11_woke_b79 N s) else (if v_2175 = (-1) then (FX11_woke_b79 N s) else ((FX7_add N s ((s q0 4).toNat + 20) (bOr (sl32 x1 4) v_2175)).bind fun r_2179 => (fun (v_2179 : Int) (s_2180 : iv_M) => (if v_2179 = 0 then (FX11_woke_b79 N s_2180) else ((pt s_2180 q0 15 (w32 ((s_2180 q0 15) + 1))).bind fun s_2183 => (some ((s_2183 ((s_2183 q0 4).toNat + 20) 1), s_2183))))) r_2179.1 r_2179.2))))))
set_option maxRecDepth 10000 in
set_option maxHeartbeats 4000000 in
theorem RX11_woke {d N nc Ls : Nat} {Xs : Nat → Int32} (hd : 2 ≤ d) {h : iv_H} {s : iv_M} (hR : Rep nc Ls Xs h s) {q0 : Nat} (t0 : T11 nc q0) {m1 : Int32} {x1 : Int} (p1 : m1.toInt = x1) {m2 : Int32} {x2 : Int} (p2 : m2.toInt = x2) {m3 : Int32} {x3 : Int} (p3 : m3.toInt = x3) {r : Int × iv_M} {Q : Option Value → iv_H → Prop} (e : FX11_woke N s q0 x1 x2 x3 = some r) (hq : ∀ (z : Int32) (h1 : iv_H), z.toInt = r.1 → Rep nc Ls Xs h1 r.2 → Q (some (.int z)) h1) : Cl d 179 [.ref q0, .int m1, .int m2, .int m3] h Q := by
  obtain ⟨d, rfl⟩ : ∃ k, d = k + 1 := ⟨d - 1, by omega⟩
  have hd : 1 ≤ d := by omega
  have hT := hX11_woke
  unfold FX11_woke at e
  refine Cl.into (by decide) gX11_woke rfl ?_
  show Rn d 179 (some .int) 0 [some (.ref q0), some (.int m1), some (.int m2), some (.int m3), none] [] h Q
  refine Rn.n hT 2 (pc' := 2) (L' := [some (.ref q0), some (.int m1), some (.int m2), some (.int m3), none]) (st' := [.int (-1 : Int32), .int m1]) rfl ?_
  by_cases c_2174 : x1 = (-1)
  · rw [if_pos c_2174] at e
    refine Rn.bf hT rfl rfl rfl (decide_eq_false (fun z => z ((ti_e p1 L32_m1).mpr c_2174))) ?_
    refine Rn.n hT 1 (pc' := 6) (L' := [some (.ref q0), some (.int m1), some (.int m2), some (.int m3), none]) (st' := [.ref q0]) rfl ?_
    refine Rn.hp hT rfl rfl (gR_hp (rp_gP (k := 4) hR (T11_o t0) rfl (nn_114 hR t0))) ?_
    refine Rn.hp hT rfl rfl (gR_hp (rp_gR hR (T2_o (ty_114 hR t0)) rfl)) ?_
    refine Rn.n hT 1 (pc' := 13) (L' := [some (.ref q0), some (.int m1), some (.int m2), some (.int m3), none]) (st' := [.int (0 : Int32), .ref ((s q0 4).toNat + 20)]) rfl ?_
    obtain ⟨s_2186, e_2187, e⟩ := Option.bind_eq_some_iff.mp e
    obtain ⟨h_2186, g_2187, R_2186⟩ := rp_pI (ci := 7) (k := 1) hR (T7_o (T2_18 (ty_114 hR t0))) rfl rfl L32_0 e_2187
    refine Rn.hp hT rfl rfl (pV_hp rfl g_2187) ?_
    refine Rn.n hT 2 (pc' := 18) (L' := [some (.ref q0), some (.int m1), some (.int m2), some (.int m3), none]) (st' := [.ref q0, .ref q0]) rfl ?_
    obtain ⟨z_2188, g_2188, p_2188⟩ : ∃ z : Int32, gI h_2186 11 15 q0 = some z ∧ z.toInt = s_2186 q0 15 := rp_gI (k := 15) R_2186 (T11_o t0) rfl
    refine Rn.hp hT rfl rfl (gI_hp g_2188) ?_
    refine Rn.n hT 2 (pc' := 23) (L' := [some (.ref q0), some (.int m1), some (.int m2), some (.int m3), none]) (st' := [.int (z_2188 + (1 : Int32)), .ref q0]) rfl ?_
    obtain ⟨s_2189, e_2190, e⟩ := Option.bind_eq_some_iff.mp e
    obtain ⟨h_2189, g_2190, R_2189⟩ := rp_pI (ci := 11) (k := 15) R_2186 (T11_o t0) rfl rfl (ti_add p_2188 L32_1) e_2190
    refine Rn.hp hT rfl rfl (pV_hp rfl g_2190) ?_
    refine Rn.n hT 1 (pc' := 27) (L' := [some (.ref q0), some (.int m1), some (.int m2), some (.int m3), none]) (st' := [.int (0 : Int32)]) rfl ?_
    obtain rfl := Option.some.inj e
    exact Rn.ret hT rfl rfl rfl (hq (0 : Int32) h_2189 L32_0 R_2189)
  · rw [if_neg c_2174] at e
    refine Rn.bt hT rfl rfl rfl (decide_eq_true (fun z => c_2174 ((ti_e p1 L32_m1).mp z))) ?_
    refine Rn.n hT 1 (pc' := 29) (L' := [some (.ref q0), some (.int m1), some (.int m2), some (.int m3), none]) (st' := [.ref q0]) rfl ?_
    refine Rn.hp hT rfl rfl (gR_hp (rp_gP (k := 4) hR (T11_o t0) rfl (nn_114 hR t0))) ?_
    refine Rn.hp hT rfl rfl (gR_hp (rp_gR hR (T2_o (ty_114 hR t0)) rfl)) ?_
    refine Rn.n hT 2 (pc' := 37) (L' := [some (.ref q0), some (.int m1), some (.int m2), some (.int m3), none]) (st' := [.int m3, .int m2, .ref ((s q0 4).toNat + 1)]) rfl ?_
    obtain ⟨v_2175, e_2175, e⟩ := Option.bind_eq_some_iff.mp e
    refine Rn.call hT rfl rfl rfl (Nat.le_of_ble_eq_true rfl) (rcv_v gX1_cellAt (by omega) (rp_ck hR (T1_o (T2_9 (ty_114 hR t0))))) (RX1_cellAt (by omega) hR (T2_9 (ty_114 hR t0)) p2 p3 e_2175 (fun z_2175 p_2175 => ?_))
    show Rn d _ _ 40 [some (.ref q0), some (.int m1), some (.int m2), some (.int m3), none] [.int z_2175] h Q
    refine Rn.n hT 2 (pc' := 43) (L' := [some (.ref q0), some (.int m1), some (.int m2), some (.int m3), some (.int z_2175)]) (st' := [.ref q0]) rfl ?_
    refine Rn.hp hT rfl rfl (gR_hp (rp_gP (k := 4) hR (T11_o t0) rfl (nn_114 hR t0))) ?_
    refine Rn.n hT 1 (pc' := 47) (L' := [some (.ref q0), some (.int m1), some (.int m2), some (.int m3), some (.int z_2175)]) (st' := [.int m1, .ref ((s q0 4).toNat)]) rfl ?_
    obtain ⟨v_2176, e_2176, e⟩ := Option.bind_eq_some_iff.mp e
    refine Rn.call hT rfl rfl rfl (Nat.le_of_ble_eq_true rfl) (rcv_v gX2_isRoom (by omega) (rp_ck hR (T2_o (ty_114 hR t0)))) (RX2_isRoom (by omega) hR (ty_114 hR t0) p1 e_2176 (fun z_2176 p_2176 => ?_))
    show Rn d _ _ 50 [some (.ref q0), some (.int m1), some (.int m2), some (.int m3), some (.int z_2175)] [.int z_2176] h Q
    by_cases c_2177 : v_2176 = 0
    · rw [if_pos c_2177] at e
      refine Rn.bt hT rfl rfl rfl (decide_eq_true ((ti_e p_2176 L32_0).mpr c_2177)) ?_
      exact Rn.weak (ll_n (ll_n (ll_n (ll_n (ll_n ll_e))))) (RX11_woke_b79 hd hR hq e)
    · rw [if_neg c_2177] at e
      refine Rn.bf hT rfl rfl rfl (decide_eq_false (fun z => c_2177 ((ti_e p_2176 L32_0).mp z))) ?_
      refine Rn.n hT 2 (pc' := 56) (L' := [some (.ref q0), some (.int m1), some (.int m2), some (.int m3), some (.int z_2175)]) (st' := [.int (-1 : Int32), .int z_2175]) rfl ?_
      by_cases c_2178 : v_2175 = (-1)
      · rw [if_pos c_2178] at e
        refine Rn.bt hT rfl rfl rfl (decide_eq_true ((ti_e p_2175 L32_m1).mpr c_2178)) ?_
        exact Rn.weak (ll_n (ll_n (ll_n (ll_n (ll_n ll_e))))) (RX11_woke_b79 hd hR hq e)
      · rw [if_neg c_2178] at e
        refine Rn.bf hT rfl rfl rfl (decide_eq_false (fun z => c_2178 ((ti_e p_2175 L32_m1).mp z))) ?_
        refine Rn.n hT 1 (pc' := 60) (L' := [some (.ref q0), some (.int m1), some (.int m2), some (.int m3), some (.int z_2175)]) (st' := [.ref q0]) rfl ?_
        refine Rn.hp hT rfl rfl (gR_hp (rp_gP (k := 4) hR (T11_o t0) rfl (nn_114 hR t0))) ?_
        refine Rn.hp hT rfl rfl (gR_hp (rp_gR hR (T2_o (ty_114 hR t0)) rfl)) ?_
        refine Rn.n hT 6 (pc' := 73) (L' := [some (.ref q0), some (.int m1), some (.int m2), some (.int m3), some (.int z_2175)]) (st' := [.long ((((m1 <<< ((4 : Int32) &&& 31)) ||| z_2175)).toInt64), .ref ((s q0 4).toNat + 20)]) rfl ?_
        obtain ⟨⟨v_2179, s_2180⟩, e_2179, e⟩ := Option.bind_eq_some_iff.mp e
        try dsimp only at e
        try dsimp only at e
        refine Rn.call hT rfl rfl rfl (Nat.le_of_ble_eq_true rfl) (rcv_v gX7_add (by omega) (rp_ck hR (T7_o (T2_18 (ty_114 hR t0))))) (RX7_add (by omega) hR (T2_18 (ty_114 hR t0)) (ti_j (ti_or (ti_shl p1 L32_4) p_2175)) e_2179 (fun z_2179 h_2180 p_2179 R_2180 => ?_))
        show Rn d _ _ 76 [some (.ref q0), some (.int m1), some (.int m2), some (.int m3), some (.int z_2175)] [.int z_2179] h_2180 Q
        by_cases c_2181 : v_2179 = 0
        · rw [if_pos c_2181] at e
          refine Rn.bf hT rfl rfl rfl (decide_eq_false (fun z => z ((ti_e p_2179 L32_0).mpr c_2181))) ?_
          exact Rn.weak (ll_n (ll_n (ll_n (ll_n (ll_n ll_e))))) (RX11_woke_b79 hd R_2180 hq e)
        · rw [if_neg c_2181] at e
          refine Rn.bt hT rfl rfl rfl (decide_eq_true (fun z => c_2181 ((ti_e p_2179 L32_0).mp z))) ?_
          refine Rn.n hT 2 (pc' := 84) (L' := [some (.ref q0), some (.int m1), some (.int m2), some (.int m3), some (.int z_2175)]) (st' := [.ref q0, .ref q0]) rfl ?_
          obtain ⟨z_2182, g_2182, p_2182⟩ : ∃ z : Int32, gI h_2180 11 15 q0 = some z ∧ z.toInt = s_2180 q0 15 := rp_gI (k := 15) R_2180 (T11_o t0) rfl
          refine Rn.hp hT rfl rfl (gI_hp g_2182) ?_
          refine Rn.n hT 2 (pc' := 89) (L' := [some (.ref q0), some (.int m1), some (.int m2), some (.int m3), some (.int z_2175)]) (st' := [.int (z_2182 + (1 : Int32)), .ref q0]) rfl ?_
          obtain ⟨s_2183, e_2184, e⟩ := Option.bind_eq_some_iff.mp e
          obtain ⟨h_2183, g_2184, R_2183⟩ := rp_pI (ci := 11) (k := 15) R_2180 (T11_o t0) rfl rfl (ti_add p_2182 L32_1) e_2184
          refine Rn.hp hT rfl rfl (pV_hp rfl g_2184) ?_
          refine Rn.n hT 1 (pc' := 93) (L' := [some (.ref q0), some (.int m1), some (.int m2), some (.int m3), some (.int z_2175)]) (st' := [.ref q0]) rfl ?_
          refine Rn.hp hT rfl rfl (gR_hp (rp_gP (k := 4) R_2183 (T11_o t0) rfl (nn_114 R_2183 t0))) ?_
          refine Rn.hp hT rfl rfl (gR_hp (rp_gR R_2183 (T2_o (ty_114 R_2183 t0)) rfl)) ?_
          obtain ⟨z_2185, g_2185, p_2185⟩ : ∃ z : Int32, gI h_2183 7 1 ((s_2183 q0 4).toNat + 20) = some z ∧ z.toInt = s_2183 ((s_2183 q0 4).toNat + 20) 1 := rp_gI (k := 1) R_2183 (T7_o (T2_18 (ty_114 R_2183 t0))) rfl
          refine Rn.hp hT rfl rfl (gI_hp g_2185) ?_
          obtain rfl := Option.some.inj e
          exact Rn.ret hT rfl rfl rfl (hq z_2185 h_2183 p_2185 R_2183)
set_option maxRecDepth 10000 in
theorem hX11_how : iv_Tb 180 tX11_how := iv_tb_of (m := mX11_how) rfl
set_option maxRecDepth 10000 in
theorem gX11_how : PG.2 180 = some mX11_how := iv_pi_of (t := tX11_how) rfl (by decide)
def FX11_how_b29 (N : Nat) (s : iv_M)   : Option (Int × iv_M) := (some ((-1), s))
set_option maxRecDepth 10000 in
set_option maxHeartbeats 4000000 in
theorem RX11_how_b29 {d N nc Ls : Nat} {Xs : Nat → Int32} (hd : 13 ≤ d) {h : iv_H} {s : iv_M} (hR : Rep nc Ls Xs h s)   {r : Int × iv_M} {Q : Option Value → iv_H → Prop} (hq : ∀ (z : Int32) (h1 : iv_H), z.toInt = r.1 → Rep nc Ls Xs h1 r.2 → Q (some (.int z)) h1) (e : FX11_how_b29 N s   = some r) : Rn d 180 (some .int) 29 [none, none, none, none] [] h Q := by
  have hT := hX11_how
  unfold FX11_how_b29 at e
  refine Rn.n hT 1 (pc' := 30) (L' := [none, none, none, none]) (st' := [.int (-1 : Int32)]) rfl ?_
  obtain rfl := Option.some.inj e
  exact Rn.ret hT rfl rfl rfl (hq (-1 : Int32) h L32_m1 hR)
def FX11_how_b103 (N : Nat) (s : iv_M)  (xs0 : Int) : Option (Int × iv_M) := (some (xs0, s))
set_option maxRecDepth 10000 in
set_option maxHeartbeats 4000000 in
theorem RX11_how_b103 {d N nc Ls : Nat} {Xs : Nat → Int32} (hd : 13 ≤ d) {h : iv_H} {s : iv_M} (hR : Rep nc Ls Xs h s)  {ms0 : Int32} {xs0 : Int} (ps0 : ms0.toInt = xs0) {r : Int × iv_M} {Q : Option Value → iv_H → Prop} (hq : ∀ (z : Int32) (h1 : iv_H), z.toInt = r.1 → Rep nc Ls Xs h1 r.2 → Q (some (.int z)) h1) (e : FX11_how_b103 N s  xs0 = some r) : Rn d 180 (some .int) 103 [none, none, none, none] [.int ms0] h Q := by
  have hT := hX11_how
  unfold FX11_how_b103 at e
  obtain rfl := Option.some.inj e
  exact Rn.ret hT rfl rfl rfl (hq ms0 h ps0 hR)
def FX11_how_b101 (N : Nat) (s : iv_M)   : Option (Int × iv_M) := (FX11_how_b103 N s (-2))
set_option maxRecDepth 10000 in
set_option maxHeartbeats 4000000 in
theorem RX11_how_b101 {d N nc Ls : Nat} {Xs : Nat → Int32} (hd : 13 ≤ d) {h : iv_H} {s : iv_M} (hR : Rep nc Ls Xs h s)   {r : Int × iv_M} {Q : Option Value → iv_H → Prop} (hq : ∀ (z : Int32) (h1 : iv_H), z.toInt = r.1 → Rep nc Ls Xs h1 r.2 → Q (some (.int z)) h1) (e : FX11_how_b101 N s   = some r) : Rn d 180 (some .int) 101 [none, none, none, none] [] h Q := by
  have hT := hX11_how
  unfold FX11_how_b101 at e
  refine Rn.n hT 1 (pc' := 103) (L' := [none, none, none, none]) (st' := [.int (-2 : Int32)]) rfl ?_
  exact Rn.weak (ll_n (ll_n (ll_n (ll_n ll_e)))) (RX11_how_b103 hd hR L32_m2 hq e)
def FX11_how (N : Nat) (s : iv_M) (q0 : Nat) (x1 : Int) (x2 : Int) : Option (Int × iv_M) := (if (s ((s q0 4).toNat) 0) = 0 then (FX11_how_b29 N s) else (if x1 < 0 then (FX11_how_b29 N s) else (if 3 < x1 then (FX11_how_b29 N s) else (if x2 < 0 then (FX11_how_b29 N s) else (if x2 ≤ 6 then ((FX11_ruleInForce N s q0).bind fun v_2197 => ((FX10_askRows N s (q0 + 81) ((s q0 4).toNat) v_2197 x1 (s q0 15)).bind fun s_2200 => (if 3 < x2 then ((rd s_2200 ((q0 + 81) + 16) 4 0).bind fun v_2202 => (if v_2202 ≤ 0 then (FX11_how_b101 N s_2200) else (if x1 ≤ (w32 ((w32 (x2 - 3)) - 1)) then (FX11_how_b101 N s_2200) else ((rd s_2200 ((q0 + 81) + 15) 3 (w32 ((w32 (x2 - 3)) - 1))).bind fun v_2205 => (FX11_how_b103 N s_2200 v_2205))))) else ((rd s_2200 ((q0 + 81) + 16) 4 x2).bind fun v_2206 => (some (v_2206, s_2200)))))) else (FX11_how_b29 N s))))))
set_option maxRecDepth 10000 in
set_option maxHeartbeats 4000000 in
theorem RX11_how {d N nc Ls : Nat} {Xs : Nat → Int32} (hd : 14 ≤ d) {h : iv_H} {s : iv_M} (hR : Rep nc Ls Xs h s) {q0 : Nat} (t0 : T11 nc q0) {m1 : Int32} {x1 : Int} (p1 : m1.toInt = x1) {m2 : Int32} {x2 : Int} (p2 : m2.toInt = x2) {r : Int × iv_M} {Q : Option Value → iv_H → Prop} (e : FX11_how N s q0 x1 x2 = some r) (hq : ∀ (z : Int32) (h1 : iv_H), z.toInt = r.1 → Rep nc Ls Xs h1 r.2 → Q (some (.int z)) h1) : Cl d 180 [.ref q0, .int m1, .int m2] h Q := by
  obtain ⟨d, rfl⟩ : ∃ k, d = k + 1 := ⟨d - 1, by omega⟩
  have hd : 13 ≤ d := by omega
  have hT := hX11_how
  unfold FX11_how at e
  refine Cl.into (by decide) gX11_how rfl ?_
  show Rn d 180 (some .int) 0 [some (.ref q0), some (.int m1), some (.int m2), none] [] h Q
  refine Rn.n hT 1 (pc' := 1) (L' := [some (.ref q0), some (.int m1), some (.int m2), none]) (st' := [.ref q0]) rfl ?_
  refine Rn.hp hT rfl rfl (gR_hp (rp_gP (k := 4) hR (T11_o t0) rfl (nn_114 hR t0))) ?_
  obtain ⟨z_2191, g_2191, p_2191⟩ : ∃ z : Int32, gI h 2 0 ((s q0 4).toNat) = some z ∧ z.toInt = s ((s q0 4).toNat) 0 := rp_gI (k := 0) hR (T2_o (ty_114 hR t0)) rfl
  refine Rn.hp hT rfl rfl (gI_hp g_2191) ?_
  by_cases c_2192 : (s ((s q0 4).toNat) 0) = 0
  · rw [if_pos c_2192] at e
    refine Rn.bt hT rfl rfl rfl (decide_eq_true ((ti_e p_2191 L32_0).mpr c_2192)) ?_
    exact Rn.weak (ll_n (ll_n (ll_n (ll_n ll_e)))) (RX11_how_b29 hd hR hq e)
  · rw [if_neg c_2192] at e
    refine Rn.bf hT rfl rfl rfl (decide_eq_false (fun z => c_2192 ((ti_e p_2191 L32_0).mp z))) ?_
    refine Rn.n hT 1 (pc' := 11) (L' := [some (.ref q0), some (.int m1), some (.int m2), none]) (st' := [.int m1]) rfl ?_
    by_cases c_2193 : x1 < 0
    · rw [if_pos c_2193] at e
      refine Rn.bt hT rfl rfl rfl (decide_eq_true ((ti_l p1 L32_0).mpr c_2193)) ?_
      exact Rn.weak (ll_n (ll_n (ll_n (ll_n ll_e)))) (RX11_how_b29 hd hR hq e)
    · rw [if_neg c_2193] at e
      refine Rn.bf hT rfl rfl rfl (decide_eq_false (fun z => c_2193 ((ti_l p1 L32_0).mp z))) ?_
      refine Rn.n hT 2 (pc' := 16) (L' := [some (.ref q0), some (.int m1), some (.int m2), none]) (st' := [.int (3 : Int32), .int m1]) rfl ?_
      by_cases c_2194 : 3 < x1
      · rw [if_pos c_2194] at e
        refine Rn.bt hT rfl rfl rfl (decide_eq_true ((ti_l L32_3 p1).mpr c_2194)) ?_
        exact Rn.weak (ll_n (ll_n (ll_n (ll_n ll_e)))) (RX11_how_b29 hd hR hq e)
      · rw [if_neg c_2194] at e
        refine Rn.bf hT rfl rfl rfl (decide_eq_false (fun z => c_2194 ((ti_l L32_3 p1).mp z))) ?_
        refine Rn.n hT 1 (pc' := 20) (L' := [some (.ref q0), some (.int m1), some (.int m2), none]) (st' := [.int m2]) rfl ?_
        by_cases c_2195 : x2 < 0
        · rw [if_pos c_2195] at e
          refine Rn.bt hT rfl rfl rfl (decide_eq_true ((ti_l p2 L32_0).mpr c_2195)) ?_
          exact Rn.weak (ll_n (ll_n (ll_n (ll_n ll_e)))) (RX11_how_b29 hd hR hq e)
        · rw [if_neg c_2195] at e
          refine Rn.bf hT rfl rfl rfl (decide_eq_false (fun z => c_2195 ((ti_l p2 L32_0).mp z))) ?_
          refine Rn.n hT 2 (pc' := 26) (L' := [some (.ref q0), some (.int m1), some (.int m2), none]) (st' := [.int (6 : Int32), .int m2]) rfl ?_
          by_cases c_2196 : x2 ≤ 6
          · rw [if_pos c_2196] at e
            refine Rn.bt hT rfl rfl rfl (decide_eq_true ((ti_le p2 L32_6).mpr c_2196)) ?_
            refine Rn.n hT 1 (pc' := 32) (L' := [some (.ref q0), some (.int m1), some (.int m2), none]) (st' := [.ref q0]) rfl ?_
            refine Rn.hp hT rfl rfl (gR_hp (rp_gR hR (T11_o t0) rfl)) ?_
            refine Rn.n hT 1 (pc' := 36) (L' := [some (.ref q0), some (.int m1), some (.int m2), none]) (st' := [.ref q0, .ref (q0 + 81)]) rfl ?_
            refine Rn.hp hT rfl rfl (gR_hp (rp_gP (k := 4) hR (T11_o t0) rfl (nn_114 hR t0))) ?_
            refine Rn.n hT 1 (pc' := 40) (L' := [some (.ref q0), some (.int m1), some (.int m2), none]) (st' := [.ref q0, .ref ((s q0 4).toNat), .ref (q0 + 81)]) rfl ?_
            obtain ⟨v_2197, e_2197, e⟩ := Option.bind_eq_some_iff.mp e
            refine Rn.call hT rfl rfl rfl (Nat.le_of_ble_eq_true rfl) (rcv_v gX11_ruleInForce (by omega) (rp_ck hR (T11_o t0))) (RX11_ruleInForce (by omega) hR t0 e_2197 (fun t_2197 => ?_))
            show Rn d _ _ 43 [some (.ref q0), some (.int m1), some (.int m2), none] [iv_rf (rvo v_2197), .ref ((s q0 4).toNat), .ref (q0 + 81)] h Q
            refine Rn.n hT 2 (pc' := 45) (L' := [some (.ref q0), some (.int m1), some (.int m2), none]) (st' := [.ref q0, .int m1, iv_rf (rvo v_2197), .ref ((s q0 4).toNat), .ref (q0 + 81)]) rfl ?_
            obtain ⟨z_2198, g_2198, p_2198⟩ : ∃ z : Int32, gI h 11 15 q0 = some z ∧ z.toInt = s q0 15 := rp_gI (k := 15) hR (T11_o t0) rfl
            refine Rn.hp hT rfl rfl (gI_hp g_2198) ?_
            obtain ⟨s_2200, e_2199, e⟩ := Option.bind_eq_some_iff.mp e
            refine Rn.call hT rfl rfl rfl (Nat.le_of_ble_eq_true rfl) (rcv_v gX10_askRows (by omega) (rp_ck hR (T10_o (T11_11 t0)))) (RX10_askRows (by omega) hR (T11_11 t0) (ty_114 hR t0) t_2197 p1 p_2198 e_2199 (fun h_2200 R_2200 => ?_))
            show Rn d _ _ 51 [some (.ref q0), some (.int m1), some (.int m2), none] [] h_2200 Q
            refine Rn.n hT 2 (pc' := 53) (L' := [some (.ref q0), some (.int m1), some (.int m2), none]) (st' := [.int (3 : Int32), .int m2]) rfl ?_
            by_cases c_2201 : 3 < x2
            · rw [if_pos c_2201] at e
              refine Rn.bt hT rfl rfl rfl (decide_eq_true ((ti_l L32_3 p2).mpr c_2201)) ?_
              refine Rn.n hT 7 (pc' := 73) (L' := [some (.ref q0), some (.int m1), some (.int m2), some (.int ((m2 - (3 : Int32)) - (1 : Int32)))]) (st' := [.ref q0]) rfl ?_
              refine Rn.hp hT rfl rfl (gR_hp (rp_gR R_2200 (T11_o t0) rfl)) ?_
              refine Rn.hp hT rfl rfl (gR_hp (rp_gR R_2200 (T10_o (T11_11 t0)) rfl)) ?_
              refine Rn.n hT 1 (pc' := 80) (L' := [some (.ref q0), some (.int m1), some (.int m2), some (.int ((m2 - (3 : Int32)) - (1 : Int32)))]) (st' := [.int (0 : Int32), .ref ((q0 + 81) + 16)]) rfl ?_
              obtain ⟨v_2202, e_2202, e⟩ := Option.bind_eq_some_iff.mp e
              obtain ⟨z_2202, g_2202, p_2202⟩ := rp_aI R_2200 (T10_6 (T11_11 t0)) (T10_6l (T11_11 t0)) L32_0 e_2202
              refine Rn.hp hT rfl rfl (aI_hp g_2202) ?_
              by_cases c_2203 : v_2202 ≤ 0
              · rw [if_pos c_2203] at e
                refine Rn.bt hT rfl rfl rfl (decide_eq_true ((ti_le p_2202 L32_0).mpr c_2203)) ?_
                exact Rn.weak (ll_n (ll_n (ll_n (ll_n ll_e)))) (RX11_how_b101 hd R_2200 hq e)
              · rw [if_neg c_2203] at e
                refine Rn.bf hT rfl rfl rfl (decide_eq_false (fun z => c_2203 ((ti_le p_2202 L32_0).mp z))) ?_
                refine Rn.n hT 2 (pc' := 86) (L' := [some (.ref q0), some (.int m1), some (.int m2), some (.int ((m2 - (3 : Int32)) - (1 : Int32)))]) (st' := [.int m1, .int ((m2 - (3 : Int32)) - (1 : Int32))]) rfl ?_
                by_cases c_2204 : x1 ≤ (w32 ((w32 (x2 - 3)) - 1))
                · rw [if_pos c_2204] at e
                  refine Rn.bt hT rfl rfl rfl (decide_eq_true ((ti_le p1 (ti_sub (ti_sub p2 L32_3) L32_1)).mpr c_2204)) ?_
                  exact Rn.weak (ll_n (ll_n (ll_n (ll_n ll_e)))) (RX11_how_b101 hd R_2200 hq e)
                · rw [if_neg c_2204] at e
                  refine Rn.bf hT rfl rfl rfl (decide_eq_false (fun z => c_2204 ((ti_le p1 (ti_sub (ti_sub p2 L32_3) L32_1)).mp z))) ?_
                  refine Rn.n hT 1 (pc' := 90) (L' := [some (.ref q0), some (.int m1), some (.int m2), some (.int ((m2 - (3 : Int32)) - (1 : Int32)))]) (st' := [.ref q0]) rfl ?_
                  refine Rn.hp hT rfl rfl (gR_hp (rp_gR R_2200 (T11_o t0) rfl)) ?_
                  refine Rn.hp hT rfl rfl (gR_hp (rp_gR R_2200 (T10_o (T11_11 t0)) rfl)) ?_
                  refine Rn.n hT 1 (pc' := 97) (L' := [some (.ref q0), some (.int m1), some (.int m2), some (.int ((m2 - (3 : Int32)) - (1 : Int32)))]) (st' := [.int ((m2 - (3 : Int32)) - (1 : Int32)), .ref ((q0 + 81) + 15)]) rfl ?_
                  obtain ⟨v_2205, e_2205, e⟩ := Option.bind_eq_some_iff.mp e
                  obtain ⟨z_2205, g_2205, p_2205⟩ := rp_aI R_2200 (T10_5 (T11_11 t0)) (T10_5l (T11_11 t0)) (ti_sub (ti_sub p2 L32_3) L32_1) e_2205
                  refine Rn.hp hT rfl rfl (aI_hp g_2205) ?_
                  refine Rn.n hT 1 (pc' := 103) (L' := [some (.ref q0), some (.int m1), some (.int m2), some (.int ((m2 - (3 : Int32)) - (1 : Int32)))]) (st' := [.int z_2205]) rfl ?_
                  exact Rn.weak (ll_n (ll_n (ll_n (ll_n ll_e)))) (RX11_how_b103 hd R_2200 p_2205 hq e)
            · rw [if_neg c_2201] at e
              refine Rn.bf hT rfl rfl rfl (decide_eq_false (fun z => c_2201 ((ti_l L32_3 p2).mp z))) ?_
              refine Rn.n hT 1 (pc' := 57) (L' := [some (.ref q0), some (.int m1), some (.int m2), none]) (st' := [.ref q0]) rfl ?_
              refine Rn.hp hT rfl rfl (gR_hp (rp_gR R_2200 (T11_o t0) rfl)) ?_
              refine Rn.hp hT rfl rfl (gR_hp (rp_gR R_2200 (T10_o (T11_11 t0)) rfl)) ?_
              refine Rn.n hT 1 (pc' := 64) (L' := [some (.ref q0), some (.int m1), some (.int m2), none]) (st' := [.int m2, .ref ((q0 + 81) + 16)]) rfl ?_
              obtain ⟨v_2206, e_2206, e⟩ := Option.bind_eq_some_iff.mp e
              obtain ⟨z_2206, g_2206, p_2206⟩ := rp_aI R_2200 (T10_6 (T11_11 t0)) (T10_6l (T11_11 t0)) p2 e_2206
              refine Rn.hp hT rfl rfl (aI_hp g_2206) ?_
              obtain rfl := Option.some.inj e
              exact Rn.ret hT rfl rfl rfl (hq z_2206 h_2200 p_2206 R_2200)
          · rw [if_neg c_2196] at e
            refine Rn.bf hT rfl rfl rfl (decide_eq_false (fun z => c_2196 ((ti_le p2 L32_6).mp z))) ?_
            exact Rn.weak (ll_n (ll_n (ll_n (ll_n ll_e)))) (RX11_how_b29 hd hR hq e)
set_option maxRecDepth 10000 in
theorem hX11_built : iv_Tb 181 tX11_built := iv_tb_of (m := mX11_built) rfl
set_option maxRecDepth 10000 in
theorem gX11_built : PG.2 181 = some mX11_built := iv_pi_of (t := tX11_built) rfl (by decide)
def FX11_built_b46 (N : Nat) (s : iv_M)   : Option (Int) := (some (-1))
set_option maxRecDepth 10000 in
set_option maxHeartbeats 4000000 in
theorem RX11_built_b46 {d N nc Ls : Nat} {Xs : Nat → Int32} (hd : 2 ≤ d) {h : iv_H} {s : iv_M} (hR : Rep nc Ls Xs h s)   {r : Int} {Q : Option Value → iv_H → Prop} (hq : ∀ (z : Int32), z.toInt = r → Q (some (.int z)) h) (e : FX11_built_b46 N s   = some r) : Rn d 181 (some .int) 46 [none, none, none, none, none] [] h Q := by
  have hT := hX11_built
  unfold FX11_built_b46 at e
  refine Rn.n hT 1 (pc' := 47) (L' := [none, none, none, none, none]) (st' := [.int (-1 : Int32)]) rfl ?_
  obtain rfl := Option.some.inj e
  exact Rn.ret hT rfl rfl rfl (hq (-1 : Int32) L32_m1)
def FX11_built (N : Nat) (s : iv_M) (q0 : Nat) (x1 : Int) (x2 : Int) (x3 : Int) : Option (Int) := ((FX1_cellAt N s ((s q0 4).toNat + 1) x1 x2).bind fun v_2207 => (if v_2207 = (-1) then (FX11_built_b46 N s) else ((rd s (((s q0 4).toNat + 1) + 3) 16 v_2207).bind fun v_2209 => (if v_2209 = (-1) then (if x3 < 0 then (FX11_built_b46 N s) else (if x3 ≤ 4 then (if x3 = 0 then ((FX1_mismatches N s ((s q0 4).toNat + 1)).bind fun v_2215 => ((FX1_doorsTowards N s ((s q0 4).toNat + 1) v_2207).bind fun v_2216 => (some (w32 (v_2215 - v_2216))))) else ((FX1_sideToBuild N s ((s q0 4).toNat + 1) v_2207 (w32 (x3 - 1))).bind fun v_2214 => (some v_2214))) else (FX11_built_b46 N s))) else (FX11_built_b46 N s)))))
set_option maxRecDepth 10000 in
set_option maxHeartbeats 4000000 in
theorem RX11_built {d N nc Ls : Nat} {Xs : Nat → Int32} (hd : 3 ≤ d) {h : iv_H} {s : iv_M} (hR : Rep nc Ls Xs h s) {q0 : Nat} (t0 : T11 nc q0) {m1 : Int32} {x1 : Int} (p1 : m1.toInt = x1) {m2 : Int32} {x2 : Int} (p2 : m2.toInt = x2) {m3 : Int32} {x3 : Int} (p3 : m3.toInt = x3) {r : Int} {Q : Option Value → iv_H → Prop} (e : FX11_built N s q0 x1 x2 x3 = some r) (hq : ∀ (z : Int32), z.toInt = r → Q (some (.int z)) h) : Cl d 181 [.ref q0, .int m1, .int m2, .int m3] h Q := by
  obtain ⟨d, rfl⟩ : ∃ k, d = k + 1 := ⟨d - 1, by omega⟩
  have hd : 2 ≤ d := by omega
  have hT := hX11_built
  unfold FX11_built at e
  refine Cl.into (by decide) gX11_built rfl ?_
  show Rn d 181 (some .int) 0 [some (.ref q0), some (.int m1), some (.int m2), some (.int m3), none] [] h Q
  refine Rn.n hT 1 (pc' := 1) (L' := [some (.ref q0), some (.int m1), some (.int m2), some (.int m3), none]) (st' := [.ref q0]) rfl ?_
  refine Rn.hp hT rfl rfl (gR_hp (rp_gP (k := 4) hR (T11_o t0) rfl (nn_114 hR t0))) ?_
  refine Rn.hp hT rfl rfl (gR_hp (rp_gR hR (T2_o (ty_114 hR t0)) rfl)) ?_
  refine Rn.n hT 2 (pc' := 9) (L' := [some (.ref q0), some (.int m1), some (.int m2), some (.int m3), none]) (st' := [.int m2, .int m1, .ref ((s q0 4).toNat + 1)]) rfl ?_
  obtain ⟨v_2207, e_2207, e⟩ := Option.bind_eq_some_iff.mp e
  refine Rn.call hT rfl rfl rfl (Nat.le_of_ble_eq_true rfl) (rcv_v gX1_cellAt (by omega) (rp_ck hR (T1_o (T2_9 (ty_114 hR t0))))) (RX1_cellAt (by omega) hR (T2_9 (ty_114 hR t0)) p1 p2 e_2207 (fun z_2207 p_2207 => ?_))
  show Rn d _ _ 12 [some (.ref q0), some (.int m1), some (.int m2), some (.int m3), none] [.int z_2207] h Q
  refine Rn.n hT 3 (pc' := 17) (L' := [some (.ref q0), some (.int m1), some (.int m2), some (.int m3), some (.int z_2207)]) (st' := [.int (-1 : Int32), .int z_2207]) rfl ?_
  by_cases c_2208 : v_2207 = (-1)
  · rw [if_pos c_2208] at e
    refine Rn.bt hT rfl rfl rfl (decide_eq_true ((ti_e p_2207 L32_m1).mpr c_2208)) ?_
    exact Rn.weak (ll_n (ll_n (ll_n (ll_n (ll_n ll_e))))) (RX11_built_b46 hd hR hq e)
  · rw [if_neg c_2208] at e
    refine Rn.bf hT rfl rfl rfl (decide_eq_false (fun z => c_2208 ((ti_e p_2207 L32_m1).mp z))) ?_
    refine Rn.n hT 1 (pc' := 21) (L' := [some (.ref q0), some (.int m1), some (.int m2), some (.int m3), some (.int z_2207)]) (st' := [.ref q0]) rfl ?_
    refine Rn.hp hT rfl rfl (gR_hp (rp_gP (k := 4) hR (T11_o t0) rfl (nn_114 hR t0))) ?_
    refine Rn.hp hT rfl rfl (gR_hp (rp_gR hR (T2_o (ty_114 hR t0)) rfl)) ?_
    refine Rn.hp hT rfl rfl (gR_hp (rp_gR hR (T1_o (T2_9 (ty_114 hR t0))) rfl)) ?_
    refine Rn.n hT 1 (pc' := 32) (L' := [some (.ref q0), some (.int m1), some (.int m2), some (.int m3), some (.int z_2207)]) (st' := [.int z_2207, .ref (((s q0 4).toNat + 1) + 3)]) rfl ?_
    obtain ⟨v_2209, e_2209, e⟩ := Option.bind_eq_some_iff.mp e
    obtain ⟨z_2209, g_2209, p_2209⟩ := rp_aI hR (T1_7 (T2_9 (ty_114 hR t0))) (T1_7l (T2_9 (ty_114 hR t0))) p_2207 e_2209
    refine Rn.hp hT rfl rfl (aI_hp g_2209) ?_
    refine Rn.n hT 1 (pc' := 34) (L' := [some (.ref q0), some (.int m1), some (.int m2), some (.int m3), some (.int z_2207)]) (st' := [.int (-1 : Int32), .int z_2209]) rfl ?_
    by_cases c_2210 : v_2209 = (-1)
    · rw [if_pos c_2210] at e
      refine Rn.bf hT rfl rfl rfl (decide_eq_false (fun z => z ((ti_e p_2209 L32_m1).mpr c_2210))) ?_
      refine Rn.n hT 1 (pc' := 38) (L' := [some (.ref q0), some (.int m1), some (.int m2), some (.int m3), some (.int z_2207)]) (st' := [.int m3]) rfl ?_
      by_cases c_2211 : x3 < 0
      · rw [if_pos c_2211] at e
        refine Rn.bt hT rfl rfl rfl (decide_eq_true ((ti_l p3 L32_0).mpr c_2211)) ?_
        exact Rn.weak (ll_n (ll_n (ll_n (ll_n (ll_n ll_e))))) (RX11_built_b46 hd hR hq e)
      · rw [if_neg c_2211] at e
        refine Rn.bf hT rfl rfl rfl (decide_eq_false (fun z => c_2211 ((ti_l p3 L32_0).mp z))) ?_
        refine Rn.n hT 2 (pc' := 43) (L' := [some (.ref q0), some (.int m1), some (.int m2), some (.int m3), some (.int z_2207)]) (st' := [.int (4 : Int32), .int m3]) rfl ?_
        by_cases c_2212 : x3 ≤ 4
        · rw [if_pos c_2212] at e
          refine Rn.bt hT rfl rfl rfl (decide_eq_true ((ti_le p3 L32_4).mpr c_2212)) ?_
          refine Rn.n hT 1 (pc' := 49) (L' := [some (.ref q0), some (.int m1), some (.int m2), some (.int m3), some (.int z_2207)]) (st' := [.int m3]) rfl ?_
          by_cases c_2213 : x3 = 0
          · rw [if_pos c_2213] at e
            refine Rn.bf hT rfl rfl rfl (decide_eq_false (fun z => z ((ti_e p3 L32_0).mpr c_2213))) ?_
            refine Rn.n hT 1 (pc' := 53) (L' := [some (.ref q0), some (.int m1), some (.int m2), some (.int m3), some (.int z_2207)]) (st' := [.ref q0]) rfl ?_
            refine Rn.hp hT rfl rfl (gR_hp (rp_gP (k := 4) hR (T11_o t0) rfl (nn_114 hR t0))) ?_
            refine Rn.hp hT rfl rfl (gR_hp (rp_gR hR (T2_o (ty_114 hR t0)) rfl)) ?_
            obtain ⟨v_2215, e_2215, e⟩ := Option.bind_eq_some_iff.mp e
            refine Rn.call hT rfl rfl rfl (Nat.le_of_ble_eq_true rfl) (rcv_v gX1_mismatches (by omega) (rp_ck hR (T1_o (T2_9 (ty_114 hR t0))))) (RX1_mismatches (by omega) hR (T2_9 (ty_114 hR t0)) e_2215 (fun z_2215 p_2215 => ?_))
            show Rn d _ _ 62 [some (.ref q0), some (.int m1), some (.int m2), some (.int m3), some (.int z_2207)] [.int z_2215] h Q
            refine Rn.n hT 1 (pc' := 63) (L' := [some (.ref q0), some (.int m1), some (.int m2), some (.int m3), some (.int z_2207)]) (st' := [.ref q0, .int z_2215]) rfl ?_
            refine Rn.hp hT rfl rfl (gR_hp (rp_gP (k := 4) hR (T11_o t0) rfl (nn_114 hR t0))) ?_
            refine Rn.hp hT rfl rfl (gR_hp (rp_gR hR (T2_o (ty_114 hR t0)) rfl)) ?_
            refine Rn.n hT 1 (pc' := 71) (L' := [some (.ref q0), some (.int m1), some (.int m2), some (.int m3), some (.int z_2207)]) (st' := [.int z_2207, .ref ((s q0 4).toNat + 1), .int z_2215]) rfl ?_
            obtain ⟨v_2216, e_2216, e⟩ := Option.bind_eq_some_iff.mp e
            refine Rn.call hT rfl rfl rfl (Nat.le_of_ble_eq_true rfl) (rcv_v gX1_doorsTowards (by omega) (rp_ck hR (T1_o (T2_9 (ty_114 hR t0))))) (RX1_doorsTowards (by omega) hR (T2_9 (ty_114 hR t0)) p_2207 e_2216 (fun z_2216 p_2216 => ?_))
            show Rn d _ _ 74 [some (.ref q0), some (.int m1), some (.int m2), some (.int m3), some (.int z_2207)] [.int z_2216, .int z_2215] h Q
            refine Rn.n hT 1 (pc' := 75) (L' := [some (.ref q0), some (.int m1), some (.int m2), some (.int m3), some (.int z_2207)]) (st' := [.int (z_2215 - z_2216)]) rfl ?_
            obtain rfl := Option.some.inj e
            exact Rn.ret hT rfl rfl rfl (hq (z_2215 - z_2216) (ti_sub p_2215 p_2216))
          · rw [if_neg c_2213] at e
            refine Rn.bt hT rfl rfl rfl (decide_eq_true (fun z => c_2213 ((ti_e p3 L32_0).mp z))) ?_
            refine Rn.n hT 1 (pc' := 77) (L' := [some (.ref q0), some (.int m1), some (.int m2), some (.int m3), some (.int z_2207)]) (st' := [.ref q0]) rfl ?_
            refine Rn.hp hT rfl rfl (gR_hp (rp_gP (k := 4) hR (T11_o t0) rfl (nn_114 hR t0))) ?_
            refine Rn.hp hT rfl rfl (gR_hp (rp_gR hR (T2_o (ty_114 hR t0)) rfl)) ?_
            refine Rn.n hT 4 (pc' := 88) (L' := [some (.ref q0), some (.int m1), some (.int m2), some (.int m3), some (.int z_2207)]) (st' := [.int (m3 - (1 : Int32)), .int z_2207, .ref ((s q0 4).toNat + 1)]) rfl ?_
            obtain ⟨v_2214, e_2214, e⟩ := Option.bind_eq_some_iff.mp e
            refine Rn.call hT rfl rfl rfl (Nat.le_of_ble_eq_true rfl) (rcv_v gX1_sideToBuild (by omega) (rp_ck hR (T1_o (T2_9 (ty_114 hR t0))))) (RX1_sideToBuild (by omega) hR (T2_9 (ty_114 hR t0)) p_2207 (ti_sub p3 L32_1) e_2214 (fun z_2214 p_2214 => ?_))
            show Rn d _ _ 91 [some (.ref q0), some (.int m1), some (.int m2), some (.int m3), some (.int z_2207)] [.int z_2214] h Q
            obtain rfl := Option.some.inj e
            exact Rn.ret hT rfl rfl rfl (hq z_2214 p_2214)
        · rw [if_neg c_2212] at e
          refine Rn.bf hT rfl rfl rfl (decide_eq_false (fun z => c_2212 ((ti_le p3 L32_4).mp z))) ?_
          exact Rn.weak (ll_n (ll_n (ll_n (ll_n (ll_n ll_e))))) (RX11_built_b46 hd hR hq e)
    · rw [if_neg c_2210] at e
      refine Rn.bt hT rfl rfl rfl (decide_eq_true (fun z => c_2210 ((ti_e p_2209 L32_m1).mp z))) ?_
      exact Rn.weak (ll_n (ll_n (ll_n (ll_n (ll_n ll_e))))) (RX11_built_b46 hd hR hq e)
set_option maxRecDepth 10000 in
theorem hX11_best : iv_Tb 182 tX11_best := iv_tb_of (m := mX11_best) rfl
set_option maxRecDepth 10000 in
theorem gX11_best : PG.2 182 = some mX11_best := iv_pi_of (t := tX11_best) rfl (by decide)
def FX11_best_b68 (N : Nat) (s : iv_M) (q0 : Nat) (x1 : Int) (x2 : Int) (x3 : Int)  (kb : Int → Int → Int → Option (Int)) (kx : Int → Option (Int)) : Option (Int) := (kb x1 x2 (w32 (x3 + 1)))
set_option maxRecDepth 10000 in
set_option maxHeartbeats 4000000 in
theorem RX11_best_b68 {d N nc Ls : Nat} {Xs : Nat → Int32} (hd : 2 ≤ d) {h : iv_H} {s : iv_M} (hR : Rep nc Ls Xs h s) {q0 : Nat} (t0 : T11 nc q0) {m1 : Int32} {x1 : Int} (p1 : m1.toInt = x1) {m2 : Int32} {x2 : Int} (p2 : m2.toInt = x2) {m3 : Int32} {x3 : Int} (p3 : m3.toInt = x3)  {kb : Int → Int → Int → Option (Int)} {kx : Int → Option (Int)} {r : Int} {Q : Option Value → iv_H → Prop} (hb : ∀ (mw1 : Int32) (xw1 : Int) (pw1 : mw1.toInt = xw1) (mw2 : Int32) (xw2 : Int) (pw2 : mw2.toInt = xw2) (mw3 : Int32) (xw3 : Int) (pw3 : mw3.toInt = xw3), kb xw1 xw2 xw3 = some r → Rn d 182 (some .int) 19 [some (.ref q0), some (.int mw1), some (.int mw2), some (.int mw3)] [] h Q) (hk : ∀ (mw1 : Int32) (xw1 : Int) (pw1 : mw1.toInt = xw1), kx xw1 = some r → Rn d 182 (some .int) 74 [none, some (.int mw1), none, none] [] h Q) (hq : ∀ (z : Int32), z.toInt = r → Q (some (.int z)) h) (e : FX11_best_b68 N s q0 x1 x2 x3  kb kx = some r) : Rn d 182 (some .int) 68 [some (.ref q0), some (.int m1), some (.int m2), some (.int m3)] [] h Q := by
  have hT := hX11_best
  unfold FX11_best_b68 at e
  refine Rn.n hT 2 (pc' := 19) (L' := [some (.ref q0), some (.int m1), some (.int m2), some (.int (m3 + (1 : Int32)))]) (st' := []) rfl ?_
  exact Rn.weak (ll_s (ll_s (ll_s (ll_s ll_e)))) (hb m1 x1 p1 m2 x2 p2 (m3 + (1 : Int32)) (w32 (x3 + 1)) (ti_add p3 L32_1) e)
def FX11_best_l19 (N : Nat) (s : iv_M) (q0 : Nat) (kx : Int → Option (Int)) : Nat → Int → Int → Int → Option (Int)
  | 0, _, _, _ => none
  | n + 1, x1, x2, x3 => (if 16 ≤ x3 then (kx x1) else ((FX1_isEmptyCell N s ((s q0 4).toNat + 1) x3).bind fun v_2221 => (if v_2221 = 0 then (FX11_best_b68 N s q0 x1 x2 x3 (FX11_best_l19 N s q0 kx n) kx) else ((FX1_doorsTowards N s ((s q0 4).toNat + 1) x3).bind fun v_2223 => (if v_2223 ≤ x2 then (FX11_best_b68 N s q0 x1 x2 x3 (FX11_best_l19 N s q0 kx n) kx) else ((FX1_doorsTowards N s ((s q0 4).toNat + 1) x3).bind fun v_2225 => (FX11_best_b68 N s q0 x3 v_2225 x3 (FX11_best_l19 N s q0 kx n) kx)))))))
set_option maxRecDepth 10000 in
set_option maxHeartbeats 4000000 in
theorem RX11_best_l19 {d N nc Ls : Nat} {Xs : Nat → Int32} (hd : 2 ≤ d) {h : iv_H} {s : iv_M} (hR : Rep nc Ls Xs h s) {q0 : Nat} (t0 : T11 nc q0) {kx : Int → Option (Int)} {r : Int} {Q : Option Value → iv_H → Prop} (hk : ∀ (m1 : Int32) (x1 : Int) (p1 : m1.toInt = x1), kx x1 = some r → Rn d 182 (some .int) 74 [none, some (.int m1), none, none] [] h Q) (hq : ∀ (z : Int32), z.toInt = r → Q (some (.int z)) h) : ∀ (n : Nat) (m1 : Int32) (x1 : Int) (p1 : m1.toInt = x1) (m2 : Int32) (x2 : Int) (p2 : m2.toInt = x2) (m3 : Int32) (x3 : Int) (p3 : m3.toInt = x3), FX11_best_l19 N s q0 kx n x1 x2 x3 = some r → Rn d 182 (some .int) 19 [some (.ref q0), some (.int m1), some (.int m2), some (.int m3)] [] h Q := by
  have hT := hX11_best
  intro n
  induction n with
  | zero =>
    intro m1 x1 p1 m2 x2 p2 m3 x3 p3 e
    rw [FX11_best_l19] at e
    cases e
  | succ n ih =>
    intro m1 x1 p1 m2 x2 p2 m3 x3 p3 e
    rw [FX11_best_l19] at e
    refine Rn.n hT 2 (pc' := 22) (L' := [some (.ref q0), some (.int m1), some (.int m2), some (.int m3)]) (st' := [.int (16 : Int32), .int m3]) rfl ?_
    by_cases c_2220 : 16 ≤ x3
    · rw [if_pos c_2220] at e
      refine Rn.bt hT rfl rfl rfl (decide_eq_true ((ti_le L32_16 p3).mpr c_2220)) ?_
      exact Rn.weak (ll_n (ll_s (ll_n (ll_n ll_e)))) (hk m1 x1 p1 e)
    · rw [if_neg c_2220] at e
      refine Rn.bf hT rfl rfl rfl (decide_eq_false (fun z => c_2220 ((ti_le L32_16 p3).mp z))) ?_
      refine Rn.n hT 1 (pc' := 26) (L' := [some (.ref q0), some (.int m1), some (.int m2), some (.int m3)]) (st' := [.ref q0]) rfl ?_
      refine Rn.hp hT rfl rfl (gR_hp (rp_gP (k := 4) hR (T11_o t0) rfl (nn_114 hR t0))) ?_
      refine Rn.hp hT rfl rfl (gR_hp (rp_gR hR (T2_o (ty_114 hR t0)) rfl)) ?_
      refine Rn.n hT 1 (pc' := 33) (L' := [some (.ref q0), some (.int m1), some (.int m2), some (.int m3)]) (st' := [.int m3, .ref ((s q0 4).toNat + 1)]) rfl ?_
      obtain ⟨v_2221, e_2221, e⟩ := Option.bind_eq_some_iff.mp e
      refine Rn.call hT rfl rfl rfl (Nat.le_of_ble_eq_true rfl) (rcv_v gX1_isEmptyCell (by omega) (rp_ck hR (T1_o (T2_9 (ty_114 hR t0))))) (RX1_isEmptyCell (by omega) hR (T2_9 (ty_114 hR t0)) p3 e_2221 (fun z_2221 p_2221 => ?_))
      show Rn d _ _ 36 [some (.ref q0), some (.int m1), some (.int m2), some (.int m3)] [.int z_2221] h Q
      by_cases c_2222 : v_2221 = 0
      · rw [if_pos c_2222] at e
        refine Rn.bt hT rfl rfl rfl (decide_eq_true ((ti_e p_2221 L32_0).mpr c_2222)) ?_
        exact Rn.weak (ll_s (ll_s (ll_s (ll_s ll_e)))) (RX11_best_b68 hd hR t0 p1 p2 p3 ih hk hq e)
      · rw [if_neg c_2222] at e
        refine Rn.bf hT rfl rfl rfl (decide_eq_false (fun z => c_2222 ((ti_e p_2221 L32_0).mp z))) ?_
        refine Rn.n hT 1 (pc' := 40) (L' := [some (.ref q0), some (.int m1), some (.int m2), some (.int m3)]) (st' := [.ref q0]) rfl ?_
        refine Rn.hp hT rfl rfl (gR_hp (rp_gP (k := 4) hR (T11_o t0) rfl (nn_114 hR t0))) ?_
        refine Rn.hp hT rfl rfl (gR_hp (rp_gR hR (T2_o (ty_114 hR t0)) rfl)) ?_
        refine Rn.n hT 1 (pc' := 47) (L' := [some (.ref q0), some (.int m1), some (.int m2), some (.int m3)]) (st' := [.int m3, .ref ((s q0 4).toNat + 1)]) rfl ?_
        obtain ⟨v_2223, e_2223, e⟩ := Option.bind_eq_some_iff.mp e
        refine Rn.call hT rfl rfl rfl (Nat.le_of_ble_eq_true rfl) (rcv_v gX1_doorsTowards (by omega) (rp_ck hR (T1_o (T2_9 (ty_114 hR t0))))) (RX1_doorsTowards (by omega) hR (T2_9 (ty_114 hR t0)) p3 e_2223 (fun z_2223 p_2223 => ?_))
        show Rn d _ _ 50 [some (.ref q0), some (.int m1), some (.int m2), some (.int m3)] [.int z_2223] h Q
        refine Rn.n hT 1 (pc' := 51) (L' := [some (.ref q0), some (.int m1), some (.int m2), some (.int m3)]) (st' := [.int m2, .int z_2223]) rfl ?_
        by_cases c_2224 : v_2223 ≤ x2
        · rw [if_pos c_2224] at e
          refine Rn.bt hT rfl rfl rfl (decide_eq_true ((ti_le p_2223 p2).mpr c_2224)) ?_
          exact Rn.weak (ll_s (ll_s (ll_s (ll_s ll_e)))) (RX11_best_b68 hd hR t0 p1 p2 p3 ih hk hq e)
        · rw [if_neg c_2224] at e
          refine Rn.bf hT rfl rfl rfl (decide_eq_false (fun z => c_2224 ((ti_le p_2223 p2).mp z))) ?_
          refine Rn.n hT 3 (pc' := 57) (L' := [some (.ref q0), some (.int m3), some (.int m2), some (.int m3)]) (st' := [.ref q0]) rfl ?_
          refine Rn.hp hT rfl rfl (gR_hp (rp_gP (k := 4) hR (T11_o t0) rfl (nn_114 hR t0))) ?_
          refine Rn.hp hT rfl rfl (gR_hp (rp_gR hR (T2_o (ty_114 hR t0)) rfl)) ?_
          refine Rn.n hT 1 (pc' := 64) (L' := [some (.ref q0), some (.int m3), some (.int m2), some (.int m3)]) (st' := [.int m3, .ref ((s q0 4).toNat + 1)]) rfl ?_
          obtain ⟨v_2225, e_2225, e⟩ := Option.bind_eq_some_iff.mp e
          refine Rn.call hT rfl rfl rfl (Nat.le_of_ble_eq_true rfl) (rcv_v gX1_doorsTowards (by omega) (rp_ck hR (T1_o (T2_9 (ty_114 hR t0))))) (RX1_doorsTowards (by omega) hR (T2_9 (ty_114 hR t0)) p3 e_2225 (fun z_2225 p_2225 => ?_))
          show Rn d _ _ 67 [some (.ref q0), some (.int m3), some (.int m2), some (.int m3)] [.int z_2225] h Q
          refine Rn.n hT 1 (pc' := 68) (L' := [some (.ref q0), some (.int m3), some (.int z_2225), some (.int m3)]) (st' := []) rfl ?_
          exact Rn.weak (ll_s (ll_s (ll_s (ll_s ll_e)))) (RX11_best_b68 hd hR t0 p3 p_2225 p3 ih hk hq e)
def FX11_best (N : Nat) (s : iv_M) (q0 : Nat) : Option (Int) := (if (s ((s q0 4).toNat) 0) = 0 then (some (-1)) else (FX11_best_l19 N s q0 (fun (x2219_1 : Int) => (some x2219_1)) N (-2) (-1) 0))
set_option maxRecDepth 10000 in
set_option maxHeartbeats 4000000 in
theorem RX11_best {d N nc Ls : Nat} {Xs : Nat → Int32} (hd : 3 ≤ d) {h : iv_H} {s : iv_M} (hR : Rep nc Ls Xs h s) {q0 : Nat} (t0 : T11 nc q0) {r : Int} {Q : Option Value → iv_H → Prop} (e : FX11_best N s q0 = some r) (hq : ∀ (z : Int32), z.toInt = r → Q (some (.int z)) h) : Cl d 182 [.ref q0] h Q := by
  obtain ⟨d, rfl⟩ : ∃ k, d = k + 1 := ⟨d - 1, by omega⟩
  have hd : 2 ≤ d := by omega
  have hT := hX11_best
  unfold FX11_best at e
  refine Cl.into (by decide) gX11_best rfl ?_
  show Rn d 182 (some .int) 0 [some (.ref q0), none, none, none] [] h Q
  refine Rn.n hT 1 (pc' := 1) (L' := [some (.ref q0), none, none, none]) (st' := [.ref q0]) rfl ?_
  refine Rn.hp hT rfl rfl (gR_hp (rp_gP (k := 4) hR (T11_o t0) rfl (nn_114 hR t0))) ?_
  obtain ⟨z_2217, g_2217, p_2217⟩ : ∃ z : Int32, gI h 2 0 ((s q0 4).toNat) = some z ∧ z.toInt = s ((s q0 4).toNat) 0 := rp_gI (k := 0) hR (T2_o (ty_114 hR t0)) rfl
  refine Rn.hp hT rfl rfl (gI_hp g_2217) ?_
  by_cases c_2218 : (s ((s q0 4).toNat) 0) = 0
  · rw [if_pos c_2218] at e
    refine Rn.bf hT rfl rfl rfl (decide_eq_false (fun z => z ((ti_e p_2217 L32_0).mpr c_2218))) ?_
    refine Rn.n hT 1 (pc' := 11) (L' := [some (.ref q0), none, none, none]) (st' := [.int (-1 : Int32)]) rfl ?_
    obtain rfl := Option.some.inj e
    exact Rn.ret hT rfl rfl rfl (hq (-1 : Int32) L32_m1)
  · rw [if_neg c_2218] at e
    refine Rn.bt hT rfl rfl rfl (decide_eq_true (fun z => c_2218 ((ti_e p_2217 L32_0).mp z))) ?_
    refine Rn.n hT 6 (pc' := 19) (L' := [some (.ref q0), some (.int (-2 : Int32)), some (.int (-1 : Int32)), some (.int (0 : Int32))]) (st' := []) rfl ?_
    refine Rn.weak (ll_s (ll_s (ll_s (ll_s ll_e)))) (RX11_best_l19 hd hR t0 (fun m2219_1 x2219_1 p2219_1 e => ?_) hq N (-2 : Int32) (-2) L32_m2 (-1 : Int32) (-1) L32_m1 (0 : Int32) 0 L32_0 e)
    try dsimp only at e
    refine Rn.n hT 1 (pc' := 75) (L' := [none, some (.int m2219_1), none, none]) (st' := [.int m2219_1]) rfl ?_
    obtain rfl := Option.some.inj e
    exact Rn.ret hT rfl rfl rfl (hq m2219_1 p2219_1)
set_option maxRecDepth 10000 in
theorem hX11_seed : iv_Tb 183 tX11_seed := iv_tb_of (m := mX11_seed) rfl
set_option maxRecDepth 10000 in
theorem gX11_seed : PG.2 183 = some mX11_seed := iv_pi_of (t := tX11_seed) rfl (by decide)
def FX11_seed (N : Nat) (s : iv_M) (q0 : Nat) (x1 : Int) : Option (Int × iv_M) := (if 0 ≤ x1 then ((pt s ((s q0 4).toNat) 7 x1).bind fun s_2228 => (some ((s ((s q0 4).toNat) 7), s_2228))) else (some ((-1), s)))
set_option maxRecDepth 10000 in
set_option maxHeartbeats 4000000 in
theorem RX11_seed {d N nc Ls : Nat} {Xs : Nat → Int32} (hd : 1 ≤ d) {h : iv_H} {s : iv_M} (hR : Rep nc Ls Xs h s) {q0 : Nat} (t0 : T11 nc q0) {m1 : Int32} {x1 : Int} (p1 : m1.toInt = x1) {r : Int × iv_M} {Q : Option Value → iv_H → Prop} (e : FX11_seed N s q0 x1 = some r) (hq : ∀ (z : Int32) (h1 : iv_H), z.toInt = r.1 → Rep nc Ls Xs h1 r.2 → Q (some (.int z)) h1) : Cl d 183 [.ref q0, .int m1] h Q := by
  obtain ⟨d, rfl⟩ : ∃ k, d = k + 1 := ⟨d - 1, by omega⟩
  have hd : 0 ≤ d := by omega
  have hT := hX11_seed
  unfold FX11_seed at e
  refine Cl.into (by decide) gX11_seed rfl ?_
  show Rn d 183 (some .int) 0 [some (.ref q0), some (.int m1), none] [] h Q
  refine Rn.n hT 1 (pc' := 1) (L' := [some (.ref q0), some (.int m1), none]) (st' := [.int m1]) rfl ?_
  by_cases c_2226 : 0 ≤ x1
  · rw [if_pos c_2226] at e
    refine Rn.bt hT rfl rfl rfl (decide_eq_true ((ti_le L32_0 p1).mpr c_2226)) ?_
    refine Rn.n hT 1 (pc' := 7) (L' := [some (.ref q0), some (.int m1), none]) (st' := [.ref q0]) rfl ?_
    refine Rn.hp hT rfl rfl (gR_hp (rp_gP (k := 4) hR (T11_o t0) rfl (nn_114 hR t0))) ?_
    obtain ⟨z_2227, g_2227, p_2227⟩ : ∃ z : Int32, gI h 2 7 ((s q0 4).toNat) = some z ∧ z.toInt = s ((s q0 4).toNat) 7 := rp_gI (k := 7) hR (T2_o (ty_114 hR t0)) rfl
    refine Rn.hp hT rfl rfl (gI_hp g_2227) ?_
    refine Rn.n hT 2 (pc' := 15) (L' := [some (.ref q0), some (.int m1), some (.int z_2227)]) (st' := [.ref q0]) rfl ?_
    refine Rn.hp hT rfl rfl (gR_hp (rp_gP (k := 4) hR (T11_o t0) rfl (nn_114 hR t0))) ?_
    refine Rn.n hT 1 (pc' := 19) (L' := [some (.ref q0), some (.int m1), some (.int z_2227)]) (st' := [.int m1, .ref ((s q0 4).toNat)]) rfl ?_
    obtain ⟨s_2228, e_2229, e⟩ := Option.bind_eq_some_iff.mp e
    obtain ⟨h_2228, g_2229, R_2228⟩ := rp_pI (ci := 2) (k := 7) hR (T2_o (ty_114 hR t0)) rfl rfl p1 e_2229
    refine Rn.hp hT rfl rfl (pV_hp rfl g_2229) ?_
    refine Rn.n hT 1 (pc' := 23) (L' := [some (.ref q0), some (.int m1), some (.int z_2227)]) (st' := [.int z_2227]) rfl ?_
    obtain rfl := Option.some.inj e
    exact Rn.ret hT rfl rfl rfl (hq z_2227 h_2228 p_2227 R_2228)
  · rw [if_neg c_2226] at e
    refine Rn.bf hT rfl rfl rfl (decide_eq_false (fun z => c_2226 ((ti_le L32_0 p1).mp z))) ?_
    refine Rn.n hT 1 (pc' := 5) (L' := [some (.ref q0), some (.int m1), none]) (st' := [.int (-1 : Int32)]) rfl ?_
    obtain rfl := Option.some.inj e
    exact Rn.ret hT rfl rfl rfl (hq (-1 : Int32) h L32_m1 hR)
set_option maxRecDepth 10000 in
theorem hX11_drawn : iv_Tb 184 tX11_drawn := iv_tb_of (m := mX11_drawn) rfl
set_option maxRecDepth 10000 in
theorem gX11_drawn : PG.2 184 = some mX11_drawn := iv_pi_of (t := tX11_drawn) rfl (by decide)
def FX11_drawn_b33 (N : Nat) (s : iv_M)   : Option (Int × iv_M) := (some ((-1), s))
set_option maxRecDepth 10000 in
set_option maxHeartbeats 4000000 in
theorem RX11_drawn_b33 {d N nc Ls : Nat} {Xs : Nat → Int32} (hd : 6 ≤ d) {h : iv_H} {s : iv_M} (hR : Rep nc Ls Xs h s)   {r : Int × iv_M} {Q : Option Value → iv_H → Prop} (hq : ∀ (z : Int32) (h1 : iv_H), z.toInt = r.1 → Rep nc Ls Xs h1 r.2 → Q (some (.int z)) h1) (e : FX11_drawn_b33 N s   = some r) : Rn d 184 (some .int) 33 [none, none, none, none, none, none] [] h Q := by
  have hT := hX11_drawn
  unfold FX11_drawn_b33 at e
  refine Rn.n hT 1 (pc' := 34) (L' := [none, none, none, none, none, none]) (st' := [.int (-1 : Int32)]) rfl ?_
  obtain rfl := Option.some.inj e
  exact Rn.ret hT rfl rfl rfl (hq (-1 : Int32) h L32_m1 hR)
def FX11_drawn_b64 (N : Nat) (s : iv_M)   : Option (Int × iv_M) := (some ((-1), s))
set_option maxRecDepth 10000 in
set_option maxHeartbeats 4000000 in
theorem RX11_drawn_b64 {d N nc Ls : Nat} {Xs : Nat → Int32} (hd : 6 ≤ d) {h : iv_H} {s : iv_M} (hR : Rep nc Ls Xs h s)   {r : Int × iv_M} {Q : Option Value → iv_H → Prop} (hq : ∀ (z : Int32) (h1 : iv_H), z.toInt = r.1 → Rep nc Ls Xs h1 r.2 → Q (some (.int z)) h1) (e : FX11_drawn_b64 N s   = some r) : Rn d 184 (some .int) 64 [none, none, none, none, none, none] [] h Q := by
  have hT := hX11_drawn
  unfold FX11_drawn_b64 at e
  refine Rn.n hT 1 (pc' := 65) (L' := [none, none, none, none, none, none]) (st' := [.int (-1 : Int32)]) rfl ?_
  obtain rfl := Option.some.inj e
  exact Rn.ret hT rfl rfl rfl (hq (-1 : Int32) h L32_m1 hR)
def FX11_drawn_b122 (N : Nat) (s : iv_M)  (xs0 : Int) : Option (Int × iv_M) := (some (xs0, s))
set_option maxRecDepth 10000 in
set_option maxHeartbeats 4000000 in
theorem RX11_drawn_b122 {d N nc Ls : Nat} {Xs : Nat → Int32} (hd : 6 ≤ d) {h : iv_H} {s : iv_M} (hR : Rep nc Ls Xs h s)  {ms0 : Int32} {xs0 : Int} (ps0 : ms0.toInt = xs0) {r : Int × iv_M} {Q : Option Value → iv_H → Prop} (hq : ∀ (z : Int32) (h1 : iv_H), z.toInt = r.1 → Rep nc Ls Xs h1 r.2 → Q (some (.int z)) h1) (e : FX11_drawn_b122 N s  xs0 = some r) : Rn d 184 (some .int) 122 [none, none, none, none, none, none] [.int ms0] h Q := by
  have hT := hX11_drawn
  unfold FX11_drawn_b122 at e
  obtain rfl := Option.some.inj e
  exact Rn.ret hT rfl rfl rfl (hq ms0 h ps0 hR)
def FX11_drawn (N : Nat) (s : iv_M) (q0 : Nat) (x1 : Int) (x2 : Int) (x3 : Int) (x4 : Int) (x5 : Int) : Option (Int × iv_M) := (if x1 < 1 then (FX11_drawn_b33 N s) else (if 10 < x1 then (FX11_drawn_b33 N s) else (if x2 < 1 then (FX11_drawn_b33 N s) else (if 60 < x2 then (FX11_drawn_b33 N s) else (if x5 < 0 then (FX11_drawn_b33 N s) else (if x5 ≤ 2 then ((FX2_isRoom N s ((s q0 4).toNat) x3).bind fun v_2236 => (if v_2236 = 0 then (FX11_drawn_b64 N s) else ((FX2_isRoom N s ((s q0 4).toNat) x4).bind fun v_2238 => (if v_2238 = 0 then (FX11_drawn_b64 N s) else (if x3 = x4 then (FX11_drawn_b64 N s) else ((FX11_ruleInForce N s q0).bind fun v_2241 => ((FX10_drawTimes N s (q0 + 81) ((s q0 4).toNat) v_2241 x1 x2 x3 x4).bind fun s_2243 => (if x5 = 0 then (some ((s_2243 (q0 + 81) 9), s_2243)) else (if x5 = 1 then (FX11_drawn_b122 N s_2243 (s_2243 (q0 + 81) 10)) else (FX11_drawn_b122 N s_2243 (s_2243 (q0 + 81) 11))))))))))) else (FX11_drawn_b33 N s)))))))
set_option maxRecDepth 10000 in
set_option maxHeartbeats 4000000 in
theorem RX11_drawn {d N nc Ls : Nat} {Xs : Nat → Int32} (hd : 7 ≤ d) {h : iv_H} {s : iv_M} (hR : Rep nc Ls Xs h s) {q0 : Nat} (t0 : T11 nc q0) {m1 : Int32} {x1 : Int} (p1 : m1.toInt = x1) {m2 : Int32} {x2 : Int} (p2 : m2.toInt = x2) {m3 : Int32} {x3 : Int} (p3 : m3.toInt = x3) {m4 : Int32} {x4 : Int} (p4 : m4.toInt = x4) {m5 : Int32} {x5 : Int} (p5 : m5.toInt = x5) {r : Int × iv_M} {Q : Option Value → iv_H → Prop} (e : FX11_drawn N s q0 x1 x2 x3 x4 x5 = some r) (hq : ∀ (z : Int32) (h1 : iv_H), z.toInt = r.1 → Rep nc Ls Xs h1 r.2 → Q (some (.int z)) h1) : Cl d 184 [.ref q0, .int m1, .int m2, .int m3, .int m4, .int m5] h Q := by
  obtain ⟨d, rfl⟩ : ∃ k, d = k + 1 := ⟨d - 1, by omega⟩
  have hd : 6 ≤ d := by omega
  have hT := hX11_drawn
  unfold FX11_drawn at e
  refine Cl.into (by decide) gX11_drawn rfl ?_
  show Rn d 184 (some .int) 0 [some (.ref q0), some (.int m1), some (.int m2), some (.int m3), some (.int m4), some (.int m5)] [] h Q
  refine Rn.n hT 2 (pc' := 2) (L' := [some (.ref q0), some (.int m1), some (.int m2), some (.int m3), some (.int m4), some (.int m5)]) (st' := [.int (1 : Int32), .int m1]) rfl ?_
  by_cases c_2230 : x1 < 1
  · rw [if_pos c_2230] at e
    refine Rn.bt hT rfl rfl rfl (decide_eq_true ((ti_l p1 L32_1).mpr c_2230)) ?_
    exact Rn.weak (ll_n (ll_n (ll_n (ll_n (ll_n (ll_n ll_e)))))) (RX11_drawn_b33 hd hR hq e)
  · rw [if_neg c_2230] at e
    refine Rn.bf hT rfl rfl rfl (decide_eq_false (fun z => c_2230 ((ti_l p1 L32_1).mp z))) ?_
    refine Rn.n hT 2 (pc' := 8) (L' := [some (.ref q0), some (.int m1), some (.int m2), some (.int m3), some (.int m4), some (.int m5)]) (st' := [.int (10 : Int32), .int m1]) rfl ?_
    by_cases c_2231 : 10 < x1
    · rw [if_pos c_2231] at e
      refine Rn.bt hT rfl rfl rfl (decide_eq_true ((ti_l L32_10 p1).mpr c_2231)) ?_
      exact Rn.weak (ll_n (ll_n (ll_n (ll_n (ll_n (ll_n ll_e)))))) (RX11_drawn_b33 hd hR hq e)
    · rw [if_neg c_2231] at e
      refine Rn.bf hT rfl rfl rfl (decide_eq_false (fun z => c_2231 ((ti_l L32_10 p1).mp z))) ?_
      refine Rn.n hT 2 (pc' := 13) (L' := [some (.ref q0), some (.int m1), some (.int m2), some (.int m3), some (.int m4), some (.int m5)]) (st' := [.int (1 : Int32), .int m2]) rfl ?_
      by_cases c_2232 : x2 < 1
      · rw [if_pos c_2232] at e
        refine Rn.bt hT rfl rfl rfl (decide_eq_true ((ti_l p2 L32_1).mpr c_2232)) ?_
        exact Rn.weak (ll_n (ll_n (ll_n (ll_n (ll_n (ll_n ll_e)))))) (RX11_drawn_b33 hd hR hq e)
      · rw [if_neg c_2232] at e
        refine Rn.bf hT rfl rfl rfl (decide_eq_false (fun z => c_2232 ((ti_l p2 L32_1).mp z))) ?_
        refine Rn.n hT 2 (pc' := 19) (L' := [some (.ref q0), some (.int m1), some (.int m2), some (.int m3), some (.int m4), some (.int m5)]) (st' := [.int (60 : Int32), .int m2]) rfl ?_
        by_cases c_2233 : 60 < x2
        · rw [if_pos c_2233] at e
          refine Rn.bt hT rfl rfl rfl (decide_eq_true ((ti_l L32_60 p2).mpr c_2233)) ?_
          exact Rn.weak (ll_n (ll_n (ll_n (ll_n (ll_n (ll_n ll_e)))))) (RX11_drawn_b33 hd hR hq e)
        · rw [if_neg c_2233] at e
          refine Rn.bf hT rfl rfl rfl (decide_eq_false (fun z => c_2233 ((ti_l L32_60 p2).mp z))) ?_
          refine Rn.n hT 1 (pc' := 24) (L' := [some (.ref q0), some (.int m1), some (.int m2), some (.int m3), some (.int m4), some (.int m5)]) (st' := [.int m5]) rfl ?_
          by_cases c_2234 : x5 < 0
          · rw [if_pos c_2234] at e
            refine Rn.bt hT rfl rfl rfl (decide_eq_true ((ti_l p5 L32_0).mpr c_2234)) ?_
            exact Rn.weak (ll_n (ll_n (ll_n (ll_n (ll_n (ll_n ll_e)))))) (RX11_drawn_b33 hd hR hq e)
          · rw [if_neg c_2234] at e
            refine Rn.bf hT rfl rfl rfl (decide_eq_false (fun z => c_2234 ((ti_l p5 L32_0).mp z))) ?_
            refine Rn.n hT 2 (pc' := 30) (L' := [some (.ref q0), some (.int m1), some (.int m2), some (.int m3), some (.int m4), some (.int m5)]) (st' := [.int (2 : Int32), .int m5]) rfl ?_
            by_cases c_2235 : x5 ≤ 2
            · rw [if_pos c_2235] at e
              refine Rn.bt hT rfl rfl rfl (decide_eq_true ((ti_le p5 L32_2).mpr c_2235)) ?_
              refine Rn.n hT 1 (pc' := 36) (L' := [some (.ref q0), some (.int m1), some (.int m2), some (.int m3), some (.int m4), some (.int m5)]) (st' := [.ref q0]) rfl ?_
              refine Rn.hp hT rfl rfl (gR_hp (rp_gP (k := 4) hR (T11_o t0) rfl (nn_114 hR t0))) ?_
              refine Rn.n hT 1 (pc' := 40) (L' := [some (.ref q0), some (.int m1), some (.int m2), some (.int m3), some (.int m4), some (.int m5)]) (st' := [.int m3, .ref ((s q0 4).toNat)]) rfl ?_
              obtain ⟨v_2236, e_2236, e⟩ := Option.bind_eq_some_iff.mp e
              refine Rn.call hT rfl rfl rfl (Nat.le_of_ble_eq_true rfl) (rcv_v gX2_isRoom (by omega) (rp_ck hR (T2_o (ty_114 hR t0)))) (RX2_isRoom (by omega) hR (ty_114 hR t0) p3 e_2236 (fun z_2236 p_2236 => ?_))
              show Rn d _ _ 43 [some (.ref q0), some (.int m1), some (.int m2), some (.int m3), some (.int m4), some (.int m5)] [.int z_2236] h Q
              by_cases c_2237 : v_2236 = 0
              · rw [if_pos c_2237] at e
                refine Rn.bt hT rfl rfl rfl (decide_eq_true ((ti_e p_2236 L32_0).mpr c_2237)) ?_
                exact Rn.weak (ll_n (ll_n (ll_n (ll_n (ll_n (ll_n ll_e)))))) (RX11_drawn_b64 hd hR hq e)
              · rw [if_neg c_2237] at e
                refine Rn.bf hT rfl rfl rfl (decide_eq_false (fun z => c_2237 ((ti_e p_2236 L32_0).mp z))) ?_
                refine Rn.n hT 1 (pc' := 47) (L' := [some (.ref q0), some (.int m1), some (.int m2), some (.int m3), some (.int m4), some (.int m5)]) (st' := [.ref q0]) rfl ?_
                refine Rn.hp hT rfl rfl (gR_hp (rp_gP (k := 4) hR (T11_o t0) rfl (nn_114 hR t0))) ?_
                refine Rn.n hT 1 (pc' := 52) (L' := [some (.ref q0), some (.int m1), some (.int m2), some (.int m3), some (.int m4), some (.int m5)]) (st' := [.int m4, .ref ((s q0 4).toNat)]) rfl ?_
                obtain ⟨v_2238, e_2238, e⟩ := Option.bind_eq_some_iff.mp e
                refine Rn.call hT rfl rfl rfl (Nat.le_of_ble_eq_true rfl) (rcv_v gX2_isRoom (by omega) (rp_ck hR (T2_o (ty_114 hR t0)))) (RX2_isRoom (by omega) hR (ty_114 hR t0) p4 e_2238 (fun z_2238 p_2238 => ?_))
                show Rn d _ _ 55 [some (.ref q0), some (.int m1), some (.int m2), some (.int m3), some (.int m4), some (.int m5)] [.int z_2238] h Q
                by_cases c_2239 : v_2238 = 0
                · rw [if_pos c_2239] at e
                  refine Rn.bt hT rfl rfl rfl (decide_eq_true ((ti_e p_2238 L32_0).mpr c_2239)) ?_
                  exact Rn.weak (ll_n (ll_n (ll_n (ll_n (ll_n (ll_n ll_e)))))) (RX11_drawn_b64 hd hR hq e)
                · rw [if_neg c_2239] at e
                  refine Rn.bf hT rfl rfl rfl (decide_eq_false (fun z => c_2239 ((ti_e p_2238 L32_0).mp z))) ?_
                  refine Rn.n hT 2 (pc' := 61) (L' := [some (.ref q0), some (.int m1), some (.int m2), some (.int m3), some (.int m4), some (.int m5)]) (st' := [.int m4, .int m3]) rfl ?_
                  by_cases c_2240 : x3 = x4
                  · rw [if_pos c_2240] at e
                    refine Rn.bf hT rfl rfl rfl (decide_eq_false (fun z => z ((ti_e p3 p4).mpr c_2240))) ?_
                    exact Rn.weak (ll_n (ll_n (ll_n (ll_n (ll_n (ll_n ll_e)))))) (RX11_drawn_b64 hd hR hq e)
                  · rw [if_neg c_2240] at e
                    refine Rn.bt hT rfl rfl rfl (decide_eq_true (fun z => c_2240 ((ti_e p3 p4).mp z))) ?_
                    refine Rn.n hT 1 (pc' := 67) (L' := [some (.ref q0), some (.int m1), some (.int m2), some (.int m3), some (.int m4), some (.int m5)]) (st' := [.ref q0]) rfl ?_
                    refine Rn.hp hT rfl rfl (gR_hp (rp_gR hR (T11_o t0) rfl)) ?_
                    refine Rn.n hT 1 (pc' := 71) (L' := [some (.ref q0), some (.int m1), some (.int m2), some (.int m3), some (.int m4), some (.int m5)]) (st' := [.ref q0, .ref (q0 + 81)]) rfl ?_
                    refine Rn.hp hT rfl rfl (gR_hp (rp_gP (k := 4) hR (T11_o t0) rfl (nn_114 hR t0))) ?_
                    refine Rn.n hT 1 (pc' := 75) (L' := [some (.ref q0), some (.int m1), some (.int m2), some (.int m3), some (.int m4), some (.int m5)]) (st' := [.ref q0, .ref ((s q0 4).toNat), .ref (q0 + 81)]) rfl ?_
                    obtain ⟨v_2241, e_2241, e⟩ := Option.bind_eq_some_iff.mp e
                    refine Rn.call hT rfl rfl rfl (Nat.le_of_ble_eq_true rfl) (rcv_v gX11_ruleInForce (by omega) (rp_ck hR (T11_o t0))) (RX11_ruleInForce (by omega) hR t0 e_2241 (fun t_2241 => ?_))
                    show Rn d _ _ 78 [some (.ref q0), some (.int m1), some (.int m2), some (.int m3), some (.int m4), some (.int m5)] [iv_rf (rvo v_2241), .ref ((s q0 4).toNat), .ref (q0 + 81)] h Q
                    refine Rn.n hT 4 (pc' := 83) (L' := [some (.ref q0), some (.int m1), some (.int m2), some (.int m3), some (.int m4), some (.int m5)]) (st' := [.int m4, .int m3, .int m2, .int m1, iv_rf (rvo v_2241), .ref ((s q0 4).toNat), .ref (q0 + 81)]) rfl ?_
                    obtain ⟨s_2243, e_2242, e⟩ := Option.bind_eq_some_iff.mp e
                    refine Rn.call hT rfl rfl rfl (Nat.le_of_ble_eq_true rfl) (rcv_v gX10_drawTimes (by omega) (rp_ck hR (T10_o (T11_11 t0)))) (RX10_drawTimes (by omega) hR (T11_11 t0) (ty_114 hR t0) t_2241 p1 p2 p3 p4 e_2242 (fun h_2243 R_2243 => ?_))
                    show Rn d _ _ 86 [some (.ref q0), some (.int m1), some (.int m2), some (.int m3), some (.int m4), some (.int m5)] [] h_2243 Q
                    refine Rn.n hT 1 (pc' := 88) (L' := [some (.ref q0), some (.int m1), some (.int m2), some (.int m3), some (.int m4), some (.int m5)]) (st' := [.int m5]) rfl ?_
                    by_cases c_2244 : x5 = 0
                    · rw [if_pos c_2244] at e
                      refine Rn.bf hT rfl rfl rfl (decide_eq_false (fun z => z ((ti_e p5 L32_0).mpr c_2244))) ?_
                      refine Rn.n hT 1 (pc' := 92) (L' := [some (.ref q0), some (.int m1), some (.int m2), some (.int m3), some (.int m4), some (.int m5)]) (st' := [.ref q0]) rfl ?_
                      refine Rn.hp hT rfl rfl (gR_hp (rp_gR R_2243 (T11_o t0) rfl)) ?_
                      obtain ⟨z_2248, g_2248, p_2248⟩ : ∃ z : Int32, gI h_2243 10 9 (q0 + 81) = some z ∧ z.toInt = s_2243 (q0 + 81) 9 := rp_gI (k := 9) R_2243 (T10_o (T11_11 t0)) rfl
                      refine Rn.hp hT rfl rfl (gI_hp g_2248) ?_
                      obtain rfl := Option.some.inj e
                      exact Rn.ret hT rfl rfl rfl (hq z_2248 h_2243 p_2248 R_2243)
                    · rw [if_neg c_2244] at e
                      refine Rn.bt hT rfl rfl rfl (decide_eq_true (fun z => c_2244 ((ti_e p5 L32_0).mp z))) ?_
                      refine Rn.n hT 2 (pc' := 102) (L' := [some (.ref q0), some (.int m1), some (.int m2), some (.int m3), some (.int m4), some (.int m5)]) (st' := [.int (1 : Int32), .int m5]) rfl ?_
                      by_cases c_2245 : x5 = 1
                      · rw [if_pos c_2245] at e
                        refine Rn.bf hT rfl rfl rfl (decide_eq_false (fun z => z ((ti_e p5 L32_1).mpr c_2245))) ?_
                        refine Rn.n hT 1 (pc' := 106) (L' := [some (.ref q0), some (.int m1), some (.int m2), some (.int m3), some (.int m4), some (.int m5)]) (st' := [.ref q0]) rfl ?_
                        refine Rn.hp hT rfl rfl (gR_hp (rp_gR R_2243 (T11_o t0) rfl)) ?_
                        obtain ⟨z_2247, g_2247, p_2247⟩ : ∃ z : Int32, gI h_2243 10 10 (q0 + 81) = some z ∧ z.toInt = s_2243 (q0 + 81) 10 := rp_gI (k := 10) R_2243 (T10_o (T11_11 t0)) rfl
                        refine Rn.hp hT rfl rfl (gI_hp g_2247) ?_
                        refine Rn.n hT 1 (pc' := 122) (L' := [some (.ref q0), some (.int m1), some (.int m2), some (.int m3), some (.int m4), some (.int m5)]) (st' := [.int z_2247]) rfl ?_
                        exact Rn.weak (ll_n (ll_n (ll_n (ll_n (ll_n (ll_n ll_e)))))) (RX11_drawn_b122 hd R_2243 p_2247 hq e)
                      · rw [if_neg c_2245] at e
                        refine Rn.bt hT rfl rfl rfl (decide_eq_true (fun z => c_2245 ((ti_e p5 L32_1).mp z))) ?_
                        refine Rn.n hT 1 (pc' := 116) (L' := [some (.ref q0), some (.int m1), some (.int m2), some (.int m3), some (.int m4), some (.int m5)]) (st' := [.ref q0]) rfl ?_
                        refine Rn.hp hT rfl rfl (gR_hp (rp_gR R_2243 (T11_o t0) rfl)) ?_
                        obtain ⟨z_2246, g_2246, p_2246⟩ : ∃ z : Int32, gI h_2243 10 11 (q0 + 81) = some z ∧ z.toInt = s_2243 (q0 + 81) 11 := rp_gI (k := 11) R_2243 (T10_o (T11_11 t0)) rfl
                        refine Rn.hp hT rfl rfl (gI_hp g_2246) ?_
                        exact Rn.weak (ll_n (ll_n (ll_n (ll_n (ll_n (ll_n ll_e)))))) (RX11_drawn_b122 hd R_2243 p_2246 hq e)
            · rw [if_neg c_2235] at e
              refine Rn.bf hT rfl rfl rfl (decide_eq_false (fun z => c_2235 ((ti_le p5 L32_2).mp z))) ?_
              exact Rn.weak (ll_n (ll_n (ll_n (ll_n (ll_n (ll_n ll_e)))))) (RX11_drawn_b33 hd hR hq e)
set_option maxRecDepth 10000 in
theorem hX11_countMore : iv_Tb 186 tX11_countMore := iv_tb_of (m := mX11_countMore) rfl
set_option maxRecDepth 10000 in
theorem gX11_countMore : PG.2 186 = some mX11_countMore := iv_pi_of (t := tX11_countMore) rfl (by decide)
def FX11_countMore (N : Nat) (s : iv_M) (q0 : Nat) (x1 : Int) : Option (Int) := (if x1 = 9 then (some (s ((s q0 4).toNat + 10) 1)) else (if x1 = 10 then (some (s ((s q0 4).toNat + 16) 1)) else (if x1 = 11 then (some (s ((s q0 4).toNat + 18) 1)) else (if x1 = 12 then (some (s ((s q0 4).toNat + 20) 1)) else (if x1 = 13 then (some (s ((s q0 4).toNat) 7)) else (if x1 = 14 then (some (s q0 1)) else (if x1 = 15 then ((FX1_emptyCells N s ((s q0 4).toNat + 1)).bind fun v_2262 => (some v_2262)) else (if x1 = 16 then (some (s ((s q0 4).toNat) 8)) else (some (-1))))))))))
set_option maxRecDepth 10000 in
set_option maxHeartbeats 4000000 in
theorem RX11_countMore {d N nc Ls : Nat} {Xs : Nat → Int32} (hd : 2 ≤ d) {h : iv_H} {s : iv_M} (hR : Rep nc Ls Xs h s) {q0 : Nat} (t0 : T11 nc q0) {m1 : Int32} {x1 : Int} (p1 : m1.toInt = x1) {r : Int} {Q : Option Value → iv_H → Prop} (e : FX11_countMore N s q0 x1 = some r) (hq : ∀ (z : Int32), z.toInt = r → Q (some (.int z)) h) : Cl d 186 [.ref q0, .int m1] h Q := by
  obtain ⟨d, rfl⟩ : ∃ k, d = k + 1 := ⟨d - 1, by omega⟩
  have hd : 1 ≤ d := by omega
  have hT := hX11_countMore
  unfold FX11_countMore at e
  refine Cl.into (by decide) gX11_countMore rfl ?_
  show Rn d 186 (some .int) 0 [some (.ref q0), some (.int m1)] [] h Q
  refine Rn.n hT 1 (pc' := 1) (L' := [some (.ref q0), some (.int m1)]) (st' := [.int m1]) rfl ?_
  by_cases c_2249 : x1 = 9
  · rw [if_pos c_2249] at e
    refine Rn.sw2 hT rfl rfl rfl (if_pos ((ti_e p1 L32_9).mpr c_2249)) ?_
    refine Rn.n hT 1 (pc' := 49) (L' := [some (.ref q0), some (.int m1)]) (st' := [.ref q0]) rfl ?_
    refine Rn.hp hT rfl rfl (gR_hp (rp_gP (k := 4) hR (T11_o t0) rfl (nn_114 hR t0))) ?_
    refine Rn.hp hT rfl rfl (gR_hp (rp_gR hR (T2_o (ty_114 hR t0)) rfl)) ?_
    obtain ⟨z_2250, g_2250, p_2250⟩ : ∃ z : Int32, gI h 7 1 ((s q0 4).toNat + 10) = some z ∧ z.toInt = s ((s q0 4).toNat + 10) 1 := rp_gI (k := 1) hR (T7_o (T2_12 (ty_114 hR t0))) rfl
    refine Rn.hp hT rfl rfl (gI_hp g_2250) ?_
    obtain rfl := Option.some.inj e
    exact Rn.ret hT rfl rfl rfl (hq z_2250 p_2250)
  · rw [if_neg c_2249] at e
    by_cases c_2251 : x1 = 10
    · rw [if_pos c_2251] at e
      refine Rn.sw2 hT rfl rfl rfl ((if_neg (fun z => c_2249 ((ti_e p1 L32_9).mp z))).trans (if_pos ((ti_e p1 L32_10).mpr c_2251))) ?_
      refine Rn.n hT 1 (pc' := 60) (L' := [some (.ref q0), some (.int m1)]) (st' := [.ref q0]) rfl ?_
      refine Rn.hp hT rfl rfl (gR_hp (rp_gP (k := 4) hR (T11_o t0) rfl (nn_114 hR t0))) ?_
      refine Rn.hp hT rfl rfl (gR_hp (rp_gR hR (T2_o (ty_114 hR t0)) rfl)) ?_
      obtain ⟨z_2252, g_2252, p_2252⟩ : ∃ z : Int32, gI h 7 1 ((s q0 4).toNat + 16) = some z ∧ z.toInt = s ((s q0 4).toNat + 16) 1 := rp_gI (k := 1) hR (T7_o (T2_16 (ty_114 hR t0))) rfl
      refine Rn.hp hT rfl rfl (gI_hp g_2252) ?_
      obtain rfl := Option.some.inj e
      exact Rn.ret hT rfl rfl rfl (hq z_2252 p_2252)
    · rw [if_neg c_2251] at e
      by_cases c_2253 : x1 = 11
      · rw [if_pos c_2253] at e
        refine Rn.sw2 hT rfl rfl rfl ((if_neg (fun z => c_2249 ((ti_e p1 L32_9).mp z))).trans ((if_neg (fun z => c_2251 ((ti_e p1 L32_10).mp z))).trans (if_pos ((ti_e p1 L32_11).mpr c_2253)))) ?_
        refine Rn.n hT 1 (pc' := 71) (L' := [some (.ref q0), some (.int m1)]) (st' := [.ref q0]) rfl ?_
        refine Rn.hp hT rfl rfl (gR_hp (rp_gP (k := 4) hR (T11_o t0) rfl (nn_114 hR t0))) ?_
        refine Rn.hp hT rfl rfl (gR_hp (rp_gR hR (T2_o (ty_114 hR t0)) rfl)) ?_
        obtain ⟨z_2254, g_2254, p_2254⟩ : ∃ z : Int32, gI h 7 1 ((s q0 4).toNat + 18) = some z ∧ z.toInt = s ((s q0 4).toNat + 18) 1 := rp_gI (k := 1) hR (T7_o (T2_17 (ty_114 hR t0))) rfl
        refine Rn.hp hT rfl rfl (gI_hp g_2254) ?_
        obtain rfl := Option.some.inj e
        exact Rn.ret hT rfl rfl rfl (hq z_2254 p_2254)
      · rw [if_neg c_2253] at e
        by_cases c_2255 : x1 = 12
        · rw [if_pos c_2255] at e
          refine Rn.sw2 hT rfl rfl rfl ((if_neg (fun z => c_2249 ((ti_e p1 L32_9).mp z))).trans ((if_neg (fun z => c_2251 ((ti_e p1 L32_10).mp z))).trans ((if_neg (fun z => c_2253 ((ti_e p1 L32_11).mp z))).trans (if_pos ((ti_e p1 L32_12).mpr c_2255))))) ?_
          refine Rn.n hT 1 (pc' := 82) (L' := [some (.ref q0), some (.int m1)]) (st' := [.ref q0]) rfl ?_
          refine Rn.hp hT rfl rfl (gR_hp (rp_gP (k := 4) hR (T11_o t0) rfl (nn_114 hR t0))) ?_
          refine Rn.hp hT rfl rfl (gR_hp (rp_gR hR (T2_o (ty_114 hR t0)) rfl)) ?_
          obtain ⟨z_2256, g_2256, p_2256⟩ : ∃ z : Int32, gI h 7 1 ((s q0 4).toNat + 20) = some z ∧ z.toInt = s ((s q0 4).toNat + 20) 1 := rp_gI (k := 1) hR (T7_o (T2_18 (ty_114 hR t0))) rfl
          refine Rn.hp hT rfl rfl (gI_hp g_2256) ?_
          obtain rfl := Option.some.inj e
          exact Rn.ret hT rfl rfl rfl (hq z_2256 p_2256)
        · rw [if_neg c_2255] at e
          by_cases c_2257 : x1 = 13
          · rw [if_pos c_2257] at e
            refine Rn.sw2 hT rfl rfl rfl ((if_neg (fun z => c_2249 ((ti_e p1 L32_9).mp z))).trans ((if_neg (fun z => c_2251 ((ti_e p1 L32_10).mp z))).trans ((if_neg (fun z => c_2253 ((ti_e p1 L32_11).mp z))).trans ((if_neg (fun z => c_2255 ((ti_e p1 L32_12).mp z))).trans (if_pos ((ti_e p1 L32_13).mpr c_2257)))))) ?_
            refine Rn.n hT 1 (pc' := 93) (L' := [some (.ref q0), some (.int m1)]) (st' := [.ref q0]) rfl ?_
            refine Rn.hp hT rfl rfl (gR_hp (rp_gP (k := 4) hR (T11_o t0) rfl (nn_114 hR t0))) ?_
            obtain ⟨z_2258, g_2258, p_2258⟩ : ∃ z : Int32, gI h 2 7 ((s q0 4).toNat) = some z ∧ z.toInt = s ((s q0 4).toNat) 7 := rp_gI (k := 7) hR (T2_o (ty_114 hR t0)) rfl
            refine Rn.hp hT rfl rfl (gI_hp g_2258) ?_
            obtain rfl := Option.some.inj e
            exact Rn.ret hT rfl rfl rfl (hq z_2258 p_2258)
          · rw [if_neg c_2257] at e
            by_cases c_2259 : x1 = 14
            · rw [if_pos c_2259] at e
              refine Rn.sw2 hT rfl rfl rfl ((if_neg (fun z => c_2249 ((ti_e p1 L32_9).mp z))).trans ((if_neg (fun z => c_2251 ((ti_e p1 L32_10).mp z))).trans ((if_neg (fun z => c_2253 ((ti_e p1 L32_11).mp z))).trans ((if_neg (fun z => c_2255 ((ti_e p1 L32_12).mp z))).trans ((if_neg (fun z => c_2257 ((ti_e p1 L32_13).mp z))).trans (if_pos ((ti_e p1 L32_14).mpr c_2259))))))) ?_
              refine Rn.n hT 1 (pc' := 101) (L' := [some (.ref q0), some (.int m1)]) (st' := [.ref q0]) rfl ?_
              obtain ⟨z_2260, g_2260, p_2260⟩ : ∃ z : Int32, gI h 11 1 q0 = some z ∧ z.toInt = s q0 1 := rp_gI (k := 1) hR (T11_o t0) rfl
              refine Rn.hp hT rfl rfl (gI_hp g_2260) ?_
              obtain rfl := Option.some.inj e
              exact Rn.ret hT rfl rfl rfl (hq z_2260 p_2260)
            · rw [if_neg c_2259] at e
              by_cases c_2261 : x1 = 15
              · rw [if_pos c_2261] at e
                refine Rn.sw2 hT rfl rfl rfl ((if_neg (fun z => c_2249 ((ti_e p1 L32_9).mp z))).trans ((if_neg (fun z => c_2251 ((ti_e p1 L32_10).mp z))).trans ((if_neg (fun z => c_2253 ((ti_e p1 L32_11).mp z))).trans ((if_neg (fun z => c_2255 ((ti_e p1 L32_12).mp z))).trans ((if_neg (fun z => c_2257 ((ti_e p1 L32_13).mp z))).trans ((if_neg (fun z => c_2259 ((ti_e p1 L32_14).mp z))).trans (if_pos ((ti_e p1 L32_15).mpr c_2261)))))))) ?_
                refine Rn.n hT 1 (pc' := 106) (L' := [some (.ref q0), some (.int m1)]) (st' := [.ref q0]) rfl ?_
                refine Rn.hp hT rfl rfl (gR_hp (rp_gP (k := 4) hR (T11_o t0) rfl (nn_114 hR t0))) ?_
                refine Rn.hp hT rfl rfl (gR_hp (rp_gR hR (T2_o (ty_114 hR t0)) rfl)) ?_
                obtain ⟨v_2262, e_2262, e⟩ := Option.bind_eq_some_iff.mp e
                refine Rn.call hT rfl rfl rfl (Nat.le_of_ble_eq_true rfl) (rcv_v gX1_emptyCells (by omega) (rp_ck hR (T1_o (T2_9 (ty_114 hR t0))))) (RX1_emptyCells (by omega) hR (T2_9 (ty_114 hR t0)) e_2262 (fun z_2262 p_2262 => ?_))
                show Rn d _ _ 115 [some (.ref q0), some (.int m1)] [.int z_2262] h Q
                obtain rfl := Option.some.inj e
                exact Rn.ret hT rfl rfl rfl (hq z_2262 p_2262)
              · rw [if_neg c_2261] at e
                by_cases c_2263 : x1 = 16
                · rw [if_pos c_2263] at e
                  refine Rn.sw2 hT rfl rfl rfl ((if_neg (fun z => c_2249 ((ti_e p1 L32_9).mp z))).trans ((if_neg (fun z => c_2251 ((ti_e p1 L32_10).mp z))).trans ((if_neg (fun z => c_2253 ((ti_e p1 L32_11).mp z))).trans ((if_neg (fun z => c_2255 ((ti_e p1 L32_12).mp z))).trans ((if_neg (fun z => c_2257 ((ti_e p1 L32_13).mp z))).trans ((if_neg (fun z => c_2259 ((ti_e p1 L32_14).mp z))).trans ((if_neg (fun z => c_2261 ((ti_e p1 L32_15).mp z))).trans (if_pos ((ti_e p1 L32_16).mpr c_2263))))))))) ?_
                  refine Rn.n hT 1 (pc' := 117) (L' := [some (.ref q0), some (.int m1)]) (st' := [.ref q0]) rfl ?_
                  refine Rn.hp hT rfl rfl (gR_hp (rp_gP (k := 4) hR (T11_o t0) rfl (nn_114 hR t0))) ?_
                  obtain ⟨z_2264, g_2264, p_2264⟩ : ∃ z : Int32, gI h 2 8 ((s q0 4).toNat) = some z ∧ z.toInt = s ((s q0 4).toNat) 8 := rp_gI (k := 8) hR (T2_o (ty_114 hR t0)) rfl
                  refine Rn.hp hT rfl rfl (gI_hp g_2264) ?_
                  obtain rfl := Option.some.inj e
                  exact Rn.ret hT rfl rfl rfl (hq z_2264 p_2264)
                · rw [if_neg c_2263] at e
                  refine Rn.sw2 hT rfl rfl rfl ((if_neg (fun z => c_2249 ((ti_e p1 L32_9).mp z))).trans ((if_neg (fun z => c_2251 ((ti_e p1 L32_10).mp z))).trans ((if_neg (fun z => c_2253 ((ti_e p1 L32_11).mp z))).trans ((if_neg (fun z => c_2255 ((ti_e p1 L32_12).mp z))).trans ((if_neg (fun z => c_2257 ((ti_e p1 L32_13).mp z))).trans ((if_neg (fun z => c_2259 ((ti_e p1 L32_14).mp z))).trans ((if_neg (fun z => c_2261 ((ti_e p1 L32_15).mp z))).trans ((if_neg (fun z => c_2263 ((ti_e p1 L32_16).mp z))).trans rfl)))))))) ?_
                  refine Rn.n hT 1 (pc' := 125) (L' := [some (.ref q0), some (.int m1)]) (st' := [.int (-1 : Int32)]) rfl ?_
                  obtain rfl := Option.some.inj e
                  exact Rn.ret hT rfl rfl rfl (hq (-1 : Int32) L32_m1)
set_option maxRecDepth 10000 in
theorem hX11_count : iv_Tb 185 tX11_count := iv_tb_of (m := mX11_count) rfl
set_option maxRecDepth 10000 in
theorem gX11_count : PG.2 185 = some mX11_count := iv_pi_of (t := tX11_count) rfl (by decide)
def FX11_count (N : Nat) (s : iv_M) (q0 : Nat) (x1 : Int) : Option (Int) := (if x1 = 0 then (some (s ((s q0 4).toNat + 1) 0)) else (if x1 = 1 then (some (s ((s q0 4).toNat + 1) 1)) else (if x1 = 2 then (some (s ((s q0 4).toNat + 1) 2)) else (if x1 = 3 then (some (s ((s q0 4).toNat) 2)) else (if x1 = 4 then (some (s ((s q0 4).toNat) 1)) else (if x1 = 5 then (some (s ((s q0 4).toNat) 4)) else (if x1 = 6 then (some (s q0 3)) else (if x1 = 7 then (some (s ((s q0 4).toNat) 5)) else (if x1 = 8 then (some (s ((s q0 4).toNat) 6)) else ((FX11_countMore N s q0 x1).bind fun v_2283 => (some v_2283)))))))))))
set_option maxRecDepth 10000 in
set_option maxHeartbeats 4000000 in
theorem RX11_count {d N nc Ls : Nat} {Xs : Nat → Int32} (hd : 3 ≤ d) {h : iv_H} {s : iv_M} (hR : Rep nc Ls Xs h s) {q0 : Nat} (t0 : T11 nc q0) {m1 : Int32} {x1 : Int} (p1 : m1.toInt = x1) {r : Int} {Q : Option Value → iv_H → Prop} (e : FX11_count N s q0 x1 = some r) (hq : ∀ (z : Int32), z.toInt = r → Q (some (.int z)) h) : Cl d 185 [.ref q0, .int m1] h Q := by
  obtain ⟨d, rfl⟩ : ∃ k, d = k + 1 := ⟨d - 1, by omega⟩
  have hd : 2 ≤ d := by omega
  have hT := hX11_count
  unfold FX11_count at e
  refine Cl.into (by decide) gX11_count rfl ?_
  show Rn d 185 (some .int) 0 [some (.ref q0), some (.int m1)] [] h Q
  refine Rn.n hT 1 (pc' := 1) (L' := [some (.ref q0), some (.int m1)]) (st' := [.int m1]) rfl ?_
  by_cases c_2265 : x1 = 0
  · rw [if_pos c_2265] at e
    refine Rn.sw2 hT rfl rfl rfl (if_pos ((ti_e p1 L32_0).mpr c_2265)) ?_
    refine Rn.n hT 1 (pc' := 53) (L' := [some (.ref q0), some (.int m1)]) (st' := [.ref q0]) rfl ?_
    refine Rn.hp hT rfl rfl (gR_hp (rp_gP (k := 4) hR (T11_o t0) rfl (nn_114 hR t0))) ?_
    refine Rn.hp hT rfl rfl (gR_hp (rp_gR hR (T2_o (ty_114 hR t0)) rfl)) ?_
    obtain ⟨z_2266, g_2266, p_2266⟩ : ∃ z : Int32, gI h 1 0 ((s q0 4).toNat + 1) = some z ∧ z.toInt = s ((s q0 4).toNat + 1) 0 := rp_gI (k := 0) hR (T1_o (T2_9 (ty_114 hR t0))) rfl
    refine Rn.hp hT rfl rfl (gI_hp g_2266) ?_
    obtain rfl := Option.some.inj e
    exact Rn.ret hT rfl rfl rfl (hq z_2266 p_2266)
  · rw [if_neg c_2265] at e
    by_cases c_2267 : x1 = 1
    · rw [if_pos c_2267] at e
      refine Rn.sw2 hT rfl rfl rfl ((if_neg (fun z => c_2265 ((ti_e p1 L32_0).mp z))).trans (if_pos ((ti_e p1 L32_1).mpr c_2267))) ?_
      refine Rn.n hT 1 (pc' := 64) (L' := [some (.ref q0), some (.int m1)]) (st' := [.ref q0]) rfl ?_
      refine Rn.hp hT rfl rfl (gR_hp (rp_gP (k := 4) hR (T11_o t0) rfl (nn_114 hR t0))) ?_
      refine Rn.hp hT rfl rfl (gR_hp (rp_gR hR (T2_o (ty_114 hR t0)) rfl)) ?_
      obtain ⟨z_2268, g_2268, p_2268⟩ : ∃ z : Int32, gI h 1 1 ((s q0 4).toNat + 1) = some z ∧ z.toInt = s ((s q0 4).toNat + 1) 1 := rp_gI (k := 1) hR (T1_o (T2_9 (ty_114 hR t0))) rfl
      refine Rn.hp hT rfl rfl (gI_hp g_2268) ?_
      obtain rfl := Option.some.inj e
      exact Rn.ret hT rfl rfl rfl (hq z_2268 p_2268)
    · rw [if_neg c_2267] at e
      by_cases c_2269 : x1 = 2
      · rw [if_pos c_2269] at e
        refine Rn.sw2 hT rfl rfl rfl ((if_neg (fun z => c_2265 ((ti_e p1 L32_0).mp z))).trans ((if_neg (fun z => c_2267 ((ti_e p1 L32_1).mp z))).trans (if_pos ((ti_e p1 L32_2).mpr c_2269)))) ?_
        refine Rn.n hT 1 (pc' := 75) (L' := [some (.ref q0), some (.int m1)]) (st' := [.ref q0]) rfl ?_
        refine Rn.hp hT rfl rfl (gR_hp (rp_gP (k := 4) hR (T11_o t0) rfl (nn_114 hR t0))) ?_
        refine Rn.hp hT rfl rfl (gR_hp (rp_gR hR (T2_o (ty_114 hR t0)) rfl)) ?_
        obtain ⟨z_2270, g_2270, p_2270⟩ : ∃ z : Int32, gI h 1 2 ((s q0 4).toNat + 1) = some z ∧ z.toInt = s ((s q0 4).toNat + 1) 2 := rp_gI (k := 2) hR (T1_o (T2_9 (ty_114 hR t0))) rfl
        refine Rn.hp hT rfl rfl (gI_hp g_2270) ?_
        obtain rfl := Option.some.inj e
        exact Rn.ret hT rfl rfl rfl (hq z_2270 p_2270)
      · rw [if_neg c_2269] at e
        by_cases c_2271 : x1 = 3
        · rw [if_pos c_2271] at e
          refine Rn.sw2 hT rfl rfl rfl ((if_neg (fun z => c_2265 ((ti_e p1 L32_0).mp z))).trans ((if_neg (fun z => c_2267 ((ti_e p1 L32_1).mp z))).trans ((if_neg (fun z => c_2269 ((ti_e p1 L32_2).mp z))).trans (if_pos ((ti_e p1 L32_3).mpr c_2271))))) ?_
          refine Rn.n hT 1 (pc' := 86) (L' := [some (.ref q0), some (.int m1)]) (st' := [.ref q0]) rfl ?_
          refine Rn.hp hT rfl rfl (gR_hp (rp_gP (k := 4) hR (T11_o t0) rfl (nn_114 hR t0))) ?_
          obtain ⟨z_2272, g_2272, p_2272⟩ : ∃ z : Int32, gI h 2 2 ((s q0 4).toNat) = some z ∧ z.toInt = s ((s q0 4).toNat) 2 := rp_gI (k := 2) hR (T2_o (ty_114 hR t0)) rfl
          refine Rn.hp hT rfl rfl (gI_hp g_2272) ?_
          obtain rfl := Option.some.inj e
          exact Rn.ret hT rfl rfl rfl (hq z_2272 p_2272)
        · rw [if_neg c_2271] at e
          by_cases c_2273 : x1 = 4
          · rw [if_pos c_2273] at e
            refine Rn.sw2 hT rfl rfl rfl ((if_neg (fun z => c_2265 ((ti_e p1 L32_0).mp z))).trans ((if_neg (fun z => c_2267 ((ti_e p1 L32_1).mp z))).trans ((if_neg (fun z => c_2269 ((ti_e p1 L32_2).mp z))).trans ((if_neg (fun z => c_2271 ((ti_e p1 L32_3).mp z))).trans (if_pos ((ti_e p1 L32_4).mpr c_2273)))))) ?_
            refine Rn.n hT 1 (pc' := 94) (L' := [some (.ref q0), some (.int m1)]) (st' := [.ref q0]) rfl ?_
            refine Rn.hp hT rfl rfl (gR_hp (rp_gP (k := 4) hR (T11_o t0) rfl (nn_114 hR t0))) ?_
            obtain ⟨z_2274, g_2274, p_2274⟩ : ∃ z : Int32, gI h 2 1 ((s q0 4).toNat) = some z ∧ z.toInt = s ((s q0 4).toNat) 1 := rp_gI (k := 1) hR (T2_o (ty_114 hR t0)) rfl
            refine Rn.hp hT rfl rfl (gI_hp g_2274) ?_
            obtain rfl := Option.some.inj e
            exact Rn.ret hT rfl rfl rfl (hq z_2274 p_2274)
          · rw [if_neg c_2273] at e
            by_cases c_2275 : x1 = 5
            · rw [if_pos c_2275] at e
              refine Rn.sw2 hT rfl rfl rfl ((if_neg (fun z => c_2265 ((ti_e p1 L32_0).mp z))).trans ((if_neg (fun z => c_2267 ((ti_e p1 L32_1).mp z))).trans ((if_neg (fun z => c_2269 ((ti_e p1 L32_2).mp z))).trans ((if_neg (fun z => c_2271 ((ti_e p1 L32_3).mp z))).trans ((if_neg (fun z => c_2273 ((ti_e p1 L32_4).mp z))).trans (if_pos ((ti_e p1 L32_5).mpr c_2275))))))) ?_
              refine Rn.n hT 1 (pc' := 102) (L' := [some (.ref q0), some (.int m1)]) (st' := [.ref q0]) rfl ?_
              refine Rn.hp hT rfl rfl (gR_hp (rp_gP (k := 4) hR (T11_o t0) rfl (nn_114 hR t0))) ?_
              obtain ⟨z_2276, g_2276, p_2276⟩ : ∃ z : Int32, gI h 2 4 ((s q0 4).toNat) = some z ∧ z.toInt = s ((s q0 4).toNat) 4 := rp_gI (k := 4) hR (T2_o (ty_114 hR t0)) rfl
              refine Rn.hp hT rfl rfl (gI_hp g_2276) ?_
              obtain rfl := Option.some.inj e
              exact Rn.ret hT rfl rfl rfl (hq z_2276 p_2276)
            · rw [if_neg c_2275] at e
              by_cases c_2277 : x1 = 6
              · rw [if_pos c_2277] at e
                refine Rn.sw2 hT rfl rfl rfl ((if_neg (fun z => c_2265 ((ti_e p1 L32_0).mp z))).trans ((if_neg (fun z => c_2267 ((ti_e p1 L32_1).mp z))).trans ((if_neg (fun z => c_2269 ((ti_e p1 L32_2).mp z))).trans ((if_neg (fun z => c_2271 ((ti_e p1 L32_3).mp z))).trans ((if_neg (fun z => c_2273 ((ti_e p1 L32_4).mp z))).trans ((if_neg (fun z => c_2275 ((ti_e p1 L32_5).mp z))).trans (if_pos ((ti_e p1 L32_6).mpr c_2277)))))))) ?_
                refine Rn.n hT 1 (pc' := 110) (L' := [some (.ref q0), some (.int m1)]) (st' := [.ref q0]) rfl ?_
                obtain ⟨z_2278, g_2278, p_2278⟩ : ∃ z : Int32, gI h 11 3 q0 = some z ∧ z.toInt = s q0 3 := rp_gI (k := 3) hR (T11_o t0) rfl
                refine Rn.hp hT rfl rfl (gI_hp g_2278) ?_
                obtain rfl := Option.some.inj e
                exact Rn.ret hT rfl rfl rfl (hq z_2278 p_2278)
              · rw [if_neg c_2277] at e
                by_cases c_2279 : x1 = 7
                · rw [if_pos c_2279] at e
                  refine Rn.sw2 hT rfl rfl rfl ((if_neg (fun z => c_2265 ((ti_e p1 L32_0).mp z))).trans ((if_neg (fun z => c_2267 ((ti_e p1 L32_1).mp z))).trans ((if_neg (fun z => c_2269 ((ti_e p1 L32_2).mp z))).trans ((if_neg (fun z => c_2271 ((ti_e p1 L32_3).mp z))).trans ((if_neg (fun z => c_2273 ((ti_e p1 L32_4).mp z))).trans ((if_neg (fun z => c_2275 ((ti_e p1 L32_5).mp z))).trans ((if_neg (fun z => c_2277 ((ti_e p1 L32_6).mp z))).trans (if_pos ((ti_e p1 L32_7).mpr c_2279))))))))) ?_
                  refine Rn.n hT 1 (pc' := 115) (L' := [some (.ref q0), some (.int m1)]) (st' := [.ref q0]) rfl ?_
                  refine Rn.hp hT rfl rfl (gR_hp (rp_gP (k := 4) hR (T11_o t0) rfl (nn_114 hR t0))) ?_
                  obtain ⟨z_2280, g_2280, p_2280⟩ : ∃ z : Int32, gI h 2 5 ((s q0 4).toNat) = some z ∧ z.toInt = s ((s q0 4).toNat) 5 := rp_gI (k := 5) hR (T2_o (ty_114 hR t0)) rfl
                  refine Rn.hp hT rfl rfl (gI_hp g_2280) ?_
                  obtain rfl := Option.some.inj e
                  exact Rn.ret hT rfl rfl rfl (hq z_2280 p_2280)
                · rw [if_neg c_2279] at e
                  by_cases c_2281 : x1 = 8
                  · rw [if_pos c_2281] at e
                    refine Rn.sw2 hT rfl rfl rfl ((if_neg (fun z => c_2265 ((ti_e p1 L32_0).mp z))).trans ((if_neg (fun z => c_2267 ((ti_e p1 L32_1).mp z))).trans ((if_neg (fun z => c_2269 ((ti_e p1 L32_2).mp z))).trans ((if_neg (fun z => c_2271 ((ti_e p1 L32_3).mp z))).trans ((if_neg (fun z => c_2273 ((ti_e p1 L32_4).mp z))).trans ((if_neg (fun z => c_2275 ((ti_e p1 L32_5).mp z))).trans ((if_neg (fun z => c_2277 ((ti_e p1 L32_6).mp z))).trans ((if_neg (fun z => c_2279 ((ti_e p1 L32_7).mp z))).trans (if_pos ((ti_e p1 L32_8).mpr c_2281)))))))))) ?_
                    refine Rn.n hT 1 (pc' := 123) (L' := [some (.ref q0), some (.int m1)]) (st' := [.ref q0]) rfl ?_
                    refine Rn.hp hT rfl rfl (gR_hp (rp_gP (k := 4) hR (T11_o t0) rfl (nn_114 hR t0))) ?_
                    obtain ⟨z_2282, g_2282, p_2282⟩ : ∃ z : Int32, gI h 2 6 ((s q0 4).toNat) = some z ∧ z.toInt = s ((s q0 4).toNat) 6 := rp_gI (k := 6) hR (T2_o (ty_114 hR t0)) rfl
                    refine Rn.hp hT rfl rfl (gI_hp g_2282) ?_
                    obtain rfl := Option.some.inj e
                    exact Rn.ret hT rfl rfl rfl (hq z_2282 p_2282)
                  · rw [if_neg c_2281] at e
                    refine Rn.sw2 hT rfl rfl rfl ((if_neg (fun z => c_2265 ((ti_e p1 L32_0).mp z))).trans ((if_neg (fun z => c_2267 ((ti_e p1 L32_1).mp z))).trans ((if_neg (fun z => c_2269 ((ti_e p1 L32_2).mp z))).trans ((if_neg (fun z => c_2271 ((ti_e p1 L32_3).mp z))).trans ((if_neg (fun z => c_2273 ((ti_e p1 L32_4).mp z))).trans ((if_neg (fun z => c_2275 ((ti_e p1 L32_5).mp z))).trans ((if_neg (fun z => c_2277 ((ti_e p1 L32_6).mp z))).trans ((if_neg (fun z => c_2279 ((ti_e p1 L32_7).mp z))).trans ((if_neg (fun z => c_2281 ((ti_e p1 L32_8).mp z))).trans rfl))))))))) ?_
                    refine Rn.n hT 2 (pc' := 132) (L' := [some (.ref q0), some (.int m1)]) (st' := [.int m1, .ref q0]) rfl ?_
                    obtain ⟨v_2283, e_2283, e⟩ := Option.bind_eq_some_iff.mp e
                    refine Rn.call hT rfl rfl rfl (Nat.le_of_ble_eq_true rfl) (rcv_v gX11_countMore (by omega) (rp_ck hR (T11_o t0))) (RX11_countMore (by omega) hR t0 p1 e_2283 (fun z_2283 p_2283 => ?_))
                    show Rn d _ _ 135 [some (.ref q0), some (.int m1)] [.int z_2283] h Q
                    obtain rfl := Option.some.inj e
                    exact Rn.ret hT rfl rfl rfl (hq z_2283 p_2283)
set_option maxRecDepth 10000 in
theorem hX11_back : iv_Tb 188 tX11_back := iv_tb_of (m := mX11_back) rfl
set_option maxRecDepth 10000 in
theorem gX11_back : PG.2 188 = some mX11_back := iv_pi_of (t := tX11_back) rfl (by decide)
def FX11_back_b18 (N : Nat) (s : iv_M)   : Option (Int × iv_M) := (some ((-1), s))
set_option maxRecDepth 10000 in
set_option maxHeartbeats 4000000 in
theorem RX11_back_b18 {d N nc Ls : Nat} {Xs : Nat → Int32} (hd : 5 ≤ d) {h : iv_H} {s : iv_M} (hR : Rep nc Ls Xs h s)   {r : Int × iv_M} {Q : Option Value → iv_H → Prop} (hq : ∀ (z : Int32) (h1 : iv_H), z.toInt = r.1 → Rep nc Ls Xs h1 r.2 → Q (some (.int z)) h1) (e : FX11_back_b18 N s   = some r) : Rn d 188 (some .int) 18 [none, none] [] h Q := by
  have hT := hX11_back
  unfold FX11_back_b18 at e
  refine Rn.n hT 1 (pc' := 19) (L' := [none, none]) (st' := [.int (-1 : Int32)]) rfl ?_
  obtain rfl := Option.some.inj e
  exact Rn.ret hT rfl rfl rfl (hq (-1 : Int32) h L32_m1 hR)
def FX11_back (N : Nat) (s : iv_M) (q0 : Nat) (x1 : Int) : Option (Int × iv_M) := (if x1 < 0 then (FX11_back_b18 N s) else (if 4 ≤ x1 then (FX11_back_b18 N s) else ((rd s (q0 + 53) 4 x1).bind fun v_2286 => (if v_2286 < 0 then (FX11_back_b18 N s) else ((rd s (q0 + 53) 4 x1).bind fun v_2288 => (if v_2288 < 0 then none else ((FX2_copyFrom N s ((s q0 4).toNat) ((v_2288).toNat)).bind fun s_2291 => ((pt s_2291 q0 15 (w32 ((s_2291 q0 15) + 1))).bind fun s_2293 => (some ((s_2293 ((s_2293 q0 4).toNat) 6), s_2293))))))))))
set_option maxRecDepth 10000 in
set_option maxHeartbeats 4000000 in
theorem RX11_back {d N nc Ls : Nat} {Xs : Nat → Int32} (hd : 6 ≤ d) {h : iv_H} {s : iv_M} (hR : Rep nc Ls Xs h s) {q0 : Nat} (t0 : T11 nc q0) {m1 : Int32} {x1 : Int} (p1 : m1.toInt = x1) {r : Int × iv_M} {Q : Option Value → iv_H → Prop} (e : FX11_back N s q0 x1 = some r) (hq : ∀ (z : Int32) (h1 : iv_H), z.toInt = r.1 → Rep nc Ls Xs h1 r.2 → Q (some (.int z)) h1) : Cl d 188 [.ref q0, .int m1] h Q := by
  obtain ⟨d, rfl⟩ : ∃ k, d = k + 1 := ⟨d - 1, by omega⟩
  have hd : 5 ≤ d := by omega
  have hT := hX11_back
  unfold FX11_back at e
  refine Cl.into (by decide) gX11_back rfl ?_
  show Rn d 188 (some .int) 0 [some (.ref q0), some (.int m1)] [] h Q
  refine Rn.n hT 1 (pc' := 1) (L' := [some (.ref q0), some (.int m1)]) (st' := [.int m1]) rfl ?_
  by_cases c_2284 : x1 < 0
  · rw [if_pos c_2284] at e
    refine Rn.bt hT rfl rfl rfl (decide_eq_true ((ti_l p1 L32_0).mpr c_2284)) ?_
    exact Rn.weak (ll_n (ll_n ll_e)) (RX11_back_b18 hd hR hq e)
  · rw [if_neg c_2284] at e
    refine Rn.bf hT rfl rfl rfl (decide_eq_false (fun z => c_2284 ((ti_l p1 L32_0).mp z))) ?_
    refine Rn.n hT 2 (pc' := 6) (L' := [some (.ref q0), some (.int m1)]) (st' := [.int (4 : Int32), .int m1]) rfl ?_
    by_cases c_2285 : 4 ≤ x1
    · rw [if_pos c_2285] at e
      refine Rn.bt hT rfl rfl rfl (decide_eq_true ((ti_le L32_4 p1).mpr c_2285)) ?_
      exact Rn.weak (ll_n (ll_n ll_e)) (RX11_back_b18 hd hR hq e)
    · rw [if_neg c_2285] at e
      refine Rn.bf hT rfl rfl rfl (decide_eq_false (fun z => c_2285 ((ti_le L32_4 p1).mp z))) ?_
      refine Rn.n hT 1 (pc' := 10) (L' := [some (.ref q0), some (.int m1)]) (st' := [.ref q0]) rfl ?_
      refine Rn.hp hT rfl rfl (gR_hp (rp_gR hR (T11_o t0) rfl)) ?_
      refine Rn.n hT 1 (pc' := 14) (L' := [some (.ref q0), some (.int m1)]) (st' := [.int m1, .ref (q0 + 53)]) rfl ?_
      obtain ⟨v_2286, e_2286, e⟩ := Option.bind_eq_some_iff.mp e
      obtain ⟨g_2286, f_2286⟩ := rp_aN hR (T11_6 t0) (T11_6l t0) p1 e_2286
      refine Rn.hp hT rfl rfl (aN_hp g_2286) ?_
      by_cases c_2287 : v_2286 < 0
      · rw [if_pos c_2287] at e
        rw [rvo_neg c_2287]
        show Rn d _ _ 15 [some (.ref q0), some (.int m1)] [.null] h Q
        refine Rn.bf hT rfl rfl rfl rfl ?_
        exact Rn.weak (ll_n (ll_n ll_e)) (RX11_back_b18 hd hR hq e)
      · rw [if_neg c_2287] at e
        rw [rvo_pos c_2287]
        show Rn d _ _ 15 [some (.ref q0), some (.int m1)] [.ref ((v_2286).toNat)] h Q
        refine Rn.bt hT rfl rfl rfl rfl ?_
        refine Rn.n hT 1 (pc' := 21) (L' := [some (.ref q0), some (.int m1)]) (st' := [.ref q0]) rfl ?_
        refine Rn.hp hT rfl rfl (gR_hp (rp_gP (k := 4) hR (T11_o t0) rfl (nn_114 hR t0))) ?_
        refine Rn.n hT 1 (pc' := 25) (L' := [some (.ref q0), some (.int m1)]) (st' := [.ref q0, .ref ((s q0 4).toNat)]) rfl ?_
        refine Rn.hp hT rfl rfl (gR_hp (rp_gR hR (T11_o t0) rfl)) ?_
        refine Rn.n hT 1 (pc' := 29) (L' := [some (.ref q0), some (.int m1)]) (st' := [.int m1, .ref (q0 + 53), .ref ((s q0 4).toNat)]) rfl ?_
        obtain ⟨v_2288, e_2288, e⟩ := Option.bind_eq_some_iff.mp e
        obtain ⟨g_2288, f_2288⟩ := rp_aN hR (T11_6 t0) (T11_6l t0) p1 e_2288
        refine Rn.hp hT rfl rfl (aN_hp g_2288) ?_
        by_cases c_2289 : v_2288 < 0
        · rw [if_pos c_2289] at e
          cases e
        · rw [if_neg c_2289] at e
          rw [rvo_pos c_2289]
          show Rn d _ _ 30 [some (.ref q0), some (.int m1)] [.ref ((v_2288).toNat), .ref ((s q0 4).toNat)] h Q
          obtain ⟨s_2291, e_2290, e⟩ := Option.bind_eq_some_iff.mp e
          refine Rn.call hT rfl rfl rfl (Nat.le_of_ble_eq_true rfl) (rcv_v gX2_copyFrom (by omega) (rp_ck hR (T2_o (ty_114 hR t0)))) (RX2_copyFrom (by omega) hR (ty_114 hR t0) (f_2288.resolve_left c_2289) e_2290 (fun h_2291 R_2291 => ?_))
          show Rn d _ _ 33 [some (.ref q0), some (.int m1)] [] h_2291 Q
          refine Rn.n hT 2 (pc' := 35) (L' := [some (.ref q0), some (.int m1)]) (st' := [.ref q0, .ref q0]) rfl ?_
          obtain ⟨z_2292, g_2292, p_2292⟩ : ∃ z : Int32, gI h_2291 11 15 q0 = some z ∧ z.toInt = s_2291 q0 15 := rp_gI (k := 15) R_2291 (T11_o t0) rfl
          refine Rn.hp hT rfl rfl (gI_hp g_2292) ?_
          refine Rn.n hT 2 (pc' := 40) (L' := [some (.ref q0), some (.int m1)]) (st' := [.int (z_2292 + (1 : Int32)), .ref q0]) rfl ?_
          obtain ⟨s_2293, e_2294, e⟩ := Option.bind_eq_some_iff.mp e
          obtain ⟨h_2293, g_2294, R_2293⟩ := rp_pI (ci := 11) (k := 15) R_2291 (T11_o t0) rfl rfl (ti_add p_2292 L32_1) e_2294
          refine Rn.hp hT rfl rfl (pV_hp rfl g_2294) ?_
          refine Rn.n hT 1 (pc' := 44) (L' := [some (.ref q0), some (.int m1)]) (st' := [.ref q0]) rfl ?_
          refine Rn.hp hT rfl rfl (gR_hp (rp_gP (k := 4) R_2293 (T11_o t0) rfl (nn_114 R_2293 t0))) ?_
          obtain ⟨z_2295, g_2295, p_2295⟩ : ∃ z : Int32, gI h_2293 2 6 ((s_2293 q0 4).toNat) = some z ∧ z.toInt = s_2293 ((s_2293 q0 4).toNat) 6 := rp_gI (k := 6) R_2293 (T2_o (ty_114 R_2293 t0)) rfl
          refine Rn.hp hT rfl rfl (gI_hp g_2295) ?_
          obtain rfl := Option.some.inj e
          exact Rn.ret hT rfl rfl rfl (hq z_2295 h_2293 p_2295 R_2293)
set_option maxRecDepth 10000 in
theorem hX12_in : iv_Tb 190 tX12_in := iv_tb_of (m := mX12_in) rfl
set_option maxRecDepth 10000 in
theorem gX12_in : PG.2 190 = some mX12_in := iv_pi_of (t := tX12_in) rfl (by decide)
def FX12_in_b18 (N : Nat) (s : iv_M)  (xs0 : Int) : Option (Int) := (if xs0 = 0 ∨ xs0 = 1 then some xs0 else none)
set_option maxRecDepth 10000 in
set_option maxHeartbeats 4000000 in
theorem RX12_in_b18 {d N nc Ls : Nat} {Xs : Nat → Int32} (hd : 0 ≤ d) {h : iv_H} {s : iv_M} (hR : Rep nc Ls Xs h s)  {ms0 : Int32} {xs0 : Int} (ps0 : ms0.toInt = xs0) {r : Int} {Q : Option Value → iv_H → Prop} (hq : ∀ (z : Int32), z.toInt = r → Q (some (.int z)) h) (e : FX12_in_b18 N s  xs0 = some r) : Rn d 190 (some .boolean) 18 [none, none, none, none, none, none] [.int ms0] h Q := by
  have hT := hX12_in
  unfold FX12_in_b18 at e
  by_cases c_2298 : xs0 = 0 ∨ xs0 = 1
  · rw [if_pos c_2298] at e
    obtain rfl := Option.some.inj e
    exact Rn.ret hT rfl rfl (if_pos (ti_b ps0 c_2298)) (hq ms0 ps0)
  · rw [if_neg c_2298] at e
    cases e
def FX12_in_b17 (N : Nat) (s : iv_M)   : Option (Int) := (FX12_in_b18 N s 0)
set_option maxRecDepth 10000 in
set_option maxHeartbeats 4000000 in
theorem RX12_in_b17 {d N nc Ls : Nat} {Xs : Nat → Int32} (hd : 0 ≤ d) {h : iv_H} {s : iv_M} (hR : Rep nc Ls Xs h s)   {r : Int} {Q : Option Value → iv_H → Prop} (hq : ∀ (z : Int32), z.toInt = r → Q (some (.int z)) h) (e : FX12_in_b17 N s   = some r) : Rn d 190 (some .boolean) 17 [none, none, none, none, none, none] [] h Q := by
  have hT := hX12_in
  unfold FX12_in_b17 at e
  refine Rn.n hT 1 (pc' := 18) (L' := [none, none, none, none, none, none]) (st' := [.int (0 : Int32)]) rfl ?_
  exact Rn.weak (ll_n (ll_n (ll_n (ll_n (ll_n (ll_n ll_e)))))) (RX12_in_b18 hd hR L32_0 hq e)
def FX12_in (N : Nat) (s : iv_M) (y0 : Int) (y2 : Int) (y4 : Int) : Option (Int) := (if y0 < y2 then (FX12_in_b17 N s) else (if y4 < y0 then (FX12_in_b17 N s) else (FX12_in_b18 N s 1)))
set_option maxRecDepth 10000 in
set_option maxHeartbeats 4000000 in
theorem RX12_in {d N nc Ls : Nat} {Xs : Nat → Int32} (hd : 1 ≤ d) {h : iv_H} {s : iv_M} (hR : Rep nc Ls Xs h s) {j0 : Int64} {y0 : Int} (p0 : j0.toInt = y0) {j2 : Int64} {y2 : Int} (p2 : j2.toInt = y2) {j4 : Int64} {y4 : Int} (p4 : j4.toInt = y4) {r : Int} {Q : Option Value → iv_H → Prop} (e : FX12_in N s y0 y2 y4 = some r) (hq : ∀ (z : Int32), z.toInt = r → Q (some (.int z)) h) : Cl d 190 [.long j0, .long j2, .long j4] h Q := by
  obtain ⟨d, rfl⟩ : ∃ k, d = k + 1 := ⟨d - 1, by omega⟩
  have hd : 0 ≤ d := by omega
  have hT := hX12_in
  unfold FX12_in at e
  refine Cl.into (by decide) gX12_in rfl ?_
  show Rn d 190 (some .boolean) 0 [some (.long j0), none, some (.long j2), none, some (.long j4), none] [] h Q
  refine Rn.n hT 3 (pc' := 3) (L' := [some (.long j0), none, some (.long j2), none, some (.long j4), none]) (st' := [.int (lg_cmp j0 j2)]) rfl ?_
  by_cases c_2296 : y0 < y2
  · rw [if_pos c_2296] at e
    refine Rn.bt hT rfl rfl rfl (decide_eq_true ((lc_l p0 p2).mpr c_2296)) ?_
    exact Rn.weak (ll_n (ll_n (ll_n (ll_n (ll_n (ll_n ll_e)))))) (RX12_in_b17 hd hR hq e)
  · rw [if_neg c_2296] at e
    refine Rn.bf hT rfl rfl rfl (decide_eq_false (fun z => c_2296 ((lc_l p0 p2).mp z))) ?_
    refine Rn.n hT 3 (pc' := 10) (L' := [some (.long j0), none, some (.long j2), none, some (.long j4), none]) (st' := [.int (lg_cmp j0 j4)]) rfl ?_
    by_cases c_2297 : y4 < y0
    · rw [if_pos c_2297] at e
      refine Rn.bt hT rfl rfl rfl (decide_eq_true ((lc_g p0 p4).mpr c_2297)) ?_
      exact Rn.weak (ll_n (ll_n (ll_n (ll_n (ll_n (ll_n ll_e)))))) (RX12_in_b17 hd hR hq e)
    · rw [if_neg c_2297] at e
      refine Rn.bf hT rfl rfl rfl (decide_eq_false (fun z => c_2297 ((lc_g p0 p4).mp z))) ?_
      refine Rn.n hT 2 (pc' := 18) (L' := [some (.long j0), none, some (.long j2), none, some (.long j4), none]) (st' := [.int (1 : Int32)]) rfl ?_
      exact Rn.weak (ll_n (ll_n (ll_n (ll_n (ll_n (ll_n ll_e)))))) (RX12_in_b18 hd hR L32_1 hq e)
set_option maxRecDepth 10000 in
theorem hX12_bits : iv_Tb 191 tX12_bits := iv_tb_of (m := mX12_bits) rfl
set_option maxRecDepth 10000 in
theorem gX12_bits : PG.2 191 = some mX12_bits := iv_pi_of (t := tX12_bits) rfl (by decide)
def FX12_bits_l4 (N : Nat) (s : iv_M) (x0 : Int) (kx : Int → Option (Int)) : Nat → Int → Int → Option (Int)
  | 0, _, _ => none
  | n + 1, x1, x2 => (if 16 ≤ x2 then (kx x1) else (FX12_bits_l4 N s x0 kx n (w32 (x1 + (bAn (sr32 x0 x2) 1))) (w32 (x2 + 1))))
set_option maxRecDepth 10000 in
set_option maxHeartbeats 4000000 in
theorem RX12_bits_l4 {d N nc Ls : Nat} {Xs : Nat → Int32} (hd : 0 ≤ d) {h : iv_H} {s : iv_M} (hR : Rep nc Ls Xs h s) {m0 : Int32} {x0 : Int} (p0 : m0.toInt = x0) {kx : Int → Option (Int)} {r : Int} {Q : Option Value → iv_H → Prop} (hk : ∀ (m1 : Int32) (x1 : Int) (p1 : m1.toInt = x1), kx x1 = some r → Rn d 191 (some .int) 24 [none, some (.int m1), none] [] h Q) (hq : ∀ (z : Int32), z.toInt = r → Q (some (.int z)) h) : ∀ (n : Nat) (m1 : Int32) (x1 : Int) (p1 : m1.toInt = x1) (m2 : Int32) (x2 : Int) (p2 : m2.toInt = x2), FX12_bits_l4 N s x0 kx n x1 x2 = some r → Rn d 191 (some .int) 4 [some (.int m0), some (.int m1), some (.int m2)] [] h Q := by
  have hT := hX12_bits
  intro n
  induction n with
  | zero =>
    intro m1 x1 p1 m2 x2 p2 e
    rw [FX12_bits_l4] at e
    cases e
  | succ n ih =>
    intro m1 x1 p1 m2 x2 p2 e
    rw [FX12_bits_l4] at e
    refine Rn.n hT 2 (pc' := 7) (L' := [some (.int m0), some (.int m1), some (.int m2)]) (st' := [.int (16 : Int32), .int m2]) rfl ?_
    by_cases c_2300 : 16 ≤ x2
    · rw [if_pos c_2300] at e
      refine Rn.bt hT rfl rfl rfl (decide_eq_true ((ti_le L32_16 p2).mpr c_2300)) ?_
      exact Rn.weak (ll_n (ll_s (ll_n ll_e))) (hk m1 x1 p1 e)
    · rw [if_neg c_2300] at e
      refine Rn.bf hT rfl rfl rfl (decide_eq_false (fun z => c_2300 ((ti_le L32_16 p2).mp z))) ?_
      refine Rn.n hT 10 (pc' := 4) (L' := [some (.int m0), some (.int (m1 + ((m0 >>> (m2 &&& 31)) &&& (1 : Int32)))), some (.int (m2 + (1 : Int32)))]) (st' := []) rfl ?_
      exact Rn.weak (ll_s (ll_s (ll_s ll_e))) (ih (m1 + ((m0 >>> (m2 &&& 31)) &&& (1 : Int32))) (w32 (x1 + (bAn (sr32 x0 x2) 1))) (ti_add p1 (ti_and (ti_shr p0 p2) L32_1)) (m2 + (1 : Int32)) (w32 (x2 + 1)) (ti_add p2 L32_1) e)
def FX12_bits (N : Nat) (s : iv_M) (x0 : Int) : Option (Int) := (FX12_bits_l4 N s x0 (fun (x2299_1 : Int) => (some x2299_1)) N 0 0)
set_option maxRecDepth 10000 in
set_option maxHeartbeats 4000000 in
theorem RX12_bits {d N nc Ls : Nat} {Xs : Nat → Int32} (hd : 1 ≤ d) {h : iv_H} {s : iv_M} (hR : Rep nc Ls Xs h s) {m0 : Int32} {x0 : Int} (p0 : m0.toInt = x0) {r : Int} {Q : Option Value → iv_H → Prop} (e : FX12_bits N s x0 = some r) (hq : ∀ (z : Int32), z.toInt = r → Q (some (.int z)) h) : Cl d 191 [.int m0] h Q := by
  obtain ⟨d, rfl⟩ : ∃ k, d = k + 1 := ⟨d - 1, by omega⟩
  have hd : 0 ≤ d := by omega
  have hT := hX12_bits
  unfold FX12_bits at e
  refine Cl.into (by decide) gX12_bits rfl ?_
  show Rn d 191 (some .int) 0 [some (.int m0), none, none] [] h Q
  refine Rn.n hT 4 (pc' := 4) (L' := [some (.int m0), some (.int (0 : Int32)), some (.int (0 : Int32))]) (st' := []) rfl ?_
  refine Rn.weak (ll_s (ll_s (ll_s ll_e))) (RX12_bits_l4 hd hR p0 (fun m2299_1 x2299_1 p2299_1 e => ?_) hq N (0 : Int32) 0 L32_0 (0 : Int32) 0 L32_0 e)
  try dsimp only at e
  refine Rn.n hT 1 (pc' := 25) (L' := [none, some (.int m2299_1), none]) (st' := [.int m2299_1]) rfl ?_
  obtain rfl := Option.some.inj e
  exact Rn.ret hT rfl rfl rfl (hq m2299_1 p2299_1)
set_option maxRecDepth 10000 in
theorem hX12_apart : iv_Tb 192 tX12_apart := iv_tb_of (m := mX12_apart) rfl
set_option maxRecDepth 10000 in
theorem gX12_apart : PG.2 192 = some mX12_apart := iv_pi_of (t := tX12_apart) rfl (by decide)
def FX12_apart_b14 (N : Nat) (s : iv_M)  (xs0 : Int) : Option (Int) := (some xs0)
set_option maxRecDepth 10000 in
set_option maxHeartbeats 4000000 in
theorem RX12_apart_b14 {d N nc Ls : Nat} {Xs : Nat → Int32} (hd : 0 ≤ d) {h : iv_H} {s : iv_M} (hR : Rep nc Ls Xs h s)  {ms0 : Int32} {xs0 : Int} (ps0 : ms0.toInt = xs0) {r : Int} {Q : Option Value → iv_H → Prop} (hq : ∀ (z : Int32), z.toInt = r → Q (some (.int z)) h) (e : FX12_apart_b14 N s  xs0 = some r) : Rn d 192 (some .int) 14 [none, none] [.int ms0] h Q := by
  have hT := hX12_apart
  unfold FX12_apart_b14 at e
  obtain rfl := Option.some.inj e
  exact Rn.ret hT rfl rfl rfl (hq ms0 ps0)
def FX12_apart (N : Nat) (s : iv_M) (x0 : Int) (x1 : Int) : Option (Int) := (if x1 ≤ x0 then (FX12_apart_b14 N s (w32 (x0 - x1))) else (FX12_apart_b14 N s (w32 (x1 - x0))))
set_option maxRecDepth 10000 in
set_option maxHeartbeats 4000000 in
theorem RX12_apart {d N nc Ls : Nat} {Xs : Nat → Int32} (hd : 1 ≤ d) {h : iv_H} {s : iv_M} (hR : Rep nc Ls Xs h s) {m0 : Int32} {x0 : Int} (p0 : m0.toInt = x0) {m1 : Int32} {x1 : Int} (p1 : m1.toInt = x1) {r : Int} {Q : Option Value → iv_H → Prop} (e : FX12_apart N s x0 x1 = some r) (hq : ∀ (z : Int32), z.toInt = r → Q (some (.int z)) h) : Cl d 192 [.int m0, .int m1] h Q := by
  obtain ⟨d, rfl⟩ : ∃ k, d = k + 1 := ⟨d - 1, by omega⟩
  have hd : 0 ≤ d := by omega
  have hT := hX12_apart
  unfold FX12_apart at e
  refine Cl.into (by decide) gX12_apart rfl ?_
  show Rn d 192 (some .int) 0 [some (.int m0), some (.int m1)] [] h Q
  refine Rn.n hT 2 (pc' := 2) (L' := [some (.int m0), some (.int m1)]) (st' := [.int m1, .int m0]) rfl ?_
  by_cases c_2301 : x1 ≤ x0
  · rw [if_pos c_2301] at e
    refine Rn.bt hT rfl rfl rfl (decide_eq_true ((ti_le p1 p0).mpr c_2301)) ?_
    refine Rn.n hT 3 (pc' := 14) (L' := [some (.int m0), some (.int m1)]) (st' := [.int (m0 - m1)]) rfl ?_
    exact Rn.weak (ll_n (ll_n ll_e)) (RX12_apart_b14 hd hR (ti_sub p0 p1) hq e)
  · rw [if_neg c_2301] at e
    refine Rn.bf hT rfl rfl rfl (decide_eq_false (fun z => c_2301 ((ti_le p1 p0).mp z))) ?_
    refine Rn.n hT 4 (pc' := 14) (L' := [some (.int m0), some (.int m1)]) (st' := [.int (m1 - m0)]) rfl ?_
    exact Rn.weak (ll_n (ll_n ll_e)) (RX12_apart_b14 hd hR (ti_sub p1 p0) hq e)
set_option maxRecDepth 10000 in
theorem hX12_isPalace : iv_Tb 193 tX12_isPalace := iv_tb_of (m := mX12_isPalace) rfl
set_option maxRecDepth 10000 in
theorem gX12_isPalace : PG.2 193 = some mX12_isPalace := iv_pi_of (t := tX12_isPalace) rfl (by decide)
def FX12_isPalace_b14 (N : Nat) (s : iv_M)  (xs0 : Int) : Option (Int) := (if xs0 = 0 ∨ xs0 = 1 then some xs0 else none)
set_option maxRecDepth 10000 in
set_option maxHeartbeats 4000000 in
theorem RX12_isPalace_b14 {d N nc Ls : Nat} {Xs : Nat → Int32} (hd : 0 ≤ d) {h : iv_H} {s : iv_M} (hR : Rep nc Ls Xs h s)  {ms0 : Int32} {xs0 : Int} (ps0 : ms0.toInt = xs0) {r : Int} {Q : Option Value → iv_H → Prop} (hq : ∀ (z : Int32), z.toInt = r → Q (some (.int z)) h) (e : FX12_isPalace_b14 N s  xs0 = some r) : Rn d 193 (some .boolean) 14 [none] [.int ms0] h Q := by
  have hT := hX12_isPalace
  unfold FX12_isPalace_b14 at e
  by_cases c_2304 : xs0 = 0 ∨ xs0 = 1
  · rw [if_pos c_2304] at e
    obtain rfl := Option.some.inj e
    exact Rn.ret hT rfl rfl (if_pos (ti_b ps0 c_2304)) (hq ms0 ps0)
  · rw [if_neg c_2304] at e
    cases e
def FX12_isPalace (N : Nat) (s : iv_M) (q0 : Nat) : Option (Int) := ((rd s (q0 + 1) 14 0).bind fun v_2302 => (if v_2302 ≤ 0 then (FX12_isPalace_b14 N s 0) else (FX12_isPalace_b14 N s 1)))
set_option maxRecDepth 10000 in
set_option maxHeartbeats 4000000 in
theorem RX12_isPalace {d N nc Ls : Nat} {Xs : Nat → Int32} (hd : 1 ≤ d) {h : iv_H} {s : iv_M} (hR : Rep nc Ls Xs h s) {q0 : Nat} (t0 : T12 nc q0) {r : Int} {Q : Option Value → iv_H → Prop} (e : FX12_isPalace N s q0 = some r) (hq : ∀ (z : Int32), z.toInt = r → Q (some (.int z)) h) : Cl d 193 [.ref q0] h Q := by
  obtain ⟨d, rfl⟩ : ∃ k, d = k + 1 := ⟨d - 1, by omega⟩
  have hd : 0 ≤ d := by omega
  have hT := hX12_isPalace
  unfold FX12_isPalace at e
  refine Cl.into (by decide) gX12_isPalace rfl ?_
  show Rn d 193 (some .boolean) 0 [some (.ref q0)] [] h Q
  refine Rn.n hT 1 (pc' := 1) (L' := [some (.ref q0)]) (st' := [.ref q0]) rfl ?_
  refine Rn.hp hT rfl rfl (gR_hp (rp_gR hR (T12_o t0) rfl)) ?_
  refine Rn.n hT 1 (pc' := 5) (L' := [some (.ref q0)]) (st' := [.int (0 : Int32), .ref (q0 + 1)]) rfl ?_
  obtain ⟨v_2302, e_2302, e⟩ := Option.bind_eq_some_iff.mp e
  obtain ⟨z_2302, g_2302, p_2302⟩ := rp_aI hR (T12_1 t0) (T12_1l t0) L32_0 e_2302
  refine Rn.hp hT rfl rfl (aI_hp g_2302) ?_
  by_cases c_2303 : v_2302 ≤ 0
  · rw [if_pos c_2303] at e
    refine Rn.bt hT rfl rfl rfl (decide_eq_true ((ti_le p_2302 L32_0).mpr c_2303)) ?_
    refine Rn.n hT 1 (pc' := 14) (L' := [some (.ref q0)]) (st' := [.int (0 : Int32)]) rfl ?_
    exact Rn.weak (ll_n ll_e) (RX12_isPalace_b14 hd hR L32_0 hq e)
  · rw [if_neg c_2303] at e
    refine Rn.bf hT rfl rfl rfl (decide_eq_false (fun z => c_2303 ((ti_le p_2302 L32_0).mp z))) ?_
    refine Rn.n hT 2 (pc' := 14) (L' := [some (.ref q0)]) (st' := [.int (1 : Int32)]) rfl ?_
    exact Rn.weak (ll_n ll_e) (RX12_isPalace_b14 hd hR L32_1 hq e)
set_option maxRecDepth 10000 in
theorem hX12_isCell : iv_Tb 194 tX12_isCell := iv_tb_of (m := mX12_isCell) rfl
set_option maxRecDepth 10000 in
theorem gX12_isCell : PG.2 194 = some mX12_isCell := iv_pi_of (t := tX12_isCell) rfl (by decide)
def FX12_isCell_b41 (N : Nat) (s : iv_M)  (xs0 : Int) : Option (Int) := (if xs0 = 0 ∨ xs0 = 1 then some xs0 else none)
set_option maxRecDepth 10000 in
set_option maxHeartbeats 4000000 in
theorem RX12_isCell_b41 {d N nc Ls : Nat} {Xs : Nat → Int32} (hd : 1 ≤ d) {h : iv_H} {s : iv_M} (hR : Rep nc Ls Xs h s)  {ms0 : Int32} {xs0 : Int} (ps0 : ms0.toInt = xs0) {r : Int} {Q : Option Value → iv_H → Prop} (hq : ∀ (z : Int32), z.toInt = r → Q (some (.int z)) h) (e : FX12_isCell_b41 N s  xs0 = some r) : Rn d 194 (some .boolean) 41 [none, none, none] [.int ms0] h Q := by
  have hT := hX12_isCell
  unfold FX12_isCell_b41 at e
  by_cases c_2311 : xs0 = 0 ∨ xs0 = 1
  · rw [if_pos c_2311] at e
    obtain rfl := Option.some.inj e
    exact Rn.ret hT rfl rfl (if_pos (ti_b ps0 c_2311)) (hq ms0 ps0)
  · rw [if_neg c_2311] at e
    cases e
def FX12_isCell_b40 (N : Nat) (s : iv_M)   : Option (Int) := (FX12_isCell_b41 N s 0)
set_option maxRecDepth 10000 in
set_option maxHeartbeats 4000000 in
theorem RX12_isCell_b40 {d N nc Ls : Nat} {Xs : Nat → Int32} (hd : 1 ≤ d) {h : iv_H} {s : iv_M} (hR : Rep nc Ls Xs h s)   {r : Int} {Q : Option Value → iv_H → Prop} (hq : ∀ (z : Int32), z.toInt = r → Q (some (.int z)) h) (e : FX12_isCell_b40 N s   = some r) : Rn d 194 (some .boolean) 40 [none, none, none] [] h Q := by
  have hT := hX12_isCell
  unfold FX12_isCell_b40 at e
  refine Rn.n hT 1 (pc' := 41) (L' := [none, none, none]) (st' := [.int (0 : Int32)]) rfl ?_
  exact Rn.weak (ll_n (ll_n (ll_n ll_e))) (RX12_isCell_b41 hd hR L32_0 hq e)
def FX12_isCell (N : Nat) (s : iv_M) (q0 : Nat) (x1 : Int) (x2 : Int) : Option (Int) := ((rd s (q0 + 1) 14 0).bind fun v_2305 => ((FX12_in N s x1 0 (w32 (v_2305 - 1))).bind fun v_2306 => (if v_2306 = 0 then (FX12_isCell_b40 N s) else ((rd s (q0 + 1) 14 1).bind fun v_2308 => ((FX12_in N s x2 0 (w32 (v_2308 - 1))).bind fun v_2309 => (if v_2309 = 0 then (FX12_isCell_b40 N s) else (FX12_isCell_b41 N s 1)))))))
set_option maxRecDepth 10000 in
set_option maxHeartbeats 4000000 in
theorem RX12_isCell {d N nc Ls : Nat} {Xs : Nat → Int32} (hd : 2 ≤ d) {h : iv_H} {s : iv_M} (hR : Rep nc Ls Xs h s) {q0 : Nat} (t0 : T12 nc q0) {m1 : Int32} {x1 : Int} (p1 : m1.toInt = x1) {m2 : Int32} {x2 : Int} (p2 : m2.toInt = x2) {r : Int} {Q : Option Value → iv_H → Prop} (e : FX12_isCell N s q0 x1 x2 = some r) (hq : ∀ (z : Int32), z.toInt = r → Q (some (.int z)) h) : Cl d 194 [.ref q0, .int m1, .int m2] h Q := by
  obtain ⟨d, rfl⟩ : ∃ k, d = k + 1 := ⟨d - 1, by omega⟩
  have hd : 1 ≤ d := by omega
  have hT := hX12_isCell
  unfold FX12_isCell at e
  refine Cl.into (by decide) gX12_isCell rfl ?_
  show Rn d 194 (some .boolean) 0 [some (.ref q0), some (.int m1), some (.int m2)] [] h Q
  refine Rn.n hT 4 (pc' := 4) (L' := [some (.ref q0), some (.int m1), some (.int m2)]) (st' := [.ref q0, .long (0 : Int64), .long ((m1).toInt64)]) rfl ?_
  refine Rn.hp hT rfl rfl (gR_hp (rp_gR hR (T12_o t0) rfl)) ?_
  refine Rn.n hT 1 (pc' := 8) (L' := [some (.ref q0), some (.int m1), some (.int m2)]) (st' := [.int (0 : Int32), .ref (q0 + 1), .long (0 : Int64), .long ((m1).toInt64)]) rfl ?_
  obtain ⟨v_2305, e_2305, e⟩ := Option.bind_eq_some_iff.mp e
  obtain ⟨z_2305, g_2305, p_2305⟩ := rp_aI hR (T12_1 t0) (T12_1l t0) L32_0 e_2305
  refine Rn.hp hT rfl rfl (aI_hp g_2305) ?_
  refine Rn.n hT 3 (pc' := 12) (L' := [some (.ref q0), some (.int m1), some (.int m2)]) (st' := [.long (((z_2305 - (1 : Int32))).toInt64), .long (0 : Int64), .long ((m1).toInt64)]) rfl ?_
  obtain ⟨v_2306, e_2306, e⟩ := Option.bind_eq_some_iff.mp e
  refine Rn.call hT rfl rfl rfl (Nat.le_of_ble_eq_true rfl) rfl (RX12_in (by omega) hR (ti_j p1) L64_0 (ti_j (ti_sub p_2305 L32_1)) e_2306 (fun z_2306 p_2306 => ?_))
  show Rn d _ _ 15 [some (.ref q0), some (.int m1), some (.int m2)] [.int z_2306] h Q
  by_cases c_2307 : v_2306 = 0
  · rw [if_pos c_2307] at e
    refine Rn.bt hT rfl rfl rfl (decide_eq_true ((ti_e p_2306 L32_0).mpr c_2307)) ?_
    exact Rn.weak (ll_n (ll_n (ll_n ll_e))) (RX12_isCell_b40 hd hR hq e)
  · rw [if_neg c_2307] at e
    refine Rn.bf hT rfl rfl rfl (decide_eq_false (fun z => c_2307 ((ti_e p_2306 L32_0).mp z))) ?_
    refine Rn.n hT 4 (pc' := 22) (L' := [some (.ref q0), some (.int m1), some (.int m2)]) (st' := [.ref q0, .long (0 : Int64), .long ((m2).toInt64)]) rfl ?_
    refine Rn.hp hT rfl rfl (gR_hp (rp_gR hR (T12_o t0) rfl)) ?_
    refine Rn.n hT 1 (pc' := 26) (L' := [some (.ref q0), some (.int m1), some (.int m2)]) (st' := [.int (1 : Int32), .ref (q0 + 1), .long (0 : Int64), .long ((m2).toInt64)]) rfl ?_
    obtain ⟨v_2308, e_2308, e⟩ := Option.bind_eq_some_iff.mp e
    obtain ⟨z_2308, g_2308, p_2308⟩ := rp_aI hR (T12_1 t0) (T12_1l t0) L32_1 e_2308
    refine Rn.hp hT rfl rfl (aI_hp g_2308) ?_
    refine Rn.n hT 3 (pc' := 30) (L' := [some (.ref q0), some (.int m1), some (.int m2)]) (st' := [.long (((z_2308 - (1 : Int32))).toInt64), .long (0 : Int64), .long ((m2).toInt64)]) rfl ?_
    obtain ⟨v_2309, e_2309, e⟩ := Option.bind_eq_some_iff.mp e
    refine Rn.call hT rfl rfl rfl (Nat.le_of_ble_eq_true rfl) rfl (RX12_in (by omega) hR (ti_j p2) L64_0 (ti_j (ti_sub p_2308 L32_1)) e_2309 (fun z_2309 p_2309 => ?_))
    show Rn d _ _ 33 [some (.ref q0), some (.int m1), some (.int m2)] [.int z_2309] h Q
    by_cases c_2310 : v_2309 = 0
    · rw [if_pos c_2310] at e
      refine Rn.bt hT rfl rfl rfl (decide_eq_true ((ti_e p_2309 L32_0).mpr c_2310)) ?_
      exact Rn.weak (ll_n (ll_n (ll_n ll_e))) (RX12_isCell_b40 hd hR hq e)
    · rw [if_neg c_2310] at e
      refine Rn.bf hT rfl rfl rfl (decide_eq_false (fun z => c_2310 ((ti_e p_2309 L32_0).mp z))) ?_
      refine Rn.n hT 2 (pc' := 41) (L' := [some (.ref q0), some (.int m1), some (.int m2)]) (st' := [.int (1 : Int32)]) rfl ?_
      exact Rn.weak (ll_n (ll_n (ll_n ll_e))) (RX12_isCell_b41 hd hR L32_1 hq e)
set_option maxRecDepth 10000 in
theorem hX12_isFloor : iv_Tb 195 tX12_isFloor := iv_tb_of (m := mX12_isFloor) rfl
set_option maxRecDepth 10000 in
theorem gX12_isFloor : PG.2 195 = some mX12_isFloor := iv_pi_of (t := tX12_isFloor) rfl (by decide)
def FX12_isFloor (N : Nat) (s : iv_M) (q0 : Nat) (x1 : Int) : Option (Int) := ((FX12_isCell N s q0 (Int.tmod x1 4) (dv32 x1 4)).bind fun v_2312 => (if v_2312 = 0 ∨ v_2312 = 1 then some v_2312 else none))
set_option maxRecDepth 10000 in
set_option maxHeartbeats 4000000 in
theorem RX12_isFloor {d N nc Ls : Nat} {Xs : Nat → Int32} (hd : 3 ≤ d) {h : iv_H} {s : iv_M} (hR : Rep nc Ls Xs h s) {q0 : Nat} (t0 : T12 nc q0) {m1 : Int32} {x1 : Int} (p1 : m1.toInt = x1) {r : Int} {Q : Option Value → iv_H → Prop} (e : FX12_isFloor N s q0 x1 = some r) (hq : ∀ (z : Int32), z.toInt = r → Q (some (.int z)) h) : Cl d 195 [.ref q0, .int m1] h Q := by
  obtain ⟨d, rfl⟩ : ∃ k, d = k + 1 := ⟨d - 1, by omega⟩
  have hd : 2 ≤ d := by omega
  have hT := hX12_isFloor
  unfold FX12_isFloor at e
  refine Cl.into (by decide) gX12_isFloor rfl ?_
  show Rn d 195 (some .boolean) 0 [some (.ref q0), some (.int m1)] [] h Q
  refine Rn.n hT 7 (pc' := 7) (L' := [some (.ref q0), some (.int m1)]) (st' := [.int (m1 / (4 : Int32)), .int (m1 - m1 / (4 : Int32) * (4 : Int32)), .ref q0]) rfl ?_
  obtain ⟨v_2312, e_2312, e⟩ := Option.bind_eq_some_iff.mp e
  refine Rn.call hT rfl rfl rfl (Nat.le_of_ble_eq_true rfl) (rcv_v gX12_isCell (by omega) (rp_ck hR (T12_o t0))) (RX12_isCell (by omega) hR t0 (ti_rem p1 L32_4) (ti_div p1 L32_4) e_2312 (fun z_2312 p_2312 => ?_))
  show Rn d _ _ 10 [some (.ref q0), some (.int m1)] [.int z_2312] h Q
  by_cases c_2313 : v_2312 = 0 ∨ v_2312 = 1
  · rw [if_pos c_2313] at e
    obtain rfl := Option.some.inj e
    exact Rn.ret hT rfl rfl (if_pos (ti_b p_2312 c_2313)) (hq z_2312 p_2312)
  · rw [if_neg c_2313] at e
    cases e
set_option maxRecDepth 10000 in
theorem hX12_isRoom : iv_Tb 196 tX12_isRoom := iv_tb_of (m := mX12_isRoom) rfl
set_option maxRecDepth 10000 in
theorem gX12_isRoom : PG.2 196 = some mX12_isRoom := iv_pi_of (t := tX12_isRoom) rfl (by decide)
def FX12_isRoom (N : Nat) (s : iv_M) (q0 : Nat) (x1 : Int) : Option (Int) := ((rd s (q0 + 1) 14 2).bind fun v_2314 => ((FX12_in N s x1 0 (w32 (v_2314 - 1))).bind fun v_2315 => (if v_2315 = 0 ∨ v_2315 = 1 then some v_2315 else none)))
set_option maxRecDepth 10000 in
set_option maxHeartbeats 4000000 in
theorem RX12_isRoom {d N nc Ls : Nat} {Xs : Nat → Int32} (hd : 2 ≤ d) {h : iv_H} {s : iv_M} (hR : Rep nc Ls Xs h s) {q0 : Nat} (t0 : T12 nc q0) {m1 : Int32} {x1 : Int} (p1 : m1.toInt = x1) {r : Int} {Q : Option Value → iv_H → Prop} (e : FX12_isRoom N s q0 x1 = some r) (hq : ∀ (z : Int32), z.toInt = r → Q (some (.int z)) h) : Cl d 196 [.ref q0, .int m1] h Q := by
  obtain ⟨d, rfl⟩ : ∃ k, d = k + 1 := ⟨d - 1, by omega⟩
  have hd : 1 ≤ d := by omega
  have hT := hX12_isRoom
  unfold FX12_isRoom at e
  refine Cl.into (by decide) gX12_isRoom rfl ?_
  show Rn d 196 (some .boolean) 0 [some (.ref q0), some (.int m1)] [] h Q
  refine Rn.n hT 4 (pc' := 4) (L' := [some (.ref q0), some (.int m1)]) (st' := [.ref q0, .long (0 : Int64), .long ((m1).toInt64)]) rfl ?_
  refine Rn.hp hT rfl rfl (gR_hp (rp_gR hR (T12_o t0) rfl)) ?_
  refine Rn.n hT 1 (pc' := 8) (L' := [some (.ref q0), some (.int m1)]) (st' := [.int (2 : Int32), .ref (q0 + 1), .long (0 : Int64), .long ((m1).toInt64)]) rfl ?_
  obtain ⟨v_2314, e_2314, e⟩ := Option.bind_eq_some_iff.mp e
  obtain ⟨z_2314, g_2314, p_2314⟩ := rp_aI hR (T12_1 t0) (T12_1l t0) L32_2 e_2314
  refine Rn.hp hT rfl rfl (aI_hp g_2314) ?_
  refine Rn.n hT 3 (pc' := 12) (L' := [some (.ref q0), some (.int m1)]) (st' := [.long (((z_2314 - (1 : Int32))).toInt64), .long (0 : Int64), .long ((m1).toInt64)]) rfl ?_
  obtain ⟨v_2315, e_2315, e⟩ := Option.bind_eq_some_iff.mp e
  refine Rn.call hT rfl rfl rfl (Nat.le_of_ble_eq_true rfl) rfl (RX12_in (by omega) hR (ti_j p1) L64_0 (ti_j (ti_sub p_2314 L32_1)) e_2315 (fun z_2315 p_2315 => ?_))
  show Rn d _ _ 15 [some (.ref q0), some (.int m1)] [.int z_2315] h Q
  by_cases c_2316 : v_2315 = 0 ∨ v_2315 = 1
  · rw [if_pos c_2316] at e
    obtain rfl := Option.some.inj e
    exact Rn.ret hT rfl rfl (if_pos (ti_b p_2315 c_2316)) (hq z_2315 p_2315)
  · rw [if_neg c_2316] at e
    cases e
set_option maxRecDepth 10000 in
theorem hX12_isPerson : iv_Tb 197 tX12_isPerson := iv_tb_of (m := mX12_isPerson) rfl
set_option maxRecDepth 10000 in
theorem gX12_isPerson : PG.2 197 = some mX12_isPerson := iv_pi_of (t := tX12_isPerson) rfl (by decide)
def FX12_isPerson (N : Nat) (s : iv_M) (q0 : Nat) (x1 : Int) : Option (Int) := ((rd s (q0 + 1) 14 3).bind fun v_2317 => ((FX12_in N s x1 0 (w32 (v_2317 - 1))).bind fun v_2318 => (if v_2318 = 0 ∨ v_2318 = 1 then some v_2318 else none)))
set_option maxRecDepth 10000 in
set_option maxHeartbeats 4000000 in
theorem RX12_isPerson {d N nc Ls : Nat} {Xs : Nat → Int32} (hd : 2 ≤ d) {h : iv_H} {s : iv_M} (hR : Rep nc Ls Xs h s) {q0 : Nat} (t0 : T12 nc q0) {m1 : Int32} {x1 : Int} (p1 : m1.toInt = x1) {r : Int} {Q : Option Value → iv_H → Prop} (e : FX12_isPerson N s q0 x1 = some r) (hq : ∀ (z : Int32), z.toInt = r → Q (some (.int z)) h) : Cl d 197 [.ref q0, .int m1] h Q := by
  obtain ⟨d, rfl⟩ : ∃ k, d = k + 1 := ⟨d - 1, by omega⟩
  have hd : 1 ≤ d := by omega
  have hT := hX12_isPerson
  unfold FX12_isPerson at e
  refine Cl.into (by decide) gX12_isPerson rfl ?_
  show Rn d 197 (some .boolean) 0 [some (.ref q0), some (.int m1)] [] h Q
  refine Rn.n hT 4 (pc' := 4) (L' := [some (.ref q0), some (.int m1)]) (st' := [.ref q0, .long (0 : Int64), .long ((m1).toInt64)]) rfl ?_
  refine Rn.hp hT rfl rfl (gR_hp (rp_gR hR (T12_o t0) rfl)) ?_
  refine Rn.n hT 1 (pc' := 8) (L' := [some (.ref q0), some (.int m1)]) (st' := [.int (3 : Int32), .ref (q0 + 1), .long (0 : Int64), .long ((m1).toInt64)]) rfl ?_
  obtain ⟨v_2317, e_2317, e⟩ := Option.bind_eq_some_iff.mp e
  obtain ⟨z_2317, g_2317, p_2317⟩ := rp_aI hR (T12_1 t0) (T12_1l t0) L32_3 e_2317
  refine Rn.hp hT rfl rfl (aI_hp g_2317) ?_
  refine Rn.n hT 3 (pc' := 12) (L' := [some (.ref q0), some (.int m1)]) (st' := [.long (((z_2317 - (1 : Int32))).toInt64), .long (0 : Int64), .long ((m1).toInt64)]) rfl ?_
  obtain ⟨v_2318, e_2318, e⟩ := Option.bind_eq_some_iff.mp e
  refine Rn.call hT rfl rfl rfl (Nat.le_of_ble_eq_true rfl) rfl (RX12_in (by omega) hR (ti_j p1) L64_0 (ti_j (ti_sub p_2317 L32_1)) e_2318 (fun z_2318 p_2318 => ?_))
  show Rn d _ _ 15 [some (.ref q0), some (.int m1)] [.int z_2318] h Q
  by_cases c_2319 : v_2318 = 0 ∨ v_2318 = 1
  · rw [if_pos c_2319] at e
    obtain rfl := Option.some.inj e
    exact Rn.ret hT rfl rfl (if_pos (ti_b p_2318 c_2319)) (hq z_2318 p_2318)
  · rw [if_neg c_2319] at e
    cases e
set_option maxRecDepth 10000 in
theorem hX12_by : iv_Tb 198 tX12_by := iv_tb_of (m := mX12_by) rfl
set_option maxRecDepth 10000 in
theorem gX12_by : PG.2 198 = some mX12_by := iv_pi_of (t := tX12_by) rfl (by decide)
def FX12_by_b68 (N : Nat) (s : iv_M)  (xs0 : Int) : Option (Int) := (some xs0)
set_option maxRecDepth 10000 in
set_option maxHeartbeats 4000000 in
theorem RX12_by_b68 {d N nc Ls : Nat} {Xs : Nat → Int32} (hd : 2 ≤ d) {h : iv_H} {s : iv_M} (hR : Rep nc Ls Xs h s)  {ms0 : Int32} {xs0 : Int} (ps0 : ms0.toInt = xs0) {r : Int} {Q : Option Value → iv_H → Prop} (hq : ∀ (z : Int32), z.toInt = r → Q (some (.int z)) h) (e : FX12_by_b68 N s  xs0 = some r) : Rn d 198 (some .int) 68 [none, none, none, none, none] [.int ms0] h Q := by
  have hT := hX12_by
  unfold FX12_by_b68 at e
  obtain rfl := Option.some.inj e
  exact Rn.ret hT rfl rfl rfl (hq ms0 ps0)
def FX12_by_b45 (N : Nat) (s : iv_M) (q0 : Nat) (x3 : Int) (xs0 : Int) (xs1 : Int) : Option (Int) := ((FX12_isCell N s q0 x3 (w32 (xs1 + xs0))).bind fun v_2324 => (if v_2324 = 0 then (FX12_by_b68 N s (-1)) else (FX12_by_b68 N s (w32 ((w32 (4 * (w32 (xs1 + xs0)))) + x3)))))
set_option maxRecDepth 10000 in
set_option maxHeartbeats 4000000 in
theorem RX12_by_b45 {d N nc Ls : Nat} {Xs : Nat → Int32} (hd : 2 ≤ d) {h : iv_H} {s : iv_M} (hR : Rep nc Ls Xs h s) {q0 : Nat} (t0 : T12 nc q0) {m3 : Int32} {x3 : Int} (p3 : m3.toInt = x3) {ms0 : Int32} {xs0 : Int} (ps0 : ms0.toInt = xs0) {ms1 : Int32} {xs1 : Int} (ps1 : ms1.toInt = xs1) {r : Int} {Q : Option Value → iv_H → Prop} (hq : ∀ (z : Int32), z.toInt = r → Q (some (.int z)) h) (e : FX12_by_b45 N s q0 x3 xs0 xs1 = some r) : Rn d 198 (some .int) 45 [some (.ref q0), none, none, some (.int m3), none] [.int ms0, .int ms1] h Q := by
  have hT := hX12_by
  unfold FX12_by_b45 at e
  refine Rn.n hT 5 (pc' := 52) (L' := [some (.ref q0), none, none, some (.int m3), some (.int (ms1 + ms0))]) (st' := [.int (ms1 + ms0), .int m3, .ref q0]) rfl ?_
  obtain ⟨v_2324, e_2324, e⟩ := Option.bind_eq_some_iff.mp e
  refine Rn.call hT rfl rfl rfl (Nat.le_of_ble_eq_true rfl) (rcv_v gX12_isCell (by omega) (rp_ck hR (T12_o t0))) (RX12_isCell (by omega) hR t0 p3 (ti_add ps1 ps0) e_2324 (fun z_2324 p_2324 => ?_))
  show Rn d _ _ 55 [some (.ref q0), none, none, some (.int m3), some (.int (ms1 + ms0))] [.int z_2324] h Q
  by_cases c_2325 : v_2324 = 0
  · rw [if_pos c_2325] at e
    refine Rn.bt hT rfl rfl rfl (decide_eq_true ((ti_e p_2324 L32_0).mpr c_2325)) ?_
    refine Rn.n hT 1 (pc' := 68) (L' := [some (.ref q0), none, none, some (.int m3), some (.int (ms1 + ms0))]) (st' := [.int (-1 : Int32)]) rfl ?_
    exact Rn.weak (ll_n (ll_n (ll_n (ll_n (ll_n ll_e))))) (RX12_by_b68 hd hR L32_m1 hq e)
  · rw [if_neg c_2325] at e
    refine Rn.bf hT rfl rfl rfl (decide_eq_false (fun z => c_2325 ((ti_e p_2324 L32_0).mp z))) ?_
    refine Rn.n hT 6 (pc' := 68) (L' := [some (.ref q0), none, none, some (.int m3), some (.int (ms1 + ms0))]) (st' := [.int (((4 : Int32) * (ms1 + ms0)) + m3)]) rfl ?_
    exact Rn.weak (ll_n (ll_n (ll_n (ll_n (ll_n ll_e))))) (RX12_by_b68 hd hR (ti_add (ti_mul L32_4 (ti_add ps1 ps0)) p3) hq e)
def FX12_by_b22 (N : Nat) (s : iv_M) (q0 : Nat) (x1 : Int) (x2 : Int) (xs0 : Int) (xs1 : Int) : Option (Int) := (if x2 = 2 then (FX12_by_b45 N s q0 (w32 (xs1 + xs0)) 1 (dv32 x1 4)) else (if x2 = 0 then (FX12_by_b45 N s q0 (w32 (xs1 + xs0)) (-1) (dv32 x1 4)) else (FX12_by_b45 N s q0 (w32 (xs1 + xs0)) 0 (dv32 x1 4))))
set_option maxRecDepth 10000 in
set_option maxHeartbeats 4000000 in
theorem RX12_by_b22 {d N nc Ls : Nat} {Xs : Nat → Int32} (hd : 2 ≤ d) {h : iv_H} {s : iv_M} (hR : Rep nc Ls Xs h s) {q0 : Nat} (t0 : T12 nc q0) {m1 : Int32} {x1 : Int} (p1 : m1.toInt = x1) {m2 : Int32} {x2 : Int} (p2 : m2.toInt = x2) {ms0 : Int32} {xs0 : Int} (ps0 : ms0.toInt = xs0) {ms1 : Int32} {xs1 : Int} (ps1 : ms1.toInt = xs1) {r : Int} {Q : Option Value → iv_H → Prop} (hq : ∀ (z : Int32), z.toInt = r → Q (some (.int z)) h) (e : FX12_by_b22 N s q0 x1 x2 xs0 xs1 = some r) : Rn d 198 (some .int) 22 [some (.ref q0), some (.int m1), some (.int m2), none, none] [.int ms0, .int ms1] h Q := by
  have hT := hX12_by
  unfold FX12_by_b22 at e
  refine Rn.n hT 7 (pc' := 29) (L' := [some (.ref q0), some (.int m1), some (.int m2), some (.int (ms1 + ms0)), none]) (st' := [.int (2 : Int32), .int m2, .int (m1 / (4 : Int32))]) rfl ?_
  by_cases c_2322 : x2 = 2
  · rw [if_pos c_2322] at e
    refine Rn.bf hT rfl rfl rfl (decide_eq_false (fun z => z ((ti_e p2 L32_2).mpr c_2322))) ?_
    refine Rn.n hT 2 (pc' := 45) (L' := [some (.ref q0), some (.int m1), some (.int m2), some (.int (ms1 + ms0)), none]) (st' := [.int (1 : Int32), .int (m1 / (4 : Int32))]) rfl ?_
    exact Rn.weak (ll_s (ll_n (ll_n (ll_s (ll_n ll_e))))) (RX12_by_b45 hd hR t0 (ti_add ps1 ps0) L32_1 (ti_div p1 L32_4) hq e)
  · rw [if_neg c_2322] at e
    refine Rn.bt hT rfl rfl rfl (decide_eq_true (fun z => c_2322 ((ti_e p2 L32_2).mp z))) ?_
    refine Rn.n hT 1 (pc' := 37) (L' := [some (.ref q0), some (.int m1), some (.int m2), some (.int (ms1 + ms0)), none]) (st' := [.int m2, .int (m1 / (4 : Int32))]) rfl ?_
    by_cases c_2323 : x2 = 0
    · rw [if_pos c_2323] at e
      refine Rn.bf hT rfl rfl rfl (decide_eq_false (fun z => z ((ti_e p2 L32_0).mpr c_2323))) ?_
      refine Rn.n hT 2 (pc' := 45) (L' := [some (.ref q0), some (.int m1), some (.int m2), some (.int (ms1 + ms0)), none]) (st' := [.int (-1 : Int32), .int (m1 / (4 : Int32))]) rfl ?_
      exact Rn.weak (ll_s (ll_n (ll_n (ll_s (ll_n ll_e))))) (RX12_by_b45 hd hR t0 (ti_add ps1 ps0) L32_m1 (ti_div p1 L32_4) hq e)
    · rw [if_neg c_2323] at e
      refine Rn.bt hT rfl rfl rfl (decide_eq_true (fun z => c_2323 ((ti_e p2 L32_0).mp z))) ?_
      refine Rn.n hT 1 (pc' := 45) (L' := [some (.ref q0), some (.int m1), some (.int m2), some (.int (ms1 + ms0)), none]) (st' := [.int (0 : Int32), .int (m1 / (4 : Int32))]) rfl ?_
      exact Rn.weak (ll_s (ll_n (ll_n (ll_s (ll_n ll_e))))) (RX12_by_b45 hd hR t0 (ti_add ps1 ps0) L32_0 (ti_div p1 L32_4) hq e)
def FX12_by (N : Nat) (s : iv_M) (q0 : Nat) (x1 : Int) (x2 : Int) : Option (Int) := (if x2 = 1 then (FX12_by_b22 N s q0 x1 x2 1 (Int.tmod x1 4)) else (if x2 = 3 then (FX12_by_b22 N s q0 x1 x2 (-1) (Int.tmod x1 4)) else (FX12_by_b22 N s q0 x1 x2 0 (Int.tmod x1 4))))
set_option maxRecDepth 10000 in
set_option maxHeartbeats 4000000 in
theorem RX12_by {d N nc Ls : Nat} {Xs : Nat → Int32} (hd : 3 ≤ d) {h : iv_H} {s : iv_M} (hR : Rep nc Ls Xs h s) {q0 : Nat} (t0 : T12 nc q0) {m1 : Int32} {x1 : Int} (p1 : m1.toInt = x1) {m2 : Int32} {x2 : Int} (p2 : m2.toInt = x2) {r : Int} {Q : Option Value → iv_H → Prop} (e : FX12_by N s q0 x1 x2 = some r) (hq : ∀ (z : Int32), z.toInt = r → Q (some (.int z)) h) : Cl d 198 [.ref q0, .int m1, .int m2] h Q := by
  obtain ⟨d, rfl⟩ : ∃ k, d = k + 1 := ⟨d - 1, by omega⟩
  have hd : 2 ≤ d := by omega
  have hT := hX12_by
  unfold FX12_by at e
  refine Cl.into (by decide) gX12_by rfl ?_
  show Rn d 198 (some .int) 0 [some (.ref q0), some (.int m1), some (.int m2), none, none] [] h Q
  refine Rn.n hT 5 (pc' := 5) (L' := [some (.ref q0), some (.int m1), some (.int m2), none, none]) (st' := [.int (1 : Int32), .int m2, .int (m1 - m1 / (4 : Int32) * (4 : Int32))]) rfl ?_
  by_cases c_2320 : x2 = 1
  · rw [if_pos c_2320] at e
    refine Rn.bf hT rfl rfl rfl (decide_eq_false (fun z => z ((ti_e p2 L32_1).mpr c_2320))) ?_
    refine Rn.n hT 2 (pc' := 22) (L' := [some (.ref q0), some (.int m1), some (.int m2), none, none]) (st' := [.int (1 : Int32), .int (m1 - m1 / (4 : Int32) * (4 : Int32))]) rfl ?_
    exact Rn.weak (ll_s (ll_s (ll_s (ll_n (ll_n ll_e))))) (RX12_by_b22 hd hR t0 p1 p2 L32_1 (ti_rem p1 L32_4) hq e)
  · rw [if_neg c_2320] at e
    refine Rn.bt hT rfl rfl rfl (decide_eq_true (fun z => c_2320 ((ti_e p2 L32_1).mp z))) ?_
    refine Rn.n hT 2 (pc' := 14) (L' := [some (.ref q0), some (.int m1), some (.int m2), none, none]) (st' := [.int (3 : Int32), .int m2, .int (m1 - m1 / (4 : Int32) * (4 : Int32))]) rfl ?_
    by_cases c_2321 : x2 = 3
    · rw [if_pos c_2321] at e
      refine Rn.bf hT rfl rfl rfl (decide_eq_false (fun z => z ((ti_e p2 L32_3).mpr c_2321))) ?_
      refine Rn.n hT 2 (pc' := 22) (L' := [some (.ref q0), some (.int m1), some (.int m2), none, none]) (st' := [.int (-1 : Int32), .int (m1 - m1 / (4 : Int32) * (4 : Int32))]) rfl ?_
      exact Rn.weak (ll_s (ll_s (ll_s (ll_n (ll_n ll_e))))) (RX12_by_b22 hd hR t0 p1 p2 L32_m1 (ti_rem p1 L32_4) hq e)
    · rw [if_neg c_2321] at e
      refine Rn.bt hT rfl rfl rfl (decide_eq_true (fun z => c_2321 ((ti_e p2 L32_3).mp z))) ?_
      refine Rn.n hT 1 (pc' := 22) (L' := [some (.ref q0), some (.int m1), some (.int m2), none, none]) (st' := [.int (0 : Int32), .int (m1 - m1 / (4 : Int32) * (4 : Int32))]) rfl ?_
      exact Rn.weak (ll_s (ll_s (ll_s (ll_n (ll_n ll_e))))) (RX12_by_b22 hd hR t0 p1 p2 L32_0 (ti_rem p1 L32_4) hq e)
set_option maxRecDepth 10000 in
theorem hX12_spotOf : iv_Tb 199 tX12_spotOf := iv_tb_of (m := mX12_spotOf) rfl
set_option maxRecDepth 10000 in
theorem gX12_spotOf : PG.2 199 = some mX12_spotOf := iv_pi_of (t := tX12_spotOf) rfl (by decide)
def FX12_spotOf (N : Nat) (s : iv_M) (q0 : Nat) (x1 : Int) (x2 : Int) : Option (Int) := ((rd s (q0 + 4) 12 x1).bind fun v_2326 => (some (w32 ((w32 (4 * x1)) + (bAn (w32 (x2 - v_2326)) 3)))))
set_option maxRecDepth 10000 in
set_option maxHeartbeats 4000000 in
theorem RX12_spotOf {d N nc Ls : Nat} {Xs : Nat → Int32} (hd : 1 ≤ d) {h : iv_H} {s : iv_M} (hR : Rep nc Ls Xs h s) {q0 : Nat} (t0 : T12 nc q0) {m1 : Int32} {x1 : Int} (p1 : m1.toInt = x1) {m2 : Int32} {x2 : Int} (p2 : m2.toInt = x2) {r : Int} {Q : Option Value → iv_H → Prop} (e : FX12_spotOf N s q0 x1 x2 = some r) (hq : ∀ (z : Int32), z.toInt = r → Q (some (.int z)) h) : Cl d 199 [.ref q0, .int m1, .int m2] h Q := by
  obtain ⟨d, rfl⟩ : ∃ k, d = k + 1 := ⟨d - 1, by omega⟩
  have hd : 0 ≤ d := by omega
  have hT := hX12_spotOf
  unfold FX12_spotOf at e
  refine Cl.into (by decide) gX12_spotOf rfl ?_
  show Rn d 199 (some .int) 0 [some (.ref q0), some (.int m1), some (.int m2)] [] h Q
  refine Rn.n hT 5 (pc' := 5) (L' := [some (.ref q0), some (.int m1), some (.int m2)]) (st' := [.ref q0, .int m2, .int ((4 : Int32) * m1)]) rfl ?_
  refine Rn.hp hT rfl rfl (gR_hp (rp_gR hR (T12_o t0) rfl)) ?_
  refine Rn.n hT 1 (pc' := 9) (L' := [some (.ref q0), some (.int m1), some (.int m2)]) (st' := [.int m1, .ref (q0 + 4), .int m2, .int ((4 : Int32) * m1)]) rfl ?_
  obtain ⟨v_2326, e_2326, e⟩ := Option.bind_eq_some_iff.mp e
  obtain ⟨z_2326, g_2326, p_2326⟩ := rp_aI hR (T12_4 t0) (T12_4l t0) p1 e_2326
  refine Rn.hp hT rfl rfl (aI_hp g_2326) ?_
  refine Rn.n hT 4 (pc' := 14) (L' := [some (.ref q0), some (.int m1), some (.int m2)]) (st' := [.int (((4 : Int32) * m1) + ((m2 - z_2326) &&& (3 : Int32)))]) rfl ?_
  obtain rfl := Option.some.inj e
  exact Rn.ret hT rfl rfl rfl (hq (((4 : Int32) * m1) + ((m2 - z_2326) &&& (3 : Int32))) (ti_add (ti_mul L32_4 p1) (ti_and (ti_sub p2 p_2326) L32_3)))
set_option maxRecDepth 10000 in
theorem hX12_sideOf : iv_Tb 200 tX12_sideOf := iv_tb_of (m := mX12_sideOf) rfl
set_option maxRecDepth 10000 in
theorem gX12_sideOf : PG.2 200 = some mX12_sideOf := iv_pi_of (t := tX12_sideOf) rfl (by decide)
def FX12_sideOf (N : Nat) (s : iv_M) (q0 : Nat) (x1 : Int) (x2 : Int) : Option (Int) := ((FX12_spotOf N s q0 x1 x2).bind fun v_2327 => ((rd s (q0 + 2) 48 v_2327).bind fun v_2328 => (some v_2328)))
set_option maxRecDepth 10000 in
set_option maxHeartbeats 4000000 in
theorem RX12_sideOf {d N nc Ls : Nat} {Xs : Nat → Int32} (hd : 2 ≤ d) {h : iv_H} {s : iv_M} (hR : Rep nc Ls Xs h s) {q0 : Nat} (t0 : T12 nc q0) {m1 : Int32} {x1 : Int} (p1 : m1.toInt = x1) {m2 : Int32} {x2 : Int} (p2 : m2.toInt = x2) {r : Int} {Q : Option Value → iv_H → Prop} (e : FX12_sideOf N s q0 x1 x2 = some r) (hq : ∀ (z : Int32), z.toInt = r → Q (some (.int z)) h) : Cl d 200 [.ref q0, .int m1, .int m2] h Q := by
  obtain ⟨d, rfl⟩ : ∃ k, d = k + 1 := ⟨d - 1, by omega⟩
  have hd : 1 ≤ d := by omega
  have hT := hX12_sideOf
  unfold FX12_sideOf at e
  refine Cl.into (by decide) gX12_sideOf rfl ?_
  show Rn d 200 (some .int) 0 [some (.ref q0), some (.int m1), some (.int m2)] [] h Q
  refine Rn.n hT 1 (pc' := 1) (L' := [some (.ref q0), some (.int m1), some (.int m2)]) (st' := [.ref q0]) rfl ?_
  refine Rn.hp hT rfl rfl (gR_hp (rp_gR hR (T12_o t0) rfl)) ?_
  refine Rn.n hT 3 (pc' := 7) (L' := [some (.ref q0), some (.int m1), some (.int m2)]) (st' := [.int m2, .int m1, .ref q0, .ref (q0 + 2)]) rfl ?_
  obtain ⟨v_2327, e_2327, e⟩ := Option.bind_eq_some_iff.mp e
  refine Rn.call hT rfl rfl rfl (Nat.le_of_ble_eq_true rfl) (rcv_v gX12_spotOf (by omega) (rp_ck hR (T12_o t0))) (RX12_spotOf (by omega) hR t0 p1 p2 e_2327 (fun z_2327 p_2327 => ?_))
  show Rn d _ _ 10 [some (.ref q0), some (.int m1), some (.int m2)] [.int z_2327, .ref (q0 + 2)] h Q
  obtain ⟨v_2328, e_2328, e⟩ := Option.bind_eq_some_iff.mp e
  obtain ⟨z_2328, g_2328, p_2328⟩ := rp_aI hR (T12_2 t0) (T12_2l t0) p_2327 e_2328
  refine Rn.hp hT rfl rfl (aI_hp g_2328) ?_
  obtain rfl := Option.some.inj e
  exact Rn.ret hT rfl rfl rfl (hq z_2328 p_2328)
set_option maxRecDepth 10000 in
theorem hX12_sortOf : iv_Tb 201 tX12_sortOf := iv_tb_of (m := mX12_sortOf) rfl
set_option maxRecDepth 10000 in
theorem gX12_sortOf : PG.2 201 = some mX12_sortOf := iv_pi_of (t := tX12_sortOf) rfl (by decide)
def FX12_sortOf_b10 (N : Nat) (s : iv_M)  (xs0 : Int) : Option (Int) := (some xs0)
set_option maxRecDepth 10000 in
set_option maxHeartbeats 4000000 in
theorem RX12_sortOf_b10 {d N nc Ls : Nat} {Xs : Nat → Int32} (hd : 0 ≤ d) {h : iv_H} {s : iv_M} (hR : Rep nc Ls Xs h s)  {ms0 : Int32} {xs0 : Int} (ps0 : ms0.toInt = xs0) {r : Int} {Q : Option Value → iv_H → Prop} (hq : ∀ (z : Int32), z.toInt = r → Q (some (.int z)) h) (e : FX12_sortOf_b10 N s  xs0 = some r) : Rn d 201 (some .int) 10 [none] [.int ms0] h Q := by
  have hT := hX12_sortOf
  unfold FX12_sortOf_b10 at e
  obtain rfl := Option.some.inj e
  exact Rn.ret hT rfl rfl rfl (hq ms0 ps0)
def FX12_sortOf (N : Nat) (s : iv_M) (x0 : Int) : Option (Int) := (if x0 < 3 then (FX12_sortOf_b10 N s x0) else (FX12_sortOf_b10 N s 1))
set_option maxRecDepth 10000 in
set_option maxHeartbeats 4000000 in
theorem RX12_sortOf {d N nc Ls : Nat} {Xs : Nat → Int32} (hd : 1 ≤ d) {h : iv_H} {s : iv_M} (hR : Rep nc Ls Xs h s) {m0 : Int32} {x0 : Int} (p0 : m0.toInt = x0) {r : Int} {Q : Option Value → iv_H → Prop} (e : FX12_sortOf N s x0 = some r) (hq : ∀ (z : Int32), z.toInt = r → Q (some (.int z)) h) : Cl d 201 [.int m0] h Q := by
  obtain ⟨d, rfl⟩ : ∃ k, d = k + 1 := ⟨d - 1, by omega⟩
  have hd : 0 ≤ d := by omega
  have hT := hX12_sortOf
  unfold FX12_sortOf at e
  refine Cl.into (by decide) gX12_sortOf rfl ?_
  show Rn d 201 (some .int) 0 [some (.int m0)] [] h Q
  refine Rn.n hT 2 (pc' := 2) (L' := [some (.int m0)]) (st' := [.int (3 : Int32), .int m0]) rfl ?_
  by_cases c_2329 : x0 < 3
  · rw [if_pos c_2329] at e
    refine Rn.bt hT rfl rfl rfl (decide_eq_true ((ti_l p0 L32_3).mpr c_2329)) ?_
    refine Rn.n hT 1 (pc' := 10) (L' := [some (.int m0)]) (st' := [.int m0]) rfl ?_
    exact Rn.weak (ll_n ll_e) (RX12_sortOf_b10 hd hR p0 hq e)
  · rw [if_neg c_2329] at e
    refine Rn.bf hT rfl rfl rfl (decide_eq_false (fun z => c_2329 ((ti_l p0 L32_3).mp z))) ?_
    refine Rn.n hT 2 (pc' := 10) (L' := [some (.int m0)]) (st' := [.int (1 : Int32)]) rfl ?_
    exact Rn.weak (ll_n ll_e) (RX12_sortOf_b10 hd hR L32_1 hq e)
set_option maxRecDepth 10000 in
theorem hX12_sortAt : iv_Tb 202 tX12_sortAt := iv_tb_of (m := mX12_sortAt) rfl
set_option maxRecDepth 10000 in
theorem gX12_sortAt : PG.2 202 = some mX12_sortAt := iv_pi_of (t := tX12_sortAt) rfl (by decide)
def FX12_sortAt (N : Nat) (s : iv_M) (q0 : Nat) (x1 : Int) (x2 : Int) : Option (Int) := ((FX12_sideOf N s q0 x1 x2).bind fun v_2330 => ((FX12_sortOf N s v_2330).bind fun v_2331 => (some v_2331)))
set_option maxRecDepth 10000 in
set_option maxHeartbeats 4000000 in
theorem RX12_sortAt {d N nc Ls : Nat} {Xs : Nat → Int32} (hd : 3 ≤ d) {h : iv_H} {s : iv_M} (hR : Rep nc Ls Xs h s) {q0 : Nat} (t0 : T12 nc q0) {m1 : Int32} {x1 : Int} (p1 : m1.toInt = x1) {m2 : Int32} {x2 : Int} (p2 : m2.toInt = x2) {r : Int} {Q : Option Value → iv_H → Prop} (e : FX12_sortAt N s q0 x1 x2 = some r) (hq : ∀ (z : Int32), z.toInt = r → Q (some (.int z)) h) : Cl d 202 [.ref q0, .int m1, .int m2] h Q := by
  obtain ⟨d, rfl⟩ : ∃ k, d = k + 1 := ⟨d - 1, by omega⟩
  have hd : 2 ≤ d := by omega
  have hT := hX12_sortAt
  unfold FX12_sortAt at e
  refine Cl.into (by decide) gX12_sortAt rfl ?_
  show Rn d 202 (some .int) 0 [some (.ref q0), some (.int m1), some (.int m2)] [] h Q
  refine Rn.n hT 3 (pc' := 3) (L' := [some (.ref q0), some (.int m1), some (.int m2)]) (st' := [.int m2, .int m1, .ref q0]) rfl ?_
  obtain ⟨v_2330, e_2330, e⟩ := Option.bind_eq_some_iff.mp e
  refine Rn.call hT rfl rfl rfl (Nat.le_of_ble_eq_true rfl) (rcv_v gX12_sideOf (by omega) (rp_ck hR (T12_o t0))) (RX12_sideOf (by omega) hR t0 p1 p2 e_2330 (fun z_2330 p_2330 => ?_))
  show Rn d _ _ 6 [some (.ref q0), some (.int m1), some (.int m2)] [.int z_2330] h Q
  obtain ⟨v_2331, e_2331, e⟩ := Option.bind_eq_some_iff.mp e
  refine Rn.call hT rfl rfl rfl (Nat.le_of_ble_eq_true rfl) rfl (RX12_sortOf (by omega) hR p_2330 e_2331 (fun z_2331 p_2331 => ?_))
  show Rn d _ _ 9 [some (.ref q0), some (.int m1), some (.int m2)] [.int z_2331] h Q
  obtain rfl := Option.some.inj e
  exact Rn.ret hT rfl rfl rfl (hq z_2331 p_2331)
set_option maxRecDepth 10000 in
theorem hX12_faced : iv_Tb 203 tX12_faced := iv_tb_of (m := mX12_faced) rfl
set_option maxRecDepth 10000 in
theorem gX12_faced : PG.2 203 = some mX12_faced := iv_pi_of (t := tX12_faced) rfl (by decide)
def FX12_faced_b27 (N : Nat) (s : iv_M)  (xs0 : Int) : Option (Int) := (some xs0)
set_option maxRecDepth 10000 in
set_option maxHeartbeats 4000000 in
theorem RX12_faced_b27 {d N nc Ls : Nat} {Xs : Nat → Int32} (hd : 3 ≤ d) {h : iv_H} {s : iv_M} (hR : Rep nc Ls Xs h s)  {ms0 : Int32} {xs0 : Int} (ps0 : ms0.toInt = xs0) {r : Int} {Q : Option Value → iv_H → Prop} (hq : ∀ (z : Int32), z.toInt = r → Q (some (.int z)) h) (e : FX12_faced_b27 N s  xs0 = some r) : Rn d 203 (some .int) 27 [none, none, none, none] [.int ms0] h Q := by
  have hT := hX12_faced
  unfold FX12_faced_b27 at e
  obtain rfl := Option.some.inj e
  exact Rn.ret hT rfl rfl rfl (hq ms0 ps0)
def FX12_faced (N : Nat) (s : iv_M) (q0 : Nat) (x1 : Int) (x2 : Int) : Option (Int) := ((rd s (q0 + 3) 12 x1).bind fun v_2332 => ((FX12_by N s q0 v_2332 x2).bind fun v_2333 => (if v_2333 = (-1) then (FX12_faced_b27 N s (-1)) else ((rd s (q0 + 8) 16 v_2333).bind fun v_2335 => (FX12_faced_b27 N s v_2335)))))
set_option maxRecDepth 10000 in
set_option maxHeartbeats 4000000 in
theorem RX12_faced {d N nc Ls : Nat} {Xs : Nat → Int32} (hd : 4 ≤ d) {h : iv_H} {s : iv_M} (hR : Rep nc Ls Xs h s) {q0 : Nat} (t0 : T12 nc q0) {m1 : Int32} {x1 : Int} (p1 : m1.toInt = x1) {m2 : Int32} {x2 : Int} (p2 : m2.toInt = x2) {r : Int} {Q : Option Value → iv_H → Prop} (e : FX12_faced N s q0 x1 x2 = some r) (hq : ∀ (z : Int32), z.toInt = r → Q (some (.int z)) h) : Cl d 203 [.ref q0, .int m1, .int m2] h Q := by
  obtain ⟨d, rfl⟩ : ∃ k, d = k + 1 := ⟨d - 1, by omega⟩
  have hd : 3 ≤ d := by omega
  have hT := hX12_faced
  unfold FX12_faced at e
  refine Cl.into (by decide) gX12_faced rfl ?_
  show Rn d 203 (some .int) 0 [some (.ref q0), some (.int m1), some (.int m2), none] [] h Q
  refine Rn.n hT 2 (pc' := 2) (L' := [some (.ref q0), some (.int m1), some (.int m2), none]) (st' := [.ref q0, .ref q0]) rfl ?_
  refine Rn.hp hT rfl rfl (gR_hp (rp_gR hR (T12_o t0) rfl)) ?_
  refine Rn.n hT 1 (pc' := 6) (L' := [some (.ref q0), some (.int m1), some (.int m2), none]) (st' := [.int m1, .ref (q0 + 3), .ref q0]) rfl ?_
  obtain ⟨v_2332, e_2332, e⟩ := Option.bind_eq_some_iff.mp e
  obtain ⟨z_2332, g_2332, p_2332⟩ := rp_aI hR (T12_3 t0) (T12_3l t0) p1 e_2332
  refine Rn.hp hT rfl rfl (aI_hp g_2332) ?_
  refine Rn.n hT 1 (pc' := 8) (L' := [some (.ref q0), some (.int m1), some (.int m2), none]) (st' := [.int m2, .int z_2332, .ref q0]) rfl ?_
  obtain ⟨v_2333, e_2333, e⟩ := Option.bind_eq_some_iff.mp e
  refine Rn.call hT rfl rfl rfl (Nat.le_of_ble_eq_true rfl) (rcv_v gX12_by (by omega) (rp_ck hR (T12_o t0))) (RX12_by (by omega) hR t0 p_2332 p2 e_2333 (fun z_2333 p_2333 => ?_))
  show Rn d _ _ 11 [some (.ref q0), some (.int m1), some (.int m2), none] [.int z_2333] h Q
  refine Rn.n hT 3 (pc' := 14) (L' := [some (.ref q0), some (.int m1), some (.int m2), some (.int z_2333)]) (st' := [.int (-1 : Int32), .int z_2333]) rfl ?_
  by_cases c_2334 : v_2333 = (-1)
  · rw [if_pos c_2334] at e
    refine Rn.bf hT rfl rfl rfl (decide_eq_false (fun z => z ((ti_e p_2333 L32_m1).mpr c_2334))) ?_
    refine Rn.n hT 2 (pc' := 27) (L' := [some (.ref q0), some (.int m1), some (.int m2), some (.int z_2333)]) (st' := [.int (-1 : Int32)]) rfl ?_
    exact Rn.weak (ll_n (ll_n (ll_n (ll_n ll_e)))) (RX12_faced_b27 hd hR L32_m1 hq e)
  · rw [if_neg c_2334] at e
    refine Rn.bt hT rfl rfl rfl (decide_eq_true (fun z => c_2334 ((ti_e p_2333 L32_m1).mp z))) ?_
    refine Rn.n hT 1 (pc' := 22) (L' := [some (.ref q0), some (.int m1), some (.int m2), some (.int z_2333)]) (st' := [.ref q0]) rfl ?_
    refine Rn.hp hT rfl rfl (gR_hp (rp_gR hR (T12_o t0) rfl)) ?_
    refine Rn.n hT 1 (pc' := 26) (L' := [some (.ref q0), some (.int m1), some (.int m2), some (.int z_2333)]) (st' := [.int z_2333, .ref (q0 + 8)]) rfl ?_
    obtain ⟨v_2335, e_2335, e⟩ := Option.bind_eq_some_iff.mp e
    obtain ⟨z_2335, g_2335, p_2335⟩ := rp_aI hR (T12_8 t0) (T12_8l t0) p_2333 e_2335
    refine Rn.hp hT rfl rfl (aI_hp g_2335) ?_
    exact Rn.weak (ll_n (ll_n (ll_n (ll_n ll_e)))) (RX12_faced_b27 hd hR p_2335 hq e)
set_option maxRecDepth 10000 in
theorem hX12_isDoorToDoor : iv_Tb 204 tX12_isDoorToDoor := iv_tb_of (m := mX12_isDoorToDoor) rfl
set_option maxRecDepth 10000 in
theorem gX12_isDoorToDoor : PG.2 204 = some mX12_isDoorToDoor := iv_pi_of (t := tX12_isDoorToDoor) rfl (by decide)
def FX12_isDoorToDoor_b41 (N : Nat) (s : iv_M)  (xs0 : Int) : Option (Int) := (if xs0 = 0 ∨ xs0 = 1 then some xs0 else none)
set_option maxRecDepth 10000 in
set_option maxHeartbeats 4000000 in
theorem RX12_isDoorToDoor_b41 {d N nc Ls : Nat} {Xs : Nat → Int32} (hd : 4 ≤ d) {h : iv_H} {s : iv_M} (hR : Rep nc Ls Xs h s)  {ms0 : Int32} {xs0 : Int} (ps0 : ms0.toInt = xs0) {r : Int} {Q : Option Value → iv_H → Prop} (hq : ∀ (z : Int32), z.toInt = r → Q (some (.int z)) h) (e : FX12_isDoorToDoor_b41 N s  xs0 = some r) : Rn d 204 (some .boolean) 41 [none, none, none, none] [.int ms0] h Q := by
  have hT := hX12_isDoorToDoor
  unfold FX12_isDoorToDoor_b41 at e
  by_cases c_2342 : xs0 = 0 ∨ xs0 = 1
  · rw [if_pos c_2342] at e
    obtain rfl := Option.some.inj e
    exact Rn.ret hT rfl rfl (if_pos (ti_b ps0 c_2342)) (hq ms0 ps0)
  · rw [if_neg c_2342] at e
    cases e
def FX12_isDoorToDoor_b40 (N : Nat) (s : iv_M)   : Option (Int) := (FX12_isDoorToDoor_b41 N s 0)
set_option maxRecDepth 10000 in
set_option maxHeartbeats 4000000 in
theorem RX12_isDoorToDoor_b40 {d N nc Ls : Nat} {Xs : Nat → Int32} (hd : 4 ≤ d) {h : iv_H} {s : iv_M} (hR : Rep nc Ls Xs h s)   {r : Int} {Q : Option Value → iv_H → Prop} (hq : ∀ (z : Int32), z.toInt = r → Q (some (.int z)) h) (e : FX12_isDoorToDoor_b40 N s   = some r) : Rn d 204 (some .boolean) 40 [none, none, none, none] [] h Q := by
  have hT := hX12_isDoorToDoor
  unfold FX12_isDoorToDoor_b40 at e
  refine Rn.n hT 1 (pc' := 41) (L' := [none, none, none, none]) (st' := [.int (0 : Int32)]) rfl ?_
  exact Rn.weak (ll_n (ll_n (ll_n (ll_n ll_e)))) (RX12_isDoorToDoor_b41 hd hR L32_0 hq e)
def FX12_isDoorToDoor (N : Nat) (s : iv_M) (q0 : Nat) (x1 : Int) (x2 : Int) : Option (Int) := ((FX12_faced N s q0 x1 x2).bind fun v_2336 => (if v_2336 = (-1) then (FX12_isDoorToDoor_b40 N s) else ((FX12_sortAt N s q0 x1 x2).bind fun v_2338 => (if v_2338 = 1 then ((FX12_sortAt N s q0 v_2336 (bAn (w32 (x2 + 2)) 3)).bind fun v_2340 => (if v_2340 = 1 then (FX12_isDoorToDoor_b41 N s 1) else (FX12_isDoorToDoor_b40 N s))) else (FX12_isDoorToDoor_b40 N s)))))
set_option maxRecDepth 10000 in
set_option maxHeartbeats 4000000 in
theorem RX12_isDoorToDoor {d N nc Ls : Nat} {Xs : Nat → Int32} (hd : 5 ≤ d) {h : iv_H} {s : iv_M} (hR : Rep nc Ls Xs h s) {q0 : Nat} (t0 : T12 nc q0) {m1 : Int32} {x1 : Int} (p1 : m1.toInt = x1) {m2 : Int32} {x2 : Int} (p2 : m2.toInt = x2) {r : Int} {Q : Option Value → iv_H → Prop} (e : FX12_isDoorToDoor N s q0 x1 x2 = some r) (hq : ∀ (z : Int32), z.toInt = r → Q (some (.int z)) h) : Cl d 204 [.ref q0, .int m1, .int m2] h Q := by
  obtain ⟨d, rfl⟩ : ∃ k, d = k + 1 := ⟨d - 1, by omega⟩
  have hd : 4 ≤ d := by omega
  have hT := hX12_isDoorToDoor
  unfold FX12_isDoorToDoor at e
  refine Cl.into (by decide) gX12_isDoorToDoor rfl ?_
  show Rn d 204 (some .boolean) 0 [some (.ref q0), some (.int m1), some (.int m2), none] [] h Q
  refine Rn.n hT 3 (pc' := 3) (L' := [some (.ref q0), some (.int m1), some (.int m2), none]) (st' := [.int m2, .int m1, .ref q0]) rfl ?_
  obtain ⟨v_2336, e_2336, e⟩ := Option.bind_eq_some_iff.mp e
  refine Rn.call hT rfl rfl rfl (Nat.le_of_ble_eq_true rfl) (rcv_v gX12_faced (by omega) (rp_ck hR (T12_o t0))) (RX12_faced (by omega) hR t0 p1 p2 e_2336 (fun z_2336 p_2336 => ?_))
  show Rn d _ _ 6 [some (.ref q0), some (.int m1), some (.int m2), none] [.int z_2336] h Q
  refine Rn.n hT 3 (pc' := 9) (L' := [some (.ref q0), some (.int m1), some (.int m2), some (.int z_2336)]) (st' := [.int (-1 : Int32), .int z_2336]) rfl ?_
  by_cases c_2337 : v_2336 = (-1)
  · rw [if_pos c_2337] at e
    refine Rn.bt hT rfl rfl rfl (decide_eq_true ((ti_e p_2336 L32_m1).mpr c_2337)) ?_
    exact Rn.weak (ll_n (ll_n (ll_n (ll_n ll_e)))) (RX12_isDoorToDoor_b40 hd hR hq e)
  · rw [if_neg c_2337] at e
    refine Rn.bf hT rfl rfl rfl (decide_eq_false (fun z => c_2337 ((ti_e p_2336 L32_m1).mp z))) ?_
    refine Rn.n hT 3 (pc' := 15) (L' := [some (.ref q0), some (.int m1), some (.int m2), some (.int z_2336)]) (st' := [.int m2, .int m1, .ref q0]) rfl ?_
    obtain ⟨v_2338, e_2338, e⟩ := Option.bind_eq_some_iff.mp e
    refine Rn.call hT rfl rfl rfl (Nat.le_of_ble_eq_true rfl) (rcv_v gX12_sortAt (by omega) (rp_ck hR (T12_o t0))) (RX12_sortAt (by omega) hR t0 p1 p2 e_2338 (fun z_2338 p_2338 => ?_))
    show Rn d _ _ 18 [some (.ref q0), some (.int m1), some (.int m2), some (.int z_2336)] [.int z_2338] h Q
    refine Rn.n hT 1 (pc' := 19) (L' := [some (.ref q0), some (.int m1), some (.int m2), some (.int z_2336)]) (st' := [.int (1 : Int32), .int z_2338]) rfl ?_
    by_cases c_2339 : v_2338 = 1
    · rw [if_pos c_2339] at e
      refine Rn.bf hT rfl rfl rfl (decide_eq_false (fun z => z ((ti_e p_2338 L32_1).mpr c_2339))) ?_
      refine Rn.n hT 7 (pc' := 29) (L' := [some (.ref q0), some (.int m1), some (.int m2), some (.int z_2336)]) (st' := [.int ((m2 + (2 : Int32)) &&& (3 : Int32)), .int z_2336, .ref q0]) rfl ?_
      obtain ⟨v_2340, e_2340, e⟩ := Option.bind_eq_some_iff.mp e
      refine Rn.call hT rfl rfl rfl (Nat.le_of_ble_eq_true rfl) (rcv_v gX12_sortAt (by omega) (rp_ck hR (T12_o t0))) (RX12_sortAt (by omega) hR t0 p_2336 (ti_and (ti_add p2 L32_2) L32_3) e_2340 (fun z_2340 p_2340 => ?_))
      show Rn d _ _ 32 [some (.ref q0), some (.int m1), some (.int m2), some (.int z_2336)] [.int z_2340] h Q
      refine Rn.n hT 1 (pc' := 33) (L' := [some (.ref q0), some (.int m1), some (.int m2), some (.int z_2336)]) (st' := [.int (1 : Int32), .int z_2340]) rfl ?_
      by_cases c_2341 : v_2340 = 1
      · rw [if_pos c_2341] at e
        refine Rn.bf hT rfl rfl rfl (decide_eq_false (fun z => z ((ti_e p_2340 L32_1).mpr c_2341))) ?_
        refine Rn.n hT 2 (pc' := 41) (L' := [some (.ref q0), some (.int m1), some (.int m2), some (.int z_2336)]) (st' := [.int (1 : Int32)]) rfl ?_
        exact Rn.weak (ll_n (ll_n (ll_n (ll_n ll_e)))) (RX12_isDoorToDoor_b41 hd hR L32_1 hq e)
      · rw [if_neg c_2341] at e
        refine Rn.bt hT rfl rfl rfl (decide_eq_true (fun z => c_2341 ((ti_e p_2340 L32_1).mp z))) ?_
        exact Rn.weak (ll_n (ll_n (ll_n (ll_n ll_e)))) (RX12_isDoorToDoor_b40 hd hR hq e)
    · rw [if_neg c_2339] at e
      refine Rn.bt hT rfl rfl rfl (decide_eq_true (fun z => c_2339 ((ti_e p_2338 L32_1).mp z))) ?_
      exact Rn.weak (ll_n (ll_n (ll_n (ll_n ll_e)))) (RX12_isDoorToDoor_b40 hd hR hq e)
set_option maxRecDepth 10000 in
theorem hX12_isMismatch : iv_Tb 205 tX12_isMismatch := iv_tb_of (m := mX12_isMismatch) rfl
set_option maxRecDepth 10000 in
theorem gX12_isMismatch : PG.2 205 = some mX12_isMismatch := iv_pi_of (t := tX12_isMismatch) rfl (by decide)
def FX12_isMismatch_b27 (N : Nat) (s : iv_M)  (xs0 : Int) : Option (Int) := (if xs0 = 0 ∨ xs0 = 1 then some xs0 else none)
set_option maxRecDepth 10000 in
set_option maxHeartbeats 4000000 in
theorem RX12_isMismatch_b27 {d N nc Ls : Nat} {Xs : Nat → Int32} (hd : 4 ≤ d) {h : iv_H} {s : iv_M} (hR : Rep nc Ls Xs h s)  {ms0 : Int32} {xs0 : Int} (ps0 : ms0.toInt = xs0) {r : Int} {Q : Option Value → iv_H → Prop} (hq : ∀ (z : Int32), z.toInt = r → Q (some (.int z)) h) (e : FX12_isMismatch_b27 N s  xs0 = some r) : Rn d 205 (some .boolean) 27 [none, none, none, none] [.int ms0] h Q := by
  have hT := hX12_isMismatch
  unfold FX12_isMismatch_b27 at e
  by_cases c_2349 : xs0 = 0 ∨ xs0 = 1
  · rw [if_pos c_2349] at e
    obtain rfl := Option.some.inj e
    exact Rn.ret hT rfl rfl (if_pos (ti_b ps0 c_2349)) (hq ms0 ps0)
  · rw [if_neg c_2349] at e
    cases e
def FX12_isMismatch_b62 (N : Nat) (s : iv_M)  (xs0 : Int) : Option (Int) := (if xs0 = 0 ∨ xs0 = 1 then some xs0 else none)
set_option maxRecDepth 10000 in
set_option maxHeartbeats 4000000 in
theorem RX12_isMismatch_b62 {d N nc Ls : Nat} {Xs : Nat → Int32} (hd : 4 ≤ d) {h : iv_H} {s : iv_M} (hR : Rep nc Ls Xs h s)  {ms0 : Int32} {xs0 : Int} (ps0 : ms0.toInt = xs0) {r : Int} {Q : Option Value → iv_H → Prop} (hq : ∀ (z : Int32), z.toInt = r → Q (some (.int z)) h) (e : FX12_isMismatch_b62 N s  xs0 = some r) : Rn d 205 (some .boolean) 62 [none, none, none, none] [.int ms0] h Q := by
  have hT := hX12_isMismatch
  unfold FX12_isMismatch_b62 at e
  by_cases c_2353 : xs0 = 0 ∨ xs0 = 1
  · rw [if_pos c_2353] at e
    obtain rfl := Option.some.inj e
    exact Rn.ret hT rfl rfl (if_pos (ti_b ps0 c_2353)) (hq ms0 ps0)
  · rw [if_neg c_2353] at e
    cases e
def FX12_isMismatch_b61 (N : Nat) (s : iv_M)   : Option (Int) := (FX12_isMismatch_b62 N s 0)
set_option maxRecDepth 10000 in
set_option maxHeartbeats 4000000 in
theorem RX12_isMismatch_b61 {d N nc Ls : Nat} {Xs : Nat → Int32} (hd : 4 ≤ d) {h : iv_H} {s : iv_M} (hR : Rep nc Ls Xs h s)   {r : Int} {Q : Option Value → iv_H → Prop} (hq : ∀ (z : Int32), z.toInt = r → Q (some (.int z)) h) (e : FX12_isMismatch_b61 N s   = some r) : Rn d 205 (some .boolean) 61 [none, none, none, none] [] h Q := by
  have hT := hX12_isMismatch
  unfold FX12_isMismatch_b61 at e
  refine Rn.n hT 1 (pc' := 62) (L' := [none, none, none, none]) (st' := [.int (0 : Int32)]) rfl ?_
  exact Rn.weak (ll_n (ll_n (ll_n (ll_n ll_e)))) (RX12_isMismatch_b62 hd hR L32_0 hq e)
def FX12_isMismatch_b38 (N : Nat) (s : iv_M) (q0 : Nat) (x1 : Int) (x2 : Int) (x3 : Int)  : Option (Int) := ((FX12_sortAt N s q0 x1 x2).bind fun v_2350 => ((FX12_sortAt N s q0 x3 (bAn (w32 (x2 + 2)) 3)).bind fun v_2351 => (if v_2350 = v_2351 then (FX12_isMismatch_b61 N s) else (FX12_isMismatch_b62 N s 1))))
set_option maxRecDepth 10000 in
set_option maxHeartbeats 4000000 in
theorem RX12_isMismatch_b38 {d N nc Ls : Nat} {Xs : Nat → Int32} (hd : 4 ≤ d) {h : iv_H} {s : iv_M} (hR : Rep nc Ls Xs h s) {q0 : Nat} (t0 : T12 nc q0) {m1 : Int32} {x1 : Int} (p1 : m1.toInt = x1) {m2 : Int32} {x2 : Int} (p2 : m2.toInt = x2) {m3 : Int32} {x3 : Int} (p3 : m3.toInt = x3)  {r : Int} {Q : Option Value → iv_H → Prop} (hq : ∀ (z : Int32), z.toInt = r → Q (some (.int z)) h) (e : FX12_isMismatch_b38 N s q0 x1 x2 x3  = some r) : Rn d 205 (some .boolean) 38 [some (.ref q0), some (.int m1), some (.int m2), some (.int m3)] [] h Q := by
  have hT := hX12_isMismatch
  unfold FX12_isMismatch_b38 at e
  refine Rn.n hT 3 (pc' := 41) (L' := [some (.ref q0), some (.int m1), some (.int m2), some (.int m3)]) (st' := [.int m2, .int m1, .ref q0]) rfl ?_
  obtain ⟨v_2350, e_2350, e⟩ := Option.bind_eq_some_iff.mp e
  refine Rn.call hT rfl rfl rfl (Nat.le_of_ble_eq_true rfl) (rcv_v gX12_sortAt (by omega) (rp_ck hR (T12_o t0))) (RX12_sortAt (by omega) hR t0 p1 p2 e_2350 (fun z_2350 p_2350 => ?_))
  show Rn d _ _ 44 [some (.ref q0), some (.int m1), some (.int m2), some (.int m3)] [.int z_2350] h Q
  refine Rn.n hT 7 (pc' := 51) (L' := [some (.ref q0), some (.int m1), some (.int m2), some (.int m3)]) (st' := [.int ((m2 + (2 : Int32)) &&& (3 : Int32)), .int m3, .ref q0, .int z_2350]) rfl ?_
  obtain ⟨v_2351, e_2351, e⟩ := Option.bind_eq_some_iff.mp e
  refine Rn.call hT rfl rfl rfl (Nat.le_of_ble_eq_true rfl) (rcv_v gX12_sortAt (by omega) (rp_ck hR (T12_o t0))) (RX12_sortAt (by omega) hR t0 p3 (ti_and (ti_add p2 L32_2) L32_3) e_2351 (fun z_2351 p_2351 => ?_))
  show Rn d _ _ 54 [some (.ref q0), some (.int m1), some (.int m2), some (.int m3)] [.int z_2351, .int z_2350] h Q
  by_cases c_2352 : v_2350 = v_2351
  · rw [if_pos c_2352] at e
    refine Rn.bt hT rfl rfl rfl (decide_eq_true ((ti_e p_2350 p_2351).mpr c_2352)) ?_
    exact Rn.weak (ll_n (ll_n (ll_n (ll_n ll_e)))) (RX12_isMismatch_b61 hd hR hq e)
  · rw [if_neg c_2352] at e
    refine Rn.bf hT rfl rfl rfl (decide_eq_false (fun z => c_2352 ((ti_e p_2350 p_2351).mp z))) ?_
    refine Rn.n hT 2 (pc' := 62) (L' := [some (.ref q0), some (.int m1), some (.int m2), some (.int m3)]) (st' := [.int (1 : Int32)]) rfl ?_
    exact Rn.weak (ll_n (ll_n (ll_n (ll_n ll_e)))) (RX12_isMismatch_b62 hd hR L32_1 hq e)
def FX12_isMismatch (N : Nat) (s : iv_M) (q0 : Nat) (x1 : Int) (x2 : Int) : Option (Int) := ((FX12_faced N s q0 x1 x2).bind fun v_2343 => (if v_2343 = (-1) then ((FX12_sortAt N s q0 x1 x2).bind fun v_2347 => (if v_2347 = 1 then (FX12_isMismatch_b27 N s 1) else (FX12_isMismatch_b27 N s 0))) else (if x2 = 1 then (FX12_isMismatch_b38 N s q0 x1 x2 v_2343) else (if x2 = 2 then (FX12_isMismatch_b38 N s q0 x1 x2 v_2343) else (FX12_isMismatch_b61 N s)))))
set_option maxRecDepth 10000 in
set_option maxHeartbeats 4000000 in
theorem RX12_isMismatch {d N nc Ls : Nat} {Xs : Nat → Int32} (hd : 5 ≤ d) {h : iv_H} {s : iv_M} (hR : Rep nc Ls Xs h s) {q0 : Nat} (t0 : T12 nc q0) {m1 : Int32} {x1 : Int} (p1 : m1.toInt = x1) {m2 : Int32} {x2 : Int} (p2 : m2.toInt = x2) {r : Int} {Q : Option Value → iv_H → Prop} (e : FX12_isMismatch N s q0 x1 x2 = some r) (hq : ∀ (z : Int32), z.toInt = r → Q (some (.int z)) h) : Cl d 205 [.ref q0, .int m1, .int m2] h Q := by
  obtain ⟨d, rfl⟩ : ∃ k, d = k + 1 := ⟨d - 1, by omega⟩
  have hd : 4 ≤ d := by omega
  have hT := hX12_isMismatch
  unfold FX12_isMismatch at e
  refine Cl.into (by decide) gX12_isMismatch rfl ?_
  show Rn d 205 (some .boolean) 0 [some (.ref q0), some (.int m1), some (.int m2), none] [] h Q
  refine Rn.n hT 3 (pc' := 3) (L' := [some (.ref q0), some (.int m1), some (.int m2), none]) (st' := [.int m2, .int m1, .ref q0]) rfl ?_
  obtain ⟨v_2343, e_2343, e⟩ := Option.bind_eq_some_iff.mp e
  refine Rn.call hT rfl rfl rfl (Nat.le_of_ble_eq_true rfl) (rcv_v gX12_faced (by omega) (rp_ck hR (T12_o t0))) (RX12_faced (by omega) hR t0 p1 p2 e_2343 (fun z_2343 p_2343 => ?_))
  show Rn d _ _ 6 [some (.ref q0), some (.int m1), some (.int m2), none] [.int z_2343] h Q
  refine Rn.n hT 3 (pc' := 9) (L' := [some (.ref q0), some (.int m1), some (.int m2), some (.int z_2343)]) (st' := [.int (-1 : Int32), .int z_2343]) rfl ?_
  by_cases c_2344 : v_2343 = (-1)
  · rw [if_pos c_2344] at e
    refine Rn.bf hT rfl rfl rfl (decide_eq_false (fun z => z ((ti_e p_2343 L32_m1).mpr c_2344))) ?_
    refine Rn.n hT 3 (pc' := 15) (L' := [some (.ref q0), some (.int m1), some (.int m2), some (.int z_2343)]) (st' := [.int m2, .int m1, .ref q0]) rfl ?_
    obtain ⟨v_2347, e_2347, e⟩ := Option.bind_eq_some_iff.mp e
    refine Rn.call hT rfl rfl rfl (Nat.le_of_ble_eq_true rfl) (rcv_v gX12_sortAt (by omega) (rp_ck hR (T12_o t0))) (RX12_sortAt (by omega) hR t0 p1 p2 e_2347 (fun z_2347 p_2347 => ?_))
    show Rn d _ _ 18 [some (.ref q0), some (.int m1), some (.int m2), some (.int z_2343)] [.int z_2347] h Q
    refine Rn.n hT 1 (pc' := 19) (L' := [some (.ref q0), some (.int m1), some (.int m2), some (.int z_2343)]) (st' := [.int (1 : Int32), .int z_2347]) rfl ?_
    by_cases c_2348 : v_2347 = 1
    · rw [if_pos c_2348] at e
      refine Rn.bf hT rfl rfl rfl (decide_eq_false (fun z => z ((ti_e p_2347 L32_1).mpr c_2348))) ?_
      refine Rn.n hT 2 (pc' := 27) (L' := [some (.ref q0), some (.int m1), some (.int m2), some (.int z_2343)]) (st' := [.int (1 : Int32)]) rfl ?_
      exact Rn.weak (ll_n (ll_n (ll_n (ll_n ll_e)))) (RX12_isMismatch_b27 hd hR L32_1 hq e)
    · rw [if_neg c_2348] at e
      refine Rn.bt hT rfl rfl rfl (decide_eq_true (fun z => c_2348 ((ti_e p_2347 L32_1).mp z))) ?_
      refine Rn.n hT 1 (pc' := 27) (L' := [some (.ref q0), some (.int m1), some (.int m2), some (.int z_2343)]) (st' := [.int (0 : Int32)]) rfl ?_
      exact Rn.weak (ll_n (ll_n (ll_n (ll_n ll_e)))) (RX12_isMismatch_b27 hd hR L32_0 hq e)
  · rw [if_neg c_2344] at e
    refine Rn.bt hT rfl rfl rfl (decide_eq_true (fun z => c_2344 ((ti_e p_2343 L32_m1).mp z))) ?_
    refine Rn.n hT 2 (pc' := 30) (L' := [some (.ref q0), some (.int m1), some (.int m2), some (.int z_2343)]) (st' := [.int (1 : Int32), .int m2]) rfl ?_
    by_cases c_2345 : x2 = 1
    · rw [if_pos c_2345] at e
      refine Rn.bt hT rfl rfl rfl (decide_eq_true ((ti_e p2 L32_1).mpr c_2345)) ?_
      exact Rn.weak (ll_s (ll_s (ll_s (ll_s ll_e)))) (RX12_isMismatch_b38 hd hR t0 p1 p2 p_2343 hq e)
    · rw [if_neg c_2345] at e
      refine Rn.bf hT rfl rfl rfl (decide_eq_false (fun z => c_2345 ((ti_e p2 L32_1).mp z))) ?_
      refine Rn.n hT 2 (pc' := 35) (L' := [some (.ref q0), some (.int m1), some (.int m2), some (.int z_2343)]) (st' := [.int (2 : Int32), .int m2]) rfl ?_
      by_cases c_2346 : x2 = 2
      · rw [if_pos c_2346] at e
        refine Rn.bf hT rfl rfl rfl (decide_eq_false (fun z => z ((ti_e p2 L32_2).mpr c_2346))) ?_
        exact Rn.weak (ll_s (ll_s (ll_s (ll_s ll_e)))) (RX12_isMismatch_b38 hd hR t0 p1 p2 p_2343 hq e)
      · rw [if_neg c_2346] at e
        refine Rn.bt hT rfl rfl rfl (decide_eq_true (fun z => c_2346 ((ti_e p2 L32_2).mp z))) ?_
        exact Rn.weak (ll_n (ll_n (ll_n (ll_n ll_e)))) (RX12_isMismatch_b61 hd hR hq e)
set_option maxRecDepth 10000 in
theorem hX12_mismatches : iv_Tb 206 tX12_mismatches := iv_tb_of (m := mX12_mismatches) rfl
set_option maxRecDepth 10000 in
theorem gX12_mismatches : PG.2 206 = some mX12_mismatches := iv_pi_of (t := tX12_mismatches) rfl (by decide)
def FX12_mismatches_b76 (N : Nat) (s : iv_M) (q0 : Nat) (x1 : Int) (x2 : Int) (x3 : Int)  (kb : iv_M → Int → Int → Option (Int × iv_M)) (kx : iv_M → Int → Option (Int × iv_M)) : Option (Int × iv_M) := (kb s x1 (w32 (x3 + 1)))
set_option maxRecDepth 10000 in
set_option maxHeartbeats 4000000 in
theorem RX12_mismatches_b76 {d N nc Ls : Nat} {Xs : Nat → Int32} (hd : 5 ≤ d) {h : iv_H} {s : iv_M} (hR : Rep nc Ls Xs h s) {q0 : Nat} (t0 : T12 nc q0) {m1 : Int32} {x1 : Int} (p1 : m1.toInt = x1) {m2 : Int32} {x2 : Int} (p2 : m2.toInt = x2) {m3 : Int32} {x3 : Int} (p3 : m3.toInt = x3)  {kb : iv_M → Int → Int → Option (Int × iv_M)} {kx : iv_M → Int → Option (Int × iv_M)} {r : Int × iv_M} {Q : Option Value → iv_H → Prop} (hb : ∀ (h : iv_H) (s : iv_M) (hR : Rep nc Ls Xs h s) (mw1 : Int32) (xw1 : Int) (pw1 : mw1.toInt = xw1) (mw3 : Int32) (xw3 : Int) (pw3 : mw3.toInt = xw3), kb s xw1 xw3 = some r → Rn d 206 (some .int) 12 [some (.ref q0), some (.int mw1), some (.int m2), some (.int mw3)] [] h Q) (hk : ∀ (h : iv_H) (s : iv_M) (hR : Rep nc Ls Xs h s) (mw1 : Int32) (xw1 : Int) (pw1 : mw1.toInt = xw1), kx s xw1 = some r → Rn d 206 (some .int) 82 [some (.ref q0), some (.int mw1), some (.int m2), none] [] h Q) (hq : ∀ (z : Int32) (h1 : iv_H), z.toInt = r.1 → Rep nc Ls Xs h1 r.2 → Q (some (.int z)) h1) (e : FX12_mismatches_b76 N s q0 x1 x2 x3  kb kx = some r) : Rn d 206 (some .int) 76 [some (.ref q0), some (.int m1), some (.int m2), some (.int m3)] [] h Q := by
  have hT := hX12_mismatches
  unfold FX12_mismatches_b76 at e
  refine Rn.n hT 2 (pc' := 12) (L' := [some (.ref q0), some (.int m1), some (.int m2), some (.int (m3 + (1 : Int32)))]) (st' := []) rfl ?_
  exact Rn.weak (ll_s (ll_s (ll_s (ll_s ll_e)))) (hb h s hR m1 x1 p1 (m3 + (1 : Int32)) (w32 (x3 + 1)) (ti_add p3 L32_1) e)
def FX12_mismatches_b70 (N : Nat) (s : iv_M) (q0 : Nat) (x1 : Int) (x2 : Int) (x3 : Int) (xs0 : Int) (qs1 : Nat) (kb : iv_M → Int → Int → Option (Int × iv_M)) (kx : iv_M → Int → Option (Int × iv_M)) : Option (Int × iv_M) := ((pt s qs1 27 xs0).bind fun s_2371 => (FX12_mismatches_b76 N s_2371 q0 (w32 (x1 + 1)) x2 x3 kb kx))
set_option maxRecDepth 10000 in
set_option maxHeartbeats 4000000 in
theorem RX12_mismatches_b70 {d N nc Ls : Nat} {Xs : Nat → Int32} (hd : 5 ≤ d) {h : iv_H} {s : iv_M} (hR : Rep nc Ls Xs h s) {q0 : Nat} (t0 : T12 nc q0) {m1 : Int32} {x1 : Int} (p1 : m1.toInt = x1) {m2 : Int32} {x2 : Int} (p2 : m2.toInt = x2) {m3 : Int32} {x3 : Int} (p3 : m3.toInt = x3) {ms0 : Int32} {xs0 : Int} (ps0 : ms0.toInt = xs0) {qs1 : Nat} (ts1 : T12 nc qs1) {kb : iv_M → Int → Int → Option (Int × iv_M)} {kx : iv_M → Int → Option (Int × iv_M)} {r : Int × iv_M} {Q : Option Value → iv_H → Prop} (hb : ∀ (h : iv_H) (s : iv_M) (hR : Rep nc Ls Xs h s) (mw1 : Int32) (xw1 : Int) (pw1 : mw1.toInt = xw1) (mw3 : Int32) (xw3 : Int) (pw3 : mw3.toInt = xw3), kb s xw1 xw3 = some r → Rn d 206 (some .int) 12 [some (.ref q0), some (.int mw1), some (.int m2), some (.int mw3)] [] h Q) (hk : ∀ (h : iv_H) (s : iv_M) (hR : Rep nc Ls Xs h s) (mw1 : Int32) (xw1 : Int) (pw1 : mw1.toInt = xw1), kx s xw1 = some r → Rn d 206 (some .int) 82 [some (.ref q0), some (.int mw1), some (.int m2), none] [] h Q) (hq : ∀ (z : Int32) (h1 : iv_H), z.toInt = r.1 → Rep nc Ls Xs h1 r.2 → Q (some (.int z)) h1) (e : FX12_mismatches_b70 N s q0 x1 x2 x3 xs0 qs1 kb kx = some r) : Rn d 206 (some .int) 70 [some (.ref q0), some (.int m1), some (.int m2), some (.int m3)] [.int ms0, .ref qs1] h Q := by
  have hT := hX12_mismatches
  unfold FX12_mismatches_b70 at e
  obtain ⟨s_2371, e_2372, e⟩ := Option.bind_eq_some_iff.mp e
  obtain ⟨h_2371, g_2372, R_2371⟩ := rp_pI (ci := 12) (k := 27) hR (T12_o ts1) rfl rfl ps0 e_2372
  refine Rn.hp hT rfl rfl (pV_hp rfl g_2372) ?_
  refine Rn.n hT 1 (pc' := 76) (L' := [some (.ref q0), some (.int (m1 + (1 : Int32))), some (.int m2), some (.int m3)]) (st' := []) rfl ?_
  exact Rn.weak (ll_s (ll_s (ll_s (ll_s ll_e)))) (RX12_mismatches_b76 hd R_2371 t0 (ti_add p1 L32_1) p2 p3 hb hk hq e)
def FX12_mismatches_b54 (N : Nat) (s : iv_M) (q0 : Nat) (x1 : Int) (x2 : Int) (x3 : Int) (xs0 : Int) (qs1 : Nat) (kb : iv_M → Int → Int → Option (Int × iv_M)) (kx : iv_M → Int → Option (Int × iv_M)) : Option (Int × iv_M) := ((pt s qs1 26 xs0).bind fun s_2367 => (if x1 = 0 then (FX12_mismatches_b70 N s_2367 q0 x1 x2 x3 x3 q0 kb kx) else (FX12_mismatches_b70 N s_2367 q0 x1 x2 x3 (s_2367 q0 27) q0 kb kx)))
set_option maxRecDepth 10000 in
set_option maxHeartbeats 4000000 in
theorem RX12_mismatches_b54 {d N nc Ls : Nat} {Xs : Nat → Int32} (hd : 5 ≤ d) {h : iv_H} {s : iv_M} (hR : Rep nc Ls Xs h s) {q0 : Nat} (t0 : T12 nc q0) {m1 : Int32} {x1 : Int} (p1 : m1.toInt = x1) {m2 : Int32} {x2 : Int} (p2 : m2.toInt = x2) {m3 : Int32} {x3 : Int} (p3 : m3.toInt = x3) {ms0 : Int32} {xs0 : Int} (ps0 : ms0.toInt = xs0) {qs1 : Nat} (ts1 : T12 nc qs1) {kb : iv_M → Int → Int → Option (Int × iv_M)} {kx : iv_M → Int → Option (Int × iv_M)} {r : Int × iv_M} {Q : Option Value → iv_H → Prop} (hb : ∀ (h : iv_H) (s : iv_M) (hR : Rep nc Ls Xs h s) (mw1 : Int32) (xw1 : Int) (pw1 : mw1.toInt = xw1) (mw3 : Int32) (xw3 : Int) (pw3 : mw3.toInt = xw3), kb s xw1 xw3 = some r → Rn d 206 (some .int) 12 [some (.ref q0), some (.int mw1), some (.int m2), some (.int mw3)] [] h Q) (hk : ∀ (h : iv_H) (s : iv_M) (hR : Rep nc Ls Xs h s) (mw1 : Int32) (xw1 : Int) (pw1 : mw1.toInt = xw1), kx s xw1 = some r → Rn d 206 (some .int) 82 [some (.ref q0), some (.int mw1), some (.int m2), none] [] h Q) (hq : ∀ (z : Int32) (h1 : iv_H), z.toInt = r.1 → Rep nc Ls Xs h1 r.2 → Q (some (.int z)) h1) (e : FX12_mismatches_b54 N s q0 x1 x2 x3 xs0 qs1 kb kx = some r) : Rn d 206 (some .int) 54 [some (.ref q0), some (.int m1), some (.int m2), some (.int m3)] [.int ms0, .ref qs1] h Q := by
  have hT := hX12_mismatches
  unfold FX12_mismatches_b54 at e
  obtain ⟨s_2367, e_2368, e⟩ := Option.bind_eq_some_iff.mp e
  obtain ⟨h_2367, g_2368, R_2367⟩ := rp_pI (ci := 12) (k := 26) hR (T12_o ts1) rfl rfl ps0 e_2368
  refine Rn.hp hT rfl rfl (pV_hp rfl g_2368) ?_
  refine Rn.n hT 2 (pc' := 59) (L' := [some (.ref q0), some (.int m1), some (.int m2), some (.int m3)]) (st' := [.int m1, .ref q0]) rfl ?_
  by_cases c_2369 : x1 = 0
  · rw [if_pos c_2369] at e
    refine Rn.bf hT rfl rfl rfl (decide_eq_false (fun z => z ((ti_e p1 L32_0).mpr c_2369))) ?_
    refine Rn.n hT 2 (pc' := 70) (L' := [some (.ref q0), some (.int m1), some (.int m2), some (.int m3)]) (st' := [.int m3, .ref q0]) rfl ?_
    exact Rn.weak (ll_s (ll_s (ll_s (ll_s ll_e)))) (RX12_mismatches_b70 hd R_2367 t0 p1 p2 p3 p3 t0 hb hk hq e)
  · rw [if_neg c_2369] at e
    refine Rn.bt hT rfl rfl rfl (decide_eq_true (fun z => c_2369 ((ti_e p1 L32_0).mp z))) ?_
    refine Rn.n hT 1 (pc' := 67) (L' := [some (.ref q0), some (.int m1), some (.int m2), some (.int m3)]) (st' := [.ref q0, .ref q0]) rfl ?_
    obtain ⟨z_2370, g_2370, p_2370⟩ : ∃ z : Int32, gI h_2367 12 27 q0 = some z ∧ z.toInt = s_2367 q0 27 := rp_gI (k := 27) R_2367 (T12_o t0) rfl
    refine Rn.hp hT rfl rfl (gI_hp g_2370) ?_
    exact Rn.weak (ll_s (ll_s (ll_s (ll_s ll_e)))) (RX12_mismatches_b70 hd R_2367 t0 p1 p2 p3 p_2370 t0 hb hk hq e)
def FX12_mismatches_l12 (N : Nat) (q0 : Nat) (x2 : Int) (kx : iv_M → Int → Option (Int × iv_M)) : Nat → iv_M → Int → Int → Option (Int × iv_M)
  | 0, _, _, _ => none
  | n + 1, s, x1, x3 => (if 4 ≤ x3 then (kx s x1) else ((rd s (q0 + 8) 16 x2).bind fun v_2360 => (if v_2360 = (-1) then (kx s x1) else ((rd s (q0 + 8) 16 x2).bind fun v_2362 => ((FX12_isMismatch N s q0 v_2362 x3).bind fun v_2363 => (if v_2363 = 0 then (FX12_mismatches_b76 N s q0 x1 x2 x3 (FX12_mismatches_l12 N q0 x2 kx n) kx) else (if x1 = 0 then (FX12_mismatches_b54 N s q0 x1 x2 x3 x2 q0 (FX12_mismatches_l12 N q0 x2 kx n) kx) else (FX12_mismatches_b54 N s q0 x1 x2 x3 (s q0 26) q0 (FX12_mismatches_l12 N q0 x2 kx n) kx))))))))
set_option maxRecDepth 10000 in
set_option maxHeartbeats 4000000 in
theorem RX12_mismatches_l12 {d N nc Ls : Nat} {Xs : Nat → Int32} (hd : 5 ≤ d) {q0 : Nat} (t0 : T12 nc q0) {m2 : Int32} {x2 : Int} (p2 : m2.toInt = x2) {kx : iv_M → Int → Option (Int × iv_M)} {r : Int × iv_M} {Q : Option Value → iv_H → Prop} (hk : ∀ (h : iv_H) (s : iv_M) (hR : Rep nc Ls Xs h s) (m1 : Int32) (x1 : Int) (p1 : m1.toInt = x1), kx s x1 = some r → Rn d 206 (some .int) 82 [some (.ref q0), some (.int m1), some (.int m2), none] [] h Q) (hq : ∀ (z : Int32) (h1 : iv_H), z.toInt = r.1 → Rep nc Ls Xs h1 r.2 → Q (some (.int z)) h1) : ∀ (n : Nat) (h : iv_H) (s : iv_M) (hR : Rep nc Ls Xs h s) (m1 : Int32) (x1 : Int) (p1 : m1.toInt = x1) (m3 : Int32) (x3 : Int) (p3 : m3.toInt = x3), FX12_mismatches_l12 N q0 x2 kx n s x1 x3 = some r → Rn d 206 (some .int) 12 [some (.ref q0), some (.int m1), some (.int m2), some (.int m3)] [] h Q := by
  have hT := hX12_mismatches
  intro n
  induction n with
  | zero =>
    intro h s hR m1 x1 p1 m3 x3 p3 e
    rw [FX12_mismatches_l12] at e
    cases e
  | succ n ih =>
    intro h s hR m1 x1 p1 m3 x3 p3 e
    rw [FX12_mismatches_l12] at e
    refine Rn.n hT 2 (pc' := 14) (L' := [some (.ref q0), some (.int m1), some (.int m2), some (.int m3)]) (st' := [.int (4 : Int32), .int m3]) rfl ?_
    by_cases c_2359 : 4 ≤ x3
    · rw [if_pos c_2359] at e
      refine Rn.bt hT rfl rfl rfl (decide_eq_true ((ti_le L32_4 p3).mpr c_2359)) ?_
      exact Rn.weak (ll_s (ll_s (ll_s (ll_n ll_e)))) (hk h s hR m1 x1 p1 e)
    · rw [if_neg c_2359] at e
      refine Rn.bf hT rfl rfl rfl (decide_eq_false (fun z => c_2359 ((ti_le L32_4 p3).mp z))) ?_
      refine Rn.n hT 1 (pc' := 18) (L' := [some (.ref q0), some (.int m1), some (.int m2), some (.int m3)]) (st' := [.ref q0]) rfl ?_
      refine Rn.hp hT rfl rfl (gR_hp (rp_gR hR (T12_o t0) rfl)) ?_
      refine Rn.n hT 1 (pc' := 22) (L' := [some (.ref q0), some (.int m1), some (.int m2), some (.int m3)]) (st' := [.int m2, .ref (q0 + 8)]) rfl ?_
      obtain ⟨v_2360, e_2360, e⟩ := Option.bind_eq_some_iff.mp e
      obtain ⟨z_2360, g_2360, p_2360⟩ := rp_aI hR (T12_8 t0) (T12_8l t0) p2 e_2360
      refine Rn.hp hT rfl rfl (aI_hp g_2360) ?_
      refine Rn.n hT 1 (pc' := 24) (L' := [some (.ref q0), some (.int m1), some (.int m2), some (.int m3)]) (st' := [.int (-1 : Int32), .int z_2360]) rfl ?_
      by_cases c_2361 : v_2360 = (-1)
      · rw [if_pos c_2361] at e
        refine Rn.bt hT rfl rfl rfl (decide_eq_true ((ti_e p_2360 L32_m1).mpr c_2361)) ?_
        exact Rn.weak (ll_s (ll_s (ll_s (ll_n ll_e)))) (hk h s hR m1 x1 p1 e)
      · rw [if_neg c_2361] at e
        refine Rn.bf hT rfl rfl rfl (decide_eq_false (fun z => c_2361 ((ti_e p_2360 L32_m1).mp z))) ?_
        refine Rn.n hT 2 (pc' := 29) (L' := [some (.ref q0), some (.int m1), some (.int m2), some (.int m3)]) (st' := [.ref q0, .ref q0]) rfl ?_
        refine Rn.hp hT rfl rfl (gR_hp (rp_gR hR (T12_o t0) rfl)) ?_
        refine Rn.n hT 1 (pc' := 33) (L' := [some (.ref q0), some (.int m1), some (.int m2), some (.int m3)]) (st' := [.int m2, .ref (q0 + 8), .ref q0]) rfl ?_
        obtain ⟨v_2362, e_2362, e⟩ := Option.bind_eq_some_iff.mp e
        obtain ⟨z_2362, g_2362, p_2362⟩ := rp_aI hR (T12_8 t0) (T12_8l t0) p2 e_2362
        refine Rn.hp hT rfl rfl (aI_hp g_2362) ?_
        refine Rn.n hT 1 (pc' := 35) (L' := [some (.ref q0), some (.int m1), some (.int m2), some (.int m3)]) (st' := [.int m3, .int z_2362, .ref q0]) rfl ?_
        obtain ⟨v_2363, e_2363, e⟩ := Option.bind_eq_some_iff.mp e
        refine Rn.call hT rfl rfl rfl (Nat.le_of_ble_eq_true rfl) (rcv_v gX12_isMismatch (by omega) (rp_ck hR (T12_o t0))) (RX12_isMismatch (by omega) hR t0 p_2362 p3 e_2363 (fun z_2363 p_2363 => ?_))
        show Rn d _ _ 38 [some (.ref q0), some (.int m1), some (.int m2), some (.int m3)] [.int z_2363] h Q
        by_cases c_2364 : v_2363 = 0
        · rw [if_pos c_2364] at e
          refine Rn.bt hT rfl rfl rfl (decide_eq_true ((ti_e p_2363 L32_0).mpr c_2364)) ?_
          exact Rn.weak (ll_s (ll_s (ll_s (ll_s ll_e)))) (RX12_mismatches_b76 hd hR t0 p1 p2 p3 ih hk hq e)
        · rw [if_neg c_2364] at e
          refine Rn.bf hT rfl rfl rfl (decide_eq_false (fun z => c_2364 ((ti_e p_2363 L32_0).mp z))) ?_
          refine Rn.n hT 2 (pc' := 43) (L' := [some (.ref q0), some (.int m1), some (.int m2), some (.int m3)]) (st' := [.int m1, .ref q0]) rfl ?_
          by_cases c_2365 : x1 = 0
          · rw [if_pos c_2365] at e
            refine Rn.bf hT rfl rfl rfl (decide_eq_false (fun z => z ((ti_e p1 L32_0).mpr c_2365))) ?_
            refine Rn.n hT 2 (pc' := 54) (L' := [some (.ref q0), some (.int m1), some (.int m2), some (.int m3)]) (st' := [.int m2, .ref q0]) rfl ?_
            exact Rn.weak (ll_s (ll_s (ll_s (ll_s ll_e)))) (RX12_mismatches_b54 hd hR t0 p1 p2 p3 p2 t0 ih hk hq e)
          · rw [if_neg c_2365] at e
            refine Rn.bt hT rfl rfl rfl (decide_eq_true (fun z => c_2365 ((ti_e p1 L32_0).mp z))) ?_
            refine Rn.n hT 1 (pc' := 51) (L' := [some (.ref q0), some (.int m1), some (.int m2), some (.int m3)]) (st' := [.ref q0, .ref q0]) rfl ?_
            obtain ⟨z_2366, g_2366, p_2366⟩ : ∃ z : Int32, gI h 12 26 q0 = some z ∧ z.toInt = s q0 26 := rp_gI (k := 26) hR (T12_o t0) rfl
            refine Rn.hp hT rfl rfl (gI_hp g_2366) ?_
            exact Rn.weak (ll_s (ll_s (ll_s (ll_s ll_e)))) (RX12_mismatches_b54 hd hR t0 p1 p2 p3 p_2366 t0 ih hk hq e)
def FX12_mismatches_b82 (N : Nat) (s : iv_M) (q0 : Nat) (x1 : Int) (x2 : Int)  (kb : iv_M → Int → Int → Option (Int × iv_M)) (kx : iv_M → Int → Option (Int × iv_M)) : Option (Int × iv_M) := (kb s x1 (w32 (x2 + 1)))
set_option maxRecDepth 10000 in
set_option maxHeartbeats 4000000 in
theorem RX12_mismatches_b82 {d N nc Ls : Nat} {Xs : Nat → Int32} (hd : 5 ≤ d) {h : iv_H} {s : iv_M} (hR : Rep nc Ls Xs h s) {q0 : Nat} (t0 : T12 nc q0) {m1 : Int32} {x1 : Int} (p1 : m1.toInt = x1) {m2 : Int32} {x2 : Int} (p2 : m2.toInt = x2)  {kb : iv_M → Int → Int → Option (Int × iv_M)} {kx : iv_M → Int → Option (Int × iv_M)} {r : Int × iv_M} {Q : Option Value → iv_H → Prop} (hb : ∀ (h : iv_H) (s : iv_M) (hR : Rep nc Ls Xs h s) (mw1 : Int32) (xw1 : Int) (pw1 : mw1.toInt = xw1) (mw2 : Int32) (xw2 : Int) (pw2 : mw2.toInt = xw2), kb s xw1 xw2 = some r → Rn d 206 (some .int) 4 [some (.ref q0), some (.int mw1), some (.int mw2), none] [] h Q) (hk : ∀ (h : iv_H) (s : iv_M) (hR : Rep nc Ls Xs h s) (mw1 : Int32) (xw1 : Int) (pw1 : mw1.toInt = xw1), kx s xw1 = some r → Rn d 206 (some .int) 88 [none, some (.int mw1), none, none] [] h Q) (hq : ∀ (z : Int32) (h1 : iv_H), z.toInt = r.1 → Rep nc Ls Xs h1 r.2 → Q (some (.int z)) h1) (e : FX12_mismatches_b82 N s q0 x1 x2  kb kx = some r) : Rn d 206 (some .int) 82 [some (.ref q0), some (.int m1), some (.int m2), none] [] h Q := by
  have hT := hX12_mismatches
  unfold FX12_mismatches_b82 at e
  refine Rn.n hT 2 (pc' := 4) (L' := [some (.ref q0), some (.int m1), some (.int (m2 + (1 : Int32))), none]) (st' := []) rfl ?_
  exact Rn.weak (ll_s (ll_s (ll_s (ll_n ll_e)))) (hb h s hR m1 x1 p1 (m2 + (1 : Int32)) (w32 (x2 + 1)) (ti_add p2 L32_1) e)
def FX12_mismatches_l4 (N : Nat) (q0 : Nat) (kx : iv_M → Int → Option (Int × iv_M)) : Nat → iv_M → Int → Int → Option (Int × iv_M)
  | 0, _, _, _ => none
  | n + 1, s, x1, x2 => (if 16 ≤ x2 then (kx s x1) else (FX12_mismatches_l12 N q0 x2 (fun (s_2357 : iv_M) (x2358_1 : Int) => (FX12_mismatches_b82 N s_2357 q0 x2358_1 x2 (FX12_mismatches_l4 N q0 kx n) kx)) N s x1 0))
set_option maxRecDepth 10000 in
set_option maxHeartbeats 4000000 in
theorem RX12_mismatches_l4 {d N nc Ls : Nat} {Xs : Nat → Int32} (hd : 5 ≤ d) {q0 : Nat} (t0 : T12 nc q0) {kx : iv_M → Int → Option (Int × iv_M)} {r : Int × iv_M} {Q : Option Value → iv_H → Prop} (hk : ∀ (h : iv_H) (s : iv_M) (hR : Rep nc Ls Xs h s) (m1 : Int32) (x1 : Int) (p1 : m1.toInt = x1), kx s x1 = some r → Rn d 206 (some .int) 88 [none, some (.int m1), none, none] [] h Q) (hq : ∀ (z : Int32) (h1 : iv_H), z.toInt = r.1 → Rep nc Ls Xs h1 r.2 → Q (some (.int z)) h1) : ∀ (n : Nat) (h : iv_H) (s : iv_M) (hR : Rep nc Ls Xs h s) (m1 : Int32) (x1 : Int) (p1 : m1.toInt = x1) (m2 : Int32) (x2 : Int) (p2 : m2.toInt = x2), FX12_mismatches_l4 N q0 kx n s x1 x2 = some r → Rn d 206 (some .int) 4 [some (.ref q0), some (.int m1), some (.int m2), none] [] h Q := by
  have hT := hX12_mismatches
  intro n
  induction n with
  | zero =>
    intro h s hR m1 x1 p1 m2 x2 p2 e
    rw [FX12_mismatches_l4] at e
    cases e
  | succ n ih =>
    intro h s hR m1 x1 p1 m2 x2 p2 e
    rw [FX12_mismatches_l4] at e
    refine Rn.n hT 2 (pc' := 7) (L' := [some (.ref q0), some (.int m1), some (.int m2), none]) (st' := [.int (16 : Int32), .int m2]) rfl ?_
    by_cases c_2356 : 16 ≤ x2
    · rw [if_pos c_2356] at e
      refine Rn.bt hT rfl rfl rfl (decide_eq_true ((ti_le L32_16 p2).mpr c_2356)) ?_
      exact Rn.weak (ll_n (ll_s (ll_n (ll_n ll_e)))) (hk h s hR m1 x1 p1 e)
    · rw [if_neg c_2356] at e
      refine Rn.bf hT rfl rfl rfl (decide_eq_false (fun z => c_2356 ((ti_le L32_16 p2).mp z))) ?_
      refine Rn.n hT 2 (pc' := 12) (L' := [some (.ref q0), some (.int m1), some (.int m2), some (.int (0 : Int32))]) (st' := []) rfl ?_
      refine Rn.weak (ll_s (ll_s (ll_s (ll_s ll_e)))) (RX12_mismatches_l12 hd t0 p2 (fun h_2357 s_2357 R_2357 m2358_1 x2358_1 p2358_1 e => ?_) hq N h s hR m1 x1 p1 (0 : Int32) 0 L32_0 e)
      try dsimp only at e
      exact Rn.weak (ll_s (ll_s (ll_s (ll_n ll_e)))) (RX12_mismatches_b82 hd R_2357 t0 p2358_1 p2 ih hk hq e)
def FX12_mismatches (N : Nat) (s : iv_M) (q0 : Nat) : Option (Int × iv_M) := (FX12_mismatches_l4 N q0 (fun (s_2354 : iv_M) (x2355_1 : Int) => (some (x2355_1, s_2354))) N s 0 0)
set_option maxRecDepth 10000 in
set_option maxHeartbeats 4000000 in
theorem RX12_mismatches {d N nc Ls : Nat} {Xs : Nat → Int32} (hd : 6 ≤ d) {h : iv_H} {s : iv_M} (hR : Rep nc Ls Xs h s) {q0 : Nat} (t0 : T12 nc q0) {r : Int × iv_M} {Q : Option Value → iv_H → Prop} (e : FX12_mismatches N s q0 = some r) (hq : ∀ (z : Int32) (h1 : iv_H), z.toInt = r.1 → Rep nc Ls Xs h1 r.2 → Q (some (.int z)) h1) : Cl d 206 [.ref q0] h Q := by
  obtain ⟨d, rfl⟩ : ∃ k, d = k + 1 := ⟨d - 1, by omega⟩
  have hd : 5 ≤ d := by omega
  have hT := hX12_mismatches
  unfold FX12_mismatches at e
  refine Cl.into (by decide) gX12_mismatches rfl ?_
  show Rn d 206 (some .int) 0 [some (.ref q0), none, none, none] [] h Q
  refine Rn.n hT 4 (pc' := 4) (L' := [some (.ref q0), some (.int (0 : Int32)), some (.int (0 : Int32)), none]) (st' := []) rfl ?_
  refine Rn.weak (ll_s (ll_s (ll_s (ll_n ll_e)))) (RX12_mismatches_l4 hd t0 (fun h_2354 s_2354 R_2354 m2355_1 x2355_1 p2355_1 e => ?_) hq N h s hR (0 : Int32) 0 L32_0 (0 : Int32) 0 L32_0 e)
  try dsimp only at e
  refine Rn.n hT 1 (pc' := 89) (L' := [none, some (.int m2355_1), none, none]) (st' := [.int m2355_1]) rfl ?_
  obtain rfl := Option.some.inj e
  exact Rn.ret hT rfl rfl rfl (hq m2355_1 h_2354 p2355_1 R_2354)
set_option maxRecDepth 10000 in
theorem hX12_put : iv_Tb 208 tX12_put := iv_tb_of (m := mX12_put) rfl
set_option maxRecDepth 10000 in
theorem gX12_put : PG.2 208 = some mX12_put := iv_pi_of (t := tX12_put) rfl (by decide)
def FX12_put_l3 (N : Nat) (q0 : Nat) (x1 : Int) (kx : iv_M → Option (iv_M)) : Nat → iv_M → Int → Option (iv_M)
  | 0, _, _ => none
  | n + 1, s, x2 => (if x2 < 0 then (kx s) else ((wr s (q0 + 26) 400 (s q0 28) (w8 (w8 (sr32 x1 x2)))).bind fun s_2377 => ((pt s_2377 q0 28 (w32 ((s_2377 q0 28) + 1))).bind fun s_2380 => (FX12_put_l3 N q0 x1 kx n s_2380 (w32 (x2 + (-8)))))))
set_option maxRecDepth 10000 in
set_option maxHeartbeats 4000000 in
theorem RX12_put_l3 {d N nc Ls : Nat} {Xs : Nat → Int32} (hd : 0 ≤ d) {q0 : Nat} (t0 : T12 nc q0) {m1 : Int32} {x1 : Int} (p1 : m1.toInt = x1) {kx : iv_M → Option (iv_M)} {r : iv_M} {Q : Option Value → iv_H → Prop} (hk : ∀ (h : iv_H) (s : iv_M) (hR : Rep nc Ls Xs h s), kx s = some r → Rn d 208 none 36 [none, none, none] [] h Q) (hq : ∀ h1, Rep nc Ls Xs h1 r → Q none h1) : ∀ (n : Nat) (h : iv_H) (s : iv_M) (hR : Rep nc Ls Xs h s) (m2 : Int32) (x2 : Int) (p2 : m2.toInt = x2), FX12_put_l3 N q0 x1 kx n s x2 = some r → Rn d 208 none 3 [some (.ref q0), some (.int m1), some (.int m2)] [] h Q := by
  have hT := hX12_put
  intro n
  induction n with
  | zero =>
    intro h s hR m2 x2 p2 e
    rw [FX12_put_l3] at e
    cases e
  | succ n ih =>
    intro h s hR m2 x2 p2 e
    rw [FX12_put_l3] at e
    refine Rn.n hT 1 (pc' := 4) (L' := [some (.ref q0), some (.int m1), some (.int m2)]) (st' := [.int m2]) rfl ?_
    by_cases c_2375 : x2 < 0
    · rw [if_pos c_2375] at e
      refine Rn.bt hT rfl rfl rfl (decide_eq_true ((ti_l p2 L32_0).mpr c_2375)) ?_
      exact Rn.weak (ll_n (ll_n (ll_n ll_e))) (hk h s hR e)
    · rw [if_neg c_2375] at e
      refine Rn.bf hT rfl rfl rfl (decide_eq_false (fun z => c_2375 ((ti_l p2 L32_0).mp z))) ?_
      refine Rn.n hT 1 (pc' := 8) (L' := [some (.ref q0), some (.int m1), some (.int m2)]) (st' := [.ref q0]) rfl ?_
      refine Rn.hp hT rfl rfl (gR_hp (rp_gR hR (T12_o t0) rfl)) ?_
      refine Rn.n hT 1 (pc' := 12) (L' := [some (.ref q0), some (.int m1), some (.int m2)]) (st' := [.ref q0, .ref (q0 + 26)]) rfl ?_
      obtain ⟨z_2376, g_2376, p_2376⟩ : ∃ z : Int32, gI h 12 28 q0 = some z ∧ z.toInt = s q0 28 := rp_gI (k := 28) hR (T12_o t0) rfl
      refine Rn.hp hT rfl rfl (gI_hp g_2376) ?_
      refine Rn.n hT 4 (pc' := 19) (L' := [some (.ref q0), some (.int m1), some (.int m2)]) (st' := [.int (((m1 >>> (m2 &&& 31))).toInt8.toInt32), .int z_2376, .ref (q0 + 26)]) rfl ?_
      obtain ⟨s_2377, e_2378, e⟩ := Option.bind_eq_some_iff.mp e
      obtain ⟨h_2377, g_2378, R_2377⟩ := rp_wB hR (T12_39 t0) (T12_39l t0) p_2376 (ti_8 (ti_8 (ti_shr p1 p2))) e_2378
      refine Rn.hp hT rfl rfl (wB_hp g_2378) ?_
      refine Rn.n hT 2 (pc' := 22) (L' := [some (.ref q0), some (.int m1), some (.int m2)]) (st' := [.ref q0, .ref q0]) rfl ?_
      obtain ⟨z_2379, g_2379, p_2379⟩ : ∃ z : Int32, gI h_2377 12 28 q0 = some z ∧ z.toInt = s_2377 q0 28 := rp_gI (k := 28) R_2377 (T12_o t0) rfl
      refine Rn.hp hT rfl rfl (gI_hp g_2379) ?_
      refine Rn.n hT 2 (pc' := 27) (L' := [some (.ref q0), some (.int m1), some (.int m2)]) (st' := [.int (z_2379 + (1 : Int32)), .ref q0]) rfl ?_
      obtain ⟨s_2380, e_2381, e⟩ := Option.bind_eq_some_iff.mp e
      obtain ⟨h_2380, g_2381, R_2380⟩ := rp_pI (ci := 12) (k := 28) R_2377 (T12_o t0) rfl rfl (ti_add p_2379 L32_1) e_2381
      refine Rn.hp hT rfl rfl (pV_hp rfl g_2381) ?_
      refine Rn.n hT 2 (pc' := 3) (L' := [some (.ref q0), some (.int m1), some (.int (m2 + (-8 : Int32)))]) (st' := []) rfl ?_
      exact Rn.weak (ll_s (ll_s (ll_s ll_e))) (ih h_2380 s_2380 R_2380 (m2 + (-8 : Int32)) (w32 (x2 + (-8))) (ti_add p2 L32_m8) e)
def FX12_put (N : Nat) (s : iv_M) (q0 : Nat) (x1 : Int) : Option (iv_M) := (FX12_put_l3 N q0 x1 (fun (s_2373 : iv_M) => some s_2373) N s 24)
set_option maxRecDepth 10000 in
set_option maxHeartbeats 4000000 in
theorem RX12_put {d N nc Ls : Nat} {Xs : Nat → Int32} (hd : 1 ≤ d) {h : iv_H} {s : iv_M} (hR : Rep nc Ls Xs h s) {q0 : Nat} (t0 : T12 nc q0) {m1 : Int32} {x1 : Int} (p1 : m1.toInt = x1) {r : iv_M} {Q : Option Value → iv_H → Prop} (e : FX12_put N s q0 x1 = some r) (hq : ∀ h1, Rep nc Ls Xs h1 r → Q none h1) : Cl d 208 [.ref q0, .int m1] h Q := by
  obtain ⟨d, rfl⟩ : ∃ k, d = k + 1 := ⟨d - 1, by omega⟩
  have hd : 0 ≤ d := by omega
  have hT := hX12_put
  unfold FX12_put at e
  refine Cl.into (by decide) gX12_put rfl ?_
  show Rn d 208 none 0 [some (.ref q0), some (.int m1), none] [] h Q
  refine Rn.n hT 2 (pc' := 3) (L' := [some (.ref q0), some (.int m1), some (.int (24 : Int32))]) (st' := []) rfl ?_
  refine Rn.weak (ll_s (ll_s (ll_s ll_e))) (RX12_put_l3 hd t0 p1 (fun h_2373 s_2373 R_2373 e => ?_) hq N h s hR (24 : Int32) 24 L32_24 e)
  try dsimp only at e
  obtain rfl := Option.some.inj e
  exact Rn.ret hT rfl rfl rfl (hq h_2373 R_2373)
set_option maxRecDepth 10000 in
theorem hX12_feed : iv_Tb 207 tX12_feed := iv_tb_of (m := mX12_feed) rfl
set_option maxRecDepth 10000 in
theorem gX12_feed : PG.2 207 = some mX12_feed := iv_pi_of (t := tX12_feed) rfl (by decide)
def FX12_feed (N : Nat) (s : iv_M) (q0 : Nat) (x1 : Int) (x2 : Int) (x3 : Int) (x4 : Int) (x5 : Int) : Option (Int × iv_M) := (if (w32 ((s q0 28) + 20)) ≤ 400 then ((FX12_put N s q0 x1).bind fun s_2385 => ((FX12_put N s_2385 q0 x2).bind fun s_2387 => ((FX12_put N s_2387 q0 x3).bind fun s_2389 => ((FX12_put N s_2389 q0 x4).bind fun s_2391 => ((FX12_put N s_2391 q0 x5).bind fun s_2393 => (some ((s_2393 q0 28), s_2393))))))) else (some ((-1), s)))
set_option maxRecDepth 10000 in
set_option maxHeartbeats 4000000 in
theorem RX12_feed {d N nc Ls : Nat} {Xs : Nat → Int32} (hd : 2 ≤ d) {h : iv_H} {s : iv_M} (hR : Rep nc Ls Xs h s) {q0 : Nat} (t0 : T12 nc q0) {m1 : Int32} {x1 : Int} (p1 : m1.toInt = x1) {m2 : Int32} {x2 : Int} (p2 : m2.toInt = x2) {m3 : Int32} {x3 : Int} (p3 : m3.toInt = x3) {m4 : Int32} {x4 : Int} (p4 : m4.toInt = x4) {m5 : Int32} {x5 : Int} (p5 : m5.toInt = x5) {r : Int × iv_M} {Q : Option Value → iv_H → Prop} (e : FX12_feed N s q0 x1 x2 x3 x4 x5 = some r) (hq : ∀ (z : Int32) (h1 : iv_H), z.toInt = r.1 → Rep nc Ls Xs h1 r.2 → Q (some (.int z)) h1) : Cl d 207 [.ref q0, .int m1, .int m2, .int m3, .int m4, .int m5] h Q := by
  obtain ⟨d, rfl⟩ : ∃ k, d = k + 1 := ⟨d - 1, by omega⟩
  have hd : 1 ≤ d := by omega
  have hT := hX12_feed
  unfold FX12_feed at e
  refine Cl.into (by decide) gX12_feed rfl ?_
  show Rn d 207 (some .int) 0 [some (.ref q0), some (.int m1), some (.int m2), some (.int m3), some (.int m4), some (.int m5)] [] h Q
  refine Rn.n hT 1 (pc' := 1) (L' := [some (.ref q0), some (.int m1), some (.int m2), some (.int m3), some (.int m4), some (.int m5)]) (st' := [.ref q0]) rfl ?_
  obtain ⟨z_2382, g_2382, p_2382⟩ : ∃ z : Int32, gI h 12 28 q0 = some z ∧ z.toInt = s q0 28 := rp_gI (k := 28) hR (T12_o t0) rfl
  refine Rn.hp hT rfl rfl (gI_hp g_2382) ?_
  refine Rn.n hT 3 (pc' := 10) (L' := [some (.ref q0), some (.int m1), some (.int m2), some (.int m3), some (.int m4), some (.int m5)]) (st' := [.int (400 : Int32), .int (z_2382 + (20 : Int32))]) rfl ?_
  by_cases c_2383 : (w32 ((s q0 28) + 20)) ≤ 400
  · rw [if_pos c_2383] at e
    refine Rn.bt hT rfl rfl rfl (decide_eq_true ((ti_le (ti_add p_2382 L32_20) L32_400).mpr c_2383)) ?_
    refine Rn.n hT 2 (pc' := 17) (L' := [some (.ref q0), some (.int m1), some (.int m2), some (.int m3), some (.int m4), some (.int m5)]) (st' := [.int m1, .ref q0]) rfl ?_
    obtain ⟨s_2385, e_2384, e⟩ := Option.bind_eq_some_iff.mp e
    refine Rn.call hT rfl rfl rfl (Nat.le_of_ble_eq_true rfl) (rcv_v gX12_put (by omega) (rp_ck hR (T12_o t0))) (RX12_put (by omega) hR t0 p1 e_2384 (fun h_2385 R_2385 => ?_))
    show Rn d _ _ 20 [some (.ref q0), some (.int m1), some (.int m2), some (.int m3), some (.int m4), some (.int m5)] [] h_2385 Q
    refine Rn.n hT 2 (pc' := 22) (L' := [some (.ref q0), some (.int m1), some (.int m2), some (.int m3), some (.int m4), some (.int m5)]) (st' := [.int m2, .ref q0]) rfl ?_
    obtain ⟨s_2387, e_2386, e⟩ := Option.bind_eq_some_iff.mp e
    refine Rn.call hT rfl rfl rfl (Nat.le_of_ble_eq_true rfl) (rcv_v gX12_put (by omega) (rp_ck R_2385 (T12_o t0))) (RX12_put (by omega) R_2385 t0 p2 e_2386 (fun h_2387 R_2387 => ?_))
    show Rn d _ _ 25 [some (.ref q0), some (.int m1), some (.int m2), some (.int m3), some (.int m4), some (.int m5)] [] h_2387 Q
    refine Rn.n hT 2 (pc' := 27) (L' := [some (.ref q0), some (.int m1), some (.int m2), some (.int m3), some (.int m4), some (.int m5)]) (st' := [.int m3, .ref q0]) rfl ?_
    obtain ⟨s_2389, e_2388, e⟩ := Option.bind_eq_some_iff.mp e
    refine Rn.call hT rfl rfl rfl (Nat.le_of_ble_eq_true rfl) (rcv_v gX12_put (by omega) (rp_ck R_2387 (T12_o t0))) (RX12_put (by omega) R_2387 t0 p3 e_2388 (fun h_2389 R_2389 => ?_))
    show Rn d _ _ 30 [some (.ref q0), some (.int m1), some (.int m2), some (.int m3), some (.int m4), some (.int m5)] [] h_2389 Q
    refine Rn.n hT 2 (pc' := 33) (L' := [some (.ref q0), some (.int m1), some (.int m2), some (.int m3), some (.int m4), some (.int m5)]) (st' := [.int m4, .ref q0]) rfl ?_
    obtain ⟨s_2391, e_2390, e⟩ := Option.bind_eq_some_iff.mp e
    refine Rn.call hT rfl rfl rfl (Nat.le_of_ble_eq_true rfl) (rcv_v gX12_put (by omega) (rp_ck R_2389 (T12_o t0))) (RX12_put (by omega) R_2389 t0 p4 e_2390 (fun h_2391 R_2391 => ?_))
    show Rn d _ _ 36 [some (.ref q0), some (.int m1), some (.int m2), some (.int m3), some (.int m4), some (.int m5)] [] h_2391 Q
    refine Rn.n hT 2 (pc' := 39) (L' := [some (.ref q0), some (.int m1), some (.int m2), some (.int m3), some (.int m4), some (.int m5)]) (st' := [.int m5, .ref q0]) rfl ?_
    obtain ⟨s_2393, e_2392, e⟩ := Option.bind_eq_some_iff.mp e
    refine Rn.call hT rfl rfl rfl (Nat.le_of_ble_eq_true rfl) (rcv_v gX12_put (by omega) (rp_ck R_2391 (T12_o t0))) (RX12_put (by omega) R_2391 t0 p5 e_2392 (fun h_2393 R_2393 => ?_))
    show Rn d _ _ 42 [some (.ref q0), some (.int m1), some (.int m2), some (.int m3), some (.int m4), some (.int m5)] [] h_2393 Q
    refine Rn.n hT 1 (pc' := 43) (L' := [some (.ref q0), some (.int m1), some (.int m2), some (.int m3), some (.int m4), some (.int m5)]) (st' := [.ref q0]) rfl ?_
    obtain ⟨z_2394, g_2394, p_2394⟩ : ∃ z : Int32, gI h_2393 12 28 q0 = some z ∧ z.toInt = s_2393 q0 28 := rp_gI (k := 28) R_2393 (T12_o t0) rfl
    refine Rn.hp hT rfl rfl (gI_hp g_2394) ?_
    obtain rfl := Option.some.inj e
    exact Rn.ret hT rfl rfl rfl (hq z_2394 h_2393 p_2394 R_2393)
  · rw [if_neg c_2383] at e
    refine Rn.bf hT rfl rfl rfl (decide_eq_false (fun z => c_2383 ((ti_le (ti_add p_2382 L32_20) L32_400).mp z))) ?_
    refine Rn.n hT 1 (pc' := 14) (L' := [some (.ref q0), some (.int m1), some (.int m2), some (.int m3), some (.int m4), some (.int m5)]) (st' := [.int (-1 : Int32)]) rfl ?_
    obtain rfl := Option.some.inj e
    exact Rn.ret hT rfl rfl rfl (hq (-1 : Int32) h L32_m1 hR)
set_option maxRecDepth 10000 in
theorem hX12_end : iv_Tb 209 tX12_end := iv_tb_of (m := mX12_end) rfl
set_option maxRecDepth 10000 in
theorem gX12_end : PG.2 209 = some mX12_end := iv_pi_of (t := tX12_end) rfl (by decide)
def FX12_end_b12 (N : Nat) (s : iv_M)   : Option (Int × iv_M) := (some ((-1), s))
set_option maxRecDepth 10000 in
set_option maxHeartbeats 4000000 in
theorem RX12_end_b12 {d N nc Ls : Nat} {Xs : Nat → Int32} (hd : 0 ≤ d) {h : iv_H} {s : iv_M} (hR : Rep nc Ls Xs h s)   {r : Int × iv_M} {Q : Option Value → iv_H → Prop} (hq : ∀ (z : Int32) (h1 : iv_H), z.toInt = r.1 → Rep nc Ls Xs h1 r.2 → Q (some (.int z)) h1) (e : FX12_end_b12 N s   = some r) : Rn d 209 (some .int) 12 [none, none] [] h Q := by
  have hT := hX12_end
  unfold FX12_end_b12 at e
  refine Rn.n hT 1 (pc' := 13) (L' := [none, none]) (st' := [.int (-1 : Int32)]) rfl ?_
  obtain rfl := Option.some.inj e
  exact Rn.ret hT rfl rfl rfl (hq (-1 : Int32) h L32_m1 hR)
def FX12_end (N : Nat) (s : iv_M) (q0 : Nat) (x1 : Int) : Option (Int × iv_M) := (if x1 < 0 then (FX12_end_b12 N s) else (if x1 ≤ (s q0 28) then ((pt s q0 28 x1).bind fun s_2398 => (some (x1, s_2398))) else (FX12_end_b12 N s)))
set_option maxRecDepth 10000 in
set_option maxHeartbeats 4000000 in
theorem RX12_end {d N nc Ls : Nat} {Xs : Nat → Int32} (hd : 1 ≤ d) {h : iv_H} {s : iv_M} (hR : Rep nc Ls Xs h s) {q0 : Nat} (t0 : T12 nc q0) {m1 : Int32} {x1 : Int} (p1 : m1.toInt = x1) {r : Int × iv_M} {Q : Option Value → iv_H → Prop} (e : FX12_end N s q0 x1 = some r) (hq : ∀ (z : Int32) (h1 : iv_H), z.toInt = r.1 → Rep nc Ls Xs h1 r.2 → Q (some (.int z)) h1) : Cl d 209 [.ref q0, .int m1] h Q := by
  obtain ⟨d, rfl⟩ : ∃ k, d = k + 1 := ⟨d - 1, by omega⟩
  have hd : 0 ≤ d := by omega
  have hT := hX12_end
  unfold FX12_end at e
  refine Cl.into (by decide) gX12_end rfl ?_
  show Rn d 209 (some .int) 0 [some (.ref q0), some (.int m1)] [] h Q
  refine Rn.n hT 1 (pc' := 1) (L' := [some (.ref q0), some (.int m1)]) (st' := [.int m1]) rfl ?_
  by_cases c_2395 : x1 < 0
  · rw [if_pos c_2395] at e
    refine Rn.bt hT rfl rfl rfl (decide_eq_true ((ti_l p1 L32_0).mpr c_2395)) ?_
    exact Rn.weak (ll_n (ll_n ll_e)) (RX12_end_b12 hd hR hq e)
  · rw [if_neg c_2395] at e
    refine Rn.bf hT rfl rfl rfl (decide_eq_false (fun z => c_2395 ((ti_l p1 L32_0).mp z))) ?_
    refine Rn.n hT 2 (pc' := 6) (L' := [some (.ref q0), some (.int m1)]) (st' := [.ref q0, .int m1]) rfl ?_
    obtain ⟨z_2396, g_2396, p_2396⟩ : ∃ z : Int32, gI h 12 28 q0 = some z ∧ z.toInt = s q0 28 := rp_gI (k := 28) hR (T12_o t0) rfl
    refine Rn.hp hT rfl rfl (gI_hp g_2396) ?_
    by_cases c_2397 : x1 ≤ (s q0 28)
    · rw [if_pos c_2397] at e
      refine Rn.bt hT rfl rfl rfl (decide_eq_true ((ti_le p1 p_2396).mpr c_2397)) ?_
      refine Rn.n hT 2 (pc' := 16) (L' := [some (.ref q0), some (.int m1)]) (st' := [.int m1, .ref q0]) rfl ?_
      obtain ⟨s_2398, e_2399, e⟩ := Option.bind_eq_some_iff.mp e
      obtain ⟨h_2398, g_2399, R_2398⟩ := rp_pI (ci := 12) (k := 28) hR (T12_o t0) rfl rfl p1 e_2399
      refine Rn.hp hT rfl rfl (pV_hp rfl g_2399) ?_
      refine Rn.n hT 1 (pc' := 20) (L' := [some (.ref q0), some (.int m1)]) (st' := [.int m1]) rfl ?_
      obtain rfl := Option.some.inj e
      exact Rn.ret hT rfl rfl rfl (hq m1 h_2398 p1 R_2398)
    · rw [if_neg c_2397] at e
      refine Rn.bf hT rfl rfl rfl (decide_eq_false (fun z => c_2397 ((ti_le p1 p_2396).mp z))) ?_
      exact Rn.weak (ll_n (ll_n ll_e)) (RX12_end_b12 hd hR hq e)
set_option maxRecDepth 10000 in
theorem hX12_wordOf : iv_Tb 210 tX12_wordOf := iv_tb_of (m := mX12_wordOf) rfl
set_option maxRecDepth 10000 in
theorem gX12_wordOf : PG.2 210 = some mX12_wordOf := iv_pi_of (t := tX12_wordOf) rfl (by decide)
def FX12_wordOf (N : Nat) (s : iv_M) (x0 : Int) : Option (Nat) := (if x0 = 0 then (some 1000015) else (if x0 = 1 then (some 1000016) else (if x0 = 2 then (some 1000017) else (if x0 = 3 then (some 1000018) else (if x0 = 4 then (some 1000019) else (if x0 = 5 then (some 1000020) else (if x0 = 6 then (some 1000021) else (if x0 = 7 then (some 1000022) else (if x0 = 8 then (some 1000023) else (if x0 = 9 then (some 1000024) else (if x0 = 10 then (some 1000025) else (if x0 = 11 then (some 1000026) else (some 1000027)))))))))))))
set_option maxRecDepth 10000 in
set_option maxHeartbeats 4000000 in
theorem RX12_wordOf {d N nc Ls : Nat} {Xs : Nat → Int32} (hd : 1 ≤ d) {h : iv_H} {s : iv_M} (hR : Rep nc Ls Xs h s) {m0 : Int32} {x0 : Int} (p0 : m0.toInt = x0) {r : Nat} {Q : Option Value → iv_H → Prop} (e : FX12_wordOf N s x0 = some r) (hq : TS r → Q (some (.ref r)) h) : Cl d 210 [.int m0] h Q := by
  obtain ⟨d, rfl⟩ : ∃ k, d = k + 1 := ⟨d - 1, by omega⟩
  have hd : 0 ≤ d := by omega
  have hT := hX12_wordOf
  unfold FX12_wordOf at e
  refine Cl.into (by decide) gX12_wordOf rfl ?_
  show Rn d 210 (some (.object "java/lang/String")) 0 [some (.int m0)] [] h Q
  refine Rn.n hT 1 (pc' := 1) (L' := [some (.int m0)]) (st' := [.int m0]) rfl ?_
  by_cases c_2400 : x0 = 0
  · rw [if_pos c_2400] at e
    refine Rn.sw2 hT rfl rfl rfl (if_pos ((ti_e p0 L32_0).mpr c_2400)) ?_
    refine Rn.n hT 1 (pc' := 66) (L' := [some (.int m0)]) (st' := [.ref 1000015]) rfl ?_
    obtain rfl := Option.some.inj e
    exact Rn.ret hT rfl rfl rfl (hq TS_1000015)
  · rw [if_neg c_2400] at e
    by_cases c_2401 : x0 = 1
    · rw [if_pos c_2401] at e
      refine Rn.sw2 hT rfl rfl rfl ((if_neg (fun z => c_2400 ((ti_e p0 L32_0).mp z))).trans (if_pos ((ti_e p0 L32_1).mpr c_2401))) ?_
      refine Rn.n hT 1 (pc' := 69) (L' := [some (.int m0)]) (st' := [.ref 1000016]) rfl ?_
      obtain rfl := Option.some.inj e
      exact Rn.ret hT rfl rfl rfl (hq TS_1000016)
    · rw [if_neg c_2401] at e
      by_cases c_2402 : x0 = 2
      · rw [if_pos c_2402] at e
        refine Rn.sw2 hT rfl rfl rfl ((if_neg (fun z => c_2400 ((ti_e p0 L32_0).mp z))).trans ((if_neg (fun z => c_2401 ((ti_e p0 L32_1).mp z))).trans (if_pos ((ti_e p0 L32_2).mpr c_2402)))) ?_
        refine Rn.n hT 1 (pc' := 72) (L' := [some (.int m0)]) (st' := [.ref 1000017]) rfl ?_
        obtain rfl := Option.some.inj e
        exact Rn.ret hT rfl rfl rfl (hq TS_1000017)
      · rw [if_neg c_2402] at e
        by_cases c_2403 : x0 = 3
        · rw [if_pos c_2403] at e
          refine Rn.sw2 hT rfl rfl rfl ((if_neg (fun z => c_2400 ((ti_e p0 L32_0).mp z))).trans ((if_neg (fun z => c_2401 ((ti_e p0 L32_1).mp z))).trans ((if_neg (fun z => c_2402 ((ti_e p0 L32_2).mp z))).trans (if_pos ((ti_e p0 L32_3).mpr c_2403))))) ?_
          refine Rn.n hT 1 (pc' := 75) (L' := [some (.int m0)]) (st' := [.ref 1000018]) rfl ?_
          obtain rfl := Option.some.inj e
          exact Rn.ret hT rfl rfl rfl (hq TS_1000018)
        · rw [if_neg c_2403] at e
          by_cases c_2404 : x0 = 4
          · rw [if_pos c_2404] at e
            refine Rn.sw2 hT rfl rfl rfl ((if_neg (fun z => c_2400 ((ti_e p0 L32_0).mp z))).trans ((if_neg (fun z => c_2401 ((ti_e p0 L32_1).mp z))).trans ((if_neg (fun z => c_2402 ((ti_e p0 L32_2).mp z))).trans ((if_neg (fun z => c_2403 ((ti_e p0 L32_3).mp z))).trans (if_pos ((ti_e p0 L32_4).mpr c_2404)))))) ?_
            refine Rn.n hT 1 (pc' := 78) (L' := [some (.int m0)]) (st' := [.ref 1000019]) rfl ?_
            obtain rfl := Option.some.inj e
            exact Rn.ret hT rfl rfl rfl (hq TS_1000019)
          · rw [if_neg c_2404] at e
            by_cases c_2405 : x0 = 5
            · rw [if_pos c_2405] at e
              refine Rn.sw2 hT rfl rfl rfl ((if_neg (fun z => c_2400 ((ti_e p0 L32_0).mp z))).trans ((if_neg (fun z => c_2401 ((ti_e p0 L32_1).mp z))).trans ((if_neg (fun z => c_2402 ((ti_e p0 L32_2).mp z))).trans ((if_neg (fun z => c_2403 ((ti_e p0 L32_3).mp z))).trans ((if_neg (fun z => c_2404 ((ti_e p0 L32_4).mp z))).trans (if_pos ((ti_e p0 L32_5).mpr c_2405))))))) ?_
              refine Rn.n hT 1 (pc' := 81) (L' := [some (.int m0)]) (st' := [.ref 1000020]) rfl ?_
              obtain rfl := Option.some.inj e
              exact Rn.ret hT rfl rfl rfl (hq TS_1000020)
            · rw [if_neg c_2405] at e
              by_cases c_2406 : x0 = 6
              · rw [if_pos c_2406] at e
                refine Rn.sw2 hT rfl rfl rfl ((if_neg (fun z => c_2400 ((ti_e p0 L32_0).mp z))).trans ((if_neg (fun z => c_2401 ((ti_e p0 L32_1).mp z))).trans ((if_neg (fun z => c_2402 ((ti_e p0 L32_2).mp z))).trans ((if_neg (fun z => c_2403 ((ti_e p0 L32_3).mp z))).trans ((if_neg (fun z => c_2404 ((ti_e p0 L32_4).mp z))).trans ((if_neg (fun z => c_2405 ((ti_e p0 L32_5).mp z))).trans (if_pos ((ti_e p0 L32_6).mpr c_2406)))))))) ?_
                refine Rn.n hT 1 (pc' := 85) (L' := [some (.int m0)]) (st' := [.ref 1000021]) rfl ?_
                obtain rfl := Option.some.inj e
                exact Rn.ret hT rfl rfl rfl (hq TS_1000021)
              · rw [if_neg c_2406] at e
                by_cases c_2407 : x0 = 7
                · rw [if_pos c_2407] at e
                  refine Rn.sw2 hT rfl rfl rfl ((if_neg (fun z => c_2400 ((ti_e p0 L32_0).mp z))).trans ((if_neg (fun z => c_2401 ((ti_e p0 L32_1).mp z))).trans ((if_neg (fun z => c_2402 ((ti_e p0 L32_2).mp z))).trans ((if_neg (fun z => c_2403 ((ti_e p0 L32_3).mp z))).trans ((if_neg (fun z => c_2404 ((ti_e p0 L32_4).mp z))).trans ((if_neg (fun z => c_2405 ((ti_e p0 L32_5).mp z))).trans ((if_neg (fun z => c_2406 ((ti_e p0 L32_6).mp z))).trans (if_pos ((ti_e p0 L32_7).mpr c_2407))))))))) ?_
                  refine Rn.n hT 1 (pc' := 89) (L' := [some (.int m0)]) (st' := [.ref 1000022]) rfl ?_
                  obtain rfl := Option.some.inj e
                  exact Rn.ret hT rfl rfl rfl (hq TS_1000022)
                · rw [if_neg c_2407] at e
                  by_cases c_2408 : x0 = 8
                  · rw [if_pos c_2408] at e
                    refine Rn.sw2 hT rfl rfl rfl ((if_neg (fun z => c_2400 ((ti_e p0 L32_0).mp z))).trans ((if_neg (fun z => c_2401 ((ti_e p0 L32_1).mp z))).trans ((if_neg (fun z => c_2402 ((ti_e p0 L32_2).mp z))).trans ((if_neg (fun z => c_2403 ((ti_e p0 L32_3).mp z))).trans ((if_neg (fun z => c_2404 ((ti_e p0 L32_4).mp z))).trans ((if_neg (fun z => c_2405 ((ti_e p0 L32_5).mp z))).trans ((if_neg (fun z => c_2406 ((ti_e p0 L32_6).mp z))).trans ((if_neg (fun z => c_2407 ((ti_e p0 L32_7).mp z))).trans (if_pos ((ti_e p0 L32_8).mpr c_2408)))))))))) ?_
                    refine Rn.n hT 1 (pc' := 93) (L' := [some (.int m0)]) (st' := [.ref 1000023]) rfl ?_
                    obtain rfl := Option.some.inj e
                    exact Rn.ret hT rfl rfl rfl (hq TS_1000023)
                  · rw [if_neg c_2408] at e
                    by_cases c_2409 : x0 = 9
                    · rw [if_pos c_2409] at e
                      refine Rn.sw2 hT rfl rfl rfl ((if_neg (fun z => c_2400 ((ti_e p0 L32_0).mp z))).trans ((if_neg (fun z => c_2401 ((ti_e p0 L32_1).mp z))).trans ((if_neg (fun z => c_2402 ((ti_e p0 L32_2).mp z))).trans ((if_neg (fun z => c_2403 ((ti_e p0 L32_3).mp z))).trans ((if_neg (fun z => c_2404 ((ti_e p0 L32_4).mp z))).trans ((if_neg (fun z => c_2405 ((ti_e p0 L32_5).mp z))).trans ((if_neg (fun z => c_2406 ((ti_e p0 L32_6).mp z))).trans ((if_neg (fun z => c_2407 ((ti_e p0 L32_7).mp z))).trans ((if_neg (fun z => c_2408 ((ti_e p0 L32_8).mp z))).trans (if_pos ((ti_e p0 L32_9).mpr c_2409))))))))))) ?_
                      refine Rn.n hT 1 (pc' := 97) (L' := [some (.int m0)]) (st' := [.ref 1000024]) rfl ?_
                      obtain rfl := Option.some.inj e
                      exact Rn.ret hT rfl rfl rfl (hq TS_1000024)
                    · rw [if_neg c_2409] at e
                      by_cases c_2410 : x0 = 10
                      · rw [if_pos c_2410] at e
                        refine Rn.sw2 hT rfl rfl rfl ((if_neg (fun z => c_2400 ((ti_e p0 L32_0).mp z))).trans ((if_neg (fun z => c_2401 ((ti_e p0 L32_1).mp z))).trans ((if_neg (fun z => c_2402 ((ti_e p0 L32_2).mp z))).trans ((if_neg (fun z => c_2403 ((ti_e p0 L32_3).mp z))).trans ((if_neg (fun z => c_2404 ((ti_e p0 L32_4).mp z))).trans ((if_neg (fun z => c_2405 ((ti_e p0 L32_5).mp z))).trans ((if_neg (fun z => c_2406 ((ti_e p0 L32_6).mp z))).trans ((if_neg (fun z => c_2407 ((ti_e p0 L32_7).mp z))).trans ((if_neg (fun z => c_2408 ((ti_e p0 L32_8).mp z))).trans ((if_neg (fun z => c_2409 ((ti_e p0 L32_9).mp z))).trans (if_pos ((ti_e p0 L32_10).mpr c_2410)))))))))))) ?_
                        refine Rn.n hT 1 (pc' := 101) (L' := [some (.int m0)]) (st' := [.ref 1000025]) rfl ?_
                        obtain rfl := Option.some.inj e
                        exact Rn.ret hT rfl rfl rfl (hq TS_1000025)
                      · rw [if_neg c_2410] at e
                        by_cases c_2411 : x0 = 11
                        · rw [if_pos c_2411] at e
                          refine Rn.sw2 hT rfl rfl rfl ((if_neg (fun z => c_2400 ((ti_e p0 L32_0).mp z))).trans ((if_neg (fun z => c_2401 ((ti_e p0 L32_1).mp z))).trans ((if_neg (fun z => c_2402 ((ti_e p0 L32_2).mp z))).trans ((if_neg (fun z => c_2403 ((ti_e p0 L32_3).mp z))).trans ((if_neg (fun z => c_2404 ((ti_e p0 L32_4).mp z))).trans ((if_neg (fun z => c_2405 ((ti_e p0 L32_5).mp z))).trans ((if_neg (fun z => c_2406 ((ti_e p0 L32_6).mp z))).trans ((if_neg (fun z => c_2407 ((ti_e p0 L32_7).mp z))).trans ((if_neg (fun z => c_2408 ((ti_e p0 L32_8).mp z))).trans ((if_neg (fun z => c_2409 ((ti_e p0 L32_9).mp z))).trans ((if_neg (fun z => c_2410 ((ti_e p0 L32_10).mp z))).trans (if_pos ((ti_e p0 L32_11).mpr c_2411))))))))))))) ?_
                          refine Rn.n hT 1 (pc' := 105) (L' := [some (.int m0)]) (st' := [.ref 1000026]) rfl ?_
                          obtain rfl := Option.some.inj e
                          exact Rn.ret hT rfl rfl rfl (hq TS_1000026)
                        · rw [if_neg c_2411] at e
                          refine Rn.sw2 hT rfl rfl rfl ((if_neg (fun z => c_2400 ((ti_e p0 L32_0).mp z))).trans ((if_neg (fun z => c_2401 ((ti_e p0 L32_1).mp z))).trans ((if_neg (fun z => c_2402 ((ti_e p0 L32_2).mp z))).trans ((if_neg (fun z => c_2403 ((ti_e p0 L32_3).mp z))).trans ((if_neg (fun z => c_2404 ((ti_e p0 L32_4).mp z))).trans ((if_neg (fun z => c_2405 ((ti_e p0 L32_5).mp z))).trans ((if_neg (fun z => c_2406 ((ti_e p0 L32_6).mp z))).trans ((if_neg (fun z => c_2407 ((ti_e p0 L32_7).mp z))).trans ((if_neg (fun z => c_2408 ((ti_e p0 L32_8).mp z))).trans ((if_neg (fun z => c_2409 ((ti_e p0 L32_9).mp z))).trans ((if_neg (fun z => c_2410 ((ti_e p0 L32_10).mp z))).trans ((if_neg (fun z => c_2411 ((ti_e p0 L32_11).mp z))).trans rfl)))))))))))) ?_
                          refine Rn.n hT 1 (pc' := 109) (L' := [some (.int m0)]) (st' := [.ref 1000027]) rfl ?_
                          obtain rfl := Option.some.inj e
                          exact Rn.ret hT rfl rfl rfl (hq TS_1000027)
set_option maxRecDepth 10000 in
theorem hX12_fails : iv_Tb 211 tX12_fails := iv_tb_of (m := mX12_fails) rfl
set_option maxRecDepth 10000 in
theorem gX12_fails : PG.2 211 = some mX12_fails := iv_pi_of (t := tX12_fails) rfl (by decide)
def FX12_fails_b23 (N : Nat) (s : iv_M)  (xs0 : Int) (qs1 : Nat) : Option (iv_M) := ((pt s qs1 30 xs0).bind fun s_2415 => some s_2415)
set_option maxRecDepth 10000 in
set_option maxHeartbeats 4000000 in
theorem RX12_fails_b23 {d N nc Ls : Nat} {Xs : Nat → Int32} (hd : 0 ≤ d) {h : iv_H} {s : iv_M} (hR : Rep nc Ls Xs h s)  {ms0 : Int32} {xs0 : Int} (ps0 : ms0.toInt = xs0) {qs1 : Nat} (ts1 : T12 nc qs1) {r : iv_M} {Q : Option Value → iv_H → Prop} (hq : ∀ h1, Rep nc Ls Xs h1 r → Q none h1) (e : FX12_fails_b23 N s  xs0 qs1 = some r) : Rn d 211 none 23 [none, none, none] [.int ms0, .ref qs1] h Q := by
  have hT := hX12_fails
  unfold FX12_fails_b23 at e
  obtain ⟨s_2415, e_2416, e⟩ := Option.bind_eq_some_iff.mp e
  obtain ⟨h_2415, g_2416, R_2415⟩ := rp_pI (ci := 12) (k := 30) hR (T12_o ts1) rfl rfl ps0 e_2416
  refine Rn.hp hT rfl rfl (pV_hp rfl g_2416) ?_
  obtain rfl := Option.some.inj e
  exact Rn.ret hT rfl rfl rfl (hq h_2415 R_2415)
def FX12_fails (N : Nat) (s : iv_M) (q0 : Nat) (x1 : Int) (x2 : Int) : Option (iv_M) := (if (s q0 30) = 0 then (FX12_fails_b23 N s (w32 ((w32 (1 + (w32 (8 * x2)))) + x1)) q0) else (FX12_fails_b23 N s (s q0 30) q0))
set_option maxRecDepth 10000 in
set_option maxHeartbeats 4000000 in
theorem RX12_fails {d N nc Ls : Nat} {Xs : Nat → Int32} (hd : 1 ≤ d) {h : iv_H} {s : iv_M} (hR : Rep nc Ls Xs h s) {q0 : Nat} (t0 : T12 nc q0) {m1 : Int32} {x1 : Int} (p1 : m1.toInt = x1) {m2 : Int32} {x2 : Int} (p2 : m2.toInt = x2) {r : iv_M} {Q : Option Value → iv_H → Prop} (e : FX12_fails N s q0 x1 x2 = some r) (hq : ∀ h1, Rep nc Ls Xs h1 r → Q none h1) : Cl d 211 [.ref q0, .int m1, .int m2] h Q := by
  obtain ⟨d, rfl⟩ : ∃ k, d = k + 1 := ⟨d - 1, by omega⟩
  have hd : 0 ≤ d := by omega
  have hT := hX12_fails
  unfold FX12_fails at e
  refine Cl.into (by decide) gX12_fails rfl ?_
  show Rn d 211 none 0 [some (.ref q0), some (.int m1), some (.int m2)] [] h Q
  refine Rn.n hT 2 (pc' := 2) (L' := [some (.ref q0), some (.int m1), some (.int m2)]) (st' := [.ref q0, .ref q0]) rfl ?_
  obtain ⟨z_2412, g_2412, p_2412⟩ : ∃ z : Int32, gI h 12 30 q0 = some z ∧ z.toInt = s q0 30 := rp_gI (k := 30) hR (T12_o t0) rfl
  refine Rn.hp hT rfl rfl (gI_hp g_2412) ?_
  by_cases c_2413 : (s q0 30) = 0
  · rw [if_pos c_2413] at e
    refine Rn.bf hT rfl rfl rfl (decide_eq_false (fun z => z ((ti_e p_2412 L32_0).mpr c_2413))) ?_
    refine Rn.n hT 8 (pc' := 23) (L' := [some (.ref q0), some (.int m1), some (.int m2)]) (st' := [.int (((1 : Int32) + ((8 : Int32) * m2)) + m1), .ref q0]) rfl ?_
    exact Rn.weak (ll_n (ll_n (ll_n ll_e))) (RX12_fails_b23 hd hR (ti_add (ti_add L32_1 (ti_mul L32_8 p2)) p1) t0 hq e)
  · rw [if_neg c_2413] at e
    refine Rn.bt hT rfl rfl rfl (decide_eq_true (fun z => c_2413 ((ti_e p_2412 L32_0).mp z))) ?_
    refine Rn.n hT 1 (pc' := 20) (L' := [some (.ref q0), some (.int m1), some (.int m2)]) (st' := [.ref q0, .ref q0]) rfl ?_
    obtain ⟨z_2414, g_2414, p_2414⟩ : ∃ z : Int32, gI h 12 30 q0 = some z ∧ z.toInt = s q0 30 := rp_gI (k := 30) hR (T12_o t0) rfl
    refine Rn.hp hT rfl rfl (gI_hp g_2414) ?_
    exact Rn.weak (ll_n (ll_n (ll_n ll_e))) (RX12_fails_b23 hd hR p_2414 t0 hq e)
set_option maxRecDepth 10000 in
theorem hX12_sign : iv_Tb 212 tX12_sign := iv_tb_of (m := mX12_sign) rfl
set_option maxRecDepth 10000 in
theorem gX12_sign : PG.2 212 = some mX12_sign := iv_pi_of (t := tX12_sign) rfl (by decide)
def FX12_sign_b28 (N : Nat) (s : iv_M)  (xs0 : Int) : Option (Int) := (some xs0)
set_option maxRecDepth 10000 in
set_option maxHeartbeats 4000000 in
theorem RX12_sign_b28 {d N nc Ls : Nat} {Xs : Nat → Int32} (hd : 0 ≤ d) {h : iv_H} {s : iv_M} (hR : Rep nc Ls Xs h s)  {ms0 : Int32} {xs0 : Int} (ps0 : ms0.toInt = xs0) {r : Int} {Q : Option Value → iv_H → Prop} (hq : ∀ (z : Int32), z.toInt = r → Q (some (.int z)) h) (e : FX12_sign_b28 N s  xs0 = some r) : Rn d 212 (some .int) 28 [none] [.int ms0] h Q := by
  have hT := hX12_sign
  unfold FX12_sign_b28 at e
  obtain rfl := Option.some.inj e
  exact Rn.ret hT rfl rfl rfl (hq ms0 ps0)
def FX12_sign (N : Nat) (s : iv_M) (q0 : Nat) : Option (Int) := (if (s q0 28) ≤ (s q0 29) then (FX12_sign_b28 N s (-1)) else ((rd s (q0 + 26) 400 (s q0 29)).bind fun v_2421 => (FX12_sign_b28 N s (bAn v_2421 255))))
set_option maxRecDepth 10000 in
set_option maxHeartbeats 4000000 in
theorem RX12_sign {d N nc Ls : Nat} {Xs : Nat → Int32} (hd : 1 ≤ d) {h : iv_H} {s : iv_M} (hR : Rep nc Ls Xs h s) {q0 : Nat} (t0 : T12 nc q0) {r : Int} {Q : Option Value → iv_H → Prop} (e : FX12_sign N s q0 = some r) (hq : ∀ (z : Int32), z.toInt = r → Q (some (.int z)) h) : Cl d 212 [.ref q0] h Q := by
  obtain ⟨d, rfl⟩ : ∃ k, d = k + 1 := ⟨d - 1, by omega⟩
  have hd : 0 ≤ d := by omega
  have hT := hX12_sign
  unfold FX12_sign at e
  refine Cl.into (by decide) gX12_sign rfl ?_
  show Rn d 212 (some .int) 0 [some (.ref q0)] [] h Q
  refine Rn.n hT 1 (pc' := 1) (L' := [some (.ref q0)]) (st' := [.ref q0]) rfl ?_
  obtain ⟨z_2417, g_2417, p_2417⟩ : ∃ z : Int32, gI h 12 29 q0 = some z ∧ z.toInt = s q0 29 := rp_gI (k := 29) hR (T12_o t0) rfl
  refine Rn.hp hT rfl rfl (gI_hp g_2417) ?_
  refine Rn.n hT 1 (pc' := 5) (L' := [some (.ref q0)]) (st' := [.ref q0, .int z_2417]) rfl ?_
  obtain ⟨z_2418, g_2418, p_2418⟩ : ∃ z : Int32, gI h 12 28 q0 = some z ∧ z.toInt = s q0 28 := rp_gI (k := 28) hR (T12_o t0) rfl
  refine Rn.hp hT rfl rfl (gI_hp g_2418) ?_
  by_cases c_2419 : (s q0 28) ≤ (s q0 29)
  · rw [if_pos c_2419] at e
    refine Rn.bt hT rfl rfl rfl (decide_eq_true ((ti_le p_2418 p_2417).mpr c_2419)) ?_
    refine Rn.n hT 1 (pc' := 28) (L' := [some (.ref q0)]) (st' := [.int (-1 : Int32)]) rfl ?_
    exact Rn.weak (ll_n ll_e) (RX12_sign_b28 hd hR L32_m1 hq e)
  · rw [if_neg c_2419] at e
    refine Rn.bf hT rfl rfl rfl (decide_eq_false (fun z => c_2419 ((ti_le p_2418 p_2417).mp z))) ?_
    refine Rn.n hT 1 (pc' := 12) (L' := [some (.ref q0)]) (st' := [.ref q0]) rfl ?_
    refine Rn.hp hT rfl rfl (gR_hp (rp_gR hR (T12_o t0) rfl)) ?_
    refine Rn.n hT 1 (pc' := 16) (L' := [some (.ref q0)]) (st' := [.ref q0, .ref (q0 + 26)]) rfl ?_
    obtain ⟨z_2420, g_2420, p_2420⟩ : ∃ z : Int32, gI h 12 29 q0 = some z ∧ z.toInt = s q0 29 := rp_gI (k := 29) hR (T12_o t0) rfl
    refine Rn.hp hT rfl rfl (gI_hp g_2420) ?_
    obtain ⟨v_2421, e_2421, e⟩ := Option.bind_eq_some_iff.mp e
    obtain ⟨z_2421, g_2421, p_2421⟩ := rp_aB hR (T12_39 t0) (Or.inl rfl) (T12_39l t0) p_2420 e_2421
    refine Rn.hp hT rfl rfl (aB_hp g_2421) ?_
    refine Rn.n hT 3 (pc' := 28) (L' := [some (.ref q0)]) (st' := [.int (z_2421 &&& (255 : Int32))]) rfl ?_
    exact Rn.weak (ll_n ll_e) (RX12_sign_b28 hd hR (ti_and p_2421 L32_255) hq e)
set_option maxRecDepth 10000 in
theorem hX12_blanks : iv_Tb 213 tX12_blanks := iv_tb_of (m := mX12_blanks) rfl
set_option maxRecDepth 10000 in
theorem gX12_blanks : PG.2 213 = some mX12_blanks := iv_pi_of (t := tX12_blanks) rfl (by decide)
def FX12_blanks_l0 (N : Nat) (q0 : Nat) (kx : iv_M → Option (iv_M)) : Nat → iv_M → Option (iv_M)
  | 0, _ => none
  | n + 1, s => ((FX12_sign N s q0).bind fun v_2424 => (if v_2424 = 32 then ((pt s q0 29 (w32 ((s q0 29) + 1))).bind fun s_2427 => (FX12_blanks_l0 N q0 kx n s_2427)) else (kx s)))
set_option maxRecDepth 10000 in
set_option maxHeartbeats 4000000 in
theorem RX12_blanks_l0 {d N nc Ls : Nat} {Xs : Nat → Int32} (hd : 1 ≤ d) {q0 : Nat} (t0 : T12 nc q0) {kx : iv_M → Option (iv_M)} {r : iv_M} {Q : Option Value → iv_H → Prop} (hk : ∀ (h : iv_H) (s : iv_M) (hR : Rep nc Ls Xs h s), kx s = some r → Rn d 213 none 22 [none] [] h Q) (hq : ∀ h1, Rep nc Ls Xs h1 r → Q none h1) : ∀ (n : Nat) (h : iv_H) (s : iv_M) (hR : Rep nc Ls Xs h s), FX12_blanks_l0 N q0 kx n s = some r → Rn d 213 none 0 [some (.ref q0)] [] h Q := by
  have hT := hX12_blanks
  intro n
  induction n with
  | zero =>
    intro h s hR e
    rw [FX12_blanks_l0] at e
    cases e
  | succ n ih =>
    intro h s hR e
    rw [FX12_blanks_l0] at e
    refine Rn.n hT 1 (pc' := 1) (L' := [some (.ref q0)]) (st' := [.ref q0]) rfl ?_
    obtain ⟨v_2424, e_2424, e⟩ := Option.bind_eq_some_iff.mp e
    refine Rn.call hT rfl rfl rfl (Nat.le_of_ble_eq_true rfl) (rcv_v gX12_sign (by omega) (rp_ck hR (T12_o t0))) (RX12_sign (by omega) hR t0 e_2424 (fun z_2424 p_2424 => ?_))
    show Rn d _ _ 4 [some (.ref q0)] [.int z_2424] h Q
    refine Rn.n hT 1 (pc' := 6) (L' := [some (.ref q0)]) (st' := [.int (32 : Int32), .int z_2424]) rfl ?_
    by_cases c_2425 : v_2424 = 32
    · rw [if_pos c_2425] at e
      refine Rn.bf hT rfl rfl rfl (decide_eq_false (fun z => z ((ti_e p_2424 L32_32).mpr c_2425))) ?_
      refine Rn.n hT 2 (pc' := 11) (L' := [some (.ref q0)]) (st' := [.ref q0, .ref q0]) rfl ?_
      obtain ⟨z_2426, g_2426, p_2426⟩ : ∃ z : Int32, gI h 12 29 q0 = some z ∧ z.toInt = s q0 29 := rp_gI (k := 29) hR (T12_o t0) rfl
      refine Rn.hp hT rfl rfl (gI_hp g_2426) ?_
      refine Rn.n hT 2 (pc' := 16) (L' := [some (.ref q0)]) (st' := [.int (z_2426 + (1 : Int32)), .ref q0]) rfl ?_
      obtain ⟨s_2427, e_2428, e⟩ := Option.bind_eq_some_iff.mp e
      obtain ⟨h_2427, g_2428, R_2427⟩ := rp_pI (ci := 12) (k := 29) hR (T12_o t0) rfl rfl (ti_add p_2426 L32_1) e_2428
      refine Rn.hp hT rfl rfl (pV_hp rfl g_2428) ?_
      refine Rn.n hT 1 (pc' := 0) (L' := [some (.ref q0)]) (st' := []) rfl ?_
      exact Rn.weak (ll_s ll_e) (ih h_2427 s_2427 R_2427 e)
    · rw [if_neg c_2425] at e
      refine Rn.bt hT rfl rfl rfl (decide_eq_true (fun z => c_2425 ((ti_e p_2424 L32_32).mp z))) ?_
      exact Rn.weak (ll_n ll_e) (hk h s hR e)
def FX12_blanks (N : Nat) (s : iv_M) (q0 : Nat) : Option (iv_M) := (FX12_blanks_l0 N q0 (fun (s_2422 : iv_M) => some s_2422) N s)
set_option maxRecDepth 10000 in
set_option maxHeartbeats 4000000 in
theorem RX12_blanks {d N nc Ls : Nat} {Xs : Nat → Int32} (hd : 2 ≤ d) {h : iv_H} {s : iv_M} (hR : Rep nc Ls Xs h s) {q0 : Nat} (t0 : T12 nc q0) {r : iv_M} {Q : Option Value → iv_H → Prop} (e : FX12_blanks N s q0 = some r) (hq : ∀ h1, Rep nc Ls Xs h1 r → Q none h1) : Cl d 213 [.ref q0] h Q := by
  obtain ⟨d, rfl⟩ : ∃ k, d = k + 1 := ⟨d - 1, by omega⟩
  have hd : 1 ≤ d := by omega
  have hT := hX12_blanks
  unfold FX12_blanks at e
  refine Cl.into (by decide) gX12_blanks rfl ?_
  show Rn d 213 none 0 [some (.ref q0)] [] h Q
  refine Rn.weak (ll_s ll_e) (RX12_blanks_l0 hd t0 (fun h_2422 s_2422 R_2422 e => ?_) hq N h s hR e)
  try dsimp only at e
  obtain rfl := Option.some.inj e
  exact Rn.ret hT rfl rfl rfl (hq h_2422 R_2422)
set_option maxRecDepth 10000 in
theorem hX12_isDigit : iv_Tb 214 tX12_isDigit := iv_tb_of (m := mX12_isDigit) rfl
set_option maxRecDepth 10000 in
theorem gX12_isDigit : PG.2 214 = some mX12_isDigit := iv_pi_of (t := tX12_isDigit) rfl (by decide)
def FX12_isDigit (N : Nat) (s : iv_M) (q0 : Nat) : Option (Int) := ((FX12_sign N s q0).bind fun v_2429 => ((FX12_in N s v_2429 48 57).bind fun v_2430 => (if v_2430 = 0 ∨ v_2430 = 1 then some v_2430 else none)))
set_option maxRecDepth 10000 in
set_option maxHeartbeats 4000000 in
theorem RX12_isDigit {d N nc Ls : Nat} {Xs : Nat → Int32} (hd : 2 ≤ d) {h : iv_H} {s : iv_M} (hR : Rep nc Ls Xs h s) {q0 : Nat} (t0 : T12 nc q0) {r : Int} {Q : Option Value → iv_H → Prop} (e : FX12_isDigit N s q0 = some r) (hq : ∀ (z : Int32), z.toInt = r → Q (some (.int z)) h) : Cl d 214 [.ref q0] h Q := by
  obtain ⟨d, rfl⟩ : ∃ k, d = k + 1 := ⟨d - 1, by omega⟩
  have hd : 1 ≤ d := by omega
  have hT := hX12_isDigit
  unfold FX12_isDigit at e
  refine Cl.into (by decide) gX12_isDigit rfl ?_
  show Rn d 214 (some .boolean) 0 [some (.ref q0)] [] h Q
  refine Rn.n hT 1 (pc' := 1) (L' := [some (.ref q0)]) (st' := [.ref q0]) rfl ?_
  obtain ⟨v_2429, e_2429, e⟩ := Option.bind_eq_some_iff.mp e
  refine Rn.call hT rfl rfl rfl (Nat.le_of_ble_eq_true rfl) (rcv_v gX12_sign (by omega) (rp_ck hR (T12_o t0))) (RX12_sign (by omega) hR t0 e_2429 (fun z_2429 p_2429 => ?_))
  show Rn d _ _ 4 [some (.ref q0)] [.int z_2429] h Q
  refine Rn.n hT 3 (pc' := 11) (L' := [some (.ref q0)]) (st' := [.long (57 : Int64), .long (48 : Int64), .long ((z_2429).toInt64)]) rfl ?_
  obtain ⟨v_2430, e_2430, e⟩ := Option.bind_eq_some_iff.mp e
  refine Rn.call hT rfl rfl rfl (Nat.le_of_ble_eq_true rfl) rfl (RX12_in (by omega) hR (ti_j p_2429) L64_48 L64_57 e_2430 (fun z_2430 p_2430 => ?_))
  show Rn d _ _ 14 [some (.ref q0)] [.int z_2430] h Q
  by_cases c_2431 : v_2430 = 0 ∨ v_2430 = 1
  · rw [if_pos c_2431] at e
    obtain rfl := Option.some.inj e
    exact Rn.ret hT rfl rfl (if_pos (ti_b p_2430 c_2431)) (hq z_2430 p_2430)
  · rw [if_neg c_2431] at e
    cases e
