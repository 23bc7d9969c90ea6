-- FLAT MIRRORS, 6 (written by wip/whole/mir2.py)
set_option maxRecDepth 10000 in
theorem hX11_wish : iv_Tb 174 tX11_wish := iv_tb_of (m := mX11_wish) rfl
set_option maxRecDepth 10000 in
theorem gX11_wish : PG.2 174 = some mX11_wish := iv_pi_of (t := tX11_wish) rfl (by decide)
def FX11_wish_b60 (N : Nat) (s : iv_M)   : Option (Int × iv_M) := (some ((-2), s))
set_option maxRecDepth 10000 in
set_option maxHeartbeats 4000000 in
theorem RX11_wish_b60 {d N nc Ls : Nat} {Xs : Nat → Int32} (hd : 1 ≤ d) {h : iv_H} {s : iv_M} (hR : Rep nc Ls Xs h s)   {r : Int × iv_M} {Q : Option Value → iv_H → Prop} (hq : ∀ (z : Int32) (h1 : iv_H), z.toInt = r.1 → Rep nc Ls Xs h1 r.2 → Q (some (.int z)) h1) (e : FX11_wish_b60 N s   = some r) : Rn d 174 (some .int) 60 [none, none, none, none, none, none] [] h Q := by
  have hT := hX11_wish
  unfold FX11_wish_b60 at e
  refine Rn.n hT 1 (pc' := 62) (L' := [none, none, none, none, none, none]) (st' := [.int (-2 : Int32)]) rfl ?_
  obtain rfl := Option.some.inj e
  exact Rn.ret hT rfl rfl rfl (hq (-2 : Int32) h L32_m2 hR)
def FX11_wish_b103 (N : Nat) (s : iv_M)  (xs0 : Int) : Option (Int × iv_M) := (some (xs0, s))
set_option maxRecDepth 10000 in
set_option maxHeartbeats 4000000 in
theorem RX11_wish_b103 {d N nc Ls : Nat} {Xs : Nat → Int32} (hd : 1 ≤ d) {h : iv_H} {s : iv_M} (hR : Rep nc Ls Xs h s)  {ms0 : Int32} {xs0 : Int} (ps0 : ms0.toInt = xs0) {r : Int × iv_M} {Q : Option Value → iv_H → Prop} (hq : ∀ (z : Int32) (h1 : iv_H), z.toInt = r.1 → Rep nc Ls Xs h1 r.2 → Q (some (.int z)) h1) (e : FX11_wish_b103 N s  xs0 = some r) : Rn d 174 (some .int) 103 [none, none, none, none, none, none] [.int ms0] h Q := by
  have hT := hX11_wish
  unfold FX11_wish_b103 at e
  obtain rfl := Option.some.inj e
  exact Rn.ret hT rfl rfl rfl (hq ms0 h ps0 hR)
def FX11_wish (N : Nat) (s : iv_M) (q0 : Nat) (x1 : Int) (x2 : Int) (x3 : Int) (x4 : Int) : Option (Int × iv_M) := (if x1 = (-1) then ((pt s ((s q0 4).toNat + 18) 1 0).bind fun s_2125 => (some (0, s_2125))) else ((FX1_cellAt N s ((s q0 4).toNat + 1) x3 x4).bind fun v_2115 => ((FX2_isPerson N s ((s q0 4).toNat) x1).bind fun v_2116 => (if v_2116 = 0 then (FX11_wish_b60 N s) else (if x2 < 0 then (FX11_wish_b60 N s) else (if 10 < x2 then (FX11_wish_b60 N s) else (if v_2115 = (-1) then (FX11_wish_b60 N s) else ((FX7_add N s ((s q0 4).toNat + 18) (bOr (bOr (sl32 x1 8) (sl32 x2 4)) v_2115)).bind fun r_2121 => (fun (v_2121 : Int) (s_2122 : iv_M) => (if v_2121 = 0 then (FX11_wish_b103 N s_2122 (-2)) else (FX11_wish_b103 N s_2122 (s_2122 ((s_2122 q0 4).toNat + 18) 1)))) r_2121.1 r_2121.2))))))))
set_option maxRecDepth 10000 in
set_option maxHeartbeats 4000000 in
theorem RX11_wish {d N nc Ls : Nat} {Xs : Nat → Int32} (hd : 2 ≤ d) {h : iv_H} {s : iv_M} (hR : Rep nc Ls Xs h s) {q0 : Nat} (t0 : T11 nc q0) {m1 : Int32} {x1 : Int} (p1 : m1.toInt = x1) {m2 : Int32} {x2 : Int} (p2 : m2.toInt = x2) {m3 : Int32} {x3 : Int} (p3 : m3.toInt = x3) {m4 : Int32} {x4 : Int} (p4 : m4.toInt = x4) {r : Int × iv_M} {Q : Option Value → iv_H → Prop} (e : FX11_wish N s q0 x1 x2 x3 x4 = some r) (hq : ∀ (z : Int32) (h1 : iv_H), z.toInt = r.1 → Rep nc Ls Xs h1 r.2 → Q (some (.int z)) h1) : Cl d 174 [.ref q0, .int m1, .int m2, .int m3, .int m4] h Q := by
  obtain ⟨d, rfl⟩ : ∃ k, d = k + 1 := ⟨d - 1, by omega⟩
  have hd : 1 ≤ d := by omega
  have hT := hX11_wish
  unfold FX11_wish at e
  refine Cl.into (by decide) gX11_wish rfl ?_
  show Rn d 174 (some .int) 0 [some (.ref q0), some (.int m1), some (.int m2), some (.int m3), some (.int m4), none] [] h Q
  refine Rn.n hT 2 (pc' := 2) (L' := [some (.ref q0), some (.int m1), some (.int m2), some (.int m3), some (.int m4), none]) (st' := [.int (-1 : Int32), .int m1]) rfl ?_
  by_cases c_2114 : x1 = (-1)
  · rw [if_pos c_2114] at e
    refine Rn.bf hT rfl rfl rfl (decide_eq_false (fun z => z ((ti_e p1 L32_m1).mpr c_2114))) ?_
    refine Rn.n hT 1 (pc' := 6) (L' := [some (.ref q0), some (.int m1), some (.int m2), some (.int m3), some (.int m4), none]) (st' := [.ref q0]) rfl ?_
    refine Rn.hp hT rfl rfl (gR_hp (rp_gP (k := 4) hR (T11_o t0) rfl (nn_114 hR t0))) ?_
    refine Rn.hp hT rfl rfl (gR_hp (rp_gR hR (T2_o (ty_114 hR t0)) rfl)) ?_
    refine Rn.n hT 1 (pc' := 13) (L' := [some (.ref q0), some (.int m1), some (.int m2), some (.int m3), some (.int m4), none]) (st' := [.int (0 : Int32), .ref ((s q0 4).toNat + 18)]) rfl ?_
    obtain ⟨s_2125, e_2126, e⟩ := Option.bind_eq_some_iff.mp e
    obtain ⟨h_2125, g_2126, R_2125⟩ := rp_pI (ci := 7) (k := 1) hR (T7_o (T2_17 (ty_114 hR t0))) rfl rfl L32_0 e_2126
    refine Rn.hp hT rfl rfl (pV_hp rfl g_2126) ?_
    refine Rn.n hT 1 (pc' := 17) (L' := [some (.ref q0), some (.int m1), some (.int m2), some (.int m3), some (.int m4), none]) (st' := [.int (0 : Int32)]) rfl ?_
    obtain rfl := Option.some.inj e
    exact Rn.ret hT rfl rfl rfl (hq (0 : Int32) h_2125 L32_0 R_2125)
  · rw [if_neg c_2114] at e
    refine Rn.bt hT rfl rfl rfl (decide_eq_true (fun z => c_2114 ((ti_e p1 L32_m1).mp z))) ?_
    refine Rn.n hT 1 (pc' := 19) (L' := [some (.ref q0), some (.int m1), some (.int m2), some (.int m3), some (.int m4), none]) (st' := [.ref q0]) rfl ?_
    refine Rn.hp hT rfl rfl (gR_hp (rp_gP (k := 4) hR (T11_o t0) rfl (nn_114 hR t0))) ?_
    refine Rn.hp hT rfl rfl (gR_hp (rp_gR hR (T2_o (ty_114 hR t0)) rfl)) ?_
    refine Rn.n hT 2 (pc' := 28) (L' := [some (.ref q0), some (.int m1), some (.int m2), some (.int m3), some (.int m4), none]) (st' := [.int m4, .int m3, .ref ((s q0 4).toNat + 1)]) rfl ?_
    obtain ⟨v_2115, e_2115, e⟩ := Option.bind_eq_some_iff.mp e
    refine Rn.call hT rfl rfl rfl (Nat.le_of_ble_eq_true rfl) (rcv_v gX1_cellAt (by omega) (rp_ck hR (T1_o (T2_9 (ty_114 hR t0))))) (RX1_cellAt (by omega) hR (T2_9 (ty_114 hR t0)) p3 p4 e_2115 (fun z_2115 p_2115 => ?_))
    show Rn d _ _ 31 [some (.ref q0), some (.int m1), some (.int m2), some (.int m3), some (.int m4), none] [.int z_2115] h Q
    refine Rn.n hT 2 (pc' := 34) (L' := [some (.ref q0), some (.int m1), some (.int m2), some (.int m3), some (.int m4), some (.int z_2115)]) (st' := [.ref q0]) rfl ?_
    refine Rn.hp hT rfl rfl (gR_hp (rp_gP (k := 4) hR (T11_o t0) rfl (nn_114 hR t0))) ?_
    refine Rn.n hT 1 (pc' := 38) (L' := [some (.ref q0), some (.int m1), some (.int m2), some (.int m3), some (.int m4), some (.int z_2115)]) (st' := [.int m1, .ref ((s q0 4).toNat)]) rfl ?_
    obtain ⟨v_2116, e_2116, e⟩ := Option.bind_eq_some_iff.mp e
    refine Rn.call hT rfl rfl rfl (Nat.le_of_ble_eq_true rfl) (rcv_v gX2_isPerson (by omega) (rp_ck hR (T2_o (ty_114 hR t0)))) (RX2_isPerson (by omega) hR (ty_114 hR t0) p1 e_2116 (fun z_2116 p_2116 => ?_))
    show Rn d _ _ 41 [some (.ref q0), some (.int m1), some (.int m2), some (.int m3), some (.int m4), some (.int z_2115)] [.int z_2116] h Q
    by_cases c_2117 : v_2116 = 0
    · rw [if_pos c_2117] at e
      refine Rn.bt hT rfl rfl rfl (decide_eq_true ((ti_e p_2116 L32_0).mpr c_2117)) ?_
      exact Rn.weak (ll_n (ll_n (ll_n (ll_n (ll_n (ll_n ll_e)))))) (RX11_wish_b60 hd hR hq e)
    · rw [if_neg c_2117] at e
      refine Rn.bf hT rfl rfl rfl (decide_eq_false (fun z => c_2117 ((ti_e p_2116 L32_0).mp z))) ?_
      refine Rn.n hT 1 (pc' := 45) (L' := [some (.ref q0), some (.int m1), some (.int m2), some (.int m3), some (.int m4), some (.int z_2115)]) (st' := [.int m2]) rfl ?_
      by_cases c_2118 : x2 < 0
      · rw [if_pos c_2118] at e
        refine Rn.bt hT rfl rfl rfl (decide_eq_true ((ti_l p2 L32_0).mpr c_2118)) ?_
        exact Rn.weak (ll_n (ll_n (ll_n (ll_n (ll_n (ll_n ll_e)))))) (RX11_wish_b60 hd hR hq e)
      · rw [if_neg c_2118] at e
        refine Rn.bf hT rfl rfl rfl (decide_eq_false (fun z => c_2118 ((ti_l p2 L32_0).mp z))) ?_
        refine Rn.n hT 2 (pc' := 51) (L' := [some (.ref q0), some (.int m1), some (.int m2), some (.int m3), some (.int m4), some (.int z_2115)]) (st' := [.int (10 : Int32), .int m2]) rfl ?_
        by_cases c_2119 : 10 < x2
        · rw [if_pos c_2119] at e
          refine Rn.bt hT rfl rfl rfl (decide_eq_true ((ti_l L32_10 p2).mpr c_2119)) ?_
          exact Rn.weak (ll_n (ll_n (ll_n (ll_n (ll_n (ll_n ll_e)))))) (RX11_wish_b60 hd hR hq e)
        · rw [if_neg c_2119] at e
          refine Rn.bf hT rfl rfl rfl (decide_eq_false (fun z => c_2119 ((ti_l L32_10 p2).mp z))) ?_
          refine Rn.n hT 2 (pc' := 57) (L' := [some (.ref q0), some (.int m1), some (.int m2), some (.int m3), some (.int m4), some (.int z_2115)]) (st' := [.int (-1 : Int32), .int z_2115]) rfl ?_
          by_cases c_2120 : v_2115 = (-1)
          · rw [if_pos c_2120] at e
            refine Rn.bf hT rfl rfl rfl (decide_eq_false (fun z => z ((ti_e p_2115 L32_m1).mpr c_2120))) ?_
            exact Rn.weak (ll_n (ll_n (ll_n (ll_n (ll_n (ll_n ll_e)))))) (RX11_wish_b60 hd hR hq e)
          · rw [if_neg c_2120] at e
            refine Rn.bt hT rfl rfl rfl (decide_eq_true (fun z => c_2120 ((ti_e p_2115 L32_m1).mp z))) ?_
            refine Rn.n hT 1 (pc' := 64) (L' := [some (.ref q0), some (.int m1), some (.int m2), some (.int m3), some (.int m4), some (.int z_2115)]) (st' := [.ref q0]) rfl ?_
            refine Rn.hp hT rfl rfl (gR_hp (rp_gP (k := 4) hR (T11_o t0) rfl (nn_114 hR t0))) ?_
            refine Rn.hp hT rfl rfl (gR_hp (rp_gR hR (T2_o (ty_114 hR t0)) rfl)) ?_
            refine Rn.n hT 10 (pc' := 82) (L' := [some (.ref q0), some (.int m1), some (.int m2), some (.int m3), some (.int m4), some (.int z_2115)]) (st' := [.long (((((m1 <<< ((8 : Int32) &&& 31)) ||| (m2 <<< ((4 : Int32) &&& 31))) ||| z_2115)).toInt64), .ref ((s q0 4).toNat + 18)]) rfl ?_
            obtain ⟨⟨v_2121, s_2122⟩, e_2121, e⟩ := Option.bind_eq_some_iff.mp e
            try dsimp only at e
            try dsimp only at e
            refine Rn.call hT rfl rfl rfl (Nat.le_of_ble_eq_true rfl) (rcv_v gX7_add (by omega) (rp_ck hR (T7_o (T2_17 (ty_114 hR t0))))) (RX7_add (by omega) hR (T2_17 (ty_114 hR t0)) (ti_j (ti_or (ti_or (ti_shl p1 L32_8) (ti_shl p2 L32_4)) p_2115)) e_2121 (fun z_2121 h_2122 p_2121 R_2122 => ?_))
            show Rn d _ _ 85 [some (.ref q0), some (.int m1), some (.int m2), some (.int m3), some (.int m4), some (.int z_2115)] [.int z_2121] h_2122 Q
            by_cases c_2123 : v_2121 = 0
            · rw [if_pos c_2123] at e
              refine Rn.bt hT rfl rfl rfl (decide_eq_true ((ti_e p_2121 L32_0).mpr c_2123)) ?_
              refine Rn.n hT 1 (pc' := 103) (L' := [some (.ref q0), some (.int m1), some (.int m2), some (.int m3), some (.int m4), some (.int z_2115)]) (st' := [.int (-2 : Int32)]) rfl ?_
              exact Rn.weak (ll_n (ll_n (ll_n (ll_n (ll_n (ll_n ll_e)))))) (RX11_wish_b103 hd R_2122 L32_m2 hq e)
            · rw [if_neg c_2123] at e
              refine Rn.bf hT rfl rfl rfl (decide_eq_false (fun z => c_2123 ((ti_e p_2121 L32_0).mp z))) ?_
              refine Rn.n hT 1 (pc' := 89) (L' := [some (.ref q0), some (.int m1), some (.int m2), some (.int m3), some (.int m4), some (.int z_2115)]) (st' := [.ref q0]) rfl ?_
              refine Rn.hp hT rfl rfl (gR_hp (rp_gP (k := 4) R_2122 (T11_o t0) rfl (nn_114 R_2122 t0))) ?_
              refine Rn.hp hT rfl rfl (gR_hp (rp_gR R_2122 (T2_o (ty_114 R_2122 t0)) rfl)) ?_
              obtain ⟨z_2124, g_2124, p_2124⟩ : ∃ z : Int32, gI h_2122 7 1 ((s_2122 q0 4).toNat + 18) = some z ∧ z.toInt = s_2122 ((s_2122 q0 4).toNat + 18) 1 := rp_gI (k := 1) R_2122 (T7_o (T2_17 (ty_114 R_2122 t0))) rfl
              refine Rn.hp hT rfl rfl (gI_hp g_2124) ?_
              refine Rn.n hT 1 (pc' := 103) (L' := [some (.ref q0), some (.int m1), some (.int m2), some (.int m3), some (.int m4), some (.int z_2115)]) (st' := [.int z_2124]) rfl ?_
              exact Rn.weak (ll_n (ll_n (ll_n (ll_n (ll_n (ll_n ll_e)))))) (RX11_wish_b103 hd R_2122 p_2124 hq e)
set_option maxRecDepth 10000 in
theorem hX11_beds : iv_Tb 175 tX11_beds := iv_tb_of (m := mX11_beds) rfl
set_option maxRecDepth 10000 in
theorem gX11_beds : PG.2 175 = some mX11_beds := iv_pi_of (t := tX11_beds) rfl (by decide)
def FX11_beds_b20 (N : Nat) (s : iv_M)   : Option (Int × iv_M) := (some ((-1), s))
set_option maxRecDepth 10000 in
set_option maxHeartbeats 4000000 in
theorem RX11_beds_b20 {d N nc Ls : Nat} {Xs : Nat → Int32} (hd : 6 ≤ d) {h : iv_H} {s : iv_M} (hR : Rep nc Ls Xs h s)   {r : Int × iv_M} {Q : Option Value → iv_H → Prop} (hq : ∀ (z : Int32) (h1 : iv_H), z.toInt = r.1 → Rep nc Ls Xs h1 r.2 → Q (some (.int z)) h1) (e : FX11_beds_b20 N s   = some r) : Rn d 175 (some .int) 20 [none, none] [] h Q := by
  have hT := hX11_beds
  unfold FX11_beds_b20 at e
  refine Rn.n hT 1 (pc' := 21) (L' := [none, none]) (st' := [.int (-1 : Int32)]) rfl ?_
  obtain rfl := Option.some.inj e
  exact Rn.ret hT rfl rfl rfl (hq (-1 : Int32) h L32_m1 hR)
def FX11_beds_b92 (N : Nat) (s : iv_M)  (xs0 : Int) : Option (Int × iv_M) := (some (xs0, s))
set_option maxRecDepth 10000 in
set_option maxHeartbeats 4000000 in
theorem RX11_beds_b92 {d N nc Ls : Nat} {Xs : Nat → Int32} (hd : 6 ≤ d) {h : iv_H} {s : iv_M} (hR : Rep nc Ls Xs h s)  {ms0 : Int32} {xs0 : Int} (ps0 : ms0.toInt = xs0) {r : Int × iv_M} {Q : Option Value → iv_H → Prop} (hq : ∀ (z : Int32) (h1 : iv_H), z.toInt = r.1 → Rep nc Ls Xs h1 r.2 → Q (some (.int z)) h1) (e : FX11_beds_b92 N s  xs0 = some r) : Rn d 175 (some .int) 92 [none, none] [.int ms0] h Q := by
  have hT := hX11_beds
  unfold FX11_beds_b92 at e
  obtain rfl := Option.some.inj e
  exact Rn.ret hT rfl rfl rfl (hq ms0 h ps0 hR)
def FX11_beds (N : Nat) (s : iv_M) (q0 : Nat) (x1 : Int) : Option (Int × iv_M) := (if (s ((s q0 4).toNat) 0) = 0 then (FX11_beds_b20 N s) else (if x1 < 0 then (FX11_beds_b20 N s) else (if x1 ≤ 6 then ((FX11_ruleInForce N s q0).bind fun v_2131 => ((FX10_roomsWished N s (q0 + 81) ((s q0 4).toNat) v_2131 ((q0 + 102) + 8)).bind fun s_2133 => (if x1 = 0 then ((FX4_layPeople N s_2133 (q0 + 102) ((s_2133 q0 4).toNat)).bind fun r_2139 => (fun (v_2139 : Int) (s_2140 : iv_M) => (some (v_2139, s_2140))) r_2139.1 r_2139.2) else ((FX2_isPerson N s_2133 ((s_2133 q0 4).toNat) (w32 (x1 - 1))).bind fun v_2135 => (if v_2135 = 0 then (FX11_beds_b92 N s_2133 (-2)) else ((FX4_firstBed N s_2133 (q0 + 102) ((s_2133 q0 4).toNat) (w32 (x1 - 1))).bind fun r_2137 => (fun (v_2137 : Int) (s_2138 : iv_M) => (FX11_beds_b92 N s_2138 v_2137)) r_2137.1 r_2137.2)))))) else (FX11_beds_b20 N s))))
set_option maxRecDepth 10000 in
set_option maxHeartbeats 4000000 in
theorem RX11_beds {d N nc Ls : Nat} {Xs : Nat → Int32} (hd : 7 ≤ d) {h : iv_H} {s : iv_M} (hR : Rep nc Ls Xs h s) {q0 : Nat} (t0 : T11 nc q0) {m1 : Int32} {x1 : Int} (p1 : m1.toInt = x1) {r : Int × iv_M} {Q : Option Value → iv_H → Prop} (e : FX11_beds N s q0 x1 = some r) (hq : ∀ (z : Int32) (h1 : iv_H), z.toInt = r.1 → Rep nc Ls Xs h1 r.2 → Q (some (.int z)) h1) : Cl d 175 [.ref q0, .int m1] h Q := by
  obtain ⟨d, rfl⟩ : ∃ k, d = k + 1 := ⟨d - 1, by omega⟩
  have hd : 6 ≤ d := by omega
  have hT := hX11_beds
  unfold FX11_beds at e
  refine Cl.into (by decide) gX11_beds rfl ?_
  show Rn d 175 (some .int) 0 [some (.ref q0), some (.int m1)] [] h Q
  refine Rn.n hT 1 (pc' := 1) (L' := [some (.ref q0), some (.int m1)]) (st' := [.ref q0]) rfl ?_
  refine Rn.hp hT rfl rfl (gR_hp (rp_gP (k := 4) hR (T11_o t0) rfl (nn_114 hR t0))) ?_
  obtain ⟨z_2127, g_2127, p_2127⟩ : ∃ z : Int32, gI h 2 0 ((s q0 4).toNat) = some z ∧ z.toInt = s ((s q0 4).toNat) 0 := rp_gI (k := 0) hR (T2_o (ty_114 hR t0)) rfl
  refine Rn.hp hT rfl rfl (gI_hp g_2127) ?_
  by_cases c_2128 : (s ((s q0 4).toNat) 0) = 0
  · rw [if_pos c_2128] at e
    refine Rn.bt hT rfl rfl rfl (decide_eq_true ((ti_e p_2127 L32_0).mpr c_2128)) ?_
    exact Rn.weak (ll_n (ll_n ll_e)) (RX11_beds_b20 hd hR hq e)
  · rw [if_neg c_2128] at e
    refine Rn.bf hT rfl rfl rfl (decide_eq_false (fun z => c_2128 ((ti_e p_2127 L32_0).mp z))) ?_
    refine Rn.n hT 1 (pc' := 11) (L' := [some (.ref q0), some (.int m1)]) (st' := [.int m1]) rfl ?_
    by_cases c_2129 : x1 < 0
    · rw [if_pos c_2129] at e
      refine Rn.bt hT rfl rfl rfl (decide_eq_true ((ti_l p1 L32_0).mpr c_2129)) ?_
      exact Rn.weak (ll_n (ll_n ll_e)) (RX11_beds_b20 hd hR hq e)
    · rw [if_neg c_2129] at e
      refine Rn.bf hT rfl rfl rfl (decide_eq_false (fun z => c_2129 ((ti_l p1 L32_0).mp z))) ?_
      refine Rn.n hT 2 (pc' := 17) (L' := [some (.ref q0), some (.int m1)]) (st' := [.int (6 : Int32), .int m1]) rfl ?_
      by_cases c_2130 : x1 ≤ 6
      · rw [if_pos c_2130] at e
        refine Rn.bt hT rfl rfl rfl (decide_eq_true ((ti_le p1 L32_6).mpr c_2130)) ?_
        refine Rn.n hT 1 (pc' := 23) (L' := [some (.ref q0), some (.int m1)]) (st' := [.ref q0]) rfl ?_
        refine Rn.hp hT rfl rfl (gR_hp (rp_gR hR (T11_o t0) rfl)) ?_
        refine Rn.n hT 1 (pc' := 27) (L' := [some (.ref q0), some (.int m1)]) (st' := [.ref q0, .ref (q0 + 81)]) rfl ?_
        refine Rn.hp hT rfl rfl (gR_hp (rp_gP (k := 4) hR (T11_o t0) rfl (nn_114 hR t0))) ?_
        refine Rn.n hT 1 (pc' := 31) (L' := [some (.ref q0), some (.int m1)]) (st' := [.ref q0, .ref ((s q0 4).toNat), .ref (q0 + 81)]) rfl ?_
        obtain ⟨v_2131, e_2131, e⟩ := Option.bind_eq_some_iff.mp e
        refine Rn.call hT rfl rfl rfl (Nat.le_of_ble_eq_true rfl) (rcv_v gX11_ruleInForce (by omega) (rp_ck hR (T11_o t0))) (RX11_ruleInForce (by omega) hR t0 e_2131 (fun t_2131 => ?_))
        show Rn d _ _ 34 [some (.ref q0), some (.int m1)] [iv_rf (rvo v_2131), .ref ((s q0 4).toNat), .ref (q0 + 81)] h Q
        refine Rn.n hT 1 (pc' := 35) (L' := [some (.ref q0), some (.int m1)]) (st' := [.ref q0, iv_rf (rvo v_2131), .ref ((s q0 4).toNat), .ref (q0 + 81)]) rfl ?_
        refine Rn.hp hT rfl rfl (gR_hp (rp_gR hR (T11_o t0) rfl)) ?_
        refine Rn.hp hT rfl rfl (gR_hp (rp_gR hR (T4_o (T11_13 t0)) rfl)) ?_
        obtain ⟨s_2133, e_2132, e⟩ := Option.bind_eq_some_iff.mp e
        refine Rn.call hT rfl rfl rfl (Nat.le_of_ble_eq_true rfl) (rcv_v gX10_roomsWished (by omega) (rp_ck hR (T10_o (T11_11 t0)))) (RX10_roomsWished (by omega) hR (T11_11 t0) (ty_114 hR t0) t_2131 (T4_4 (T11_13 t0)) e_2132 (fun h_2133 R_2133 => ?_))
        show Rn d _ _ 44 [some (.ref q0), some (.int m1)] [] h_2133 Q
        refine Rn.n hT 1 (pc' := 45) (L' := [some (.ref q0), some (.int m1)]) (st' := [.int m1]) rfl ?_
        by_cases c_2134 : x1 = 0
        · rw [if_pos c_2134] at e
          refine Rn.bf hT rfl rfl rfl (decide_eq_false (fun z => z ((ti_e p1 L32_0).mpr c_2134))) ?_
          refine Rn.n hT 1 (pc' := 49) (L' := [some (.ref q0), some (.int m1)]) (st' := [.ref q0]) rfl ?_
          refine Rn.hp hT rfl rfl (gR_hp (rp_gR R_2133 (T11_o t0) rfl)) ?_
          refine Rn.n hT 1 (pc' := 53) (L' := [some (.ref q0), some (.int m1)]) (st' := [.ref q0, .ref (q0 + 102)]) rfl ?_
          refine Rn.hp hT rfl rfl (gR_hp (rp_gP (k := 4) R_2133 (T11_o t0) rfl (nn_114 R_2133 t0))) ?_
          obtain ⟨⟨v_2139, s_2140⟩, e_2139, e⟩ := Option.bind_eq_some_iff.mp e
          try dsimp only at e
          try dsimp only at e
          refine Rn.call hT rfl rfl rfl (Nat.le_of_ble_eq_true rfl) (rcv_v gX4_layPeople (by omega) (rp_ck R_2133 (T4_o (T11_13 t0)))) (RX4_layPeople (by omega) R_2133 (T11_13 t0) (ty_114 R_2133 t0) e_2139 (fun z_2139 h_2140 p_2139 R_2140 => ?_))
          show Rn d _ _ 59 [some (.ref q0), some (.int m1)] [.int z_2139] h_2140 Q
          obtain rfl := Option.some.inj e
          exact Rn.ret hT rfl rfl rfl (hq z_2139 h_2140 p_2139 R_2140)
        · rw [if_neg c_2134] at e
          refine Rn.bt hT rfl rfl rfl (decide_eq_true (fun z => c_2134 ((ti_e p1 L32_0).mp z))) ?_
          refine Rn.n hT 1 (pc' := 61) (L' := [some (.ref q0), some (.int m1)]) (st' := [.ref q0]) rfl ?_
          refine Rn.hp hT rfl rfl (gR_hp (rp_gP (k := 4) R_2133 (T11_o t0) rfl (nn_114 R_2133 t0))) ?_
          refine Rn.n hT 3 (pc' := 67) (L' := [some (.ref q0), some (.int m1)]) (st' := [.int (m1 - (1 : Int32)), .ref ((s_2133 q0 4).toNat)]) rfl ?_
          obtain ⟨v_2135, e_2135, e⟩ := Option.bind_eq_some_iff.mp e
          refine Rn.call hT rfl rfl rfl (Nat.le_of_ble_eq_true rfl) (rcv_v gX2_isPerson (by omega) (rp_ck R_2133 (T2_o (ty_114 R_2133 t0)))) (RX2_isPerson (by omega) R_2133 (ty_114 R_2133 t0) (ti_sub p1 L32_1) e_2135 (fun z_2135 p_2135 => ?_))
          show Rn d _ _ 70 [some (.ref q0), some (.int m1)] [.int z_2135] h_2133 Q
          by_cases c_2136 : v_2135 = 0
          · rw [if_pos c_2136] at e
            refine Rn.bt hT rfl rfl rfl (decide_eq_true ((ti_e p_2135 L32_0).mpr c_2136)) ?_
            refine Rn.n hT 1 (pc' := 92) (L' := [some (.ref q0), some (.int m1)]) (st' := [.int (-2 : Int32)]) rfl ?_
            exact Rn.weak (ll_n (ll_n ll_e)) (RX11_beds_b92 hd R_2133 L32_m2 hq e)
          · rw [if_neg c_2136] at e
            refine Rn.bf hT rfl rfl rfl (decide_eq_false (fun z => c_2136 ((ti_e p_2135 L32_0).mp z))) ?_
            refine Rn.n hT 1 (pc' := 74) (L' := [some (.ref q0), some (.int m1)]) (st' := [.ref q0]) rfl ?_
            refine Rn.hp hT rfl rfl (gR_hp (rp_gR R_2133 (T11_o t0) rfl)) ?_
            refine Rn.n hT 1 (pc' := 78) (L' := [some (.ref q0), some (.int m1)]) (st' := [.ref q0, .ref (q0 + 102)]) rfl ?_
            refine Rn.hp hT rfl rfl (gR_hp (rp_gP (k := 4) R_2133 (T11_o t0) rfl (nn_114 R_2133 t0))) ?_
            refine Rn.n hT 3 (pc' := 84) (L' := [some (.ref q0), some (.int m1)]) (st' := [.int (m1 - (1 : Int32)), .ref ((s_2133 q0 4).toNat), .ref (q0 + 102)]) rfl ?_
            obtain ⟨⟨v_2137, s_2138⟩, e_2137, e⟩ := Option.bind_eq_some_iff.mp e
            try dsimp only at e
            try dsimp only at e
            refine Rn.call hT rfl rfl rfl (Nat.le_of_ble_eq_true rfl) (rcv_v gX4_firstBed (by omega) (rp_ck R_2133 (T4_o (T11_13 t0)))) (RX4_firstBed (by omega) R_2133 (T11_13 t0) (ty_114 R_2133 t0) (ti_sub p1 L32_1) e_2137 (fun z_2137 h_2138 p_2137 R_2138 => ?_))
            show Rn d _ _ 87 [some (.ref q0), some (.int m1)] [.int z_2137] h_2138 Q
            refine Rn.n hT 1 (pc' := 92) (L' := [some (.ref q0), some (.int m1)]) (st' := [.int z_2137]) rfl ?_
            exact Rn.weak (ll_n (ll_n ll_e)) (RX11_beds_b92 hd R_2138 p_2137 hq e)
      · rw [if_neg c_2130] at e
        refine Rn.bf hT rfl rfl rfl (decide_eq_false (fun z => c_2130 ((ti_le p1 L32_6).mp z))) ?_
        exact Rn.weak (ll_n (ll_n ll_e)) (RX11_beds_b20 hd hR hq e)
set_option maxRecDepth 10000 in
theorem hX11_almost : iv_Tb 176 tX11_almost := iv_tb_of (m := mX11_almost) rfl
set_option maxRecDepth 10000 in
theorem gX11_almost : PG.2 176 = some mX11_almost := iv_pi_of (t := tX11_almost) rfl (by decide)
def FX11_almost_b22 (N : Nat) (s : iv_M)   : Option (Int × iv_M) := (some ((-1), s))
set_option maxRecDepth 10000 in
set_option maxHeartbeats 4000000 in
theorem RX11_almost_b22 {d N nc Ls : Nat} {Xs : Nat → Int32} (hd : 6 ≤ d) {h : iv_H} {s : iv_M} (hR : Rep nc Ls Xs h s)   {r : Int × iv_M} {Q : Option Value → iv_H → Prop} (hq : ∀ (z : Int32) (h1 : iv_H), z.toInt = r.1 → Rep nc Ls Xs h1 r.2 → Q (some (.int z)) h1) (e : FX11_almost_b22 N s   = some r) : Rn d 176 (some .int) 22 [none, none, none] [] h Q := by
  have hT := hX11_almost
  unfold FX11_almost_b22 at e
  refine Rn.n hT 1 (pc' := 23) (L' := [none, none, none]) (st' := [.int (-1 : Int32)]) rfl ?_
  obtain rfl := Option.some.inj e
  exact Rn.ret hT rfl rfl rfl (hq (-1 : Int32) h L32_m1 hR)
def FX11_almost (N : Nat) (s : iv_M) (q0 : Nat) (x1 : Int) (x2 : Int) : Option (Int × iv_M) := ((FX2_isPerson N s ((s q0 4).toNat) x1).bind fun v_2141 => (if v_2141 = 0 then (FX11_almost_b22 N s) else ((FX2_isRoom N s ((s q0 4).toNat) x2).bind fun v_2143 => (if v_2143 = 0 then (FX11_almost_b22 N s) else ((FX11_ruleInForce N s q0).bind fun v_2145 => ((FX10_roomsWished N s (q0 + 81) ((s q0 4).toNat) v_2145 ((q0 + 102) + 8)).bind fun s_2147 => ((rd s_2147 ((q0 + 102) + 8) 6 x1).bind fun v_2148 => ((wr s_2147 ((q0 + 102) + 8) 6 x1 (bAn v_2148 (sl32 1 x2))).bind fun s_2149 => ((FX4_layPeople N s_2149 (q0 + 102) ((s_2149 q0 4).toNat)).bind fun r_2151 => (fun (v_2151 : Int) (s_2152 : iv_M) => (some (v_2151, s_2152))) r_2151.1 r_2151.2)))))))))
set_option maxRecDepth 10000 in
set_option maxHeartbeats 4000000 in
theorem RX11_almost {d N nc Ls : Nat} {Xs : Nat → Int32} (hd : 7 ≤ d) {h : iv_H} {s : iv_M} (hR : Rep nc Ls Xs h s) {q0 : Nat} (t0 : T11 nc q0) {m1 : Int32} {x1 : Int} (p1 : m1.toInt = x1) {m2 : Int32} {x2 : Int} (p2 : m2.toInt = x2) {r : Int × iv_M} {Q : Option Value → iv_H → Prop} (e : FX11_almost N s q0 x1 x2 = some r) (hq : ∀ (z : Int32) (h1 : iv_H), z.toInt = r.1 → Rep nc Ls Xs h1 r.2 → Q (some (.int z)) h1) : Cl d 176 [.ref q0, .int m1, .int m2] h Q := by
  obtain ⟨d, rfl⟩ : ∃ k, d = k + 1 := ⟨d - 1, by omega⟩
  have hd : 6 ≤ d := by omega
  have hT := hX11_almost
  unfold FX11_almost at e
  refine Cl.into (by decide) gX11_almost rfl ?_
  show Rn d 176 (some .int) 0 [some (.ref q0), some (.int m1), some (.int m2)] [] h Q
  refine Rn.n hT 1 (pc' := 1) (L' := [some (.ref q0), some (.int m1), some (.int m2)]) (st' := [.ref q0]) rfl ?_
  refine Rn.hp hT rfl rfl (gR_hp (rp_gP (k := 4) hR (T11_o t0) rfl (nn_114 hR t0))) ?_
  refine Rn.n hT 1 (pc' := 5) (L' := [some (.ref q0), some (.int m1), some (.int m2)]) (st' := [.int m1, .ref ((s q0 4).toNat)]) rfl ?_
  obtain ⟨v_2141, e_2141, e⟩ := Option.bind_eq_some_iff.mp e
  refine Rn.call hT rfl rfl rfl (Nat.le_of_ble_eq_true rfl) (rcv_v gX2_isPerson (by omega) (rp_ck hR (T2_o (ty_114 hR t0)))) (RX2_isPerson (by omega) hR (ty_114 hR t0) p1 e_2141 (fun z_2141 p_2141 => ?_))
  show Rn d _ _ 8 [some (.ref q0), some (.int m1), some (.int m2)] [.int z_2141] h Q
  by_cases c_2142 : v_2141 = 0
  · rw [if_pos c_2142] at e
    refine Rn.bt hT rfl rfl rfl (decide_eq_true ((ti_e p_2141 L32_0).mpr c_2142)) ?_
    exact Rn.weak (ll_n (ll_n (ll_n ll_e))) (RX11_almost_b22 hd hR hq e)
  · rw [if_neg c_2142] at e
    refine Rn.bf hT rfl rfl rfl (decide_eq_false (fun z => c_2142 ((ti_e p_2141 L32_0).mp z))) ?_
    refine Rn.n hT 1 (pc' := 12) (L' := [some (.ref q0), some (.int m1), some (.int m2)]) (st' := [.ref q0]) rfl ?_
    refine Rn.hp hT rfl rfl (gR_hp (rp_gP (k := 4) hR (T11_o t0) rfl (nn_114 hR t0))) ?_
    refine Rn.n hT 1 (pc' := 16) (L' := [some (.ref q0), some (.int m1), some (.int m2)]) (st' := [.int m2, .ref ((s q0 4).toNat)]) rfl ?_
    obtain ⟨v_2143, e_2143, e⟩ := Option.bind_eq_some_iff.mp e
    refine Rn.call hT rfl rfl rfl (Nat.le_of_ble_eq_true rfl) (rcv_v gX2_isRoom (by omega) (rp_ck hR (T2_o (ty_114 hR t0)))) (RX2_isRoom (by omega) hR (ty_114 hR t0) p2 e_2143 (fun z_2143 p_2143 => ?_))
    show Rn d _ _ 19 [some (.ref q0), some (.int m1), some (.int m2)] [.int z_2143] h Q
    by_cases c_2144 : v_2143 = 0
    · rw [if_pos c_2144] at e
      refine Rn.bf hT rfl rfl rfl (decide_eq_false (fun z => z ((ti_e p_2143 L32_0).mpr c_2144))) ?_
      exact Rn.weak (ll_n (ll_n (ll_n ll_e))) (RX11_almost_b22 hd hR hq e)
    · rw [if_neg c_2144] at e
      refine Rn.bt hT rfl rfl rfl (decide_eq_true (fun z => c_2144 ((ti_e p_2143 L32_0).mp z))) ?_
      refine Rn.n hT 1 (pc' := 25) (L' := [some (.ref q0), some (.int m1), some (.int m2)]) (st' := [.ref q0]) rfl ?_
      refine Rn.hp hT rfl rfl (gR_hp (rp_gR hR (T11_o t0) rfl)) ?_
      refine Rn.n hT 1 (pc' := 29) (L' := [some (.ref q0), some (.int m1), some (.int m2)]) (st' := [.ref q0, .ref (q0 + 81)]) rfl ?_
      refine Rn.hp hT rfl rfl (gR_hp (rp_gP (k := 4) hR (T11_o t0) rfl (nn_114 hR t0))) ?_
      refine Rn.n hT 1 (pc' := 33) (L' := [some (.ref q0), some (.int m1), some (.int m2)]) (st' := [.ref q0, .ref ((s q0 4).toNat), .ref (q0 + 81)]) rfl ?_
      obtain ⟨v_2145, e_2145, e⟩ := Option.bind_eq_some_iff.mp e
      refine Rn.call hT rfl rfl rfl (Nat.le_of_ble_eq_true rfl) (rcv_v gX11_ruleInForce (by omega) (rp_ck hR (T11_o t0))) (RX11_ruleInForce (by omega) hR t0 e_2145 (fun t_2145 => ?_))
      show Rn d _ _ 36 [some (.ref q0), some (.int m1), some (.int m2)] [iv_rf (rvo v_2145), .ref ((s q0 4).toNat), .ref (q0 + 81)] h Q
      refine Rn.n hT 1 (pc' := 37) (L' := [some (.ref q0), some (.int m1), some (.int m2)]) (st' := [.ref q0, iv_rf (rvo v_2145), .ref ((s q0 4).toNat), .ref (q0 + 81)]) rfl ?_
      refine Rn.hp hT rfl rfl (gR_hp (rp_gR hR (T11_o t0) rfl)) ?_
      refine Rn.hp hT rfl rfl (gR_hp (rp_gR hR (T4_o (T11_13 t0)) rfl)) ?_
      obtain ⟨s_2147, e_2146, e⟩ := Option.bind_eq_some_iff.mp e
      refine Rn.call hT rfl rfl rfl (Nat.le_of_ble_eq_true rfl) (rcv_v gX10_roomsWished (by omega) (rp_ck hR (T10_o (T11_11 t0)))) (RX10_roomsWished (by omega) hR (T11_11 t0) (ty_114 hR t0) t_2145 (T4_4 (T11_13 t0)) e_2146 (fun h_2147 R_2147 => ?_))
      show Rn d _ _ 46 [some (.ref q0), some (.int m1), some (.int m2)] [] h_2147 Q
      refine Rn.n hT 1 (pc' := 47) (L' := [some (.ref q0), some (.int m1), some (.int m2)]) (st' := [.ref q0]) rfl ?_
      refine Rn.hp hT rfl rfl (gR_hp (rp_gR R_2147 (T11_o t0) rfl)) ?_
      refine Rn.hp hT rfl rfl (gR_hp (rp_gR R_2147 (T4_o (T11_13 t0)) rfl)) ?_
      refine Rn.n hT 2 (pc' := 55) (L' := [some (.ref q0), some (.int m1), some (.int m2)]) (st' := [.int m1, .ref ((q0 + 102) + 8), .int m1, .ref ((q0 + 102) + 8)]) rfl ?_
      obtain ⟨v_2148, e_2148, e⟩ := Option.bind_eq_some_iff.mp e
      obtain ⟨z_2148, g_2148, p_2148⟩ := rp_aI R_2147 (T4_4 (T11_13 t0)) (T4_4l (T11_13 t0)) p1 e_2148
      refine Rn.hp hT rfl rfl (aI_hp g_2148) ?_
      refine Rn.n hT 4 (pc' := 60) (L' := [some (.ref q0), some (.int m1), some (.int m2)]) (st' := [.int (z_2148 &&& ((1 : Int32) <<< (m2 &&& 31))), .int m1, .ref ((q0 + 102) + 8)]) rfl ?_
      obtain ⟨s_2149, e_2150, e⟩ := Option.bind_eq_some_iff.mp e
      obtain ⟨h_2149, g_2150, R_2149⟩ := rp_wI R_2147 (T4_4 (T11_13 t0)) (T4_4l (T11_13 t0)) p1 (ti_and p_2148 (ti_shl L32_1 p2)) e_2150
      refine Rn.hp hT rfl rfl (wI_hp g_2150) ?_
      refine Rn.n hT 1 (pc' := 62) (L' := [some (.ref q0), some (.int m1), some (.int m2)]) (st' := [.ref q0]) rfl ?_
      refine Rn.hp hT rfl rfl (gR_hp (rp_gR R_2149 (T11_o t0) rfl)) ?_
      refine Rn.n hT 1 (pc' := 66) (L' := [some (.ref q0), some (.int m1), some (.int m2)]) (st' := [.ref q0, .ref (q0 + 102)]) rfl ?_
      refine Rn.hp hT rfl rfl (gR_hp (rp_gP (k := 4) R_2149 (T11_o t0) rfl (nn_114 R_2149 t0))) ?_
      obtain ⟨⟨v_2151, s_2152⟩, e_2151, e⟩ := Option.bind_eq_some_iff.mp e
      try dsimp only at e
      try dsimp only at e
      refine Rn.call hT rfl rfl rfl (Nat.le_of_ble_eq_true rfl) (rcv_v gX4_layPeople (by omega) (rp_ck R_2149 (T4_o (T11_13 t0)))) (RX4_layPeople (by omega) R_2149 (T11_13 t0) (ty_114 R_2149 t0) e_2151 (fun z_2151 h_2152 p_2151 R_2152 => ?_))
      show Rn d _ _ 72 [some (.ref q0), some (.int m1), some (.int m2)] [.int z_2151] h_2152 Q
      obtain rfl := Option.some.inj e
      exact Rn.ret hT rfl rfl rfl (hq z_2151 h_2152 p_2151 R_2152)
set_option maxRecDepth 10000 in
theorem hX11_guards : iv_Tb 177 tX11_guards := iv_tb_of (m := mX11_guards) rfl
set_option maxRecDepth 10000 in
theorem gX11_guards : PG.2 177 = some mX11_guards := iv_pi_of (t := tX11_guards) rfl (by decide)
def FX11_guards_b19 (N : Nat) (s : iv_M)   : Option (Int × iv_M) := (some ((-1), s))
set_option maxRecDepth 10000 in
set_option maxHeartbeats 4000000 in
theorem RX11_guards_b19 {d N nc Ls : Nat} {Xs : Nat → Int32} (hd : 4 ≤ d) {h : iv_H} {s : iv_M} (hR : Rep nc Ls Xs h s)   {r : Int × iv_M} {Q : Option Value → iv_H → Prop} (hq : ∀ (z : Int32) (h1 : iv_H), z.toInt = r.1 → Rep nc Ls Xs h1 r.2 → Q (some (.int z)) h1) (e : FX11_guards_b19 N s   = some r) : Rn d 177 (some .int) 19 [none, none, none] [] h Q := by
  have hT := hX11_guards
  unfold FX11_guards_b19 at e
  refine Rn.n hT 1 (pc' := 20) (L' := [none, none, none]) (st' := [.int (-1 : Int32)]) rfl ?_
  obtain rfl := Option.some.inj e
  exact Rn.ret hT rfl rfl rfl (hq (-1 : Int32) h L32_m1 hR)
def FX11_guards_b48 (N : Nat) (s : iv_M)  (xs0 : Int) : Option (Int × iv_M) := (some (xs0, s))
set_option maxRecDepth 10000 in
set_option maxHeartbeats 4000000 in
theorem RX11_guards_b48 {d N nc Ls : Nat} {Xs : Nat → Int32} (hd : 4 ≤ d) {h : iv_H} {s : iv_M} (hR : Rep nc Ls Xs h s)  {ms0 : Int32} {xs0 : Int} (ps0 : ms0.toInt = xs0) {r : Int × iv_M} {Q : Option Value → iv_H → Prop} (hq : ∀ (z : Int32) (h1 : iv_H), z.toInt = r.1 → Rep nc Ls Xs h1 r.2 → Q (some (.int z)) h1) (e : FX11_guards_b48 N s  xs0 = some r) : Rn d 177 (some .int) 48 [none, none, none] [.int ms0] h Q := by
  have hT := hX11_guards
  unfold FX11_guards_b48 at e
  obtain rfl := Option.some.inj e
  exact Rn.ret hT rfl rfl rfl (hq ms0 h ps0 hR)
def FX11_guards (N : Nat) (s : iv_M) (q0 : Nat) (x1 : Int) : Option (Int × iv_M) := (if (s ((s q0 4).toNat) 0) = 0 then (FX11_guards_b19 N s) else (if x1 < 0 then (FX11_guards_b19 N s) else (if x1 ≤ 1 then ((FX0_guarding N s (q0 + 98) ((s q0 4).toNat + 1)).bind fun r_2157 => (fun (v_2157 : Int) (s_2158 : iv_M) => (if x1 = 0 then ((FJ6_bitCount_0f7a4 N s_2158 v_2157).bind fun v_2160 => (FX11_guards_b48 N s_2158 v_2160)) else (FX11_guards_b48 N s_2158 v_2157))) r_2157.1 r_2157.2) else (FX11_guards_b19 N s))))
set_option maxRecDepth 10000 in
set_option maxHeartbeats 4000000 in
theorem RX11_guards {d N nc Ls : Nat} {Xs : Nat → Int32} (hd : 5 ≤ d) {h : iv_H} {s : iv_M} (hR : Rep nc Ls Xs h s) {q0 : Nat} (t0 : T11 nc q0) {m1 : Int32} {x1 : Int} (p1 : m1.toInt = x1) {r : Int × iv_M} {Q : Option Value → iv_H → Prop} (e : FX11_guards N s q0 x1 = some r) (hq : ∀ (z : Int32) (h1 : iv_H), z.toInt = r.1 → Rep nc Ls Xs h1 r.2 → Q (some (.int z)) h1) : Cl d 177 [.ref q0, .int m1] h Q := by
  obtain ⟨d, rfl⟩ : ∃ k, d = k + 1 := ⟨d - 1, by omega⟩
  have hd : 4 ≤ d := by omega
  have hT := hX11_guards
  unfold FX11_guards at e
  refine Cl.into (by decide) gX11_guards rfl ?_
  show Rn d 177 (some .int) 0 [some (.ref q0), some (.int m1), none] [] h Q
  refine Rn.n hT 1 (pc' := 1) (L' := [some (.ref q0), some (.int m1), none]) (st' := [.ref q0]) rfl ?_
  refine Rn.hp hT rfl rfl (gR_hp (rp_gP (k := 4) hR (T11_o t0) rfl (nn_114 hR t0))) ?_
  obtain ⟨z_2153, g_2153, p_2153⟩ : ∃ z : Int32, gI h 2 0 ((s q0 4).toNat) = some z ∧ z.toInt = s ((s q0 4).toNat) 0 := rp_gI (k := 0) hR (T2_o (ty_114 hR t0)) rfl
  refine Rn.hp hT rfl rfl (gI_hp g_2153) ?_
  by_cases c_2154 : (s ((s q0 4).toNat) 0) = 0
  · rw [if_pos c_2154] at e
    refine Rn.bt hT rfl rfl rfl (decide_eq_true ((ti_e p_2153 L32_0).mpr c_2154)) ?_
    exact Rn.weak (ll_n (ll_n (ll_n ll_e))) (RX11_guards_b19 hd hR hq e)
  · rw [if_neg c_2154] at e
    refine Rn.bf hT rfl rfl rfl (decide_eq_false (fun z => c_2154 ((ti_e p_2153 L32_0).mp z))) ?_
    refine Rn.n hT 1 (pc' := 11) (L' := [some (.ref q0), some (.int m1), none]) (st' := [.int m1]) rfl ?_
    by_cases c_2155 : x1 < 0
    · rw [if_pos c_2155] at e
      refine Rn.bt hT rfl rfl rfl (decide_eq_true ((ti_l p1 L32_0).mpr c_2155)) ?_
      exact Rn.weak (ll_n (ll_n (ll_n ll_e))) (RX11_guards_b19 hd hR hq e)
    · rw [if_neg c_2155] at e
      refine Rn.bf hT rfl rfl rfl (decide_eq_false (fun z => c_2155 ((ti_l p1 L32_0).mp z))) ?_
      refine Rn.n hT 2 (pc' := 16) (L' := [some (.ref q0), some (.int m1), none]) (st' := [.int (1 : Int32), .int m1]) rfl ?_
      by_cases c_2156 : x1 ≤ 1
      · rw [if_pos c_2156] at e
        refine Rn.bt hT rfl rfl rfl (decide_eq_true ((ti_le p1 L32_1).mpr c_2156)) ?_
        refine Rn.n hT 1 (pc' := 22) (L' := [some (.ref q0), some (.int m1), none]) (st' := [.ref q0]) rfl ?_
        refine Rn.hp hT rfl rfl (gR_hp (rp_gR hR (T11_o t0) rfl)) ?_
        refine Rn.n hT 1 (pc' := 26) (L' := [some (.ref q0), some (.int m1), none]) (st' := [.ref q0, .ref (q0 + 98)]) rfl ?_
        refine Rn.hp hT rfl rfl (gR_hp (rp_gP (k := 4) hR (T11_o t0) rfl (nn_114 hR t0))) ?_
        refine Rn.hp hT rfl rfl (gR_hp (rp_gR hR (T2_o (ty_114 hR t0)) rfl)) ?_
        obtain ⟨⟨v_2157, s_2158⟩, e_2157, e⟩ := Option.bind_eq_some_iff.mp e
        try dsimp only at e
        try dsimp only at e
        refine Rn.call hT rfl rfl rfl (Nat.le_of_ble_eq_true rfl) (rcv_v gX0_guarding (by omega) (rp_ck hR (T0_o (T11_12 t0)))) (RX0_guarding (by omega) hR (T11_12 t0) (T2_9 (ty_114 hR t0)) e_2157 (fun z_2157 h_2158 p_2157 R_2158 => ?_))
        show Rn d _ _ 35 [some (.ref q0), some (.int m1), none] [.int z_2157] h_2158 Q
        refine Rn.n hT 2 (pc' := 37) (L' := [some (.ref q0), some (.int m1), some (.int z_2157)]) (st' := [.int m1]) rfl ?_
        by_cases c_2159 : x1 = 0
        · rw [if_pos c_2159] at e
          refine Rn.bf hT rfl rfl rfl (decide_eq_false (fun z => z ((ti_e p1 L32_0).mpr c_2159))) ?_
          refine Rn.n hT 1 (pc' := 41) (L' := [some (.ref q0), some (.int m1), some (.int z_2157)]) (st' := [.int z_2157]) rfl ?_
          obtain ⟨v_2160, e_2160, e⟩ := Option.bind_eq_some_iff.mp e
          refine Rn.call hT rfl rfl rfl (Nat.le_of_ble_eq_true rfl) rfl (RJ6_bitCount_0f7a4 (by omega) R_2158 p_2157 e_2160 (fun z_2160 p_2160 => ?_))
          show Rn d _ _ 44 [some (.ref q0), some (.int m1), some (.int z_2157)] [.int z_2160] h_2158 Q
          refine Rn.n hT 1 (pc' := 48) (L' := [some (.ref q0), some (.int m1), some (.int z_2157)]) (st' := [.int z_2160]) rfl ?_
          exact Rn.weak (ll_n (ll_n (ll_n ll_e))) (RX11_guards_b48 hd R_2158 p_2160 hq e)
        · rw [if_neg c_2159] at e
          refine Rn.bt hT rfl rfl rfl (decide_eq_true (fun z => c_2159 ((ti_e p1 L32_0).mp z))) ?_
          refine Rn.n hT 1 (pc' := 48) (L' := [some (.ref q0), some (.int m1), some (.int z_2157)]) (st' := [.int z_2157]) rfl ?_
          exact Rn.weak (ll_n (ll_n (ll_n ll_e))) (RX11_guards_b48 hd R_2158 p_2157 hq e)
      · rw [if_neg c_2156] at e
        refine Rn.bf hT rfl rfl rfl (decide_eq_false (fun z => c_2156 ((ti_le p1 L32_1).mp z))) ?_
        exact Rn.weak (ll_n (ll_n (ll_n ll_e))) (RX11_guards_b19 hd hR hq e)
set_option maxRecDepth 10000 in
theorem hX11_drift : iv_Tb 178 tX11_drift := iv_tb_of (m := mX11_drift) rfl
set_option maxRecDepth 10000 in
theorem gX11_drift : PG.2 178 = some mX11_drift := iv_pi_of (t := tX11_drift) rfl (by decide)
def FX11_drift_b19 (N : Nat) (s : iv_M)   : Option (Int) := (some (-1))
set_option maxRecDepth 10000 in
set_option maxHeartbeats 4000000 in
theorem RX11_drift_b19 {d N nc Ls : Nat} {Xs : Nat → Int32} (hd : 2 ≤ d) {h : iv_H} {s : iv_M} (hR : Rep nc Ls Xs h s)   {r : Int} {Q : Option Value → iv_H → Prop} (hq : ∀ (z : Int32), z.toInt = r → Q (some (.int z)) h) (e : FX11_drift_b19 N s   = some r) : Rn d 178 (some .int) 19 [none, none, none] [] h Q := by
  have hT := hX11_drift
  unfold FX11_drift_b19 at e
  refine Rn.n hT 1 (pc' := 20) (L' := [none, none, none]) (st' := [.int (-1 : Int32)]) rfl ?_
  obtain rfl := Option.some.inj e
  exact Rn.ret hT rfl rfl rfl (hq (-1 : Int32) L32_m1)
def FX11_drift_b75 (N : Nat) (s : iv_M)  (xs0 : Int) : Option (Int) := (some xs0)
set_option maxRecDepth 10000 in
set_option maxHeartbeats 4000000 in
theorem RX11_drift_b75 {d N nc Ls : Nat} {Xs : Nat → Int32} (hd : 2 ≤ d) {h : iv_H} {s : iv_M} (hR : Rep nc Ls Xs h s)  {ms0 : Int32} {xs0 : Int} (ps0 : ms0.toInt = xs0) {r : Int} {Q : Option Value → iv_H → Prop} (hq : ∀ (z : Int32), z.toInt = r → Q (some (.int z)) h) (e : FX11_drift_b75 N s  xs0 = some r) : Rn d 178 (some .int) 75 [none, none, none] [.int ms0] h Q := by
  have hT := hX11_drift
  unfold FX11_drift_b75 at e
  obtain rfl := Option.some.inj e
  exact Rn.ret hT rfl rfl rfl (hq ms0 ps0)
def FX11_drift (N : Nat) (s : iv_M) (q0 : Nat) (x1 : Int) : Option (Int) := (if (s ((s q0 4).toNat) 0) = 0 then (FX11_drift_b19 N s) else (if x1 < 0 then (FX11_drift_b19 N s) else (if x1 ≤ 2 then (if x1 = 0 then ((FX1_lockedDrift N s ((s q0 4).toNat + 1)).bind fun v_2170 => (some v_2170)) else ((FX1_mostDoors N s ((s q0 4).toNat + 1)).bind fun v_2166 => (if v_2166 = (-1) then (some (-2)) else (if x1 = 1 then (FX11_drift_b75 N s v_2166) else ((FX1_doorsThatMeet N s ((s q0 4).toNat + 1) v_2166).bind fun v_2169 => (FX11_drift_b75 N s v_2169)))))) else (FX11_drift_b19 N s))))
set_option maxRecDepth 10000 in
set_option maxHeartbeats 4000000 in
theorem RX11_drift {d N nc Ls : Nat} {Xs : Nat → Int32} (hd : 3 ≤ d) {h : iv_H} {s : iv_M} (hR : Rep nc Ls Xs h s) {q0 : Nat} (t0 : T11 nc q0) {m1 : Int32} {x1 : Int} (p1 : m1.toInt = x1) {r : Int} {Q : Option Value → iv_H → Prop} (e : FX11_drift N s q0 x1 = some r) (hq : ∀ (z : Int32), z.toInt = r → Q (some (.int z)) h) : Cl d 178 [.ref q0, .int m1] h Q := by
  obtain ⟨d, rfl⟩ : ∃ k, d = k + 1 := ⟨d - 1, by omega⟩
  have hd : 2 ≤ d := by omega
  have hT := hX11_drift
  unfold FX11_drift at e
  refine Cl.into (by decide) gX11_drift rfl ?_
  show Rn d 178 (some .int) 0 [some (.ref q0), some (.int m1), none] [] h Q
  refine Rn.n hT 1 (pc' := 1) (L' := [some (.ref q0), some (.int m1), none]) (st' := [.ref q0]) rfl ?_
  refine Rn.hp hT rfl rfl (gR_hp (rp_gP (k := 4) hR (T11_o t0) rfl (nn_114 hR t0))) ?_
  obtain ⟨z_2161, g_2161, p_2161⟩ : ∃ z : Int32, gI h 2 0 ((s q0 4).toNat) = some z ∧ z.toInt = s ((s q0 4).toNat) 0 := rp_gI (k := 0) hR (T2_o (ty_114 hR t0)) rfl
  refine Rn.hp hT rfl rfl (gI_hp g_2161) ?_
  by_cases c_2162 : (s ((s q0 4).toNat) 0) = 0
  · rw [if_pos c_2162] at e
    refine Rn.bt hT rfl rfl rfl (decide_eq_true ((ti_e p_2161 L32_0).mpr c_2162)) ?_
    exact Rn.weak (ll_n (ll_n (ll_n ll_e))) (RX11_drift_b19 hd hR hq e)
  · rw [if_neg c_2162] at e
    refine Rn.bf hT rfl rfl rfl (decide_eq_false (fun z => c_2162 ((ti_e p_2161 L32_0).mp z))) ?_
    refine Rn.n hT 1 (pc' := 11) (L' := [some (.ref q0), some (.int m1), none]) (st' := [.int m1]) rfl ?_
    by_cases c_2163 : x1 < 0
    · rw [if_pos c_2163] at e
      refine Rn.bt hT rfl rfl rfl (decide_eq_true ((ti_l p1 L32_0).mpr c_2163)) ?_
      exact Rn.weak (ll_n (ll_n (ll_n ll_e))) (RX11_drift_b19 hd hR hq e)
    · rw [if_neg c_2163] at e
      refine Rn.bf hT rfl rfl rfl (decide_eq_false (fun z => c_2163 ((ti_l p1 L32_0).mp z))) ?_
      refine Rn.n hT 2 (pc' := 16) (L' := [some (.ref q0), some (.int m1), none]) (st' := [.int (2 : Int32), .int m1]) rfl ?_
      by_cases c_2164 : x1 ≤ 2
      · rw [if_pos c_2164] at e
        refine Rn.bt hT rfl rfl rfl (decide_eq_true ((ti_le p1 L32_2).mpr c_2164)) ?_
        refine Rn.n hT 1 (pc' := 22) (L' := [some (.ref q0), some (.int m1), none]) (st' := [.int m1]) rfl ?_
        by_cases c_2165 : x1 = 0
        · rw [if_pos c_2165] at e
          refine Rn.bf hT rfl rfl rfl (decide_eq_false (fun z => z ((ti_e p1 L32_0).mpr c_2165))) ?_
          refine Rn.n hT 1 (pc' := 26) (L' := [some (.ref q0), some (.int m1), none]) (st' := [.ref q0]) rfl ?_
          refine Rn.hp hT rfl rfl (gR_hp (rp_gP (k := 4) hR (T11_o t0) rfl (nn_114 hR t0))) ?_
          refine Rn.hp hT rfl rfl (gR_hp (rp_gR hR (T2_o (ty_114 hR t0)) rfl)) ?_
          obtain ⟨v_2170, e_2170, e⟩ := Option.bind_eq_some_iff.mp e
          refine Rn.call hT rfl rfl rfl (Nat.le_of_ble_eq_true rfl) (rcv_v gX1_lockedDrift (by omega) (rp_ck hR (T1_o (T2_9 (ty_114 hR t0))))) (RX1_lockedDrift (by omega) hR (T2_9 (ty_114 hR t0)) e_2170 (fun z_2170 p_2170 => ?_))
          show Rn d _ _ 35 [some (.ref q0), some (.int m1), none] [.int z_2170] h Q
          obtain rfl := Option.some.inj e
          exact Rn.ret hT rfl rfl rfl (hq z_2170 p_2170)
        · rw [if_neg c_2165] at e
          refine Rn.bt hT rfl rfl rfl (decide_eq_true (fun z => c_2165 ((ti_e p1 L32_0).mp z))) ?_
          refine Rn.n hT 1 (pc' := 37) (L' := [some (.ref q0), some (.int m1), none]) (st' := [.ref q0]) rfl ?_
          refine Rn.hp hT rfl rfl (gR_hp (rp_gP (k := 4) hR (T11_o t0) rfl (nn_114 hR t0))) ?_
          refine Rn.hp hT rfl rfl (gR_hp (rp_gR hR (T2_o (ty_114 hR t0)) rfl)) ?_
          obtain ⟨v_2166, e_2166, e⟩ := Option.bind_eq_some_iff.mp e
          refine Rn.call hT rfl rfl rfl (Nat.le_of_ble_eq_true rfl) (rcv_v gX1_mostDoors (by omega) (rp_ck hR (T1_o (T2_9 (ty_114 hR t0))))) (RX1_mostDoors (by omega) hR (T2_9 (ty_114 hR t0)) e_2166 (fun z_2166 p_2166 => ?_))
          show Rn d _ _ 46 [some (.ref q0), some (.int m1), none] [.int z_2166] h Q
          refine Rn.n hT 3 (pc' := 49) (L' := [some (.ref q0), some (.int m1), some (.int z_2166)]) (st' := [.int (-1 : Int32), .int z_2166]) rfl ?_
          by_cases c_2167 : v_2166 = (-1)
          · rw [if_pos c_2167] at e
            refine Rn.bf hT rfl rfl rfl (decide_eq_false (fun z => z ((ti_e p_2166 L32_m1).mpr c_2167))) ?_
            refine Rn.n hT 1 (pc' := 54) (L' := [some (.ref q0), some (.int m1), some (.int z_2166)]) (st' := [.int (-2 : Int32)]) rfl ?_
            obtain rfl := Option.some.inj e
            exact Rn.ret hT rfl rfl rfl (hq (-2 : Int32) L32_m2)
          · rw [if_neg c_2167] at e
            refine Rn.bt hT rfl rfl rfl (decide_eq_true (fun z => c_2167 ((ti_e p_2166 L32_m1).mp z))) ?_
            refine Rn.n hT 2 (pc' := 57) (L' := [some (.ref q0), some (.int m1), some (.int z_2166)]) (st' := [.int (1 : Int32), .int m1]) rfl ?_
            by_cases c_2168 : x1 = 1
            · rw [if_pos c_2168] at e
              refine Rn.bf hT rfl rfl rfl (decide_eq_false (fun z => z ((ti_e p1 L32_1).mpr c_2168))) ?_
              refine Rn.n hT 2 (pc' := 75) (L' := [some (.ref q0), some (.int m1), some (.int z_2166)]) (st' := [.int z_2166]) rfl ?_
              exact Rn.weak (ll_n (ll_n (ll_n ll_e))) (RX11_drift_b75 hd hR p_2166 hq e)
            · rw [if_neg c_2168] at e
              refine Rn.bt hT rfl rfl rfl (decide_eq_true (fun z => c_2168 ((ti_e p1 L32_1).mp z))) ?_
              refine Rn.n hT 1 (pc' := 65) (L' := [some (.ref q0), some (.int m1), some (.int z_2166)]) (st' := [.ref q0]) rfl ?_
              refine Rn.hp hT rfl rfl (gR_hp (rp_gP (k := 4) hR (T11_o t0) rfl (nn_114 hR t0))) ?_
              refine Rn.hp hT rfl rfl (gR_hp (rp_gR hR (T2_o (ty_114 hR t0)) rfl)) ?_
              refine Rn.n hT 1 (pc' := 72) (L' := [some (.ref q0), some (.int m1), some (.int z_2166)]) (st' := [.int z_2166, .ref ((s q0 4).toNat + 1)]) rfl ?_
              obtain ⟨v_2169, e_2169, e⟩ := Option.bind_eq_some_iff.mp e
              refine Rn.call hT rfl rfl rfl (Nat.le_of_ble_eq_true rfl) (rcv_v gX1_doorsThatMeet (by omega) (rp_ck hR (T1_o (T2_9 (ty_114 hR t0))))) (RX1_doorsThatMeet (by omega) hR (T2_9 (ty_114 hR t0)) p_2166 e_2169 (fun z_2169 p_2169 => ?_))
              show Rn d _ _ 75 [some (.ref q0), some (.int m1), some (.int z_2166)] [.int z_2169] h Q
              exact Rn.weak (ll_n (ll_n (ll_n ll_e))) (RX11_drift_b75 hd hR p_2169 hq e)
      · rw [if_neg c_2164] at e
        refine Rn.bf hT rfl rfl rfl (decide_eq_false (fun z => c_2164 ((ti_le p1 L32_2).mp z))) ?_
        exact Rn.weak (ll_n (ll_n (ll_n ll_e))) (RX11_drift_b19 hd hR hq e)
set_option maxRecDepth 10000 in
theorem hX11_woke : iv_Tb 179 tX11_woke := iv_tb_of (m := mX11_woke) rfl
set_option maxRecDepth 10000 in
theorem gX11_woke : PG.2 179 = some mX11_woke := iv_pi_of (t := tX11_woke) rfl (by decide)
def FX11_woke_b79 (N : Nat) (s : iv_M)   : Option (Int × iv_M) := (some ((-2), s))
set_option maxRecDepth 10000 in
set_option maxHeartbeats 4000000 in
theorem RX11_woke_b79 {d N nc Ls : Nat} {Xs : Nat → Int32} (hd : 1 ≤ d) {h : iv_H} {s : iv_M} (hR : Rep nc Ls Xs h s)   {r : Int × iv_M} {Q : Option Value → iv_H → Prop} (hq : ∀ (z : Int32) (h1 : iv_H), z.toInt = r.1 → Rep nc Ls Xs h1 r.2 → Q (some (.int z)) h1) (e : FX11_woke_b79 N s   = some r) : Rn d 179 (some .int) 79 [none, none, none, none, none] [] h Q := by
  have hT := hX11_woke
  unfold FX11_woke_b79 at e
  refine Rn.n hT 1 (pc' := 81) (L' := [none, none, none, none, none]) (st' := [.int (-2 : Int32)]) rfl ?_
  obtain rfl := Option.some.inj e
  exact Rn.ret hT rfl rfl rfl (hq (-2 : Int32) h L32_m2 hR)
def FX11_woke (N : Nat) (s : iv_M) (q0 : Nat) (x1 : Int) (x2 : Int) (x3 : Int) : Option (Int × iv_M) := (if x1 = (-1) then ((pt s ((s q0 4).toNat + 20) 1 0).bind fun s_2183 => ((pt s_2183 q0 15 (w32 ((s_2183 q0 15) + 1))).bind fun s_2186 => (some (0, s_2186)))) else ((FX1_cellAt N s ((s q0 4).toNat + 1) x2 x3).bind fun v_2172 => ((FX2_isRoom N s ((s q0 4).toNat) x1).bind fun v_2173 => (if v_2173 = 0 then (FX11_woke_b79 N s) else (if v_2172 = (-1) then (FX11_woke_b79 N s) else ((FX7_add N s ((s q0 4).toNat + 20) (bOr (sl32 x1 4) v_2172)).bind fun r_2176 => (fun (v_2176 : Int) (s_2177 : iv_M) => (if v_2176 = 0 then (FX11_woke_b79 N s_2177) else ((pt s_2177 q0 15 (w32 ((s_2177 q0 15) + 1))).bind fun s_2180 => (some ((s_2180 ((s_2180 q0 4).toNat + 20) 1), s_2180))))) r_2176.1 r_2176.2))))))
set_option maxRecDepth 10000 in
set_option maxHeartbeats 4000000 in
theorem RX11_woke {d N nc Ls : Nat} {Xs : Nat → Int32} (hd : 2 ≤ d) {h : iv_H} {s : iv_M} (hR : Rep nc Ls Xs h s) {q0 : Nat} (t0 : T11 nc q0) {m1 : Int32} {x1 : Int} (p1 : m1.toInt = x1) {m2 : Int32} {x2 : Int} (p2 : m2.toInt = x2) {m3 : Int32} {x3 : Int} (p3 : m3.toInt = x3) {r : Int × iv_M} {Q : Option Value → iv_H → Prop} (e : FX11_woke N s q0 x1 x2 x3 = some r) (hq : ∀ (z : Int32) (h1 : iv_H), z.toInt = r.1 → Rep nc Ls Xs h1 r.2 → Q (some (.int z)) h1) : Cl d 179 [.ref q0, .int m1, .int m2, .int m3] h Q := by
  obtain ⟨d, rfl⟩ : ∃ k, d = k + 1 := ⟨d - 1, by omega⟩
  have hd : 1 ≤ d := by omega
  have hT := hX11_woke
  unfold FX11_woke at e
  refine Cl.into (by decide) gX11_woke rfl ?_
  show Rn d 179 (some .int) 0 [some (.ref q0), some (.int m1), some (.int m2), some (.int m3), none] [] h Q
  refine Rn.n hT 2 (pc' := 2) (L' := [some (.ref q0), some (.int m1), some (.int m2), some (.int m3), none]) (st' := [.int (-1 : Int32), .int m1]) rfl ?_
  by_cases c_2171 : x1 = (-1)
  · rw [if_pos c_2171] at e
    refine Rn.bf hT rfl rfl rfl (decide_eq_false (fun z => z ((ti_e p1 L32_m1).mpr c_2171))) ?_
    refine Rn.n hT 1 (pc' := 6) (L' := [some (.ref q0), some (.int m1), some (.int m2), some (.int m3), none]) (st' := [.ref q0]) rfl ?_
    refine Rn.hp hT rfl rfl (gR_hp (rp_gP (k := 4) hR (T11_o t0) rfl (nn_114 hR t0))) ?_
    refine Rn.hp hT rfl rfl (gR_hp (rp_gR hR (T2_o (ty_114 hR t0)) rfl)) ?_
    refine Rn.n hT 1 (pc' := 13) (L' := [some (.ref q0), some (.int m1), some (.int m2), some (.int m3), none]) (st' := [.int (0 : Int32), .ref ((s q0 4).toNat + 20)]) rfl ?_
    obtain ⟨s_2183, e_2184, e⟩ := Option.bind_eq_some_iff.mp e
    obtain ⟨h_2183, g_2184, R_2183⟩ := rp_pI (ci := 7) (k := 1) hR (T7_o (T2_18 (ty_114 hR t0))) rfl rfl L32_0 e_2184
    refine Rn.hp hT rfl rfl (pV_hp rfl g_2184) ?_
    refine Rn.n hT 2 (pc' := 18) (L' := [some (.ref q0), some (.int m1), some (.int m2), some (.int m3), none]) (st' := [.ref q0, .ref q0]) rfl ?_
    obtain ⟨z_2185, g_2185, p_2185⟩ : ∃ z : Int32, gI h_2183 11 15 q0 = some z ∧ z.toInt = s_2183 q0 15 := rp_gI (k := 15) R_2183 (T11_o t0) rfl
    refine Rn.hp hT rfl rfl (gI_hp g_2185) ?_
    refine Rn.n hT 2 (pc' := 23) (L' := [some (.ref q0), some (.int m1), some (.int m2), some (.int m3), none]) (st' := [.int (z_2185 + (1 : Int32)), .ref q0]) rfl ?_
    obtain ⟨s_2186, e_2187, e⟩ := Option.bind_eq_some_iff.mp e
    obtain ⟨h_2186, g_2187, R_2186⟩ := rp_pI (ci := 11) (k := 15) R_2183 (T11_o t0) rfl rfl (ti_add p_2185 L32_1) e_2187
    refine Rn.hp hT rfl rfl (pV_hp rfl g_2187) ?_
    refine Rn.n hT 1 (pc' := 27) (L' := [some (.ref q0), some (.int m1), some (.int m2), some (.int m3), none]) (st' := [.int (0 : Int32)]) rfl ?_
    obtain rfl := Option.some.inj e
    exact Rn.ret hT rfl rfl rfl (hq (0 : Int32) h_2186 L32_0 R_2186)
  · rw [if_neg c_2171] at e
    refine Rn.bt hT rfl rfl rfl (decide_eq_true (fun z => c_2171 ((ti_e p1 L32_m1).mp z))) ?_
    refine Rn.n hT 1 (pc' := 29) (L' := [some (.ref q0), some (.int m1), some (.int m2), some (.int m3), none]) (st' := [.ref q0]) rfl ?_
    refine Rn.hp hT rfl rfl (gR_hp (rp_gP (k := 4) hR (T11_o t0) rfl (nn_114 hR t0))) ?_
    refine Rn.hp hT rfl rfl (gR_hp (rp_gR hR (T2_o (ty_114 hR t0)) rfl)) ?_
    refine Rn.n hT 2 (pc' := 37) (L' := [some (.ref q0), some (.int m1), some (.int m2), some (.int m3), none]) (st' := [.int m3, .int m2, .ref ((s q0 4).toNat + 1)]) rfl ?_
    obtain ⟨v_2172, e_2172, e⟩ := Option.bind_eq_some_iff.mp e
    refine Rn.call hT rfl rfl rfl (Nat.le_of_ble_eq_true rfl) (rcv_v gX1_cellAt (by omega) (rp_ck hR (T1_o (T2_9 (ty_114 hR t0))))) (RX1_cellAt (by omega) hR (T2_9 (ty_114 hR t0)) p2 p3 e_2172 (fun z_2172 p_2172 => ?_))
    show Rn d _ _ 40 [some (.ref q0), some (.int m1), some (.int m2), some (.int m3), none] [.int z_2172] h Q
    refine Rn.n hT 2 (pc' := 43) (L' := [some (.ref q0), some (.int m1), some (.int m2), some (.int m3), some (.int z_2172)]) (st' := [.ref q0]) rfl ?_
    refine Rn.hp hT rfl rfl (gR_hp (rp_gP (k := 4) hR (T11_o t0) rfl (nn_114 hR t0))) ?_
    refine Rn.n hT 1 (pc' := 47) (L' := [some (.ref q0), some (.int m1), some (.int m2), some (.int m3), some (.int z_2172)]) (st' := [.int m1, .ref ((s q0 4).toNat)]) rfl ?_
    obtain ⟨v_2173, e_2173, e⟩ := Option.bind_eq_some_iff.mp e
    refine Rn.call hT rfl rfl rfl (Nat.le_of_ble_eq_true rfl) (rcv_v gX2_isRoom (by omega) (rp_ck hR (T2_o (ty_114 hR t0)))) (RX2_isRoom (by omega) hR (ty_114 hR t0) p1 e_2173 (fun z_2173 p_2173 => ?_))
    show Rn d _ _ 50 [some (.ref q0), some (.int m1), some (.int m2), some (.int m3), some (.int z_2172)] [.int z_2173] h Q
    by_cases c_2174 : v_2173 = 0
    · rw [if_pos c_2174] at e
      refine Rn.bt hT rfl rfl rfl (decide_eq_true ((ti_e p_2173 L32_0).mpr c_2174)) ?_
      exact Rn.weak (ll_n (ll_n (ll_n (ll_n (ll_n ll_e))))) (RX11_woke_b79 hd hR hq e)
    · rw [if_neg c_2174] at e
      refine Rn.bf hT rfl rfl rfl (decide_eq_false (fun z => c_2174 ((ti_e p_2173 L32_0).mp z))) ?_
      refine Rn.n hT 2 (pc' := 56) (L' := [some (.ref q0), some (.int m1), some (.int m2), some (.int m3), some (.int z_2172)]) (st' := [.int (-1 : Int32), .int z_2172]) rfl ?_
      by_cases c_2175 : v_2172 = (-1)
      · rw [if_pos c_2175] at e
        refine Rn.bt hT rfl rfl rfl (decide_eq_true ((ti_e p_2172 L32_m1).mpr c_2175)) ?_
        exact Rn.weak (ll_n (ll_n (ll_n (ll_n (ll_n ll_e))))) (RX11_woke_b79 hd hR hq e)
      · rw [if_neg c_2175] at e
        refine Rn.bf hT rfl rfl rfl (decide_eq_false (fun z => c_2175 ((ti_e p_2172 L32_m1).mp z))) ?_
        refine Rn.n hT 1 (pc' := 60) (L' := [some (.ref q0), some (.int m1), some (.int m2), some (.int m3), some (.int z_2172)]) (st' := [.ref q0]) rfl ?_
        refine Rn.hp hT rfl rfl (gR_hp (rp_gP (k := 4) hR (T11_o t0) rfl (nn_114 hR t0))) ?_
        refine Rn.hp hT rfl rfl (gR_hp (rp_gR hR (T2_o (ty_114 hR t0)) rfl)) ?_
        refine Rn.n hT 6 (pc' := 73) (L' := [some (.ref q0), some (.int m1), some (.int m2), some (.int m3), some (.int z_2172)]) (st' := [.long ((((m1 <<< ((4 : Int32) &&& 31)) ||| z_2172)).toInt64), .ref ((s q0 4).toNat + 20)]) rfl ?_
        obtain ⟨⟨v_2176, s_2177⟩, e_2176, e⟩ := Option.bind_eq_some_iff.mp e
        try dsimp only at e
        try dsimp only at e
        refine Rn.call hT rfl rfl rfl (Nat.le_of_ble_eq_true rfl) (rcv_v gX7_add (by omega) (rp_ck hR (T7_o (T2_18 (ty_114 hR t0))))) (RX7_add (by omega) hR (T2_18 (ty_114 hR t0)) (ti_j (ti_or (ti_shl p1 L32_4) p_2172)) e_2176 (fun z_2176 h_2177 p_2176 R_2177 => ?_))
        show Rn d _ _ 76 [some (.ref q0), some (.int m1), some (.int m2), some (.int m3), some (.int z_2172)] [.int z_2176] h_2177 Q
        by_cases c_2178 : v_2176 = 0
        · rw [if_pos c_2178] at e
          refine Rn.bf hT rfl rfl rfl (decide_eq_false (fun z => z ((ti_e p_2176 L32_0).mpr c_2178))) ?_
          exact Rn.weak (ll_n (ll_n (ll_n (ll_n (ll_n ll_e))))) (RX11_woke_b79 hd R_2177 hq e)
        · rw [if_neg c_2178] at e
          refine Rn.bt hT rfl rfl rfl (decide_eq_true (fun z => c_2178 ((ti_e p_2176 L32_0).mp z))) ?_
          refine Rn.n hT 2 (pc' := 84) (L' := [some (.ref q0), some (.int m1), some (.int m2), some (.int m3), some (.int z_2172)]) (st' := [.ref q0, .ref q0]) rfl ?_
          obtain ⟨z_2179, g_2179, p_2179⟩ : ∃ z : Int32, gI h_2177 11 15 q0 = some z ∧ z.toInt = s_2177 q0 15 := rp_gI (k := 15) R_2177 (T11_o t0) rfl
          refine Rn.hp hT rfl rfl (gI_hp g_2179) ?_
          refine Rn.n hT 2 (pc' := 89) (L' := [some (.ref q0), some (.int m1), some (.int m2), some (.int m3), some (.int z_2172)]) (st' := [.int (z_2179 + (1 : Int32)), .ref q0]) rfl ?_
          obtain ⟨s_2180, e_2181, e⟩ := Option.bind_eq_some_iff.mp e
          obtain ⟨h_2180, g_2181, R_2180⟩ := rp_pI (ci := 11) (k := 15) R_2177 (T11_o t0) rfl rfl (ti_add p_2179 L32_1) e_2181
          refine Rn.hp hT rfl rfl (pV_hp rfl g_2181) ?_
          refine Rn.n hT 1 (pc' := 93) (L' := [some (.ref q0), some (.int m1), some (.int m2), some (.int m3), some (.int z_2172)]) (st' := [.ref q0]) rfl ?_
          refine Rn.hp hT rfl rfl (gR_hp (rp_gP (k := 4) R_2180 (T11_o t0) rfl (nn_114 R_2180 t0))) ?_
          refine Rn.hp hT rfl rfl (gR_hp (rp_gR R_2180 (T2_o (ty_114 R_2180 t0)) rfl)) ?_
          obtain ⟨z_2182, g_2182, p_2182⟩ : ∃ z : Int32, gI h_2180 7 1 ((s_2180 q0 4).toNat + 20) = some z ∧ z.toInt = s_2180 ((s_2180 q0 4).toNat + 20) 1 := rp_gI (k := 1) R_2180 (T7_o (T2_18 (ty_114 R_2180 t0))) rfl
          refine Rn.hp hT rfl rfl (gI_hp g_2182) ?_
          obtain rfl := Option.some.inj e
          exact Rn.ret hT rfl rfl rfl (hq z_2182 h_2180 p_2182 R_2180)
set_option maxRecDepth 10000 in
theorem hX11_how : iv_Tb 180 tX11_how := iv_tb_of (m := mX11_how) rfl
set_option maxRecDepth 10000 in
theorem gX11_how : PG.2 180 = some mX11_how := iv_pi_of (t := tX11_how) rfl (by decide)
def FX11_how_b29 (N : Nat) (s : iv_M)   : Option (Int × iv_M) := (some ((-1), s))
set_option maxRecDepth 10000 in
set_option maxHeartbeats 4000000 in
theorem RX11_how_b29 {d N nc Ls : Nat} {Xs : Nat → Int32} (hd : 13 ≤ d) {h : iv_H} {s : iv_M} (hR : Rep nc Ls Xs h s)   {r : Int × iv_M} {Q : Option Value → iv_H → Prop} (hq : ∀ (z : Int32) (h1 : iv_H), z.toInt = r.1 → Rep nc Ls Xs h1 r.2 → Q (some (.int z)) h1) (e : FX11_how_b29 N s   = some r) : Rn d 180 (some .int) 29 [none, none, none, none] [] h Q := by
  have hT := hX11_how
  unfold FX11_how_b29 at e
  refine Rn.n hT 1 (pc' := 30) (L' := [none, none, none, none]) (st' := [.int (-1 : Int32)]) rfl ?_
  obtain rfl := Option.some.inj e
  exact Rn.ret hT rfl rfl rfl (hq (-1 : Int32) h L32_m1 hR)
def FX11_how_b103 (N : Nat) (s : iv_M)  (xs0 : Int) : Option (Int × iv_M) := (some (xs0, s))
set_option maxRecDepth 10000 in
set_option maxHeartbeats 4000000 in
theorem RX11_how_b103 {d N nc Ls : Nat} {Xs : Nat → Int32} (hd : 13 ≤ d) {h : iv_H} {s : iv_M} (hR : Rep nc Ls Xs h s)  {ms0 : Int32} {xs0 : Int} (ps0 : ms0.toInt = xs0) {r : Int × iv_M} {Q : Option Value → iv_H → Prop} (hq : ∀ (z : Int32) (h1 : iv_H), z.toInt = r.1 → Rep nc Ls Xs h1 r.2 → Q (some (.int z)) h1) (e : FX11_how_b103 N s  xs0 = some r) : Rn d 180 (some .int) 103 [none, none, none, none] [.int ms0] h Q := by
  have hT := hX11_how
  unfold FX11_how_b103 at e
  obtain rfl := Option.some.inj e
  exact Rn.ret hT rfl rfl rfl (hq ms0 h ps0 hR)
def FX11_how_b101 (N : Nat) (s : iv_M)   : Option (Int × iv_M) := (FX11_how_b103 N s (-2))
set_option maxRecDepth 10000 in
set_option maxHeartbeats 4000000 in
theorem RX11_how_b101 {d N nc Ls : Nat} {Xs : Nat → Int32} (hd : 13 ≤ d) {h : iv_H} {s : iv_M} (hR : Rep nc Ls Xs h s)   {r : Int × iv_M} {Q : Option Value → iv_H → Prop} (hq : ∀ (z : Int32) (h1 : iv_H), z.toInt = r.1 → Rep nc Ls Xs h1 r.2 → Q (some (.int z)) h1) (e : FX11_how_b101 N s   = some r) : Rn d 180 (some .int) 101 [none, none, none, none] [] h Q := by
  have hT := hX11_how
  unfold FX11_how_b101 at e
  refine Rn.n hT 1 (pc' := 103) (L' := [none, none, none, none]) (st' := [.int (-2 : Int32)]) rfl ?_
  exact Rn.weak (ll_n (ll_n (ll_n (ll_n ll_e)))) (RX11_how_b103 hd hR L32_m2 hq e)
def FX11_how (N : Nat) (s : iv_M) (q0 : Nat) (x1 : Int) (x2 : Int) : Option (Int × iv_M) := (if (s ((s q0 4).toNat) 0) = 0 then (FX11_how_b29 N s) else (if x1 < 0 then (FX11_how_b29 N s) else (if 3 < x1 then (FX11_how_b29 N s) else (if x2 < 0 then (FX11_how_b29 N s) else (if x2 ≤ 6 then ((FX11_ruleInForce N s q0).bind fun v_2194 => ((FX10_askRows N s (q0 + 81) ((s q0 4).toNat) v_2194 x1 (s q0 15)).bind fun s_2197 => (if 3 < x2 then ((rd s_2197 ((q0 + 81) + 16) 4 0).bind fun v_2199 => (if v_2199 ≤ 0 then (FX11_how_b101 N s_2197) else (if x1 ≤ (w32 ((w32 (x2 - 3)) - 1)) then (FX11_how_b101 N s_2197) else ((rd s_2197 ((q0 + 81) + 15) 3 (w32 ((w32 (x2 - 3)) - 1))).bind fun v_2202 => (FX11_how_b103 N s_2197 v_2202))))) else ((rd s_2197 ((q0 + 81) + 16) 4 x2).bind fun v_2203 => (some (v_2203, s_2197)))))) else (FX11_how_b29 N s))))))
set_option maxRecDepth 10000 in
set_option maxHeartbeats 4000000 in
theorem RX11_how {d N nc Ls : Nat} {Xs : Nat → Int32} (hd : 14 ≤ d) {h : iv_H} {s : iv_M} (hR : Rep nc Ls Xs h s) {q0 : Nat} (t0 : T11 nc q0) {m1 : Int32} {x1 : Int} (p1 : m1.toInt = x1) {m2 : Int32} {x2 : Int} (p2 : m2.toInt = x2) {r : Int × iv_M} {Q : Option Value → iv_H → Prop} (e : FX11_how N s q0 x1 x2 = some r) (hq : ∀ (z : Int32) (h1 : iv_H), z.toInt = r.1 → Rep nc Ls Xs h1 r.2 → Q (some (.int z)) h1) : Cl d 180 [.ref q0, .int m1, .int m2] h Q := by
  obtain ⟨d, rfl⟩ : ∃ k, d = k + 1 := ⟨d - 1, by omega⟩
  have hd : 13 ≤ d := by omega
  have hT := hX11_how
  unfold FX11_how at e
  refine Cl.into (by decide) gX11_how rfl ?_
  show Rn d 180 (some .int) 0 [some (.ref q0), some (.int m1), some (.int m2), none] [] h Q
  refine Rn.n hT 1 (pc' := 1) (L' := [some (.ref q0), some (.int m1), some (.int m2), none]) (st' := [.ref q0]) rfl ?_
  refine Rn.hp hT rfl rfl (gR_hp (rp_gP (k := 4) hR (T11_o t0) rfl (nn_114 hR t0))) ?_
  obtain ⟨z_2188, g_2188, p_2188⟩ : ∃ z : Int32, gI h 2 0 ((s q0 4).toNat) = some z ∧ z.toInt = s ((s q0 4).toNat) 0 := rp_gI (k := 0) hR (T2_o (ty_114 hR t0)) rfl
  refine Rn.hp hT rfl rfl (gI_hp g_2188) ?_
  by_cases c_2189 : (s ((s q0 4).toNat) 0) = 0
  · rw [if_pos c_2189] at e
    refine Rn.bt hT rfl rfl rfl (decide_eq_true ((ti_e p_2188 L32_0).mpr c_2189)) ?_
    exact Rn.weak (ll_n (ll_n (ll_n (ll_n ll_e)))) (RX11_how_b29 hd hR hq e)
  · rw [if_neg c_2189] at e
    refine Rn.bf hT rfl rfl rfl (decide_eq_false (fun z => c_2189 ((ti_e p_2188 L32_0).mp z))) ?_
    refine Rn.n hT 1 (pc' := 11) (L' := [some (.ref q0), some (.int m1), some (.int m2), none]) (st' := [.int m1]) rfl ?_
    by_cases c_2190 : x1 < 0
    · rw [if_pos c_2190] at e
      refine Rn.bt hT rfl rfl rfl (decide_eq_true ((ti_l p1 L32_0).mpr c_2190)) ?_
      exact Rn.weak (ll_n (ll_n (ll_n (ll_n ll_e)))) (RX11_how_b29 hd hR hq e)
    · rw [if_neg c_2190] at e
      refine Rn.bf hT rfl rfl rfl (decide_eq_false (fun z => c_2190 ((ti_l p1 L32_0).mp z))) ?_
      refine Rn.n hT 2 (pc' := 16) (L' := [some (.ref q0), some (.int m1), some (.int m2), none]) (st' := [.int (3 : Int32), .int m1]) rfl ?_
      by_cases c_2191 : 3 < x1
      · rw [if_pos c_2191] at e
        refine Rn.bt hT rfl rfl rfl (decide_eq_true ((ti_l L32_3 p1).mpr c_2191)) ?_
        exact Rn.weak (ll_n (ll_n (ll_n (ll_n ll_e)))) (RX11_how_b29 hd hR hq e)
      · rw [if_neg c_2191] at e
        refine Rn.bf hT rfl rfl rfl (decide_eq_false (fun z => c_2191 ((ti_l L32_3 p1).mp z))) ?_
        refine Rn.n hT 1 (pc' := 20) (L' := [some (.ref q0), some (.int m1), some (.int m2), none]) (st' := [.int m2]) rfl ?_
        by_cases c_2192 : x2 < 0
        · rw [if_pos c_2192] at e
          refine Rn.bt hT rfl rfl rfl (decide_eq_true ((ti_l p2 L32_0).mpr c_2192)) ?_
          exact Rn.weak (ll_n (ll_n (ll_n (ll_n ll_e)))) (RX11_how_b29 hd hR hq e)
        · rw [if_neg c_2192] at e
          refine Rn.bf hT rfl rfl rfl (decide_eq_false (fun z => c_2192 ((ti_l p2 L32_0).mp z))) ?_
          refine Rn.n hT 2 (pc' := 26) (L' := [some (.ref q0), some (.int m1), some (.int m2), none]) (st' := [.int (6 : Int32), .int m2]) rfl ?_
          by_cases c_2193 : x2 ≤ 6
          · rw [if_pos c_2193] at e
            refine Rn.bt hT rfl rfl rfl (decide_eq_true ((ti_le p2 L32_6).mpr c_2193)) ?_
            refine Rn.n hT 1 (pc' := 32) (L' := [some (.ref q0), some (.int m1), some (.int m2), none]) (st' := [.ref q0]) rfl ?_
            refine Rn.hp hT rfl rfl (gR_hp (rp_gR hR (T11_o t0) rfl)) ?_
            refine Rn.n hT 1 (pc' := 36) (L' := [some (.ref q0), some (.int m1), some (.int m2), none]) (st' := [.ref q0, .ref (q0 + 81)]) rfl ?_
            refine Rn.hp hT rfl rfl (gR_hp (rp_gP (k := 4) hR (T11_o t0) rfl (nn_114 hR t0))) ?_
            refine Rn.n hT 1 (pc' := 40) (L' := [some (.ref q0), some (.int m1), some (.int m2), none]) (st' := [.ref q0, .ref ((s q0 4).toNat), .ref (q0 + 81)]) rfl ?_
            obtain ⟨v_2194, e_2194, e⟩ := Option.bind_eq_some_iff.mp e
            refine Rn.call hT rfl rfl rfl (Nat.le_of_ble_eq_true rfl) (rcv_v gX11_ruleInForce (by omega) (rp_ck hR (T11_o t0))) (RX11_ruleInForce (by omega) hR t0 e_2194 (fun t_2194 => ?_))
            show Rn d _ _ 43 [some (.ref q0), some (.int m1), some (.int m2), none] [iv_rf (rvo v_2194), .ref ((s q0 4).toNat), .ref (q0 + 81)] h Q
            refine Rn.n hT 2 (pc' := 45) (L' := [some (.ref q0), some (.int m1), some (.int m2), none]) (st' := [.ref q0, .int m1, iv_rf (rvo v_2194), .ref ((s q0 4).toNat), .ref (q0 + 81)]) rfl ?_
            obtain ⟨z_2195, g_2195, p_2195⟩ : ∃ z : Int32, gI h 11 15 q0 = some z ∧ z.toInt = s q0 15 := rp_gI (k := 15) hR (T11_o t0) rfl
            refine Rn.hp hT rfl rfl (gI_hp g_2195) ?_
            obtain ⟨s_2197, e_2196, e⟩ := Option.bind_eq_some_iff.mp e
            refine Rn.call hT rfl rfl rfl (Nat.le_of_ble_eq_true rfl) (rcv_v gX10_askRows (by omega) (rp_ck hR (T10_o (T11_11 t0)))) (RX10_askRows (by omega) hR (T11_11 t0) (ty_114 hR t0) t_2194 p1 p_2195 e_2196 (fun h_2197 R_2197 => ?_))
            show Rn d _ _ 51 [some (.ref q0), some (.int m1), some (.int m2), none] [] h_2197 Q
            refine Rn.n hT 2 (pc' := 53) (L' := [some (.ref q0), some (.int m1), some (.int m2), none]) (st' := [.int (3 : Int32), .int m2]) rfl ?_
            by_cases c_2198 : 3 < x2
            · rw [if_pos c_2198] at e
              refine Rn.bt hT rfl rfl rfl (decide_eq_true ((ti_l L32_3 p2).mpr c_2198)) ?_
              refine Rn.n hT 7 (pc' := 73) (L' := [some (.ref q0), some (.int m1), some (.int m2), some (.int ((m2 - (3 : Int32)) - (1 : Int32)))]) (st' := [.ref q0]) rfl ?_
              refine Rn.hp hT rfl rfl (gR_hp (rp_gR R_2197 (T11_o t0) rfl)) ?_
              refine Rn.hp hT rfl rfl (gR_hp (rp_gR R_2197 (T10_o (T11_11 t0)) rfl)) ?_
              refine Rn.n hT 1 (pc' := 80) (L' := [some (.ref q0), some (.int m1), some (.int m2), some (.int ((m2 - (3 : Int32)) - (1 : Int32)))]) (st' := [.int (0 : Int32), .ref ((q0 + 81) + 16)]) rfl ?_
              obtain ⟨v_2199, e_2199, e⟩ := Option.bind_eq_some_iff.mp e
              obtain ⟨z_2199, g_2199, p_2199⟩ := rp_aI R_2197 (T10_6 (T11_11 t0)) (T10_6l (T11_11 t0)) L32_0 e_2199
              refine Rn.hp hT rfl rfl (aI_hp g_2199) ?_
              by_cases c_2200 : v_2199 ≤ 0
              · rw [if_pos c_2200] at e
                refine Rn.bt hT rfl rfl rfl (decide_eq_true ((ti_le p_2199 L32_0).mpr c_2200)) ?_
                exact Rn.weak (ll_n (ll_n (ll_n (ll_n ll_e)))) (RX11_how_b101 hd R_2197 hq e)
              · rw [if_neg c_2200] at e
                refine Rn.bf hT rfl rfl rfl (decide_eq_false (fun z => c_2200 ((ti_le p_2199 L32_0).mp z))) ?_
                refine Rn.n hT 2 (pc' := 86) (L' := [some (.ref q0), some (.int m1), some (.int m2), some (.int ((m2 - (3 : Int32)) - (1 : Int32)))]) (st' := [.int m1, .int ((m2 - (3 : Int32)) - (1 : Int32))]) rfl ?_
                by_cases c_2201 : x1 ≤ (w32 ((w32 (x2 - 3)) - 1))
                · rw [if_pos c_2201] at e
                  refine Rn.bt hT rfl rfl rfl (decide_eq_true ((ti_le p1 (ti_sub (ti_sub p2 L32_3) L32_1)).mpr c_2201)) ?_
                  exact Rn.weak (ll_n (ll_n (ll_n (ll_n ll_e)))) (RX11_how_b101 hd R_2197 hq e)
                · rw [if_neg c_2201] at e
                  refine Rn.bf hT rfl rfl rfl (decide_eq_false (fun z => c_2201 ((ti_le p1 (ti_sub (ti_sub p2 L32_3) L32_1)).mp z))) ?_
                  refine Rn.n hT 1 (pc' := 90) (L' := [some (.ref q0), some (.int m1), some (.int m2), some (.int ((m2 - (3 : Int32)) - (1 : Int32)))]) (st' := [.ref q0]) rfl ?_
                  refine Rn.hp hT rfl rfl (gR_hp (rp_gR R_2197 (T11_o t0) rfl)) ?_
                  refine Rn.hp hT rfl rfl (gR_hp (rp_gR R_2197 (T10_o (T11_11 t0)) rfl)) ?_
                  refine Rn.n hT 1 (pc' := 97) (L' := [some (.ref q0), some (.int m1), some (.int m2), some (.int ((m2 - (3 : Int32)) - (1 : Int32)))]) (st' := [.int ((m2 - (3 : Int32)) - (1 : Int32)), .ref ((q0 + 81) + 15)]) rfl ?_
                  obtain ⟨v_2202, e_2202, e⟩ := Option.bind_eq_some_iff.mp e
                  obtain ⟨z_2202, g_2202, p_2202⟩ := rp_aI R_2197 (T10_5 (T11_11 t0)) (T10_5l (T11_11 t0)) (ti_sub (ti_sub p2 L32_3) L32_1) e_2202
                  refine Rn.hp hT rfl rfl (aI_hp g_2202) ?_
                  refine Rn.n hT 1 (pc' := 103) (L' := [some (.ref q0), some (.int m1), some (.int m2), some (.int ((m2 - (3 : Int32)) - (1 : Int32)))]) (st' := [.int z_2202]) rfl ?_
                  exact Rn.weak (ll_n (ll_n (ll_n (ll_n ll_e)))) (RX11_how_b103 hd R_2197 p_2202 hq e)
            · rw [if_neg c_2198] at e
              refine Rn.bf hT rfl rfl rfl (decide_eq_false (fun z => c_2198 ((ti_l L32_3 p2).mp z))) ?_
              refine Rn.n hT 1 (pc' := 57) (L' := [some (.ref q0), some (.int m1), some (.int m2), none]) (st' := [.ref q0]) rfl ?_
              refine Rn.hp hT rfl rfl (gR_hp (rp_gR R_2197 (T11_o t0) rfl)) ?_
              refine Rn.hp hT rfl rfl (gR_hp (rp_gR R_2197 (T10_o (T11_11 t0)) rfl)) ?_
              refine Rn.n hT 1 (pc' := 64) (L' := [some (.ref q0), some (.int m1), some (.int m2), none]) (st' := [.int m2, .ref ((q0 + 81) + 16)]) rfl ?_
              obtain ⟨v_2203, e_2203, e⟩ := Option.bind_eq_some_iff.mp e
              obtain ⟨z_2203, g_2203, p_2203⟩ := rp_aI R_2197 (T10_6 (T11_11 t0)) (T10_6l (T11_11 t0)) p2 e_2203
              refine Rn.hp hT rfl rfl (aI_hp g_2203) ?_
              obtain rfl := Option.some.inj e
              exact Rn.ret hT rfl rfl rfl (hq z_2203 h_2197 p_2203 R_2197)
          · rw [if_neg c_2193] at e
            refine Rn.bf hT rfl rfl rfl (decide_eq_false (fun z => c_2193 ((ti_le p2 L32_6).mp z))) ?_
            exact Rn.weak (ll_n (ll_n (ll_n (ll_n ll_e)))) (RX11_how_b29 hd hR hq e)
set_option maxRecDepth 10000 in
theorem hX11_built : iv_Tb 181 tX11_built := iv_tb_of (m := mX11_built) rfl
set_option maxRecDepth 10000 in
theorem gX11_built : PG.2 181 = some mX11_built := iv_pi_of (t := tX11_built) rfl (by decide)
def FX11_built_b46 (N : Nat) (s : iv_M)   : Option (Int) := (some (-1))
set_option maxRecDepth 10000 in
set_option maxHeartbeats 4000000 in
theorem RX11_built_b46 {d N nc Ls : Nat} {Xs : Nat → Int32} (hd : 2 ≤ d) {h : iv_H} {s : iv_M} (hR : Rep nc Ls Xs h s)   {r : Int} {Q : Option Value → iv_H → Prop} (hq : ∀ (z : Int32), z.toInt = r → Q (some (.int z)) h) (e : FX11_built_b46 N s   = some r) : Rn d 181 (some .int) 46 [none, none, none, none, none] [] h Q := by
  have hT := hX11_built
  unfold FX11_built_b46 at e
  refine Rn.n hT 1 (pc' := 47) (L' := [none, none, none, none, none]) (st' := [.int (-1 : Int32)]) rfl ?_
  obtain rfl := Option.some.inj e
  exact Rn.ret hT rfl rfl rfl (hq (-1 : Int32) L32_m1)
def FX11_built (N : Nat) (s : iv_M) (q0 : Nat) (x1 : Int) (x2 : Int) (x3 : Int) : Option (Int) := ((FX1_cellAt N s ((s q0 4).toNat + 1) x1 x2).bind fun v_2204 => (if v_2204 = (-1) then (FX11_built_b46 N s) else ((rd s (((s q0 4).toNat + 1) + 3) 16 v_2204).bind fun v_2206 => (if v_2206 = (-1) then (if x3 < 0 then (FX11_built_b46 N s) else (if x3 ≤ 4 then (if x3 = 0 then ((FX1_mismatches N s ((s q0 4).toNat + 1)).bind fun v_2212 => ((FX1_doorsTowards N s ((s q0 4).toNat + 1) v_2204).bind fun v_2213 => (some (w32 (v_2212 - v_2213))))) else ((FX1_sideToBuild N s ((s q0 4).toNat + 1) v_2204 (w32 (x3 - 1))).bind fun v_2211 => (some v_2211))) else (FX11_built_b46 N s))) else (FX11_built_b46 N s)))))
set_option maxRecDepth 10000 in
set_option maxHeartbeats 4000000 in
theorem RX11_built {d N nc Ls : Nat} {Xs : Nat → Int32} (hd : 3 ≤ d) {h : iv_H} {s : iv_M} (hR : Rep nc Ls Xs h s) {q0 : Nat} (t0 : T11 nc q0) {m1 : Int32} {x1 : Int} (p1 : m1.toInt = x1) {m2 : Int32} {x2 : Int} (p2 : m2.toInt = x2) {m3 : Int32} {x3 : Int} (p3 : m3.toInt = x3) {r : Int} {Q : Option Value → iv_H → Prop} (e : FX11_built N s q0 x1 x2 x3 = some r) (hq : ∀ (z : Int32), z.toInt = r → Q (some (.int z)) h) : Cl d 181 [.ref q0, .int m1, .int m2, .int m3] h Q := by
  obtain ⟨d, rfl⟩ : ∃ k, d = k + 1 := ⟨d - 1, by omega⟩
  have hd : 2 ≤ d := by omega
  have hT := hX11_built
  unfold FX11_built at e
  refine Cl.into (by decide) gX11_built rfl ?_
  show Rn d 181 (some .int) 0 [some (.ref q0), some (.int m1), some (.int m2), some (.int m3), none] [] h Q
  refine Rn.n hT 1 (pc' := 1) (L' := [some (.ref q0), some (.int m1), some (.int m2), some (.int m3), none]) (st' := [.ref q0]) rfl ?_
  refine Rn.hp hT rfl rfl (gR_hp (rp_gP (k := 4) hR (T11_o t0) rfl (nn_114 hR t0))) ?_
  refine Rn.hp hT rfl rfl (gR_hp (rp_gR hR (T2_o (ty_114 hR t0)) rfl)) ?_
  refine Rn.n hT 2 (pc' := 9) (L' := [some (.ref q0), some (.int m1), some (.int m2), some (.int m3), none]) (st' := [.int m2, .int m1, .ref ((s q0 4).toNat + 1)]) rfl ?_
  obtain ⟨v_2204, e_2204, e⟩ := Option.bind_eq_some_iff.mp e
  refine Rn.call hT rfl rfl rfl (Nat.le_of_ble_eq_true rfl) (rcv_v gX1_cellAt (by omega) (rp_ck hR (T1_o (T2_9 (ty_114 hR t0))))) (RX1_cellAt (by omega) hR (T2_9 (ty_114 hR t0)) p1 p2 e_2204 (fun z_2204 p_2204 => ?_))
  show Rn d _ _ 12 [some (.ref q0), some (.int m1), some (.int m2), some (.int m3), none] [.int z_2204] h Q
  refine Rn.n hT 3 (pc' := 17) (L' := [some (.ref q0), some (.int m1), some (.int m2), some (.int m3), some (.int z_2204)]) (st' := [.int (-1 : Int32), .int z_2204]) rfl ?_
  by_cases c_2205 : v_2204 = (-1)
  · rw [if_pos c_2205] at e
    refine Rn.bt hT rfl rfl rfl (decide_eq_true ((ti_e p_2204 L32_m1).mpr c_2205)) ?_
    exact Rn.weak (ll_n (ll_n (ll_n (ll_n (ll_n ll_e))))) (RX11_built_b46 hd hR hq e)
  · rw [if_neg c_2205] at e
    refine Rn.bf hT rfl rfl rfl (decide_eq_false (fun z => c_2205 ((ti_e p_2204 L32_m1).mp z))) ?_
    refine Rn.n hT 1 (pc' := 21) (L' := [some (.ref q0), some (.int m1), some (.int m2), some (.int m3), some (.int z_2204)]) (st' := [.ref q0]) rfl ?_
    refine Rn.hp hT rfl rfl (gR_hp (rp_gP (k := 4) hR (T11_o t0) rfl (nn_114 hR t0))) ?_
    refine Rn.hp hT rfl rfl (gR_hp (rp_gR hR (T2_o (ty_114 hR t0)) rfl)) ?_
    refine Rn.hp hT rfl rfl (gR_hp (rp_gR hR (T1_o (T2_9 (ty_114 hR t0))) rfl)) ?_
    refine Rn.n hT 1 (pc' := 32) (L' := [some (.ref q0), some (.int m1), some (.int m2), some (.int m3), some (.int z_2204)]) (st' := [.int z_2204, .ref (((s q0 4).toNat + 1) + 3)]) rfl ?_
    obtain ⟨v_2206, e_2206, e⟩ := Option.bind_eq_some_iff.mp e
    obtain ⟨z_2206, g_2206, p_2206⟩ := rp_aI hR (T1_7 (T2_9 (ty_114 hR t0))) (T1_7l (T2_9 (ty_114 hR t0))) p_2204 e_2206
    refine Rn.hp hT rfl rfl (aI_hp g_2206) ?_
    refine Rn.n hT 1 (pc' := 34) (L' := [some (.ref q0), some (.int m1), some (.int m2), some (.int m3), some (.int z_2204)]) (st' := [.int (-1 : Int32), .int z_2206]) rfl ?_
    by_cases c_2207 : v_2206 = (-1)
    · rw [if_pos c_2207] at e
      refine Rn.bf hT rfl rfl rfl (decide_eq_false (fun z => z ((ti_e p_2206 L32_m1).mpr c_2207))) ?_
      refine Rn.n hT 1 (pc' := 38) (L' := [some (.ref q0), some (.int m1), some (.int m2), some (.int m3), some (.int z_2204)]) (st' := [.int m3]) rfl ?_
      by_cases c_2208 : x3 < 0
      · rw [if_pos c_2208] at e
        refine Rn.bt hT rfl rfl rfl (decide_eq_true ((ti_l p3 L32_0).mpr c_2208)) ?_
        exact Rn.weak (ll_n (ll_n (ll_n (ll_n (ll_n ll_e))))) (RX11_built_b46 hd hR hq e)
      · rw [if_neg c_2208] at e
        refine Rn.bf hT rfl rfl rfl (decide_eq_false (fun z => c_2208 ((ti_l p3 L32_0).mp z))) ?_
        refine Rn.n hT 2 (pc' := 43) (L' := [some (.ref q0), some (.int m1), some (.int m2), some (.int m3), some (.int z_2204)]) (st' := [.int (4 : Int32), .int m3]) rfl ?_
        by_cases c_2209 : x3 ≤ 4
        · rw [if_pos c_2209] at e
          refine Rn.bt hT rfl rfl rfl (decide_eq_true ((ti_le p3 L32_4).mpr c_2209)) ?_
          refine Rn.n hT 1 (pc' := 49) (L' := [some (.ref q0), some (.int m1), some (.int m2), some (.int m3), some (.int z_2204)]) (st' := [.int m3]) rfl ?_
          by_cases c_2210 : x3 = 0
          · rw [if_pos c_2210] at e
            refine Rn.bf hT rfl rfl rfl (decide_eq_false (fun z => z ((ti_e p3 L32_0).mpr c_2210))) ?_
            refine Rn.n hT 1 (pc' := 53) (L' := [some (.ref q0), some (.int m1), some (.int m2), some (.int m3), some (.int z_2204)]) (st' := [.ref q0]) rfl ?_
            refine Rn.hp hT rfl rfl (gR_hp (rp_gP (k := 4) hR (T11_o t0) rfl (nn_114 hR t0))) ?_
            refine Rn.hp hT rfl rfl (gR_hp (rp_gR hR (T2_o (ty_114 hR t0)) rfl)) ?_
            obtain ⟨v_2212, e_2212, e⟩ := Option.bind_eq_some_iff.mp e
            refine Rn.call hT rfl rfl rfl (Nat.le_of_ble_eq_true rfl) (rcv_v gX1_mismatches (by omega) (rp_ck hR (T1_o (T2_9 (ty_114 hR t0))))) (RX1_mismatches (by omega) hR (T2_9 (ty_114 hR t0)) e_2212 (fun z_2212 p_2212 => ?_))
            show Rn d _ _ 62 [some (.ref q0), some (.int m1), some (.int m2), some (.int m3), some (.int z_2204)] [.int z_2212] h Q
            refine Rn.n hT 1 (pc' := 63) (L' := [some (.ref q0), some (.int m1), some (.int m2), some (.int m3), some (.int z_2204)]) (st' := [.ref q0, .int z_2212]) rfl ?_
            refine Rn.hp hT rfl rfl (gR_hp (rp_gP (k := 4) hR (T11_o t0) rfl (nn_114 hR t0))) ?_
            refine Rn.hp hT rfl rfl (gR_hp (rp_gR hR (T2_o (ty_114 hR t0)) rfl)) ?_
            refine Rn.n hT 1 (pc' := 71) (L' := [some (.ref q0), some (.int m1), some (.int m2), some (.int m3), some (.int z_2204)]) (st' := [.int z_2204, .ref ((s q0 4).toNat + 1), .int z_2212]) rfl ?_
            obtain ⟨v_2213, e_2213, e⟩ := Option.bind_eq_some_iff.mp e
            refine Rn.call hT rfl rfl rfl (Nat.le_of_ble_eq_true rfl) (rcv_v gX1_doorsTowards (by omega) (rp_ck hR (T1_o (T2_9 (ty_114 hR t0))))) (RX1_doorsTowards (by omega) hR (T2_9 (ty_114 hR t0)) p_2204 e_2213 (fun z_2213 p_2213 => ?_))
            show Rn d _ _ 74 [some (.ref q0), some (.int m1), some (.int m2), some (.int m3), some (.int z_2204)] [.int z_2213, .int z_2212] h Q
            refine Rn.n hT 1 (pc' := 75) (L' := [some (.ref q0), some (.int m1), some (.int m2), some (.int m3), some (.int z_2204)]) (st' := [.int (z_2212 - z_2213)]) rfl ?_
            obtain rfl := Option.some.inj e
            exact Rn.ret hT rfl rfl rfl (hq (z_2212 - z_2213) (ti_sub p_2212 p_2213))
          · rw [if_neg c_2210] at e
            refine Rn.bt hT rfl rfl rfl (decide_eq_true (fun z => c_2210 ((ti_e p3 L32_0).mp z))) ?_
            refine Rn.n hT 1 (pc' := 77) (L' := [some (.ref q0), some (.int m1), some (.int m2), some (.int m3), some (.int z_2204)]) (st' := [.ref q0]) rfl ?_
            refine Rn.hp hT rfl rfl (gR_hp (rp_gP (k := 4) hR (T11_o t0) rfl (nn_114 hR t0))) ?_
            refine Rn.hp hT rfl rfl (gR_hp (rp_gR hR (T2_o (ty_114 hR t0)) rfl)) ?_
            refine Rn.n hT 4 (pc' := 88) (L' := [some (.ref q0), some (.int m1), some (.int m2), some (.int m3), some (.int z_2204)]) (st' := [.int (m3 - (1 : Int32)), .int z_2204, .ref ((s q0 4).toNat + 1)]) rfl ?_
            obtain ⟨v_2211, e_2211, e⟩ := Option.bind_eq_some_iff.mp e
            refine Rn.call hT rfl rfl rfl (Nat.le_of_ble_eq_true rfl) (rcv_v gX1_sideToBuild (by omega) (rp_ck hR (T1_o (T2_9 (ty_114 hR t0))))) (RX1_sideToBuild (by omega) hR (T2_9 (ty_114 hR t0)) p_2204 (ti_sub p3 L32_1) e_2211 (fun z_2211 p_2211 => ?_))
            show Rn d _ _ 91 [some (.ref q0), some (.int m1), some (.int m2), some (.int m3), some (.int z_2204)] [.int z_2211] h Q
            obtain rfl := Option.some.inj e
            exact Rn.ret hT rfl rfl rfl (hq z_2211 p_2211)
        · rw [if_neg c_2209] at e
          refine Rn.bf hT rfl rfl rfl (decide_eq_false (fun z => c_2209 ((ti_le p3 L32_4).mp z))) ?_
          exact Rn.weak (ll_n (ll_n (ll_n (ll_n (ll_n ll_e))))) (RX11_built_b46 hd hR hq e)
    · rw [if_neg c_2207] at e
      refine Rn.bt hT rfl rfl rfl (decide_eq_true (fun z => c_2207 ((ti_e p_2206 L32_m1).mp z))) ?_
      exact Rn.weak (ll_n (ll_n (ll_n (ll_n (ll_n ll_e))))) (RX11_built_b46 hd hR hq e)
set_option maxRecDepth 10000 in
theorem hX11_best : iv_Tb 182 tX11_best := iv_tb_of (m := mX11_best) rfl
set_option maxRecDepth 10000 in
theorem gX11_best : PG.2 182 = some mX11_best := iv_pi_of (t := tX11_best) rfl (by decide)
def FX11_best_b68 (N : Nat) (s : iv_M) (q0 : Nat) (x1 : Int) (x2 : Int) (x3 : Int)  (kb : Int → Int → Int → Option (Int)) (kx : Int → Option (Int)) : Option (Int) := (kb x1 x2 (w32 (x3 + 1)))
set_option maxRecDepth 10000 in
set_option maxHeartbeats 4000000 in
theorem RX11_best_b68 {d N nc Ls : Nat} {Xs : Nat → Int32} (hd : 2 ≤ d) {h : iv_H} {s : iv_M} (hR : Rep nc Ls Xs h s) {q0 : Nat} (t0 : T11 nc q0) {m1 : Int32} {x1 : Int} (p1 : m1.toInt = x1) {m2 : Int32} {x2 : Int} (p2 : m2.toInt = x2) {m3 : Int32} {x3 : Int} (p3 : m3.toInt = x3)  {kb : Int → Int → Int → Option (Int)} {kx : Int → Option (Int)} {r : Int} {Q : Option Value → iv_H → Prop} (hb : ∀ (mw1 : Int32) (xw1 : Int) (pw1 : mw1.toInt = xw1) (mw2 : Int32) (xw2 : Int) (pw2 : mw2.toInt = xw2) (mw3 : Int32) (xw3 : Int) (pw3 : mw3.toInt = xw3), kb xw1 xw2 xw3 = some r → Rn d 182 (some .int) 19 [some (.ref q0), some (.int mw1), some (.int mw2), some (.int mw3)] [] h Q) (hk : ∀ (mw1 : Int32) (xw1 : Int) (pw1 : mw1.toInt = xw1), kx xw1 = some r → Rn d 182 (some .int) 74 [none, some (.int mw1), none, none] [] h Q) (hq : ∀ (z : Int32), z.toInt = r → Q (some (.int z)) h) (e : FX11_best_b68 N s q0 x1 x2 x3  kb kx = some r) : Rn d 182 (some .int) 68 [some (.ref q0), some (.int m1), some (.int m2), some (.int m3)] [] h Q := by
  have hT := hX11_best
  unfold FX11_best_b68 at e
  refine Rn.n hT 2 (pc' := 19) (L' := [some (.ref q0), some (.int m1), some (.int m2), some (.int (m3 + (1 : Int32)))]) (st' := []) rfl ?_
  exact Rn.weak (ll_s (ll_s (ll_s (ll_s ll_e)))) (hb m1 x1 p1 m2 x2 p2 (m3 + (1 : Int32)) (w32 (x3 + 1)) (ti_add p3 L32_1) e)
def FX11_best_l19 (N : Nat) (s : iv_M) (q0 : Nat) (kx : Int → Option (Int)) : Nat → Int → Int → Int → Option (Int)
  | 0, _, _, _ => none
  | n + 1, x1, x2, x3 => (if 16 ≤ x3 then (kx x1) else ((FX1_isEmptyCell N s ((s q0 4).toNat + 1) x3).bind fun v_2218 => (if v_2218 = 0 then (FX11_best_b68 N s q0 x1 x2 x3 (FX11_best_l19 N s q0 kx n) kx) else ((FX1_doorsTowards N s ((s q0 4).toNat + 1) x3).bind fun v_2220 => (if v_2220 ≤ x2 then (FX11_best_b68 N s q0 x1 x2 x3 (FX11_best_l19 N s q0 kx n) kx) else ((FX1_doorsTowards N s ((s q0 4).toNat + 1) x3).bind fun v_2222 => (FX11_best_b68 N s q0 x3 v_2222 x3 (FX11_best_l19 N s q0 kx n) kx)))))))
set_option maxRecDepth 10000 in
set_option maxHeartbeats 4000000 in
theorem RX11_best_l19 {d N nc Ls : Nat} {Xs : Nat → Int32} (hd : 2 ≤ d) {h : iv_H} {s : iv_M} (hR : Rep nc Ls Xs h s) {q0 : Nat} (t0 : T11 nc q0) {kx : Int → Option (Int)} {r : Int} {Q : Option Value → iv_H → Prop} (hk : ∀ (m1 : Int32) (x1 : Int) (p1 : m1.toInt = x1), kx x1 = some r → Rn d 182 (some .int) 74 [none, some (.int m1), none, none] [] h Q) (hq : ∀ (z : Int32), z.toInt = r → Q (some (.int z)) h) : ∀ (n : Nat) (m1 : Int32) (x1 : Int) (p1 : m1.toInt = x1) (m2 : Int32) (x2 : Int) (p2 : m2.toInt = x2) (m3 : Int32) (x3 : Int) (p3 : m3.toInt = x3), FX11_best_l19 N s q0 kx n x1 x2 x3 = some r → Rn d 182 (some .int) 19 [some (.ref q0), some (.int m1), some (.int m2), some (.int m3)] [] h Q := by
  have hT := hX11_best
  intro n
  induction n with
  | zero =>
    intro m1 x1 p1 m2 x2 p2 m3 x3 p3 e
    rw [FX11_best_l19] at e
    cases e
  | succ n ih =>
    intro m1 x1 p1 m2 x2 p2 m3 x3 p3 e
    rw [FX11_best_l19] at e
    refine Rn.n hT 2 (pc' := 22) (L' := [some (.ref q0), some (.int m1), some (.int m2), some (.int m3)]) (st' := [.int (16 : Int32), .int m3]) rfl ?_
    by_cases c_2217 : 16 ≤ x3
    · rw [if_pos c_2217] at e
      refine Rn.bt hT rfl rfl rfl (decide_eq_true ((ti_le L32_16 p3).mpr c_2217)) ?_
      exact Rn.weak (ll_n (ll_s (ll_n (ll_n ll_e)))) (hk m1 x1 p1 e)
    · rw [if_neg c_2217] at e
      refine Rn.bf hT rfl rfl rfl (decide_eq_false (fun z => c_2217 ((ti_le L32_16 p3).mp z))) ?_
      refine Rn.n hT 1 (pc' := 26) (L' := [some (.ref q0), some (.int m1), some (.int m2), some (.int m3)]) (st' := [.ref q0]) rfl ?_
      refine Rn.hp hT rfl rfl (gR_hp (rp_gP (k := 4) hR (T11_o t0) rfl (nn_114 hR t0))) ?_
      refine Rn.hp hT rfl rfl (gR_hp (rp_gR hR (T2_o (ty_114 hR t0)) rfl)) ?_
      refine Rn.n hT 1 (pc' := 33) (L' := [some (.ref q0), some (.int m1), some (.int m2), some (.int m3)]) (st' := [.int m3, .ref ((s q0 4).toNat + 1)]) rfl ?_
      obtain ⟨v_2218, e_2218, e⟩ := Option.bind_eq_some_iff.mp e
      refine Rn.call hT rfl rfl rfl (Nat.le_of_ble_eq_true rfl) (rcv_v gX1_isEmptyCell (by omega) (rp_ck hR (T1_o (T2_9 (ty_114 hR t0))))) (RX1_isEmptyCell (by omega) hR (T2_9 (ty_114 hR t0)) p3 e_2218 (fun z_2218 p_2218 => ?_))
      show Rn d _ _ 36 [some (.ref q0), some (.int m1), some (.int m2), some (.int m3)] [.int z_2218] h Q
      by_cases c_2219 : v_2218 = 0
      · rw [if_pos c_2219] at e
        refine Rn.bt hT rfl rfl rfl (decide_eq_true ((ti_e p_2218 L32_0).mpr c_2219)) ?_
        exact Rn.weak (ll_s (ll_s (ll_s (ll_s ll_e)))) (RX11_best_b68 hd hR t0 p1 p2 p3 ih hk hq e)
      · rw [if_neg c_2219] at e
        refine Rn.bf hT rfl rfl rfl (decide_eq_false (fun z => c_2219 ((ti_e p_2218 L32_0).mp z))) ?_
        refine Rn.n hT 1 (pc' := 40) (L' := [some (.ref q0), some (.int m1), some (.int m2), some (.int m3)]) (st' := [.ref q0]) rfl ?_
        refine Rn.hp hT rfl rfl (gR_hp (rp_gP (k := 4) hR (T11_o t0) rfl (nn_114 hR t0))) ?_
        refine Rn.hp hT rfl rfl (gR_hp (rp_gR hR (T2_o (ty_114 hR t0)) rfl)) ?_
        refine Rn.n hT 1 (pc' := 47) (L' := [some (.ref q0), some (.int m1), some (.int m2), some (.int m3)]) (st' := [.int m3, .ref ((s q0 4).toNat + 1)]) rfl ?_
        obtain ⟨v_2220, e_2220, e⟩ := Option.bind_eq_some_iff.mp e
        refine Rn.call hT rfl rfl rfl (Nat.le_of_ble_eq_true rfl) (rcv_v gX1_doorsTowards (by omega) (rp_ck hR (T1_o (T2_9 (ty_114 hR t0))))) (RX1_doorsTowards (by omega) hR (T2_9 (ty_114 hR t0)) p3 e_2220 (fun z_2220 p_2220 => ?_))
        show Rn d _ _ 50 [some (.ref q0), some (.int m1), some (.int m2), some (.int m3)] [.int z_2220] h Q
        refine Rn.n hT 1 (pc' := 51) (L' := [some (.ref q0), some (.int m1), some (.int m2), some (.int m3)]) (st' := [.int m2, .int z_2220]) rfl ?_
        by_cases c_2221 : v_2220 ≤ x2
        · rw [if_pos c_2221] at e
          refine Rn.bt hT rfl rfl rfl (decide_eq_true ((ti_le p_2220 p2).mpr c_2221)) ?_
          exact Rn.weak (ll_s (ll_s (ll_s (ll_s ll_e)))) (RX11_best_b68 hd hR t0 p1 p2 p3 ih hk hq e)
        · rw [if_neg c_2221] at e
          refine Rn.bf hT rfl rfl rfl (decide_eq_false (fun z => c_2221 ((ti_le p_2220 p2).mp z))) ?_
          refine Rn.n hT 3 (pc' := 57) (L' := [some (.ref q0), some (.int m3), some (.int m2), some (.int m3)]) (st' := [.ref q0]) rfl ?_
          refine Rn.hp hT rfl rfl (gR_hp (rp_gP (k := 4) hR (T11_o t0) rfl (nn_114 hR t0))) ?_
          refine Rn.hp hT rfl rfl (gR_hp (rp_gR hR (T2_o (ty_114 hR t0)) rfl)) ?_
          refine Rn.n hT 1 (pc' := 64) (L' := [some (.ref q0), some (.int m3), some (.int m2), some (.int m3)]) (st' := [.int m3, .ref ((s q0 4).toNat + 1)]) rfl ?_
          obtain ⟨v_2222, e_2222, e⟩ := Option.bind_eq_some_iff.mp e
          refine Rn.call hT rfl rfl rfl (Nat.le_of_ble_eq_true rfl) (rcv_v gX1_doorsTowards (by omega) (rp_ck hR (T1_o (T2_9 (ty_114 hR t0))))) (RX1_doorsTowards (by omega) hR (T2_9 (ty_114 hR t0)) p3 e_2222 (fun z_2222 p_2222 => ?_))
          show Rn d _ _ 67 [some (.ref q0), some (.int m3), some (.int m2), some (.int m3)] [.int z_2222] h Q
          refine Rn.n hT 1 (pc' := 68) (L' := [some (.ref q0), some (.int m3), some (.int z_2222), some (.int m3)]) (st' := []) rfl ?_
          exact Rn.weak (ll_s (ll_s (ll_s (ll_s ll_e)))) (RX11_best_b68 hd hR t0 p3 p_2222 p3 ih hk hq e)
def FX11_best (N : Nat) (s : iv_M) (q0 : Nat) : Option (Int) := (if (s ((s q0 4).toNat) 0) = 0 then (some (-1)) else (FX11_best_l19 N s q0 (fun (x2216_1 : Int) => (some x2216_1)) N (-2) (-1) 0))
set_option maxRecDepth 10000 in
set_option maxHeartbeats 4000000 in
theorem RX11_best {d N nc Ls : Nat} {Xs : Nat → Int32} (hd : 3 ≤ d) {h : iv_H} {s : iv_M} (hR : Rep nc Ls Xs h s) {q0 : Nat} (t0 : T11 nc q0) {r : Int} {Q : Option Value → iv_H → Prop} (e : FX11_best N s q0 = some r) (hq : ∀ (z : Int32), z.toInt = r → Q (some (.int z)) h) : Cl d 182 [.ref q0] h Q := by
  obtain ⟨d, rfl⟩ : ∃ k, d = k + 1 := ⟨d - 1, by omega⟩
  have hd : 2 ≤ d := by omega
  have hT := hX11_best
  unfold FX11_best at e
  refine Cl.into (by decide) gX11_best rfl ?_
  show Rn d 182 (some .int) 0 [some (.ref q0), none, none, none] [] h Q
  refine Rn.n hT 1 (pc' := 1) (L' := [some (.ref q0), none, none, none]) (st' := [.ref q0]) rfl ?_
  refine Rn.hp hT rfl rfl (gR_hp (rp_gP (k := 4) hR (T11_o t0) rfl (nn_114 hR t0))) ?_
  obtain ⟨z_2214, g_2214, p_2214⟩ : ∃ z : Int32, gI h 2 0 ((s q0 4).toNat) = some z ∧ z.toInt = s ((s q0 4).toNat) 0 := rp_gI (k := 0) hR (T2_o (ty_114 hR t0)) rfl
  refine Rn.hp hT rfl rfl (gI_hp g_2214) ?_
  by_cases c_2215 : (s ((s q0 4).toNat) 0) = 0
  · rw [if_pos c_2215] at e
    refine Rn.bf hT rfl rfl rfl (decide_eq_false (fun z => z ((ti_e p_2214 L32_0).mpr c_2215))) ?_
    refine Rn.n hT 1 (pc' := 11) (L' := [some (.ref q0), none, none, none]) (st' := [.int (-1 : Int32)]) rfl ?_
    obtain rfl := Option.some.inj e
    exact Rn.ret hT rfl rfl rfl (hq (-1 : Int32) L32_m1)
  · rw [if_neg c_2215] at e
    refine Rn.bt hT rfl rfl rfl (decide_eq_true (fun z => c_2215 ((ti_e p_2214 L32_0).mp z))) ?_
    refine Rn.n hT 6 (pc' := 19) (L' := [some (.ref q0), some (.int (-2 : Int32)), some (.int (-1 : Int32)), some (.int (0 : Int32))]) (st' := []) rfl ?_
    refine Rn.weak (ll_s (ll_s (ll_s (ll_s ll_e)))) (RX11_best_l19 hd hR t0 (fun m2216_1 x2216_1 p2216_1 e => ?_) hq N (-2 : Int32) (-2) L32_m2 (-1 : Int32) (-1) L32_m1 (0 : Int32) 0 L32_0 e)
    try dsimp only at e
    refine Rn.n hT 1 (pc' := 75) (L' := [none, some (.int m2216_1), none, none]) (st' := [.int m2216_1]) rfl ?_
    obtain rfl := Option.some.inj e
    exact Rn.ret hT rfl rfl rfl (hq m2216_1 p2216_1)
set_option maxRecDepth 10000 in
theorem hX11_seed : iv_Tb 183 tX11_seed := iv_tb_of (m := mX11_seed) rfl
set_option maxRecDepth 10000 in
theorem gX11_seed : PG.2 183 = some mX11_seed := iv_pi_of (t := tX11_seed) rfl (by decide)
def FX11_seed (N : Nat) (s : iv_M) (q0 : Nat) (x1 : Int) : Option (Int × iv_M) := (if 0 ≤ x1 then ((pt s ((s q0 4).toNat) 7 x1).bind fun s_2225 => (some ((s ((s q0 4).toNat) 7), s_2225))) else (some ((-1), s)))
set_option maxRecDepth 10000 in
set_option maxHeartbeats 4000000 in
theorem RX11_seed {d N nc Ls : Nat} {Xs : Nat → Int32} (hd : 1 ≤ d) {h : iv_H} {s : iv_M} (hR : Rep nc Ls Xs h s) {q0 : Nat} (t0 : T11 nc q0) {m1 : Int32} {x1 : Int} (p1 : m1.toInt = x1) {r : Int × iv_M} {Q : Option Value → iv_H → Prop} (e : FX11_seed N s q0 x1 = some r) (hq : ∀ (z : Int32) (h1 : iv_H), z.toInt = r.1 → Rep nc Ls Xs h1 r.2 → Q (some (.int z)) h1) : Cl d 183 [.ref q0, .int m1] h Q := by
  obtain ⟨d, rfl⟩ : ∃ k, d = k + 1 := ⟨d - 1, by omega⟩
  have hd : 0 ≤ d := by omega
  have hT := hX11_seed
  unfold FX11_seed at e
  refine Cl.into (by decide) gX11_seed rfl ?_
  show Rn d 183 (some .int) 0 [some (.ref q0), some (.int m1), none] [] h Q
  refine Rn.n hT 1 (pc' := 1) (L' := [some (.ref q0), some (.int m1), none]) (st' := [.int m1]) rfl ?_
  by_cases c_2223 : 0 ≤ x1
  · rw [if_pos c_2223] at e
    refine Rn.bt hT rfl rfl rfl (decide_eq_true ((ti_le L32_0 p1).mpr c_2223)) ?_
    refine Rn.n hT 1 (pc' := 7) (L' := [some (.ref q0), some (.int m1), none]) (st' := [.ref q0]) rfl ?_
    refine Rn.hp hT rfl rfl (gR_hp (rp_gP (k := 4) hR (T11_o t0) rfl (nn_114 hR t0))) ?_
    obtain ⟨z_2224, g_2224, p_2224⟩ : ∃ z : Int32, gI h 2 7 ((s q0 4).toNat) = some z ∧ z.toInt = s ((s q0 4).toNat) 7 := rp_gI (k := 7) hR (T2_o (ty_114 hR t0)) rfl
    refine Rn.hp hT rfl rfl (gI_hp g_2224) ?_
    refine Rn.n hT 2 (pc' := 15) (L' := [some (.ref q0), some (.int m1), some (.int z_2224)]) (st' := [.ref q0]) rfl ?_
    refine Rn.hp hT rfl rfl (gR_hp (rp_gP (k := 4) hR (T11_o t0) rfl (nn_114 hR t0))) ?_
    refine Rn.n hT 1 (pc' := 19) (L' := [some (.ref q0), some (.int m1), some (.int z_2224)]) (st' := [.int m1, .ref ((s q0 4).toNat)]) rfl ?_
    obtain ⟨s_2225, e_2226, e⟩ := Option.bind_eq_some_iff.mp e
    obtain ⟨h_2225, g_2226, R_2225⟩ := rp_pI (ci := 2) (k := 7) hR (T2_o (ty_114 hR t0)) rfl rfl p1 e_2226
    refine Rn.hp hT rfl rfl (pV_hp rfl g_2226) ?_
    refine Rn.n hT 1 (pc' := 23) (L' := [some (.ref q0), some (.int m1), some (.int z_2224)]) (st' := [.int z_2224]) rfl ?_
    obtain rfl := Option.some.inj e
    exact Rn.ret hT rfl rfl rfl (hq z_2224 h_2225 p_2224 R_2225)
  · rw [if_neg c_2223] at e
    refine Rn.bf hT rfl rfl rfl (decide_eq_false (fun z => c_2223 ((ti_le L32_0 p1).mp z))) ?_
    refine Rn.n hT 1 (pc' := 5) (L' := [some (.ref q0), some (.int m1), none]) (st' := [.int (-1 : Int32)]) rfl ?_
    obtain rfl := Option.some.inj e
    exact Rn.ret hT rfl rfl rfl (hq (-1 : Int32) h L32_m1 hR)
set_option maxRecDepth 10000 in
theorem hX11_drawn : iv_Tb 184 tX11_drawn := iv_tb_of (m := mX11_drawn) rfl
set_option maxRecDepth 10000 in
theorem gX11_drawn : PG.2 184 = some mX11_drawn := iv_pi_of (t := tX11_drawn) rfl (by decide)
def FX11_drawn_b33 (N : Nat) (s : iv_M)   : Option (Int × iv_M) := (some ((-1), s))
set_option maxRecDepth 10000 in
set_option maxHeartbeats 4000000 in
theorem RX11_drawn_b33 {d N nc Ls : Nat} {Xs : Nat → Int32} (hd : 6 ≤ d) {h : iv_H} {s : iv_M} (hR : Rep nc Ls Xs h s)   {r : Int × iv_M} {Q : Option Value → iv_H → Prop} (hq : ∀ (z : Int32) (h1 : iv_H), z.toInt = r.1 → Rep nc Ls Xs h1 r.2 → Q (some (.int z)) h1) (e : FX11_drawn_b33 N s   = some r) : Rn d 184 (some .int) 33 [none, none, none, none, none, none] [] h Q := by
  have hT := hX11_drawn
  unfold FX11_drawn_b33 at e
  refine Rn.n hT 1 (pc' := 34) (L' := [none, none, none, none, none, none]) (st' := [.int (-1 : Int32)]) rfl ?_
  obtain rfl := Option.some.inj e
  exact Rn.ret hT rfl rfl rfl (hq (-1 : Int32) h L32_m1 hR)
def FX11_drawn_b64 (N : Nat) (s : iv_M)   : Option (Int × iv_M) := (some ((-1), s))
set_option maxRecDepth 10000 in
set_option maxHeartbeats 4000000 in
theorem RX11_drawn_b64 {d N nc Ls : Nat} {Xs : Nat → Int32} (hd : 6 ≤ d) {h : iv_H} {s : iv_M} (hR : Rep nc Ls Xs h s)   {r : Int × iv_M} {Q : Option Value → iv_H → Prop} (hq : ∀ (z : Int32) (h1 : iv_H), z.toInt = r.1 → Rep nc Ls Xs h1 r.2 → Q (some (.int z)) h1) (e : FX11_drawn_b64 N s   = some r) : Rn d 184 (some .int) 64 [none, none, none, none, none, none] [] h Q := by
  have hT := hX11_drawn
  unfold FX11_drawn_b64 at e
  refine Rn.n hT 1 (pc' := 65) (L' := [none, none, none, none, none, none]) (st' := [.int (-1 : Int32)]) rfl ?_
  obtain rfl := Option.some.inj e
  exact Rn.ret hT rfl rfl rfl (hq (-1 : Int32) h L32_m1 hR)
def FX11_drawn_b122 (N : Nat) (s : iv_M)  (xs0 : Int) : Option (Int × iv_M) := (some (xs0, s))
set_option maxRecDepth 10000 in
set_option maxHeartbeats 4000000 in
theorem RX11_drawn_b122 {d N nc Ls : Nat} {Xs : Nat → Int32} (hd : 6 ≤ d) {h : iv_H} {s : iv_M} (hR : Rep nc Ls Xs h s)  {ms0 : Int32} {xs0 : Int} (ps0 : ms0.toInt = xs0) {r : Int × iv_M} {Q : Option Value → iv_H → Prop} (hq : ∀ (z : Int32) (h1 : iv_H), z.toInt = r.1 → Rep nc Ls Xs h1 r.2 → Q (some (.int z)) h1) (e : FX11_drawn_b122 N s  xs0 = some r) : Rn d 184 (some .int) 122 [none, none, none, none, none, none] [.int ms0] h Q := by
  have hT := hX11_drawn
  unfold FX11_drawn_b122 at e
  obtain rfl := Option.some.inj e
  exact Rn.ret hT rfl rfl rfl (hq ms0 h ps0 hR)
def FX11_drawn (N : Nat) (s : iv_M) (q0 : Nat) (x1 : Int) (x2 : Int) (x3 : Int) (x4 : Int) (x5 : Int) : Option (Int × iv_M) := (if x1 < 1 then (FX11_drawn_b33 N s) else (if 10 < x1 then (FX11_drawn_b33 N s) else (if x2 < 1 then (FX11_drawn_b33 N s) else (if 60 < x2 then (FX11_drawn_b33 N s) else (if x5 < 0 then (FX11_drawn_b33 N s) else (if x5 ≤ 2 then ((FX2_isRoom N s ((s q0 4).toNat) x3).bind fun v_2233 => (if v_2233 = 0 then (FX11_drawn_b64 N s) else ((FX2_isRoom N s ((s q0 4).toNat) x4).bind fun v_2235 => (if v_2235 = 0 then (FX11_drawn_b64 N s) else (if x3 = x4 then (FX11_drawn_b64 N s) else ((FX11_ruleInForce N s q0).bind fun v_2238 => ((FX10_drawTimes N s (q0 + 81) ((s q0 4).toNat) v_2238 x1 x2 x3 x4).bind fun s_2240 => (if x5 = 0 then (some ((s_2240 (q0 + 81) 9), s_2240)) else (if x5 = 1 then (FX11_drawn_b122 N s_2240 (s_2240 (q0 + 81) 10)) else (FX11_drawn_b122 N s_2240 (s_2240 (q0 + 81) 11))))))))))) else (FX11_drawn_b33 N s)))))))
set_option maxRecDepth 10000 in
set_option maxHeartbeats 4000000 in
theorem RX11_drawn {d N nc Ls : Nat} {Xs : Nat → Int32} (hd : 7 ≤ d) {h : iv_H} {s : iv_M} (hR : Rep nc Ls Xs h s) {q0 : Nat} (t0 : T11 nc q0) {m1 : Int32} {x1 : Int} (p1 : m1.toInt = x1) {m2 : Int32} {x2 : Int} (p2 : m2.toInt = x2) {m3 : Int32} {x3 : Int} (p3 : m3.toInt = x3) {m4 : Int32} {x4 : Int} (p4 : m4.toInt = x4) {m5 : Int32} {x5 : Int} (p5 : m5.toInt = x5) {r : Int × iv_M} {Q : Option Value → iv_H → Prop} (e : FX11_drawn N s q0 x1 x2 x3 x4 x5 = some r) (hq : ∀ (z : Int32) (h1 : iv_H), z.toInt = r.1 → Rep nc Ls Xs h1 r.2 → Q (some (.int z)) h1) : Cl d 184 [.ref q0, .int m1, .int m2, .int m3, .int m4, .int m5] h Q := by
  obtain ⟨d, rfl⟩ : ∃ k, d = k + 1 := ⟨d - 1, by omega⟩
  have hd : 6 ≤ d := by omega
  have hT := hX11_drawn
  unfold FX11_drawn at e
  refine Cl.into (by decide) gX11_drawn rfl ?_
  show Rn d 184 (some .int) 0 [some (.ref q0), some (.int m1), some (.int m2), some (.int m3), some (.int m4), some (.int m5)] [] h Q
  refine Rn.n hT 2 (pc' := 2) (L' := [some (.ref q0), some (.int m1), some (.int m2), some (.int m3), some (.int m4), some (.int m5)]) (st' := [.int (1 : Int32), .int m1]) rfl ?_
  by_cases c_2227 : x1 < 1
  · rw [if_pos c_2227] at e
    refine Rn.bt hT rfl rfl rfl (decide_eq_true ((ti_l p1 L32_1).mpr c_2227)) ?_
    exact Rn.weak (ll_n (ll_n (ll_n (ll_n (ll_n (ll_n ll_e)))))) (RX11_drawn_b33 hd hR hq e)
  · rw [if_neg c_2227] at e
    refine Rn.bf hT rfl rfl rfl (decide_eq_false (fun z => c_2227 ((ti_l p1 L32_1).mp z))) ?_
    refine Rn.n hT 2 (pc' := 8) (L' := [some (.ref q0), some (.int m1), some (.int m2), some (.int m3), some (.int m4), some (.int m5)]) (st' := [.int (10 : Int32), .int m1]) rfl ?_
    by_cases c_2228 : 10 < x1
    · rw [if_pos c_2228] at e
      refine Rn.bt hT rfl rfl rfl (decide_eq_true ((ti_l L32_10 p1).mpr c_2228)) ?_
      exact Rn.weak (ll_n (ll_n (ll_n (ll_n (ll_n (ll_n ll_e)))))) (RX11_drawn_b33 hd hR hq e)
    · rw [if_neg c_2228] at e
      refine Rn.bf hT rfl rfl rfl (decide_eq_false (fun z => c_2228 ((ti_l L32_10 p1).mp z))) ?_
      refine Rn.n hT 2 (pc' := 13) (L' := [some (.ref q0), some (.int m1), some (.int m2), some (.int m3), some (.int m4), some (.int m5)]) (st' := [.int (1 : Int32), .int m2]) rfl ?_
      by_cases c_2229 : x2 < 1
      · rw [if_pos c_2229] at e
        refine Rn.bt hT rfl rfl rfl (decide_eq_true ((ti_l p2 L32_1).mpr c_2229)) ?_
        exact Rn.weak (ll_n (ll_n (ll_n (ll_n (ll_n (ll_n ll_e)))))) (RX11_drawn_b33 hd hR hq e)
      · rw [if_neg c_2229] at e
        refine Rn.bf hT rfl rfl rfl (decide_eq_false (fun z => c_2229 ((ti_l p2 L32_1).mp z))) ?_
        refine Rn.n hT 2 (pc' := 19) (L' := [some (.ref q0), some (.int m1), some (.int m2), some (.int m3), some (.int m4), some (.int m5)]) (st' := [.int (60 : Int32), .int m2]) rfl ?_
        by_cases c_2230 : 60 < x2
        · rw [if_pos c_2230] at e
          refine Rn.bt hT rfl rfl rfl (decide_eq_true ((ti_l L32_60 p2).mpr c_2230)) ?_
          exact Rn.weak (ll_n (ll_n (ll_n (ll_n (ll_n (ll_n ll_e)))))) (RX11_drawn_b33 hd hR hq e)
        · rw [if_neg c_2230] at e
          refine Rn.bf hT rfl rfl rfl (decide_eq_false (fun z => c_2230 ((ti_l L32_60 p2).mp z))) ?_
          refine Rn.n hT 1 (pc' := 24) (L' := [some (.ref q0), some (.int m1), some (.int m2), some (.int m3), some (.int m4), some (.int m5)]) (st' := [.int m5]) rfl ?_
          by_cases c_2231 : x5 < 0
          · rw [if_pos c_2231] at e
            refine Rn.bt hT rfl rfl rfl (decide_eq_true ((ti_l p5 L32_0).mpr c_2231)) ?_
            exact Rn.weak (ll_n (ll_n (ll_n (ll_n (ll_n (ll_n ll_e)))))) (RX11_drawn_b33 hd hR hq e)
          · rw [if_neg c_2231] at e
            refine Rn.bf hT rfl rfl rfl (decide_eq_false (fun z => c_2231 ((ti_l p5 L32_0).mp z))) ?_
            refine Rn.n hT 2 (pc' := 30) (L' := [some (.ref q0), some (.int m1), some (.int m2), some (.int m3), some (.int m4), some (.int m5)]) (st' := [.int (2 : Int32), .int m5]) rfl ?_
            by_cases c_2232 : x5 ≤ 2
            · rw [if_pos c_2232] at e
              refine Rn.bt hT rfl rfl rfl (decide_eq_true ((ti_le p5 L32_2).mpr c_2232)) ?_
              refine Rn.n hT 1 (pc' := 36) (L' := [some (.ref q0), some (.int m1), some (.int m2), some (.int m3), some (.int m4), some (.int m5)]) (st' := [.ref q0]) rfl ?_
              refine Rn.hp hT rfl rfl (gR_hp (rp_gP (k := 4) hR (T11_o t0) rfl (nn_114 hR t0))) ?_
              refine Rn.n hT 1 (pc' := 40) (L' := [some (.ref q0), some (.int m1), some (.int m2), some (.int m3), some (.int m4), some (.int m5)]) (st' := [.int m3, .ref ((s q0 4).toNat)]) rfl ?_
              obtain ⟨v_2233, e_2233, e⟩ := Option.bind_eq_some_iff.mp e
              refine Rn.call hT rfl rfl rfl (Nat.le_of_ble_eq_true rfl) (rcv_v gX2_isRoom (by omega) (rp_ck hR (T2_o (ty_114 hR t0)))) (RX2_isRoom (by omega) hR (ty_114 hR t0) p3 e_2233 (fun z_2233 p_2233 => ?_))
              show Rn d _ _ 43 [some (.ref q0), some (.int m1), some (.int m2), some (.int m3), some (.int m4), some (.int m5)] [.int z_2233] h Q
              by_cases c_2234 : v_2233 = 0
              · rw [if_pos c_2234] at e
                refine Rn.bt hT rfl rfl rfl (decide_eq_true ((ti_e p_2233 L32_0).mpr c_2234)) ?_
                exact Rn.weak (ll_n (ll_n (ll_n (ll_n (ll_n (ll_n ll_e)))))) (RX11_drawn_b64 hd hR hq e)
              · rw [if_neg c_2234] at e
                refine Rn.bf hT rfl rfl rfl (decide_eq_false (fun z => c_2234 ((ti_e p_2233 L32_0).mp z))) ?_
                refine Rn.n hT 1 (pc' := 47) (L' := [some (.ref q0), some (.int m1), some (.int m2), some (.int m3), some (.int m4), some (.int m5)]) (st' := [.ref q0]) rfl ?_
                refine Rn.hp hT rfl rfl (gR_hp (rp_gP (k := 4) hR (T11_o t0) rfl (nn_114 hR t0))) ?_
                refine Rn.n hT 1 (pc' := 52) (L' := [some (.ref q0), some (.int m1), some (.int m2), some (.int m3), some (.int m4), some (.int m5)]) (st' := [.int m4, .ref ((s q0 4).toNat)]) rfl ?_
                obtain ⟨v_2235, e_2235, e⟩ := Option.bind_eq_some_iff.mp e
                refine Rn.call hT rfl rfl rfl (Nat.le_of_ble_eq_true rfl) (rcv_v gX2_isRoom (by omega) (rp_ck hR (T2_o (ty_114 hR t0)))) (RX2_isRoom (by omega) hR (ty_114 hR t0) p4 e_2235 (fun z_2235 p_2235 => ?_))
                show Rn d _ _ 55 [some (.ref q0), some (.int m1), some (.int m2), some (.int m3), some (.int m4), some (.int m5)] [.int z_2235] h Q
                by_cases c_2236 : v_2235 = 0
                · rw [if_pos c_2236] at e
                  refine Rn.bt hT rfl rfl rfl (decide_eq_true ((ti_e p_2235 L32_0).mpr c_2236)) ?_
                  exact Rn.weak (ll_n (ll_n (ll_n (ll_n (ll_n (ll_n ll_e)))))) (RX11_drawn_b64 hd hR hq e)
                · rw [if_neg c_2236] at e
                  refine Rn.bf hT rfl rfl rfl (decide_eq_false (fun z => c_2236 ((ti_e p_2235 L32_0).mp z))) ?_
                  refine Rn.n hT 2 (pc' := 61) (L' := [some (.ref q0), some (.int m1), some (.int m2), some (.int m3), some (.int m4), some (.int m5)]) (st' := [.int m4, .int m3]) rfl ?_
                  by_cases c_2237 : x3 = x4
                  · rw [if_pos c_2237] at e
                    refine Rn.bf hT rfl rfl rfl (decide_eq_false (fun z => z ((ti_e p3 p4).mpr c_2237))) ?_
                    exact Rn.weak (ll_n (ll_n (ll_n (ll_n (ll_n (ll_n ll_e)))))) (RX11_drawn_b64 hd hR hq e)
                  · rw [if_neg c_2237] at e
                    refine Rn.bt hT rfl rfl rfl (decide_eq_true (fun z => c_2237 ((ti_e p3 p4).mp z))) ?_
                    refine Rn.n hT 1 (pc' := 67) (L' := [some (.ref q0), some (.int m1), some (.int m2), some (.int m3), some (.int m4), some (.int m5)]) (st' := [.ref q0]) rfl ?_
                    refine Rn.hp hT rfl rfl (gR_hp (rp_gR hR (T11_o t0) rfl)) ?_
                    refine Rn.n hT 1 (pc' := 71) (L' := [some (.ref q0), some (.int m1), some (.int m2), some (.int m3), some (.int m4), some (.int m5)]) (st' := [.ref q0, .ref (q0 + 81)]) rfl ?_
                    refine Rn.hp hT rfl rfl (gR_hp (rp_gP (k := 4) hR (T11_o t0) rfl (nn_114 hR t0))) ?_
                    refine Rn.n hT 1 (pc' := 75) (L' := [some (.ref q0), some (.int m1), some (.int m2), some (.int m3), some (.int m4), some (.int m5)]) (st' := [.ref q0, .ref ((s q0 4).toNat), .ref (q0 + 81)]) rfl ?_
                    obtain ⟨v_2238, e_2238, e⟩ := Option.bind_eq_some_iff.mp e
                    refine Rn.call hT rfl rfl rfl (Nat.le_of_ble_eq_true rfl) (rcv_v gX11_ruleInForce (by omega) (rp_ck hR (T11_o t0))) (RX11_ruleInForce (by omega) hR t0 e_2238 (fun t_2238 => ?_))
                    show Rn d _ _ 78 [some (.ref q0), some (.int m1), some (.int m2), some (.int m3), some (.int m4), some (.int m5)] [iv_rf (rvo v_2238), .ref ((s q0 4).toNat), .ref (q0 + 81)] h Q
                    refine Rn.n hT 4 (pc' := 83) (L' := [some (.ref q0), some (.int m1), some (.int m2), some (.int m3), some (.int m4), some (.int m5)]) (st' := [.int m4, .int m3, .int m2, .int m1, iv_rf (rvo v_2238), .ref ((s q0 4).toNat), .ref (q0 + 81)]) rfl ?_
                    obtain ⟨s_2240, e_2239, e⟩ := Option.bind_eq_some_iff.mp e
                    refine Rn.call hT rfl rfl rfl (Nat.le_of_ble_eq_true rfl) (rcv_v gX10_drawTimes (by omega) (rp_ck hR (T10_o (T11_11 t0)))) (RX10_drawTimes (by omega) hR (T11_11 t0) (ty_114 hR t0) t_2238 p1 p2 p3 p4 e_2239 (fun h_2240 R_2240 => ?_))
                    show Rn d _ _ 86 [some (.ref q0), some (.int m1), some (.int m2), some (.int m3), some (.int m4), some (.int m5)] [] h_2240 Q
                    refine Rn.n hT 1 (pc' := 88) (L' := [some (.ref q0), some (.int m1), some (.int m2), some (.int m3), some (.int m4), some (.int m5)]) (st' := [.int m5]) rfl ?_
                    by_cases c_2241 : x5 = 0
                    · rw [if_pos c_2241] at e
                      refine Rn.bf hT rfl rfl rfl (decide_eq_false (fun z => z ((ti_e p5 L32_0).mpr c_2241))) ?_
                      refine Rn.n hT 1 (pc' := 92) (L' := [some (.ref q0), some (.int m1), some (.int m2), some (.int m3), some (.int m4), some (.int m5)]) (st' := [.ref q0]) rfl ?_
                      refine Rn.hp hT rfl rfl (gR_hp (rp_gR R_2240 (T11_o t0) rfl)) ?_
                      obtain ⟨z_2245, g_2245, p_2245⟩ : ∃ z : Int32, gI h_2240 10 9 (q0 + 81) = some z ∧ z.toInt = s_2240 (q0 + 81) 9 := rp_gI (k := 9) R_2240 (T10_o (T11_11 t0)) rfl
                      refine Rn.hp hT rfl rfl (gI_hp g_2245) ?_
                      obtain rfl := Option.some.inj e
                      exact Rn.ret hT rfl rfl rfl (hq z_2245 h_2240 p_2245 R_2240)
                    · rw [if_neg c_2241] at e
                      refine Rn.bt hT rfl rfl rfl (decide_eq_true (fun z => c_2241 ((ti_e p5 L32_0).mp z))) ?_
                      refine Rn.n hT 2 (pc' := 102) (L' := [some (.ref q0), some (.int m1), some (.int m2), some (.int m3), some (.int m4), some (.int m5)]) (st' := [.int (1 : Int32), .int m5]) rfl ?_
                      by_cases c_2242 : x5 = 1
                      · rw [if_pos c_2242] at e
                        refine Rn.bf hT rfl rfl rfl (decide_eq_false (fun z => z ((ti_e p5 L32_1).mpr c_2242))) ?_
                        refine Rn.n hT 1 (pc' := 106) (L' := [some (.ref q0), some (.int m1), some (.int m2), some (.int m3), some (.int m4), some (.int m5)]) (st' := [.ref q0]) rfl ?_
                        refine Rn.hp hT rfl rfl (gR_hp (rp_gR R_2240 (T11_o t0) rfl)) ?_
                        obtain ⟨z_2244, g_2244, p_2244⟩ : ∃ z : Int32, gI h_2240 10 10 (q0 + 81) = some z ∧ z.toInt = s_2240 (q0 + 81) 10 := rp_gI (k := 10) R_2240 (T10_o (T11_11 t0)) rfl
                        refine Rn.hp hT rfl rfl (gI_hp g_2244) ?_
                        refine Rn.n hT 1 (pc' := 122) (L' := [some (.ref q0), some (.int m1), some (.int m2), some (.int m3), some (.int m4), some (.int m5)]) (st' := [.int z_2244]) rfl ?_
                        exact Rn.weak (ll_n (ll_n (ll_n (ll_n (ll_n (ll_n ll_e)))))) (RX11_drawn_b122 hd R_2240 p_2244 hq e)
                      · rw [if_neg c_2242] at e
                        refine Rn.bt hT rfl rfl rfl (decide_eq_true (fun z => c_2242 ((ti_e p5 L32_1).mp z))) ?_
                        refine Rn.n hT 1 (pc' := 116) (L' := [some (.ref q0), some (.int m1), some (.int m2), some (.int m3), some (.int m4), some (.int m5)]) (st' := [.ref q0]) rfl ?_
                        refine Rn.hp hT rfl rfl (gR_hp (rp_gR R_2240 (T11_o t0) rfl)) ?_
                        obtain ⟨z_2243, g_2243, p_2243⟩ : ∃ z : Int32, gI h_2240 10 11 (q0 + 81) = some z ∧ z.toInt = s_2240 (q0 + 81) 11 := rp_gI (k := 11) R_2240 (T10_o (T11_11 t0)) rfl
                        refine Rn.hp hT rfl rfl (gI_hp g_2243) ?_
                        exact Rn.weak (ll_n (ll_n (ll_n (ll_n (ll_n (ll_n ll_e)))))) (RX11_drawn_b122 hd R_2240 p_2243 hq e)
            · rw [if_neg c_2232] at e
              refine Rn.bf hT rfl rfl rfl (decide_eq_false (fun z => c_2232 ((ti_le p5 L32_2).mp z))) ?_
              exact Rn.weak (ll_n (ll_n (ll_n (ll_n (ll_n (ll_n ll_e)))))) (RX11_drawn_b33 hd hR hq e)
set_option maxRecDepth 10000 in
theorem hX11_countMore : iv_Tb 186 tX11_countMore := iv_tb_of (m := mX11_countMore) rfl
set_option maxRecDepth 10000 in
theorem gX11_countMore : PG.2 186 = some mX11_countMore := iv_pi_of (t := tX11_countMore) rfl (by decide)
def FX11_countMore (N : Nat) (s : iv_M) (q0 : Nat) (x1 : Int) : Option (Int) := (if x1 = 9 then (some (s ((s q0 4).toNat + 10) 1)) else (if x1 = 10 then (some (s ((s q0 4).toNat + 16) 1)) else (if x1 = 11 then (some (s ((s q0 4).toNat + 18) 1)) else (if x1 = 12 then (some (s ((s q0 4).toNat + 20) 1)) else (if x1 = 13 then (some (s ((s q0 4).toNat) 7)) else (if x1 = 14 then (some (s q0 1)) else (if x1 = 15 then ((FX1_emptyCells N s ((s q0 4).toNat + 1)).bind fun v_2259 => (some v_2259)) else (if x1 = 16 then (some (s ((s q0 4).toNat) 8)) else (some (-1))))))))))
set_option maxRecDepth 10000 in
set_option maxHeartbeats 4000000 in
theorem RX11_countMore {d N nc Ls : Nat} {Xs : Nat → Int32} (hd : 2 ≤ d) {h : iv_H} {s : iv_M} (hR : Rep nc Ls Xs h s) {q0 : Nat} (t0 : T11 nc q0) {m1 : Int32} {x1 : Int} (p1 : m1.toInt = x1) {r : Int} {Q : Option Value → iv_H → Prop} (e : FX11_countMore N s q0 x1 = some r) (hq : ∀ (z : Int32), z.toInt = r → Q (some (.int z)) h) : Cl d 186 [.ref q0, .int m1] h Q := by
  obtain ⟨d, rfl⟩ : ∃ k, d = k + 1 := ⟨d - 1, by omega⟩
  have hd : 1 ≤ d := by omega
  have hT := hX11_countMore
  unfold FX11_countMore at e
  refine Cl.into (by decide) gX11_countMore rfl ?_
  show Rn d 186 (some .int) 0 [some (.ref q0), some (.int m1)] [] h Q
  refine Rn.n hT 1 (pc' := 1) (L' := [some (.ref q0), some (.int m1)]) (st' := [.int m1]) rfl ?_
  by_cases c_2246 : x1 = 9
  · rw [if_pos c_2246] at e
    refine Rn.sw2 hT rfl rfl rfl (if_pos ((ti_e p1 L32_9).mpr c_2246)) ?_
    refine Rn.n hT 1 (pc' := 49) (L' := [some (.ref q0), some (.int m1)]) (st' := [.ref q0]) rfl ?_
    refine Rn.hp hT rfl rfl (gR_hp (rp_gP (k := 4) hR (T11_o t0) rfl (nn_114 hR t0))) ?_
    refine Rn.hp hT rfl rfl (gR_hp (rp_gR hR (T2_o (ty_114 hR t0)) rfl)) ?_
    obtain ⟨z_2247, g_2247, p_2247⟩ : ∃ z : Int32, gI h 7 1 ((s q0 4).toNat + 10) = some z ∧ z.toInt = s ((s q0 4).toNat + 10) 1 := rp_gI (k := 1) hR (T7_o (T2_12 (ty_114 hR t0))) rfl
    refine Rn.hp hT rfl rfl (gI_hp g_2247) ?_
    obtain rfl := Option.some.inj e
    exact Rn.ret hT rfl rfl rfl (hq z_2247 p_2247)
  · rw [if_neg c_2246] at e
    by_cases c_2248 : x1 = 10
    · rw [if_pos c_2248] at e
      refine Rn.sw2 hT rfl rfl rfl ((if_neg (fun z => c_2246 ((ti_e p1 L32_9).mp z))).trans (if_pos ((ti_e p1 L32_10).mpr c_2248))) ?_
      refine Rn.n hT 1 (pc' := 60) (L' := [some (.ref q0), some (.int m1)]) (st' := [.ref q0]) rfl ?_
      refine Rn.hp hT rfl rfl (gR_hp (rp_gP (k := 4) hR (T11_o t0) rfl (nn_114 hR t0))) ?_
      refine Rn.hp hT rfl rfl (gR_hp (rp_gR hR (T2_o (ty_114 hR t0)) rfl)) ?_
      obtain ⟨z_2249, g_2249, p_2249⟩ : ∃ z : Int32, gI h 7 1 ((s q0 4).toNat + 16) = some z ∧ z.toInt = s ((s q0 4).toNat + 16) 1 := rp_gI (k := 1) hR (T7_o (T2_16 (ty_114 hR t0))) rfl
      refine Rn.hp hT rfl rfl (gI_hp g_2249) ?_
      obtain rfl := Option.some.inj e
      exact Rn.ret hT rfl rfl rfl (hq z_2249 p_2249)
    · rw [if_neg c_2248] at e
      by_cases c_2250 : x1 = 11
      · rw [if_pos c_2250] at e
        refine Rn.sw2 hT rfl rfl rfl ((if_neg (fun z => c_2246 ((ti_e p1 L32_9).mp z))).trans ((if_neg (fun z => c_2248 ((ti_e p1 L32_10).mp z))).trans (if_pos ((ti_e p1 L32_11).mpr c_2250)))) ?_
        refine Rn.n hT 1 (pc' := 71) (L' := [some (.ref q0), some (.int m1)]) (st' := [.ref q0]) rfl ?_
        refine Rn.hp hT rfl rfl (gR_hp (rp_gP (k := 4) hR (T11_o t0) rfl (nn_114 hR t0))) ?_
        refine Rn.hp hT rfl rfl (gR_hp (rp_gR hR (T2_o (ty_114 hR t0)) rfl)) ?_
        obtain ⟨z_2251, g_2251, p_2251⟩ : ∃ z : Int32, gI h 7 1 ((s q0 4).toNat + 18) = some z ∧ z.toInt = s ((s q0 4).toNat + 18) 1 := rp_gI (k := 1) hR (T7_o (T2_17 (ty_114 hR t0))) rfl
        refine Rn.hp hT rfl rfl (gI_hp g_2251) ?_
        obtain rfl := Option.some.inj e
        exact Rn.ret hT rfl rfl rfl (hq z_2251 p_2251)
      · rw [if_neg c_2250] at e
        by_cases c_2252 : x1 = 12
        · rw [if_pos c_2252] at e
          refine Rn.sw2 hT rfl rfl rfl ((if_neg (fun z => c_2246 ((ti_e p1 L32_9).mp z))).trans ((if_neg (fun z => c_2248 ((ti_e p1 L32_10).mp z))).trans ((if_neg (fun z => c_2250 ((ti_e p1 L32_11).mp z))).trans (if_pos ((ti_e p1 L32_12).mpr c_2252))))) ?_
          refine Rn.n hT 1 (pc' := 82) (L' := [some (.ref q0), some (.int m1)]) (st' := [.ref q0]) rfl ?_
          refine Rn.hp hT rfl rfl (gR_hp (rp_gP (k := 4) hR (T11_o t0) rfl (nn_114 hR t0))) ?_
          refine Rn.hp hT rfl rfl (gR_hp (rp_gR hR (T2_o (ty_114 hR t0)) rfl)) ?_
          obtain ⟨z_2253, g_2253, p_2253⟩ : ∃ z : Int32, gI h 7 1 ((s q0 4).toNat + 20) = some z ∧ z.toInt = s ((s q0 4).toNat + 20) 1 := rp_gI (k := 1) hR (T7_o (T2_18 (ty_114 hR t0))) rfl
          refine Rn.hp hT rfl rfl (gI_hp g_2253) ?_
          obtain rfl := Option.some.inj e
          exact Rn.ret hT rfl rfl rfl (hq z_2253 p_2253)
        · rw [if_neg c_2252] at e
          by_cases c_2254 : x1 = 13
          · rw [if_pos c_2254] at e
            refine Rn.sw2 hT rfl rfl rfl ((if_neg (fun z => c_2246 ((ti_e p1 L32_9).mp z))).trans ((if_neg (fun z => c_2248 ((ti_e p1 L32_10).mp z))).trans ((if_neg (fun z => c_2250 ((ti_e p1 L32_11).mp z))).trans ((if_neg (fun z => c_2252 ((ti_e p1 L32_12).mp z))).trans (if_pos ((ti_e p1 L32_13).mpr c_2254)))))) ?_
            refine Rn.n hT 1 (pc' := 93) (L' := [some (.ref q0), some (.int m1)]) (st' := [.ref q0]) rfl ?_
            refine Rn.hp hT rfl rfl (gR_hp (rp_gP (k := 4) hR (T11_o t0) rfl (nn_114 hR t0))) ?_
            obtain ⟨z_2255, g_2255, p_2255⟩ : ∃ z : Int32, gI h 2 7 ((s q0 4).toNat) = some z ∧ z.toInt = s ((s q0 4).toNat) 7 := rp_gI (k := 7) hR (T2_o (ty_114 hR t0)) rfl
            refine Rn.hp hT rfl rfl (gI_hp g_2255) ?_
            obtain rfl := Option.some.inj e
            exact Rn.ret hT rfl rfl rfl (hq z_2255 p_2255)
          · rw [if_neg c_2254] at e
            by_cases c_2256 : x1 = 14
            · rw [if_pos c_2256] at e
              refine Rn.sw2 hT rfl rfl rfl ((if_neg (fun z => c_2246 ((ti_e p1 L32_9).mp z))).trans ((if_neg (fun z => c_2248 ((ti_e p1 L32_10).mp z))).trans ((if_neg (fun z => c_2250 ((ti_e p1 L32_11).mp z))).trans ((if_neg (fun z => c_2252 ((ti_e p1 L32_12).mp z))).trans ((if_neg (fun z => c_2254 ((ti_e p1 L32_13).mp z))).trans (if_pos ((ti_e p1 L32_14).mpr c_2256))))))) ?_
              refine Rn.n hT 1 (pc' := 101) (L' := [some (.ref q0), some (.int m1)]) (st' := [.ref q0]) rfl ?_
              obtain ⟨z_2257, g_2257, p_2257⟩ : ∃ z : Int32, gI h 11 1 q0 = some z ∧ z.toInt = s q0 1 := rp_gI (k := 1) hR (T11_o t0) rfl
              refine Rn.hp hT rfl rfl (gI_hp g_2257) ?_
              obtain rfl := Option.some.inj e
              exact Rn.ret hT rfl rfl rfl (hq z_2257 p_2257)
            · rw [if_neg c_2256] at e
              by_cases c_2258 : x1 = 15
              · rw [if_pos c_2258] at e
                refine Rn.sw2 hT rfl rfl rfl ((if_neg (fun z => c_2246 ((ti_e p1 L32_9).mp z))).trans ((if_neg (fun z => c_2248 ((ti_e p1 L32_10).mp z))).trans ((if_neg (fun z => c_2250 ((ti_e p1 L32_11).mp z))).trans ((if_neg (fun z => c_2252 ((ti_e p1 L32_12).mp z))).trans ((if_neg (fun z => c_2254 ((ti_e p1 L32_13).mp z))).trans ((if_neg (fun z => c_2256 ((ti_e p1 L32_14).mp z))).trans (if_pos ((ti_e p1 L32_15).mpr c_2258)))))))) ?_
                refine Rn.n hT 1 (pc' := 106) (L' := [some (.ref q0), some (.int m1)]) (st' := [.ref q0]) rfl ?_
                refine Rn.hp hT rfl rfl (gR_hp (rp_gP (k := 4) hR (T11_o t0) rfl (nn_114 hR t0))) ?_
                refine Rn.hp hT rfl rfl (gR_hp (rp_gR hR (T2_o (ty_114 hR t0)) rfl)) ?_
                obtain ⟨v_2259, e_2259, e⟩ := Option.bind_eq_some_iff.mp e
                refine Rn.call hT rfl rfl rfl (Nat.le_of_ble_eq_true rfl) (rcv_v gX1_emptyCells (by omega) (rp_ck hR (T1_o (T2_9 (ty_114 hR t0))))) (RX1_emptyCells (by omega) hR (T2_9 (ty_114 hR t0)) e_2259 (fun z_2259 p_2259 => ?_))
                show Rn d _ _ 115 [some (.ref q0), some (.int m1)] [.int z_2259] h Q
                obtain rfl := Option.some.inj e
                exact Rn.ret hT rfl rfl rfl (hq z_2259 p_2259)
              · rw [if_neg c_2258] at e
                by_cases c_2260 : x1 = 16
                · rw [if_pos c_2260] at e
                  refine Rn.sw2 hT rfl rfl rfl ((if_neg (fun z => c_2246 ((ti_e p1 L32_9).mp z))).trans ((if_neg (fun z => c_2248 ((ti_e p1 L32_10).mp z))).trans ((if_neg (fun z => c_2250 ((ti_e p1 L32_11).mp z))).trans ((if_neg (fun z => c_2252 ((ti_e p1 L32_12).mp z))).trans ((if_neg (fun z => c_2254 ((ti_e p1 L32_13).mp z))).trans ((if_neg (fun z => c_2256 ((ti_e p1 L32_14).mp z))).trans ((if_neg (fun z => c_2258 ((ti_e p1 L32_15).mp z))).trans (if_pos ((ti_e p1 L32_16).mpr c_2260))))))))) ?_
                  refine Rn.n hT 1 (pc' := 117) (L' := [some (.ref q0), some (.int m1)]) (st' := [.ref q0]) rfl ?_
                  refine Rn.hp hT rfl rfl (gR_hp (rp_gP (k := 4) hR (T11_o t0) rfl (nn_114 hR t0))) ?_
                  obtain ⟨z_2261, g_2261, p_2261⟩ : ∃ z : Int32, gI h 2 8 ((s q0 4).toNat) = some z ∧ z.toInt = s ((s q0 4).toNat) 8 := rp_gI (k := 8) hR (T2_o (ty_114 hR t0)) rfl
                  refine Rn.hp hT rfl rfl (gI_hp g_2261) ?_
                  obtain rfl := Option.some.inj e
                  exact Rn.ret hT rfl rfl rfl (hq z_2261 p_2261)
                · rw [if_neg c_2260] at e
                  refine Rn.sw2 hT rfl rfl rfl ((if_neg (fun z => c_2246 ((ti_e p1 L32_9).mp z))).trans ((if_neg (fun z => c_2248 ((ti_e p1 L32_10).mp z))).trans ((if_neg (fun z => c_2250 ((ti_e p1 L32_11).mp z))).trans ((if_neg (fun z => c_2252 ((ti_e p1 L32_12).mp z))).trans ((if_neg (fun z => c_2254 ((ti_e p1 L32_13).mp z))).trans ((if_neg (fun z => c_2256 ((ti_e p1 L32_14).mp z))).trans ((if_neg (fun z => c_2258 ((ti_e p1 L32_15).mp z))).trans ((if_neg (fun z => c_2260 ((ti_e p1 L32_16).mp z))).trans rfl)))))))) ?_
                  refine Rn.n hT 1 (pc' := 125) (L' := [some (.ref q0), some (.int m1)]) (st' := [.int (-1 : Int32)]) rfl ?_
                  obtain rfl := Option.some.inj e
                  exact Rn.ret hT rfl rfl rfl (hq (-1 : Int32) L32_m1)
set_option maxRecDepth 10000 in
theorem hX11_count : iv_Tb 185 tX11_count := iv_tb_of (m := mX11_count) rfl
set_option maxRecDepth 10000 in
theorem gX11_count : PG.2 185 = some mX11_count := iv_pi_of (t := tX11_count) rfl (by decide)
def FX11_count (N : Nat) (s : iv_M) (q0 : Nat) (x1 : Int) : Option (Int) := (if x1 = 0 then (some (s ((s q0 4).toNat + 1) 0)) else (if x1 = 1 then (some (s ((s q0 4).toNat + 1) 1)) else (if x1 = 2 then (some (s ((s q0 4).toNat + 1) 2)) else (if x1 = 3 then (some (s ((s q0 4).toNat) 2)) else (if x1 = 4 then (some (s ((s q0 4).toNat) 1)) else (if x1 = 5 then (some (s ((s q0 4).toNat) 4)) else (if x1 = 6 then (some (s q0 3)) else (if x1 = 7 then (some (s ((s q0 4).toNat) 5)) else (if x1 = 8 then (some (s ((s q0 4).toNat) 6)) else ((FX11_countMore N s q0 x1).bind fun v_2280 => (some v_2280)))))))))))
set_option maxRecDepth 10000 in
set_option maxHeartbeats 4000000 in
theorem RX11_count {d N nc Ls : Nat} {Xs : Nat → Int32} (hd : 3 ≤ d) {h : iv_H} {s : iv_M} (hR : Rep nc Ls Xs h s) {q0 : Nat} (t0 : T11 nc q0) {m1 : Int32} {x1 : Int} (p1 : m1.toInt = x1) {r : Int} {Q : Option Value → iv_H → Prop} (e : FX11_count N s q0 x1 = some r) (hq : ∀ (z : Int32), z.toInt = r → Q (some (.int z)) h) : Cl d 185 [.ref q0, .int m1] h Q := by
  obtain ⟨d, rfl⟩ : ∃ k, d = k + 1 := ⟨d - 1, by omega⟩
  have hd : 2 ≤ d := by omega
  have hT := hX11_count
  unfold FX11_count at e
  refine Cl.into (by decide) gX11_count rfl ?_
  show Rn d 185 (some .int) 0 [some (.ref q0), some (.int m1)] [] h Q
  refine Rn.n hT 1 (pc' := 1) (L' := [some (.ref q0), some (.int m1)]) (st' := [.int m1]) rfl ?_
  by_cases c_2262 : x1 = 0
  · rw [if_pos c_2262] at e
    refine Rn.sw2 hT rfl rfl rfl (if_pos ((ti_e p1 L32_0).mpr c_2262)) ?_
    refine Rn.n hT 1 (pc' := 53) (L' := [some (.ref q0), some (.int m1)]) (st' := [.ref q0]) rfl ?_
    refine Rn.hp hT rfl rfl (gR_hp (rp_gP (k := 4) hR (T11_o t0) rfl (nn_114 hR t0))) ?_
    refine Rn.hp hT rfl rfl (gR_hp (rp_gR hR (T2_o (ty_114 hR t0)) rfl)) ?_
    obtain ⟨z_2263, g_2263, p_2263⟩ : ∃ z : Int32, gI h 1 0 ((s q0 4).toNat + 1) = some z ∧ z.toInt = s ((s q0 4).toNat + 1) 0 := rp_gI (k := 0) hR (T1_o (T2_9 (ty_114 hR t0))) rfl
    refine Rn.hp hT rfl rfl (gI_hp g_2263) ?_
    obtain rfl := Option.some.inj e
    exact Rn.ret hT rfl rfl rfl (hq z_2263 p_2263)
  · rw [if_neg c_2262] at e
    by_cases c_2264 : x1 = 1
    · rw [if_pos c_2264] at e
      refine Rn.sw2 hT rfl rfl rfl ((if_neg (fun z => c_2262 ((ti_e p1 L32_0).mp z))).trans (if_pos ((ti_e p1 L32_1).mpr c_2264))) ?_
      refine Rn.n hT 1 (pc' := 64) (L' := [some (.ref q0), some (.int m1)]) (st' := [.ref q0]) rfl ?_
      refine Rn.hp hT rfl rfl (gR_hp (rp_gP (k := 4) hR (T11_o t0) rfl (nn_114 hR t0))) ?_
      refine Rn.hp hT rfl rfl (gR_hp (rp_gR hR (T2_o (ty_114 hR t0)) rfl)) ?_
      obtain ⟨z_2265, g_2265, p_2265⟩ : ∃ z : Int32, gI h 1 1 ((s q0 4).toNat + 1) = some z ∧ z.toInt = s ((s q0 4).toNat + 1) 1 := rp_gI (k := 1) hR (T1_o (T2_9 (ty_114 hR t0))) rfl
      refine Rn.hp hT rfl rfl (gI_hp g_2265) ?_
      obtain rfl := Option.some.inj e
      exact Rn.ret hT rfl rfl rfl (hq z_2265 p_2265)
    · rw [if_neg c_2264] at e
      by_cases c_2266 : x1 = 2
      · rw [if_pos c_2266] at e
        refine Rn.sw2 hT rfl rfl rfl ((if_neg (fun z => c_2262 ((ti_e p1 L32_0).mp z))).trans ((if_neg (fun z => c_2264 ((ti_e p1 L32_1).mp z))).trans (if_pos ((ti_e p1 L32_2).mpr c_2266)))) ?_
        refine Rn.n hT 1 (pc' := 75) (L' := [some (.ref q0), some (.int m1)]) (st' := [.ref q0]) rfl ?_
        refine Rn.hp hT rfl rfl (gR_hp (rp_gP (k := 4) hR (T11_o t0) rfl (nn_114 hR t0))) ?_
        refine Rn.hp hT rfl rfl (gR_hp (rp_gR hR (T2_o (ty_114 hR t0)) rfl)) ?_
        obtain ⟨z_2267, g_2267, p_2267⟩ : ∃ z : Int32, gI h 1 2 ((s q0 4).toNat + 1) = some z ∧ z.toInt = s ((s q0 4).toNat + 1) 2 := rp_gI (k := 2) hR (T1_o (T2_9 (ty_114 hR t0))) rfl
        refine Rn.hp hT rfl rfl (gI_hp g_2267) ?_
        obtain rfl := Option.some.inj e
        exact Rn.ret hT rfl rfl rfl (hq z_2267 p_2267)
      · rw [if_neg c_2266] at e
        by_cases c_2268 : x1 = 3
        · rw [if_pos c_2268] at e
          refine Rn.sw2 hT rfl rfl rfl ((if_neg (fun z => c_2262 ((ti_e p1 L32_0).mp z))).trans ((if_neg (fun z => c_2264 ((ti_e p1 L32_1).mp z))).trans ((if_neg (fun z => c_2266 ((ti_e p1 L32_2).mp z))).trans (if_pos ((ti_e p1 L32_3).mpr c_2268))))) ?_
          refine Rn.n hT 1 (pc' := 86) (L' := [some (.ref q0), some (.int m1)]) (st' := [.ref q0]) rfl ?_
          refine Rn.hp hT rfl rfl (gR_hp (rp_gP (k := 4) hR (T11_o t0) rfl (nn_114 hR t0))) ?_
          obtain ⟨z_2269, g_2269, p_2269⟩ : ∃ z : Int32, gI h 2 2 ((s q0 4).toNat) = some z ∧ z.toInt = s ((s q0 4).toNat) 2 := rp_gI (k := 2) hR (T2_o (ty_114 hR t0)) rfl
          refine Rn.hp hT rfl rfl (gI_hp g_2269) ?_
          obtain rfl := Option.some.inj e
          exact Rn.ret hT rfl rfl rfl (hq z_2269 p_2269)
        · rw [if_neg c_2268] at e
          by_cases c_2270 : x1 = 4
          · rw [if_pos c_2270] at e
            refine Rn.sw2 hT rfl rfl rfl ((if_neg (fun z => c_2262 ((ti_e p1 L32_0).mp z))).trans ((if_neg (fun z => c_2264 ((ti_e p1 L32_1).mp z))).trans ((if_neg (fun z => c_2266 ((ti_e p1 L32_2).mp z))).trans ((if_neg (fun z => c_2268 ((ti_e p1 L32_3).mp z))).trans (if_pos ((ti_e p1 L32_4).mpr c_2270)))))) ?_
            refine Rn.n hT 1 (pc' := 94) (L' := [some (.ref q0), some (.int m1)]) (st' := [.ref q0]) rfl ?_
            refine Rn.hp hT rfl rfl (gR_hp (rp_gP (k := 4) hR (T11_o t0) rfl (nn_114 hR t0))) ?_
            obtain ⟨z_2271, g_2271, p_2271⟩ : ∃ z : Int32, gI h 2 1 ((s q0 4).toNat) = some z ∧ z.toInt = s ((s q0 4).toNat) 1 := rp_gI (k := 1) hR (T2_o (ty_114 hR t0)) rfl
            refine Rn.hp hT rfl rfl (gI_hp g_2271) ?_
            obtain rfl := Option.some.inj e
            exact Rn.ret hT rfl rfl rfl (hq z_2271 p_2271)
          · rw [if_neg c_2270] at e
            by_cases c_2272 : x1 = 5
            · rw [if_pos c_2272] at e
              refine Rn.sw2 hT rfl rfl rfl ((if_neg (fun z => c_2262 ((ti_e p1 L32_0).mp z))).trans ((if_neg (fun z => c_2264 ((ti_e p1 L32_1).mp z))).trans ((if_neg (fun z => c_2266 ((ti_e p1 L32_2).mp z))).trans ((if_neg (fun z => c_2268 ((ti_e p1 L32_3).mp z))).trans ((if_neg (fun z => c_2270 ((ti_e p1 L32_4).mp z))).trans (if_pos ((ti_e p1 L32_5).mpr c_2272))))))) ?_
              refine Rn.n hT 1 (pc' := 102) (L' := [some (.ref q0), some (.int m1)]) (st' := [.ref q0]) rfl ?_
              refine Rn.hp hT rfl rfl (gR_hp (rp_gP (k := 4) hR (T11_o t0) rfl (nn_114 hR t0))) ?_
              obtain ⟨z_2273, g_2273, p_2273⟩ : ∃ z : Int32, gI h 2 4 ((s q0 4).toNat) = some z ∧ z.toInt = s ((s q0 4).toNat) 4 := rp_gI (k := 4) hR (T2_o (ty_114 hR t0)) rfl
              refine Rn.hp hT rfl rfl (gI_hp g_2273) ?_
              obtain rfl := Option.some.inj e
              exact Rn.ret hT rfl rfl rfl (hq z_2273 p_2273)
            · rw [if_neg c_2272] at e
              by_cases c_2274 : x1 = 6
              · rw [if_pos c_2274] at e
                refine Rn.sw2 hT rfl rfl rfl ((if_neg (fun z => c_2262 ((ti_e p1 L32_0).mp z))).trans ((if_neg (fun z => c_2264 ((ti_e p1 L32_1).mp z))).trans ((if_neg (fun z => c_2266 ((ti_e p1 L32_2).mp z))).trans ((if_neg (fun z => c_2268 ((ti_e p1 L32_3).mp z))).trans ((if_neg (fun z => c_2270 ((ti_e p1 L32_4).mp z))).trans ((if_neg (fun z => c_2272 ((ti_e p1 L32_5).mp z))).trans (if_pos ((ti_e p1 L32_6).mpr c_2274)))))))) ?_
                refine Rn.n hT 1 (pc' := 110) (L' := [some (.ref q0), some (.int m1)]) (st' := [.ref q0]) rfl ?_
                obtain ⟨z_2275, g_2275, p_2275⟩ : ∃ z : Int32, gI h 11 3 q0 = some z ∧ z.toInt = s q0 3 := rp_gI (k := 3) hR (T11_o t0) rfl
                refine Rn.hp hT rfl rfl (gI_hp g_2275) ?_
                obtain rfl := Option.some.inj e
                exact Rn.ret hT rfl rfl rfl (hq z_2275 p_2275)
              · rw [if_neg c_2274] at e
                by_cases c_2276 : x1 = 7
                · rw [if_pos c_2276] at e
                  refine Rn.sw2 hT rfl rfl rfl ((if_neg (fun z => c_2262 ((ti_e p1 L32_0).mp z))).trans ((if_neg (fun z => c_2264 ((ti_e p1 L32_1).mp z))).trans ((if_neg (fun z => c_2266 ((ti_e p1 L32_2).mp z))).trans ((if_neg (fun z => c_2268 ((ti_e p1 L32_3).mp z))).trans ((if_neg (fun z => c_2270 ((ti_e p1 L32_4).mp z))).trans ((if_neg (fun z => c_2272 ((ti_e p1 L32_5).mp z))).trans ((if_neg (fun z => c_2274 ((ti_e p1 L32_6).mp z))).trans (if_pos ((ti_e p1 L32_7).mpr c_2276))))))))) ?_
                  refine Rn.n hT 1 (pc' := 115) (L' := [some (.ref q0), some (.int m1)]) (st' := [.ref q0]) rfl ?_
                  refine Rn.hp hT rfl rfl (gR_hp (rp_gP (k := 4) hR (T11_o t0) rfl (nn_114 hR t0))) ?_
                  obtain ⟨z_2277, g_2277, p_2277⟩ : ∃ z : Int32, gI h 2 5 ((s q0 4).toNat) = some z ∧ z.toInt = s ((s q0 4).toNat) 5 := rp_gI (k := 5) hR (T2_o (ty_114 hR t0)) rfl
                  refine Rn.hp hT rfl rfl (gI_hp g_2277) ?_
                  obtain rfl := Option.some.inj e
                  exact Rn.ret hT rfl rfl rfl (hq z_2277 p_2277)
                · rw [if_neg c_2276] at e
                  by_cases c_2278 : x1 = 8
                  · rw [if_pos c_2278] at e
                    refine Rn.sw2 hT rfl rfl rfl ((if_neg (fun z => c_2262 ((ti_e p1 L32_0).mp z))).trans ((if_neg (fun z => c_2264 ((ti_e p1 L32_1).mp z))).trans ((if_neg (fun z => c_2266 ((ti_e p1 L32_2).mp z))).trans ((if_neg (fun z => c_2268 ((ti_e p1 L32_3).mp z))).trans ((if_neg (fun z => c_2270 ((ti_e p1 L32_4).mp z))).trans ((if_neg (fun z => c_2272 ((ti_e p1 L32_5).mp z))).trans ((if_neg (fun z => c_2274 ((ti_e p1 L32_6).mp z))).trans ((if_neg (fun z => c_2276 ((ti_e p1 L32_7).mp z))).trans (if_pos ((ti_e p1 L32_8).mpr c_2278)))))))))) ?_
                    refine Rn.n hT 1 (pc' := 123) (L' := [some (.ref q0), some (.int m1)]) (st' := [.ref q0]) rfl ?_
                    refine Rn.hp hT rfl rfl (gR_hp (rp_gP (k := 4) hR (T11_o t0) rfl (nn_114 hR t0))) ?_
                    obtain ⟨z_2279, g_2279, p_2279⟩ : ∃ z : Int32, gI h 2 6 ((s q0 4).toNat) = some z ∧ z.toInt = s ((s q0 4).toNat) 6 := rp_gI (k := 6) hR (T2_o (ty_114 hR t0)) rfl
                    refine Rn.hp hT rfl rfl (gI_hp g_2279) ?_
                    obtain rfl := Option.some.inj e
                    exact Rn.ret hT rfl rfl rfl (hq z_2279 p_2279)
                  · rw [if_neg c_2278] at e
                    refine Rn.sw2 hT rfl rfl rfl ((if_neg (fun z => c_2262 ((ti_e p1 L32_0).mp z))).trans ((if_neg (fun z => c_2264 ((ti_e p1 L32_1).mp z))).trans ((if_neg (fun z => c_2266 ((ti_e p1 L32_2).mp z))).trans ((if_neg (fun z => c_2268 ((ti_e p1 L32_3).mp z))).trans ((if_neg (fun z => c_2270 ((ti_e p1 L32_4).mp z))).trans ((if_neg (fun z => c_2272 ((ti_e p1 L32_5).mp z))).trans ((if_neg (fun z => c_2274 ((ti_e p1 L32_6).mp z))).trans ((if_neg (fun z => c_2276 ((ti_e p1 L32_7).mp z))).trans ((if_neg (fun z => c_2278 ((ti_e p1 L32_8).mp z))).trans rfl))))))))) ?_
                    refine Rn.n hT 2 (pc' := 132) (L' := [some (.ref q0), some (.int m1)]) (st' := [.int m1, .ref q0]) rfl ?_
                    obtain ⟨v_2280, e_2280, e⟩ := Option.bind_eq_some_iff.mp e
                    refine Rn.call hT rfl rfl rfl (Nat.le_of_ble_eq_true rfl) (rcv_v gX11_countMore (by omega) (rp_ck hR (T11_o t0))) (RX11_countMore (by omega) hR t0 p1 e_2280 (fun z_2280 p_2280 => ?_))
                    show Rn d _ _ 135 [some (.ref q0), some (.int m1)] [.int z_2280] h Q
                    obtain rfl := Option.some.inj e
                    exact Rn.ret hT rfl rfl rfl (hq z_2280 p_2280)
set_option maxRecDepth 10000 in
theorem hX11_back : iv_Tb 188 tX11_back := iv_tb_of (m := mX11_back) rfl
set_option maxRecDepth 10000 in
theorem gX11_back : PG.2 188 = some mX11_back := iv_pi_of (t := tX11_back) rfl (by decide)
def FX11_back_b18 (N : Nat) (s : iv_M)   : Option (Int × iv_M) := (some ((-1), s))
set_option maxRecDepth 10000 in
set_option maxHeartbeats 4000000 in
theorem RX11_back_b18 {d N nc Ls : Nat} {Xs : Nat → Int32} (hd : 5 ≤ d) {h : iv_H} {s : iv_M} (hR : Rep nc Ls Xs h s)   {r : Int × iv_M} {Q : Option Value → iv_H → Prop} (hq : ∀ (z : Int32) (h1 : iv_H), z.toInt = r.1 → Rep nc Ls Xs h1 r.2 → Q (some (.int z)) h1) (e : FX11_back_b18 N s   = some r) : Rn d 188 (some .int) 18 [none, none] [] h Q := by
  have hT := hX11_back
  unfold FX11_back_b18 at e
  refine Rn.n hT 1 (pc' := 19) (L' := [none, none]) (st' := [.int (-1 : Int32)]) rfl ?_
  obtain rfl := Option.some.inj e
  exact Rn.ret hT rfl rfl rfl (hq (-1 : Int32) h L32_m1 hR)
def FX11_back (N : Nat) (s : iv_M) (q0 : Nat) (x1 : Int) : Option (Int × iv_M) := (if x1 < 0 then (FX11_back_b18 N s) else (if 4 ≤ x1 then (FX11_back_b18 N s) else ((rd s (q0 + 53) 4 x1).bind fun v_2283 => (if v_2283 < 0 then (FX11_back_b18 N s) else ((rd s (q0 + 53) 4 x1).bind fun v_2285 => (if v_2285 < 0 then none else ((FX2_copyFrom N s ((s q0 4).toNat) ((v_2285).toNat)).bind fun s_2288 => ((pt s_2288 q0 15 (w32 ((s_2288 q0 15) + 1))).bind fun s_2290 => (some ((s_2290 ((s_2290 q0 4).toNat) 6), s_2290))))))))))
set_option maxRecDepth 10000 in
set_option maxHeartbeats 4000000 in
theorem RX11_back {d N nc Ls : Nat} {Xs : Nat → Int32} (hd : 6 ≤ d) {h : iv_H} {s : iv_M} (hR : Rep nc Ls Xs h s) {q0 : Nat} (t0 : T11 nc q0) {m1 : Int32} {x1 : Int} (p1 : m1.toInt = x1) {r : Int × iv_M} {Q : Option Value → iv_H → Prop} (e : FX11_back N s q0 x1 = some r) (hq : ∀ (z : Int32) (h1 : iv_H), z.toInt = r.1 → Rep nc Ls Xs h1 r.2 → Q (some (.int z)) h1) : Cl d 188 [.ref q0, .int m1] h Q := by
  obtain ⟨d, rfl⟩ : ∃ k, d = k + 1 := ⟨d - 1, by omega⟩
  have hd : 5 ≤ d := by omega
  have hT := hX11_back
  unfold FX11_back at e
  refine Cl.into (by decide) gX11_back rfl ?_
  show Rn d 188 (some .int) 0 [some (.ref q0), some (.int m1)] [] h Q
  refine Rn.n hT 1 (pc' := 1) (L' := [some (.ref q0), some (.int m1)]) (st' := [.int m1]) rfl ?_
  by_cases c_2281 : x1 < 0
  · rw [if_pos c_2281] at e
    refine Rn.bt hT rfl rfl rfl (decide_eq_true ((ti_l p1 L32_0).mpr c_2281)) ?_
    exact Rn.weak (ll_n (ll_n ll_e)) (RX11_back_b18 hd hR hq e)
  · rw [if_neg c_2281] at e
    refine Rn.bf hT rfl rfl rfl (decide_eq_false (fun z => c_2281 ((ti_l p1 L32_0).mp z))) ?_
    refine Rn.n hT 2 (pc' := 6) (L' := [some (.ref q0), some (.int m1)]) (st' := [.int (4 : Int32), .int m1]) rfl ?_
    by_cases c_2282 : 4 ≤ x1
    · rw [if_pos c_2282] at e
      refine Rn.bt hT rfl rfl rfl (decide_eq_true ((ti_le L32_4 p1).mpr c_2282)) ?_
      exact Rn.weak (ll_n (ll_n ll_e)) (RX11_back_b18 hd hR hq e)
    · rw [if_neg c_2282] at e
      refine Rn.bf hT rfl rfl rfl (decide_eq_false (fun z => c_2282 ((ti_le L32_4 p1).mp z))) ?_
      refine Rn.n hT 1 (pc' := 10) (L' := [some (.ref q0), some (.int m1)]) (st' := [.ref q0]) rfl ?_
      refine Rn.hp hT rfl rfl (gR_hp (rp_gR hR (T11_o t0) rfl)) ?_
      refine Rn.n hT 1 (pc' := 14) (L' := [some (.ref q0), some (.int m1)]) (st' := [.int m1, .ref (q0 + 53)]) rfl ?_
      obtain ⟨v_2283, e_2283, e⟩ := Option.bind_eq_some_iff.mp e
      obtain ⟨g_2283, f_2283⟩ := rp_aN hR (T11_6 t0) (T11_6l t0) p1 e_2283
      refine Rn.hp hT rfl rfl (aN_hp g_2283) ?_
      by_cases c_2284 : v_2283 < 0
      · rw [if_pos c_2284] at e
        rw [rvo_neg c_2284]
        show Rn d _ _ 15 [some (.ref q0), some (.int m1)] [.null] h Q
        refine Rn.bf hT rfl rfl rfl rfl ?_
        exact Rn.weak (ll_n (ll_n ll_e)) (RX11_back_b18 hd hR hq e)
      · rw [if_neg c_2284] at e
        rw [rvo_pos c_2284]
        show Rn d _ _ 15 [some (.ref q0), some (.int m1)] [.ref ((v_2283).toNat)] h Q
        refine Rn.bt hT rfl rfl rfl rfl ?_
        refine Rn.n hT 1 (pc' := 21) (L' := [some (.ref q0), some (.int m1)]) (st' := [.ref q0]) rfl ?_
        refine Rn.hp hT rfl rfl (gR_hp (rp_gP (k := 4) hR (T11_o t0) rfl (nn_114 hR t0))) ?_
        refine Rn.n hT 1 (pc' := 25) (L' := [some (.ref q0), some (.int m1)]) (st' := [.ref q0, .ref ((s q0 4).toNat)]) rfl ?_
        refine Rn.hp hT rfl rfl (gR_hp (rp_gR hR (T11_o t0) rfl)) ?_
        refine Rn.n hT 1 (pc' := 29) (L' := [some (.ref q0), some (.int m1)]) (st' := [.int m1, .ref (q0 + 53), .ref ((s q0 4).toNat)]) rfl ?_
        obtain ⟨v_2285, e_2285, e⟩ := Option.bind_eq_some_iff.mp e
        obtain ⟨g_2285, f_2285⟩ := rp_aN hR (T11_6 t0) (T11_6l t0) p1 e_2285
        refine Rn.hp hT rfl rfl (aN_hp g_2285) ?_
        by_cases c_2286 : v_2285 < 0
        · rw [if_pos c_2286] at e
          cases e
        · rw [if_neg c_2286] at e
          rw [rvo_pos c_2286]
          show Rn d _ _ 30 [some (.ref q0), some (.int m1)] [.ref ((v_2285).toNat), .ref ((s q0 4).toNat)] h Q
          obtain ⟨s_2288, e_2287, e⟩ := Option.bind_eq_some_iff.mp e
          refine Rn.call hT rfl rfl rfl (Nat.le_of_ble_eq_true rfl) (rcv_v gX2_copyFrom (by omega) (rp_ck hR (T2_o (ty_114 hR t0)))) (RX2_copyFrom (by omega) hR (ty_114 hR t0) (f_2285.resolve_left c_2286) e_2287 (fun h_2288 R_2288 => ?_))
          show Rn d _ _ 33 [some (.ref q0), some (.int m1)] [] h_2288 Q
          refine Rn.n hT 2 (pc' := 35) (L' := [some (.ref q0), some (.int m1)]) (st' := [.ref q0, .ref q0]) rfl ?_
          obtain ⟨z_2289, g_2289, p_2289⟩ : ∃ z : Int32, gI h_2288 11 15 q0 = some z ∧ z.toInt = s_2288 q0 15 := rp_gI (k := 15) R_2288 (T11_o t0) rfl
          refine Rn.hp hT rfl rfl (gI_hp g_2289) ?_
          refine Rn.n hT 2 (pc' := 40) (L' := [some (.ref q0), some (.int m1)]) (st' := [.int (z_2289 + (1 : Int32)), .ref q0]) rfl ?_
          obtain ⟨s_2290, e_2291, e⟩ := Option.bind_eq_some_iff.mp e
          obtain ⟨h_2290, g_2291, R_2290⟩ := rp_pI (ci := 11) (k := 15) R_2288 (T11_o t0) rfl rfl (ti_add p_2289 L32_1) e_2291
          refine Rn.hp hT rfl rfl (pV_hp rfl g_2291) ?_
          refine Rn.n hT 1 (pc' := 44) (L' := [some (.ref q0), some (.int m1)]) (st' := [.ref q0]) rfl ?_
          refine Rn.hp hT rfl rfl (gR_hp (rp_gP (k := 4) R_2290 (T11_o t0) rfl (nn_114 R_2290 t0))) ?_
          obtain ⟨z_2292, g_2292, p_2292⟩ : ∃ z : Int32, gI h_2290 2 6 ((s_2290 q0 4).toNat) = some z ∧ z.toInt = s_2290 ((s_2290 q0 4).toNat) 6 := rp_gI (k := 6) R_2290 (T2_o (ty_114 R_2290 t0)) rfl
          refine Rn.hp hT rfl rfl (gI_hp g_2292) ?_
          obtain rfl := Option.some.inj e
          exact Rn.ret hT rfl rfl rfl (hq z_2292 h_2290 p_2292 R_2290)
set_option maxRecDepth 10000 in
theorem hX12_in : iv_Tb 190 tX12_in := iv_tb_of (m := mX12_in) rfl
set_option maxRecDepth 10000 in
theorem gX12_in : PG.2 190 = some mX12_in := iv_pi_of (t := tX12_in) rfl (by decide)
def FX12_in_b18 (N : Nat) (s : iv_M)  (xs0 : Int) : Option (Int) := (if xs0 = 0 ∨ xs0 = 1 then some xs0 else none)
set_option maxRecDepth 10000 in
set_option maxHeartbeats 4000000 in
theorem RX12_in_b18 {d N nc Ls : Nat} {Xs : Nat → Int32} (hd : 0 ≤ d) {h : iv_H} {s : iv_M} (hR : Rep nc Ls Xs h s)  {ms0 : Int32} {xs0 : Int} (ps0 : ms0.toInt = xs0) {r : Int} {Q : Option Value → iv_H → Prop} (hq : ∀ (z : Int32), z.toInt = r → Q (some (.int z)) h) (e : FX12_in_b18 N s  xs0 = some r) : Rn d 190 (some .boolean) 18 [none, none, none, none, none, none] [.int ms0] h Q := by
  have hT := hX12_in
  unfold FX12_in_b18 at e
  by_cases c_2295 : xs0 = 0 ∨ xs0 = 1
  · rw [if_pos c_2295] at e
    obtain rfl := Option.some.inj e
    exact Rn.ret hT rfl rfl (if_pos (ti_b ps0 c_2295)) (hq ms0 ps0)
  · rw [if_neg c_2295] at e
    cases e
def FX12_in_b17 (N : Nat) (s : iv_M)   : Option (Int) := (FX12_in_b18 N s 0)
set_option maxRecDepth 10000 in
set_option maxHeartbeats 4000000 in
theorem RX12_in_b17 {d N nc Ls : Nat} {Xs : Nat → Int32} (hd : 0 ≤ d) {h : iv_H} {s : iv_M} (hR : Rep nc Ls Xs h s)   {r : Int} {Q : Option Value → iv_H → Prop} (hq : ∀ (z : Int32), z.toInt = r → Q (some (.int z)) h) (e : FX12_in_b17 N s   = some r) : Rn d 190 (some .boolean) 17 [none, none, none, none, none, none] [] h Q := by
  have hT := hX12_in
  unfold FX12_in_b17 at e
  refine Rn.n hT 1 (pc' := 18) (L' := [none, none, none, none, none, none]) (st' := [.int (0 : Int32)]) rfl ?_
  exact Rn.weak (ll_n (ll_n (ll_n (ll_n (ll_n (ll_n ll_e)))))) (RX12_in_b18 hd hR L32_0 hq e)
def FX12_in (N : Nat) (s : iv_M) (y0 : Int) (y2 : Int) (y4 : Int) : Option (Int) := (if y0 < y2 then (FX12_in_b17 N s) else (if y4 < y0 then (FX12_in_b17 N s) else (FX12_in_b18 N s 1)))
set_option maxRecDepth 10000 in
set_option maxHeartbeats 4000000 in
theorem RX12_in {d N nc Ls : Nat} {Xs : Nat → Int32} (hd : 1 ≤ d) {h : iv_H} {s : iv_M} (hR : Rep nc Ls Xs h s) {j0 : Int64} {y0 : Int} (p0 : j0.toInt = y0) {j2 : Int64} {y2 : Int} (p2 : j2.toInt = y2) {j4 : Int64} {y4 : Int} (p4 : j4.toInt = y4) {r : Int} {Q : Option Value → iv_H → Prop} (e : FX12_in N s y0 y2 y4 = some r) (hq : ∀ (z : Int32), z.toInt = r → Q (some (.int z)) h) : Cl d 190 [.long j0, .long j2, .long j4] h Q := by
  obtain ⟨d, rfl⟩ : ∃ k, d = k + 1 := ⟨d - 1, by omega⟩
  have hd : 0 ≤ d := by omega
  have hT := hX12_in
  unfold FX12_in at e
  refine Cl.into (by decide) gX12_in rfl ?_
  show Rn d 190 (some .boolean) 0 [some (.long j0), none, some (.long j2), none, some (.long j4), none] [] h Q
  refine Rn.n hT 3 (pc' := 3) (L' := [some (.long j0), none, some (.long j2), none, some (.long j4), none]) (st' := [.int (lg_cmp j0 j2)]) rfl ?_
  by_cases c_2293 : y0 < y2
  · rw [if_pos c_2293] at e
    refine Rn.bt hT rfl rfl rfl (decide_eq_true ((lc_l p0 p2).mpr c_2293)) ?_
    exact Rn.weak (ll_n (ll_n (ll_n (ll_n (ll_n (ll_n ll_e)))))) (RX12_in_b17 hd hR hq e)
  · rw [if_neg c_2293] at e
    refine Rn.bf hT rfl rfl rfl (decide_eq_false (fun z => c_2293 ((lc_l p0 p2).mp z))) ?_
    refine Rn.n hT 3 (pc' := 10) (L' := [some (.long j0), none, some (.long j2), none, some (.long j4), none]) (st' := [.int (lg_cmp j0 j4)]) rfl ?_
    by_cases c_2294 : y4 < y0
    · rw [if_pos c_2294] at e
      refine Rn.bt hT rfl rfl rfl (decide_eq_true ((lc_g p0 p4).mpr c_2294)) ?_
      exact Rn.weak (ll_n (ll_n (ll_n (ll_n (ll_n (ll_n ll_e)))))) (RX12_in_b17 hd hR hq e)
    · rw [if_neg c_2294] at e
      refine Rn.bf hT rfl rfl rfl (decide_eq_false (fun z => c_2294 ((lc_g p0 p4).mp z))) ?_
      refine Rn.n hT 2 (pc' := 18) (L' := [some (.long j0), none, some (.long j2), none, some (.long j4), none]) (st' := [.int (1 : Int32)]) rfl ?_
      exact Rn.weak (ll_n (ll_n (ll_n (ll_n (ll_n (ll_n ll_e)))))) (RX12_in_b18 hd hR L32_1 hq e)
set_option maxRecDepth 10000 in
theorem hX12_bits : iv_Tb 191 tX12_bits := iv_tb_of (m := mX12_bits) rfl
set_option maxRecDepth 10000 in
theorem gX12_bits : PG.2 191 = some mX12_bits := iv_pi_of (t := tX12_bits) rfl (by decide)
def FX12_bits_l4 (N : Nat) (s : iv_M) (x0 : Int) (kx : Int → Option (Int)) : Nat → Int → Int → Option (Int)
  | 0, _, _ => none
  | n + 1, x1, x2 => (if 16 ≤ x2 then (kx x1) else (FX12_bits_l4 N s x0 kx n (w32 (x1 + (bAn (sr32 x0 x2) 1))) (w32 (x2 + 1))))
set_option maxRecDepth 10000 in
set_option maxHeartbeats 4000000 in
theorem RX12_bits_l4 {d N nc Ls : Nat} {Xs : Nat → Int32} (hd : 0 ≤ d) {h : iv_H} {s : iv_M} (hR : Rep nc Ls Xs h s) {m0 : Int32} {x0 : Int} (p0 : m0.toInt = x0) {kx : Int → Option (Int)} {r : Int} {Q : Option Value → iv_H → Prop} (hk : ∀ (m1 : Int32) (x1 : Int) (p1 : m1.toInt = x1), kx x1 = some r → Rn d 191 (some .int) 24 [none, some (.int m1), none] [] h Q) (hq : ∀ (z : Int32), z.toInt = r → Q (some (.int z)) h) : ∀ (n : Nat) (m1 : Int32) (x1 : Int) (p1 : m1.toInt = x1) (m2 : Int32) (x2 : Int) (p2 : m2.toInt = x2), FX12_bits_l4 N s x0 kx n x1 x2 = some r → Rn d 191 (some .int) 4 [some (.int m0), some (.int m1), some (.int m2)] [] h Q := by
  have hT := hX12_bits
  intro n
  induction n with
  | zero =>
    intro m1 x1 p1 m2 x2 p2 e
    rw [FX12_bits_l4] at e
    cases e
  | succ n ih =>
    intro m1 x1 p1 m2 x2 p2 e
    rw [FX12_bits_l4] at e
    refine Rn.n hT 2 (pc' := 7) (L' := [some (.int m0), some (.int m1), some (.int m2)]) (st' := [.int (16 : Int32), .int m2]) rfl ?_
    by_cases c_2297 : 16 ≤ x2
    · rw [if_pos c_2297] at e
      refine Rn.bt hT rfl rfl rfl (decide_eq_true ((ti_le L32_16 p2).mpr c_2297)) ?_
      exact Rn.weak (ll_n (ll_s (ll_n ll_e))) (hk m1 x1 p1 e)
    · rw [if_neg c_2297] at e
      refine Rn.bf hT rfl rfl rfl (decide_eq_false (fun z => c_2297 ((ti_le L32_16 p2).mp z))) ?_
      refine Rn.n hT 10 (pc' := 4) (L' := [some (.int m0), some (.int (m1 + ((m0 >>> (m2 &&& 31)) &&& (1 : Int32)))), some (.int (m2 + (1 : Int32)))]) (st' := []) rfl ?_
      exact Rn.weak (ll_s (ll_s (ll_s ll_e))) (ih (m1 + ((m0 >>> (m2 &&& 31)) &&& (1 : Int32))) (w32 (x1 + (bAn (sr32 x0 x2) 1))) (ti_add p1 (ti_and (ti_shr p0 p2) L32_1)) (m2 + (1 : Int32)) (w32 (x2 + 1)) (ti_add p2 L32_1) e)
def FX12_bits (N : Nat) (s : iv_M) (x0 : Int) : Option (Int) := (FX12_bits_l4 N s x0 (fun (x2296_1 : Int) => (some x2296_1)) N 0 0)
set_option maxRecDepth 10000 in
set_option maxHeartbeats 4000000 in
theorem RX12_bits {d N nc Ls : Nat} {Xs : Nat → Int32} (hd : 1 ≤ d) {h : iv_H} {s : iv_M} (hR : Rep nc Ls Xs h s) {m0 : Int32} {x0 : Int} (p0 : m0.toInt = x0) {r : Int} {Q : Option Value → iv_H → Prop} (e : FX12_bits N s x0 = some r) (hq : ∀ (z : Int32), z.toInt = r → Q (some (.int z)) h) : Cl d 191 [.int m0] h Q := by
  obtain ⟨d, rfl⟩ : ∃ k, d = k + 1 := ⟨d - 1, by omega⟩
  have hd : 0 ≤ d := by omega
  have hT := hX12_bits
  unfold FX12_bits at e
  refine Cl.into (by decide) gX12_bits rfl ?_
  show Rn d 191 (some .int) 0 [some (.int m0), none, none] [] h Q
  refine Rn.n hT 4 (pc' := 4) (L' := [some (.int m0), some (.int (0 : Int32)), some (.int (0 : Int32))]) (st' := []) rfl ?_
  refine Rn.weak (ll_s (ll_s (ll_s ll_e))) (RX12_bits_l4 hd hR p0 (fun m2296_1 x2296_1 p2296_1 e => ?_) hq N (0 : Int32) 0 L32_0 (0 : Int32) 0 L32_0 e)
  try dsimp only at e
  refine Rn.n hT 1 (pc' := 25) (L' := [none, some (.int m2296_1), none]) (st' := [.int m2296_1]) rfl ?_
  obtain rfl := Option.some.inj e
  exact Rn.ret hT rfl rfl rfl (hq m2296_1 p2296_1)
set_option maxRecDepth 10000 in
theorem hX12_apart : iv_Tb 192 tX12_apart := iv_tb_of (m := mX12_apart) rfl
set_option maxRecDepth 10000 in
theorem gX12_apart : PG.2 192 = some mX12_apart := iv_pi_of (t := tX12_apart) rfl (by decide)
def FX12_apart_b14 (N : Nat) (s : iv_M)  (xs0 : Int) : Option (Int) := (some xs0)
set_option maxRecDepth 10000 in
set_option maxHeartbeats 4000000 in
theorem RX12_apart_b14 {d N nc Ls : Nat} {Xs : Nat → Int32} (hd : 0 ≤ d) {h : iv_H} {s : iv_M} (hR : Rep nc Ls Xs h s)  {ms0 : Int32} {xs0 : Int} (ps0 : ms0.toInt = xs0) {r : Int} {Q : Option Value → iv_H → Prop} (hq : ∀ (z : Int32), z.toInt = r → Q (some (.int z)) h) (e : FX12_apart_b14 N s  xs0 = some r) : Rn d 192 (some .int) 14 [none, none] [.int ms0] h Q := by
  have hT := hX12_apart
  unfold FX12_apart_b14 at e
  obtain rfl := Option.some.inj e
  exact Rn.ret hT rfl rfl rfl (hq ms0 ps0)
def FX12_apart (N : Nat) (s : iv_M) (x0 : Int) (x1 : Int) : Option (Int) := (if x1 ≤ x0 then (FX12_apart_b14 N s (w32 (x0 - x1))) else (FX12_apart_b14 N s (w32 (x1 - x0))))
set_option maxRecDepth 10000 in
set_option maxHeartbeats 4000000 in
theorem RX12_apart {d N nc Ls : Nat} {Xs : Nat → Int32} (hd : 1 ≤ d) {h : iv_H} {s : iv_M} (hR : Rep nc Ls Xs h s) {m0 : Int32} {x0 : Int} (p0 : m0.toInt = x0) {m1 : Int32} {x1 : Int} (p1 : m1.toInt = x1) {r : Int} {Q : Option Value → iv_H → Prop} (e : FX12_apart N s x0 x1 = some r) (hq : ∀ (z : Int32), z.toInt = r → Q (some (.int z)) h) : Cl d 192 [.int m0, .int m1] h Q := by
  obtain ⟨d, rfl⟩ : ∃ k, d = k + 1 := ⟨d - 1, by omega⟩
  have hd : 0 ≤ d := by omega
  have hT := hX12_apart
  unfold FX12_apart at e
  refine Cl.into (by decide) gX12_apart rfl ?_
  show Rn d 192 (some .int) 0 [some (.int m0), some (.int m1)] [] h Q
  refine Rn.n hT 2 (pc' := 2) (L' := [some (.int m0), some (.int m1)]) (st' := [.int m1, .int m0]) rfl ?_
  by_cases c_2298 : x1 ≤ x0
  · rw [if_pos c_2298] at e
    refine Rn.bt hT rfl rfl rfl (decide_eq_true ((ti_le p1 p0).mpr c_2298)) ?_
    refine Rn.n hT 3 (pc' := 14) (L' := [some (.int m0), some (.int m1)]) (st' := [.int (m0 - m1)]) rfl ?_
    exact Rn.weak (ll_n (ll_n ll_e)) (RX12_apart_b14 hd hR (ti_sub p0 p1) hq e)
  · rw [if_neg c_2298] at e
    refine Rn.bf hT rfl rfl rfl (decide_eq_false (fun z => c_2298 ((ti_le p1 p0).mp z))) ?_
    refine Rn.n hT 4 (pc' := 14) (L' := [some (.int m0), some (.int m1)]) (st' := [.int (m1 - m0)]) rfl ?_
    exact Rn.weak (ll_n (ll_n ll_e)) (RX12_apart_b14 hd hR (ti_sub p1 p0) hq e)
set_option maxRecDepth 10000 in
theorem hX12_isPalace : iv_Tb 193 tX12_isPalace := iv_tb_of (m := mX12_isPalace) rfl
set_option maxRecDepth 10000 in
theorem gX12_isPalace : PG.2 193 = some mX12_isPalace := iv_pi_of (t := tX12_isPalace) rfl (by decide)
def FX12_isPalace_b14 (N : Nat) (s : iv_M)  (xs0 : Int) : Option (Int) := (if xs0 = 0 ∨ xs0 = 1 then some xs0 else none)
set_option maxRecDepth 10000 in
set_option maxHeartbeats 4000000 in
theorem RX12_isPalace_b14 {d N nc Ls : Nat} {Xs : Nat → Int32} (hd : 0 ≤ d) {h : iv_H} {s : iv_M} (hR : Rep nc Ls Xs h s)  {ms0 : Int32} {xs0 : Int} (ps0 : ms0.toInt = xs0) {r : Int} {Q : Option Value → iv_H → Prop} (hq : ∀ (z : Int32), z.toInt = r → Q (some (.int z)) h) (e : FX12_isPalace_b14 N s  xs0 = some r) : Rn d 193 (some .boolean) 14 [none] [.int ms0] h Q := by
  have hT := hX12_isPalace
  unfold FX12_isPalace_b14 at e
  by_cases c_2301 : xs0 = 0 ∨ xs0 = 1
  · rw [if_pos c_2301] at e
    obtain rfl := Option.some.inj e
    exact Rn.ret hT rfl rfl (if_pos (ti_b ps0 c_2301)) (hq ms0 ps0)
  · rw [if_neg c_2301] at e
    cases e
def FX12_isPalace (N : Nat) (s : iv_M) (q0 : Nat) : Option (Int) := ((rd s (q0 + 1) 14 0).bind fun v_2299 => (if v_2299 ≤ 0 then (FX12_isPalace_b14 N s 0) else (FX12_isPalace_b14 N s 1)))
set_option maxRecDepth 10000 in
set_option maxHeartbeats 4000000 in
theorem RX12_isPalace {d N nc Ls : Nat} {Xs : Nat → Int32} (hd : 1 ≤ d) {h : iv_H} {s : iv_M} (hR : Rep nc Ls Xs h s) {q0 : Nat} (t0 : T12 nc q0) {r : Int} {Q : Option Value → iv_H → Prop} (e : FX12_isPalace N s q0 = some r) (hq : ∀ (z : Int32), z.toInt = r → Q (some (.int z)) h) : Cl d 193 [.ref q0] h Q := by
  obtain ⟨d, rfl⟩ : ∃ k, d = k + 1 := ⟨d - 1, by omega⟩
  have hd : 0 ≤ d := by omega
  have hT := hX12_isPalace
  unfold FX12_isPalace at e
  refine Cl.into (by decide) gX12_isPalace rfl ?_
  show Rn d 193 (some .boolean) 0 [some (.ref q0)] [] h Q
  refine Rn.n hT 1 (pc' := 1) (L' := [some (.ref q0)]) (st' := [.ref q0]) rfl ?_
  refine Rn.hp hT rfl rfl (gR_hp (rp_gR hR (T12_o t0) rfl)) ?_
  refine Rn.n hT 1 (pc' := 5) (L' := [some (.ref q0)]) (st' := [.int (0 : Int32), .ref (q0 + 1)]) rfl ?_
  obtain ⟨v_2299, e_2299, e⟩ := Option.bind_eq_some_iff.mp e
  obtain ⟨z_2299, g_2299, p_2299⟩ := rp_aI hR (T12_1 t0) (T12_1l t0) L32_0 e_2299
  refine Rn.hp hT rfl rfl (aI_hp g_2299) ?_
  by_cases c_2300 : v_2299 ≤ 0
  · rw [if_pos c_2300] at e
    refine Rn.bt hT rfl rfl rfl (decide_eq_true ((ti_le p_2299 L32_0).mpr c_2300)) ?_
    refine Rn.n hT 1 (pc' := 14) (L' := [some (.ref q0)]) (st' := [.int (0 : Int32)]) rfl ?_
    exact Rn.weak (ll_n ll_e) (RX12_isPalace_b14 hd hR L32_0 hq e)
  · rw [if_neg c_2300] at e
    refine Rn.bf hT rfl rfl rfl (decide_eq_false (fun z => c_2300 ((ti_le p_2299 L32_0).mp z))) ?_
    refine Rn.n hT 2 (pc' := 14) (L' := [some (.ref q0)]) (st' := [.int (1 : Int32)]) rfl ?_
    exact Rn.weak (ll_n ll_e) (RX12_isPalace_b14 hd hR L32_1 hq e)
set_option maxRecDepth 10000 in
theorem hX12_isCell : iv_Tb 194 tX12_isCell := iv_tb_of (m := mX12_isCell) rfl
set_option maxRecDepth 10000 in
theorem gX12_isCell : PG.2 194 = some mX12_isCell := iv_pi_of (t := tX12_isCell) rfl (by decide)
def FX12_isCell_b41 (N : Nat) (s : iv_M)  (xs0 : Int) : Option (Int) := (if xs0 = 0 ∨ xs0 = 1 then some xs0 else none)
set_option maxRecDepth 10000 in
set_option maxHeartbeats 4000000 in
theorem RX12_isCell_b41 {d N nc Ls : Nat} {Xs : Nat → Int32} (hd : 1 ≤ d) {h : iv_H} {s : iv_M} (hR : Rep nc Ls Xs h s)  {ms0 : Int32} {xs0 : Int} (ps0 : ms0.toInt = xs0) {r : Int} {Q : Option Value → iv_H → Prop} (hq : ∀ (z : Int32), z.toInt = r → Q (some (.int z)) h) (e : FX12_isCell_b41 N s  xs0 = some r) : Rn d 194 (some .boolean) 41 [none, none, none] [.int ms0] h Q := by
  have hT := hX12_isCell
  unfold FX12_isCell_b41 at e
  by_cases c_2308 : xs0 = 0 ∨ xs0 = 1
  · rw [if_pos c_2308] at e
    obtain rfl := Option.some.inj e
    exact Rn.ret hT rfl rfl (if_pos (ti_b ps0 c_2308)) (hq ms0 ps0)
  · rw [if_neg c_2308] at e
    cases e
def FX12_isCell_b40 (N : Nat) (s : iv_M)   : Option (Int) := (FX12_isCell_b41 N s 0)
set_option maxRecDepth 10000 in
set_option maxHeartbeats 4000000 in
theorem RX12_isCell_b40 {d N nc Ls : Nat} {Xs : Nat → Int32} (hd : 1 ≤ d) {h : iv_H} {s : iv_M} (hR : Rep nc Ls Xs h s)   {r : Int} {Q : Option Value → iv_H → Prop} (hq : ∀ (z : Int32), z.toInt = r → Q (some (.int z)) h) (e : FX12_isCell_b40 N s   = some r) : Rn d 194 (some .boolean) 40 [none, none, none] [] h Q := by
  have hT := hX12_isCell
  unfold FX12_isCell_b40 at e
  refine Rn.n hT 1 (pc' := 41) (L' := [none, none, none]) (st' := [.int (0 : Int32)]) rfl ?_
  exact Rn.weak (ll_n (ll_n (ll_n ll_e))) (RX12_isCell_b41 hd hR L32_0 hq e)
def FX12_isCell (N : Nat) (s : iv_M) (q0 : Nat) (x1 : Int) (x2 : Int) : Option (Int) := ((rd s (q0 + 1) 14 0).bind fun v_2302 => ((FX12_in N s x1 0 (w32 (v_2302 - 1))).bind fun v_2303 => (if v_2303 = 0 then (FX12_isCell_b40 N s) else ((rd s (q0 + 1) 14 1).bind fun v_2305 => ((FX12_in N s x2 0 (w32 (v_2305 - 1))).bind fun v_2306 => (if v_2306 = 0 then (FX12_isCell_b40 N s) else (FX12_isCell_b41 N s 1)))))))
set_option maxRecDepth 10000 in
set_option maxHeartbeats 4000000 in
theorem RX12_isCell {d N nc Ls : Nat} {Xs : Nat → Int32} (hd : 2 ≤ d) {h : iv_H} {s : iv_M} (hR : Rep nc Ls Xs h s) {q0 : Nat} (t0 : T12 nc q0) {m1 : Int32} {x1 : Int} (p1 : m1.toInt = x1) {m2 : Int32} {x2 : Int} (p2 : m2.toInt = x2) {r : Int} {Q : Option Value → iv_H → Prop} (e : FX12_isCell N s q0 x1 x2 = some r) (hq : ∀ (z : Int32), z.toInt = r → Q (some (.int z)) h) : Cl d 194 [.ref q0, .int m1, .int m2] h Q := by
  obtain ⟨d, rfl⟩ : ∃ k, d = k + 1 := ⟨d - 1, by omega⟩
  have hd : 1 ≤ d := by omega
  have hT := hX12_isCell
  unfold FX12_isCell at e
  refine Cl.into (by decide) gX12_isCell rfl ?_
  show Rn d 194 (some .boolean) 0 [some (.ref q0), some (.int m1), some (.int m2)] [] h Q
  refine Rn.n hT 4 (pc' := 4) (L' := [some (.ref q0), some (.int m1), some (.int m2)]) (st' := [.ref q0, .long (0 : Int64), .long ((m1).toInt64)]) rfl ?_
  refine Rn.hp hT rfl rfl (gR_hp (rp_gR hR (T12_o t0) rfl)) ?_
  refine Rn.n hT 1 (pc' := 8) (L' := [some (.ref q0), some (.int m1), some (.int m2)]) (st' := [.int (0 : Int32), .ref (q0 + 1), .long (0 : Int64), .long ((m1).toInt64)]) rfl ?_
  obtain ⟨v_2302, e_2302, e⟩ := Option.bind_eq_some_iff.mp e
  obtain ⟨z_2302, g_2302, p_2302⟩ := rp_aI hR (T12_1 t0) (T12_1l t0) L32_0 e_2302
  refine Rn.hp hT rfl rfl (aI_hp g_2302) ?_
  refine Rn.n hT 3 (pc' := 12) (L' := [some (.ref q0), some (.int m1), some (.int m2)]) (st' := [.long (((z_2302 - (1 : Int32))).toInt64), .long (0 : Int64), .long ((m1).toInt64)]) rfl ?_
  obtain ⟨v_2303, e_2303, e⟩ := Option.bind_eq_some_iff.mp e
  refine Rn.call hT rfl rfl rfl (Nat.le_of_ble_eq_true rfl) rfl (RX12_in (by omega) hR (ti_j p1) L64_0 (ti_j (ti_sub p_2302 L32_1)) e_2303 (fun z_2303 p_2303 => ?_))
  show Rn d _ _ 15 [some (.ref q0), some (.int m1), some (.int m2)] [.int z_2303] h Q
  by_cases c_2304 : v_2303 = 0
  · rw [if_pos c_2304] at e
    refine Rn.bt hT rfl rfl rfl (decide_eq_true ((ti_e p_2303 L32_0).mpr c_2304)) ?_
    exact Rn.weak (ll_n (ll_n (ll_n ll_e))) (RX12_isCell_b40 hd hR hq e)
  · rw [if_neg c_2304] at e
    refine Rn.bf hT rfl rfl rfl (decide_eq_false (fun z => c_2304 ((ti_e p_2303 L32_0).mp z))) ?_
    refine Rn.n hT 4 (pc' := 22) (L' := [some (.ref q0), some (.int m1), some (.int m2)]) (st' := [.ref q0, .long (0 : Int64), .long ((m2).toInt64)]) rfl ?_
    refine Rn.hp hT rfl rfl (gR_hp (rp_gR hR (T12_o t0) rfl)) ?_
    refine Rn.n hT 1 (pc' := 26) (L' := [some (.ref q0), some (.int m1), some (.int m2)]) (st' := [.int (1 : Int32), .ref (q0 + 1), .long (0 : Int64), .long ((m2).toInt64)]) rfl ?_
    obtain ⟨v_2305, e_2305, e⟩ := Option.bind_eq_some_iff.mp e
    obtain ⟨z_2305, g_2305, p_2305⟩ := rp_aI hR (T12_1 t0) (T12_1l t0) L32_1 e_2305
    refine Rn.hp hT rfl rfl (aI_hp g_2305) ?_
    refine Rn.n hT 3 (pc' := 30) (L' := [some (.ref q0), some (.int m1), some (.int m2)]) (st' := [.long (((z_2305 - (1 : Int32))).toInt64), .long (0 : Int64), .long ((m2).toInt64)]) rfl ?_
    obtain ⟨v_2306, e_2306, e⟩ := Option.bind_eq_some_iff.mp e
    refine Rn.call hT rfl rfl rfl (Nat.le_of_ble_eq_true rfl) rfl (RX12_in (by omega) hR (ti_j p2) L64_0 (ti_j (ti_sub p_2305 L32_1)) e_2306 (fun z_2306 p_2306 => ?_))
    show Rn d _ _ 33 [some (.ref q0), some (.int m1), some (.int m2)] [.int z_2306] h Q
    by_cases c_2307 : v_2306 = 0
    · rw [if_pos c_2307] at e
      refine Rn.bt hT rfl rfl rfl (decide_eq_true ((ti_e p_2306 L32_0).mpr c_2307)) ?_
      exact Rn.weak (ll_n (ll_n (ll_n ll_e))) (RX12_isCell_b40 hd hR hq e)
    · rw [if_neg c_2307] at e
      refine Rn.bf hT rfl rfl rfl (decide_eq_false (fun z => c_2307 ((ti_e p_2306 L32_0).mp z))) ?_
      refine Rn.n hT 2 (pc' := 41) (L' := [some (.ref q0), some (.int m1), some (.int m2)]) (st' := [.int (1 : Int32)]) rfl ?_
      exact Rn.weak (ll_n (ll_n (ll_n ll_e))) (RX12_isCell_b41 hd hR L32_1 hq e)
set_option maxRecDepth 10000 in
theorem hX12_isFloor : iv_Tb 195 tX12_isFloor := iv_tb_of (m := mX12_isFloor) rfl
set_option maxRecDepth 10000 in
theorem gX12_isFloor : PG.2 195 = some mX12_isFloor := iv_pi_of (t := tX12_isFloor) rfl (by decide)
def FX12_isFloor (N : Nat) (s : iv_M) (q0 : Nat) (x1 : Int) : Option (Int) := ((FX12_isCell N s q0 (Int.tmod x1 4) (dv32 x1 4)).bind fun v_2309 => (if v_2309 = 0 ∨ v_2309 = 1 then some v_2309 else none))
set_option maxRecDepth 10000 in
set_option maxHeartbeats 4000000 in
theorem RX12_isFloor {d N nc Ls : Nat} {Xs : Nat → Int32} (hd : 3 ≤ d) {h : iv_H} {s : iv_M} (hR : Rep nc Ls Xs h s) {q0 : Nat} (t0 : T12 nc q0) {m1 : Int32} {x1 : Int} (p1 : m1.toInt = x1) {r : Int} {Q : Option Value → iv_H → Prop} (e : FX12_isFloor N s q0 x1 = some r) (hq : ∀ (z : Int32), z.toInt = r → Q (some (.int z)) h) : Cl d 195 [.ref q0, .int m1] h Q := by
  obtain ⟨d, rfl⟩ : ∃ k, d = k + 1 := ⟨d - 1, by omega⟩
  have hd : 2 ≤ d := by omega
  have hT := hX12_isFloor
  unfold FX12_isFloor at e
  refine Cl.into (by decide) gX12_isFloor rfl ?_
  show Rn d 195 (some .boolean) 0 [some (.ref q0), some (.int m1)] [] h Q
  refine Rn.n hT 7 (pc' := 7) (L' := [some (.ref q0), some (.int m1)]) (st' := [.int (m1 / (4 : Int32)), .int (m1 - m1 / (4 : Int32) * (4 : Int32)), .ref q0]) rfl ?_
  obtain ⟨v_2309, e_2309, e⟩ := Option.bind_eq_some_iff.mp e
  refine Rn.call hT rfl rfl rfl (Nat.le_of_ble_eq_true rfl) (rcv_v gX12_isCell (by omega) (rp_ck hR (T12_o t0))) (RX12_isCell (by omega) hR t0 (ti_rem p1 L32_4) (ti_div p1 L32_4) e_2309 (fun z_2309 p_2309 => ?_))
  show Rn d _ _ 10 [some (.ref q0), some (.int m1)] [.int z_2309] h Q
  by_cases c_2310 : v_2309 = 0 ∨ v_2309 = 1
  · rw [if_pos c_2310] at e
    obtain rfl := Option.some.inj e
    exact Rn.ret hT rfl rfl (if_pos (ti_b p_2309 c_2310)) (hq z_2309 p_2309)
  · rw [if_neg c_2310] at e
    cases e
set_option maxRecDepth 10000 in
theorem hX12_isRoom : iv_Tb 196 tX12_isRoom := iv_tb_of (m := mX12_isRoom) rfl
set_option maxRecDepth 10000 in
theorem gX12_isRoom : PG.2 196 = some mX12_isRoom := iv_pi_of (t := tX12_isRoom) rfl (by decide)
def FX12_isRoom (N : Nat) (s : iv_M) (q0 : Nat) (x1 : Int) : Option (Int) := ((rd s (q0 + 1) 14 2).bind fun v_2311 => ((FX12_in N s x1 0 (w32 (v_2311 - 1))).bind fun v_2312 => (if v_2312 = 0 ∨ v_2312 = 1 then some v_2312 else none)))
set_option maxRecDepth 10000 in
set_option maxHeartbeats 4000000 in
theorem RX12_isRoom {d N nc Ls : Nat} {Xs : Nat → Int32} (hd : 2 ≤ d) {h : iv_H} {s : iv_M} (hR : Rep nc Ls Xs h s) {q0 : Nat} (t0 : T12 nc q0) {m1 : Int32} {x1 : Int} (p1 : m1.toInt = x1) {r : Int} {Q : Option Value → iv_H → Prop} (e : FX12_isRoom N s q0 x1 = some r) (hq : ∀ (z : Int32), z.toInt = r → Q (some (.int z)) h) : Cl d 196 [.ref q0, .int m1] h Q := by
  obtain ⟨d, rfl⟩ : ∃ k, d = k + 1 := ⟨d - 1, by omega⟩
  have hd : 1 ≤ d := by omega
  have hT := hX12_isRoom
  unfold FX12_isRoom at e
  refine Cl.into (by decide) gX12_isRoom rfl ?_
  show Rn d 196 (some .boolean) 0 [some (.ref q0), some (.int m1)] [] h Q
  refine Rn.n hT 4 (pc' := 4) (L' := [some (.ref q0), some (.int m1)]) (st' := [.ref q0, .long (0 : Int64), .long ((m1).toInt64)]) rfl ?_
  refine Rn.hp hT rfl rfl (gR_hp (rp_gR hR (T12_o t0) rfl)) ?_
  refine Rn.n hT 1 (pc' := 8) (L' := [some (.ref q0), some (.int m1)]) (st' := [.int (2 : Int32), .ref (q0 + 1), .long (0 : Int64), .long ((m1).toInt64)]) rfl ?_
  obtain ⟨v_2311, e_2311, e⟩ := Option.bind_eq_some_iff.mp e
  obtain ⟨z_2311, g_2311, p_2311⟩ := rp_aI hR (T12_1 t0) (T12_1l t0) L32_2 e_2311
  refine Rn.hp hT rfl rfl (aI_hp g_2311) ?_
  refine Rn.n hT 3 (pc' := 12) (L' := [some (.ref q0), some (.int m1)]) (st' := [.long (((z_2311 - (1 : Int32))).toInt64), .long (0 : Int64), .long ((m1).toInt64)]) rfl ?_
  obtain ⟨v_2312, e_2312, e⟩ := Option.bind_eq_some_iff.mp e
  refine Rn.call hT rfl rfl rfl (Nat.le_of_ble_eq_true rfl) rfl (RX12_in (by omega) hR (ti_j p1) L64_0 (ti_j (ti_sub p_2311 L32_1)) e_2312 (fun z_2312 p_2312 => ?_))
  show Rn d _ _ 15 [some (.ref q0), some (.int m1)] [.int z_2312] h Q
  by_cases c_2313 : v_2312 = 0 ∨ v_2312 = 1
  · rw [if_pos c_2313] at e
    obtain rfl := Option.some.inj e
    exact Rn.ret hT rfl rfl (if_pos (ti_b p_2312 c_2313)) (hq z_2312 p_2312)
  · rw [if_neg c_2313] at e
    cases e
set_option maxRecDepth 10000 in
theorem hX12_isPerson : iv_Tb 197 tX12_isPerson := iv_tb_of (m := mX12_isPerson) rfl
set_option maxRecDepth 10000 in
theorem gX12_isPerson : PG.2 197 = some mX12_isPerson := iv_pi_of (t := tX12_isPerson) rfl (by decide)
def FX12_isPerson (N : Nat) (s : iv_M) (q0 : Nat) (x1 : Int) : Option (Int) := ((rd s (q0 + 1) 14 3).bind fun v_2314 => ((FX12_in N s x1 0 (w32 (v_2314 - 1))).bind fun v_2315 => (if v_2315 = 0 ∨ v_2315 = 1 then some v_2315 else none)))
set_option maxRecDepth 10000 in
set_option maxHeartbeats 4000000 in
theorem RX12_isPerson {d N nc Ls : Nat} {Xs : Nat → Int32} (hd : 2 ≤ d) {h : iv_H} {s : iv_M} (hR : Rep nc Ls Xs h s) {q0 : Nat} (t0 : T12 nc q0) {m1 : Int32} {x1 : Int} (p1 : m1.toInt = x1) {r : Int} {Q : Option Value → iv_H → Prop} (e : FX12_isPerson N s q0 x1 = some r) (hq : ∀ (z : Int32), z.toInt = r → Q (some (.int z)) h) : Cl d 197 [.ref q0, .int m1] h Q := by
  obtain ⟨d, rfl⟩ : ∃ k, d = k + 1 := ⟨d - 1, by omega⟩
  have hd : 1 ≤ d := by omega
  have hT := hX12_isPerson
  unfold FX12_isPerson at e
  refine Cl.into (by decide) gX12_isPerson rfl ?_
  show Rn d 197 (some .boolean) 0 [some (.ref q0), some (.int m1)] [] h Q
  refine Rn.n hT 4 (pc' := 4) (L' := [some (.ref q0), some (.int m1)]) (st' := [.ref q0, .long (0 : Int64), .long ((m1).toInt64)]) rfl ?_
  refine Rn.hp hT rfl rfl (gR_hp (rp_gR hR (T12_o t0) rfl)) ?_
  refine Rn.n hT 1 (pc' := 8) (L' := [some (.ref q0), some (.int m1)]) (st' := [.int (3 : Int32), .ref (q0 + 1), .long (0 : Int64), .long ((m1).toInt64)]) rfl ?_
  obtain ⟨v_2314, e_2314, e⟩ := Option.bind_eq_some_iff.mp e
  obtain ⟨z_2314, g_2314, p_2314⟩ := rp_aI hR (T12_1 t0) (T12_1l t0) L32_3 e_2314
  refine Rn.hp hT rfl rfl (aI_hp g_2314) ?_
  refine Rn.n hT 3 (pc' := 12) (L' := [some (.ref q0), some (.int m1)]) (st' := [.long (((z_2314 - (1 : Int32))).toInt64), .long (0 : Int64), .long ((m1).toInt64)]) rfl ?_
  obtain ⟨v_2315, e_2315, e⟩ := Option.bind_eq_some_iff.mp e
  refine Rn.call hT rfl rfl rfl (Nat.le_of_ble_eq_true rfl) rfl (RX12_in (by omega) hR (ti_j p1) L64_0 (ti_j (ti_sub p_2314 L32_1)) e_2315 (fun z_2315 p_2315 => ?_))
  show Rn d _ _ 15 [some (.ref q0), some (.int m1)] [.int z_2315] h Q
  by_cases c_2316 : v_2315 = 0 ∨ v_2315 = 1
  · rw [if_pos c_2316] at e
    obtain rfl := Option.some.inj e
    exact Rn.ret hT rfl rfl (if_pos (ti_b p_2315 c_2316)) (hq z_2315 p_2315)
  · rw [if_neg c_2316] at e
    cases e
set_option maxRecDepth 10000 in
theorem hX12_by : iv_Tb 198 tX12_by := iv_tb_of (m := mX12_by) rfl
set_option maxRecDepth 10000 in
theorem gX12_by : PG.2 198 = some mX12_by := iv_pi_of (t := tX12_by) rfl (by decide)
def FX12_by_b68 (N : Nat) (s : iv_M)  (xs0 : Int) : Option (Int) := (some xs0)
set_option maxRecDepth 10000 in
set_option maxHeartbeats 4000000 in
theorem RX12_by_b68 {d N nc Ls : Nat} {Xs : Nat → Int32} (hd : 2 ≤ d) {h : iv_H} {s : iv_M} (hR : Rep nc Ls Xs h s)  {ms0 : Int32} {xs0 : Int} (ps0 : ms0.toInt = xs0) {r : Int} {Q : Option Value → iv_H → Prop} (hq : ∀ (z : Int32), z.toInt = r → Q (some (.int z)) h) (e : FX12_by_b68 N s  xs0 = some r) : Rn d 198 (some .int) 68 [none, none, none, none, none] [.int ms0] h Q := by
  have hT := hX12_by
  unfold FX12_by_b68 at e
  obtain rfl := Option.some.inj e
  exact Rn.ret hT rfl rfl rfl (hq ms0 ps0)
def FX12_by_b45 (N : Nat) (s : iv_M) (q0 : Nat) (x3 : Int) (xs0 : Int) (xs1 : Int) : Option (Int) := ((FX12_isCell N s q0 x3 (w32 (xs1 + xs0))).bind fun v_2321 => (if v_2321 = 0 then (FX12_by_b68 N s (-1)) else (FX12_by_b68 N s (w32 ((w32 (4 * (w32 (xs1 + xs0)))) + x3)))))
set_option maxRecDepth 10000 in
set_option maxHeartbeats 4000000 in
theorem RX12_by_b45 {d N nc Ls : Nat} {Xs : Nat → Int32} (hd : 2 ≤ d) {h : iv_H} {s : iv_M} (hR : Rep nc Ls Xs h s) {q0 : Nat} (t0 : T12 nc q0) {m3 : Int32} {x3 : Int} (p3 : m3.toInt = x3) {ms0 : Int32} {xs0 : Int} (ps0 : ms0.toInt = xs0) {ms1 : Int32} {xs1 : Int} (ps1 : ms1.toInt = xs1) {r : Int} {Q : Option Value → iv_H → Prop} (hq : ∀ (z : Int32), z.toInt = r → Q (some (.int z)) h) (e : FX12_by_b45 N s q0 x3 xs0 xs1 = some r) : Rn d 198 (some .int) 45 [some (.ref q0), none, none, some (.int m3), none] [.int ms0, .int ms1] h Q := by
  have hT := hX12_by
  unfold FX12_by_b45 at e
  refine Rn.n hT 5 (pc' := 52) (L' := [some (.ref q0), none, none, some (.int m3), some (.int (ms1 + ms0))]) (st' := [.int (ms1 + ms0), .int m3, .ref q0]) rfl ?_
  obtain ⟨v_2321, e_2321, e⟩ := Option.bind_eq_some_iff.mp e
  refine Rn.call hT rfl rfl rfl (Nat.le_of_ble_eq_true rfl) (rcv_v gX12_isCell (by omega) (rp_ck hR (T12_o t0))) (RX12_isCell (by omega) hR t0 p3 (ti_add ps1 ps0) e_2321 (fun z_2321 p_2321 => ?_))
  show Rn d _ _ 55 [some (.ref q0), none, none, some (.int m3), some (.int (ms1 + ms0))] [.int z_2321] h Q
  by_cases c_2322 : v_2321 = 0
  · rw [if_pos c_2322] at e
    refine Rn.bt hT rfl rfl rfl (decide_eq_true ((ti_e p_2321 L32_0).mpr c_2322)) ?_
    refine Rn.n hT 1 (pc' := 68) (L' := [some (.ref q0), none, none, some (.int m3), some (.int (ms1 + ms0))]) (st' := [.int (-1 : Int32)]) rfl ?_
    exact Rn.weak (ll_n (ll_n (ll_n (ll_n (ll_n ll_e))))) (RX12_by_b68 hd hR L32_m1 hq e)
  · rw [if_neg c_2322] at e
    refine Rn.bf hT rfl rfl rfl (decide_eq_false (fun z => c_2322 ((ti_e p_2321 L32_0).mp z))) ?_
    refine Rn.n hT 6 (pc' := 68) (L' := [some (.ref q0), none, none, some (.int m3), some (.int (ms1 + ms0))]) (st' := [.int (((4 : Int32) * (ms1 + ms0)) + m3)]) rfl ?_
    exact Rn.weak (ll_n (ll_n (ll_n (ll_n (ll_n ll_e))))) (RX12_by_b68 hd hR (ti_add (ti_mul L32_4 (ti_add ps1 ps0)) p3) hq e)
def FX12_by_b22 (N : Nat) (s : iv_M) (q0 : Nat) (x1 : Int) (x2 : Int) (xs0 : Int) (xs1 : Int) : Option (Int) := (if x2 = 2 then (FX12_by_b45 N s q0 (w32 (xs1 + xs0)) 1 (dv32 x1 4)) else (if x2 = 0 then (FX12_by_b45 N s q0 (w32 (xs1 + xs0)) (-1) (dv32 x1 4)) else (FX12_by_b45 N s q0 (w32 (xs1 + xs0)) 0 (dv32 x1 4))))
set_option maxRecDepth 10000 in
set_option maxHeartbeats 4000000 in
theorem RX12_by_b22 {d N nc Ls : Nat} {Xs : Nat → Int32} (hd : 2 ≤ d) {h : iv_H} {s : iv_M} (hR : Rep nc Ls Xs h s) {q0 : Nat} (t0 : T12 nc q0) {m1 : Int32} {x1 : Int} (p1 : m1.toInt = x1) {m2 : Int32} {x2 : Int} (p2 : m2.toInt = x2) {ms0 : Int32} {xs0 : Int} (ps0 : ms0.toInt = xs0) {ms1 : Int32} {xs1 : Int} (ps1 : ms1.toInt = xs1) {r : Int} {Q : Option Value → iv_H → Prop} (hq : ∀ (z : Int32), z.toInt = r → Q (some (.int z)) h) (e : FX12_by_b22 N s q0 x1 x2 xs0 xs1 = some r) : Rn d 198 (some .int) 22 [some (.ref q0), some (.int m1), some (.int m2), none, none] [.int ms0, .int ms1] h Q := by
  have hT := hX12_by
  unfold FX12_by_b22 at e
  refine Rn.n hT 7 (pc' := 29) (L' := [some (.ref q0), some (.int m1), some (.int m2), some (.int (ms1 + ms0)), none]) (st' := [.int (2 : Int32), .int m2, .int (m1 / (4 : Int32))]) rfl ?_
  by_cases c_2319 : x2 = 2
  · rw [if_pos c_2319] at e
    refine Rn.bf hT rfl rfl rfl (decide_eq_false (fun z => z ((ti_e p2 L32_2).mpr c_2319))) ?_
    refine Rn.n hT 2 (pc' := 45) (L' := [some (.ref q0), some (.int m1), some (.int m2), some (.int (ms1 + ms0)), none]) (st' := [.int (1 : Int32), .int (m1 / (4 : Int32))]) rfl ?_
    exact Rn.weak (ll_s (ll_n (ll_n (ll_s (ll_n ll_e))))) (RX12_by_b45 hd hR t0 (ti_add ps1 ps0) L32_1 (ti_div p1 L32_4) hq e)
  · rw [if_neg c_2319] at e
    refine Rn.bt hT rfl rfl rfl (decide_eq_true (fun z => c_2319 ((ti_e p2 L32_2).mp z))) ?_
    refine Rn.n hT 1 (pc' := 37) (L' := [some (.ref q0), some (.int m1), some (.int m2), some (.int (ms1 + ms0)), none]) (st' := [.int m2, .int (m1 / (4 : Int32))]) rfl ?_
    by_cases c_2320 : x2 = 0
    · rw [if_pos c_2320] at e
      refine Rn.bf hT rfl rfl rfl (decide_eq_false (fun z => z ((ti_e p2 L32_0).mpr c_2320))) ?_
      refine Rn.n hT 2 (pc' := 45) (L' := [some (.ref q0), some (.int m1), some (.int m2), some (.int (ms1 + ms0)), none]) (st' := [.int (-1 : Int32), .int (m1 / (4 : Int32))]) rfl ?_
      exact Rn.weak (ll_s (ll_n (ll_n (ll_s (ll_n ll_e))))) (RX12_by_b45 hd hR t0 (ti_add ps1 ps0) L32_m1 (ti_div p1 L32_4) hq e)
    · rw [if_neg c_2320] at e
      refine Rn.bt hT rfl rfl rfl (decide_eq_true (fun z => c_2320 ((ti_e p2 L32_0).mp z))) ?_
      refine Rn.n hT 1 (pc' := 45) (L' := [some (.ref q0), some (.int m1), some (.int m2), some (.int (ms1 + ms0)), none]) (st' := [.int (0 : Int32), .int (m1 / (4 : Int32))]) rfl ?_
      exact Rn.weak (ll_s (ll_n (ll_n (ll_s (ll_n ll_e))))) (RX12_by_b45 hd hR t0 (ti_add ps1 ps0) L32_0 (ti_div p1 L32_4) hq e)
def FX12_by (N : Nat) (s : iv_M) (q0 : Nat) (x1 : Int) (x2 : Int) : Option (Int) := (if x2 = 1 then (FX12_by_b22 N s q0 x1 x2 1 (Int.tmod x1 4)) else (if x2 = 3 then (FX12_by_b22 N s q0 x1 x2 (-1) (Int.tmod x1 4)) else (FX12_by_b22 N s q0 x1 x2 0 (Int.tmod x1 4))))
set_option maxRecDepth 10000 in
set_option maxHeartbeats 4000000 in
theorem RX12_by {d N nc Ls : Nat} {Xs : Nat → Int32} (hd : 3 ≤ d) {h : iv_H} {s : iv_M} (hR : Rep nc Ls Xs h s) {q0 : Nat} (t0 : T12 nc q0) {m1 : Int32} {x1 : Int} (p1 : m1.toInt = x1) {m2 : Int32} {x2 : Int} (p2 : m2.toInt = x2) {r : Int} {Q : Option Value → iv_H → Prop} (e : FX12_by N s q0 x1 x2 = some r) (hq : ∀ (z : Int32), z.toInt = r → Q (some (.int z)) h) : Cl d 198 [.ref q0, .int m1, .int m2] h Q := by
  obtain ⟨d, rfl⟩ : ∃ k, d = k + 1 := ⟨d - 1, by omega⟩
  have hd : 2 ≤ d := by omega
  have hT := hX12_by
  unfold FX12_by at e
  refine Cl.into (by decide) gX12_by rfl ?_
  show Rn d 198 (some .int) 0 [some (.ref q0), some (.int m1), some (.int m2), none, none] [] h Q
  refine Rn.n hT 5 (pc' := 5) (L' := [some (.ref q0), some (.int m1), some (.int m2), none, none]) (st' := [.int (1 : Int32), .int m2, .int (m1 - m1 / (4 : Int32) * (4 : Int32))]) rfl ?_
  by_cases c_2317 : x2 = 1
  · rw [if_pos c_2317] at e
    refine Rn.bf hT rfl rfl rfl (decide_eq_false (fun z => z ((ti_e p2 L32_1).mpr c_2317))) ?_
    refine Rn.n hT 2 (pc' := 22) (L' := [some (.ref q0), some (.int m1), some (.int m2), none, none]) (st' := [.int (1 : Int32), .int (m1 - m1 / (4 : Int32) * (4 : Int32))]) rfl ?_
    exact Rn.weak (ll_s (ll_s (ll_s (ll_n (ll_n ll_e))))) (RX12_by_b22 hd hR t0 p1 p2 L32_1 (ti_rem p1 L32_4) hq e)
  · rw [if_neg c_2317] at e
    refine Rn.bt hT rfl rfl rfl (decide_eq_true (fun z => c_2317 ((ti_e p2 L32_1).mp z))) ?_
    refine Rn.n hT 2 (pc' := 14) (L' := [some (.ref q0), some (.int m1), some (.int m2), none, none]) (st' := [.int (3 : Int32), .int m2, .int (m1 - m1 / (4 : Int32) * (4 : Int32))]) rfl ?_
    by_cases c_2318 : x2 = 3
    · rw [if_pos c_2318] at e
      refine Rn.bf hT rfl rfl rfl (decide_eq_false (fun z => z ((ti_e p2 L32_3).mpr c_2318))) ?_
      refine Rn.n hT 2 (pc' := 22) (L' := [some (.ref q0), some (.int m1), some (.int m2), none, none]) (st' := [.int (-1 : Int32), .int (m1 - m1 / (4 : Int32) * (4 : Int32))]) rfl ?_
      exact Rn.weak (ll_s (ll_s (ll_s (ll_n (ll_n ll_e))))) (RX12_by_b22 hd hR t0 p1 p2 L32_m1 (ti_rem p1 L32_4) hq e)
    · rw [if_neg c_2318] at e
      refine Rn.bt hT rfl rfl rfl (decide_eq_true (fun z => c_2318 ((ti_e p2 L32_3).mp z))) ?_
      refine Rn.n hT 1 (pc' := 22) (L' := [some (.ref q0), some (.int m1), some (.int m2), none, none]) (st' := [.int (0 : Int32), .int (m1 - m1 / (4 : Int32) * (4 : Int32))]) rfl ?_
      exact Rn.weak (ll_s (ll_s (ll_s (ll_n (ll_n ll_e))))) (RX12_by_b22 hd hR t0 p1 p2 L32_0 (ti_rem p1 L32_4) hq e)
set_option maxRecDepth 10000 in
theorem hX12_spotOf : iv_Tb 199 tX12_spotOf := iv_tb_of (m := mX12_spotOf) rfl
set_option maxRecDepth 10000 in
theorem gX12_spotOf : PG.2 199 = some mX12_spotOf := iv_pi_of (t := tX12_spotOf) rfl (by decide)
def FX12_spotOf (N : Nat) (s : iv_M) (q0 : Nat) (x1 : Int) (x2 : Int) : Option (Int) := ((rd s (q0 + 4) 12 x1).bind fun v_2323 => (some (w32 ((w32 (4 * x1)) + (bAn (w32 (x2 - v_2323)) 3)))))
set_option maxRecDepth 10000 in
set_option maxHeartbeats 4000000 in
theorem RX12_spotOf {d N nc Ls : Nat} {Xs : Nat → Int32} (hd : 1 ≤ d) {h : iv_H} {s : iv_M} (hR : Rep nc Ls Xs h s) {q0 : Nat} (t0 : T12 nc q0) {m1 : Int32} {x1 : Int} (p1 : m1.toInt = x1) {m2 : Int32} {x2 : Int} (p2 : m2.toInt = x2) {r : Int} {Q : Option Value → iv_H → Prop} (e : FX12_spotOf N s q0 x1 x2 = some r) (hq : ∀ (z : Int32), z.toInt = r → Q (some (.int z)) h) : Cl d 199 [.ref q0, .int m1, .int m2] h Q := by
  obtain ⟨d, rfl⟩ : ∃ k, d = k + 1 := ⟨d - 1, by omega⟩
  have hd : 0 ≤ d := by omega
  have hT := hX12_spotOf
  unfold FX12_spotOf at e
  refine Cl.into (by decide) gX12_spotOf rfl ?_
  show Rn d 199 (some .int) 0 [some (.ref q0), some (.int m1), some (.int m2)] [] h Q
  refine Rn.n hT 5 (pc' := 5) (L' := [some (.ref q0), some (.int m1), some (.int m2)]) (st' := [.ref q0, .int m2, .int ((4 : Int32) * m1)]) rfl ?_
  refine Rn.hp hT rfl rfl (gR_hp (rp_gR hR (T12_o t0) rfl)) ?_
  refine Rn.n hT 1 (pc' := 9) (L' := [some (.ref q0), some (.int m1), some (.int m2)]) (st' := [.int m1, .ref (q0 + 4), .int m2, .int ((4 : Int32) * m1)]) rfl ?_
  obtain ⟨v_2323, e_2323, e⟩ := Option.bind_eq_some_iff.mp e
  obtain ⟨z_2323, g_2323, p_2323⟩ := rp_aI hR (T12_4 t0) (T12_4l t0) p1 e_2323
  refine Rn.hp hT rfl rfl (aI_hp g_2323) ?_
  refine Rn.n hT 4 (pc' := 14) (L' := [some (.ref q0), some (.int m1), some (.int m2)]) (st' := [.int (((4 : Int32) * m1) + ((m2 - z_2323) &&& (3 : Int32)))]) rfl ?_
  obtain rfl := Option.some.inj e
  exact Rn.ret hT rfl rfl rfl (hq (((4 : Int32) * m1) + ((m2 - z_2323) &&& (3 : Int32))) (ti_add (ti_mul L32_4 p1) (ti_and (ti_sub p2 p_2323) L32_3)))
set_option maxRecDepth 10000 in
theorem hX12_sideOf : iv_Tb 200 tX12_sideOf := iv_tb_of (m := mX12_sideOf) rfl
set_option maxRecDepth 10000 in
theorem gX12_sideOf : PG.2 200 = some mX12_sideOf := iv_pi_of (t := tX12_sideOf) rfl (by decide)
def FX12_sideOf (N : Nat) (s : iv_M) (q0 : Nat) (x1 : Int) (x2 : Int) : Option (Int) := ((FX12_spotOf N s q0 x1 x2).bind fun v_2324 => ((rd s (q0 + 2) 48 v_2324).bind fun v_2325 => (some v_2325)))
set_option maxRecDepth 10000 in
set_option maxHeartbeats 4000000 in
theorem RX12_sideOf {d N nc Ls : Nat} {Xs : Nat → Int32} (hd : 2 ≤ d) {h : iv_H} {s : iv_M} (hR : Rep nc Ls Xs h s) {q0 : Nat} (t0 : T12 nc q0) {m1 : Int32} {x1 : Int} (p1 : m1.toInt = x1) {m2 : Int32} {x2 : Int} (p2 : m2.toInt = x2) {r : Int} {Q : Option Value → iv_H → Prop} (e : FX12_sideOf N s q0 x1 x2 = some r) (hq : ∀ (z : Int32), z.toInt = r → Q (some (.int z)) h) : Cl d 200 [.ref q0, .int m1, .int m2] h Q := by
  obtain ⟨d, rfl⟩ : ∃ k, d = k + 1 := ⟨d - 1, by omega⟩
  have hd : 1 ≤ d := by omega
  have hT := hX12_sideOf
  unfold FX12_sideOf at e
  refine Cl.into (by decide) gX12_sideOf rfl ?_
  show Rn d 200 (some .int) 0 [some (.ref q0), some (.int m1), some (.int m2)] [] h Q
  refine Rn.n hT 1 (pc' := 1) (L' := [some (.ref q0), some (.int m1), some (.int m2)]) (st' := [.ref q0]) rfl ?_
  refine Rn.hp hT rfl rfl (gR_hp (rp_gR hR (T12_o t0) rfl)) ?_
  refine Rn.n hT 3 (pc' := 7) (L' := [some (.ref q0), some (.int m1), some (.int m2)]) (st' := [.int m2, .int m1, .ref q0, .ref (q0 + 2)]) rfl ?_
  obtain ⟨v_2324, e_2324, e⟩ := Option.bind_eq_some_iff.mp e
  refine Rn.call hT rfl rfl rfl (Nat.le_of_ble_eq_true rfl) (rcv_v gX12_spotOf (by omega) (rp_ck hR (T12_o t0))) (RX12_spotOf (by omega) hR t0 p1 p2 e_2324 (fun z_2324 p_2324 => ?_))
  show Rn d _ _ 10 [some (.ref q0), some (.int m1), some (.int m2)] [.int z_2324, .ref (q0 + 2)] h Q
  obtain ⟨v_2325, e_2325, e⟩ := Option.bind_eq_some_iff.mp e
  obtain ⟨z_2325, g_2325, p_2325⟩ := rp_aI hR (T12_2 t0) (T12_2l t0) p_2324 e_2325
  refine Rn.hp hT rfl rfl (aI_hp g_2325) ?_
  obtain rfl := Option.some.inj e
  exact Rn.ret hT rfl rfl rfl (hq z_2325 p_2325)
set_option maxRecDepth 10000 in
theorem hX12_sortOf : iv_Tb 201 tX12_sortOf := iv_tb_of (m := mX12_sortOf) rfl
set_option maxRecDepth 10000 in
theorem gX12_sortOf : PG.2 201 = some mX12_sortOf := iv_pi_of (t := tX12_sortOf) rfl (by decide)
def FX12_sortOf_b10 (N : Nat) (s : iv_M)  (xs0 : Int) : Option (Int) := (some xs0)
set_option maxRecDepth 10000 in
set_option maxHeartbeats 4000000 in
theorem RX12_sortOf_b10 {d N nc Ls : Nat} {Xs : Nat → Int32} (hd : 0 ≤ d) {h : iv_H} {s : iv_M} (hR : Rep nc Ls Xs h s)  {ms0 : Int32} {xs0 : Int} (ps0 : ms0.toInt = xs0) {r : Int} {Q : Option Value → iv_H → Prop} (hq : ∀ (z : Int32), z.toInt = r → Q (some (.int z)) h) (e : FX12_sortOf_b10 N s  xs0 = some r) : Rn d 201 (some .int) 10 [none] [.int ms0] h Q := by
  have hT := hX12_sortOf
  unfold FX12_sortOf_b10 at e
  obtain rfl := Option.some.inj e
  exact Rn.ret hT rfl rfl rfl (hq ms0 ps0)
def FX12_sortOf (N : Nat) (s : iv_M) (x0 : Int) : Option (Int) := (if x0 < 3 then (FX12_sortOf_b10 N s x0) else (FX12_sortOf_b10 N s 1))
set_option maxRecDepth 10000 in
set_option maxHeartbeats 4000000 in
theorem RX12_sortOf {d N nc Ls : Nat} {Xs : Nat → Int32} (hd : 1 ≤ d) {h : iv_H} {s : iv_M} (hR : Rep nc Ls Xs h s) {m0 : Int32} {x0 : Int} (p0 : m0.toInt = x0) {r : Int} {Q : Option Value → iv_H → Prop} (e : FX12_sortOf N s x0 = some r) (hq : ∀ (z : Int32), z.toInt = r → Q (some (.int z)) h) : Cl d 201 [.int m0] h Q := by
  obtain ⟨d, rfl⟩ : ∃ k, d = k + 1 := ⟨d - 1, by omega⟩
  have hd : 0 ≤ d := by omega
  have hT := hX12_sortOf
  unfold FX12_sortOf at e
  refine Cl.into (by decide) gX12_sortOf rfl ?_
  show Rn d 201 (some .int) 0 [some (.int m0)] [] h Q
  refine Rn.n hT 2 (pc' := 2) (L' := [some (.int m0)]) (st' := [.int (3 : Int32), .int m0]) rfl ?_
  by_cases c_2326 : x0 < 3
  · rw [if_pos c_2326] at e
    refine Rn.bt hT rfl rfl rfl (decide_eq_true ((ti_l p0 L32_3).mpr c_2326)) ?_
    refine Rn.n hT 1 (pc' := 10) (L' := [some (.int m0)]) (st' := [.int m0]) rfl ?_
    exact Rn.weak (ll_n ll_e) (RX12_sortOf_b10 hd hR p0 hq e)
  · rw [if_neg c_2326] at e
    refine Rn.bf hT rfl rfl rfl (decide_eq_false (fun z => c_2326 ((ti_l p0 L32_3).mp z))) ?_
    refine Rn.n hT 2 (pc' := 10) (L' := [some (.int m0)]) (st' := [.int (1 : Int32)]) rfl ?_
    exact Rn.weak (ll_n ll_e) (RX12_sortOf_b10 hd hR L32_1 hq e)
set_option maxRecDepth 10000 in
theorem hX12_sortAt : iv_Tb 202 tX12_sortAt := iv_tb_of (m := mX12_sortAt) rfl
set_option maxRecDepth 10000 in
theorem gX12_sortAt : PG.2 202 = some mX12_sortAt := iv_pi_of (t := tX12_sortAt) rfl (by decide)
def FX12_sortAt (N : Nat) (s : iv_M) (q0 : Nat) (x1 : Int) (x2 : Int) : Option (Int) := ((FX12_sideOf N s q0 x1 x2).bind fun v_2327 => ((FX12_sortOf N s v_2327).bind fun v_2328 => (some v_2328)))
set_option maxRecDepth 10000 in
set_option maxHeartbeats 4000000 in
theorem RX12_sortAt {d N nc Ls : Nat} {Xs : Nat → Int32} (hd : 3 ≤ d) {h : iv_H} {s : iv_M} (hR : Rep nc Ls Xs h s) {q0 : Nat} (t0 : T12 nc q0) {m1 : Int32} {x1 : Int} (p1 : m1.toInt = x1) {m2 : Int32} {x2 : Int} (p2 : m2.toInt = x2) {r : Int} {Q : Option Value → iv_H → Prop} (e : FX12_sortAt N s q0 x1 x2 = some r) (hq : ∀ (z : Int32), z.toInt = r → Q (some (.int z)) h) : Cl d 202 [.ref q0, .int m1, .int m2] h Q := by
  obtain ⟨d, rfl⟩ : ∃ k, d = k + 1 := ⟨d - 1, by omega⟩
  have hd : 2 ≤ d := by omega
  have hT := hX12_sortAt
  unfold FX12_sortAt at e
  refine Cl.into (by decide) gX12_sortAt rfl ?_
  show Rn d 202 (some .int) 0 [some (.ref q0), some (.int m1), some (.int m2)] [] h Q
  refine Rn.n hT 3 (pc' := 3) (L' := [some (.ref q0), some (.int m1), some (.int m2)]) (st' := [.int m2, .int m1, .ref q0]) rfl ?_
  obtain ⟨v_2327, e_2327, e⟩ := Option.bind_eq_some_iff.mp e
  refine Rn.call hT rfl rfl rfl (Nat.le_of_ble_eq_true rfl) (rcv_v gX12_sideOf (by omega) (rp_ck hR (T12_o t0))) (RX12_sideOf (by omega) hR t0 p1 p2 e_2327 (fun z_2327 p_2327 => ?_))
  show Rn d _ _ 6 [some (.ref q0), some (.int m1), some (.int m2)] [.int z_2327] h Q
  obtain ⟨v_2328, e_2328, e⟩ := Option.bind_eq_some_iff.mp e
  refine Rn.call hT rfl rfl rfl (Nat.le_of_ble_eq_true rfl) rfl (RX12_sortOf (by omega) hR p_2327 e_2328 (fun z_2328 p_2328 => ?_))
  show Rn d _ _ 9 [some (.ref q0), some (.int m1), some (.int m2)] [.int z_2328] h Q
  obtain rfl := Option.some.inj e
  exact Rn.ret hT rfl rfl rfl (hq z_2328 p_2328)
set_option maxRecDepth 10000 in
theorem hX12_faced : iv_Tb 203 tX12_faced := iv_tb_of (m := mX12_faced) rfl
set_option maxRecDepth 10000 in
theorem gX12_faced : PG.2 203 = some mX12_faced := iv_pi_of (t := tX12_faced) rfl (by decide)
def FX12_faced_b27 (N : Nat) (s : iv_M)  (xs0 : Int) : Option (Int) := (some xs0)
set_option maxRecDepth 10000 in
set_option maxHeartbeats 4000000 in
theorem RX12_faced_b27 {d N nc Ls : Nat} {Xs : Nat → Int32} (hd : 3 ≤ d) {h : iv_H} {s : iv_M} (hR : Rep nc Ls Xs h s)  {ms0 : Int32} {xs0 : Int} (ps0 : ms0.toInt = xs0) {r : Int} {Q : Option Value → iv_H → Prop} (hq : ∀ (z : Int32), z.toInt = r → Q (some (.int z)) h) (e : FX12_faced_b27 N s  xs0 = some r) : Rn d 203 (some .int) 27 [none, none, none, none] [.int ms0] h Q := by
  have hT := hX12_faced
  unfold FX12_faced_b27 at e
  obtain rfl := Option.some.inj e
  exact Rn.ret hT rfl rfl rfl (hq ms0 ps0)
def FX12_faced (N : Nat) (s : iv_M) (q0 : Nat) (x1 : Int) (x2 : Int) : Option (Int) := ((rd s (q0 + 3) 12 x1).bind fun v_2329 => ((FX12_by N s q0 v_2329 x2).bind fun v_2330 => (if v_2330 = (-1) then (FX12_faced_b27 N s (-1)) else ((rd s (q0 + 8) 16 v_2330).bind fun v_2332 => (FX12_faced_b27 N s v_2332)))))
set_option maxRecDepth 10000 in
set_option maxHeartbeats 4000000 in
theorem RX12_faced {d N nc Ls : Nat} {Xs : Nat → Int32} (hd : 4 ≤ d) {h : iv_H} {s : iv_M} (hR : Rep nc Ls Xs h s) {q0 : Nat} (t0 : T12 nc q0) {m1 : Int32} {x1 : Int} (p1 : m1.toInt = x1) {m2 : Int32} {x2 : Int} (p2 : m2.toInt = x2) {r : Int} {Q : Option Value → iv_H → Prop} (e : FX12_faced N s q0 x1 x2 = some r) (hq : ∀ (z : Int32), z.toInt = r → Q (some (.int z)) h) : Cl d 203 [.ref q0, .int m1, .int m2] h Q := by
  obtain ⟨d, rfl⟩ : ∃ k, d = k + 1 := ⟨d - 1, by omega⟩
  have hd : 3 ≤ d := by omega
  have hT := hX12_faced
  unfold FX12_faced at e
  refine Cl.into (by decide) gX12_faced rfl ?_
  show Rn d 203 (some .int) 0 [some (.ref q0), some (.int m1), some (.int m2), none] [] h Q
  refine Rn.n hT 2 (pc' := 2) (L' := [some (.ref q0), some (.int m1), some (.int m2), none]) (st' := [.ref q0, .ref q0]) rfl ?_
  refine Rn.hp hT rfl rfl (gR_hp (rp_gR hR (T12_o t0) rfl)) ?_
  refine Rn.n hT 1 (pc' := 6) (L' := [some (.ref q0), some (.int m1), some (.int m2), none]) (st' := [.int m1, .ref (q0 + 3), .ref q0]) rfl ?_
  obtain ⟨v_2329, e_2329, e⟩ := Option.bind_eq_some_iff.mp e
  obtain ⟨z_2329, g_2329, p_2329⟩ := rp_aI hR (T12_3 t0) (T12_3l t0) p1 e_2329
  refine Rn.hp hT rfl rfl (aI_hp g_2329) ?_
  refine Rn.n hT 1 (pc' := 8) (L' := [some (.ref q0), some (.int m1), some (.int m2), none]) (st' := [.int m2, .int z_2329, .ref q0]) rfl ?_
  obtain ⟨v_2330, e_2330, e⟩ := Option.bind_eq_some_iff.mp e
  refine Rn.call hT rfl rfl rfl (Nat.le_of_ble_eq_true rfl) (rcv_v gX12_by (by omega) (rp_ck hR (T12_o t0))) (RX12_by (by omega) hR t0 p_2329 p2 e_2330 (fun z_2330 p_2330 => ?_))
  show Rn d _ _ 11 [some (.ref q0), some (.int m1), some (.int m2), none] [.int z_2330] h Q
  refine Rn.n hT 3 (pc' := 14) (L' := [some (.ref q0), some (.int m1), some (.int m2), some (.int z_2330)]) (st' := [.int (-1 : Int32), .int z_2330]) rfl ?_
  by_cases c_2331 : v_2330 = (-1)
  · rw [if_pos c_2331] at e
    refine Rn.bf hT rfl rfl rfl (decide_eq_false (fun z => z ((ti_e p_2330 L32_m1).mpr c_2331))) ?_
    refine Rn.n hT 2 (pc' := 27) (L' := [some (.ref q0), some (.int m1), some (.int m2), some (.int z_2330)]) (st' := [.int (-1 : Int32)]) rfl ?_
    exact Rn.weak (ll_n (ll_n (ll_n (ll_n ll_e)))) (RX12_faced_b27 hd hR L32_m1 hq e)
  · rw [if_neg c_2331] at e
    refine Rn.bt hT rfl rfl rfl (decide_eq_true (fun z => c_2331 ((ti_e p_2330 L32_m1).mp z))) ?_
    refine Rn.n hT 1 (pc' := 22) (L' := [some (.ref q0), some (.int m1), some (.int m2), some (.int z_2330)]) (st' := [.ref q0]) rfl ?_
    refine Rn.hp hT rfl rfl (gR_hp (rp_gR hR (T12_o t0) rfl)) ?_
    refine Rn.n hT 1 (pc' := 26) (L' := [some (.ref q0), some (.int m1), some (.int m2), some (.int z_2330)]) (st' := [.int z_2330, .ref (q0 + 8)]) rfl ?_
    obtain ⟨v_2332, e_2332, e⟩ := Option.bind_eq_some_iff.mp e
    obtain ⟨z_2332, g_2332, p_2332⟩ := rp_aI hR (T12_8 t0) (T12_8l t0) p_2330 e_2332
    refine Rn.hp hT rfl rfl (aI_hp g_2332) ?_
    exact Rn.weak (ll_n (ll_n (ll_n (ll_n ll_e)))) (RX12_faced_b27 hd hR p_2332 hq e)
set_option maxRecDepth 10000 in
theorem hX12_isDoorToDoor : iv_Tb 204 tX12_isDoorToDoor := iv_tb_of (m := mX12_isDoorToDoor) rfl
set_option maxRecDepth 10000 in
theorem gX12_isDoorToDoor : PG.2 204 = some mX12_isDoorToDoor := iv_pi_of (t := tX12_isDoorToDoor) rfl (by decide)
def FX12_isDoorToDoor_b41 (N : Nat) (s : iv_M)  (xs0 : Int) : Option (Int) := (if xs0 = 0 ∨ xs0 = 1 then some xs0 else none)
set_option maxRecDepth 10000 in
set_option maxHeartbeats 4000000 in
theorem RX12_isDoorToDoor_b41 {d N nc Ls : Nat} {Xs : Nat → Int32} (hd : 4 ≤ d) {h : iv_H} {s : iv_M} (hR : Rep nc Ls Xs h s)  {ms0 : Int32} {xs0 : Int} (ps0 : ms0.toInt = xs0) {r : Int} {Q : Option Value → iv_H → Prop} (hq : ∀ (z : Int32), z.toInt = r → Q (some (.int z)) h) (e : FX12_isDoorToDoor_b41 N s  xs0 = some r) : Rn d 204 (some .boolean) 41 [none, none, none, none] [.int ms0] h Q := by
  have hT := hX12_isDoorToDoor
  unfold FX12_isDoorToDoor_b41 at e
  by_cases c_2339 : xs0 = 0 ∨ xs0 = 1
  · rw [if_pos c_2339] at e
    obtain rfl := Option.some.inj e
    exact Rn.ret hT rfl rfl (if_pos (ti_b ps0 c_2339)) (hq ms0 ps0)
  · rw [if_neg c_2339] at e
    cases e
def FX12_isDoorToDoor_b40 (N : Nat) (s : iv_M)   : Option (Int) := (FX12_isDoorToDoor_b41 N s 0)
set_option maxRecDepth 10000 in
set_option maxHeartbeats 4000000 in
theorem RX12_isDoorToDoor_b40 {d N nc Ls : Nat} {Xs : Nat → Int32} (hd : 4 ≤ d) {h : iv_H} {s : iv_M} (hR : Rep nc Ls Xs h s)   {r : Int} {Q : Option Value → iv_H → Prop} (hq : ∀ (z : Int32), z.toInt = r → Q (some (.int z)) h) (e : FX12_isDoorToDoor_b40 N s   = some r) : Rn d 204 (some .boolean) 40 [none, none, none, none] [] h Q := by
  have hT := hX12_isDoorToDoor
  unfold FX12_isDoorToDoor_b40 at e
  refine Rn.n hT 1 (pc' := 41) (L' := [none, none, none, none]) (st' := [.int (0 : Int32)]) rfl ?_
  exact Rn.weak (ll_n (ll_n (ll_n (ll_n ll_e)))) (RX12_isDoorToDoor_b41 hd hR L32_0 hq e)
def FX12_isDoorToDoor (N : Nat) (s : iv_M) (q0 : Nat) (x1 : Int) (x2 : Int) : Option (Int) := ((FX12_faced N s q0 x1 x2).bind fun v_2333 => (if v_2333 = (-1) then (FX12_isDoorToDoor_b40 N s) else ((FX12_sortAt N s q0 x1 x2).bind fun v_2335 => (if v_2335 = 1 then ((FX12_sortAt N s q0 v_2333 (bAn (w32 (x2 + 2)) 3)).bind fun v_2337 => (if v_2337 = 1 then (FX12_isDoorToDoor_b41 N s 1) else (FX12_isDoorToDoor_b40 N s))) else (FX12_isDoorToDoor_b40 N s)))))
set_option maxRecDepth 10000 in
set_option maxHeartbeats 4000000 in
theorem RX12_isDoorToDoor {d N nc Ls : Nat} {Xs : Nat → Int32} (hd : 5 ≤ d) {h : iv_H} {s : iv_M} (hR : Rep nc Ls Xs h s) {q0 : Nat} (t0 : T12 nc q0) {m1 : Int32} {x1 : Int} (p1 : m1.toInt = x1) {m2 : Int32} {x2 : Int} (p2 : m2.toInt = x2) {r : Int} {Q : Option Value → iv_H → Prop} (e : FX12_isDoorToDoor N s q0 x1 x2 = some r) (hq : ∀ (z : Int32), z.toInt = r → Q (some (.int z)) h) : Cl d 204 [.ref q0, .int m1, .int m2] h Q := by
  obtain ⟨d, rfl⟩ : ∃ k, d = k + 1 := ⟨d - 1, by omega⟩
  have hd : 4 ≤ d := by omega
  have hT := hX12_isDoorToDoor
  unfold FX12_isDoorToDoor at e
  refine Cl.into (by decide) gX12_isDoorToDoor rfl ?_
  show Rn d 204 (some .boolean) 0 [some (.ref q0), some (.int m1), some (.int m2), none] [] h Q
  refine Rn.n hT 3 (pc' := 3) (L' := [some (.ref q0), some (.int m1), some (.int m2), none]) (st' := [.int m2, .int m1, .ref q0]) rfl ?_
  obtain ⟨v_2333, e_2333, e⟩ := Option.bind_eq_some_iff.mp e
  refine Rn.call hT rfl rfl rfl (Nat.le_of_ble_eq_true rfl) (rcv_v gX12_faced (by omega) (rp_ck hR (T12_o t0))) (RX12_faced (by omega) hR t0 p1 p2 e_2333 (fun z_2333 p_2333 => ?_))
  show Rn d _ _ 6 [some (.ref q0), some (.int m1), some (.int m2), none] [.int z_2333] h Q
  refine Rn.n hT 3 (pc' := 9) (L' := [some (.ref q0), some (.int m1), some (.int m2), some (.int z_2333)]) (st' := [.int (-1 : Int32), .int z_2333]) rfl ?_
  by_cases c_2334 : v_2333 = (-1)
  · rw [if_pos c_2334] at e
    refine Rn.bt hT rfl rfl rfl (decide_eq_true ((ti_e p_2333 L32_m1).mpr c_2334)) ?_
    exact Rn.weak (ll_n (ll_n (ll_n (ll_n ll_e)))) (RX12_isDoorToDoor_b40 hd hR hq e)
  · rw [if_neg c_2334] at e
    refine Rn.bf hT rfl rfl rfl (decide_eq_false (fun z => c_2334 ((ti_e p_2333 L32_m1).mp z))) ?_
    refine Rn.n hT 3 (pc' := 15) (L' := [some (.ref q0), some (.int m1), some (.int m2), some (.int z_2333)]) (st' := [.int m2, .int m1, .ref q0]) rfl ?_
    obtain ⟨v_2335, e_2335, e⟩ := Option.bind_eq_some_iff.mp e
    refine Rn.call hT rfl rfl rfl (Nat.le_of_ble_eq_true rfl) (rcv_v gX12_sortAt (by omega) (rp_ck hR (T12_o t0))) (RX12_sortAt (by omega) hR t0 p1 p2 e_2335 (fun z_2335 p_2335 => ?_))
    show Rn d _ _ 18 [some (.ref q0), some (.int m1), some (.int m2), some (.int z_2333)] [.int z_2335] h Q
    refine Rn.n hT 1 (pc' := 19) (L' := [some (.ref q0), some (.int m1), some (.int m2), some (.int z_2333)]) (st' := [.int (1 : Int32), .int z_2335]) rfl ?_
    by_cases c_2336 : v_2335 = 1
    · rw [if_pos c_2336] at e
      refine Rn.bf hT rfl rfl rfl (decide_eq_false (fun z => z ((ti_e p_2335 L32_1).mpr c_2336))) ?_
      refine Rn.n hT 7 (pc' := 29) (L' := [some (.ref q0), some (.int m1), some (.int m2), some (.int z_2333)]) (st' := [.int ((m2 + (2 : Int32)) &&& (3 : Int32)), .int z_2333, .ref q0]) rfl ?_
      obtain ⟨v_2337, e_2337, e⟩ := Option.bind_eq_some_iff.mp e
      refine Rn.call hT rfl rfl rfl (Nat.le_of_ble_eq_true rfl) (rcv_v gX12_sortAt (by omega) (rp_ck hR (T12_o t0))) (RX12_sortAt (by omega) hR t0 p_2333 (ti_and (ti_add p2 L32_2) L32_3) e_2337 (fun z_2337 p_2337 => ?_))
      show Rn d _ _ 32 [some (.ref q0), some (.int m1), some (.int m2), some (.int z_2333)] [.int z_2337] h Q
      refine Rn.n hT 1 (pc' := 33) (L' := [some (.ref q0), some (.int m1), some (.int m2), some (.int z_2333)]) (st' := [.int (1 : Int32), .int z_2337]) rfl ?_
      by_cases c_2338 : v_2337 = 1
      · rw [if_pos c_2338] at e
        refine Rn.bf hT rfl rfl rfl (decide_eq_false (fun z => z ((ti_e p_2337 L32_1).mpr c_2338))) ?_
        refine Rn.n hT 2 (pc' := 41) (L' := [some (.ref q0), some (.int m1), some (.int m2), some (.int z_2333)]) (st' := [.int (1 : Int32)]) rfl ?_
        exact Rn.weak (ll_n (ll_n (ll_n (ll_n ll_e)))) (RX12_isDoorToDoor_b41 hd hR L32_1 hq e)
      · rw [if_neg c_2338] at e
        refine Rn.bt hT rfl rfl rfl (decide_eq_true (fun z => c_2338 ((ti_e p_2337 L32_1).mp z))) ?_
        exact Rn.weak (ll_n (ll_n (ll_n (ll_n ll_e)))) (RX12_isDoorToDoor_b40 hd hR hq e)
    · rw [if_neg c_2336] at e
      refine Rn.bt hT rfl rfl rfl (decide_eq_true (fun z => c_2336 ((ti_e p_2335 L32_1).mp z))) ?_
      exact Rn.weak (ll_n (ll_n (ll_n (ll_n ll_e)))) (RX12_isDoorToDoor_b40 hd hR hq e)
set_option maxRecDepth 10000 in
theorem hX12_isMismatch : iv_Tb 205 tX12_isMismatch := iv_tb_of (m := mX12_isMismatch) rfl
set_option maxRecDepth 10000 in
theorem gX12_isMismatch : PG.2 205 = some mX12_isMismatch := iv_pi_of (t := tX12_isMismatch) rfl (by decide)
def FX12_isMismatch_b27 (N : Nat) (s : iv_M)  (xs0 : Int) : Option (Int) := (if xs0 = 0 ∨ xs0 = 1 then some xs0 else none)
set_option maxRecDepth 10000 in
set_option maxHeartbeats 4000000 in
theorem RX12_isMismatch_b27 {d N nc Ls : Nat} {Xs : Nat → Int32} (hd : 4 ≤ d) {h : iv_H} {s : iv_M} (hR : Rep nc Ls Xs h s)  {ms0 : Int32} {xs0 : Int} (ps0 : ms0.toInt = xs0) {r : Int} {Q : Option Value → iv_H → Prop} (hq : ∀ (z : Int32), z.toInt = r → Q (some (.int z)) h) (e : FX12_isMismatch_b27 N s  xs0 = some r) : Rn d 205 (some .boolean) 27 [none, none, none, none] [.int ms0] h Q := by
  have hT := hX12_isMismatch
  unfold FX12_isMismatch_b27 at e
  by_cases c_2346 : xs0 = 0 ∨ xs0 = 1
  · rw [if_pos c_2346] at e
    obtain rfl := Option.some.inj e
    exact Rn.ret hT rfl rfl (if_pos (ti_b ps0 c_2346)) (hq ms0 ps0)
  · rw [if_neg c_2346] at e
    cases e
def FX12_isMismatch_b62 (N : Nat) (s : iv_M)  (xs0 : Int) : Option (Int) := (if xs0 = 0 ∨ xs0 = 1 then some xs0 else none)
set_option maxRecDepth 10000 in
set_option maxHeartbeats 4000000 in
theorem RX12_isMismatch_b62 {d N nc Ls : Nat} {Xs : Nat → Int32} (hd : 4 ≤ d) {h : iv_H} {s : iv_M} (hR : Rep nc Ls Xs h s)  {ms0 : Int32} {xs0 : Int} (ps0 : ms0.toInt = xs0) {r : Int} {Q : Option Value → iv_H → Prop} (hq : ∀ (z : Int32), z.toInt = r → Q (some (.int z)) h) (e : FX12_isMismatch_b62 N s  xs0 = some r) : Rn d 205 (some .boolean) 62 [none, none, none, none] [.int ms0] h Q := by
  have hT := hX12_isMismatch
  unfold FX12_isMismatch_b62 at e
  by_cases c_2350 : xs0 = 0 ∨ xs0 = 1
  · rw [if_pos c_2350] at e
    obtain rfl := Option.some.inj e
    exact Rn.ret hT rfl rfl (if_pos (ti_b ps0 c_2350)) (hq ms0 ps0)
  · rw [if_neg c_2350] at e
    cases e
def FX12_isMismatch_b61 (N : Nat) (s : iv_M)   : Option (Int) := (FX12_isMismatch_b62 N s 0)
set_option maxRecDepth 10000 in
set_option maxHeartbeats 4000000 in
theorem RX12_isMismatch_b61 {d N nc Ls : Nat} {Xs : Nat → Int32} (hd : 4 ≤ d) {h : iv_H} {s : iv_M} (hR : Rep nc Ls Xs h s)   {r : Int} {Q : Option Value → iv_H → Prop} (hq : ∀ (z : Int32), z.toInt = r → Q (some (.int z)) h) (e : FX12_isMismatch_b61 N s   = some r) : Rn d 205 (some .boolean) 61 [none, none, none, none] [] h Q := by
  have hT := hX12_isMismatch
  unfold FX12_isMismatch_b61 at e
  refine Rn.n hT 1 (pc' := 62) (L' := [none, none, none, none]) (st' := [.int (0 : Int32)]) rfl ?_
  exact Rn.weak (ll_n (ll_n (ll_n (ll_n ll_e)))) (RX12_isMismatch_b62 hd hR L32_0 hq e)
def FX12_isMismatch_b38 (N : Nat) (s : iv_M) (q0 : Nat) (x1 : Int) (x2 : Int) (x3 : Int)  : Option (Int) := ((FX12_sortAt N s q0 x1 x2).bind fun v_2347 => ((FX12_sortAt N s q0 x3 (bAn (w32 (x2 + 2)) 3)).bind fun v_2348 => (if v_2347 = v_2348 then (FX12_isMismatch_b61 N s) else (FX12_isMismatch_b62 N s 1))))
set_option maxRecDepth 10000 in
set_option maxHeartbeats 4000000 in
theorem RX12_isMismatch_b38 {d N nc Ls : Nat} {Xs : Nat → Int32} (hd : 4 ≤ d) {h : iv_H} {s : iv_M} (hR : Rep nc Ls Xs h s) {q0 : Nat} (t0 : T12 nc q0) {m1 : Int32} {x1 : Int} (p1 : m1.toInt = x1) {m2 : Int32} {x2 : Int} (p2 : m2.toInt = x2) {m3 : Int32} {x3 : Int} (p3 : m3.toInt = x3)  {r : Int} {Q : Option Value → iv_H → Prop} (hq : ∀ (z : Int32), z.toInt = r → Q (some (.int z)) h) (e : FX12_isMismatch_b38 N s q0 x1 x2 x3  = some r) : Rn d 205 (some .boolean) 38 [some (.ref q0), some (.int m1), some (.int m2), some (.int m3)] [] h Q := by
  have hT := hX12_isMismatch
  unfold FX12_isMismatch_b38 at e
  refine Rn.n hT 3 (pc' := 41) (L' := [some (.ref q0), some (.int m1), some (.int m2), some (.int m3)]) (st' := [.int m2, .int m1, .ref q0]) rfl ?_
  obtain ⟨v_2347, e_2347, e⟩ := Option.bind_eq_some_iff.mp e
  refine Rn.call hT rfl rfl rfl (Nat.le_of_ble_eq_true rfl) (rcv_v gX12_sortAt (by omega) (rp_ck hR (T12_o t0))) (RX12_sortAt (by omega) hR t0 p1 p2 e_2347 (fun z_2347 p_2347 => ?_))
  show Rn d _ _ 44 [some (.ref q0), some (.int m1), some (.int m2), some (.int m3)] [.int z_2347] h Q
  refine Rn.n hT 7 (pc' := 51) (L' := [some (.ref q0), some (.int m1), some (.int m2), some (.int m3)]) (st' := [.int ((m2 + (2 : Int32)) &&& (3 : Int32)), .int m3, .ref q0, .int z_2347]) rfl ?_
  obtain ⟨v_2348, e_2348, e⟩ := Option.bind_eq_some_iff.mp e
  refine Rn.call hT rfl rfl rfl (Nat.le_of_ble_eq_true rfl) (rcv_v gX12_sortAt (by omega) (rp_ck hR (T12_o t0))) (RX12_sortAt (by omega) hR t0 p3 (ti_and (ti_add p2 L32_2) L32_3) e_2348 (fun z_2348 p_2348 => ?_))
  show Rn d _ _ 54 [some (.ref q0), some (.int m1), some (.int m2), some (.int m3)] [.int z_2348, .int z_2347] h Q
  by_cases c_2349 : v_2347 = v_2348
  · rw [if_pos c_2349] at e
    refine Rn.bt hT rfl rfl rfl (decide_eq_true ((ti_e p_2347 p_2348).mpr c_2349)) ?_
    exact Rn.weak (ll_n (ll_n (ll_n (ll_n ll_e)))) (RX12_isMismatch_b61 hd hR hq e)
  · rw [if_neg c_2349] at e
    refine Rn.bf hT rfl rfl rfl (decide_eq_false (fun z => c_2349 ((ti_e p_2347 p_2348).mp z))) ?_
    refine Rn.n hT 2 (pc' := 62) (L' := [some (.ref q0), some (.int m1), some (.int m2), some (.int m3)]) (st' := [.int (1 : Int32)]) rfl ?_
    exact Rn.weak (ll_n (ll_n (ll_n (ll_n ll_e)))) (RX12_isMismatch_b62 hd hR L32_1 hq e)
def FX12_isMismatch (N : Nat) (s : iv_M) (q0 : Nat) (x1 : Int) (x2 : Int) : Option (Int) := ((FX12_faced N s q0 x1 x2).bind fun v_2340 => (if v_2340 = (-1) then ((FX12_sortAt N s q0 x1 x2).bind fun v_2344 => (if v_2344 = 1 then (FX12_isMismatch_b27 N s 1) else (FX12_isMismatch_b27 N s 0))) else (if x2 = 1 then (FX12_isMismatch_b38 N s q0 x1 x2 v_2340) else (if x2 = 2 then (FX12_isMismatch_b38 N s q0 x1 x2 v_2340) else (FX12_isMismatch_b61 N s)))))
set_option maxRecDepth 10000 in
set_option maxHeartbeats 4000000 in
theorem RX12_isMismatch {d N nc Ls : Nat} {Xs : Nat → Int32} (hd : 5 ≤ d) {h : iv_H} {s : iv_M} (hR : Rep nc Ls Xs h s) {q0 : Nat} (t0 : T12 nc q0) {m1 : Int32} {x1 : Int} (p1 : m1.toInt = x1) {m2 : Int32} {x2 : Int} (p2 : m2.toInt = x2) {r : Int} {Q : Option Value → iv_H → Prop} (e : FX12_isMismatch N s q0 x1 x2 = some r) (hq : ∀ (z : Int32), z.toInt = r → Q (some (.int z)) h) : Cl d 205 [.ref q0, .int m1, .int m2] h Q := by
  obtain ⟨d, rfl⟩ : ∃ k, d = k + 1 := ⟨d - 1, by omega⟩
  have hd : 4 ≤ d := by omega
  have hT := hX12_isMismatch
  unfold FX12_isMismatch at e
  refine Cl.into (by decide) gX12_isMismatch rfl ?_
  show Rn d 205 (some .boolean) 0 [some (.ref q0), some (.int m1), some (.int m2), none] [] h Q
  refine Rn.n hT 3 (pc' := 3) (L' := [some (.ref q0), some (.int m1), some (.int m2), none]) (st' := [.int m2, .int m1, .ref q0]) rfl ?_
  obtain ⟨v_2340, e_2340, e⟩ := Option.bind_eq_some_iff.mp e
  refine Rn.call hT rfl rfl rfl (Nat.le_of_ble_eq_true rfl) (rcv_v gX12_faced (by omega) (rp_ck hR (T12_o t0))) (RX12_faced (by omega) hR t0 p1 p2 e_2340 (fun z_2340 p_2340 => ?_))
  show Rn d _ _ 6 [some (.ref q0), some (.int m1), some (.int m2), none] [.int z_2340] h Q
  refine Rn.n hT 3 (pc' := 9) (L' := [some (.ref q0), some (.int m1), some (.int m2), some (.int z_2340)]) (st' := [.int (-1 : Int32), .int z_2340]) rfl ?_
  by_cases c_2341 : v_2340 = (-1)
  · rw [if_pos c_2341] at e
    refine Rn.bf hT rfl rfl rfl (decide_eq_false (fun z => z ((ti_e p_2340 L32_m1).mpr c_2341))) ?_
    refine Rn.n hT 3 (pc' := 15) (L' := [some (.ref q0), some (.int m1), some (.int m2), some (.int z_2340)]) (st' := [.int m2, .int m1, .ref q0]) rfl ?_
    obtain ⟨v_2344, e_2344, e⟩ := Option.bind_eq_some_iff.mp e
    refine Rn.call hT rfl rfl rfl (Nat.le_of_ble_eq_true rfl) (rcv_v gX12_sortAt (by omega) (rp_ck hR (T12_o t0))) (RX12_sortAt (by omega) hR t0 p1 p2 e_2344 (fun z_2344 p_2344 => ?_))
    show Rn d _ _ 18 [some (.ref q0), some (.int m1), some (.int m2), some (.int z_2340)] [.int z_2344] h Q
    refine Rn.n hT 1 (pc' := 19) (L' := [some (.ref q0), some (.int m1), some (.int m2), some (.int z_2340)]) (st' := [.int (1 : Int32), .int z_2344]) rfl ?_
    by_cases c_2345 : v_2344 = 1
    · rw [if_pos c_2345] at e
      refine Rn.bf hT rfl rfl rfl (decide_eq_false (fun z => z ((ti_e p_2344 L32_1).mpr c_2345))) ?_
      refine Rn.n hT 2 (pc' := 27) (L' := [some (.ref q0), some (.int m1), some (.int m2), some (.int z_2340)]) (st' := [.int (1 : Int32)]) rfl ?_
      exact Rn.weak (ll_n (ll_n (ll_n (ll_n ll_e)))) (RX12_isMismatch_b27 hd hR L32_1 hq e)
    · rw [if_neg c_2345] at e
      refine Rn.bt hT rfl rfl rfl (decide_eq_true (fun z => c_2345 ((ti_e p_2344 L32_1).mp z))) ?_
      refine Rn.n hT 1 (pc' := 27) (L' := [some (.ref q0), some (.int m1), some (.int m2), some (.int z_2340)]) (st' := [.int (0 : Int32)]) rfl ?_
      exact Rn.weak (ll_n (ll_n (ll_n (ll_n ll_e)))) (RX12_isMismatch_b27 hd hR L32_0 hq e)
  · rw [if_neg c_2341] at e
    refine Rn.bt hT rfl rfl rfl (decide_eq_true (fun z => c_2341 ((ti_e p_2340 L32_m1).mp z))) ?_
    refine Rn.n hT 2 (pc' := 30) (L' := [some (.ref q0), some (.int m1), some (.int m2), some (.int z_2340)]) (st' := [.int (1 : Int32), .int m2]) rfl ?_
    by_cases c_2342 : x2 = 1
    · rw [if_pos c_2342] at e
      refine Rn.bt hT rfl rfl rfl (decide_eq_true ((ti_e p2 L32_1).mpr c_2342)) ?_
      exact Rn.weak (ll_s (ll_s (ll_s (ll_s ll_e)))) (RX12_isMismatch_b38 hd hR t0 p1 p2 p_2340 hq e)
    · rw [if_neg c_2342] at e
      refine Rn.bf hT rfl rfl rfl (decide_eq_false (fun z => c_2342 ((ti_e p2 L32_1).mp z))) ?_
      refine Rn.n hT 2 (pc' := 35) (L' := [some (.ref q0), some (.int m1), some (.int m2), some (.int z_2340)]) (st' := [.int (2 : Int32), .int m2]) rfl ?_
      by_cases c_2343 : x2 = 2
      · rw [if_pos c_2343] at e
        refine Rn.bf hT rfl rfl rfl (decide_eq_false (fun z => z ((ti_e p2 L32_2).mpr c_2343))) ?_
        exact Rn.weak (ll_s (ll_s (ll_s (ll_s ll_e)))) (RX12_isMismatch_b38 hd hR t0 p1 p2 p_2340 hq e)
      · rw [if_neg c_2343] at e
        refine Rn.bt hT rfl rfl rfl (decide_eq_true (fun z => c_2343 ((ti_e p2 L32_2).mp z))) ?_
        exact Rn.weak (ll_n (ll_n (ll_n (ll_n ll_e)))) (RX12_isMismatch_b61 hd hR hq e)
set_option maxRecDepth 10000 in
theorem hX12_mismatches : iv_Tb 206 tX12_mismatches := iv_tb_of (m := mX12_mismatches) rfl
set_option maxRecDepth 10000 in
theorem gX12_mismatches : PG.2 206 = some mX12_mismatches := iv_pi_of (t := tX12_mismatches) rfl (by decide)
def FX12_mismatches_b76 (N : Nat) (s : iv_M) (q0 : Nat) (x1 : Int) (x2 : Int) (x3 : Int)  (kb : iv_M → Int → Int → Option (Int × iv_M)) (kx : iv_M → Int → Option (Int × iv_M)) : Option (Int × iv_M) := (kb s x1 (w32 (x3 + 1)))
set_option maxRecDepth 10000 in
set_option maxHeartbeats 4000000 in
theorem RX12_mismatches_b76 {d N nc Ls : Nat} {Xs : Nat → Int32} (hd : 5 ≤ d) {h : iv_H} {s : iv_M} (hR : Rep nc Ls Xs h s) {q0 : Nat} (t0 : T12 nc q0) {m1 : Int32} {x1 : Int} (p1 : m1.toInt = x1) {m2 : Int32} {x2 : Int} (p2 : m2.toInt = x2) {m3 : Int32} {x3 : Int} (p3 : m3.toInt = x3)  {kb : iv_M → Int → Int → Option (Int × iv_M)} {kx : iv_M → Int → Option (Int × iv_M)} {r : Int × iv_M} {Q : Option Value → iv_H → Prop} (hb : ∀ (h : iv_H) (s : iv_M) (hR : Rep nc Ls Xs h s) (mw1 : Int32) (xw1 : Int) (pw1 : mw1.toInt = xw1) (mw3 : Int32) (xw3 : Int) (pw3 : mw3.toInt = xw3), kb s xw1 xw3 = some r → Rn d 206 (some .int) 12 [some (.ref q0), some (.int mw1), some (.int m2), some (.int mw3)] [] h Q) (hk : ∀ (h : iv_H) (s : iv_M) (hR : Rep nc Ls Xs h s) (mw1 : Int32) (xw1 : Int) (pw1 : mw1.toInt = xw1), kx s xw1 = some r → Rn d 206 (some .int) 82 [some (.ref q0), some (.int mw1), some (.int m2), none] [] h Q) (hq : ∀ (z : Int32) (h1 : iv_H), z.toInt = r.1 → Rep nc Ls Xs h1 r.2 → Q (some (.int z)) h1) (e : FX12_mismatches_b76 N s q0 x1 x2 x3  kb kx = some r) : Rn d 206 (some .int) 76 [some (.ref q0), some (.int m1), some (.int m2), some (.int m3)] [] h Q := by
  have hT := hX12_mismatches
  unfold FX12_mismatches_b76 at e
  refine Rn.n hT 2 (pc' := 12) (L' := [some (.ref q0), some (.int m1), some (.int m2), some (.int (m3 + (1 : Int32)))]) (st' := []) rfl ?_
  exact Rn.weak (ll_s (ll_s (ll_s (ll_s ll_e)))) (hb h s hR m1 x1 p1 (m3 + (1 : Int32)) (w32 (x3 + 1)) (ti_add p3 L32_1) e)
def FX12_mismatches_b70 (N : Nat) (s : iv_M) (q0 : Nat) (x1 : Int) (x2 : Int) (x3 : Int) (xs0 : Int) (qs1 : Nat) (kb : iv_M → Int → Int → Option (Int × iv_M)) (kx : iv_M → Int → Option (Int × iv_M)) : Option (Int × iv_M) := ((pt s qs1 27 xs0).bind fun s_2368 => (FX12_mismatches_b76 N s_2368 q0 (w32 (x1 + 1)) x2 x3 kb kx))
set_option maxRecDepth 10000 in
set_option maxHeartbeats 4000000 in
theorem RX12_mismatches_b70 {d N nc Ls : Nat} {Xs : Nat → Int32} (hd : 5 ≤ d) {h : iv_H} {s : iv_M} (hR : Rep nc Ls Xs h s) {q0 : Nat} (t0 : T12 nc q0) {m1 : Int32} {x1 : Int} (p1 : m1.toInt = x1) {m2 : Int32} {x2 : Int} (p2 : m2.toInt = x2) {m3 : Int32} {x3 : Int} (p3 : m3.toInt = x3) {ms0 : Int32} {xs0 : Int} (ps0 : ms0.toInt = xs0) {qs1 : Nat} (ts1 : T12 nc qs1) {kb : iv_M → Int → Int → Option (Int × iv_M)} {kx : iv_M → Int → Option (Int × iv_M)} {r : Int × iv_M} {Q : Option Value → iv_H → Prop} (hb : ∀ (h : iv_H) (s : iv_M) (hR : Rep nc Ls Xs h s) (mw1 : Int32) (xw1 : Int) (pw1 : mw1.toInt = xw1) (mw3 : Int32) (xw3 : Int) (pw3 : mw3.toInt = xw3), kb s xw1 xw3 = some r → Rn d 206 (some .int) 12 [some (.ref q0), some (.int mw1), some (.int m2), some (.int mw3)] [] h Q) (hk : ∀ (h : iv_H) (s : iv_M) (hR : Rep nc Ls Xs h s) (mw1 : Int32) (xw1 : Int) (pw1 : mw1.toInt = xw1), kx s xw1 = some r → Rn d 206 (some .int) 82 [some (.ref q0), some (.int mw1), some (.int m2), none] [] h Q) (hq : ∀ (z : Int32) (h1 : iv_H), z.toInt = r.1 → Rep nc Ls Xs h1 r.2 → Q (some (.int z)) h1) (e : FX12_mismatches_b70 N s q0 x1 x2 x3 xs0 qs1 kb kx = some r) : Rn d 206 (some .int) 70 [some (.ref q0), some (.int m1), some (.int m2), some (.int m3)] [.int ms0, .ref qs1] h Q := by
  have hT := hX12_mismatches
  unfold FX12_mismatches_b70 at e
  obtain ⟨s_2368, e_2369, e⟩ := Option.bind_eq_some_iff.mp e
  obtain ⟨h_2368, g_2369, R_2368⟩ := rp_pI (ci := 12) (k := 27) hR (T12_o ts1) rfl rfl ps0 e_2369
  refine Rn.hp hT rfl rfl (pV_hp rfl g_2369) ?_
  refine Rn.n hT 1 (pc' := 76) (L' := [some (.ref q0), some (.int (m1 + (1 : Int32))), some (.int m2), some (.int m3)]) (st' := []) rfl ?_
  exact Rn.weak (ll_s (ll_s (ll_s (ll_s ll_e)))) (RX12_mismatches_b76 hd R_2368 t0 (ti_add p1 L32_1) p2 p3 hb hk hq e)
def FX12_mismatches_b54 (N : Nat) (s : iv_M) (q0 : Nat) (x1 : Int) (x2 : Int) (x3 : Int) (xs0 : Int) (qs1 : Nat) (kb : iv_M → Int → Int → Option (Int × iv_M)) (kx : iv_M → Int → Option (Int × iv_M)) : Option (Int × iv_M) := ((pt s qs1 26 xs0).bind fun s_2364 => (if x1 = 0 then (FX12_mismatches_b70 N s_2364 q0 x1 x2 x3 x3 q0 kb kx) else (FX12_mismatches_b70 N s_2364 q0 x1 x2 x3 (s_2364 q0 27) q0 kb kx)))
set_option maxRecDepth 10000 in
set_option maxHeartbeats 4000000 in
theorem RX12_mismatches_b54 {d N nc Ls : Nat} {Xs : Nat → Int32} (hd : 5 ≤ d) {h : iv_H} {s : iv_M} (hR : Rep nc Ls Xs h s) {q0 : Nat} (t0 : T12 nc q0) {m1 : Int32} {x1 : Int} (p1 : m1.toInt = x1) {m2 : Int32} {x2 : Int} (p2 : m2.toInt = x2) {m3 : Int32} {x3 : Int} (p3 : m3.toInt = x3) {ms0 : Int32} {xs0 : Int} (ps0 : ms0.toInt = xs0) {qs1 : Nat} (ts1 : T12 nc qs1) {kb : iv_M → Int → Int → Option (Int × iv_M)} {kx : iv_M → Int → Option (Int × iv_M)} {r : Int × iv_M} {Q : Option Value → iv_H → Prop} (hb : ∀ (h : iv_H) (s : iv_M) (hR : Rep nc Ls Xs h s) (mw1 : Int32) (xw1 : Int) (pw1 : mw1.toInt = xw1) (mw3 : Int32) (xw3 : Int) (pw3 : mw3.toInt = xw3), kb s xw1 xw3 = some r → Rn d 206 (some .int) 12 [some (.ref q0), some (.int mw1), some (.int m2), some (.int mw3)] [] h Q) (hk : ∀ (h : iv_H) (s : iv_M) (hR : Rep nc Ls Xs h s) (mw1 : Int32) (xw1 : Int) (pw1 : mw1.toInt = xw1), kx s xw1 = some r → Rn d 206 (some .int) 82 [some (.ref q0), some (.int mw1), some (.int m2), none] [] h Q) (hq : ∀ (z : Int32) (h1 : iv_H), z.toInt = r.1 → Rep nc Ls Xs h1 r.2 → Q (some (.int z)) h1) (e : FX12_mismatches_b54 N s q0 x1 x2 x3 xs0 qs1 kb kx = some r) : Rn d 206 (some .int) 54 [some (.ref q0), some (.int m1), some (.int m2), some (.int m3)] [.int ms0, .ref qs1] h Q := by
  have hT := hX12_mismatches
  unfold FX12_mismatches_b54 at e
  obtain ⟨s_2364, e_2365, e⟩ := Option.bind_eq_some_iff.mp e
  obtain ⟨h_2364, g_2365, R_2364⟩ := rp_pI (ci := 12) (k := 26) hR (T12_o ts1) rfl rfl ps0 e_2365
  refine Rn.hp hT rfl rfl (pV_hp rfl g_2365) ?_
  refine Rn.n hT 2 (pc' := 59) (L' := [some (.ref q0), some (.int m1), some (.int m2), some (.int m3)]) (st' := [.int m1, .ref q0]) rfl ?_
  by_cases c_2366 : x1 = 0
  · rw [if_pos c_2366] at e
    refine Rn.bf hT rfl rfl rfl (decide_eq_false (fun z => z ((ti_e p1 L32_0).mpr c_2366))) ?_
    refine Rn.n hT 2 (pc' := 70) (L' := [some (.ref q0), some (.int m1), some (.int m2), some (.int m3)]) (st' := [.int m3, .ref q0]) rfl ?_
    exact Rn.weak (ll_s (ll_s (ll_s (ll_s ll_e)))) (RX12_mismatches_b70 hd R_2364 t0 p1 p2 p3 p3 t0 hb hk hq e)
  · rw [if_neg c_2366] at e
    refine Rn.bt hT rfl rfl rfl (decide_eq_true (fun z => c_2366 ((ti_e p1 L32_0).mp z))) ?_
    refine Rn.n hT 1 (pc' := 67) (L' := [some (.ref q0), some (.int m1), some (.int m2), some (.int m3)]) (st' := [.ref q0, .ref q0]) rfl ?_
    obtain ⟨z_2367, g_2367, p_2367⟩ : ∃ z : Int32, gI h_2364 12 27 q0 = some z ∧ z.toInt = s_2364 q0 27 := rp_gI (k := 27) R_2364 (T12_o t0) rfl
    refine Rn.hp hT rfl rfl (gI_hp g_2367) ?_
    exact Rn.weak (ll_s (ll_s (ll_s (ll_s ll_e)))) (RX12_mismatches_b70 hd R_2364 t0 p1 p2 p3 p_2367 t0 hb hk hq e)
def FX12_mismatches_l12 (N : Nat) (q0 : Nat) (x2 : Int) (kx : iv_M → Int → Option (Int × iv_M)) : Nat → iv_M → Int → Int → Option (Int × iv_M)
  | 0, _, _, _ => none
  | n + 1, s, x1, x3 => (if 4 ≤ x3 then (kx s x1) else ((rd s (q0 + 8) 16 x2).bind fun v_2357 => (if v_2357 = (-1) then (kx s x1) else ((rd s (q0 + 8) 16 x2).bind fun v_2359 => ((FX12_isMismatch N s q0 v_2359 x3).bind fun v_2360 => (if v_2360 = 0 then (FX12_mismatches_b76 N s q0 x1 x2 x3 (FX12_mismatches_l12 N q0 x2 kx n) kx) else (if x1 = 0 then (FX12_mismatches_b54 N s q0 x1 x2 x3 x2 q0 (FX12_mismatches_l12 N q0 x2 kx n) kx) else (FX12_mismatches_b54 N s q0 x1 x2 x3 (s q0 26) q0 (FX12_mismatches_l12 N q0 x2 kx n) kx))))))))
set_option maxRecDepth 10000 in
set_option maxHeartbeats 4000000 in
theorem RX12_mismatches_l12 {d N nc Ls : Nat} {Xs : Nat → Int32} (hd : 5 ≤ d) {q0 : Nat} (t0 : T12 nc q0) {m2 : Int32} {x2 : Int} (p2 : m2.toInt = x2) {kx : iv_M → Int → Option (Int × iv_M)} {r : Int × iv_M} {Q : Option Value → iv_H → Prop} (hk : ∀ (h : iv_H) (s : iv_M) (hR : Rep nc Ls Xs h s) (m1 : Int32) (x1 : Int) (p1 : m1.toInt = x1), kx s x1 = some r → Rn d 206 (some .int) 82 [some (.ref q0), some (.int m1), some (.int m2), none] [] h Q) (hq : ∀ (z : Int32) (h1 : iv_H), z.toInt = r.1 → Rep nc Ls Xs h1 r.2 → Q (some (.int z)) h1) : ∀ (n : Nat) (h : iv_H) (s : iv_M) (hR : Rep nc Ls Xs h s) (m1 : Int32) (x1 : Int) (p1 : m1.toInt = x1) (m3 : Int32) (x3 : Int) (p3 : m3.toInt = x3), FX12_mismatches_l12 N q0 x2 kx n s x1 x3 = some r → Rn d 206 (some .int) 12 [some (.ref q0), some (.int m1), some (.int m2), some (.int m3)] [] h Q := by
  have hT := hX12_mismatches
  intro n
  induction n with
  | zero =>
    intro h s hR m1 x1 p1 m3 x3 p3 e
    rw [FX12_mismatches_l12] at e
    cases e
  | succ n ih =>
    intro h s hR m1 x1 p1 m3 x3 p3 e
    rw [FX12_mismatches_l12] at e
    refine Rn.n hT 2 (pc' := 14) (L' := [some (.ref q0), some (.int m1), some (.int m2), some (.int m3)]) (st' := [.int (4 : Int32), .int m3]) rfl ?_
    by_cases c_2356 : 4 ≤ x3
    · rw [if_pos c_2356] at e
      refine Rn.bt hT rfl rfl rfl (decide_eq_true ((ti_le L32_4 p3).mpr c_2356)) ?_
      exact Rn.weak (ll_s (ll_s (ll_s (ll_n ll_e)))) (hk h s hR m1 x1 p1 e)
    · rw [if_neg c_2356] at e
      refine Rn.bf hT rfl rfl rfl (decide_eq_false (fun z => c_2356 ((ti_le L32_4 p3).mp z))) ?_
      refine Rn.n hT 1 (pc' := 18) (L' := [some (.ref q0), some (.int m1), some (.int m2), some (.int m3)]) (st' := [.ref q0]) rfl ?_
      refine Rn.hp hT rfl rfl (gR_hp (rp_gR hR (T12_o t0) rfl)) ?_
      refine Rn.n hT 1 (pc' := 22) (L' := [some (.ref q0), some (.int m1), some (.int m2), some (.int m3)]) (st' := [.int m2, .ref (q0 + 8)]) rfl ?_
      obtain ⟨v_2357, e_2357, e⟩ := Option.bind_eq_some_iff.mp e
      obtain ⟨z_2357, g_2357, p_2357⟩ := rp_aI hR (T12_8 t0) (T12_8l t0) p2 e_2357
      refine Rn.hp hT rfl rfl (aI_hp g_2357) ?_
      refine Rn.n hT 1 (pc' := 24) (L' := [some (.ref q0), some (.int m1), some (.int m2), some (.int m3)]) (st' := [.int (-1 : Int32), .int z_2357]) rfl ?_
      by_cases c_2358 : v_2357 = (-1)
      · rw [if_pos c_2358] at e
        refine Rn.bt hT rfl rfl rfl (decide_eq_true ((ti_e p_2357 L32_m1).mpr c_2358)) ?_
        exact Rn.weak (ll_s (ll_s (ll_s (ll_n ll_e)))) (hk h s hR m1 x1 p1 e)
      · rw [if_neg c_2358] at e
        refine Rn.bf hT rfl rfl rfl (decide_eq_false (fun z => c_2358 ((ti_e p_2357 L32_m1).mp z))) ?_
        refine Rn.n hT 2 (pc' := 29) (L' := [some (.ref q0), some (.int m1), some (.int m2), some (.int m3)]) (st' := [.ref q0, .ref q0]) rfl ?_
        refine Rn.hp hT rfl rfl (gR_hp (rp_gR hR (T12_o t0) rfl)) ?_
        refine Rn.n hT 1 (pc' := 33) (L' := [some (.ref q0), some (.int m1), some (.int m2), some (.int m3)]) (st' := [.int m2, .ref (q0 + 8), .ref q0]) rfl ?_
        obtain ⟨v_2359, e_2359, e⟩ := Option.bind_eq_some_iff.mp e
        obtain ⟨z_2359, g_2359, p_2359⟩ := rp_aI hR (T12_8 t0) (T12_8l t0) p2 e_2359
        refine Rn.hp hT rfl rfl (aI_hp g_2359) ?_
        refine Rn.n hT 1 (pc' := 35) (L' := [some (.ref q0), some (.int m1), some (.int m2), some (.int m3)]) (st' := [.int m3, .int z_2359, .ref q0]) rfl ?_
        obtain ⟨v_2360, e_2360, e⟩ := Option.bind_eq_some_iff.mp e
        refine Rn.call hT rfl rfl rfl (Nat.le_of_ble_eq_true rfl) (rcv_v gX12_isMismatch (by omega) (rp_ck hR (T12_o t0))) (RX12_isMismatch (by omega) hR t0 p_2359 p3 e_2360 (fun z_2360 p_2360 => ?_))
        show Rn d _ _ 38 [some (.ref q0), some (.int m1), some (.int m2), some (.int m3)] [.int z_2360] h Q
        by_cases c_2361 : v_2360 = 0
        · rw [if_pos c_2361] at e
          refine Rn.bt hT rfl rfl rfl (decide_eq_true ((ti_e p_2360 L32_0).mpr c_2361)) ?_
          exact Rn.weak (ll_s (ll_s (ll_s (ll_s ll_e)))) (RX12_mismatches_b76 hd hR t0 p1 p2 p3 ih hk hq e)
        · rw [if_neg c_2361] at e
          refine Rn.bf hT rfl rfl rfl (decide_eq_false (fun z => c_2361 ((ti_e p_2360 L32_0).mp z))) ?_
          refine Rn.n hT 2 (pc' := 43) (L' := [some (.ref q0), some (.int m1), some (.int m2), some (.int m3)]) (st' := [.int m1, .ref q0]) rfl ?_
          by_cases c_2362 : x1 = 0
          · rw [if_pos c_2362] at e
            refine Rn.bf hT rfl rfl rfl (decide_eq_false (fun z => z ((ti_e p1 L32_0).mpr c_2362))) ?_
            refine Rn.n hT 2 (pc' := 54) (L' := [some (.ref q0), some (.int m1), some (.int m2), some (.int m3)]) (st' := [.int m2, .ref q0]) rfl ?_
            exact Rn.weak (ll_s (ll_s (ll_s (ll_s ll_e)))) (RX12_mismatches_b54 hd hR t0 p1 p2 p3 p2 t0 ih hk hq e)
          · rw [if_neg c_2362] at e
            refine Rn.bt hT rfl rfl rfl (decide_eq_true (fun z => c_2362 ((ti_e p1 L32_0).mp z))) ?_
            refine Rn.n hT 1 (pc' := 51) (L' := [some (.ref q0), some (.int m1), some (.int m2), some (.int m3)]) (st' := [.ref q0, .ref q0]) rfl ?_
            obtain ⟨z_2363, g_2363, p_2363⟩ : ∃ z : Int32, gI h 12 26 q0 = some z ∧ z.toInt = s q0 26 := rp_gI (k := 26) hR (T12_o t0) rfl
            refine Rn.hp hT rfl rfl (gI_hp g_2363) ?_
            exact Rn.weak (ll_s (ll_s (ll_s (ll_s ll_e)))) (RX12_mismatches_b54 hd hR t0 p1 p2 p3 p_2363 t0 ih hk hq e)
def FX12_mismatches_b82 (N : Nat) (s : iv_M) (q0 : Nat) (x1 : Int) (x2 : Int)  (kb : iv_M → Int → Int → Option (Int × iv_M)) (kx : iv_M → Int → Option (Int × iv_M)) : Option (Int × iv_M) := (kb s x1 (w32 (x2 + 1)))
set_option maxRecDepth 10000 in
set_option maxHeartbeats 4000000 in
theorem RX12_mismatches_b82 {d N nc Ls : Nat} {Xs : Nat → Int32} (hd : 5 ≤ d) {h : iv_H} {s : iv_M} (hR : Rep nc Ls Xs h s) {q0 : Nat} (t0 : T12 nc q0) {m1 : Int32} {x1 : Int} (p1 : m1.toInt = x1) {m2 : Int32} {x2 : Int} (p2 : m2.toInt = x2)  {kb : iv_M → Int → Int → Option (Int × iv_M)} {kx : iv_M → Int → Option (Int × iv_M)} {r : Int × iv_M} {Q : Option Value → iv_H → Prop} (hb : ∀ (h : iv_H) (s : iv_M) (hR : Rep nc Ls Xs h s) (mw1 : Int32) (xw1 : Int) (pw1 : mw1.toInt = xw1) (mw2 : Int32) (xw2 : Int) (pw2 : mw2.toInt = xw2), kb s xw1 xw2 = some r → Rn d 206 (some .int) 4 [some (.ref q0), some (.int mw1), some (.int mw2), none] [] h Q) (hk : ∀ (h : iv_H) (s : iv_M) (hR : Rep nc Ls Xs h s) (mw1 : Int32) (xw1 : Int) (pw1 : mw1.toInt = xw1), kx s xw1 = some r → Rn d 206 (some .int) 88 [none, some (.int mw1), none, none] [] h Q) (hq : ∀ (z : Int32) (h1 : iv_H), z.toInt = r.1 → Rep nc Ls Xs h1 r.2 → Q (some (.int z)) h1) (e : FX12_mismatches_b82 N s q0 x1 x2  kb kx = some r) : Rn d 206 (some .int) 82 [some (.ref q0), some (.int m1), some (.int m2), none] [] h Q := by
  have hT := hX12_mismatches
  unfold FX12_mismatches_b82 at e
  refine Rn.n hT 2 (pc' := 4) (L' := [some (.ref q0), some (.int m1), some (.int (m2 + (1 : Int32))), none]) (st' := []) rfl ?_
  exact Rn.weak (ll_s (ll_s (ll_s (ll_n ll_e)))) (hb h s hR m1 x1 p1 (m2 + (1 : Int32)) (w32 (x2 + 1)) (ti_add p2 L32_1) e)
def FX12_mismatches_l4 (N : Nat) (q0 : Nat) (kx : iv_M → Int → Option (Int × iv_M)) : Nat → iv_M → Int → Int → Option (Int × iv_M)
  | 0, _, _, _ => none
  | n + 1, s, x1, x2 => (if 16 ≤ x2 then (kx s x1) else (FX12_mismatches_l12 N q0 x2 (fun (s_2354 : iv_M) (x2355_1 : Int) => (FX12_mismatches_b82 N s_2354 q0 x2355_1 x2 (FX12_mismatches_l4 N q0 kx n) kx)) N s x1 0))
set_option maxRecDepth 10000 in
set_option maxHeartbeats 4000000 in
theorem RX12_mismatches_l4 {d N nc Ls : Nat} {Xs : Nat → Int32} (hd : 5 ≤ d) {q0 : Nat} (t0 : T12 nc q0) {kx : iv_M → Int → Option (Int × iv_M)} {r : Int × iv_M} {Q : Option Value → iv_H → Prop} (hk : ∀ (h : iv_H) (s : iv_M) (hR : Rep nc Ls Xs h s) (m1 : Int32) (x1 : Int) (p1 : m1.toInt = x1), kx s x1 = some r → Rn d 206 (some .int) 88 [none, some (.int m1), none, none] [] h Q) (hq : ∀ (z : Int32) (h1 : iv_H), z.toInt = r.1 → Rep nc Ls Xs h1 r.2 → Q (some (.int z)) h1) : ∀ (n : Nat) (h : iv_H) (s : iv_M) (hR : Rep nc Ls Xs h s) (m1 : Int32) (x1 : Int) (p1 : m1.toInt = x1) (m2 : Int32) (x2 : Int) (p2 : m2.toInt = x2), FX12_mismatches_l4 N q0 kx n s x1 x2 = some r → Rn d 206 (some .int) 4 [some (.ref q0), some (.int m1), some (.int m2), none] [] h Q := by
  have hT := hX12_mismatches
  intro n
  induction n with
  | zero =>
    intro h s hR m1 x1 p1 m2 x2 p2 e
    rw [FX12_mismatches_l4] at e
    cases e
  | succ n ih =>
    intro h s hR m1 x1 p1 m2 x2 p2 e
    rw [FX12_mismatches_l4] at e
    refine Rn.n hT 2 (pc' := 7) (L' := [some (.ref q0), some (.int m1), some (.int m2), none]) (st' := [.int (16 : Int32), .int m2]) rfl ?_
    by_cases c_2353 : 16 ≤ x2
    · rw [if_pos c_2353] at e
      refine Rn.bt hT rfl rfl rfl (decide_eq_true ((ti_le L32_16 p2).mpr c_2353)) ?_
      exact Rn.weak (ll_n (ll_s (ll_n (ll_n ll_e)))) (hk h s hR m1 x1 p1 e)
    · rw [if_neg c_2353] at e
      refine Rn.bf hT rfl rfl rfl (decide_eq_false (fun z => c_2353 ((ti_le L32_16 p2).mp z))) ?_
      refine Rn.n hT 2 (pc' := 12) (L' := [some (.ref q0), some (.int m1), some (.int m2), some (.int (0 : Int32))]) (st' := []) rfl ?_
      refine Rn.weak (ll_s (ll_s (ll_s (ll_s ll_e)))) (RX12_mismatches_l12 hd t0 p2 (fun h_2354 s_2354 R_2354 m2355_1 x2355_1 p2355_1 e => ?_) hq N h s hR m1 x1 p1 (0 : Int32) 0 L32_0 e)
      try dsimp only at e
      exact Rn.weak (ll_s (ll_s (ll_s (ll_n ll_e)))) (RX12_mismatches_b82 hd R_2354 t0 p2355_1 p2 ih hk hq e)
def FX12_mismatches (N : Nat) (s : iv_M) (q0 : Nat) : Option (Int × iv_M) := (FX12_mismatches_l4 N q0 (fun (s_2351 : iv_M) (x2352_1 : Int) => (some (x2352_1, s_2351))) N s 0 0)
set_option maxRecDepth 10000 in
set_option maxHeartbeats 4000000 in
theorem RX12_mismatches {d N nc Ls : Nat} {Xs : Nat → Int32} (hd : 6 ≤ d) {h : iv_H} {s : iv_M} (hR : Rep nc Ls Xs h s) {q0 : Nat} (t0 : T12 nc q0) {r : Int × iv_M} {Q : Option Value → iv_H → Prop} (e : FX12_mismatches N s q0 = some r) (hq : ∀ (z : Int32) (h1 : iv_H), z.toInt = r.1 → Rep nc Ls Xs h1 r.2 → Q (some (.int z)) h1) : Cl d 206 [.ref q0] h Q := by
  obtain ⟨d, rfl⟩ : ∃ k, d = k + 1 := ⟨d - 1, by omega⟩
  have hd : 5 ≤ d := by omega
  have hT := hX12_mismatches
  unfold FX12_mismatches at e
  refine Cl.into (by decide) gX12_mismatches rfl ?_
  show Rn d 206 (some .int) 0 [some (.ref q0), none, none, none] [] h Q
  refine Rn.n hT 4 (pc' := 4) (L' := [some (.ref q0), some (.int (0 : Int32)), some (.int (0 : Int32)), none]) (st' := []) rfl ?_
  refine Rn.weak (ll_s (ll_s (ll_s (ll_n ll_e)))) (RX12_mismatches_l4 hd t0 (fun h_2351 s_2351 R_2351 m2352_1 x2352_1 p2352_1 e => ?_) hq N h s hR (0 : Int32) 0 L32_0 (0 : Int32) 0 L32_0 e)
  try dsimp only at e
  refine Rn.n hT 1 (pc' := 89) (L' := [none, some (.int m2352_1), none, none]) (st' := [.int m2352_1]) rfl ?_
  obtain rfl := Option.some.inj e
  exact Rn.ret hT rfl rfl rfl (hq m2352_1 h_2351 p2352_1 R_2351)
set_option maxRecDepth 10000 in
theorem hX12_put : iv_Tb 208 tX12_put := iv_tb_of (m := mX12_put) rfl
set_option maxRecDepth 10000 in
theorem gX12_put : PG.2 208 = some mX12_put := iv_pi_of (t := tX12_put) rfl (by decide)
def FX12_put_l3 (N : Nat) (q0 : Nat) (x1 : Int) (kx : iv_M → Option (iv_M)) : Nat → iv_M → Int → Option (iv_M)
  | 0, _, _ => none
  | n + 1, s, x2 => (if x2 < 0 then (kx s) else ((wr s (q0 + 26) 400 (s q0 28) (w8 (w8 (sr32 x1 x2)))).bind fun s_2374 => ((pt s_2374 q0 28 (w32 ((s_2374 q0 28) + 1))).bind fun s_2377 => (FX12_put_l3 N q0 x1 kx n s_2377 (w32 (x2 + (-8)))))))
set_option maxRecDepth 10000 in
set_option maxHeartbeats 4000000 in
theorem RX12_put_l3 {d N nc Ls : Nat} {Xs : Nat → Int32} (hd : 0 ≤ d) {q0 : Nat} (t0 : T12 nc q0) {m1 : Int32} {x1 : Int} (p1 : m1.toInt = x1) {kx : iv_M → Option (iv_M)} {r : iv_M} {Q : Option Value → iv_H → Prop} (hk : ∀ (h : iv_H) (s : iv_M) (hR : Rep nc Ls Xs h s), kx s = some r → Rn d 208 none 36 [none, none, none] [] h Q) (hq : ∀ h1, Rep nc Ls Xs h1 r → Q none h1) : ∀ (n : Nat) (h : iv_H) (s : iv_M) (hR : Rep nc Ls Xs h s) (m2 : Int32) (x2 : Int) (p2 : m2.toInt = x2), FX12_put_l3 N q0 x1 kx n s x2 = some r → Rn d 208 none 3 [some (.ref q0), some (.int m1), some (.int m2)] [] h Q := by
  have hT := hX12_put
  intro n
  induction n with
  | zero =>
    intro h s hR m2 x2 p2 e
    rw [FX12_put_l3] at e
    cases e
  | succ n ih =>
    intro h s hR m2 x2 p2 e
    rw [FX12_put_l3] at e
    refine Rn.n hT 1 (pc' := 4) (L' := [some (.ref q0), some (.int m1), some (.int m2)]) (st' := [.int m2]) rfl ?_
    by_cases c_2372 : x2 < 0
    · rw [if_pos c_2372] at e
      refine Rn.bt hT rfl rfl rfl (decide_eq_true ((ti_l p2 L32_0).mpr c_2372)) ?_
      exact Rn.weak (ll_n (ll_n (ll_n ll_e))) (hk h s hR e)
    · rw [if_neg c_2372] at e
      refine Rn.bf hT rfl rfl rfl (decide_eq_false (fun z => c_2372 ((ti_l p2 L32_0).mp z))) ?_
      refine Rn.n hT 1 (pc' := 8) (L' := [some (.ref q0), some (.int m1), some (.int m2)]) (st' := [.ref q0]) rfl ?_
      refine Rn.hp hT rfl rfl (gR_hp (rp_gR hR (T12_o t0) rfl)) ?_
      refine Rn.n hT 1 (pc' := 12) (L' := [some (.ref q0), some (.int m1), some (.int m2)]) (st' := [.ref q0, .ref (q0 + 26)]) rfl ?_
      obtain ⟨z_2373, g_2373, p_2373⟩ : ∃ z : Int32, gI h 12 28 q0 = some z ∧ z.toInt = s q0 28 := rp_gI (k := 28) hR (T12_o t0) rfl
      refine Rn.hp hT rfl rfl (gI_hp g_2373) ?_
      refine Rn.n hT 4 (pc' := 19) (L' := [some (.ref q0), some (.int m1), some (.int m2)]) (st' := [.int (((m1 >>> (m2 &&& 31))).toInt8.toInt32), .int z_2373, .ref (q0 + 26)]) rfl ?_
      obtain ⟨s_2374, e_2375, e⟩ := Option.bind_eq_some_iff.mp e
      obtain ⟨h_2374, g_2375, R_2374⟩ := rp_wB hR (T12_39 t0) (T12_39l t0) p_2373 (ti_8 (ti_8 (ti_shr p1 p2))) e_2375
      refine Rn.hp hT rfl rfl (wB_hp g_2375) ?_
      refine Rn.n hT 2 (pc' := 22) (L' := [some (.ref q0), some (.int m1), some (.int m2)]) (st' := [.ref q0, .ref q0]) rfl ?_
      obtain ⟨z_2376, g_2376, p_2376⟩ : ∃ z : Int32, gI h_2374 12 28 q0 = some z ∧ z.toInt = s_2374 q0 28 := rp_gI (k := 28) R_2374 (T12_o t0) rfl
      refine Rn.hp hT rfl rfl (gI_hp g_2376) ?_
      refine Rn.n hT 2 (pc' := 27) (L' := [some (.ref q0), some (.int m1), some (.int m2)]) (st' := [.int (z_2376 + (1 : Int32)), .ref q0]) rfl ?_
      obtain ⟨s_2377, e_2378, e⟩ := Option.bind_eq_some_iff.mp e
      obtain ⟨h_2377, g_2378, R_2377⟩ := rp_pI (ci := 12) (k := 28) R_2374 (T12_o t0) rfl rfl (ti_add p_2376 L32_1) e_2378
      refine Rn.hp hT rfl rfl (pV_hp rfl g_2378) ?_
      refine Rn.n hT 2 (pc' := 3) (L' := [some (.ref q0), some (.int m1), some (.int (m2 + (-8 : Int32)))]) (st' := []) rfl ?_
      exact Rn.weak (ll_s (ll_s (ll_s ll_e))) (ih h_2377 s_2377 R_2377 (m2 + (-8 : Int32)) (w32 (x2 + (-8))) (ti_add p2 L32_m8) e)
def FX12_put (N : Nat) (s : iv_M) (q0 : Nat) (x1 : Int) : Option (iv_M) := (FX12_put_l3 N q0 x1 (fun (s_2370 : iv_M) => some s_2370) N s 24)
set_option maxRecDepth 10000 in
set_option maxHeartbeats 4000000 in
theorem RX12_put {d N nc Ls : Nat} {Xs : Nat → Int32} (hd : 1 ≤ d) {h : iv_H} {s : iv_M} (hR : Rep nc Ls Xs h s) {q0 : Nat} (t0 : T12 nc q0) {m1 : Int32} {x1 : Int} (p1 : m1.toInt = x1) {r : iv_M} {Q : Option Value → iv_H → Prop} (e : FX12_put N s q0 x1 = some r) (hq : ∀ h1, Rep nc Ls Xs h1 r → Q none h1) : Cl d 208 [.ref q0, .int m1] h Q := by
  obtain ⟨d, rfl⟩ : ∃ k, d = k + 1 := ⟨d - 1, by omega⟩
  have hd : 0 ≤ d := by omega
  have hT := hX12_put
  unfold FX12_put at e
  refine Cl.into (by decide) gX12_put rfl ?_
  show Rn d 208 none 0 [some (.ref q0), some (.int m1), none] [] h Q
  refine Rn.n hT 2 (pc' := 3) (L' := [some (.ref q0), some (.int m1), some (.int (24 : Int32))]) (st' := []) rfl ?_
  refine Rn.weak (ll_s (ll_s (ll_s ll_e))) (RX12_put_l3 hd t0 p1 (fun h_2370 s_2370 R_2370 e => ?_) hq N h s hR (24 : Int32) 24 L32_24 e)
  try dsimp only at e
  obtain rfl := Option.some.inj e
  exact Rn.ret hT rfl rfl rfl (hq h_2370 R_2370)
set_option maxRecDepth 10000 in
theorem hX12_feed : iv_Tb 207 tX12_feed := iv_tb_of (m := mX12_feed) rfl
set_option maxRecDepth 10000 in
theorem gX12_feed : PG.2 207 = some mX12_feed := iv_pi_of (t := tX12_feed) rfl (by decide)
def FX12_feed (N : Nat) (s : iv_M) (q0 : Nat) (x1 : Int) (x2 : Int) (x3 : Int) (x4 : Int) (x5 : Int) : Option (Int × iv_M) := (if (w32 ((s q0 28) + 20)) ≤ 400 then ((FX12_put N s q0 x1).bind fun s_2382 => ((FX12_put N s_2382 q0 x2).bind fun s_2384 => ((FX12_put N s_2384 q0 x3).bind fun s_2386 => ((FX12_put N s_2386 q0 x4).bind fun s_2388 => ((FX12_put N s_2388 q0 x5).bind fun s_2390 => (some ((s_2390 q0 28), s_2390))))))) else (some ((-1), s)))
set_option maxRecDepth 10000 in
set_option maxHeartbeats 4000000 in
theorem RX12_feed {d N nc Ls : Nat} {Xs : Nat → Int32} (hd : 2 ≤ d) {h : iv_H} {s : iv_M} (hR : Rep nc Ls Xs h s) {q0 : Nat} (t0 : T12 nc q0) {m1 : Int32} {x1 : Int} (p1 : m1.toInt = x1) {m2 : Int32} {x2 : Int} (p2 : m2.toInt = x2) {m3 : Int32} {x3 : Int} (p3 : m3.toInt = x3) {m4 : Int32} {x4 : Int} (p4 : m4.toInt = x4) {m5 : Int32} {x5 : Int} (p5 : m5.toInt = x5) {r : Int × iv_M} {Q : Option Value → iv_H → Prop} (e : FX12_feed N s q0 x1 x2 x3 x4 x5 = some r) (hq : ∀ (z : Int32) (h1 : iv_H), z.toInt = r.1 → Rep nc Ls Xs h1 r.2 → Q (some (.int z)) h1) : Cl d 207 [.ref q0, .int m1, .int m2, .int m3, .int m4, .int m5] h Q := by
  obtain ⟨d, rfl⟩ : ∃ k, d = k + 1 := ⟨d - 1, by omega⟩
  have hd : 1 ≤ d := by omega
  have hT := hX12_feed
  unfold FX12_feed at e
  refine Cl.into (by decide) gX12_feed rfl ?_
  show Rn d 207 (some .int) 0 [some (.ref q0), some (.int m1), some (.int m2), some (.int m3), some (.int m4), some (.int m5)] [] h Q
  refine Rn.n hT 1 (pc' := 1) (L' := [some (.ref q0), some (.int m1), some (.int m2), some (.int m3), some (.int m4), some (.int m5)]) (st' := [.ref q0]) rfl ?_
  obtain ⟨z_2379, g_2379, p_2379⟩ : ∃ z : Int32, gI h 12 28 q0 = some z ∧ z.toInt = s q0 28 := rp_gI (k := 28) hR (T12_o t0) rfl
  refine Rn.hp hT rfl rfl (gI_hp g_2379) ?_
  refine Rn.n hT 3 (pc' := 10) (L' := [some (.ref q0), some (.int m1), some (.int m2), some (.int m3), some (.int m4), some (.int m5)]) (st' := [.int (400 : Int32), .int (z_2379 + (20 : Int32))]) rfl ?_
  by_cases c_2380 : (w32 ((s q0 28) + 20)) ≤ 400
  · rw [if_pos c_2380] at e
    refine Rn.bt hT rfl rfl rfl (decide_eq_true ((ti_le (ti_add p_2379 L32_20) L32_400).mpr c_2380)) ?_
    refine Rn.n hT 2 (pc' := 17) (L' := [some (.ref q0), some (.int m1), some (.int m2), some (.int m3), some (.int m4), some (.int m5)]) (st' := [.int m1, .ref q0]) rfl ?_
    obtain ⟨s_2382, e_2381, e⟩ := Option.bind_eq_some_iff.mp e
    refine Rn.call hT rfl rfl rfl (Nat.le_of_ble_eq_true rfl) (rcv_v gX12_put (by omega) (rp_ck hR (T12_o t0))) (RX12_put (by omega) hR t0 p1 e_2381 (fun h_2382 R_2382 => ?_))
    show Rn d _ _ 20 [some (.ref q0), some (.int m1), some (.int m2), some (.int m3), some (.int m4), some (.int m5)] [] h_2382 Q
    refine Rn.n hT 2 (pc' := 22) (L' := [some (.ref q0), some (.int m1), some (.int m2), some (.int m3), some (.int m4), some (.int m5)]) (st' := [.int m2, .ref q0]) rfl ?_
    obtain ⟨s_2384, e_2383, e⟩ := Option.bind_eq_some_iff.mp e
    refine Rn.call hT rfl rfl rfl (Nat.le_of_ble_eq_true rfl) (rcv_v gX12_put (by omega) (rp_ck R_2382 (T12_o t0))) (RX12_put (by omega) R_2382 t0 p2 e_2383 (fun h_2384 R_2384 => ?_))
    show Rn d _ _ 25 [some (.ref q0), some (.int m1), some (.int m2), some (.int m3), some (.int m4), some (.int m5)] [] h_2384 Q
    refine Rn.n hT 2 (pc' := 27) (L' := [some (.ref q0), some (.int m1), some (.int m2), some (.int m3), some (.int m4), some (.int m5)]) (st' := [.int m3, .ref q0]) rfl ?_
    obtain ⟨s_2386, e_2385, e⟩ := Option.bind_eq_some_iff.mp e
    refine Rn.call hT rfl rfl rfl (Nat.le_of_ble_eq_true rfl) (rcv_v gX12_put (by omega) (rp_ck R_2384 (T12_o t0))) (RX12_put (by omega) R_2384 t0 p3 e_2385 (fun h_2386 R_2386 => ?_))
    show Rn d _ _ 30 [some (.ref q0), some (.int m1), some (.int m2), some (.int m3), some (.int m4), some (.int m5)] [] h_2386 Q
    refine Rn.n hT 2 (pc' := 33) (L' := [some (.ref q0), some (.int m1), some (.int m2), some (.int m3), some (.int m4), some (.int m5)]) (st' := [.int m4, .ref q0]) rfl ?_
    obtain ⟨s_2388, e_2387, e⟩ := Option.bind_eq_some_iff.mp e
    refine Rn.call hT rfl rfl rfl (Nat.le_of_ble_eq_true rfl) (rcv_v gX12_put (by omega) (rp_ck R_2386 (T12_o t0))) (RX12_put (by omega) R_2386 t0 p4 e_2387 (fun h_2388 R_2388 => ?_))
    show Rn d _ _ 36 [some (.ref q0), some (.int m1), some (.int m2), some (.int m3), some (.int m4), some (.int m5)] [] h_2388 Q
    refine Rn.n hT 2 (pc' := 39) (L' := [some (.ref q0), some (.int m1), some (.int m2), some (.int m3), some (.int m4), some (.int m5)]) (st' := [.int m5, .ref q0]) rfl ?_
    obtain ⟨s_2390, e_2389, e⟩ := Option.bind_eq_some_iff.mp e
    refine Rn.call hT rfl rfl rfl (Nat.le_of_ble_eq_true rfl) (rcv_v gX12_put (by omega) (rp_ck R_2388 (T12_o t0))) (RX12_put (by omega) R_2388 t0 p5 e_2389 (fun h_2390 R_2390 => ?_))
    show Rn d _ _ 42 [some (.ref q0), some (.int m1), some (.int m2), some (.int m3), some (.int m4), some (.int m5)] [] h_2390 Q
    refine Rn.n hT 1 (pc' := 43) (L' := [some (.ref q0), some (.int m1), some (.int m2), some (.int m3), some (.int m4), some (.int m5)]) (st' := [.ref q0]) rfl ?_
    obtain ⟨z_2391, g_2391, p_2391⟩ : ∃ z : Int32, gI h_2390 12 28 q0 = some z ∧ z.toInt = s_2390 q0 28 := rp_gI (k := 28) R_2390 (T12_o t0) rfl
    refine Rn.hp hT rfl rfl (gI_hp g_2391) ?_
    obtain rfl := Option.some.inj e
    exact Rn.ret hT rfl rfl rfl (hq z_2391 h_2390 p_2391 R_2390)
  · rw [if_neg c_2380] at e
    refine Rn.bf hT rfl rfl rfl (decide_eq_false (fun z => c_2380 ((ti_le (ti_add p_2379 L32_20) L32_400).mp z))) ?_
    refine Rn.n hT 1 (pc' := 14) (L' := [some (.ref q0), some (.int m1), some (.int m2), some (.int m3), some (.int m4), some (.int m5)]) (st' := [.int (-1 : Int32)]) rfl ?_
    obtain rfl := Option.some.inj e
    exact Rn.ret hT rfl rfl rfl (hq (-1 : Int32) h L32_m1 hR)
set_option maxRecDepth 10000 in
theorem hX12_end : iv_Tb 209 tX12_end := iv_tb_of (m := mX12_end) rfl
set_option maxRecDepth 10000 in
theorem gX12_end : PG.2 209 = some mX12_end := iv_pi_of (t := tX12_end) rfl (by decide)
def FX12_end_b12 (N : Nat) (s : iv_M)   : Option (Int × iv_M) := (some ((-1), s))
set_option maxRecDepth 10000 in
set_option maxHeartbeats 4000000 in
theorem RX12_end_b12 {d N nc Ls : Nat} {Xs : Nat → Int32} (hd : 0 ≤ d) {h : iv_H} {s : iv_M} (hR : Rep nc Ls Xs h s)   {r : Int × iv_M} {Q : Option Value → iv_H → Prop} (hq : ∀ (z : Int32) (h1 : iv_H), z.toInt = r.1 → Rep nc Ls Xs h1 r.2 → Q (some (.int z)) h1) (e : FX12_end_b12 N s   = some r) : Rn d 209 (some .int) 12 [none, none] [] h Q := by
  have hT := hX12_end
  unfold FX12_end_b12 at e
  refine Rn.n hT 1 (pc' := 13) (L' := [none, none]) (st' := [.int (-1 : Int32)]) rfl ?_
  obtain rfl := Option.some.inj e
  exact Rn.ret hT rfl rfl rfl (hq (-1 : Int32) h L32_m1 hR)
def FX12_end (N : Nat) (s : iv_M) (q0 : Nat) (x1 : Int) : Option (Int × iv_M) := (if x1 < 0 then (FX12_end_b12 N s) else (if x1 ≤ (s q0 28) then ((pt s q0 28 x1).bind fun s_2395 => (some (x1, s_2395))) else (FX12_end_b12 N s)))
set_option maxRecDepth 10000 in
set_option maxHeartbeats 4000000 in
theorem RX12_end {d N nc Ls : Nat} {Xs : Nat → Int32} (hd : 1 ≤ d) {h : iv_H} {s : iv_M} (hR : Rep nc Ls Xs h s) {q0 : Nat} (t0 : T12 nc q0) {m1 : Int32} {x1 : Int} (p1 : m1.toInt = x1) {r : Int × iv_M} {Q : Option Value → iv_H → Prop} (e : FX12_end N s q0 x1 = some r) (hq : ∀ (z : Int32) (h1 : iv_H), z.toInt = r.1 → Rep nc Ls Xs h1 r.2 → Q (some (.int z)) h1) : Cl d 209 [.ref q0, .int m1] h Q := by
  obtain ⟨d, rfl⟩ : ∃ k, d = k + 1 := ⟨d - 1, by omega⟩
  have hd : 0 ≤ d := by omega
  have hT := hX12_end
  unfold FX12_end at e
  refine Cl.into (by decide) gX12_end rfl ?_
  show Rn d 209 (some .int) 0 [some (.ref q0), some (.int m1)] [] h Q
  refine Rn.n hT 1 (pc' := 1) (L' := [some (.ref q0), some (.int m1)]) (st' := [.int m1]) rfl ?_
  by_cases c_2392 : x1 < 0
  · rw [if_pos c_2392] at e
    refine Rn.bt hT rfl rfl rfl (decide_eq_true ((ti_l p1 L32_0).mpr c_2392)) ?_
    exact Rn.weak (ll_n (ll_n ll_e)) (RX12_end_b12 hd hR hq e)
  · rw [if_neg c_2392] at e
    refine Rn.bf hT rfl rfl rfl (decide_eq_false (fun z => c_2392 ((ti_l p1 L32_0).mp z))) ?_
    refine Rn.n hT 2 (pc' := 6) (L' := [some (.ref q0), some (.int m1)]) (st' := [.ref q0, .int m1]) rfl ?_
    obtain ⟨z_2393, g_2393, p_2393⟩ : ∃ z : Int32, gI h 12 28 q0 = some z ∧ z.toInt = s q0 28 := rp_gI (k := 28) hR (T12_o t0) rfl
    refine Rn.hp hT rfl rfl (gI_hp g_2393) ?_
    by_cases c_2394 : x1 ≤ (s q0 28)
    · rw [if_pos c_2394] at e
      refine Rn.bt hT rfl rfl rfl (decide_eq_true ((ti_le p1 p_2393).mpr c_2394)) ?_
      refine Rn.n hT 2 (pc' := 16) (L' := [some (.ref q0), some (.int m1)]) (st' := [.int m1, .ref q0]) rfl ?_
      obtain ⟨s_2395, e_2396, e⟩ := Option.bind_eq_some_iff.mp e
      obtain ⟨h_2395, g_2396, R_2395⟩ := rp_pI (ci := 12) (k := 28) hR (T12_o t0) rfl rfl p1 e_2396
      refine Rn.hp hT rfl rfl (pV_hp rfl g_2396) ?_
      refine Rn.n hT 1 (pc' := 20) (L' := [some (.ref q0), some (.int m1)]) (st' := [.int m1]) rfl ?_
      obtain rfl := Option.some.inj e
      exact Rn.ret hT rfl rfl rfl (hq m1 h_2395 p1 R_2395)
    · rw [if_neg c_2394] at e
      refine Rn.bf hT rfl rfl rfl (decide_eq_false (fun z => c_2394 ((ti_le p1 p_2393).mp z))) ?_
      exact Rn.weak (ll_n (ll_n ll_e)) (RX12_end_b12 hd hR hq e)
set_option maxRecDepth 10000 in
theorem hX12_wordOf : iv_Tb 210 tX12_wordOf := iv_tb_of (m := mX12_wordOf) rfl
set_option maxRecDepth 10000 in
theorem gX12_wordOf : PG.2 210 = some mX12_wordOf := iv_pi_of (t := tX12_wordOf) rfl (by decide)
def FX12_wordOf (N : Nat) (s : iv_M) (x0 : Int) : Option (Nat) := (if x0 = 0 then (some 1000015) else (if x0 = 1 then (some 1000016) else (if x0 = 2 then (some 1000017) else (if x0 = 3 then (some 1000018) else (if x0 = 4 then (some 1000019) else (if x0 = 5 then (some 1000020) else (if x0 = 6 then (some 1000021) else (if x0 = 7 then (some 1000022) else (if x0 = 8 then (some 1000023) else (if x0 = 9 then (some 1000024) else (if x0 = 10 then (some 1000025) else (if x0 = 11 then (some 1000026) else (some 1000027)))))))))))))
set_option maxRecDepth 10000 in
set_option maxHeartbeats 4000000 in
theorem RX12_wordOf {d N nc Ls : Nat} {Xs : Nat → Int32} (hd : 1 ≤ d) {h : iv_H} {s : iv_M} (hR : Rep nc Ls Xs h s) {m0 : Int32} {x0 : Int} (p0 : m0.toInt = x0) {r : Nat} {Q : Option Value → iv_H → Prop} (e : FX12_wordOf N s x0 = some r) (hq : TS r → Q (some (.ref r)) h) : Cl d 210 [.int m0] h Q := by
  obtain ⟨d, rfl⟩ : ∃ k, d = k + 1 := ⟨d - 1, by omega⟩
  have hd : 0 ≤ d := by omega
  have hT := hX12_wordOf
  unfold FX12_wordOf at e
  refine Cl.into (by decide) gX12_wordOf rfl ?_
  show Rn d 210 (some (.object "java/lang/String")) 0 [some (.int m0)] [] h Q
  refine Rn.n hT 1 (pc' := 1) (L' := [some (.int m0)]) (st' := [.int m0]) rfl ?_
  by_cases c_2397 : x0 = 0
  · rw [if_pos c_2397] at e
    refine Rn.sw2 hT rfl rfl rfl (if_pos ((ti_e p0 L32_0).mpr c_2397)) ?_
    refine Rn.n hT 1 (pc' := 66) (L' := [some (.int m0)]) (st' := [.ref 1000015]) rfl ?_
    obtain rfl := Option.some.inj e
    exact Rn.ret hT rfl rfl rfl (hq TS_1000015)
  · rw [if_neg c_2397] at e
    by_cases c_2398 : x0 = 1
    · rw [if_pos c_2398] at e
      refine Rn.sw2 hT rfl rfl rfl ((if_neg (fun z => c_2397 ((ti_e p0 L32_0).mp z))).trans (if_pos ((ti_e p0 L32_1).mpr c_2398))) ?_
      refine Rn.n hT 1 (pc' := 69) (L' := [some (.int m0)]) (st' := [.ref 1000016]) rfl ?_
      obtain rfl := Option.some.inj e
      exact Rn.ret hT rfl rfl rfl (hq TS_1000016)
    · rw [if_neg c_2398] at e
      by_cases c_2399 : x0 = 2
      · rw [if_pos c_2399] at e
        refine Rn.sw2 hT rfl rfl rfl ((if_neg (fun z => c_2397 ((ti_e p0 L32_0).mp z))).trans ((if_neg (fun z => c_2398 ((ti_e p0 L32_1).mp z))).trans (if_pos ((ti_e p0 L32_2).mpr c_2399)))) ?_
        refine Rn.n hT 1 (pc' := 72) (L' := [some (.int m0)]) (st' := [.ref 1000017]) rfl ?_
        obtain rfl := Option.some.inj e
        exact Rn.ret hT rfl rfl rfl (hq TS_1000017)
      · rw [if_neg c_2399] at e
        by_cases c_2400 : x0 = 3
        · rw [if_pos c_2400] at e
          refine Rn.sw2 hT rfl rfl rfl ((if_neg (fun z => c_2397 ((ti_e p0 L32_0).mp z))).trans ((if_neg (fun z => c_2398 ((ti_e p0 L32_1).mp z))).trans ((if_neg (fun z => c_2399 ((ti_e p0 L32_2).mp z))).trans (if_pos ((ti_e p0 L32_3).mpr c_2400))))) ?_
          refine Rn.n hT 1 (pc' := 75) (L' := [some (.int m0)]) (st' := [.ref 1000018]) rfl ?_
          obtain rfl := Option.some.inj e
          exact Rn.ret hT rfl rfl rfl (hq TS_1000018)
        · rw [if_neg c_2400] at e
          by_cases c_2401 : x0 = 4
          · rw [if_pos c_2401] at e
            refine Rn.sw2 hT rfl rfl rfl ((if_neg (fun z => c_2397 ((ti_e p0 L32_0).mp z))).trans ((if_neg (fun z => c_2398 ((ti_e p0 L32_1).mp z))).trans ((if_neg (fun z => c_2399 ((ti_e p0 L32_2).mp z))).trans ((if_neg (fun z => c_2400 ((ti_e p0 L32_3).mp z))).trans (if_pos ((ti_e p0 L32_4).mpr c_2401)))))) ?_
            refine Rn.n hT 1 (pc' := 78) (L' := [some (.int m0)]) (st' := [.ref 1000019]) rfl ?_
            obtain rfl := Option.some.inj e
            exact Rn.ret hT rfl rfl rfl (hq TS_1000019)
          · rw [if_neg c_2401] at e
            by_cases c_2402 : x0 = 5
            · rw [if_pos c_2402] at e
              refine Rn.sw2 hT rfl rfl rfl ((if_neg (fun z => c_2397 ((ti_e p0 L32_0).mp z))).trans ((if_neg (fun z => c_2398 ((ti_e p0 L32_1).mp z))).trans ((if_neg (fun z => c_2399 ((ti_e p0 L32_2).mp z))).trans ((if_neg (fun z => c_2400 ((ti_e p0 L32_3).mp z))).trans ((if_neg (fun z => c_2401 ((ti_e p0 L32_4).mp z))).trans (if_pos ((ti_e p0 L32_5).mpr c_2402))))))) ?_
              refine Rn.n hT 1 (pc' := 81) (L' := [some (.int m0)]) (st' := [.ref 1000020]) rfl ?_
              obtain rfl := Option.some.inj e
              exact Rn.ret hT rfl rfl rfl (hq TS_1000020)
            · rw [if_neg c_2402] at e
              by_cases c_2403 : x0 = 6
              · rw [if_pos c_2403] at e
                refine Rn.sw2 hT rfl rfl rfl ((if_neg (fun z => c_2397 ((ti_e p0 L32_0).mp z))).trans ((if_neg (fun z => c_2398 ((ti_e p0 L32_1).mp z))).trans ((if_neg (fun z => c_2399 ((ti_e p0 L32_2).mp z))).trans ((if_neg (fun z => c_2400 ((ti_e p0 L32_3).mp z))).trans ((if_neg (fun z => c_2401 ((ti_e p0 L32_4).mp z))).trans ((if_neg (fun z => c_2402 ((ti_e p0 L32_5).mp z))).trans (if_pos ((ti_e p0 L32_6).mpr c_2403)))))))) ?_
                refine Rn.n hT 1 (pc' := 85) (L' := [some (.int m0)]) (st' := [.ref 1000021]) rfl ?_
                obtain rfl := Option.some.inj e
                exact Rn.ret hT rfl rfl rfl (hq TS_1000021)
              · rw [if_neg c_2403] at e
                by_cases c_2404 : x0 = 7
                · rw [if_pos c_2404] at e
                  refine Rn.sw2 hT rfl rfl rfl ((if_neg (fun z => c_2397 ((ti_e p0 L32_0).mp z))).trans ((if_neg (fun z => c_2398 ((ti_e p0 L32_1).mp z))).trans ((if_neg (fun z => c_2399 ((ti_e p0 L32_2).mp z))).trans ((if_neg (fun z => c_2400 ((ti_e p0 L32_3).mp z))).trans ((if_neg (fun z => c_2401 ((ti_e p0 L32_4).mp z))).trans ((if_neg (fun z => c_2402 ((ti_e p0 L32_5).mp z))).trans ((if_neg (fun z => c_2403 ((ti_e p0 L32_6).mp z))).trans (if_pos ((ti_e p0 L32_7).mpr c_2404))))))))) ?_
                  refine Rn.n hT 1 (pc' := 89) (L' := [some (.int m0)]) (st' := [.ref 1000022]) rfl ?_
                  obtain rfl := Option.some.inj e
                  exact Rn.ret hT rfl rfl rfl (hq TS_1000022)
                · rw [if_neg c_2404] at e
                  by_cases c_2405 : x0 = 8
                  · rw [if_pos c_2405] at e
                    refine Rn.sw2 hT rfl rfl rfl ((if_neg (fun z => c_2397 ((ti_e p0 L32_0).mp z))).trans ((if_neg (fun z => c_2398 ((ti_e p0 L32_1).mp z))).trans ((if_neg (fun z => c_2399 ((ti_e p0 L32_2).mp z))).trans ((if_neg (fun z => c_2400 ((ti_e p0 L32_3).mp z))).trans ((if_neg (fun z => c_2401 ((ti_e p0 L32_4).mp z))).trans ((if_neg (fun z => c_2402 ((ti_e p0 L32_5).mp z))).trans ((if_neg (fun z => c_2403 ((ti_e p0 L32_6).mp z))).trans ((if_neg (fun z => c_2404 ((ti_e p0 L32_7).mp z))).trans (if_pos ((ti_e p0 L32_8).mpr c_2405)))))))))) ?_
                    refine Rn.n hT 1 (pc' := 93) (L' := [some (.int m0)]) (st' := [.ref 1000023]) rfl ?_
                    obtain rfl := Option.some.inj e
                    exact Rn.ret hT rfl rfl rfl (hq TS_1000023)
                  · rw [if_neg c_2405] at e
                    by_cases c_2406 : x0 = 9
                    · rw [if_pos c_2406] at e
                      refine Rn.sw2 hT rfl rfl rfl ((if_neg (fun z => c_2397 ((ti_e p0 L32_0).mp z))).trans ((if_neg (fun z => c_2398 ((ti_e p0 L32_1).mp z))).trans ((if_neg (fun z => c_2399 ((ti_e p0 L32_2).mp z))).trans ((if_neg (fun z => c_2400 ((ti_e p0 L32_3).mp z))).trans ((if_neg (fun z => c_2401 ((ti_e p0 L32_4).mp z))).trans ((if_neg (fun z => c_2402 ((ti_e p0 L32_5).mp z))).trans ((if_neg (fun z => c_2403 ((ti_e p0 L32_6).mp z))).trans ((if_neg (fun z => c_2404 ((ti_e p0 L32_7).mp z))).trans ((if_neg (fun z => c_2405 ((ti_e p0 L32_8).mp z))).trans (if_pos ((ti_e p0 L32_9).mpr c_2406))))))))))) ?_
                      refine Rn.n hT 1 (pc' := 97) (L' := [some (.int m0)]) (st' := [.ref 1000024]) rfl ?_
                      obtain rfl := Option.some.inj e
                      exact Rn.ret hT rfl rfl rfl (hq TS_1000024)
                    · rw [if_neg c_2406] at e
                      by_cases c_2407 : x0 = 10
                      · rw [if_pos c_2407] at e
                        refine Rn.sw2 hT rfl rfl rfl ((if_neg (fun z => c_2397 ((ti_e p0 L32_0).mp z))).trans ((if_neg (fun z => c_2398 ((ti_e p0 L32_1).mp z))).trans ((if_neg (fun z => c_2399 ((ti_e p0 L32_2).mp z))).trans ((if_neg (fun z => c_2400 ((ti_e p0 L32_3).mp z))).trans ((if_neg (fun z => c_2401 ((ti_e p0 L32_4).mp z))).trans ((if_neg (fun z => c_2402 ((ti_e p0 L32_5).mp z))).trans ((if_neg (fun z => c_2403 ((ti_e p0 L32_6).mp z))).trans ((if_neg (fun z => c_2404 ((ti_e p0 L32_7).mp z))).trans ((if_neg (fun z => c_2405 ((ti_e p0 L32_8).mp z))).trans ((if_neg (fun z => c_2406 ((ti_e p0 L32_9).mp z))).trans (if_pos ((ti_e p0 L32_10).mpr c_2407)))))))))))) ?_
                        refine Rn.n hT 1 (pc' := 101) (L' := [some (.int m0)]) (st' := [.ref 1000025]) rfl ?_
                        obtain rfl := Option.some.inj e
                        exact Rn.ret hT rfl rfl rfl (hq TS_1000025)
                      · rw [if_neg c_2407] at e
                        by_cases c_2408 : x0 = 11
                        · rw [if_pos c_2408] at e
                          refine Rn.sw2 hT rfl rfl rfl ((if_neg (fun z => c_2397 ((ti_e p0 L32_0).mp z))).trans ((if_neg (fun z => c_2398 ((ti_e p0 L32_1).mp z))).trans ((if_neg (fun z => c_2399 ((ti_e p0 L32_2).mp z))).trans ((if_neg (fun z => c_2400 ((ti_e p0 L32_3).mp z))).trans ((if_neg (fun z => c_2401 ((ti_e p0 L32_4).mp z))).trans ((if_neg (fun z => c_2402 ((ti_e p0 L32_5).mp z))).trans ((if_neg (fun z => c_2403 ((ti_e p0 L32_6).mp z))).trans ((if_neg (fun z => c_2404 ((ti_e p0 L32_7).mp z))).trans ((if_neg (fun z => c_2405 ((ti_e p0 L32_8).mp z))).trans ((if_neg (fun z => c_2406 ((ti_e p0 L32_9).mp z))).trans ((if_neg (fun z => c_2407 ((ti_e p0 L32_10).mp z))).trans (if_pos ((ti_e p0 L32_11).mpr c_2408))))))))))))) ?_
                          refine Rn.n hT 1 (pc' := 105) (L' := [some (.int m0)]) (st' := [.ref 1000026]) rfl ?_
                          obtain rfl := Option.some.inj e
                          exact Rn.ret hT rfl rfl rfl (hq TS_1000026)
                        · rw [if_neg c_2408] at e
                          refine Rn.sw2 hT rfl rfl rfl ((if_neg (fun z => c_2397 ((ti_e p0 L32_0).mp z))).trans ((if_neg (fun z => c_2398 ((ti_e p0 L32_1).mp z))).trans ((if_neg (fun z => c_2399 ((ti_e p0 L32_2).mp z))).trans ((if_neg (fun z => c_2400 ((ti_e p0 L32_3).mp z))).trans ((if_neg (fun z => c_2401 ((ti_e p0 L32_4).mp z))).trans ((if_neg (fun z => c_2402 ((ti_e p0 L32_5).mp z))).trans ((if_neg (fun z => c_2403 ((ti_e p0 L32_6).mp z))).trans ((if_neg (fun z => c_2404 ((ti_e p0 L32_7).mp z))).trans ((if_neg (fun z => c_2405 ((ti_e p0 L32_8).mp z))).trans ((if_neg (fun z => c_2406 ((ti_e p0 L32_9).mp z))).trans ((if_neg (fun z => c_2407 ((ti_e p0 L32_10).mp z))).trans ((if_neg (fun z => c_2408 ((ti_e p0 L32_11).mp z))).trans rfl)))))))))))) ?_
                          refine Rn.n hT 1 (pc' := 109) (L' := [some (.int m0)]) (st' := [.ref 1000027]) rfl ?_
                          obtain rfl := Option.some.inj e
                          exact Rn.ret hT rfl rfl rfl (hq TS_1000027)
set_option maxRecDepth 10000 in
theorem hX12_fails : iv_Tb 211 tX12_fails := iv_tb_of (m := mX12_fails) rfl
set_option maxRecDepth 10000 in
theorem gX12_fails : PG.2 211 = some mX12_fails := iv_pi_of (t := tX12_fails) rfl (by decide)
def FX12_fails_b23 (N : Nat) (s : iv_M)  (xs0 : Int) (qs1 : Nat) : Option (iv_M) := ((pt s qs1 30 xs0).bind fun s_2412 => some s_2412)
set_option maxRecDepth 10000 in
set_option maxHeartbeats 4000000 in
theorem RX12_fails_b23 {d N nc Ls : Nat} {Xs : Nat → Int32} (hd : 0 ≤ d) {h : iv_H} {s : iv_M} (hR : Rep nc Ls Xs h s)  {ms0 : Int32} {xs0 : Int} (ps0 : ms0.toInt = xs0) {qs1 : Nat} (ts1 : T12 nc qs1) {r : iv_M} {Q : Option Value → iv_H → Prop} (hq : ∀ h1, Rep nc Ls Xs h1 r → Q none h1) (e : FX12_fails_b23 N s  xs0 qs1 = some r) : Rn d 211 none 23 [none, none, none] [.int ms0, .ref qs1] h Q := by
  have hT := hX12_fails
  unfold FX12_fails_b23 at e
  obtain ⟨s_2412, e_2413, e⟩ := Option.bind_eq_some_iff.mp e
  obtain ⟨h_2412, g_2413, R_2412⟩ := rp_pI (ci := 12) (k := 30) hR (T12_o ts1) rfl rfl ps0 e_2413
  refine Rn.hp hT rfl rfl (pV_hp rfl g_2413) ?_
  obtain rfl := Option.some.inj e
  exact Rn.ret hT rfl rfl rfl (hq h_2412 R_2412)
def FX12_fails (N : Nat) (s : iv_M) (q0 : Nat) (x1 : Int) (x2 : Int) : Option (iv_M) := (if (s q0 30) = 0 then (FX12_fails_b23 N s (w32 ((w32 (1 + (w32 (8 * x2)))) + x1)) q0) else (FX12_fails_b23 N s (s q0 30) q0))
set_option maxRecDepth 10000 in
set_option maxHeartbeats 4000000 in
theorem RX12_fails {d N nc Ls : Nat} {Xs : Nat → Int32} (hd : 1 ≤ d) {h : iv_H} {s : iv_M} (hR : Rep nc Ls Xs h s) {q0 : Nat} (t0 : T12 nc q0) {m1 : Int32} {x1 : Int} (p1 : m1.toInt = x1) {m2 : Int32} {x2 : Int} (p2 : m2.toInt = x2) {r : iv_M} {Q : Option Value → iv_H → Prop} (e : FX12_fails N s q0 x1 x2 = some r) (hq : ∀ h1, Rep nc Ls Xs h1 r → Q none h1) : Cl d 211 [.ref q0, .int m1, .int m2] h Q := by
  obtain ⟨d, rfl⟩ : ∃ k, d = k + 1 := ⟨d - 1, by omega⟩
  have hd : 0 ≤ d := by omega
  have hT := hX12_fails
  unfold FX12_fails at e
  refine Cl.into (by decide) gX12_fails rfl ?_
  show Rn d 211 none 0 [some (.ref q0), some (.int m1), some (.int m2)] [] h Q
  refine Rn.n hT 2 (pc' := 2) (L' := [some (.ref q0), some (.int m1), some (.int m2)]) (st' := [.ref q0, .ref q0]) rfl ?_
  obtain ⟨z_2409, g_2409, p_2409⟩ : ∃ z : Int32, gI h 12 30 q0 = some z ∧ z.toInt = s q0 30 := rp_gI (k := 30) hR (T12_o t0) rfl
  refine Rn.hp hT rfl rfl (gI_hp g_2409) ?_
  by_cases c_2410 : (s q0 30) = 0
  · rw [if_pos c_2410] at e
    refine Rn.bf hT rfl rfl rfl (decide_eq_false (fun z => z ((ti_e p_2409 L32_0).mpr c_2410))) ?_
    refine Rn.n hT 8 (pc' := 23) (L' := [some (.ref q0), some (.int m1), some (.int m2)]) (st' := [.int (((1 : Int32) + ((8 : Int32) * m2)) + m1), .ref q0]) rfl ?_
    exact Rn.weak (ll_n (ll_n (ll_n ll_e))) (RX12_fails_b23 hd hR (ti_add (ti_add L32_1 (ti_mul L32_8 p2)) p1) t0 hq e)
  · rw [if_neg c_2410] at e
    refine Rn.bt hT rfl rfl rfl (decide_eq_true (fun z => c_2410 ((ti_e p_2409 L32_0).mp z))) ?_
    refine Rn.n hT 1 (pc' := 20) (L' := [some (.ref q0), some (.int m1), some (.int m2)]) (st' := [.ref q0, .ref q0]) rfl ?_
    obtain ⟨z_2411, g_2411, p_2411⟩ : ∃ z : Int32, gI h 12 30 q0 = some z ∧ z.toInt = s q0 30 := rp_gI (k := 30) hR (T12_o t0) rfl
    refine Rn.hp hT rfl rfl (gI_hp g_2411) ?_
    exact Rn.weak (ll_n (ll_n (ll_n ll_e))) (RX12_fails_b23 hd hR p_2411 t0 hq e)
set_option maxRecDepth 10000 in
theorem hX12_sign : iv_Tb 212 tX12_sign := iv_tb_of (m := mX12_sign) rfl
set_option maxRecDepth 10000 in
theorem gX12_sign : PG.2 212 = some mX12_sign := iv_pi_of (t := tX12_sign) rfl (by decide)
def FX12_sign_b28 (N : Nat) (s : iv_M)  (xs0 : Int) : Option (Int) := (some xs0)
set_option maxRecDepth 10000 in
set_option maxHeartbeats 4000000 in
theorem RX12_sign_b28 {d N nc Ls : Nat} {Xs : Nat → Int32} (hd : 0 ≤ d) {h : iv_H} {s : iv_M} (hR : Rep nc Ls Xs h s)  {ms0 : Int32} {xs0 : Int} (ps0 : ms0.toInt = xs0) {r : Int} {Q : Option Value → iv_H → Prop} (hq : ∀ (z : Int32), z.toInt = r → Q (some (.int z)) h) (e : FX12_sign_b28 N s  xs0 = some r) : Rn d 212 (some .int) 28 [none] [.int ms0] h Q := by
  have hT := hX12_sign
  unfold FX12_sign_b28 at e
  obtain rfl := Option.some.inj e
  exact Rn.ret hT rfl rfl rfl (hq ms0 ps0)
def FX12_sign (N : Nat) (s : iv_M) (q0 : Nat) : Option (Int) := (if (s q0 28) ≤ (s q0 29) then (FX12_sign_b28 N s (-1)) else ((rd s (q0 + 26) 400 (s q0 29)).bind fun v_2418 => (FX12_sign_b28 N s (bAn v_2418 255))))
set_option maxRecDepth 10000 in
set_option maxHeartbeats 4000000 in
theorem RX12_sign {d N nc Ls : Nat} {Xs : Nat → Int32} (hd : 1 ≤ d) {h : iv_H} {s : iv_M} (hR : Rep nc Ls Xs h s) {q0 : Nat} (t0 : T12 nc q0) {r : Int} {Q : Option Value → iv_H → Prop} (e : FX12_sign N s q0 = some r) (hq : ∀ (z : Int32), z.toInt = r → Q (some (.int z)) h) : Cl d 212 [.ref q0] h Q := by
  obtain ⟨d, rfl⟩ : ∃ k, d = k + 1 := ⟨d - 1, by omega⟩
  have hd : 0 ≤ d := by omega
  have hT := hX12_sign
  unfold FX12_sign at e
  refine Cl.into (by decide) gX12_sign rfl ?_
  show Rn d 212 (some .int) 0 [some (.ref q0)] [] h Q
  refine Rn.n hT 1 (pc' := 1) (L' := [some (.ref q0)]) (st' := [.ref q0]) rfl ?_
  obtain ⟨z_2414, g_2414, p_2414⟩ : ∃ z : Int32, gI h 12 29 q0 = some z ∧ z.toInt = s q0 29 := rp_gI (k := 29) hR (T12_o t0) rfl
  refine Rn.hp hT rfl rfl (gI_hp g_2414) ?_
  refine Rn.n hT 1 (pc' := 5) (L' := [some (.ref q0)]) (st' := [.ref q0, .int z_2414]) rfl ?_
  obtain ⟨z_2415, g_2415, p_2415⟩ : ∃ z : Int32, gI h 12 28 q0 = some z ∧ z.toInt = s q0 28 := rp_gI (k := 28) hR (T12_o t0) rfl
  refine Rn.hp hT rfl rfl (gI_hp g_2415) ?_
  by_cases c_2416 : (s q0 28) ≤ (s q0 29)
  · rw [if_pos c_2416] at e
    refine Rn.bt hT rfl rfl rfl (decide_eq_true ((ti_le p_2415 p_2414).mpr c_2416)) ?_
    refine Rn.n hT 1 (pc' := 28) (L' := [some (.ref q0)]) (st' := [.int (-1 : Int32)]) rfl ?_
    exact Rn.weak (ll_n ll_e) (RX12_sign_b28 hd hR L32_m1 hq e)
  · rw [if_neg c_2416] at e
    refine Rn.bf hT rfl rfl rfl (decide_eq_false (fun z => c_2416 ((ti_le p_2415 p_2414).mp z))) ?_
    refine Rn.n hT 1 (pc' := 12) (L' := [some (.ref q0)]) (st' := [.ref q0]) rfl ?_
    refine Rn.hp hT rfl rfl (gR_hp (rp_gR hR (T12_o t0) rfl)) ?_
    refine Rn.n hT 1 (pc' := 16) (L' := [some (.ref q0)]) (st' := [.ref q0, .ref (q0 + 26)]) rfl ?_
    obtain ⟨z_2417, g_2417, p_2417⟩ : ∃ z : Int32, gI h 12 29 q0 = some z ∧ z.toInt = s q0 29 := rp_gI (k := 29) hR (T12_o t0) rfl
    refine Rn.hp hT rfl rfl (gI_hp g_2417) ?_
    obtain ⟨v_2418, e_2418, e⟩ := Option.bind_eq_some_iff.mp e
    obtain ⟨z_2418, g_2418, p_2418⟩ := rp_aB hR (T12_39 t0) (Or.inl rfl) (T12_39l t0) p_2417 e_2418
    refine Rn.hp hT rfl rfl (aB_hp g_2418) ?_
    refine Rn.n hT 3 (pc' := 28) (L' := [some (.ref q0)]) (st' := [.int (z_2418 &&& (255 : Int32))]) rfl ?_
    exact Rn.weak (ll_n ll_e) (RX12_sign_b28 hd hR (ti_and p_2418 L32_255) hq e)
set_option maxRecDepth 10000 in
theorem hX12_blanks : iv_Tb 213 tX12_blanks := iv_tb_of (m := mX12_blanks) rfl
set_option maxRecDepth 10000 in
theorem gX12_blanks : PG.2 213 = some mX12_blanks := iv_pi_of (t := tX12_blanks) rfl (by decide)
def FX12_blanks_l0 (N : Nat) (q0 : Nat) (kx : iv_M → Option (iv_M)) : Nat → iv_M → Option (iv_M)
  | 0, _ => none
  | n + 1, s => ((FX12_sign N s q0).bind fun v_2421 => (if v_2421 = 32 then ((pt s q0 29 (w32 ((s q0 29) + 1))).bind fun s_2424 => (FX12_blanks_l0 N q0 kx n s_2424)) else (kx s)))
set_option maxRecDepth 10000 in
set_option maxHeartbeats 4000000 in
theorem RX12_blanks_l0 {d N nc Ls : Nat} {Xs : Nat → Int32} (hd : 1 ≤ d) {q0 : Nat} (t0 : T12 nc q0) {kx : iv_M → Option (iv_M)} {r : iv_M} {Q : Option Value → iv_H → Prop} (hk : ∀ (h : iv_H) (s : iv_M) (hR : Rep nc Ls Xs h s), kx s = some r → Rn d 213 none 22 [none] [] h Q) (hq : ∀ h1, Rep nc Ls Xs h1 r → Q none h1) : ∀ (n : Nat) (h : iv_H) (s : iv_M) (hR : Rep nc Ls Xs h s), FX12_blanks_l0 N q0 kx n s = some r → Rn d 213 none 0 [some (.ref q0)] [] h Q := by
  have hT := hX12_blanks
  intro n
  induction n with
  | zero =>
    intro h s hR e
    rw [FX12_blanks_l0] at e
    cases e
  | succ n ih =>
    intro h s hR e
    rw [FX12_blanks_l0] at e
    refine Rn.n hT 1 (pc' := 1) (L' := [some (.ref q0)]) (st' := [.ref q0]) rfl ?_
    obtain ⟨v_2421, e_2421, e⟩ := Option.bind_eq_some_iff.mp e
    refine Rn.call hT rfl rfl rfl (Nat.le_of_ble_eq_true rfl) (rcv_v gX12_sign (by omega) (rp_ck hR (T12_o t0))) (RX12_sign (by omega) hR t0 e_2421 (fun z_2421 p_2421 => ?_))
    show Rn d _ _ 4 [some (.ref q0)] [.int z_2421] h Q
    refine Rn.n hT 1 (pc' := 6) (L' := [some (.ref q0)]) (st' := [.int (32 : Int32), .int z_2421]) rfl ?_
    by_cases c_2422 : v_2421 = 32
    · rw [if_pos c_2422] at e
      refine Rn.bf hT rfl rfl rfl (decide_eq_false (fun z => z ((ti_e p_2421 L32_32).mpr c_2422))) ?_
      refine Rn.n hT 2 (pc' := 11) (L' := [some (.ref q0)]) (st' := [.ref q0, .ref q0]) rfl ?_
      obtain ⟨z_2423, g_2423, p_2423⟩ : ∃ z : Int32, gI h 12 29 q0 = some z ∧ z.toInt = s q0 29 := rp_gI (k := 29) hR (T12_o t0) rfl
      refine Rn.hp hT rfl rfl (gI_hp g_2423) ?_
      refine Rn.n hT 2 (pc' := 16) (L' := [some (.ref q0)]) (st' := [.int (z_2423 + (1 : Int32)), .ref q0]) rfl ?_
      obtain ⟨s_2424, e_2425, e⟩ := Option.bind_eq_some_iff.mp e
      obtain ⟨h_2424, g_2425, R_2424⟩ := rp_pI (ci := 12) (k := 29) hR (T12_o t0) rfl rfl (ti_add p_2423 L32_1) e_2425
      refine Rn.hp hT rfl rfl (pV_hp rfl g_2425) ?_
      refine Rn.n hT 1 (pc' := 0) (L' := [some (.ref q0)]) (st' := []) rfl ?_
      exact Rn.weak (ll_s ll_e) (ih h_2424 s_2424 R_2424 e)
    · rw [if_neg c_2422] at e
      refine Rn.bt hT rfl rfl rfl (decide_eq_true (fun z => c_2422 ((ti_e p_2421 L32_32).mp z))) ?_
      exact Rn.weak (ll_n ll_e) (hk h s hR e)
def FX12_blanks (N : Nat) (s : iv_M) (q0 : Nat) : Option (iv_M) := (FX12_blanks_l0 N q0 (fun (s_2419 : iv_M) => some s_2419) N s)
set_option maxRecDepth 10000 in
set_option maxHeartbeats 4000000 in
theorem RX12_blanks {d N nc Ls : Nat} {Xs : Nat → Int32} (hd : 2 ≤ d) {h : iv_H} {s : iv_M} (hR : Rep nc Ls Xs h s) {q0 : Nat} (t0 : T12 nc q0) {r : iv_M} {Q : Option Value → iv_H → Prop} (e : FX12_blanks N s q0 = some r) (hq : ∀ h1, Rep nc Ls Xs h1 r → Q none h1) : Cl d 213 [.ref q0] h Q := by
  obtain ⟨d, rfl⟩ : ∃ k, d = k + 1 := ⟨d - 1, by omega⟩
  have hd : 1 ≤ d := by omega
  have hT := hX12_blanks
  unfold FX12_blanks at e
  refine Cl.into (by decide) gX12_blanks rfl ?_
  show Rn d 213 none 0 [some (.ref q0)] [] h Q
  refine Rn.weak (ll_s ll_e) (RX12_blanks_l0 hd t0 (fun h_2419 s_2419 R_2419 e => ?_) hq N h s hR e)
  try dsimp only at e
  obtain rfl := Option.some.inj e
  exact Rn.ret hT rfl rfl rfl (hq h_2419 R_2419)
set_option maxRecDepth 10000 in
theorem hX12_isDigit : iv_Tb 214 tX12_isDigit := iv_tb_of (m := mX12_isDigit) rfl
set_option maxRecDepth 10000 in
theorem gX12_isDigit : PG.2 214 = some mX12_isDigit := iv_pi_of (t := tX12_isDigit) rfl (by decide)
def FX12_isDigit (N : Nat) (s : iv_M) (q0 : Nat) : Option (Int) := ((FX12_sign N s q0).bind fun v_2426 => ((FX12_in N s v_2426 48 57).bind fun v_2427 => (if v_2427 = 0 ∨ v_2427 = 1 then some v_2427 else none)))
set_option maxRecDepth 10000 in
set_option maxHeartbeats 4000000 in
theorem RX12_isDigit {d N nc Ls : Nat} {Xs : Nat → Int32} (hd : 2 ≤ d) {h : iv_H} {s : iv_M} (hR : Rep nc Ls Xs h s) {q0 : Nat} (t0 : T12 nc q0) {r : Int} {Q : Option Value → iv_H → Prop} (e : FX12_isDigit N s q0 = some r) (hq : ∀ (z : Int32), z.toInt = r → Q (some (.int z)) h) : Cl d 214 [.ref q0] h Q := by
  obtain ⟨d, rfl⟩ : ∃ k, d = k + 1 := ⟨d - 1, by omega⟩
  have hd : 1 ≤ d := by omega
  have hT := hX12_isDigit
  unfold FX12_isDigit at e
  refine Cl.into (by decide) gX12_isDigit rfl ?_
  show Rn d 214 (some .boolean) 0 [some (.ref q0)] [] h Q
  refine Rn.n hT 1 (pc' := 1) (L' := [some (.ref q0)]) (st' := [.ref q0]) rfl ?_
  obtain ⟨v_2426, e_2426, e⟩ := Option.bind_eq_some_iff.mp e
  refine Rn.call hT rfl rfl rfl (Nat.le_of_ble_eq_true rfl) (rcv_v gX12_sign (by omega) (rp_ck hR (T12_o t0))) (RX12_sign (by omega) hR t0 e_2426 (fun z_2426 p_2426 => ?_))
  show Rn d _ _ 4 [some (.ref q0)] [.int z_2426] h Q
  refine Rn.n hT 3 (pc' := 11) (L' := [some (.ref q0)]) (st' := [.long (57 : Int64), .long (48 : Int64), .long ((z_2426).toInt64)]) rfl ?_
  obtain ⟨v_2427, e_2427, e⟩ := Option.bind_eq_some_iff.mp e
  refine Rn.call hT rfl rfl rfl (Nat.le_of_ble_eq_true rfl) rfl (RX12_in (by omega) hR (ti_j p_2426) L64_48 L64_57 e_2427 (fun z_2427 p_2427 => ?_))
  show Rn d _ _ 14 [some (.ref q0)] [.int z_2427] h Q
  by_cases c_2428 : v_2427 = 0 ∨ v_2427 = 1
  · rw [if_pos c_2428] at e
    obtain rfl := Option.some.inj e
    exact Rn.ret hT rfl rfl (if_pos (ti_b p_2427 c_2428)) (hq z_2427 p_2427)
  · rw [if_neg c_2428] at e
    cases e
