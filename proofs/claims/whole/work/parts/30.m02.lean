-- MIRRORS, 2 (written by wip/whole/mir.py)
set_option maxRecDepth 10000 in
theorem hX7_dropFirst : iv_Tb 97 tX7_dropFirst := iv_tb_of (m := mX7_dropFirst) rfl
set_option maxRecDepth 10000 in
theorem gX7_dropFirst : PG.2 97 = some mX7_dropFirst := iv_pi_of (t := tX7_dropFirst) rfl (by decide)
def fX7_dropFirst_b36 (N : Nat) (h : iv_H)   : Option (iv_H) := some h
set_option maxRecDepth 10000 in
set_option maxHeartbeats 4000000 in
theorem rX7_dropFirst_b36 {d N : Nat} (hd : 0 ≤ d) {h : iv_H}   {r : iv_H} {Q : Option Value → iv_H → Prop} (hq : Q none r) (e : fX7_dropFirst_b36 N h   = some r) : Rn d 97 none 36 [none] [] h Q := by
  have hT := hX7_dropFirst
  unfold fX7_dropFirst_b36 at e
  obtain rfl := Option.some.inj e
  exact Rn.ret hT rfl rfl rfl hq
def fX7_dropFirst (N : Nat) (h : iv_H) (q0 : Nat) : Option (iv_H) := ((gI h 7 1 q0).bind fun v_1170 => (if v_1170 ≤ 0 then (fX7_dropFirst_b36 N h) else ((gR h 7 0 q0).bind fun v_1173 => ((gR h 7 0 q0).bind fun v_1175 => ((gI h 7 1 q0).bind fun v_1177 => ((cpA h v_1173 (1 : Int32) v_1175 (0 : Int32) (v_1177 - (1 : Int32))).bind fun h_1180 => ((gI h_1180 7 1 q0).bind fun v_1181 => ((pV h_1180 7 1 q0 (.int (v_1181 - (1 : Int32)))).bind fun h_1183 => (fX7_dropFirst_b36 N h_1183)))))))))
set_option maxRecDepth 10000 in
set_option maxHeartbeats 4000000 in
theorem rX7_dropFirst {d N : Nat} (hd : 1 ≤ d) {h : iv_H} {q0 : Nat} {r : iv_H} {Q : Option Value → iv_H → Prop} (e : fX7_dropFirst N h q0 = some r) (hq : Q none r) : Cl d 97 [.ref q0] h Q := by
  obtain ⟨d, rfl⟩ : ∃ k, d = k + 1 := ⟨d - 1, by omega⟩
  have hd : 0 ≤ d := by omega
  have hT := hX7_dropFirst
  unfold fX7_dropFirst at e
  refine Cl.into (by decide) gX7_dropFirst rfl ?_
  show Rn d 97 none 0 [some (.ref q0)] [] h Q
  refine Rn.n hT 1 (pc' := 1) (L' := [some (.ref q0)]) (st' := [.ref q0]) rfl ?_
  obtain ⟨v_1170, e_1171, e⟩ := Option.bind_eq_some_iff.mp e
  refine Rn.hp hT rfl rfl (gI_hp e_1171) ?_
  by_cases c_1172 : v_1170 ≤ 0
  · rw [if_pos c_1172] at e
    refine Rn.bt hT rfl rfl rfl (decide_eq_true c_1172) ?_
    exact Rn.weak (ll_n ll_e) (rX7_dropFirst_b36 hd hq e)
  · rw [if_neg c_1172] at e
    refine Rn.bf hT rfl rfl rfl (decide_eq_false c_1172) ?_
    refine Rn.n hT 1 (pc' := 8) (L' := [some (.ref q0)]) (st' := [.ref q0]) rfl ?_
    obtain ⟨v_1173, e_1174, e⟩ := Option.bind_eq_some_iff.mp e
    refine Rn.hp hT rfl rfl (gR_hp e_1174) ?_
    refine Rn.n hT 2 (pc' := 13) (L' := [some (.ref q0)]) (st' := [.ref q0, .int (1 : Int32), .ref v_1173]) rfl ?_
    obtain ⟨v_1175, e_1176, e⟩ := Option.bind_eq_some_iff.mp e
    refine Rn.hp hT rfl rfl (gR_hp e_1176) ?_
    refine Rn.n hT 2 (pc' := 18) (L' := [some (.ref q0)]) (st' := [.ref q0, .int (0 : Int32), .ref v_1175, .int (1 : Int32), .ref v_1173]) rfl ?_
    obtain ⟨v_1177, e_1178, e⟩ := Option.bind_eq_some_iff.mp e
    refine Rn.hp hT rfl rfl (gI_hp e_1178) ?_
    refine Rn.n hT 2 (pc' := 23) (L' := [some (.ref q0)]) (st' := [.int (v_1177 - (1 : Int32)), .int (0 : Int32), .ref v_1175, .int (1 : Int32), .ref v_1173]) rfl ?_
    obtain ⟨h_1180, e_1179, e⟩ := Option.bind_eq_some_iff.mp e
    refine Rn.hp hT rfl rfl (cpA_hp (Nat.le_of_ble_eq_true rfl) e_1179) ?_
    refine Rn.n hT 2 (pc' := 28) (L' := [some (.ref q0)]) (st' := [.ref q0, .ref q0]) rfl ?_
    obtain ⟨v_1181, e_1182, e⟩ := Option.bind_eq_some_iff.mp e
    refine Rn.hp hT rfl rfl (gI_hp e_1182) ?_
    refine Rn.n hT 2 (pc' := 33) (L' := [some (.ref q0)]) (st' := [.int (v_1181 - (1 : Int32)), .ref q0]) rfl ?_
    obtain ⟨h_1183, e_1184, e⟩ := Option.bind_eq_some_iff.mp e
    refine Rn.hp hT rfl rfl (pV_hp rfl e_1184) ?_
    exact Rn.weak (ll_n ll_e) (rX7_dropFirst_b36 hd hq e)
set_option maxRecDepth 10000 in
theorem hX7_add : iv_Tb 96 tX7_add := iv_tb_of (m := mX7_add) rfl
set_option maxRecDepth 10000 in
theorem gX7_add : PG.2 96 = some mX7_add := iv_pi_of (t := tX7_add) rfl (by decide)
def fX7_add (N : Nat) (h : iv_H) (q0 : Nat) (y1 : Int64) : Option (Int32 × iv_H) := ((gI h 7 1 q0).bind fun v_1185 => ((gR h 7 0 q0).bind fun v_1187 => ((aL h v_1187).bind fun v_1189 => (if v_1185 < v_1189 then ((gR h 7 0 q0).bind fun v_1192 => ((gI h 7 1 q0).bind fun v_1194 => ((wJ h v_1192 v_1194 y1).bind fun h_1196 => ((gI h_1196 7 1 q0).bind fun v_1198 => ((pV h_1196 7 1 q0 (.int (v_1198 + (1 : Int32)))).bind fun h_1200 => (some ((1 : Int32), h_1200))))))) else (some ((0 : Int32), h))))))
set_option maxRecDepth 10000 in
set_option maxHeartbeats 4000000 in
theorem rX7_add {d N : Nat} (hd : 1 ≤ d) {h : iv_H} {q0 : Nat} {y1 : Int64} {r : Int32 × iv_H} {Q : Option Value → iv_H → Prop} (e : fX7_add N h q0 y1 = some r) (hq : Q (some (.int r.1)) r.2) : Cl d 96 [.ref q0, .long y1] h Q := by
  obtain ⟨d, rfl⟩ : ∃ k, d = k + 1 := ⟨d - 1, by omega⟩
  have hd : 0 ≤ d := by omega
  have hT := hX7_add
  unfold fX7_add at e
  refine Cl.into (by decide) gX7_add rfl ?_
  show Rn d 96 (some .boolean) 0 [some (.ref q0), some (.long y1), none] [] h Q
  refine Rn.n hT 1 (pc' := 1) (L' := [some (.ref q0), some (.long y1), none]) (st' := [.ref q0]) rfl ?_
  obtain ⟨v_1185, e_1186, e⟩ := Option.bind_eq_some_iff.mp e
  refine Rn.hp hT rfl rfl (gI_hp e_1186) ?_
  refine Rn.n hT 1 (pc' := 5) (L' := [some (.ref q0), some (.long y1), none]) (st' := [.ref q0, .int v_1185]) rfl ?_
  obtain ⟨v_1187, e_1188, e⟩ := Option.bind_eq_some_iff.mp e
  refine Rn.hp hT rfl rfl (gR_hp e_1188) ?_
  obtain ⟨v_1189, e_1190, e⟩ := Option.bind_eq_some_iff.mp e
  refine Rn.hp hT rfl rfl (aL_hp e_1190) ?_
  by_cases c_1191 : v_1185 < v_1189
  · rw [if_pos c_1191] at e
    refine Rn.bt hT rfl rfl rfl (decide_eq_true c_1191) ?_
    refine Rn.n hT 1 (pc' := 15) (L' := [some (.ref q0), some (.long y1), none]) (st' := [.ref q0]) rfl ?_
    obtain ⟨v_1192, e_1193, e⟩ := Option.bind_eq_some_iff.mp e
    refine Rn.hp hT rfl rfl (gR_hp e_1193) ?_
    refine Rn.n hT 1 (pc' := 19) (L' := [some (.ref q0), some (.long y1), none]) (st' := [.ref q0, .ref v_1192]) rfl ?_
    obtain ⟨v_1194, e_1195, e⟩ := Option.bind_eq_some_iff.mp e
    refine Rn.hp hT rfl rfl (gI_hp e_1195) ?_
    refine Rn.n hT 1 (pc' := 23) (L' := [some (.ref q0), some (.long y1), none]) (st' := [.long y1, .int v_1194, .ref v_1192]) rfl ?_
    obtain ⟨h_1196, e_1197, e⟩ := Option.bind_eq_some_iff.mp e
    refine Rn.hp hT rfl rfl (wJ_hp e_1197) ?_
    refine Rn.n hT 2 (pc' := 26) (L' := [some (.ref q0), some (.long y1), none]) (st' := [.ref q0, .ref q0]) rfl ?_
    obtain ⟨v_1198, e_1199, e⟩ := Option.bind_eq_some_iff.mp e
    refine Rn.hp hT rfl rfl (gI_hp e_1199) ?_
    refine Rn.n hT 2 (pc' := 31) (L' := [some (.ref q0), some (.long y1), none]) (st' := [.int (v_1198 + (1 : Int32)), .ref q0]) rfl ?_
    obtain ⟨h_1200, e_1201, e⟩ := Option.bind_eq_some_iff.mp e
    refine Rn.hp hT rfl rfl (pV_hp rfl e_1201) ?_
    refine Rn.n hT 1 (pc' := 35) (L' := [some (.ref q0), some (.long y1), none]) (st' := [.int (1 : Int32)]) rfl ?_
    obtain rfl := Option.some.inj e
    exact Rn.ret hT rfl rfl rfl hq
  · rw [if_neg c_1191] at e
    refine Rn.bf hT rfl rfl rfl (decide_eq_false c_1191) ?_
    refine Rn.n hT 1 (pc' := 13) (L' := [some (.ref q0), some (.long y1), none]) (st' := [.int (0 : Int32)]) rfl ?_
    obtain rfl := Option.some.inj e
    exact Rn.ret hT rfl rfl rfl hq
set_option maxRecDepth 10000 in
theorem hX2_keepPast : iv_Tb 52 tX2_keepPast := iv_tb_of (m := mX2_keepPast) rfl
set_option maxRecDepth 10000 in
theorem gX2_keepPast : PG.2 52 = some mX2_keepPast := iv_pi_of (t := tX2_keepPast) rfl (by decide)
def fX2_keepPast_b26 (N : Nat) (h : iv_H) (q0 : Nat)  : Option (iv_H) := ((gR h 2 12 q0).bind fun v_1219 => ((gR h 2 9 q0).bind fun v_1221 => ((gJ h 1 3 v_1221).bind fun v_1223 => ((cko h v_1219 7).bind fun _ => (fX7_add N h v_1219 v_1223).bind fun p_1240 => (fun (v_1227 : Int32) (h_1228 : iv_H) => ((gR h_1228 2 13 q0).bind fun v_1229 => ((gR h_1228 2 9 q0).bind fun v_1231 => ((gI h_1228 1 4 v_1231).bind fun v_1233 => ((cko h_1228 v_1229 7).bind fun _ => (fX7_add N h_1228 v_1229 ((v_1233).toInt64)).bind fun p_1239 => (fun (v_1237 : Int32) (h_1238 : iv_H) => some h_1238) p_1239.1 p_1239.2))))) p_1240.1 p_1240.2))))
set_option maxRecDepth 10000 in
set_option maxHeartbeats 4000000 in
theorem rX2_keepPast_b26 {d N : Nat} (hd : 1 ≤ d) {h : iv_H} {q0 : Nat}  {r : iv_H} {Q : Option Value → iv_H → Prop} (hq : Q none r) (e : fX2_keepPast_b26 N h q0  = some r) : Rn d 52 none 26 [some (.ref q0)] [] h Q := by
  have hT := hX2_keepPast
  unfold fX2_keepPast_b26 at e
  refine Rn.n hT 1 (pc' := 27) (L' := [some (.ref q0)]) (st' := [.ref q0]) rfl ?_
  obtain ⟨v_1219, e_1220, e⟩ := Option.bind_eq_some_iff.mp e
  refine Rn.hp hT rfl rfl (gR_hp e_1220) ?_
  refine Rn.n hT 1 (pc' := 31) (L' := [some (.ref q0)]) (st' := [.ref q0, .ref v_1219]) rfl ?_
  obtain ⟨v_1221, e_1222, e⟩ := Option.bind_eq_some_iff.mp e
  refine Rn.hp hT rfl rfl (gR_hp e_1222) ?_
  obtain ⟨v_1223, e_1224, e⟩ := Option.bind_eq_some_iff.mp e
  refine Rn.hp hT rfl rfl (gJ_hp e_1224) ?_
  obtain ⟨_, e_1226, e⟩ := Option.bind_eq_some_iff.mp e
  obtain ⟨⟨v_1227, h_1228⟩, e_1225, e⟩ := Option.bind_eq_some_iff.mp e
  try dsimp only at e
  try dsimp only at e
  refine Rn.call hT rfl rfl rfl (Nat.le_of_ble_eq_true rfl) (rcv_v gX7_add (by omega) e_1226) (rX7_add (by omega) e_1225 ?_)
  show Rn d _ _ 40 [some (.ref q0)] [.int v_1227] h_1228 Q
  refine Rn.n hT 2 (pc' := 42) (L' := [some (.ref q0)]) (st' := [.ref q0]) rfl ?_
  obtain ⟨v_1229, e_1230, e⟩ := Option.bind_eq_some_iff.mp e
  refine Rn.hp hT rfl rfl (gR_hp e_1230) ?_
  refine Rn.n hT 1 (pc' := 46) (L' := [some (.ref q0)]) (st' := [.ref q0, .ref v_1229]) rfl ?_
  obtain ⟨v_1231, e_1232, e⟩ := Option.bind_eq_some_iff.mp e
  refine Rn.hp hT rfl rfl (gR_hp e_1232) ?_
  obtain ⟨v_1233, e_1234, e⟩ := Option.bind_eq_some_iff.mp e
  refine Rn.hp hT rfl rfl (gI_hp e_1234) ?_
  refine Rn.n hT 1 (pc' := 53) (L' := [some (.ref q0)]) (st' := [.long ((v_1233).toInt64), .ref v_1229]) rfl ?_
  obtain ⟨_, e_1236, e⟩ := Option.bind_eq_some_iff.mp e
  obtain ⟨⟨v_1237, h_1238⟩, e_1235, e⟩ := Option.bind_eq_some_iff.mp e
  try dsimp only at e
  try dsimp only at e
  refine Rn.call hT rfl rfl rfl (Nat.le_of_ble_eq_true rfl) (rcv_v gX7_add (by omega) e_1236) (rX7_add (by omega) e_1235 ?_)
  show Rn d _ _ 56 [some (.ref q0)] [.int v_1237] h_1238 Q
  refine Rn.n hT 1 (pc' := 57) (L' := [some (.ref q0)]) (st' := []) rfl ?_
  obtain rfl := Option.some.inj e
  exact Rn.ret hT rfl rfl rfl hq
def fX2_keepPast (N : Nat) (h : iv_H) (q0 : Nat) : Option (iv_H) := ((gR h 2 12 q0).bind fun v_1202 => ((gI h 7 1 v_1202).bind fun v_1204 => (if v_1204 < (20 : Int32) then (fX2_keepPast_b26 N h q0) else ((gR h 2 12 q0).bind fun v_1207 => ((cko h v_1207 7).bind fun _ => (fX7_dropFirst N h v_1207).bind fun h_1212 => ((gR h_1212 2 13 q0).bind fun v_1213 => ((cko h_1212 v_1213 7).bind fun _ => (fX7_dropFirst N h_1212 v_1213).bind fun h_1218 => (fX2_keepPast_b26 N h_1218 q0))))))))
set_option maxRecDepth 10000 in
set_option maxHeartbeats 4000000 in
theorem rX2_keepPast {d N : Nat} (hd : 2 ≤ d) {h : iv_H} {q0 : Nat} {r : iv_H} {Q : Option Value → iv_H → Prop} (e : fX2_keepPast N h q0 = some r) (hq : Q none r) : Cl d 52 [.ref q0] h Q := by
  obtain ⟨d, rfl⟩ : ∃ k, d = k + 1 := ⟨d - 1, by omega⟩
  have hd : 1 ≤ d := by omega
  have hT := hX2_keepPast
  unfold fX2_keepPast at e
  refine Cl.into (by decide) gX2_keepPast rfl ?_
  show Rn d 52 none 0 [some (.ref q0)] [] h Q
  refine Rn.n hT 1 (pc' := 1) (L' := [some (.ref q0)]) (st' := [.ref q0]) rfl ?_
  obtain ⟨v_1202, e_1203, e⟩ := Option.bind_eq_some_iff.mp e
  refine Rn.hp hT rfl rfl (gR_hp e_1203) ?_
  obtain ⟨v_1204, e_1205, e⟩ := Option.bind_eq_some_iff.mp e
  refine Rn.hp hT rfl rfl (gI_hp e_1205) ?_
  refine Rn.n hT 1 (pc' := 9) (L' := [some (.ref q0)]) (st' := [.int (20 : Int32), .int v_1204]) rfl ?_
  by_cases c_1206 : v_1204 < (20 : Int32)
  · rw [if_pos c_1206] at e
    refine Rn.bt hT rfl rfl rfl (decide_eq_true c_1206) ?_
    exact Rn.weak (ll_s ll_e) (rX2_keepPast_b26 hd hq e)
  · rw [if_neg c_1206] at e
    refine Rn.bf hT rfl rfl rfl (decide_eq_false c_1206) ?_
    refine Rn.n hT 1 (pc' := 13) (L' := [some (.ref q0)]) (st' := [.ref q0]) rfl ?_
    obtain ⟨v_1207, e_1208, e⟩ := Option.bind_eq_some_iff.mp e
    refine Rn.hp hT rfl rfl (gR_hp e_1208) ?_
    obtain ⟨_, e_1210, e⟩ := Option.bind_eq_some_iff.mp e
    obtain ⟨h_1212, e_1209, e⟩ := Option.bind_eq_some_iff.mp e
    refine Rn.call hT rfl rfl rfl (Nat.le_of_ble_eq_true rfl) (rcv_v gX7_dropFirst (by omega) e_1210) (rX7_dropFirst (by omega) e_1209 ?_)
    show Rn d _ _ 19 [some (.ref q0)] [] h_1212 Q
    refine Rn.n hT 1 (pc' := 20) (L' := [some (.ref q0)]) (st' := [.ref q0]) rfl ?_
    obtain ⟨v_1213, e_1214, e⟩ := Option.bind_eq_some_iff.mp e
    refine Rn.hp hT rfl rfl (gR_hp e_1214) ?_
    obtain ⟨_, e_1216, e⟩ := Option.bind_eq_some_iff.mp e
    obtain ⟨h_1218, e_1215, e⟩ := Option.bind_eq_some_iff.mp e
    refine Rn.call hT rfl rfl rfl (Nat.le_of_ble_eq_true rfl) (rcv_v gX7_dropFirst (by omega) e_1216) (rX7_dropFirst (by omega) e_1215 ?_)
    show Rn d _ _ 26 [some (.ref q0)] [] h_1218 Q
    exact Rn.weak (ll_s ll_e) (rX2_keepPast_b26 hd hq e)
set_option maxRecDepth 10000 in
theorem hX2_takeNightBack : iv_Tb 54 tX2_takeNightBack := iv_tb_of (m := mX2_takeNightBack) rfl
set_option maxRecDepth 10000 in
theorem gX2_takeNightBack : PG.2 54 = some mX2_takeNightBack := iv_pi_of (t := tX2_takeNightBack) rfl (by decide)
def fX2_takeNightBack_b20 (N : Nat) (h : iv_H)   : Option (iv_H) := some h
set_option maxRecDepth 10000 in
set_option maxHeartbeats 4000000 in
theorem rX2_takeNightBack_b20 {d N : Nat} (hd : 3 ≤ d) {h : iv_H}   {r : iv_H} {Q : Option Value → iv_H → Prop} (hq : Q none r) (e : fX2_takeNightBack_b20 N h   = some r) : Rn d 54 none 20 [none, none] [] h Q := by
  have hT := hX2_takeNightBack
  unfold fX2_takeNightBack_b20 at e
  obtain rfl := Option.some.inj e
  exact Rn.ret hT rfl rfl rfl hq
def fX2_takeNightBack (N : Nat) (h : iv_H) (q0 : Nat) : Option (iv_H) := ((gR h 2 12 q0).bind fun v_1241 => ((gI h 7 1 v_1241).bind fun v_1243 => (if (v_1243 - (1 : Int32)) < 0 then (fX2_takeNightBack_b20 N h) else (if (v_1243 - (1 : Int32)) < (20 : Int32) then ((gR h 2 9 q0).bind fun v_1247 => ((gR h 2 12 q0).bind fun v_1249 => ((gR h 7 0 v_1249).bind fun v_1251 => ((aJ h v_1251 (v_1243 - (1 : Int32))).bind fun v_1253 => ((gR h 2 13 q0).bind fun v_1255 => ((gR h 7 0 v_1255).bind fun v_1257 => ((aJ h v_1257 (v_1243 - (1 : Int32))).bind fun v_1259 => ((cko h v_1247 1).bind fun _ => (fX1_arrange N h v_1247 v_1253 ((v_1259).toInt32)).bind fun h_1264 => ((gR h_1264 2 12 q0).bind fun v_1265 => ((pV h_1264 7 1 v_1265 (.int (v_1243 - (1 : Int32)))).bind fun h_1267 => ((gR h_1267 2 13 q0).bind fun v_1269 => ((pV h_1267 7 1 v_1269 (.int (v_1243 - (1 : Int32)))).bind fun h_1271 => ((gI h_1271 2 6 q0).bind fun v_1273 => ((pV h_1271 2 6 q0 (.int (v_1273 - (1 : Int32)))).bind fun h_1275 => some h_1275)))))))))))))) else (fX2_takeNightBack_b20 N h)))))
set_option maxRecDepth 10000 in
set_option maxHeartbeats 4000000 in
theorem rX2_takeNightBack {d N : Nat} (hd : 4 ≤ d) {h : iv_H} {q0 : Nat} {r : iv_H} {Q : Option Value → iv_H → Prop} (e : fX2_takeNightBack N h q0 = some r) (hq : Q none r) : Cl d 54 [.ref q0] h Q := by
  obtain ⟨d, rfl⟩ : ∃ k, d = k + 1 := ⟨d - 1, by omega⟩
  have hd : 3 ≤ d := by omega
  have hT := hX2_takeNightBack
  unfold fX2_takeNightBack at e
  refine Cl.into (by decide) gX2_takeNightBack rfl ?_
  show Rn d 54 none 0 [some (.ref q0), none] [] h Q
  refine Rn.n hT 1 (pc' := 1) (L' := [some (.ref q0), none]) (st' := [.ref q0]) rfl ?_
  obtain ⟨v_1241, e_1242, e⟩ := Option.bind_eq_some_iff.mp e
  refine Rn.hp hT rfl rfl (gR_hp e_1242) ?_
  obtain ⟨v_1243, e_1244, e⟩ := Option.bind_eq_some_iff.mp e
  refine Rn.hp hT rfl rfl (gI_hp e_1244) ?_
  refine Rn.n hT 4 (pc' := 11) (L' := [some (.ref q0), some (.int (v_1243 - (1 : Int32)))]) (st' := [.int (v_1243 - (1 : Int32))]) rfl ?_
  by_cases c_1245 : (v_1243 - (1 : Int32)) < 0
  · rw [if_pos c_1245] at e
    refine Rn.bt hT rfl rfl rfl (decide_eq_true c_1245) ?_
    exact Rn.weak (ll_n (ll_n ll_e)) (rX2_takeNightBack_b20 hd hq e)
  · rw [if_neg c_1245] at e
    refine Rn.bf hT rfl rfl rfl (decide_eq_false c_1245) ?_
    refine Rn.n hT 2 (pc' := 17) (L' := [some (.ref q0), some (.int (v_1243 - (1 : Int32)))]) (st' := [.int (20 : Int32), .int (v_1243 - (1 : Int32))]) rfl ?_
    by_cases c_1246 : (v_1243 - (1 : Int32)) < (20 : Int32)
    · rw [if_pos c_1246] at e
      refine Rn.bt hT rfl rfl rfl (decide_eq_true c_1246) ?_
      refine Rn.n hT 1 (pc' := 22) (L' := [some (.ref q0), some (.int (v_1243 - (1 : Int32)))]) (st' := [.ref q0]) rfl ?_
      obtain ⟨v_1247, e_1248, e⟩ := Option.bind_eq_some_iff.mp e
      refine Rn.hp hT rfl rfl (gR_hp e_1248) ?_
      refine Rn.n hT 1 (pc' := 26) (L' := [some (.ref q0), some (.int (v_1243 - (1 : Int32)))]) (st' := [.ref q0, .ref v_1247]) rfl ?_
      obtain ⟨v_1249, e_1250, e⟩ := Option.bind_eq_some_iff.mp e
      refine Rn.hp hT rfl rfl (gR_hp e_1250) ?_
      obtain ⟨v_1251, e_1252, e⟩ := Option.bind_eq_some_iff.mp e
      refine Rn.hp hT rfl rfl (gR_hp e_1252) ?_
      refine Rn.n hT 1 (pc' := 33) (L' := [some (.ref q0), some (.int (v_1243 - (1 : Int32)))]) (st' := [.int (v_1243 - (1 : Int32)), .ref v_1251, .ref v_1247]) rfl ?_
      obtain ⟨v_1253, e_1254, e⟩ := Option.bind_eq_some_iff.mp e
      refine Rn.hp hT rfl rfl (aJ_hp e_1254) ?_
      refine Rn.n hT 1 (pc' := 35) (L' := [some (.ref q0), some (.int (v_1243 - (1 : Int32)))]) (st' := [.ref q0, .long v_1253, .ref v_1247]) rfl ?_
      obtain ⟨v_1255, e_1256, e⟩ := Option.bind_eq_some_iff.mp e
      refine Rn.hp hT rfl rfl (gR_hp e_1256) ?_
      obtain ⟨v_1257, e_1258, e⟩ := Option.bind_eq_some_iff.mp e
      refine Rn.hp hT rfl rfl (gR_hp e_1258) ?_
      refine Rn.n hT 1 (pc' := 42) (L' := [some (.ref q0), some (.int (v_1243 - (1 : Int32)))]) (st' := [.int (v_1243 - (1 : Int32)), .ref v_1257, .long v_1253, .ref v_1247]) rfl ?_
      obtain ⟨v_1259, e_1260, e⟩ := Option.bind_eq_some_iff.mp e
      refine Rn.hp hT rfl rfl (aJ_hp e_1260) ?_
      refine Rn.n hT 1 (pc' := 44) (L' := [some (.ref q0), some (.int (v_1243 - (1 : Int32)))]) (st' := [.int ((v_1259).toInt32), .long v_1253, .ref v_1247]) rfl ?_
      obtain ⟨_, e_1262, e⟩ := Option.bind_eq_some_iff.mp e
      obtain ⟨h_1264, e_1261, e⟩ := Option.bind_eq_some_iff.mp e
      refine Rn.call hT rfl rfl rfl (Nat.le_of_ble_eq_true rfl) (rcv_v gX1_arrange (by omega) e_1262) (rX1_arrange (by omega) e_1261 ?_)
      show Rn d _ _ 47 [some (.ref q0), some (.int (v_1243 - (1 : Int32)))] [] h_1264 Q
      refine Rn.n hT 1 (pc' := 48) (L' := [some (.ref q0), some (.int (v_1243 - (1 : Int32)))]) (st' := [.ref q0]) rfl ?_
      obtain ⟨v_1265, e_1266, e⟩ := Option.bind_eq_some_iff.mp e
      refine Rn.hp hT rfl rfl (gR_hp e_1266) ?_
      refine Rn.n hT 1 (pc' := 52) (L' := [some (.ref q0), some (.int (v_1243 - (1 : Int32)))]) (st' := [.int (v_1243 - (1 : Int32)), .ref v_1265]) rfl ?_
      obtain ⟨h_1267, e_1268, e⟩ := Option.bind_eq_some_iff.mp e
      refine Rn.hp hT rfl rfl (pV_hp rfl e_1268) ?_
      refine Rn.n hT 1 (pc' := 56) (L' := [some (.ref q0), some (.int (v_1243 - (1 : Int32)))]) (st' := [.ref q0]) rfl ?_
      obtain ⟨v_1269, e_1270, e⟩ := Option.bind_eq_some_iff.mp e
      refine Rn.hp hT rfl rfl (gR_hp e_1270) ?_
      refine Rn.n hT 1 (pc' := 60) (L' := [some (.ref q0), some (.int (v_1243 - (1 : Int32)))]) (st' := [.int (v_1243 - (1 : Int32)), .ref v_1269]) rfl ?_
      obtain ⟨h_1271, e_1272, e⟩ := Option.bind_eq_some_iff.mp e
      refine Rn.hp hT rfl rfl (pV_hp rfl e_1272) ?_
      refine Rn.n hT 2 (pc' := 65) (L' := [some (.ref q0), some (.int (v_1243 - (1 : Int32)))]) (st' := [.ref q0, .ref q0]) rfl ?_
      obtain ⟨v_1273, e_1274, e⟩ := Option.bind_eq_some_iff.mp e
      refine Rn.hp hT rfl rfl (gI_hp e_1274) ?_
      refine Rn.n hT 2 (pc' := 70) (L' := [some (.ref q0), some (.int (v_1243 - (1 : Int32)))]) (st' := [.int (v_1273 - (1 : Int32)), .ref q0]) rfl ?_
      obtain ⟨h_1275, e_1276, e⟩ := Option.bind_eq_some_iff.mp e
      refine Rn.hp hT rfl rfl (pV_hp rfl e_1276) ?_
      obtain rfl := Option.some.inj e
      exact Rn.ret hT rfl rfl rfl hq
    · rw [if_neg c_1246] at e
      refine Rn.bf hT rfl rfl rfl (decide_eq_false c_1246) ?_
      exact Rn.weak (ll_n (ll_n ll_e)) (rX2_takeNightBack_b20 hd hq e)
set_option maxRecDepth 10000 in
theorem hX2_hasDraft : iv_Tb 55 tX2_hasDraft := iv_tb_of (m := mX2_hasDraft) rfl
set_option maxRecDepth 10000 in
theorem gX2_hasDraft : PG.2 55 = some mX2_hasDraft := iv_pi_of (t := tX2_hasDraft) rfl (by decide)
def fX2_hasDraft_b26 (N : Nat) (h : iv_H)  (s0 : Int32) : Option (Int32) := (if s0 = 0 ∨ s0 = 1 then some s0 else none)
set_option maxRecDepth 10000 in
set_option maxHeartbeats 4000000 in
theorem rX2_hasDraft_b26 {d N : Nat} (hd : 0 ≤ d) {h : iv_H}  {s0 : Int32} {r : Int32} {Q : Option Value → iv_H → Prop} (hq : Q (some (.int r)) h) (e : fX2_hasDraft_b26 N h  s0 = some r) : Rn d 55 (some .boolean) 26 [none, none] [.int s0] h Q := by
  have hT := hX2_hasDraft
  unfold fX2_hasDraft_b26 at e
  by_cases c_1282 : s0 = 0 ∨ s0 = 1
  · rw [if_pos c_1282] at e
    obtain rfl := Option.some.inj e
    exact Rn.ret hT rfl rfl (if_pos c_1282) hq
  · rw [if_neg c_1282] at e
    cases e
def fX2_hasDraft_b25 (N : Nat) (h : iv_H)   : Option (Int32) := (fX2_hasDraft_b26 N h (0 : Int32))
set_option maxRecDepth 10000 in
set_option maxHeartbeats 4000000 in
theorem rX2_hasDraft_b25 {d N : Nat} (hd : 0 ≤ d) {h : iv_H}   {r : Int32} {Q : Option Value → iv_H → Prop} (hq : Q (some (.int r)) h) (e : fX2_hasDraft_b25 N h   = some r) : Rn d 55 (some .boolean) 25 [none, none] [] h Q := by
  have hT := hX2_hasDraft
  unfold fX2_hasDraft_b25 at e
  refine Rn.n hT 1 (pc' := 26) (L' := [none, none]) (st' := [.int (0 : Int32)]) rfl ?_
  exact Rn.weak (ll_n (ll_n ll_e)) (rX2_hasDraft_b26 hd hq e)
def fX2_hasDraft (N : Nat) (h : iv_H) (q0 : Nat) (x1 : Int32) : Option (Int32) := (if x1 < 0 then (fX2_hasDraft_b25 N h) else (if (4 : Int32) ≤ x1 then (fX2_hasDraft_b25 N h) else ((gI h 2 8 q0).bind fun v_1279 => (if ((v_1279 >>> (x1 &&& 31)) &&& (1 : Int32)) = (1 : Int32) then (fX2_hasDraft_b26 N h (1 : Int32)) else (fX2_hasDraft_b25 N h)))))
set_option maxRecDepth 10000 in
set_option maxHeartbeats 4000000 in
theorem rX2_hasDraft {d N : Nat} (hd : 1 ≤ d) {h : iv_H} {q0 : Nat} {x1 : Int32} {r : Int32} {Q : Option Value → iv_H → Prop} (e : fX2_hasDraft N h q0 x1 = some r) (hq : Q (some (.int r)) h) : Cl d 55 [.ref q0, .int x1] h Q := by
  obtain ⟨d, rfl⟩ : ∃ k, d = k + 1 := ⟨d - 1, by omega⟩
  have hd : 0 ≤ d := by omega
  have hT := hX2_hasDraft
  unfold fX2_hasDraft at e
  refine Cl.into (by decide) gX2_hasDraft rfl ?_
  show Rn d 55 (some .boolean) 0 [some (.ref q0), some (.int x1)] [] h Q
  refine Rn.n hT 1 (pc' := 1) (L' := [some (.ref q0), some (.int x1)]) (st' := [.int x1]) rfl ?_
  by_cases c_1277 : x1 < 0
  · rw [if_pos c_1277] at e
    refine Rn.bt hT rfl rfl rfl (decide_eq_true c_1277) ?_
    exact Rn.weak (ll_n (ll_n ll_e)) (rX2_hasDraft_b25 hd hq e)
  · rw [if_neg c_1277] at e
    refine Rn.bf hT rfl rfl rfl (decide_eq_false c_1277) ?_
    refine Rn.n hT 2 (pc' := 6) (L' := [some (.ref q0), some (.int x1)]) (st' := [.int (4 : Int32), .int x1]) rfl ?_
    by_cases c_1278 : (4 : Int32) ≤ x1
    · rw [if_pos c_1278] at e
      refine Rn.bt hT rfl rfl rfl (decide_eq_true c_1278) ?_
      exact Rn.weak (ll_n (ll_n ll_e)) (rX2_hasDraft_b25 hd hq e)
    · rw [if_neg c_1278] at e
      refine Rn.bf hT rfl rfl rfl (decide_eq_false c_1278) ?_
      refine Rn.n hT 1 (pc' := 10) (L' := [some (.ref q0), some (.int x1)]) (st' := [.ref q0]) rfl ?_
      obtain ⟨v_1279, e_1280, e⟩ := Option.bind_eq_some_iff.mp e
      refine Rn.hp hT rfl rfl (gI_hp e_1280) ?_
      refine Rn.n hT 5 (pc' := 18) (L' := [some (.ref q0), some (.int x1)]) (st' := [.int (1 : Int32), .int ((v_1279 >>> (x1 &&& 31)) &&& (1 : Int32))]) rfl ?_
      by_cases c_1281 : ((v_1279 >>> (x1 &&& 31)) &&& (1 : Int32)) = (1 : Int32)
      · rw [if_pos c_1281] at e
        refine Rn.bf hT rfl rfl rfl (decide_eq_false (fun z => z c_1281)) ?_
        refine Rn.n hT 2 (pc' := 26) (L' := [some (.ref q0), some (.int x1)]) (st' := [.int (1 : Int32)]) rfl ?_
        exact Rn.weak (ll_n (ll_n ll_e)) (rX2_hasDraft_b26 hd hq e)
      · rw [if_neg c_1281] at e
        refine Rn.bt hT rfl rfl rfl (decide_eq_true c_1281) ?_
        exact Rn.weak (ll_n (ll_n ll_e)) (rX2_hasDraft_b25 hd hq e)
set_option maxRecDepth 10000 in
theorem hX2_keepDraft : iv_Tb 56 tX2_keepDraft := iv_tb_of (m := mX2_keepDraft) rfl
set_option maxRecDepth 10000 in
theorem gX2_keepDraft : PG.2 56 = some mX2_keepDraft := iv_pi_of (t := tX2_keepDraft) rfl (by decide)
def fX2_keepDraft (N : Nat) (h : iv_H) (q0 : Nat) (x1 : Int32) (q2 : Nat) : Option (iv_H) := ((gI h 2 8 q0).bind fun v_1283 => ((pV h 2 8 q0 (.int (v_1283 ||| ((1 : Int32) <<< (x1 &&& 31))))).bind fun h_1285 => ((gR h_1285 2 14 q0).bind fun v_1287 => ((gJ h_1285 1 3 q2).bind fun v_1289 => ((wJ h_1285 v_1287 x1 v_1289).bind fun h_1291 => ((gR h_1291 2 15 q0).bind fun v_1293 => ((gI h_1291 1 4 q2).bind fun v_1295 => ((wI h_1291 v_1293 x1 v_1295).bind fun h_1297 => some h_1297))))))))
set_option maxRecDepth 10000 in
set_option maxHeartbeats 4000000 in
theorem rX2_keepDraft {d N : Nat} (hd : 1 ≤ d) {h : iv_H} {q0 : Nat} {x1 : Int32} {q2 : Nat} {r : iv_H} {Q : Option Value → iv_H → Prop} (e : fX2_keepDraft N h q0 x1 q2 = some r) (hq : Q none r) : Cl d 56 [.ref q0, .int x1, .ref q2] h Q := by
  obtain ⟨d, rfl⟩ : ∃ k, d = k + 1 := ⟨d - 1, by omega⟩
  have hd : 0 ≤ d := by omega
  have hT := hX2_keepDraft
  unfold fX2_keepDraft at e
  refine Cl.into (by decide) gX2_keepDraft rfl ?_
  show Rn d 56 none 0 [some (.ref q0), some (.int x1), some (.ref q2)] [] h Q
  refine Rn.n hT 2 (pc' := 2) (L' := [some (.ref q0), some (.int x1), some (.ref q2)]) (st' := [.ref q0, .ref q0]) rfl ?_
  obtain ⟨v_1283, e_1284, e⟩ := Option.bind_eq_some_iff.mp e
  refine Rn.hp hT rfl rfl (gI_hp e_1284) ?_
  refine Rn.n hT 4 (pc' := 9) (L' := [some (.ref q0), some (.int x1), some (.ref q2)]) (st' := [.int (v_1283 ||| ((1 : Int32) <<< (x1 &&& 31))), .ref q0]) rfl ?_
  obtain ⟨h_1285, e_1286, e⟩ := Option.bind_eq_some_iff.mp e
  refine Rn.hp hT rfl rfl (pV_hp rfl e_1286) ?_
  refine Rn.n hT 1 (pc' := 13) (L' := [some (.ref q0), some (.int x1), some (.ref q2)]) (st' := [.ref q0]) rfl ?_
  obtain ⟨v_1287, e_1288, e⟩ := Option.bind_eq_some_iff.mp e
  refine Rn.hp hT rfl rfl (gR_hp e_1288) ?_
  refine Rn.n hT 2 (pc' := 18) (L' := [some (.ref q0), some (.int x1), some (.ref q2)]) (st' := [.ref q2, .int x1, .ref v_1287]) rfl ?_
  obtain ⟨v_1289, e_1290, e⟩ := Option.bind_eq_some_iff.mp e
  refine Rn.hp hT rfl rfl (gJ_hp e_1290) ?_
  obtain ⟨h_1291, e_1292, e⟩ := Option.bind_eq_some_iff.mp e
  refine Rn.hp hT rfl rfl (wJ_hp e_1292) ?_
  refine Rn.n hT 1 (pc' := 23) (L' := [some (.ref q0), some (.int x1), some (.ref q2)]) (st' := [.ref q0]) rfl ?_
  obtain ⟨v_1293, e_1294, e⟩ := Option.bind_eq_some_iff.mp e
  refine Rn.hp hT rfl rfl (gR_hp e_1294) ?_
  refine Rn.n hT 2 (pc' := 28) (L' := [some (.ref q0), some (.int x1), some (.ref q2)]) (st' := [.ref q2, .int x1, .ref v_1293]) rfl ?_
  obtain ⟨v_1295, e_1296, e⟩ := Option.bind_eq_some_iff.mp e
  refine Rn.hp hT rfl rfl (gI_hp e_1296) ?_
  obtain ⟨h_1297, e_1298, e⟩ := Option.bind_eq_some_iff.mp e
  refine Rn.hp hT rfl rfl (wI_hp e_1298) ?_
  obtain rfl := Option.some.inj e
  exact Rn.ret hT rfl rfl rfl hq
set_option maxRecDepth 10000 in
theorem hX2_draftCell : iv_Tb 57 tX2_draftCell := iv_tb_of (m := mX2_draftCell) rfl
set_option maxRecDepth 10000 in
theorem gX2_draftCell : PG.2 57 = some mX2_draftCell := iv_pi_of (t := tX2_draftCell) rfl (by decide)
def fX2_draftCell (N : Nat) (h : iv_H) (q0 : Nat) (x1 : Int32) (x2 : Int32) : Option (Int32) := ((gR h 2 14 q0).bind fun v_1299 => ((aJ h v_1299 x1).bind fun v_1301 => (some (((v_1301 >>> ((((4 : Int32) * x2)).toInt64 &&& 63))).toInt32 &&& (15 : Int32)))))
set_option maxRecDepth 10000 in
set_option maxHeartbeats 4000000 in
theorem rX2_draftCell {d N : Nat} (hd : 1 ≤ d) {h : iv_H} {q0 : Nat} {x1 : Int32} {x2 : Int32} {r : Int32} {Q : Option Value → iv_H → Prop} (e : fX2_draftCell N h q0 x1 x2 = some r) (hq : Q (some (.int r)) h) : Cl d 57 [.ref q0, .int x1, .int x2] h Q := by
  obtain ⟨d, rfl⟩ : ∃ k, d = k + 1 := ⟨d - 1, by omega⟩
  have hd : 0 ≤ d := by omega
  have hT := hX2_draftCell
  unfold fX2_draftCell at e
  refine Cl.into (by decide) gX2_draftCell rfl ?_
  show Rn d 57 (some .int) 0 [some (.ref q0), some (.int x1), some (.int x2)] [] h Q
  refine Rn.n hT 1 (pc' := 1) (L' := [some (.ref q0), some (.int x1), some (.int x2)]) (st' := [.ref q0]) rfl ?_
  obtain ⟨v_1299, e_1300, e⟩ := Option.bind_eq_some_iff.mp e
  refine Rn.hp hT rfl rfl (gR_hp e_1300) ?_
  refine Rn.n hT 1 (pc' := 5) (L' := [some (.ref q0), some (.int x1), some (.int x2)]) (st' := [.int x1, .ref v_1299]) rfl ?_
  obtain ⟨v_1301, e_1302, e⟩ := Option.bind_eq_some_iff.mp e
  refine Rn.hp hT rfl rfl (aJ_hp e_1302) ?_
  refine Rn.n hT 7 (pc' := 14) (L' := [some (.ref q0), some (.int x1), some (.int x2)]) (st' := [.int (((v_1301 >>> ((((4 : Int32) * x2)).toInt64 &&& 63))).toInt32 &&& (15 : Int32))]) rfl ?_
  obtain rfl := Option.some.inj e
  exact Rn.ret hT rfl rfl rfl hq
set_option maxRecDepth 10000 in
theorem hX2_draftTurn : iv_Tb 58 tX2_draftTurn := iv_tb_of (m := mX2_draftTurn) rfl
set_option maxRecDepth 10000 in
theorem gX2_draftTurn : PG.2 58 = some mX2_draftTurn := iv_pi_of (t := tX2_draftTurn) rfl (by decide)
def fX2_draftTurn (N : Nat) (h : iv_H) (q0 : Nat) (x1 : Int32) (x2 : Int32) : Option (Int32) := ((gR h 2 15 q0).bind fun v_1303 => ((aI h v_1303 x1).bind fun v_1305 => (some ((v_1305 >>> (((2 : Int32) * x2) &&& 31)) &&& (3 : Int32)))))
set_option maxRecDepth 10000 in
set_option maxHeartbeats 4000000 in
theorem rX2_draftTurn {d N : Nat} (hd : 1 ≤ d) {h : iv_H} {q0 : Nat} {x1 : Int32} {x2 : Int32} {r : Int32} {Q : Option Value → iv_H → Prop} (e : fX2_draftTurn N h q0 x1 x2 = some r) (hq : Q (some (.int r)) h) : Cl d 58 [.ref q0, .int x1, .int x2] h Q := by
  obtain ⟨d, rfl⟩ : ∃ k, d = k + 1 := ⟨d - 1, by omega⟩
  have hd : 0 ≤ d := by omega
  have hT := hX2_draftTurn
  unfold fX2_draftTurn at e
  refine Cl.into (by decide) gX2_draftTurn rfl ?_
  show Rn d 58 (some .int) 0 [some (.ref q0), some (.int x1), some (.int x2)] [] h Q
  refine Rn.n hT 1 (pc' := 1) (L' := [some (.ref q0), some (.int x1), some (.int x2)]) (st' := [.ref q0]) rfl ?_
  obtain ⟨v_1303, e_1304, e⟩ := Option.bind_eq_some_iff.mp e
  refine Rn.hp hT rfl rfl (gR_hp e_1304) ?_
  refine Rn.n hT 1 (pc' := 5) (L' := [some (.ref q0), some (.int x1), some (.int x2)]) (st' := [.int x1, .ref v_1303]) rfl ?_
  obtain ⟨v_1305, e_1306, e⟩ := Option.bind_eq_some_iff.mp e
  refine Rn.hp hT rfl rfl (aI_hp e_1306) ?_
  refine Rn.n hT 6 (pc' := 12) (L' := [some (.ref q0), some (.int x1), some (.int x2)]) (st' := [.int ((v_1305 >>> (((2 : Int32) * x2) &&& 31)) &&& (3 : Int32))]) rfl ?_
  obtain rfl := Option.some.inj e
  exact Rn.ret hT rfl rfl rfl hq
set_option maxRecDepth 10000 in
theorem hX3_init : iv_Tb 59 tX3_init := iv_tb_of (m := mX3_init) rfl
set_option maxRecDepth 10000 in
theorem gX3_init : PG.2 59 = some mX3_init := iv_pi_of (t := tX3_init) rfl (by decide)
def fX3_init (N : Nat) (h : iv_H) (q0 : Nat) : Option (iv_H) := ((pV h 3 0 q0 (.null)).bind fun h_1308 => ((pV h_1308 3 1 q0 (.null)).bind fun h_1310 => ((pV h_1310 3 2 q0 (.null)).bind fun h_1312 => ((pV h_1312 3 3 q0 (.int (0 : Int32))).bind fun h_1314 => ((pV h_1314 3 4 q0 (.int (0 : Int32))).bind fun h_1316 => ((pV h_1316 3 5 q0 (.int (0 : Int32))).bind fun h_1318 => ((pV h_1318 3 6 q0 (.int (0 : Int32))).bind fun h_1320 => ((nA h_1320 1 (64 : Int32)).bind fun p_1325 => (fun (v_1324 : Nat) (h_1322 : iv_H) => ((pV h_1322 3 7 q0 (.ref v_1324)).bind fun h_1326 => some h_1326)) p_1325.1 p_1325.2))))))))
set_option maxRecDepth 10000 in
set_option maxHeartbeats 4000000 in
theorem rX3_init {d N : Nat} (hd : 1 ≤ d) {h : iv_H} {q0 : Nat} {r : iv_H} {Q : Option Value → iv_H → Prop} (e : fX3_init N h q0 = some r) (hq : Q none r) : Cl d 59 [.ref q0] h Q := by
  obtain ⟨d, rfl⟩ : ∃ k, d = k + 1 := ⟨d - 1, by omega⟩
  have hd : 0 ≤ d := by omega
  have hT := hX3_init
  unfold fX3_init at e
  refine Cl.into (by decide) gX3_init rfl ?_
  show Rn d 59 none 0 [some (.ref q0)] [] h Q
  refine Rn.n hT 1 (pc' := 1) (L' := [some (.ref q0)]) (st' := [.ref q0]) rfl ?_
  refine Rn.hp hT rfl rfl (st' := []) (h1 := h) rfl ?_
  refine Rn.n hT 2 (pc' := 6) (L' := [some (.ref q0)]) (st' := [.null, .ref q0]) rfl ?_
  obtain ⟨h_1308, e_1309, e⟩ := Option.bind_eq_some_iff.mp e
  refine Rn.hp hT rfl rfl (pV_hp rfl e_1309) ?_
  refine Rn.n hT 2 (pc' := 11) (L' := [some (.ref q0)]) (st' := [.null, .ref q0]) rfl ?_
  obtain ⟨h_1310, e_1311, e⟩ := Option.bind_eq_some_iff.mp e
  refine Rn.hp hT rfl rfl (pV_hp rfl e_1311) ?_
  refine Rn.n hT 2 (pc' := 16) (L' := [some (.ref q0)]) (st' := [.null, .ref q0]) rfl ?_
  obtain ⟨h_1312, e_1313, e⟩ := Option.bind_eq_some_iff.mp e
  refine Rn.hp hT rfl rfl (pV_hp rfl e_1313) ?_
  refine Rn.n hT 2 (pc' := 21) (L' := [some (.ref q0)]) (st' := [.int (0 : Int32), .ref q0]) rfl ?_
  obtain ⟨h_1314, e_1315, e⟩ := Option.bind_eq_some_iff.mp e
  refine Rn.hp hT rfl rfl (pV_hp (by decide) e_1315) ?_
  refine Rn.n hT 2 (pc' := 26) (L' := [some (.ref q0)]) (st' := [.int (0 : Int32), .ref q0]) rfl ?_
  obtain ⟨h_1316, e_1317, e⟩ := Option.bind_eq_some_iff.mp e
  refine Rn.hp hT rfl rfl (pV_hp rfl e_1317) ?_
  refine Rn.n hT 2 (pc' := 31) (L' := [some (.ref q0)]) (st' := [.int (0 : Int32), .ref q0]) rfl ?_
  obtain ⟨h_1318, e_1319, e⟩ := Option.bind_eq_some_iff.mp e
  refine Rn.hp hT rfl rfl (pV_hp rfl e_1319) ?_
  refine Rn.n hT 2 (pc' := 36) (L' := [some (.ref q0)]) (st' := [.int (0 : Int32), .ref q0]) rfl ?_
  obtain ⟨h_1320, e_1321, e⟩ := Option.bind_eq_some_iff.mp e
  refine Rn.hp hT rfl rfl (pV_hp rfl e_1321) ?_
  refine Rn.n hT 2 (pc' := 42) (L' := [some (.ref q0)]) (st' := [.int (64 : Int32), .ref q0]) rfl ?_
  obtain ⟨⟨v_1324, h_1322⟩, e_1323, e⟩ := Option.bind_eq_some_iff.mp e
  try dsimp only at e
  refine Rn.hp hT rfl rfl (nA_hp rfl e_1323) ?_
  obtain ⟨h_1326, e_1327, e⟩ := Option.bind_eq_some_iff.mp e
  refine Rn.hp hT rfl rfl (pV_hp rfl e_1327) ?_
  obtain rfl := Option.some.inj e
  exact Rn.ret hT rfl rfl rfl hq
set_option maxRecDepth 10000 in
theorem hX3_look : iv_Tb 61 tX3_look := iv_tb_of (m := mX3_look) rfl
set_option maxRecDepth 10000 in
theorem gX3_look : PG.2 61 = some mX3_look := iv_pi_of (t := tX3_look) rfl (by decide)
def fX3_look_b26 (N : Nat) (h : iv_H)  (s0 : Int32) (sq1 : Nat) : Option (iv_H) := ((pV h 3 5 sq1 (.int s0)).bind fun h_1339 => some h_1339)
set_option maxRecDepth 10000 in
set_option maxHeartbeats 4000000 in
theorem rX3_look_b26 {d N : Nat} (hd : 2 ≤ d) {h : iv_H}  {s0 : Int32} {sq1 : Nat} {r : iv_H} {Q : Option Value → iv_H → Prop} (hq : Q none r) (e : fX3_look_b26 N h  s0 sq1 = some r) : Rn d 61 none 26 [none] [.int s0, .ref sq1] h Q := by
  have hT := hX3_look
  unfold fX3_look_b26 at e
  obtain ⟨h_1339, e_1340, e⟩ := Option.bind_eq_some_iff.mp e
  refine Rn.hp hT rfl rfl (pV_hp rfl e_1340) ?_
  obtain rfl := Option.some.inj e
  exact Rn.ret hT rfl rfl rfl hq
def fX3_look_b25 (N : Nat) (h : iv_H)  (sq0 : Nat) : Option (iv_H) := (fX3_look_b26 N h (0 : Int32) sq0)
set_option maxRecDepth 10000 in
set_option maxHeartbeats 4000000 in
theorem rX3_look_b25 {d N : Nat} (hd : 2 ≤ d) {h : iv_H}  {sq0 : Nat} {r : iv_H} {Q : Option Value → iv_H → Prop} (hq : Q none r) (e : fX3_look_b25 N h  sq0 = some r) : Rn d 61 none 25 [none] [.ref sq0] h Q := by
  have hT := hX3_look
  unfold fX3_look_b25 at e
  refine Rn.n hT 1 (pc' := 26) (L' := [none]) (st' := [.int (0 : Int32), .ref sq0]) rfl ?_
  exact Rn.weak (ll_n ll_e) (rX3_look_b26 hd hq e)
def fX3_look (N : Nat) (h : iv_H) (q0 : Nat) : Option (iv_H) := ((gI h 3 3 q0).bind fun v_1328 => (if v_1328 = 0 then (fX3_look_b25 N h q0) else ((gN h 3 1 q0).bind fun o_1338 => match o_1338 with | none => (fX3_look_b25 N h q0) | some v_1331 => ((gR h 3 1 q0).bind fun v_1333 => ((cko h v_1333 1).bind fun _ => (fX1_mismatches N h v_1333).bind fun v_1337 => (fX3_look_b26 N h v_1337 q0))))))
set_option maxRecDepth 10000 in
set_option maxHeartbeats 4000000 in
theorem rX3_look {d N : Nat} (hd : 3 ≤ d) {h : iv_H} {q0 : Nat} {r : iv_H} {Q : Option Value → iv_H → Prop} (e : fX3_look N h q0 = some r) (hq : Q none r) : Cl d 61 [.ref q0] h Q := by
  obtain ⟨d, rfl⟩ : ∃ k, d = k + 1 := ⟨d - 1, by omega⟩
  have hd : 2 ≤ d := by omega
  have hT := hX3_look
  unfold fX3_look at e
  refine Cl.into (by decide) gX3_look rfl ?_
  show Rn d 61 none 0 [some (.ref q0)] [] h Q
  refine Rn.n hT 2 (pc' := 2) (L' := [some (.ref q0)]) (st' := [.ref q0, .ref q0]) rfl ?_
  obtain ⟨v_1328, e_1329, e⟩ := Option.bind_eq_some_iff.mp e
  refine Rn.hp hT rfl rfl (gI_hp e_1329) ?_
  by_cases c_1330 : v_1328 = 0
  · rw [if_pos c_1330] at e
    refine Rn.bt hT rfl rfl rfl (decide_eq_true c_1330) ?_
    exact Rn.weak (ll_n ll_e) (rX3_look_b25 hd hq e)
  · rw [if_neg c_1330] at e
    refine Rn.bf hT rfl rfl rfl (decide_eq_false c_1330) ?_
    refine Rn.n hT 1 (pc' := 9) (L' := [some (.ref q0)]) (st' := [.ref q0, .ref q0]) rfl ?_
    obtain ⟨o_1338, e_1332, e⟩ := Option.bind_eq_some_iff.mp e
    refine Rn.hp hT rfl rfl (gN_hp e_1332) ?_
    cases o_1338 with
    | none =>
      dsimp only at e
      show Rn d _ _ 12 [some (.ref q0)] [.null, .ref q0] h Q
      refine Rn.bt hT rfl rfl rfl rfl ?_
      exact Rn.weak (ll_n ll_e) (rX3_look_b25 hd hq e)
    | some v_1331 =>
      dsimp only at e
      show Rn d _ _ 12 [some (.ref q0)] [.ref v_1331, .ref q0] h Q
      refine Rn.bf hT rfl rfl rfl rfl ?_
      refine Rn.n hT 1 (pc' := 16) (L' := [some (.ref q0)]) (st' := [.ref q0, .ref q0]) rfl ?_
      obtain ⟨v_1333, e_1334, e⟩ := Option.bind_eq_some_iff.mp e
      refine Rn.hp hT rfl rfl (gR_hp e_1334) ?_
      obtain ⟨_, e_1336, e⟩ := Option.bind_eq_some_iff.mp e
      obtain ⟨v_1337, e_1335, e⟩ := Option.bind_eq_some_iff.mp e
      refine Rn.call hT rfl rfl rfl (Nat.le_of_ble_eq_true rfl) (rcv_v gX1_mismatches (by omega) e_1336) (rX1_mismatches (by omega) e_1335 ?_)
      show Rn d _ _ 22 [some (.ref q0)] [.int v_1337, .ref q0] h Q
      refine Rn.n hT 1 (pc' := 26) (L' := [some (.ref q0)]) (st' := [.int v_1337, .ref q0]) rfl ?_
      exact Rn.weak (ll_n ll_e) (rX3_look_b26 hd hq e)
set_option maxRecDepth 10000 in
theorem hX3_open : iv_Tb 60 tX3_open := iv_tb_of (m := mX3_open) rfl
set_option maxRecDepth 10000 in
theorem gX3_open : PG.2 60 = some mX3_open := iv_pi_of (t := tX3_open) rfl (by decide)
def fX3_open_b32 (N : Nat) (h : iv_H) (q0 : Nat) (q1 : Nat) (s0 : Int32) (sq1 : Nat) : Option (iv_H) := (if s0 = 0 ∨ s0 = 1 then ((pV h 3 3 sq1 (.int s0)).bind fun h_1351 => ((gI h_1351 2 6 q1).bind fun v_1353 => ((pV h_1351 3 4 q0 (.int v_1353)).bind fun h_1355 => ((cko h_1355 q0 3).bind fun _ => (fX3_look N h_1355 q0).bind fun h_1360 => some h_1360)))) else none)
set_option maxRecDepth 10000 in
set_option maxHeartbeats 4000000 in
theorem rX3_open_b32 {d N : Nat} (hd : 3 ≤ d) {h : iv_H} {q0 : Nat} {q1 : Nat} {s0 : Int32} {sq1 : Nat} {r : iv_H} {Q : Option Value → iv_H → Prop} (hq : Q none r) (e : fX3_open_b32 N h q0 q1 s0 sq1 = some r) : Rn d 60 none 32 [some (.ref q0), some (.ref q1), none, none] [.int s0, .ref sq1] h Q := by
  have hT := hX3_open
  unfold fX3_open_b32 at e
  by_cases c_1361 : s0 = 0 ∨ s0 = 1
  · rw [if_pos c_1361] at e
    obtain ⟨h_1351, e_1352, e⟩ := Option.bind_eq_some_iff.mp e
    refine Rn.hp hT rfl rfl (pV_hp (ft_bl c_1361) e_1352) ?_
    refine Rn.n hT 2 (pc' := 37) (L' := [some (.ref q0), some (.ref q1), none, none]) (st' := [.ref q1, .ref q0]) rfl ?_
    obtain ⟨v_1353, e_1354, e⟩ := Option.bind_eq_some_iff.mp e
    refine Rn.hp hT rfl rfl (gI_hp e_1354) ?_
    obtain ⟨h_1355, e_1356, e⟩ := Option.bind_eq_some_iff.mp e
    refine Rn.hp hT rfl rfl (pV_hp rfl e_1356) ?_
    refine Rn.n hT 1 (pc' := 44) (L' := [some (.ref q0), some (.ref q1), none, none]) (st' := [.ref q0]) rfl ?_
    obtain ⟨_, e_1358, e⟩ := Option.bind_eq_some_iff.mp e
    obtain ⟨h_1360, e_1357, e⟩ := Option.bind_eq_some_iff.mp e
    refine Rn.call hT rfl rfl rfl (Nat.le_of_ble_eq_true rfl) (rcv_v gX3_look (by omega) e_1358) (rX3_look (by omega) e_1357 ?_)
    show Rn d _ _ 47 [some (.ref q0), some (.ref q1), none, none] [] h_1360 Q
    obtain rfl := Option.some.inj e
    exact Rn.ret hT rfl rfl rfl hq
  · rw [if_neg c_1361] at e
    cases e
def fX3_open_b27 (N : Nat) (h : iv_H) (q0 : Nat) (q1 : Nat) (sq0 : Nat) : Option (iv_H) := (fX3_open_b32 N h q0 q1 (1 : Int32) sq0)
set_option maxRecDepth 10000 in
set_option maxHeartbeats 4000000 in
theorem rX3_open_b27 {d N : Nat} (hd : 3 ≤ d) {h : iv_H} {q0 : Nat} {q1 : Nat} {sq0 : Nat} {r : iv_H} {Q : Option Value → iv_H → Prop} (hq : Q none r) (e : fX3_open_b27 N h q0 q1 sq0 = some r) : Rn d 60 none 27 [some (.ref q0), some (.ref q1), none, none] [.ref sq0] h Q := by
  have hT := hX3_open
  unfold fX3_open_b27 at e
  refine Rn.n hT 2 (pc' := 32) (L' := [some (.ref q0), some (.ref q1), none, none]) (st' := [.int (1 : Int32), .ref sq0]) rfl ?_
  exact Rn.weak (ll_s (ll_s (ll_n (ll_n ll_e)))) (rX3_open_b32 hd hq e)
def fX3_open (N : Nat) (h : iv_H) (q0 : Nat) (q1 : Nat) (q2 : Nat) (o3 : Option Nat) : Option (iv_H) := ((pV h 3 0 q0 (.ref q1)).bind fun h_1341 => ((pV h_1341 3 1 q0 (.ref q2)).bind fun h_1343 => ((pV h_1343 3 2 q0 (iv_rf o3)).bind fun h_1345 => ((gI h_1345 2 4 q1).bind fun v_1347 => (if v_1347 = 0 then (match o3 with | none => (fX3_open_b32 N h_1345 q0 q1 (0 : Int32) q0) | some v_1350 => (fX3_open_b27 N h_1345 q0 q1 q0)) else (fX3_open_b27 N h_1345 q0 q1 q0))))))
set_option maxRecDepth 10000 in
set_option maxHeartbeats 4000000 in
theorem rX3_open {d N : Nat} (hd : 4 ≤ d) {h : iv_H} {q0 : Nat} {q1 : Nat} {q2 : Nat} {o3 : Option Nat} {r : iv_H} {Q : Option Value → iv_H → Prop} (e : fX3_open N h q0 q1 q2 o3 = some r) (hq : Q none r) : Cl d 60 [.ref q0, .ref q1, .ref q2, iv_rf o3] h Q := by
  obtain ⟨d, rfl⟩ : ∃ k, d = k + 1 := ⟨d - 1, by omega⟩
  have hd : 3 ≤ d := by omega
  have hT := hX3_open
  unfold fX3_open at e
  have he : iv_ent 4 [.ref q0, .ref q1, .ref q2, iv_rf o3] = [some (.ref q0), some (.ref q1), some (.ref q2), some (iv_rf o3)] := by cases o3 <;> rfl
  refine Cl.into (by decide) gX3_open (by rw [he]; rfl) ?_
  rw [he]
  refine Rn.n hT 2 (pc' := 2) (L' := [some (.ref q0), some (.ref q1), some (.ref q2), some (iv_rf o3)]) (st' := [.ref q1, .ref q0]) rfl ?_
  obtain ⟨h_1341, e_1342, e⟩ := Option.bind_eq_some_iff.mp e
  refine Rn.hp hT rfl rfl (pV_hp rfl e_1342) ?_
  refine Rn.n hT 2 (pc' := 7) (L' := [some (.ref q0), some (.ref q1), some (.ref q2), some (iv_rf o3)]) (st' := [.ref q2, .ref q0]) rfl ?_
  obtain ⟨h_1343, e_1344, e⟩ := Option.bind_eq_some_iff.mp e
  refine Rn.hp hT rfl rfl (pV_hp rfl e_1344) ?_
  refine Rn.n hT 1 (pc' := 11) (L' := [some (.ref q0), some (.ref q1), some (.ref q2), some (iv_rf o3)]) (st' := [.ref q0]) rfl ?_
  refine Rn.lo hT rfl rfl (L' := [some (.ref q0), some (.ref q1), some (.ref q2), some (iv_rf o3)]) (st' := [iv_rf o3, .ref q0]) (ldN (o := o3) rfl) ?_
  obtain ⟨h_1345, e_1346, e⟩ := Option.bind_eq_some_iff.mp e
  refine Rn.hp hT rfl rfl (pV_hp ft_rf e_1346) ?_
  refine Rn.n hT 2 (pc' := 17) (L' := [some (.ref q0), some (.ref q1), some (.ref q2), some (iv_rf o3)]) (st' := [.ref q1, .ref q0]) rfl ?_
  obtain ⟨v_1347, e_1348, e⟩ := Option.bind_eq_some_iff.mp e
  refine Rn.hp hT rfl rfl (gI_hp e_1348) ?_
  by_cases c_1349 : v_1347 = 0
  · rw [if_pos c_1349] at e
    refine Rn.bf hT rfl rfl rfl (decide_eq_false (fun z => z c_1349)) ?_
    refine Rn.lo hT rfl rfl (L' := [some (.ref q0), some (.ref q1), some (.ref q2), some (iv_rf o3)]) (st' := [iv_rf o3, .ref q0]) (ldN (o := o3) rfl) ?_
    cases o3 with
    | none =>
      dsimp only at e
      refine Rn.bt hT rfl rfl rfl rfl ?_
      refine Rn.n hT 1 (pc' := 32) (L' := [some (.ref q0), some (.ref q1), some (.ref q2), some (iv_rf none)]) (st' := [.int (0 : Int32), .ref q0]) rfl ?_
      exact Rn.weak (ll_s (ll_s (ll_n (ll_n ll_e)))) (rX3_open_b32 hd hq e)
    | some v_1350 =>
      dsimp only at e
      refine Rn.bf hT rfl rfl rfl rfl ?_
      exact Rn.weak (ll_s (ll_s (ll_n (ll_n ll_e)))) (rX3_open_b27 hd hq e)
  · rw [if_neg c_1349] at e
    refine Rn.bt hT rfl rfl rfl (decide_eq_true c_1349) ?_
    exact Rn.weak (ll_s (ll_s (ll_n (ll_n ll_e)))) (rX3_open_b27 hd hq e)
set_option maxRecDepth 10000 in
theorem hX3_goal : iv_Tb 66 tX3_goal := iv_tb_of (m := mX3_goal) rfl
set_option maxRecDepth 10000 in
theorem gX3_goal : PG.2 66 = some mX3_goal := iv_pi_of (t := tX3_goal) rfl (by decide)
def fX3_goal_b44 (N : Nat) (h : iv_H)  (s0 : Int32) (sq1 : Nat) : Option (Int32) := ((aI h sq1 s0).bind fun v_1380 => (some v_1380))
set_option maxRecDepth 10000 in
set_option maxHeartbeats 4000000 in
theorem rX3_goal_b44 {d N : Nat} (hd : 0 ≤ d) {h : iv_H}  {s0 : Int32} {sq1 : Nat} {r : Int32} {Q : Option Value → iv_H → Prop} (hq : Q (some (.int r)) h) (e : fX3_goal_b44 N h  s0 sq1 = some r) : Rn d 66 (some .int) 44 [none, none, none, none] [.int s0, .ref sq1] h Q := by
  have hT := hX3_goal
  unfold fX3_goal_b44 at e
  obtain ⟨v_1380, e_1381, e⟩ := Option.bind_eq_some_iff.mp e
  refine Rn.hp hT rfl rfl (aI_hp e_1381) ?_
  obtain rfl := Option.some.inj e
  exact Rn.ret hT rfl rfl rfl hq
def fX3_goal (N : Nat) (h : iv_H) (q0 : Nat) (x1 : Int32) (x2 : Int32) (x3 : Int32) : Option (Int32) := (if x1 = (1 : Int32) then ((gR h 3 1 q0).bind fun v_1368 => ((gR h 1 10 v_1368).bind fun v_1370 => ((gR h 3 1 q0).bind fun v_1372 => ((gR h 1 5 v_1372).bind fun v_1374 => ((aI h v_1374 x2).bind fun v_1376 => ((aI h v_1370 (((4 : Int32) * v_1376) + x3)).bind fun v_1378 => (some v_1378))))))) else ((gR h 3 1 q0).bind fun v_1363 => ((gR h 1 5 v_1363).bind fun v_1365 => (if x1 = (2 : Int32) then (fX3_goal_b44 N h x3 v_1365) else (fX3_goal_b44 N h x2 v_1365)))))
set_option maxRecDepth 10000 in
set_option maxHeartbeats 4000000 in
theorem rX3_goal {d N : Nat} (hd : 1 ≤ d) {h : iv_H} {q0 : Nat} {x1 : Int32} {x2 : Int32} {x3 : Int32} {r : Int32} {Q : Option Value → iv_H → Prop} (e : fX3_goal N h q0 x1 x2 x3 = some r) (hq : Q (some (.int r)) h) : Cl d 66 [.ref q0, .int x1, .int x2, .int x3] h Q := by
  obtain ⟨d, rfl⟩ : ∃ k, d = k + 1 := ⟨d - 1, by omega⟩
  have hd : 0 ≤ d := by omega
  have hT := hX3_goal
  unfold fX3_goal at e
  refine Cl.into (by decide) gX3_goal rfl ?_
  show Rn d 66 (some .int) 0 [some (.ref q0), some (.int x1), some (.int x2), some (.int x3)] [] h Q
  refine Rn.n hT 2 (pc' := 2) (L' := [some (.ref q0), some (.int x1), some (.int x2), some (.int x3)]) (st' := [.int (1 : Int32), .int x1]) rfl ?_
  by_cases c_1362 : x1 = (1 : Int32)
  · rw [if_pos c_1362] at e
    refine Rn.bf hT rfl rfl rfl (decide_eq_false (fun z => z c_1362)) ?_
    refine Rn.n hT 1 (pc' := 6) (L' := [some (.ref q0), some (.int x1), some (.int x2), some (.int x3)]) (st' := [.ref q0]) rfl ?_
    obtain ⟨v_1368, e_1369, e⟩ := Option.bind_eq_some_iff.mp e
    refine Rn.hp hT rfl rfl (gR_hp e_1369) ?_
    obtain ⟨v_1370, e_1371, e⟩ := Option.bind_eq_some_iff.mp e
    refine Rn.hp hT rfl rfl (gR_hp e_1371) ?_
    refine Rn.n hT 2 (pc' := 14) (L' := [some (.ref q0), some (.int x1), some (.int x2), some (.int x3)]) (st' := [.ref q0, .int (4 : Int32), .ref v_1370]) rfl ?_
    obtain ⟨v_1372, e_1373, e⟩ := Option.bind_eq_some_iff.mp e
    refine Rn.hp hT rfl rfl (gR_hp e_1373) ?_
    obtain ⟨v_1374, e_1375, e⟩ := Option.bind_eq_some_iff.mp e
    refine Rn.hp hT rfl rfl (gR_hp e_1375) ?_
    refine Rn.n hT 1 (pc' := 21) (L' := [some (.ref q0), some (.int x1), some (.int x2), some (.int x3)]) (st' := [.int x2, .ref v_1374, .int (4 : Int32), .ref v_1370]) rfl ?_
    obtain ⟨v_1376, e_1377, e⟩ := Option.bind_eq_some_iff.mp e
    refine Rn.hp hT rfl rfl (aI_hp e_1377) ?_
    refine Rn.n hT 3 (pc' := 25) (L' := [some (.ref q0), some (.int x1), some (.int x2), some (.int x3)]) (st' := [.int (((4 : Int32) * v_1376) + x3), .ref v_1370]) rfl ?_
    obtain ⟨v_1378, e_1379, e⟩ := Option.bind_eq_some_iff.mp e
    refine Rn.hp hT rfl rfl (aI_hp e_1379) ?_
    obtain rfl := Option.some.inj e
    exact Rn.ret hT rfl rfl rfl hq
  · rw [if_neg c_1362] at e
    refine Rn.bt hT rfl rfl rfl (decide_eq_true c_1362) ?_
    refine Rn.n hT 1 (pc' := 28) (L' := [some (.ref q0), some (.int x1), some (.int x2), some (.int x3)]) (st' := [.ref q0]) rfl ?_
    obtain ⟨v_1363, e_1364, e⟩ := Option.bind_eq_some_iff.mp e
    refine Rn.hp hT rfl rfl (gR_hp e_1364) ?_
    obtain ⟨v_1365, e_1366, e⟩ := Option.bind_eq_some_iff.mp e
    refine Rn.hp hT rfl rfl (gR_hp e_1366) ?_
    refine Rn.n hT 2 (pc' := 36) (L' := [some (.ref q0), some (.int x1), some (.int x2), some (.int x3)]) (st' := [.int (2 : Int32), .int x1, .ref v_1365]) rfl ?_
    by_cases c_1367 : x1 = (2 : Int32)
    · rw [if_pos c_1367] at e
      refine Rn.bf hT rfl rfl rfl (decide_eq_false (fun z => z c_1367)) ?_
      refine Rn.n hT 2 (pc' := 44) (L' := [some (.ref q0), some (.int x1), some (.int x2), some (.int x3)]) (st' := [.int x3, .ref v_1365]) rfl ?_
      exact Rn.weak (ll_n (ll_n (ll_n (ll_n ll_e)))) (rX3_goal_b44 hd hq e)
    · rw [if_neg c_1367] at e
      refine Rn.bt hT rfl rfl rfl (decide_eq_true c_1367) ?_
      refine Rn.n hT 1 (pc' := 44) (L' := [some (.ref q0), some (.int x1), some (.int x2), some (.int x3)]) (st' := [.int x2, .ref v_1365]) rfl ?_
      exact Rn.weak (ll_n (ll_n (ll_n (ll_n ll_e)))) (rX3_goal_b44 hd hq e)
set_option maxRecDepth 10000 in
theorem hX3_valueOf : iv_Tb 65 tX3_valueOf := iv_tb_of (m := mX3_valueOf) rfl
set_option maxRecDepth 10000 in
theorem gX3_valueOf : PG.2 65 = some mX3_valueOf := iv_pi_of (t := tX3_valueOf) rfl (by decide)
def fX3_valueOf_b99 (N : Nat) (h : iv_H)  (sj0 : Int64) : Option (Int64) := (some sj0)
set_option maxRecDepth 10000 in
set_option maxHeartbeats 4000000 in
theorem rX3_valueOf_b99 {d N : Nat} (hd : 1 ≤ d) {h : iv_H}  {sj0 : Int64} {r : Int64} {Q : Option Value → iv_H → Prop} (hq : Q (some (.long r)) h) (e : fX3_valueOf_b99 N h  sj0 = some r) : Rn d 65 (some .long) 99 [none, none, none, none, none] [.long sj0] h Q := by
  have hT := hX3_valueOf
  unfold fX3_valueOf_b99 at e
  obtain rfl := Option.some.inj e
  exact Rn.ret hT rfl rfl rfl hq
def fX3_valueOf (N : Nat) (h : iv_H) (q0 : Nat) (x1 : Int32) (x2 : Int32) : Option (Int64) := (if x1 = (0 : Int32) then (some (((x2 >>> ((8 : Int32) &&& 31))).toInt64)) else (if x1 = (1 : Int32) then (some ((((x2 >>> ((4 : Int32) &&& 31)) &&& (15 : Int32))).toInt64)) else (if x1 = (2 : Int32) then (if (x2 >>> ((8 : Int32) &&& 31)) = (2 : Int32) then (fX3_valueOf_b99 N h (((x2 &&& (15 : Int32))).toInt64)) else (fX3_valueOf_b99 N h (99 : Int64))) else (if x1 = (3 : Int32) then ((gR h 3 1 q0).bind fun v_1387 => ((gR h 1 5 v_1387).bind fun v_1389 => ((aI h v_1389 ((x2 >>> ((4 : Int32) &&& 31)) &&& (15 : Int32))).bind fun v_1391 => (some (((v_1391 &&& (3 : Int32))).toInt64))))) else (if x1 = (4 : Int32) then ((gR h 3 1 q0).bind fun v_1394 => ((gR h 1 5 v_1394).bind fun v_1396 => ((aI h v_1396 ((x2 >>> ((4 : Int32) &&& 31)) &&& (15 : Int32))).bind fun v_1398 => (some (((v_1398 >>> ((2 : Int32) &&& 31))).toInt64))))) else (if x1 = (5 : Int32) then ((cko h q0 3).bind fun _ => (fX3_goal N h q0 (x2 >>> ((8 : Int32) &&& 31)) ((x2 >>> ((4 : Int32) &&& 31)) &&& (15 : Int32)) (x2 &&& (15 : Int32))).bind fun v_1403 => (some (((v_1403 &&& (3 : Int32))).toInt64))) else (if x1 = (6 : Int32) then ((cko h q0 3).bind fun _ => (fX3_goal N h q0 (x2 >>> ((8 : Int32) &&& 31)) ((x2 >>> ((4 : Int32) &&& 31)) &&& (15 : Int32)) (x2 &&& (15 : Int32))).bind fun v_1407 => (some (((v_1407 >>> ((2 : Int32) &&& 31))).toInt64))) else (if x1 = (7 : Int32) then ((gR h 3 1 q0).bind fun v_1409 => ((cko h v_1409 1).bind fun _ => (fX1_doorsOf N h v_1409 ((x2 >>> ((4 : Int32) &&& 31)) &&& (15 : Int32))).bind fun v_1413 => (some ((v_1413).toInt64)))) else (if x1 = (8 : Int32) then ((gR h 3 1 q0).bind fun v_1415 => ((cko h v_1415 1).bind fun _ => (fX1_locksOf N h v_1415 ((x2 >>> ((4 : Int32) &&& 31)) &&& (15 : Int32))).bind fun v_1419 => (some ((v_1419).toInt64)))) else (if x1 = (9 : Int32) then ((gR h 3 0 q0).bind fun v_1421 => ((cko h v_1421 2).bind fun _ => (fX2_sleepersIn N h v_1421 ((x2 >>> ((4 : Int32) &&& 31)) &&& (15 : Int32))).bind fun v_1425 => ((fJ6_bitCount_0f7a4 N h v_1425).bind fun v_1427 => (some ((v_1427).toInt64))))) else (if x1 = (10 : Int32) then ((gI h 3 4 q0).bind fun v_1429 => (some ((v_1429).toInt64))) else (if x1 = (11 : Int32) then ((gI h 3 5 q0).bind fun v_1432 => (some ((v_1432).toInt64))) else ((gI h 3 6 q0).bind fun v_1434 => (some ((v_1434).toInt64)))))))))))))))
set_option maxRecDepth 10000 in
set_option maxHeartbeats 4000000 in
theorem rX3_valueOf {d N : Nat} (hd : 2 ≤ d) {h : iv_H} {q0 : Nat} {x1 : Int32} {x2 : Int32} {r : Int64} {Q : Option Value → iv_H → Prop} (e : fX3_valueOf N h q0 x1 x2 = some r) (hq : Q (some (.long r)) h) : Cl d 65 [.ref q0, .int x1, .int x2] h Q := by
  obtain ⟨d, rfl⟩ : ∃ k, d = k + 1 := ⟨d - 1, by omega⟩
  have hd : 1 ≤ d := by omega
  have hT := hX3_valueOf
  unfold fX3_valueOf at e
  refine Cl.into (by decide) gX3_valueOf rfl ?_
  show Rn d 65 (some .long) 0 [some (.ref q0), some (.int x1), some (.int x2), none, none] [] h Q
  refine Rn.n hT 11 (pc' := 14) (L' := [some (.ref q0), some (.int x1), some (.int x2), some (.int (x2 >>> ((8 : Int32) &&& 31))), some (.int ((x2 >>> ((4 : Int32) &&& 31)) &&& (15 : Int32)))]) (st' := [.int x1]) rfl ?_
  by_cases c_1382 : x1 = (0 : Int32)
  · rw [if_pos c_1382] at e
    refine Rn.sw2 hT rfl rfl rfl (if_pos c_1382) ?_
    refine Rn.n hT 2 (pc' := 78) (L' := [some (.ref q0), some (.int x1), some (.int x2), some (.int (x2 >>> ((8 : Int32) &&& 31))), some (.int ((x2 >>> ((4 : Int32) &&& 31)) &&& (15 : Int32)))]) (st' := [.long (((x2 >>> ((8 : Int32) &&& 31))).toInt64)]) rfl ?_
    obtain rfl := Option.some.inj e
    exact Rn.ret hT rfl rfl rfl hq
  · rw [if_neg c_1382] at e
    by_cases c_1383 : x1 = (1 : Int32)
    · rw [if_pos c_1383] at e
      refine Rn.sw2 hT rfl rfl rfl ((if_neg c_1382).trans (if_pos c_1383)) ?_
      refine Rn.n hT 2 (pc' := 82) (L' := [some (.ref q0), some (.int x1), some (.int x2), some (.int (x2 >>> ((8 : Int32) &&& 31))), some (.int ((x2 >>> ((4 : Int32) &&& 31)) &&& (15 : Int32)))]) (st' := [.long ((((x2 >>> ((4 : Int32) &&& 31)) &&& (15 : Int32))).toInt64)]) rfl ?_
      obtain rfl := Option.some.inj e
      exact Rn.ret hT rfl rfl rfl hq
    · rw [if_neg c_1383] at e
      by_cases c_1384 : x1 = (2 : Int32)
      · rw [if_pos c_1384] at e
        refine Rn.sw2 hT rfl rfl rfl ((if_neg c_1382).trans ((if_neg c_1383).trans (if_pos c_1384))) ?_
        refine Rn.n hT 2 (pc' := 85) (L' := [some (.ref q0), some (.int x1), some (.int x2), some (.int (x2 >>> ((8 : Int32) &&& 31))), some (.int ((x2 >>> ((4 : Int32) &&& 31)) &&& (15 : Int32)))]) (st' := [.int (2 : Int32), .int (x2 >>> ((8 : Int32) &&& 31))]) rfl ?_
        by_cases c_1385 : (x2 >>> ((8 : Int32) &&& 31)) = (2 : Int32)
        · rw [if_pos c_1385] at e
          refine Rn.bf hT rfl rfl rfl (decide_eq_false (fun z => z c_1385)) ?_
          refine Rn.n hT 5 (pc' := 99) (L' := [some (.ref q0), some (.int x1), some (.int x2), some (.int (x2 >>> ((8 : Int32) &&& 31))), some (.int ((x2 >>> ((4 : Int32) &&& 31)) &&& (15 : Int32)))]) (st' := [.long (((x2 &&& (15 : Int32))).toInt64)]) rfl ?_
          exact Rn.weak (ll_n (ll_n (ll_n (ll_n (ll_n ll_e))))) (rX3_valueOf_b99 hd hq e)
        · rw [if_neg c_1385] at e
          refine Rn.bt hT rfl rfl rfl (decide_eq_true c_1385) ?_
          refine Rn.n hT 1 (pc' := 99) (L' := [some (.ref q0), some (.int x1), some (.int x2), some (.int (x2 >>> ((8 : Int32) &&& 31))), some (.int ((x2 >>> ((4 : Int32) &&& 31)) &&& (15 : Int32)))]) (st' := [.long (99 : Int64)]) rfl ?_
          exact Rn.weak (ll_n (ll_n (ll_n (ll_n (ll_n ll_e))))) (rX3_valueOf_b99 hd hq e)
      · rw [if_neg c_1384] at e
        by_cases c_1386 : x1 = (3 : Int32)
        · rw [if_pos c_1386] at e
          refine Rn.sw2 hT rfl rfl rfl ((if_neg c_1382).trans ((if_neg c_1383).trans ((if_neg c_1384).trans (if_pos c_1386)))) ?_
          refine Rn.n hT 1 (pc' := 101) (L' := [some (.ref q0), some (.int x1), some (.int x2), some (.int (x2 >>> ((8 : Int32) &&& 31))), some (.int ((x2 >>> ((4 : Int32) &&& 31)) &&& (15 : Int32)))]) (st' := [.ref q0]) rfl ?_
          obtain ⟨v_1387, e_1388, e⟩ := Option.bind_eq_some_iff.mp e
          refine Rn.hp hT rfl rfl (gR_hp e_1388) ?_
          obtain ⟨v_1389, e_1390, e⟩ := Option.bind_eq_some_iff.mp e
          refine Rn.hp hT rfl rfl (gR_hp e_1390) ?_
          refine Rn.n hT 1 (pc' := 109) (L' := [some (.ref q0), some (.int x1), some (.int x2), some (.int (x2 >>> ((8 : Int32) &&& 31))), some (.int ((x2 >>> ((4 : Int32) &&& 31)) &&& (15 : Int32)))]) (st' := [.int ((x2 >>> ((4 : Int32) &&& 31)) &&& (15 : Int32)), .ref v_1389]) rfl ?_
          obtain ⟨v_1391, e_1392, e⟩ := Option.bind_eq_some_iff.mp e
          refine Rn.hp hT rfl rfl (aI_hp e_1392) ?_
          refine Rn.n hT 3 (pc' := 113) (L' := [some (.ref q0), some (.int x1), some (.int x2), some (.int (x2 >>> ((8 : Int32) &&& 31))), some (.int ((x2 >>> ((4 : Int32) &&& 31)) &&& (15 : Int32)))]) (st' := [.long (((v_1391 &&& (3 : Int32))).toInt64)]) rfl ?_
          obtain rfl := Option.some.inj e
          exact Rn.ret hT rfl rfl rfl hq
        · rw [if_neg c_1386] at e
          by_cases c_1393 : x1 = (4 : Int32)
          · rw [if_pos c_1393] at e
            refine Rn.sw2 hT rfl rfl rfl ((if_neg c_1382).trans ((if_neg c_1383).trans ((if_neg c_1384).trans ((if_neg c_1386).trans (if_pos c_1393))))) ?_
            refine Rn.n hT 1 (pc' := 115) (L' := [some (.ref q0), some (.int x1), some (.int x2), some (.int (x2 >>> ((8 : Int32) &&& 31))), some (.int ((x2 >>> ((4 : Int32) &&& 31)) &&& (15 : Int32)))]) (st' := [.ref q0]) rfl ?_
            obtain ⟨v_1394, e_1395, e⟩ := Option.bind_eq_some_iff.mp e
            refine Rn.hp hT rfl rfl (gR_hp e_1395) ?_
            obtain ⟨v_1396, e_1397, e⟩ := Option.bind_eq_some_iff.mp e
            refine Rn.hp hT rfl rfl (gR_hp e_1397) ?_
            refine Rn.n hT 1 (pc' := 123) (L' := [some (.ref q0), some (.int x1), some (.int x2), some (.int (x2 >>> ((8 : Int32) &&& 31))), some (.int ((x2 >>> ((4 : Int32) &&& 31)) &&& (15 : Int32)))]) (st' := [.int ((x2 >>> ((4 : Int32) &&& 31)) &&& (15 : Int32)), .ref v_1396]) rfl ?_
            obtain ⟨v_1398, e_1399, e⟩ := Option.bind_eq_some_iff.mp e
            refine Rn.hp hT rfl rfl (aI_hp e_1399) ?_
            refine Rn.n hT 3 (pc' := 127) (L' := [some (.ref q0), some (.int x1), some (.int x2), some (.int (x2 >>> ((8 : Int32) &&& 31))), some (.int ((x2 >>> ((4 : Int32) &&& 31)) &&& (15 : Int32)))]) (st' := [.long (((v_1398 >>> ((2 : Int32) &&& 31))).toInt64)]) rfl ?_
            obtain rfl := Option.some.inj e
            exact Rn.ret hT rfl rfl rfl hq
          · rw [if_neg c_1393] at e
            by_cases c_1400 : x1 = (5 : Int32)
            · rw [if_pos c_1400] at e
              refine Rn.sw2 hT rfl rfl rfl ((if_neg c_1382).trans ((if_neg c_1383).trans ((if_neg c_1384).trans ((if_neg c_1386).trans ((if_neg c_1393).trans (if_pos c_1400)))))) ?_
              refine Rn.n hT 6 (pc' := 136) (L' := [some (.ref q0), some (.int x1), some (.int x2), some (.int (x2 >>> ((8 : Int32) &&& 31))), some (.int ((x2 >>> ((4 : Int32) &&& 31)) &&& (15 : Int32)))]) (st' := [.int (x2 &&& (15 : Int32)), .int ((x2 >>> ((4 : Int32) &&& 31)) &&& (15 : Int32)), .int (x2 >>> ((8 : Int32) &&& 31)), .ref q0]) rfl ?_
              obtain ⟨_, e_1402, e⟩ := Option.bind_eq_some_iff.mp e
              obtain ⟨v_1403, e_1401, e⟩ := Option.bind_eq_some_iff.mp e
              refine Rn.call hT rfl rfl rfl (Nat.le_of_ble_eq_true rfl) (rcv_v gX3_goal (by omega) e_1402) (rX3_goal (by omega) e_1401 ?_)
              show Rn d _ _ 139 [some (.ref q0), some (.int x1), some (.int x2), some (.int (x2 >>> ((8 : Int32) &&& 31))), some (.int ((x2 >>> ((4 : Int32) &&& 31)) &&& (15 : Int32)))] [.int v_1403] h Q
              refine Rn.n hT 3 (pc' := 142) (L' := [some (.ref q0), some (.int x1), some (.int x2), some (.int (x2 >>> ((8 : Int32) &&& 31))), some (.int ((x2 >>> ((4 : Int32) &&& 31)) &&& (15 : Int32)))]) (st' := [.long (((v_1403 &&& (3 : Int32))).toInt64)]) rfl ?_
              obtain rfl := Option.some.inj e
              exact Rn.ret hT rfl rfl rfl hq
            · rw [if_neg c_1400] at e
              by_cases c_1404 : x1 = (6 : Int32)
              · rw [if_pos c_1404] at e
                refine Rn.sw2 hT rfl rfl rfl ((if_neg c_1382).trans ((if_neg c_1383).trans ((if_neg c_1384).trans ((if_neg c_1386).trans ((if_neg c_1393).trans ((if_neg c_1400).trans (if_pos c_1404))))))) ?_
                refine Rn.n hT 6 (pc' := 151) (L' := [some (.ref q0), some (.int x1), some (.int x2), some (.int (x2 >>> ((8 : Int32) &&& 31))), some (.int ((x2 >>> ((4 : Int32) &&& 31)) &&& (15 : Int32)))]) (st' := [.int (x2 &&& (15 : Int32)), .int ((x2 >>> ((4 : Int32) &&& 31)) &&& (15 : Int32)), .int (x2 >>> ((8 : Int32) &&& 31)), .ref q0]) rfl ?_
                obtain ⟨_, e_1406, e⟩ := Option.bind_eq_some_iff.mp e
                obtain ⟨v_1407, e_1405, e⟩ := Option.bind_eq_some_iff.mp e
                refine Rn.call hT rfl rfl rfl (Nat.le_of_ble_eq_true rfl) (rcv_v gX3_goal (by omega) e_1406) (rX3_goal (by omega) e_1405 ?_)
                show Rn d _ _ 154 [some (.ref q0), some (.int x1), some (.int x2), some (.int (x2 >>> ((8 : Int32) &&& 31))), some (.int ((x2 >>> ((4 : Int32) &&& 31)) &&& (15 : Int32)))] [.int v_1407] h Q
                refine Rn.n hT 3 (pc' := 157) (L' := [some (.ref q0), some (.int x1), some (.int x2), some (.int (x2 >>> ((8 : Int32) &&& 31))), some (.int ((x2 >>> ((4 : Int32) &&& 31)) &&& (15 : Int32)))]) (st' := [.long (((v_1407 >>> ((2 : Int32) &&& 31))).toInt64)]) rfl ?_
                obtain rfl := Option.some.inj e
                exact Rn.ret hT rfl rfl rfl hq
              · rw [if_neg c_1404] at e
                by_cases c_1408 : x1 = (7 : Int32)
                · rw [if_pos c_1408] at e
                  refine Rn.sw2 hT rfl rfl rfl ((if_neg c_1382).trans ((if_neg c_1383).trans ((if_neg c_1384).trans ((if_neg c_1386).trans ((if_neg c_1393).trans ((if_neg c_1400).trans ((if_neg c_1404).trans (if_pos c_1408)))))))) ?_
                  refine Rn.n hT 1 (pc' := 159) (L' := [some (.ref q0), some (.int x1), some (.int x2), some (.int (x2 >>> ((8 : Int32) &&& 31))), some (.int ((x2 >>> ((4 : Int32) &&& 31)) &&& (15 : Int32)))]) (st' := [.ref q0]) rfl ?_
                  obtain ⟨v_1409, e_1410, e⟩ := Option.bind_eq_some_iff.mp e
                  refine Rn.hp hT rfl rfl (gR_hp e_1410) ?_
                  refine Rn.n hT 1 (pc' := 164) (L' := [some (.ref q0), some (.int x1), some (.int x2), some (.int (x2 >>> ((8 : Int32) &&& 31))), some (.int ((x2 >>> ((4 : Int32) &&& 31)) &&& (15 : Int32)))]) (st' := [.int ((x2 >>> ((4 : Int32) &&& 31)) &&& (15 : Int32)), .ref v_1409]) rfl ?_
                  obtain ⟨_, e_1412, e⟩ := Option.bind_eq_some_iff.mp e
                  obtain ⟨v_1413, e_1411, e⟩ := Option.bind_eq_some_iff.mp e
                  refine Rn.call hT rfl rfl rfl (Nat.le_of_ble_eq_true rfl) (rcv_v gX1_doorsOf (by omega) e_1412) (rX1_doorsOf (by omega) e_1411 ?_)
                  show Rn d _ _ 167 [some (.ref q0), some (.int x1), some (.int x2), some (.int (x2 >>> ((8 : Int32) &&& 31))), some (.int ((x2 >>> ((4 : Int32) &&& 31)) &&& (15 : Int32)))] [.int v_1413] h Q
                  refine Rn.n hT 1 (pc' := 168) (L' := [some (.ref q0), some (.int x1), some (.int x2), some (.int (x2 >>> ((8 : Int32) &&& 31))), some (.int ((x2 >>> ((4 : Int32) &&& 31)) &&& (15 : Int32)))]) (st' := [.long ((v_1413).toInt64)]) rfl ?_
                  obtain rfl := Option.some.inj e
                  exact Rn.ret hT rfl rfl rfl hq
                · rw [if_neg c_1408] at e
                  by_cases c_1414 : x1 = (8 : Int32)
                  · rw [if_pos c_1414] at e
                    refine Rn.sw2 hT rfl rfl rfl ((if_neg c_1382).trans ((if_neg c_1383).trans ((if_neg c_1384).trans ((if_neg c_1386).trans ((if_neg c_1393).trans ((if_neg c_1400).trans ((if_neg c_1404).trans ((if_neg c_1408).trans (if_pos c_1414))))))))) ?_
                    refine Rn.n hT 1 (pc' := 170) (L' := [some (.ref q0), some (.int x1), some (.int x2), some (.int (x2 >>> ((8 : Int32) &&& 31))), some (.int ((x2 >>> ((4 : Int32) &&& 31)) &&& (15 : Int32)))]) (st' := [.ref q0]) rfl ?_
                    obtain ⟨v_1415, e_1416, e⟩ := Option.bind_eq_some_iff.mp e
                    refine Rn.hp hT rfl rfl (gR_hp e_1416) ?_
                    refine Rn.n hT 1 (pc' := 175) (L' := [some (.ref q0), some (.int x1), some (.int x2), some (.int (x2 >>> ((8 : Int32) &&& 31))), some (.int ((x2 >>> ((4 : Int32) &&& 31)) &&& (15 : Int32)))]) (st' := [.int ((x2 >>> ((4 : Int32) &&& 31)) &&& (15 : Int32)), .ref v_1415]) rfl ?_
                    obtain ⟨_, e_1418, e⟩ := Option.bind_eq_some_iff.mp e
                    obtain ⟨v_1419, e_1417, e⟩ := Option.bind_eq_some_iff.mp e
                    refine Rn.call hT rfl rfl rfl (Nat.le_of_ble_eq_true rfl) (rcv_v gX1_locksOf (by omega) e_1418) (rX1_locksOf (by omega) e_1417 ?_)
                    show Rn d _ _ 178 [some (.ref q0), some (.int x1), some (.int x2), some (.int (x2 >>> ((8 : Int32) &&& 31))), some (.int ((x2 >>> ((4 : Int32) &&& 31)) &&& (15 : Int32)))] [.int v_1419] h Q
                    refine Rn.n hT 1 (pc' := 179) (L' := [some (.ref q0), some (.int x1), some (.int x2), some (.int (x2 >>> ((8 : Int32) &&& 31))), some (.int ((x2 >>> ((4 : Int32) &&& 31)) &&& (15 : Int32)))]) (st' := [.long ((v_1419).toInt64)]) rfl ?_
                    obtain rfl := Option.some.inj e
                    exact Rn.ret hT rfl rfl rfl hq
                  · rw [if_neg c_1414] at e
                    by_cases c_1420 : x1 = (9 : Int32)
                    · rw [if_pos c_1420] at e
                      refine Rn.sw2 hT rfl rfl rfl ((if_neg c_1382).trans ((if_neg c_1383).trans ((if_neg c_1384).trans ((if_neg c_1386).trans ((if_neg c_1393).trans ((if_neg c_1400).trans ((if_neg c_1404).trans ((if_neg c_1408).trans ((if_neg c_1414).trans (if_pos c_1420)))))))))) ?_
                      refine Rn.n hT 1 (pc' := 181) (L' := [some (.ref q0), some (.int x1), some (.int x2), some (.int (x2 >>> ((8 : Int32) &&& 31))), some (.int ((x2 >>> ((4 : Int32) &&& 31)) &&& (15 : Int32)))]) (st' := [.ref q0]) rfl ?_
                      obtain ⟨v_1421, e_1422, e⟩ := Option.bind_eq_some_iff.mp e
                      refine Rn.hp hT rfl rfl (gR_hp e_1422) ?_
                      refine Rn.n hT 1 (pc' := 186) (L' := [some (.ref q0), some (.int x1), some (.int x2), some (.int (x2 >>> ((8 : Int32) &&& 31))), some (.int ((x2 >>> ((4 : Int32) &&& 31)) &&& (15 : Int32)))]) (st' := [.int ((x2 >>> ((4 : Int32) &&& 31)) &&& (15 : Int32)), .ref v_1421]) rfl ?_
                      obtain ⟨_, e_1424, e⟩ := Option.bind_eq_some_iff.mp e
                      obtain ⟨v_1425, e_1423, e⟩ := Option.bind_eq_some_iff.mp e
                      refine Rn.call hT rfl rfl rfl (Nat.le_of_ble_eq_true rfl) (rcv_v gX2_sleepersIn (by omega) e_1424) (rX2_sleepersIn (by omega) e_1423 ?_)
                      show Rn d _ _ 189 [some (.ref q0), some (.int x1), some (.int x2), some (.int (x2 >>> ((8 : Int32) &&& 31))), some (.int ((x2 >>> ((4 : Int32) &&& 31)) &&& (15 : Int32)))] [.int v_1425] h Q
                      obtain ⟨v_1427, e_1426, e⟩ := Option.bind_eq_some_iff.mp e
                      refine Rn.call hT rfl rfl rfl (Nat.le_of_ble_eq_true rfl) rfl (rJ6_bitCount_0f7a4 (by omega) e_1426 ?_)
                      show Rn d _ _ 192 [some (.ref q0), some (.int x1), some (.int x2), some (.int (x2 >>> ((8 : Int32) &&& 31))), some (.int ((x2 >>> ((4 : Int32) &&& 31)) &&& (15 : Int32)))] [.int v_1427] h Q
                      refine Rn.n hT 1 (pc' := 193) (L' := [some (.ref q0), some (.int x1), some (.int x2), some (.int (x2 >>> ((8 : Int32) &&& 31))), some (.int ((x2 >>> ((4 : Int32) &&& 31)) &&& (15 : Int32)))]) (st' := [.long ((v_1427).toInt64)]) rfl ?_
                      obtain rfl := Option.some.inj e
                      exact Rn.ret hT rfl rfl rfl hq
                    · rw [if_neg c_1420] at e
                      by_cases c_1428 : x1 = (10 : Int32)
                      · rw [if_pos c_1428] at e
                        refine Rn.sw2 hT rfl rfl rfl ((if_neg c_1382).trans ((if_neg c_1383).trans ((if_neg c_1384).trans ((if_neg c_1386).trans ((if_neg c_1393).trans ((if_neg c_1400).trans ((if_neg c_1404).trans ((if_neg c_1408).trans ((if_neg c_1414).trans ((if_neg c_1420).trans (if_pos c_1428))))))))))) ?_
                        refine Rn.n hT 1 (pc' := 195) (L' := [some (.ref q0), some (.int x1), some (.int x2), some (.int (x2 >>> ((8 : Int32) &&& 31))), some (.int ((x2 >>> ((4 : Int32) &&& 31)) &&& (15 : Int32)))]) (st' := [.ref q0]) rfl ?_
                        obtain ⟨v_1429, e_1430, e⟩ := Option.bind_eq_some_iff.mp e
                        refine Rn.hp hT rfl rfl (gI_hp e_1430) ?_
                        refine Rn.n hT 1 (pc' := 199) (L' := [some (.ref q0), some (.int x1), some (.int x2), some (.int (x2 >>> ((8 : Int32) &&& 31))), some (.int ((x2 >>> ((4 : Int32) &&& 31)) &&& (15 : Int32)))]) (st' := [.long ((v_1429).toInt64)]) rfl ?_
                        obtain rfl := Option.some.inj e
                        exact Rn.ret hT rfl rfl rfl hq
                      · rw [if_neg c_1428] at e
                        by_cases c_1431 : x1 = (11 : Int32)
                        · rw [if_pos c_1431] at e
                          refine Rn.sw2 hT rfl rfl rfl ((if_neg c_1382).trans ((if_neg c_1383).trans ((if_neg c_1384).trans ((if_neg c_1386).trans ((if_neg c_1393).trans ((if_neg c_1400).trans ((if_neg c_1404).trans ((if_neg c_1408).trans ((if_neg c_1414).trans ((if_neg c_1420).trans ((if_neg c_1428).trans (if_pos c_1431)))))))))))) ?_
                          refine Rn.n hT 1 (pc' := 201) (L' := [some (.ref q0), some (.int x1), some (.int x2), some (.int (x2 >>> ((8 : Int32) &&& 31))), some (.int ((x2 >>> ((4 : Int32) &&& 31)) &&& (15 : Int32)))]) (st' := [.ref q0]) rfl ?_
                          obtain ⟨v_1432, e_1433, e⟩ := Option.bind_eq_some_iff.mp e
                          refine Rn.hp hT rfl rfl (gI_hp e_1433) ?_
                          refine Rn.n hT 1 (pc' := 205) (L' := [some (.ref q0), some (.int x1), some (.int x2), some (.int (x2 >>> ((8 : Int32) &&& 31))), some (.int ((x2 >>> ((4 : Int32) &&& 31)) &&& (15 : Int32)))]) (st' := [.long ((v_1432).toInt64)]) rfl ?_
                          obtain rfl := Option.some.inj e
                          exact Rn.ret hT rfl rfl rfl hq
                        · rw [if_neg c_1431] at e
                          refine Rn.sw2 hT rfl rfl rfl ((if_neg c_1382).trans ((if_neg c_1383).trans ((if_neg c_1384).trans ((if_neg c_1386).trans ((if_neg c_1393).trans ((if_neg c_1400).trans ((if_neg c_1404).trans ((if_neg c_1408).trans ((if_neg c_1414).trans ((if_neg c_1420).trans ((if_neg c_1428).trans ((if_neg c_1431).trans rfl)))))))))))) ?_
                          refine Rn.n hT 1 (pc' := 207) (L' := [some (.ref q0), some (.int x1), some (.int x2), some (.int (x2 >>> ((8 : Int32) &&& 31))), some (.int ((x2 >>> ((4 : Int32) &&& 31)) &&& (15 : Int32)))]) (st' := [.ref q0]) rfl ?_
                          obtain ⟨v_1434, e_1435, e⟩ := Option.bind_eq_some_iff.mp e
                          refine Rn.hp hT rfl rfl (gI_hp e_1435) ?_
                          refine Rn.n hT 1 (pc' := 211) (L' := [some (.ref q0), some (.int x1), some (.int x2), some (.int (x2 >>> ((8 : Int32) &&& 31))), some (.int ((x2 >>> ((4 : Int32) &&& 31)) &&& (15 : Int32)))]) (st' := [.long ((v_1434).toInt64)]) rfl ?_
                          obtain rfl := Option.some.inj e
                          exact Rn.ret hT rfl rfl rfl hq
set_option maxRecDepth 10000 in
theorem hX3_combine : iv_Tb 67 tX3_combine := iv_tb_of (m := mX3_combine) rfl
set_option maxRecDepth 10000 in
theorem gX3_combine : PG.2 67 = some mX3_combine := iv_pi_of (t := tX3_combine) rfl (by decide)
def fX3_combine_b83 (N : Nat) (h : iv_H)  (sj0 : Int64) : Option (Int64) := (some sj0)
set_option maxRecDepth 10000 in
set_option maxHeartbeats 4000000 in
theorem rX3_combine_b83 {d N : Nat} (hd : 0 ≤ d) {h : iv_H}  {sj0 : Int64} {r : Int64} {Q : Option Value → iv_H → Prop} (hq : Q (some (.long r)) h) (e : fX3_combine_b83 N h  sj0 = some r) : Rn d 67 (some .long) 83 [none, none, none, none, none] [.long sj0] h Q := by
  have hT := hX3_combine
  unfold fX3_combine_b83 at e
  obtain rfl := Option.some.inj e
  exact Rn.ret hT rfl rfl rfl hq
def fX3_combine_b95 (N : Nat) (h : iv_H)  (sj0 : Int64) : Option (Int64) := (some sj0)
set_option maxRecDepth 10000 in
set_option maxHeartbeats 4000000 in
theorem rX3_combine_b95 {d N : Nat} (hd : 0 ≤ d) {h : iv_H}  {sj0 : Int64} {r : Int64} {Q : Option Value → iv_H → Prop} (hq : Q (some (.long r)) h) (e : fX3_combine_b95 N h  sj0 = some r) : Rn d 67 (some .long) 95 [none, none, none, none, none] [.long sj0] h Q := by
  have hT := hX3_combine
  unfold fX3_combine_b95 at e
  obtain rfl := Option.some.inj e
  exact Rn.ret hT rfl rfl rfl hq
def fX3_combine_b107 (N : Nat) (h : iv_H)  (sj0 : Int64) : Option (Int64) := (some sj0)
set_option maxRecDepth 10000 in
set_option maxHeartbeats 4000000 in
theorem rX3_combine_b107 {d N : Nat} (hd : 0 ≤ d) {h : iv_H}  {sj0 : Int64} {r : Int64} {Q : Option Value → iv_H → Prop} (hq : Q (some (.long r)) h) (e : fX3_combine_b107 N h  sj0 = some r) : Rn d 67 (some .long) 107 [none, none, none, none, none] [.long sj0] h Q := by
  have hT := hX3_combine
  unfold fX3_combine_b107 at e
  obtain rfl := Option.some.inj e
  exact Rn.ret hT rfl rfl rfl hq
def fX3_combine_b119 (N : Nat) (h : iv_H)  (sj0 : Int64) : Option (Int64) := (some sj0)
set_option maxRecDepth 10000 in
set_option maxHeartbeats 4000000 in
theorem rX3_combine_b119 {d N : Nat} (hd : 0 ≤ d) {h : iv_H}  {sj0 : Int64} {r : Int64} {Q : Option Value → iv_H → Prop} (hq : Q (some (.long r)) h) (e : fX3_combine_b119 N h  sj0 = some r) : Rn d 67 (some .long) 119 [none, none, none, none, none] [.long sj0] h Q := by
  have hT := hX3_combine
  unfold fX3_combine_b119 at e
  obtain rfl := Option.some.inj e
  exact Rn.ret hT rfl rfl rfl hq
def fX3_combine_b131 (N : Nat) (h : iv_H)  (sj0 : Int64) : Option (Int64) := (some sj0)
set_option maxRecDepth 10000 in
set_option maxHeartbeats 4000000 in
theorem rX3_combine_b131 {d N : Nat} (hd : 0 ≤ d) {h : iv_H}  {sj0 : Int64} {r : Int64} {Q : Option Value → iv_H → Prop} (hq : Q (some (.long r)) h) (e : fX3_combine_b131 N h  sj0 = some r) : Rn d 67 (some .long) 131 [none, none, none, none, none] [.long sj0] h Q := by
  have hT := hX3_combine
  unfold fX3_combine_b131 at e
  obtain rfl := Option.some.inj e
  exact Rn.ret hT rfl rfl rfl hq
def fX3_combine_b157 (N : Nat) (h : iv_H)  (sj0 : Int64) : Option (Int64) := (some sj0)
set_option maxRecDepth 10000 in
set_option maxHeartbeats 4000000 in
theorem rX3_combine_b157 {d N : Nat} (hd : 0 ≤ d) {h : iv_H}  {sj0 : Int64} {r : Int64} {Q : Option Value → iv_H → Prop} (hq : Q (some (.long r)) h) (e : fX3_combine_b157 N h  sj0 = some r) : Rn d 67 (some .long) 157 [none, none, none, none, none] [.long sj0] h Q := by
  have hT := hX3_combine
  unfold fX3_combine_b157 at e
  obtain rfl := Option.some.inj e
  exact Rn.ret hT rfl rfl rfl hq
def fX3_combine_b171 (N : Nat) (h : iv_H)  (sj0 : Int64) : Option (Int64) := (some sj0)
set_option maxRecDepth 10000 in
set_option maxHeartbeats 4000000 in
theorem rX3_combine_b171 {d N : Nat} (hd : 0 ≤ d) {h : iv_H}  {sj0 : Int64} {r : Int64} {Q : Option Value → iv_H → Prop} (hq : Q (some (.long r)) h) (e : fX3_combine_b171 N h  sj0 = some r) : Rn d 67 (some .long) 171 [none, none, none, none, none] [.long sj0] h Q := by
  have hT := hX3_combine
  unfold fX3_combine_b171 at e
  obtain rfl := Option.some.inj e
  exact Rn.ret hT rfl rfl rfl hq
def fX3_combine (N : Nat) (h : iv_H) (x0 : Int32) (y1 : Int64) (y3 : Int64) : Option (Int64) := (if x0 = (1 : Int32) then (some (y1 ||| y3)) else (if x0 = (2 : Int32) then (some (y1 &&& y3)) else (if x0 = (3 : Int32) then (if (lg_cmp y3 (0 : Int64)) = 0 then (fX3_combine_b171 N h (0 : Int64)) else (if y3 = 0 then none else (fX3_combine_b171 N h (y1 - y1 / y3 * y3)))) else (if x0 = (4 : Int32) then (if 0 ≤ (lg_cmp y1 y3) then (fX3_combine_b83 N h (0 : Int64)) else (fX3_combine_b83 N h (1 : Int64))) else (if x0 = (5 : Int32) then (if 0 < (lg_cmp y1 y3) then (fX3_combine_b95 N h (0 : Int64)) else (fX3_combine_b95 N h (1 : Int64))) else (if x0 = (6 : Int32) then (if (lg_cmp y1 y3) = 0 then (fX3_combine_b107 N h (1 : Int64)) else (fX3_combine_b107 N h (0 : Int64))) else (if x0 = (7 : Int32) then (if (lg_cmp y1 y3) < 0 then (fX3_combine_b119 N h (0 : Int64)) else (fX3_combine_b119 N h (1 : Int64))) else (if x0 = (8 : Int32) then (if (lg_cmp y1 y3) ≤ 0 then (fX3_combine_b131 N h (0 : Int64)) else (fX3_combine_b131 N h (1 : Int64))) else (if x0 = (9 : Int32) then (some (y1 + y3)) else (if x0 = (10 : Int32) then (some (y1 - y3)) else (if x0 = (11 : Int32) then (some (y1 * y3)) else (if x0 = (12 : Int32) then (if (lg_cmp y3 (0 : Int64)) = 0 then (fX3_combine_b157 N h (0 : Int64)) else (if y3 = 0 then none else (fX3_combine_b157 N h (y1 / y3)))) else (if (lg_cmp y3 (0 : Int64)) = 0 then (fX3_combine_b171 N h (0 : Int64)) else (if y3 = 0 then none else (fX3_combine_b171 N h (y1 - y1 / y3 * y3))))))))))))))))
set_option maxRecDepth 10000 in
set_option maxHeartbeats 4000000 in
theorem rX3_combine {d N : Nat} (hd : 1 ≤ d) {h : iv_H} {x0 : Int32} {y1 : Int64} {y3 : Int64} {r : Int64} {Q : Option Value → iv_H → Prop} (e : fX3_combine N h x0 y1 y3 = some r) (hq : Q (some (.long r)) h) : Cl d 67 [.int x0, .long y1, .long y3] h Q := by
  obtain ⟨d, rfl⟩ : ∃ k, d = k + 1 := ⟨d - 1, by omega⟩
  have hd : 0 ≤ d := by omega
  have hT := hX3_combine
  unfold fX3_combine at e
  refine Cl.into (by decide) gX3_combine rfl ?_
  show Rn d 67 (some .long) 0 [some (.int x0), some (.long y1), none, some (.long y3), none] [] h Q
  refine Rn.n hT 1 (pc' := 1) (L' := [some (.int x0), some (.long y1), none, some (.long y3), none]) (st' := [.int x0]) rfl ?_
  by_cases c_1436 : x0 = (1 : Int32)
  · rw [if_pos c_1436] at e
    refine Rn.sw2 hT rfl rfl rfl (if_pos c_1436) ?_
    refine Rn.n hT 3 (pc' := 67) (L' := [some (.int x0), some (.long y1), none, some (.long y3), none]) (st' := [.long (y1 ||| y3)]) rfl ?_
    obtain rfl := Option.some.inj e
    exact Rn.ret hT rfl rfl rfl hq
  · rw [if_neg c_1436] at e
    by_cases c_1437 : x0 = (2 : Int32)
    · rw [if_pos c_1437] at e
      refine Rn.sw2 hT rfl rfl rfl ((if_neg c_1436).trans (if_pos c_1437)) ?_
      refine Rn.n hT 3 (pc' := 71) (L' := [some (.int x0), some (.long y1), none, some (.long y3), none]) (st' := [.long (y1 &&& y3)]) rfl ?_
      obtain rfl := Option.some.inj e
      exact Rn.ret hT rfl rfl rfl hq
    · rw [if_neg c_1437] at e
      by_cases c_1438 : x0 = (3 : Int32)
      · rw [if_pos c_1438] at e
        refine Rn.sw2 hT rfl rfl rfl ((if_neg c_1436).trans ((if_neg c_1437).trans (if_pos c_1438))) ?_
        refine Rn.n hT 3 (pc' := 161) (L' := [some (.int x0), some (.long y1), none, some (.long y3), none]) (st' := [.int (lg_cmp y3 (0 : Int64))]) rfl ?_
        by_cases c_1439 : (lg_cmp y3 (0 : Int64)) = 0
        · rw [if_pos c_1439] at e
          refine Rn.bf hT rfl rfl rfl (decide_eq_false (fun z => z c_1439)) ?_
          refine Rn.n hT 2 (pc' := 171) (L' := [some (.int x0), some (.long y1), none, some (.long y3), none]) (st' := [.long (0 : Int64)]) rfl ?_
          exact Rn.weak (ll_n (ll_n (ll_n (ll_n (ll_n ll_e))))) (rX3_combine_b171 hd hq e)
        · rw [if_neg c_1439] at e
          refine Rn.bt hT rfl rfl rfl (decide_eq_true c_1439) ?_
          refine Rn.n hT 2 (pc' := 170) (L' := [some (.int x0), some (.long y1), none, some (.long y3), none]) (st' := [.long y3, .long y1]) rfl ?_
          by_cases c_1440 : y3 = 0
          · rw [if_pos c_1440] at e
            cases e
          · rw [if_neg c_1440] at e
            refine Rn.pu hT rfl rfl (st' := [.long (y1 - y1 / y3 * y3)]) (if_neg c_1440) ?_
            exact Rn.weak (ll_n (ll_n (ll_n (ll_n (ll_n ll_e))))) (rX3_combine_b171 hd hq e)
      · rw [if_neg c_1438] at e
        by_cases c_1441 : x0 = (4 : Int32)
        · rw [if_pos c_1441] at e
          refine Rn.sw2 hT rfl rfl rfl ((if_neg c_1436).trans ((if_neg c_1437).trans ((if_neg c_1438).trans (if_pos c_1441)))) ?_
          refine Rn.n hT 3 (pc' := 75) (L' := [some (.int x0), some (.long y1), none, some (.long y3), none]) (st' := [.int (lg_cmp y1 y3)]) rfl ?_
          by_cases c_1442 : 0 ≤ (lg_cmp y1 y3)
          · rw [if_pos c_1442] at e
            refine Rn.bt hT rfl rfl rfl (decide_eq_true c_1442) ?_
            refine Rn.n hT 1 (pc' := 83) (L' := [some (.int x0), some (.long y1), none, some (.long y3), none]) (st' := [.long (0 : Int64)]) rfl ?_
            exact Rn.weak (ll_n (ll_n (ll_n (ll_n (ll_n ll_e))))) (rX3_combine_b83 hd hq e)
          · rw [if_neg c_1442] at e
            refine Rn.bf hT rfl rfl rfl (decide_eq_false c_1442) ?_
            refine Rn.n hT 2 (pc' := 83) (L' := [some (.int x0), some (.long y1), none, some (.long y3), none]) (st' := [.long (1 : Int64)]) rfl ?_
            exact Rn.weak (ll_n (ll_n (ll_n (ll_n (ll_n ll_e))))) (rX3_combine_b83 hd hq e)
        · rw [if_neg c_1441] at e
          by_cases c_1443 : x0 = (5 : Int32)
          · rw [if_pos c_1443] at e
            refine Rn.sw2 hT rfl rfl rfl ((if_neg c_1436).trans ((if_neg c_1437).trans ((if_neg c_1438).trans ((if_neg c_1441).trans (if_pos c_1443))))) ?_
            refine Rn.n hT 3 (pc' := 87) (L' := [some (.int x0), some (.long y1), none, some (.long y3), none]) (st' := [.int (lg_cmp y1 y3)]) rfl ?_
            by_cases c_1444 : 0 < (lg_cmp y1 y3)
            · rw [if_pos c_1444] at e
              refine Rn.bt hT rfl rfl rfl (decide_eq_true c_1444) ?_
              refine Rn.n hT 1 (pc' := 95) (L' := [some (.int x0), some (.long y1), none, some (.long y3), none]) (st' := [.long (0 : Int64)]) rfl ?_
              exact Rn.weak (ll_n (ll_n (ll_n (ll_n (ll_n ll_e))))) (rX3_combine_b95 hd hq e)
            · rw [if_neg c_1444] at e
              refine Rn.bf hT rfl rfl rfl (decide_eq_false c_1444) ?_
              refine Rn.n hT 2 (pc' := 95) (L' := [some (.int x0), some (.long y1), none, some (.long y3), none]) (st' := [.long (1 : Int64)]) rfl ?_
              exact Rn.weak (ll_n (ll_n (ll_n (ll_n (ll_n ll_e))))) (rX3_combine_b95 hd hq e)
          · rw [if_neg c_1443] at e
            by_cases c_1445 : x0 = (6 : Int32)
            · rw [if_pos c_1445] at e
              refine Rn.sw2 hT rfl rfl rfl ((if_neg c_1436).trans ((if_neg c_1437).trans ((if_neg c_1438).trans ((if_neg c_1441).trans ((if_neg c_1443).trans (if_pos c_1445)))))) ?_
              refine Rn.n hT 3 (pc' := 99) (L' := [some (.int x0), some (.long y1), none, some (.long y3), none]) (st' := [.int (lg_cmp y1 y3)]) rfl ?_
              by_cases c_1446 : (lg_cmp y1 y3) = 0
              · rw [if_pos c_1446] at e
                refine Rn.bf hT rfl rfl rfl (decide_eq_false (fun z => z c_1446)) ?_
                refine Rn.n hT 2 (pc' := 107) (L' := [some (.int x0), some (.long y1), none, some (.long y3), none]) (st' := [.long (1 : Int64)]) rfl ?_
                exact Rn.weak (ll_n (ll_n (ll_n (ll_n (ll_n ll_e))))) (rX3_combine_b107 hd hq e)
              · rw [if_neg c_1446] at e
                refine Rn.bt hT rfl rfl rfl (decide_eq_true c_1446) ?_
                refine Rn.n hT 1 (pc' := 107) (L' := [some (.int x0), some (.long y1), none, some (.long y3), none]) (st' := [.long (0 : Int64)]) rfl ?_
                exact Rn.weak (ll_n (ll_n (ll_n (ll_n (ll_n ll_e))))) (rX3_combine_b107 hd hq e)
            · rw [if_neg c_1445] at e
              by_cases c_1447 : x0 = (7 : Int32)
              · rw [if_pos c_1447] at e
                refine Rn.sw2 hT rfl rfl rfl ((if_neg c_1436).trans ((if_neg c_1437).trans ((if_neg c_1438).trans ((if_neg c_1441).trans ((if_neg c_1443).trans ((if_neg c_1445).trans (if_pos c_1447))))))) ?_
                refine Rn.n hT 3 (pc' := 111) (L' := [some (.int x0), some (.long y1), none, some (.long y3), none]) (st' := [.int (lg_cmp y1 y3)]) rfl ?_
                by_cases c_1448 : (lg_cmp y1 y3) < 0
                · rw [if_pos c_1448] at e
                  refine Rn.bt hT rfl rfl rfl (decide_eq_true c_1448) ?_
                  refine Rn.n hT 1 (pc' := 119) (L' := [some (.int x0), some (.long y1), none, some (.long y3), none]) (st' := [.long (0 : Int64)]) rfl ?_
                  exact Rn.weak (ll_n (ll_n (ll_n (ll_n (ll_n ll_e))))) (rX3_combine_b119 hd hq e)
                · rw [if_neg c_1448] at e
                  refine Rn.bf hT rfl rfl rfl (decide_eq_false c_1448) ?_
                  refine Rn.n hT 2 (pc' := 119) (L' := [some (.int x0), some (.long y1), none, some (.long y3), none]) (st' := [.long (1 : Int64)]) rfl ?_
                  exact Rn.weak (ll_n (ll_n (ll_n (ll_n (ll_n ll_e))))) (rX3_combine_b119 hd hq e)
              · rw [if_neg c_1447] at e
                by_cases c_1449 : x0 = (8 : Int32)
                · rw [if_pos c_1449] at e
                  refine Rn.sw2 hT rfl rfl rfl ((if_neg c_1436).trans ((if_neg c_1437).trans ((if_neg c_1438).trans ((if_neg c_1441).trans ((if_neg c_1443).trans ((if_neg c_1445).trans ((if_neg c_1447).trans (if_pos c_1449)))))))) ?_
                  refine Rn.n hT 3 (pc' := 123) (L' := [some (.int x0), some (.long y1), none, some (.long y3), none]) (st' := [.int (lg_cmp y1 y3)]) rfl ?_
                  by_cases c_1450 : (lg_cmp y1 y3) ≤ 0
                  · rw [if_pos c_1450] at e
                    refine Rn.bt hT rfl rfl rfl (decide_eq_true c_1450) ?_
                    refine Rn.n hT 1 (pc' := 131) (L' := [some (.int x0), some (.long y1), none, some (.long y3), none]) (st' := [.long (0 : Int64)]) rfl ?_
                    exact Rn.weak (ll_n (ll_n (ll_n (ll_n (ll_n ll_e))))) (rX3_combine_b131 hd hq e)
                  · rw [if_neg c_1450] at e
                    refine Rn.bf hT rfl rfl rfl (decide_eq_false c_1450) ?_
                    refine Rn.n hT 2 (pc' := 131) (L' := [some (.int x0), some (.long y1), none, some (.long y3), none]) (st' := [.long (1 : Int64)]) rfl ?_
                    exact Rn.weak (ll_n (ll_n (ll_n (ll_n (ll_n ll_e))))) (rX3_combine_b131 hd hq e)
                · rw [if_neg c_1449] at e
                  by_cases c_1451 : x0 = (9 : Int32)
                  · rw [if_pos c_1451] at e
                    refine Rn.sw2 hT rfl rfl rfl ((if_neg c_1436).trans ((if_neg c_1437).trans ((if_neg c_1438).trans ((if_neg c_1441).trans ((if_neg c_1443).trans ((if_neg c_1445).trans ((if_neg c_1447).trans ((if_neg c_1449).trans (if_pos c_1451))))))))) ?_
                    refine Rn.n hT 3 (pc' := 135) (L' := [some (.int x0), some (.long y1), none, some (.long y3), none]) (st' := [.long (y1 + y3)]) rfl ?_
                    obtain rfl := Option.some.inj e
                    exact Rn.ret hT rfl rfl rfl hq
                  · rw [if_neg c_1451] at e
                    by_cases c_1452 : x0 = (10 : Int32)
                    · rw [if_pos c_1452] at e
                      refine Rn.sw2 hT rfl rfl rfl ((if_neg c_1436).trans ((if_neg c_1437).trans ((if_neg c_1438).trans ((if_neg c_1441).trans ((if_neg c_1443).trans ((if_neg c_1445).trans ((if_neg c_1447).trans ((if_neg c_1449).trans ((if_neg c_1451).trans (if_pos c_1452)))))))))) ?_
                      refine Rn.n hT 3 (pc' := 139) (L' := [some (.int x0), some (.long y1), none, some (.long y3), none]) (st' := [.long (y1 - y3)]) rfl ?_
                      obtain rfl := Option.some.inj e
                      exact Rn.ret hT rfl rfl rfl hq
                    · rw [if_neg c_1452] at e
                      by_cases c_1453 : x0 = (11 : Int32)
                      · rw [if_pos c_1453] at e
                        refine Rn.sw2 hT rfl rfl rfl ((if_neg c_1436).trans ((if_neg c_1437).trans ((if_neg c_1438).trans ((if_neg c_1441).trans ((if_neg c_1443).trans ((if_neg c_1445).trans ((if_neg c_1447).trans ((if_neg c_1449).trans ((if_neg c_1451).trans ((if_neg c_1452).trans (if_pos c_1453))))))))))) ?_
                        refine Rn.n hT 3 (pc' := 143) (L' := [some (.int x0), some (.long y1), none, some (.long y3), none]) (st' := [.long (y1 * y3)]) rfl ?_
                        obtain rfl := Option.some.inj e
                        exact Rn.ret hT rfl rfl rfl hq
                      · rw [if_neg c_1453] at e
                        by_cases c_1454 : x0 = (12 : Int32)
                        · rw [if_pos c_1454] at e
                          refine Rn.sw2 hT rfl rfl rfl ((if_neg c_1436).trans ((if_neg c_1437).trans ((if_neg c_1438).trans ((if_neg c_1441).trans ((if_neg c_1443).trans ((if_neg c_1445).trans ((if_neg c_1447).trans ((if_neg c_1449).trans ((if_neg c_1451).trans ((if_neg c_1452).trans ((if_neg c_1453).trans (if_pos c_1454)))))))))))) ?_
                          refine Rn.n hT 3 (pc' := 147) (L' := [some (.int x0), some (.long y1), none, some (.long y3), none]) (st' := [.int (lg_cmp y3 (0 : Int64))]) rfl ?_
                          by_cases c_1455 : (lg_cmp y3 (0 : Int64)) = 0
                          · rw [if_pos c_1455] at e
                            refine Rn.bf hT rfl rfl rfl (decide_eq_false (fun z => z c_1455)) ?_
                            refine Rn.n hT 2 (pc' := 157) (L' := [some (.int x0), some (.long y1), none, some (.long y3), none]) (st' := [.long (0 : Int64)]) rfl ?_
                            exact Rn.weak (ll_n (ll_n (ll_n (ll_n (ll_n ll_e))))) (rX3_combine_b157 hd hq e)
                          · rw [if_neg c_1455] at e
                            refine Rn.bt hT rfl rfl rfl (decide_eq_true c_1455) ?_
                            refine Rn.n hT 2 (pc' := 156) (L' := [some (.int x0), some (.long y1), none, some (.long y3), none]) (st' := [.long y3, .long y1]) rfl ?_
                            by_cases c_1456 : y3 = 0
                            · rw [if_pos c_1456] at e
                              cases e
                            · rw [if_neg c_1456] at e
                              refine Rn.pu hT rfl rfl (st' := [.long (y1 / y3)]) (if_neg c_1456) ?_
                              exact Rn.weak (ll_n (ll_n (ll_n (ll_n (ll_n ll_e))))) (rX3_combine_b157 hd hq e)
                        · rw [if_neg c_1454] at e
                          refine Rn.sw2 hT rfl rfl rfl ((if_neg c_1436).trans ((if_neg c_1437).trans ((if_neg c_1438).trans ((if_neg c_1441).trans ((if_neg c_1443).trans ((if_neg c_1445).trans ((if_neg c_1447).trans ((if_neg c_1449).trans ((if_neg c_1451).trans ((if_neg c_1452).trans ((if_neg c_1453).trans ((if_neg c_1454).trans rfl)))))))))))) ?_
                          refine Rn.n hT 3 (pc' := 161) (L' := [some (.int x0), some (.long y1), none, some (.long y3), none]) (st' := [.int (lg_cmp y3 (0 : Int64))]) rfl ?_
                          by_cases c_1457 : (lg_cmp y3 (0 : Int64)) = 0
                          · rw [if_pos c_1457] at e
                            refine Rn.bf hT rfl rfl rfl (decide_eq_false (fun z => z c_1457)) ?_
                            refine Rn.n hT 2 (pc' := 171) (L' := [some (.int x0), some (.long y1), none, some (.long y3), none]) (st' := [.long (0 : Int64)]) rfl ?_
                            exact Rn.weak (ll_n (ll_n (ll_n (ll_n (ll_n ll_e))))) (rX3_combine_b171 hd hq e)
                          · rw [if_neg c_1457] at e
                            refine Rn.bt hT rfl rfl rfl (decide_eq_true c_1457) ?_
                            refine Rn.n hT 2 (pc' := 170) (L' := [some (.int x0), some (.long y1), none, some (.long y3), none]) (st' := [.long y3, .long y1]) rfl ?_
                            by_cases c_1458 : y3 = 0
                            · rw [if_pos c_1458] at e
                              cases e
                            · rw [if_neg c_1458] at e
                              refine Rn.pu hT rfl rfl (st' := [.long (y1 - y1 / y3 * y3)]) (if_neg c_1458) ?_
                              exact Rn.weak (ll_n (ll_n (ll_n (ll_n (ll_n ll_e))))) (rX3_combine_b171 hd hq e)
set_option maxRecDepth 10000 in
theorem hX3_isBarred : iv_Tb 64 tX3_isBarred := iv_tb_of (m := mX3_isBarred) rfl
set_option maxRecDepth 10000 in
theorem gX3_isBarred : PG.2 64 = some mX3_isBarred := iv_pi_of (t := tX3_isBarred) rfl (by decide)
def fX3_isBarred_b158 (N : Nat) (h : iv_H) (q0 : Nat) (x1 : Int32) (x2 : Int32) (x3 : Int32)  (kb : iv_H → Int32 → Int32 → Option (Int32 × iv_H)) (kx : iv_H → Int32 → Option (Int32 × iv_H)) : Option (Int32 × iv_H) := (kb h x2 (x3 + (1 : Int32)))
set_option maxRecDepth 10000 in
set_option maxHeartbeats 4000000 in
theorem rX3_isBarred_b158 {d N : Nat} (hd : 2 ≤ d) {h : iv_H} {q0 : Nat} {x1 : Int32} {x2 : Int32} {x3 : Int32}  {kb : iv_H → Int32 → Int32 → Option (Int32 × iv_H)} {kx : iv_H → Int32 → Option (Int32 × iv_H)} {r : Int32 × iv_H} {Q : Option Value → iv_H → Prop} (hb : ∀ (h : iv_H) (w2 : Int32) (w3 : Int32), kb h w2 w3 = some r → Rn d 64 (some .boolean) 4 [some (.ref q0), some (.int x1), some (.int w2), some (.int w3), none] [] h Q) (hk : ∀ (h : iv_H) (w2 : Int32), kx h w2 = some r → Rn d 64 (some .boolean) 164 [some (.ref q0), none, some (.int w2), none, none] [] h Q) (hq : Q (some (.int r.1)) r.2) (e : fX3_isBarred_b158 N h q0 x1 x2 x3  kb kx = some r) : Rn d 64 (some .boolean) 158 [some (.ref q0), some (.int x1), some (.int x2), some (.int x3), none] [] h Q := by
  have hT := hX3_isBarred
  unfold fX3_isBarred_b158 at e
  refine Rn.n hT 2 (pc' := 4) (L' := [some (.ref q0), some (.int x1), some (.int x2), some (.int (x3 + (1 : Int32))), none]) (st' := []) rfl ?_
  exact Rn.weak (ll_s (ll_s (ll_s (ll_s (ll_n ll_e))))) (hb h x2 (x3 + (1 : Int32)) e)
def fX3_isBarred_b77 (N : Nat) (h : iv_H) (q0 : Nat) (x1 : Int32) (x2 : Int32) (x3 : Int32) (sj0 : Int64) (s1 : Int32) (sq2 : Nat) (kb : iv_H → Int32 → Int32 → Option (Int32 × iv_H)) (kx : iv_H → Int32 → Option (Int32 × iv_H)) : Option (Int32 × iv_H) := ((wJ h sq2 s1 sj0).bind fun h_1487 => (fX3_isBarred_b158 N h_1487 q0 x1 (x2 + (1 : Int32)) x3 kb kx))
set_option maxRecDepth 10000 in
set_option maxHeartbeats 4000000 in
theorem rX3_isBarred_b77 {d N : Nat} (hd : 2 ≤ d) {h : iv_H} {q0 : Nat} {x1 : Int32} {x2 : Int32} {x3 : Int32} {sj0 : Int64} {s1 : Int32} {sq2 : Nat} {kb : iv_H → Int32 → Int32 → Option (Int32 × iv_H)} {kx : iv_H → Int32 → Option (Int32 × iv_H)} {r : Int32 × iv_H} {Q : Option Value → iv_H → Prop} (hb : ∀ (h : iv_H) (w2 : Int32) (w3 : Int32), kb h w2 w3 = some r → Rn d 64 (some .boolean) 4 [some (.ref q0), some (.int x1), some (.int w2), some (.int w3), none] [] h Q) (hk : ∀ (h : iv_H) (w2 : Int32), kx h w2 = some r → Rn d 64 (some .boolean) 164 [some (.ref q0), none, some (.int w2), none, none] [] h Q) (hq : Q (some (.int r.1)) r.2) (e : fX3_isBarred_b77 N h q0 x1 x2 x3 sj0 s1 sq2 kb kx = some r) : Rn d 64 (some .boolean) 77 [some (.ref q0), some (.int x1), some (.int x2), some (.int x3), none] [.long sj0, .int s1, .ref sq2] h Q := by
  have hT := hX3_isBarred
  unfold fX3_isBarred_b77 at e
  obtain ⟨h_1487, e_1488, e⟩ := Option.bind_eq_some_iff.mp e
  refine Rn.hp hT rfl rfl (wJ_hp e_1488) ?_
  refine Rn.n hT 2 (pc' := 158) (L' := [some (.ref q0), some (.int x1), some (.int (x2 + (1 : Int32))), some (.int x3), none]) (st' := []) rfl ?_
  exact Rn.weak (ll_s (ll_s (ll_s (ll_s (ll_n ll_e))))) (rX3_isBarred_b158 hd hb hk hq e)
def fX3_isBarred_b119 (N : Nat) (h : iv_H) (q0 : Nat) (x1 : Int32) (x2 : Int32) (x3 : Int32) (sj0 : Int64) (s1 : Int32) (sq2 : Nat) (kb : iv_H → Int32 → Int32 → Option (Int32 × iv_H)) (kx : iv_H → Int32 → Option (Int32 × iv_H)) : Option (Int32 × iv_H) := ((wJ h sq2 s1 sj0).bind fun h_1498 => (fX3_isBarred_b158 N h_1498 q0 x1 x2 x3 kb kx))
set_option maxRecDepth 10000 in
set_option maxHeartbeats 4000000 in
theorem rX3_isBarred_b119 {d N : Nat} (hd : 2 ≤ d) {h : iv_H} {q0 : Nat} {x1 : Int32} {x2 : Int32} {x3 : Int32} {sj0 : Int64} {s1 : Int32} {sq2 : Nat} {kb : iv_H → Int32 → Int32 → Option (Int32 × iv_H)} {kx : iv_H → Int32 → Option (Int32 × iv_H)} {r : Int32 × iv_H} {Q : Option Value → iv_H → Prop} (hb : ∀ (h : iv_H) (w2 : Int32) (w3 : Int32), kb h w2 w3 = some r → Rn d 64 (some .boolean) 4 [some (.ref q0), some (.int x1), some (.int w2), some (.int w3), none] [] h Q) (hk : ∀ (h : iv_H) (w2 : Int32), kx h w2 = some r → Rn d 64 (some .boolean) 164 [some (.ref q0), none, some (.int w2), none, none] [] h Q) (hq : Q (some (.int r.1)) r.2) (e : fX3_isBarred_b119 N h q0 x1 x2 x3 sj0 s1 sq2 kb kx = some r) : Rn d 64 (some .boolean) 119 [some (.ref q0), some (.int x1), some (.int x2), some (.int x3), none] [.long sj0, .int s1, .ref sq2] h Q := by
  have hT := hX3_isBarred
  unfold fX3_isBarred_b119 at e
  obtain ⟨h_1498, e_1499, e⟩ := Option.bind_eq_some_iff.mp e
  refine Rn.hp hT rfl rfl (wJ_hp e_1499) ?_
  refine Rn.n hT 1 (pc' := 158) (L' := [some (.ref q0), some (.int x1), some (.int x2), some (.int x3), none]) (st' := []) rfl ?_
  exact Rn.weak (ll_s (ll_s (ll_s (ll_s (ll_n ll_e))))) (rX3_isBarred_b158 hd hb hk hq e)
def fX3_isBarred_b123 (N : Nat) (h : iv_H) (q0 : Nat) (x1 : Int32) (x2 : Int32) (x3 : Int32) (x4 : Int32)  (kb : iv_H → Int32 → Int32 → Option (Int32 × iv_H)) (kx : iv_H → Int32 → Option (Int32 × iv_H)) : Option (Int32 × iv_H) := (if x2 ≤ (1 : Int32) then (fX3_isBarred_b158 N h q0 x1 x2 x3 kb kx) else ((gR h 3 7 q0).bind fun v_1501 => ((gR h 3 7 q0).bind fun v_1503 => ((aJ h v_1503 ((x2 + (-1 : Int32)) - (1 : Int32))).bind fun v_1505 => ((gR h 3 7 q0).bind fun v_1507 => ((aJ h v_1507 (x2 + (-1 : Int32))).bind fun v_1509 => ((fX3_combine N h x4 v_1505 v_1509).bind fun v_1512 => ((wJ h v_1501 ((x2 + (-1 : Int32)) - (1 : Int32)) v_1512).bind fun h_1513 => (fX3_isBarred_b158 N h_1513 q0 x1 (x2 + (-1 : Int32)) x3 kb kx)))))))))
set_option maxRecDepth 10000 in
set_option maxHeartbeats 4000000 in
theorem rX3_isBarred_b123 {d N : Nat} (hd : 2 ≤ d) {h : iv_H} {q0 : Nat} {x1 : Int32} {x2 : Int32} {x3 : Int32} {x4 : Int32}  {kb : iv_H → Int32 → Int32 → Option (Int32 × iv_H)} {kx : iv_H → Int32 → Option (Int32 × iv_H)} {r : Int32 × iv_H} {Q : Option Value → iv_H → Prop} (hb : ∀ (h : iv_H) (w2 : Int32) (w3 : Int32), kb h w2 w3 = some r → Rn d 64 (some .boolean) 4 [some (.ref q0), some (.int x1), some (.int w2), some (.int w3), none] [] h Q) (hk : ∀ (h : iv_H) (w2 : Int32), kx h w2 = some r → Rn d 64 (some .boolean) 164 [some (.ref q0), none, some (.int w2), none, none] [] h Q) (hq : Q (some (.int r.1)) r.2) (e : fX3_isBarred_b123 N h q0 x1 x2 x3 x4  kb kx = some r) : Rn d 64 (some .boolean) 123 [some (.ref q0), some (.int x1), some (.int x2), some (.int x3), some (.int x4)] [] h Q := by
  have hT := hX3_isBarred
  unfold fX3_isBarred_b123 at e
  refine Rn.n hT 2 (pc' := 125) (L' := [some (.ref q0), some (.int x1), some (.int x2), some (.int x3), some (.int x4)]) (st' := [.int (1 : Int32), .int x2]) rfl ?_
  by_cases c_1500 : x2 ≤ (1 : Int32)
  · rw [if_pos c_1500] at e
    refine Rn.bt hT rfl rfl rfl (decide_eq_true c_1500) ?_
    exact Rn.weak (ll_s (ll_s (ll_s (ll_s (ll_n ll_e))))) (rX3_isBarred_b158 hd hb hk hq e)
  · rw [if_neg c_1500] at e
    refine Rn.bf hT rfl rfl rfl (decide_eq_false c_1500) ?_
    refine Rn.n hT 2 (pc' := 132) (L' := [some (.ref q0), some (.int x1), some (.int (x2 + (-1 : Int32))), some (.int x3), some (.int x4)]) (st' := [.ref q0]) rfl ?_
    obtain ⟨v_1501, e_1502, e⟩ := Option.bind_eq_some_iff.mp e
    refine Rn.hp hT rfl rfl (gR_hp e_1502) ?_
    refine Rn.n hT 5 (pc' := 141) (L' := [some (.ref q0), some (.int x1), some (.int (x2 + (-1 : Int32))), some (.int x3), some (.int x4)]) (st' := [.ref q0, .int x4, .int ((x2 + (-1 : Int32)) - (1 : Int32)), .ref v_1501]) rfl ?_
    obtain ⟨v_1503, e_1504, e⟩ := Option.bind_eq_some_iff.mp e
    refine Rn.hp hT rfl rfl (gR_hp e_1504) ?_
    refine Rn.n hT 3 (pc' := 147) (L' := [some (.ref q0), some (.int x1), some (.int (x2 + (-1 : Int32))), some (.int x3), some (.int x4)]) (st' := [.int ((x2 + (-1 : Int32)) - (1 : Int32)), .ref v_1503, .int x4, .int ((x2 + (-1 : Int32)) - (1 : Int32)), .ref v_1501]) rfl ?_
    obtain ⟨v_1505, e_1506, e⟩ := Option.bind_eq_some_iff.mp e
    refine Rn.hp hT rfl rfl (aJ_hp e_1506) ?_
    refine Rn.n hT 1 (pc' := 149) (L' := [some (.ref q0), some (.int x1), some (.int (x2 + (-1 : Int32))), some (.int x3), some (.int x4)]) (st' := [.ref q0, .long v_1505, .int x4, .int ((x2 + (-1 : Int32)) - (1 : Int32)), .ref v_1501]) rfl ?_
    obtain ⟨v_1507, e_1508, e⟩ := Option.bind_eq_some_iff.mp e
    refine Rn.hp hT rfl rfl (gR_hp e_1508) ?_
    refine Rn.n hT 1 (pc' := 153) (L' := [some (.ref q0), some (.int x1), some (.int (x2 + (-1 : Int32))), some (.int x3), some (.int x4)]) (st' := [.int (x2 + (-1 : Int32)), .ref v_1507, .long v_1505, .int x4, .int ((x2 + (-1 : Int32)) - (1 : Int32)), .ref v_1501]) rfl ?_
    obtain ⟨v_1509, e_1510, e⟩ := Option.bind_eq_some_iff.mp e
    refine Rn.hp hT rfl rfl (aJ_hp e_1510) ?_
    obtain ⟨v_1512, e_1511, e⟩ := Option.bind_eq_some_iff.mp e
    refine Rn.call hT rfl rfl rfl (Nat.le_of_ble_eq_true rfl) rfl (rX3_combine (by omega) e_1511 ?_)
    show Rn d _ _ 157 [some (.ref q0), some (.int x1), some (.int (x2 + (-1 : Int32))), some (.int x3), some (.int x4)] [.long v_1512, .int ((x2 + (-1 : Int32)) - (1 : Int32)), .ref v_1501] h Q
    obtain ⟨h_1513, e_1514, e⟩ := Option.bind_eq_some_iff.mp e
    refine Rn.hp hT rfl rfl (wJ_hp e_1514) ?_
    exact Rn.weak (ll_s (ll_s (ll_s (ll_s (ll_n ll_e))))) (rX3_isBarred_b158 hd hb hk hq e)
def fX3_isBarred_b84 (N : Nat) (h : iv_H) (q0 : Nat) (x1 : Int32) (x2 : Int32) (x3 : Int32) (x4 : Int32)  (kb : iv_H → Int32 → Int32 → Option (Int32 × iv_H)) (kx : iv_H → Int32 → Option (Int32 × iv_H)) : Option (Int32 × iv_H) := (if x4 = (3 : Int32) then (if x2 ≤ 0 then (fX3_isBarred_b123 N h q0 x1 x2 x3 x4 kb kx) else ((gR h 3 7 q0).bind fun v_1491 => ((gR h 3 7 q0).bind fun v_1493 => ((aJ h v_1493 (x2 - (1 : Int32))).bind fun v_1495 => (if (lg_cmp v_1495 (0 : Int64)) = 0 then (fX3_isBarred_b119 N h q0 x1 x2 x3 (1 : Int64) (x2 - (1 : Int32)) v_1491 kb kx) else (fX3_isBarred_b119 N h q0 x1 x2 x3 (0 : Int64) (x2 - (1 : Int32)) v_1491 kb kx)))))) else (fX3_isBarred_b123 N h q0 x1 x2 x3 x4 kb kx))
set_option maxRecDepth 10000 in
set_option maxHeartbeats 4000000 in
theorem rX3_isBarred_b84 {d N : Nat} (hd : 2 ≤ d) {h : iv_H} {q0 : Nat} {x1 : Int32} {x2 : Int32} {x3 : Int32} {x4 : Int32}  {kb : iv_H → Int32 → Int32 → Option (Int32 × iv_H)} {kx : iv_H → Int32 → Option (Int32 × iv_H)} {r : Int32 × iv_H} {Q : Option Value → iv_H → Prop} (hb : ∀ (h : iv_H) (w2 : Int32) (w3 : Int32), kb h w2 w3 = some r → Rn d 64 (some .boolean) 4 [some (.ref q0), some (.int x1), some (.int w2), some (.int w3), none] [] h Q) (hk : ∀ (h : iv_H) (w2 : Int32), kx h w2 = some r → Rn d 64 (some .boolean) 164 [some (.ref q0), none, some (.int w2), none, none] [] h Q) (hq : Q (some (.int r.1)) r.2) (e : fX3_isBarred_b84 N h q0 x1 x2 x3 x4  kb kx = some r) : Rn d 64 (some .boolean) 84 [some (.ref q0), some (.int x1), some (.int x2), some (.int x3), some (.int x4)] [] h Q := by
  have hT := hX3_isBarred
  unfold fX3_isBarred_b84 at e
  refine Rn.n hT 2 (pc' := 87) (L' := [some (.ref q0), some (.int x1), some (.int x2), some (.int x3), some (.int x4)]) (st' := [.int (3 : Int32), .int x4]) rfl ?_
  by_cases c_1489 : x4 = (3 : Int32)
  · rw [if_pos c_1489] at e
    refine Rn.bf hT rfl rfl rfl (decide_eq_false (fun z => z c_1489)) ?_
    refine Rn.n hT 1 (pc' := 91) (L' := [some (.ref q0), some (.int x1), some (.int x2), some (.int x3), some (.int x4)]) (st' := [.int x2]) rfl ?_
    by_cases c_1490 : x2 ≤ 0
    · rw [if_pos c_1490] at e
      refine Rn.bt hT rfl rfl rfl (decide_eq_true c_1490) ?_
      exact Rn.weak (ll_s (ll_s (ll_s (ll_s (ll_s ll_e))))) (rX3_isBarred_b123 hd hb hk hq e)
    · rw [if_neg c_1490] at e
      refine Rn.bf hT rfl rfl rfl (decide_eq_false c_1490) ?_
      refine Rn.n hT 1 (pc' := 95) (L' := [some (.ref q0), some (.int x1), some (.int x2), some (.int x3), some (.int x4)]) (st' := [.ref q0]) rfl ?_
      obtain ⟨v_1491, e_1492, e⟩ := Option.bind_eq_some_iff.mp e
      refine Rn.hp hT rfl rfl (gR_hp e_1492) ?_
      refine Rn.n hT 4 (pc' := 102) (L' := [some (.ref q0), some (.int x1), some (.int x2), some (.int x3), some (.int x4)]) (st' := [.ref q0, .int (x2 - (1 : Int32)), .ref v_1491]) rfl ?_
      obtain ⟨v_1493, e_1494, e⟩ := Option.bind_eq_some_iff.mp e
      refine Rn.hp hT rfl rfl (gR_hp e_1494) ?_
      refine Rn.n hT 3 (pc' := 108) (L' := [some (.ref q0), some (.int x1), some (.int x2), some (.int x3), some (.int x4)]) (st' := [.int (x2 - (1 : Int32)), .ref v_1493, .int (x2 - (1 : Int32)), .ref v_1491]) rfl ?_
      obtain ⟨v_1495, e_1496, e⟩ := Option.bind_eq_some_iff.mp e
      refine Rn.hp hT rfl rfl (aJ_hp e_1496) ?_
      refine Rn.n hT 2 (pc' := 111) (L' := [some (.ref q0), some (.int x1), some (.int x2), some (.int x3), some (.int x4)]) (st' := [.int (lg_cmp v_1495 (0 : Int64)), .int (x2 - (1 : Int32)), .ref v_1491]) rfl ?_
      by_cases c_1497 : (lg_cmp v_1495 (0 : Int64)) = 0
      · rw [if_pos c_1497] at e
        refine Rn.bf hT rfl rfl rfl (decide_eq_false (fun z => z c_1497)) ?_
        refine Rn.n hT 2 (pc' := 119) (L' := [some (.ref q0), some (.int x1), some (.int x2), some (.int x3), some (.int x4)]) (st' := [.long (1 : Int64), .int (x2 - (1 : Int32)), .ref v_1491]) rfl ?_
        exact Rn.weak (ll_s (ll_s (ll_s (ll_s (ll_n ll_e))))) (rX3_isBarred_b119 hd hb hk hq e)
      · rw [if_neg c_1497] at e
        refine Rn.bt hT rfl rfl rfl (decide_eq_true c_1497) ?_
        refine Rn.n hT 1 (pc' := 119) (L' := [some (.ref q0), some (.int x1), some (.int x2), some (.int x3), some (.int x4)]) (st' := [.long (0 : Int64), .int (x2 - (1 : Int32)), .ref v_1491]) rfl ?_
        exact Rn.weak (ll_s (ll_s (ll_s (ll_s (ll_n ll_e))))) (rX3_isBarred_b119 hd hb hk hq e)
  · rw [if_neg c_1489] at e
    refine Rn.bt hT rfl rfl rfl (decide_eq_true c_1489) ?_
    exact Rn.weak (ll_s (ll_s (ll_s (ll_s (ll_s ll_e))))) (rX3_isBarred_b123 hd hb hk hq e)
def fX3_isBarred_l4 (N : Nat) (q0 : Nat) (x1 : Int32) (kx : iv_H → Int32 → Option (Int32 × iv_H)) : Nat → iv_H → Int32 → Int32 → Option (Int32 × iv_H)
  | 0, _, _, _ => none
  | n + 1, h, x2, x3 => ((gR h 3 2 q0).bind fun v_1461 => ((aL h v_1461).bind fun v_1463 => (if v_1463 ≤ x3 then (kx h x2) else ((gR h 3 2 q0).bind fun v_1466 => ((aI h v_1466 x3).bind fun v_1468 => (if v_1468 = 0 then (kx h x2) else ((gR h 3 2 q0).bind fun v_1471 => ((aI h v_1471 x3).bind fun v_1473 => (if v_1473 < (20 : Int32) then (fX3_isBarred_b84 N h q0 x1 x2 x3 v_1473 (fX3_isBarred_l4 N q0 x1 kx n) kx) else ((gR h 3 7 q0).bind fun v_1476 => ((aL h v_1476).bind fun v_1478 => (if v_1478 ≤ x2 then (fX3_isBarred_b84 N h q0 x1 x2 x3 v_1473 (fX3_isBarred_l4 N q0 x1 kx n) kx) else ((gR h 3 7 q0).bind fun v_1481 => (if v_1473 < (100 : Int32) then ((cko h q0 3).bind fun _ => (fX3_valueOf N h q0 (v_1473 - (20 : Int32)) x1).bind fun v_1486 => (fX3_isBarred_b77 N h q0 x1 x2 x3 v_1486 x2 v_1481 (fX3_isBarred_l4 N q0 x1 kx n) kx)) else (fX3_isBarred_b77 N h q0 x1 x2 x3 (((v_1473 - (100 : Int32))).toInt64) x2 v_1481 (fX3_isBarred_l4 N q0 x1 kx n) kx)))))))))))))))
set_option maxRecDepth 10000 in
set_option maxHeartbeats 4000000 in
theorem rX3_isBarred_l4 {d N : Nat} (hd : 2 ≤ d) {q0 : Nat} {x1 : Int32} {kx : iv_H → Int32 → Option (Int32 × iv_H)} {r : Int32 × iv_H} {Q : Option Value → iv_H → Prop} (hk : ∀ (h : iv_H) (x2 : Int32), kx h x2 = some r → Rn d 64 (some .boolean) 164 [some (.ref q0), none, some (.int x2), none, none] [] h Q) (hq : Q (some (.int r.1)) r.2) : ∀ (n : Nat) (h : iv_H) (x2 : Int32) (x3 : Int32), fX3_isBarred_l4 N q0 x1 kx n h x2 x3 = some r → Rn d 64 (some .boolean) 4 [some (.ref q0), some (.int x1), some (.int x2), some (.int x3), none] [] h Q := by
  have hT := hX3_isBarred
  intro n
  induction n with
  | zero =>
    intro h x2 x3 e
    rw [fX3_isBarred_l4] at e
    cases e
  | succ n ih =>
    intro h x2 x3 e
    rw [fX3_isBarred_l4] at e
    refine Rn.n hT 2 (pc' := 6) (L' := [some (.ref q0), some (.int x1), some (.int x2), some (.int x3), none]) (st' := [.ref q0, .int x3]) rfl ?_
    obtain ⟨v_1461, e_1462, e⟩ := Option.bind_eq_some_iff.mp e
    refine Rn.hp hT rfl rfl (gR_hp e_1462) ?_
    obtain ⟨v_1463, e_1464, e⟩ := Option.bind_eq_some_iff.mp e
    refine Rn.hp hT rfl rfl (aL_hp e_1464) ?_
    by_cases c_1465 : v_1463 ≤ x3
    · rw [if_pos c_1465] at e
      refine Rn.bt hT rfl rfl rfl (decide_eq_true c_1465) ?_
      exact Rn.weak (ll_s (ll_n (ll_s (ll_n (ll_n ll_e))))) (hk h x2 e)
    · rw [if_neg c_1465] at e
      refine Rn.bf hT rfl rfl rfl (decide_eq_false c_1465) ?_
      refine Rn.n hT 1 (pc' := 14) (L' := [some (.ref q0), some (.int x1), some (.int x2), some (.int x3), none]) (st' := [.ref q0]) rfl ?_
      obtain ⟨v_1466, e_1467, e⟩ := Option.bind_eq_some_iff.mp e
      refine Rn.hp hT rfl rfl (gR_hp e_1467) ?_
      refine Rn.n hT 1 (pc' := 18) (L' := [some (.ref q0), some (.int x1), some (.int x2), some (.int x3), none]) (st' := [.int x3, .ref v_1466]) rfl ?_
      obtain ⟨v_1468, e_1469, e⟩ := Option.bind_eq_some_iff.mp e
      refine Rn.hp hT rfl rfl (aI_hp e_1469) ?_
      by_cases c_1470 : v_1468 = 0
      · rw [if_pos c_1470] at e
        refine Rn.bt hT rfl rfl rfl (decide_eq_true c_1470) ?_
        exact Rn.weak (ll_s (ll_n (ll_s (ll_n (ll_n ll_e))))) (hk h x2 e)
      · rw [if_neg c_1470] at e
        refine Rn.bf hT rfl rfl rfl (decide_eq_false c_1470) ?_
        refine Rn.n hT 1 (pc' := 23) (L' := [some (.ref q0), some (.int x1), some (.int x2), some (.int x3), none]) (st' := [.ref q0]) rfl ?_
        obtain ⟨v_1471, e_1472, e⟩ := Option.bind_eq_some_iff.mp e
        refine Rn.hp hT rfl rfl (gR_hp e_1472) ?_
        refine Rn.n hT 1 (pc' := 27) (L' := [some (.ref q0), some (.int x1), some (.int x2), some (.int x3), none]) (st' := [.int x3, .ref v_1471]) rfl ?_
        obtain ⟨v_1473, e_1474, e⟩ := Option.bind_eq_some_iff.mp e
        refine Rn.hp hT rfl rfl (aI_hp e_1474) ?_
        refine Rn.n hT 3 (pc' := 34) (L' := [some (.ref q0), some (.int x1), some (.int x2), some (.int x3), some (.int v_1473)]) (st' := [.int (20 : Int32), .int v_1473]) rfl ?_
        by_cases c_1475 : v_1473 < (20 : Int32)
        · rw [if_pos c_1475] at e
          refine Rn.bt hT rfl rfl rfl (decide_eq_true c_1475) ?_
          exact Rn.weak (ll_s (ll_s (ll_s (ll_s (ll_s ll_e))))) (rX3_isBarred_b84 hd ih hk hq e)
        · rw [if_neg c_1475] at e
          refine Rn.bf hT rfl rfl rfl (decide_eq_false c_1475) ?_
          refine Rn.n hT 2 (pc' := 39) (L' := [some (.ref q0), some (.int x1), some (.int x2), some (.int x3), some (.int v_1473)]) (st' := [.ref q0, .int x2]) rfl ?_
          obtain ⟨v_1476, e_1477, e⟩ := Option.bind_eq_some_iff.mp e
          refine Rn.hp hT rfl rfl (gR_hp e_1477) ?_
          obtain ⟨v_1478, e_1479, e⟩ := Option.bind_eq_some_iff.mp e
          refine Rn.hp hT rfl rfl (aL_hp e_1479) ?_
          by_cases c_1480 : v_1478 ≤ x2
          · rw [if_pos c_1480] at e
            refine Rn.bt hT rfl rfl rfl (decide_eq_true c_1480) ?_
            exact Rn.weak (ll_s (ll_s (ll_s (ll_s (ll_s ll_e))))) (rX3_isBarred_b84 hd ih hk hq e)
          · rw [if_neg c_1480] at e
            refine Rn.bf hT rfl rfl rfl (decide_eq_false c_1480) ?_
            refine Rn.n hT 1 (pc' := 47) (L' := [some (.ref q0), some (.int x1), some (.int x2), some (.int x3), some (.int v_1473)]) (st' := [.ref q0]) rfl ?_
            obtain ⟨v_1481, e_1482, e⟩ := Option.bind_eq_some_iff.mp e
            refine Rn.hp hT rfl rfl (gR_hp e_1482) ?_
            refine Rn.n hT 3 (pc' := 55) (L' := [some (.ref q0), some (.int x1), some (.int x2), some (.int x3), some (.int v_1473)]) (st' := [.int (100 : Int32), .int v_1473, .int x2, .ref v_1481]) rfl ?_
            by_cases c_1483 : v_1473 < (100 : Int32)
            · rw [if_pos c_1483] at e
              refine Rn.bt hT rfl rfl rfl (decide_eq_true c_1483) ?_
              refine Rn.n hT 5 (pc' := 74) (L' := [some (.ref q0), some (.int x1), some (.int x2), some (.int x3), some (.int v_1473)]) (st' := [.int x1, .int (v_1473 - (20 : Int32)), .ref q0, .int x2, .ref v_1481]) rfl ?_
              obtain ⟨_, e_1485, e⟩ := Option.bind_eq_some_iff.mp e
              obtain ⟨v_1486, e_1484, e⟩ := Option.bind_eq_some_iff.mp e
              refine Rn.call hT rfl rfl rfl (Nat.le_of_ble_eq_true rfl) (rcv_v gX3_valueOf (by omega) e_1485) (rX3_valueOf (by omega) e_1484 ?_)
              show Rn d _ _ 77 [some (.ref q0), some (.int x1), some (.int x2), some (.int x3), some (.int v_1473)] [.long v_1486, .int x2, .ref v_1481] h Q
              exact Rn.weak (ll_s (ll_s (ll_s (ll_s (ll_n ll_e))))) (rX3_isBarred_b77 hd ih hk hq e)
            · rw [if_neg c_1483] at e
              refine Rn.bf hT rfl rfl rfl (decide_eq_false c_1483) ?_
              refine Rn.n hT 5 (pc' := 77) (L' := [some (.ref q0), some (.int x1), some (.int x2), some (.int x3), some (.int v_1473)]) (st' := [.long (((v_1473 - (100 : Int32))).toInt64), .int x2, .ref v_1481]) rfl ?_
              exact Rn.weak (ll_s (ll_s (ll_s (ll_s (ll_n ll_e))))) (rX3_isBarred_b77 hd ih hk hq e)
def fX3_isBarred_b186 (N : Nat) (h : iv_H)  (s0 : Int32) : Option (Int32 × iv_H) := (if s0 = 0 ∨ s0 = 1 then some (s0, h) else none)
set_option maxRecDepth 10000 in
set_option maxHeartbeats 4000000 in
theorem rX3_isBarred_b186 {d N : Nat} (hd : 2 ≤ d) {h : iv_H}  {s0 : Int32} {r : Int32 × iv_H} {Q : Option Value → iv_H → Prop} (hq : Q (some (.int r.1)) r.2) (e : fX3_isBarred_b186 N h  s0 = some r) : Rn d 64 (some .boolean) 186 [none, none, none, none, none] [.int s0] h Q := by
  have hT := hX3_isBarred
  unfold fX3_isBarred_b186 at e
  by_cases c_1521 : s0 = 0 ∨ s0 = 1
  · rw [if_pos c_1521] at e
    obtain rfl := Option.some.inj e
    exact Rn.ret hT rfl rfl (if_pos c_1521) hq
  · rw [if_neg c_1521] at e
    cases e
def fX3_isBarred_b185 (N : Nat) (h : iv_H)   : Option (Int32 × iv_H) := (fX3_isBarred_b186 N h (0 : Int32))
set_option maxRecDepth 10000 in
set_option maxHeartbeats 4000000 in
theorem rX3_isBarred_b185 {d N : Nat} (hd : 2 ≤ d) {h : iv_H}   {r : Int32 × iv_H} {Q : Option Value → iv_H → Prop} (hq : Q (some (.int r.1)) r.2) (e : fX3_isBarred_b185 N h   = some r) : Rn d 64 (some .boolean) 185 [none, none, none, none, none] [] h Q := by
  have hT := hX3_isBarred
  unfold fX3_isBarred_b185 at e
  refine Rn.n hT 1 (pc' := 186) (L' := [none, none, none, none, none]) (st' := [.int (0 : Int32)]) rfl ?_
  exact Rn.weak (ll_n (ll_n (ll_n (ll_n (ll_n ll_e))))) (rX3_isBarred_b186 hd hq e)
def fX3_isBarred_b164 (N : Nat) (h : iv_H) (q0 : Nat) (x2 : Int32)  : Option (Int32 × iv_H) := (if x2 ≤ 0 then (fX3_isBarred_b185 N h) else ((gR h 3 7 q0).bind fun v_1516 => ((aJ h v_1516 (x2 - (1 : Int32))).bind fun v_1518 => (if (lg_cmp v_1518 (0 : Int64)) = 0 then (fX3_isBarred_b185 N h) else (fX3_isBarred_b186 N h (1 : Int32))))))
set_option maxRecDepth 10000 in
set_option maxHeartbeats 4000000 in
theorem rX3_isBarred_b164 {d N : Nat} (hd : 2 ≤ d) {h : iv_H} {q0 : Nat} {x2 : Int32}  {r : Int32 × iv_H} {Q : Option Value → iv_H → Prop} (hq : Q (some (.int r.1)) r.2) (e : fX3_isBarred_b164 N h q0 x2  = some r) : Rn d 64 (some .boolean) 164 [some (.ref q0), none, some (.int x2), none, none] [] h Q := by
  have hT := hX3_isBarred
  unfold fX3_isBarred_b164 at e
  refine Rn.n hT 1 (pc' := 165) (L' := [some (.ref q0), none, some (.int x2), none, none]) (st' := [.int x2]) rfl ?_
  by_cases c_1515 : x2 ≤ 0
  · rw [if_pos c_1515] at e
    refine Rn.bt hT rfl rfl rfl (decide_eq_true c_1515) ?_
    exact Rn.weak (ll_n (ll_n (ll_n (ll_n (ll_n ll_e))))) (rX3_isBarred_b185 hd hq e)
  · rw [if_neg c_1515] at e
    refine Rn.bf hT rfl rfl rfl (decide_eq_false c_1515) ?_
    refine Rn.n hT 1 (pc' := 169) (L' := [some (.ref q0), none, some (.int x2), none, none]) (st' := [.ref q0]) rfl ?_
    obtain ⟨v_1516, e_1517, e⟩ := Option.bind_eq_some_iff.mp e
    refine Rn.hp hT rfl rfl (gR_hp e_1517) ?_
    refine Rn.n hT 3 (pc' := 175) (L' := [some (.ref q0), none, some (.int x2), none, none]) (st' := [.int (x2 - (1 : Int32)), .ref v_1516]) rfl ?_
    obtain ⟨v_1518, e_1519, e⟩ := Option.bind_eq_some_iff.mp e
    refine Rn.hp hT rfl rfl (aJ_hp e_1519) ?_
    refine Rn.n hT 2 (pc' := 178) (L' := [some (.ref q0), none, some (.int x2), none, none]) (st' := [.int (lg_cmp v_1518 (0 : Int64))]) rfl ?_
    by_cases c_1520 : (lg_cmp v_1518 (0 : Int64)) = 0
    · rw [if_pos c_1520] at e
      refine Rn.bt hT rfl rfl rfl (decide_eq_true c_1520) ?_
      exact Rn.weak (ll_n (ll_n (ll_n (ll_n (ll_n ll_e))))) (rX3_isBarred_b185 hd hq e)
    · rw [if_neg c_1520] at e
      refine Rn.bf hT rfl rfl rfl (decide_eq_false c_1520) ?_
      refine Rn.n hT 2 (pc' := 186) (L' := [some (.ref q0), none, some (.int x2), none, none]) (st' := [.int (1 : Int32)]) rfl ?_
      exact Rn.weak (ll_n (ll_n (ll_n (ll_n (ll_n ll_e))))) (rX3_isBarred_b186 hd hq e)
def fX3_isBarred (N : Nat) (h : iv_H) (q0 : Nat) (x1 : Int32) : Option (Int32 × iv_H) := (fX3_isBarred_l4 N q0 x1 (fun (h_1459 : iv_H) (z_1460 : Int32) => (fX3_isBarred_b164 N h_1459 q0 z_1460)) N h (0 : Int32) (0 : Int32))
set_option maxRecDepth 10000 in
set_option maxHeartbeats 4000000 in
theorem rX3_isBarred {d N : Nat} (hd : 3 ≤ d) {h : iv_H} {q0 : Nat} {x1 : Int32} {r : Int32 × iv_H} {Q : Option Value → iv_H → Prop} (e : fX3_isBarred N h q0 x1 = some r) (hq : Q (some (.int r.1)) r.2) : Cl d 64 [.ref q0, .int x1] h Q := by
  obtain ⟨d, rfl⟩ : ∃ k, d = k + 1 := ⟨d - 1, by omega⟩
  have hd : 2 ≤ d := by omega
  have hT := hX3_isBarred
  unfold fX3_isBarred at e
  refine Cl.into (by decide) gX3_isBarred rfl ?_
  show Rn d 64 (some .boolean) 0 [some (.ref q0), some (.int x1), none, none, none] [] h Q
  refine Rn.n hT 4 (pc' := 4) (L' := [some (.ref q0), some (.int x1), some (.int (0 : Int32)), some (.int (0 : Int32)), none]) (st' := []) rfl ?_
  refine Rn.weak (ll_s (ll_s (ll_s (ll_s (ll_n ll_e))))) (rX3_isBarred_l4 hd (fun h_1459 z_1460 e => ?_) hq N h (0 : Int32) (0 : Int32) e)
  try dsimp only at e
  exact Rn.weak (ll_s (ll_n (ll_s (ll_n (ll_n ll_e))))) (rX3_isBarred_b164 hd hq e)
set_option maxRecDepth 10000 in
theorem hX3_broken : iv_Tb 62 tX3_broken := iv_tb_of (m := mX3_broken) rfl
set_option maxRecDepth 10000 in
theorem gX3_broken : PG.2 62 = some mX3_broken := iv_pi_of (t := tX3_broken) rfl (by decide)
def fX3_broken_b14 (N : Nat) (h : iv_H)   : Option (Int32 × iv_H) := (some ((1 : Int32), h))
set_option maxRecDepth 10000 in
set_option maxHeartbeats 4000000 in
theorem rX3_broken_b14 {d N : Nat} (hd : 3 ≤ d) {h : iv_H}   {r : Int32 × iv_H} {Q : Option Value → iv_H → Prop} (hq : Q (some (.int r.1)) r.2) (e : fX3_broken_b14 N h   = some r) : Rn d 62 (some .int) 14 [none, none, none, none, none] [] h Q := by
  have hT := hX3_broken
  unfold fX3_broken_b14 at e
  refine Rn.n hT 1 (pc' := 15) (L' := [none, none, none, none, none]) (st' := [.int (1 : Int32)]) rfl ?_
  obtain rfl := Option.some.inj e
  exact Rn.ret hT rfl rfl rfl hq
def fX3_broken_b82 (N : Nat) (h : iv_H)   : Option (Int32 × iv_H) := (some ((1 : Int32), h))
set_option maxRecDepth 10000 in
set_option maxHeartbeats 4000000 in
theorem rX3_broken_b82 {d N : Nat} (hd : 3 ≤ d) {h : iv_H}   {r : Int32 × iv_H} {Q : Option Value → iv_H → Prop} (hq : Q (some (.int r.1)) r.2) (e : fX3_broken_b82 N h   = some r) : Rn d 62 (some .int) 82 [none, none, none, none, none] [] h Q := by
  have hT := hX3_broken
  unfold fX3_broken_b82 at e
  refine Rn.n hT 1 (pc' := 83) (L' := [none, none, none, none, none]) (st' := [.int (1 : Int32)]) rfl ?_
  obtain rfl := Option.some.inj e
  exact Rn.ret hT rfl rfl rfl hq
def fX3_broken_b163 (N : Nat) (h : iv_H)   : Option (Int32 × iv_H) := (some ((3 : Int32), h))
set_option maxRecDepth 10000 in
set_option maxHeartbeats 4000000 in
theorem rX3_broken_b163 {d N : Nat} (hd : 3 ≤ d) {h : iv_H}   {r : Int32 × iv_H} {Q : Option Value → iv_H → Prop} (hq : Q (some (.int r.1)) r.2) (e : fX3_broken_b163 N h   = some r) : Rn d 62 (some .int) 163 [none, none, none, none, none] [] h Q := by
  have hT := hX3_broken
  unfold fX3_broken_b163 at e
  refine Rn.n hT 1 (pc' := 164) (L' := [none, none, none, none, none]) (st' := [.int (3 : Int32)]) rfl ?_
  obtain rfl := Option.some.inj e
  exact Rn.ret hT rfl rfl rfl hq
def fX3_broken_b185 (N : Nat) (h : iv_H)  (s0 : Int32) : Option (Int32 × iv_H) := (some (s0, h))
set_option maxRecDepth 10000 in
set_option maxHeartbeats 4000000 in
theorem rX3_broken_b185 {d N : Nat} (hd : 3 ≤ d) {h : iv_H}  {s0 : Int32} {r : Int32 × iv_H} {Q : Option Value → iv_H → Prop} (hq : Q (some (.int r.1)) r.2) (e : fX3_broken_b185 N h  s0 = some r) : Rn d 62 (some .int) 185 [none, none, none, none, none] [.int s0] h Q := by
  have hT := hX3_broken
  unfold fX3_broken_b185 at e
  obtain rfl := Option.some.inj e
  exact Rn.ret hT rfl rfl rfl hq
def fX3_broken_b184 (N : Nat) (h : iv_H)   : Option (Int32 × iv_H) := (fX3_broken_b185 N h (0 : Int32))
set_option maxRecDepth 10000 in
set_option maxHeartbeats 4000000 in
theorem rX3_broken_b184 {d N : Nat} (hd : 3 ≤ d) {h : iv_H}   {r : Int32 × iv_H} {Q : Option Value → iv_H → Prop} (hq : Q (some (.int r.1)) r.2) (e : fX3_broken_b184 N h   = some r) : Rn d 62 (some .int) 184 [none, none, none, none, none] [] h Q := by
  have hT := hX3_broken
  unfold fX3_broken_b184 at e
  refine Rn.n hT 1 (pc' := 185) (L' := [none, none, none, none, none]) (st' := [.int (0 : Int32)]) rfl ?_
  exact Rn.weak (ll_n (ll_n (ll_n (ll_n (ll_n ll_e))))) (rX3_broken_b185 hd hq e)
def fX3_broken_b165 (N : Nat) (h : iv_H) (q0 : Nat) (x1 : Int32)  : Option (Int32 × iv_H) := ((gN h 3 2 q0).bind fun o_1592 => match o_1592 with | none => (fX3_broken_b184 N h) | some v_1584 => ((cko h q0 3).bind fun _ => (fX3_isBarred N h q0 x1).bind fun p_1591 => (fun (v_1588 : Int32) (h_1589 : iv_H) => (if v_1588 = 0 then (fX3_broken_b184 N h_1589) else (fX3_broken_b185 N h_1589 (4 : Int32)))) p_1591.1 p_1591.2))
set_option maxRecDepth 10000 in
set_option maxHeartbeats 4000000 in
theorem rX3_broken_b165 {d N : Nat} (hd : 3 ≤ d) {h : iv_H} {q0 : Nat} {x1 : Int32}  {r : Int32 × iv_H} {Q : Option Value → iv_H → Prop} (hq : Q (some (.int r.1)) r.2) (e : fX3_broken_b165 N h q0 x1  = some r) : Rn d 62 (some .int) 165 [some (.ref q0), some (.int x1), none, none, none] [] h Q := by
  have hT := hX3_broken
  unfold fX3_broken_b165 at e
  refine Rn.n hT 1 (pc' := 166) (L' := [some (.ref q0), some (.int x1), none, none, none]) (st' := [.ref q0]) rfl ?_
  obtain ⟨o_1592, e_1585, e⟩ := Option.bind_eq_some_iff.mp e
  refine Rn.hp hT rfl rfl (gN_hp e_1585) ?_
  cases o_1592 with
  | none =>
    dsimp only at e
    show Rn d _ _ 169 [some (.ref q0), some (.int x1), none, none, none] [.null] h Q
    refine Rn.bt hT rfl rfl rfl rfl ?_
    exact Rn.weak (ll_n (ll_n (ll_n (ll_n (ll_n ll_e))))) (rX3_broken_b184 hd hq e)
  | some v_1584 =>
    dsimp only at e
    show Rn d _ _ 169 [some (.ref q0), some (.int x1), none, none, none] [.ref v_1584] h Q
    refine Rn.bf hT rfl rfl rfl rfl ?_
    refine Rn.n hT 2 (pc' := 174) (L' := [some (.ref q0), some (.int x1), none, none, none]) (st' := [.int x1, .ref q0]) rfl ?_
    obtain ⟨_, e_1587, e⟩ := Option.bind_eq_some_iff.mp e
    obtain ⟨⟨v_1588, h_1589⟩, e_1586, e⟩ := Option.bind_eq_some_iff.mp e
    try dsimp only at e
    try dsimp only at e
    refine Rn.call hT rfl rfl rfl (Nat.le_of_ble_eq_true rfl) (rcv_v gX3_isBarred (by omega) e_1587) (rX3_isBarred (by omega) e_1586 ?_)
    show Rn d _ _ 177 [some (.ref q0), some (.int x1), none, none, none] [.int v_1588] h_1589 Q
    by_cases c_1590 : v_1588 = 0
    · rw [if_pos c_1590] at e
      refine Rn.bt hT rfl rfl rfl (decide_eq_true c_1590) ?_
      exact Rn.weak (ll_n (ll_n (ll_n (ll_n (ll_n ll_e))))) (rX3_broken_b184 hd hq e)
    · rw [if_neg c_1590] at e
      refine Rn.bf hT rfl rfl rfl (decide_eq_false c_1590) ?_
      refine Rn.n hT 2 (pc' := 185) (L' := [some (.ref q0), some (.int x1), none, none, none]) (st' := [.int (4 : Int32)]) rfl ?_
      exact Rn.weak (ll_n (ll_n (ll_n (ll_n (ll_n ll_e))))) (rX3_broken_b185 hd hq e)
def fX3_broken_b145 (N : Nat) (h : iv_H) (q0 : Nat) (x1 : Int32)  : Option (Int32 × iv_H) := ((gR h 3 0 q0).bind fun v_1576 => ((gI h 2 4 v_1576).bind fun v_1578 => (if v_1578 = (2 : Int32) then ((gI h 3 6 q0).bind fun v_1581 => (if v_1581 ≤ 0 then (fX3_broken_b165 N h q0 x1) else (fX3_broken_b163 N h))) else (fX3_broken_b165 N h q0 x1))))
set_option maxRecDepth 10000 in
set_option maxHeartbeats 4000000 in
theorem rX3_broken_b145 {d N : Nat} (hd : 3 ≤ d) {h : iv_H} {q0 : Nat} {x1 : Int32}  {r : Int32 × iv_H} {Q : Option Value → iv_H → Prop} (hq : Q (some (.int r.1)) r.2) (e : fX3_broken_b145 N h q0 x1  = some r) : Rn d 62 (some .int) 145 [some (.ref q0), some (.int x1), none, none, none] [] h Q := by
  have hT := hX3_broken
  unfold fX3_broken_b145 at e
  refine Rn.n hT 1 (pc' := 146) (L' := [some (.ref q0), some (.int x1), none, none, none]) (st' := [.ref q0]) rfl ?_
  obtain ⟨v_1576, e_1577, e⟩ := Option.bind_eq_some_iff.mp e
  refine Rn.hp hT rfl rfl (gR_hp e_1577) ?_
  obtain ⟨v_1578, e_1579, e⟩ := Option.bind_eq_some_iff.mp e
  refine Rn.hp hT rfl rfl (gI_hp e_1579) ?_
  refine Rn.n hT 1 (pc' := 153) (L' := [some (.ref q0), some (.int x1), none, none, none]) (st' := [.int (2 : Int32), .int v_1578]) rfl ?_
  by_cases c_1580 : v_1578 = (2 : Int32)
  · rw [if_pos c_1580] at e
    refine Rn.bf hT rfl rfl rfl (decide_eq_false (fun z => z c_1580)) ?_
    refine Rn.n hT 1 (pc' := 157) (L' := [some (.ref q0), some (.int x1), none, none, none]) (st' := [.ref q0]) rfl ?_
    obtain ⟨v_1581, e_1582, e⟩ := Option.bind_eq_some_iff.mp e
    refine Rn.hp hT rfl rfl (gI_hp e_1582) ?_
    by_cases c_1583 : v_1581 ≤ 0
    · rw [if_pos c_1583] at e
      refine Rn.bt hT rfl rfl rfl (decide_eq_true c_1583) ?_
      exact Rn.weak (ll_s (ll_s (ll_n (ll_n (ll_n ll_e))))) (rX3_broken_b165 hd hq e)
    · rw [if_neg c_1583] at e
      refine Rn.bf hT rfl rfl rfl (decide_eq_false c_1583) ?_
      exact Rn.weak (ll_n (ll_n (ll_n (ll_n (ll_n ll_e))))) (rX3_broken_b163 hd hq e)
  · rw [if_neg c_1580] at e
    refine Rn.bt hT rfl rfl rfl (decide_eq_true c_1580) ?_
    exact Rn.weak (ll_s (ll_s (ll_n (ll_n (ll_n ll_e))))) (rX3_broken_b165 hd hq e)
def fX3_broken_b41 (N : Nat) (h : iv_H) (q0 : Nat) (x1 : Int32) (x2 : Int32) (x3 : Int32) (s0 : Int32) : Option (Int32 × iv_H) := ((gR h 3 0 q0).bind fun v_1529 => ((gI h 2 1 v_1529).bind fun v_1531 => (if ((v_1531 >>> ((x2 - (1 : Int32)) &&& 31)) &&& (1 : Int32)) = 0 then (fX3_broken_b82 N h) else ((gR h 3 0 q0).bind fun v_1534 => ((cko h v_1534 2).bind fun _ => (fX2_isFixed N h v_1534 x3).bind fun v_1538 => (if v_1538 = 0 then ((gR h 3 0 q0).bind fun v_1540 => ((cko h v_1540 2).bind fun _ => (fX2_isFixed N h v_1540 s0).bind fun v_1544 => (if v_1544 = 0 then ((gR h 3 1 q0).bind fun v_1546 => ((cko h v_1546 1).bind fun _ => (fX1_canGo N h v_1546 x1).bind fun v_1550 => (if v_1550 = 0 then (some ((2 : Int32), h)) else ((gI h 3 3 q0).bind fun v_1552 => (if v_1552 = 0 then (some ((0 : Int32), h)) else ((gI h 3 5 q0).bind fun v_1555 => ((gR h 3 1 q0).bind fun v_1557 => ((cko h v_1557 1).bind fun _ => (fX1_gain N h v_1557 x1).bind fun p_1575 => (fun (v_1561 : Int32) (h_1562 : iv_H) => ((pV h_1562 3 6 q0 (.int (v_1555 + v_1561))).bind fun h_1563 => ((gR h_1563 3 0 q0).bind fun v_1565 => ((gI h_1563 2 4 v_1565).bind fun v_1567 => (if v_1567 = (1 : Int32) then ((gI h_1563 3 6 q0).bind fun v_1570 => ((gI h_1563 3 5 q0).bind fun v_1572 => (if v_1572 < v_1570 then (fX3_broken_b163 N h_1563) else (fX3_broken_b145 N h_1563 q0 x1)))) else (fX3_broken_b145 N h_1563 q0 x1)))))) p_1575.1 p_1575.2)))))))) else (fX3_broken_b82 N h)))) else (fX3_broken_b82 N h)))))))
set_option maxRecDepth 10000 in
set_option maxHeartbeats 4000000 in
theorem rX3_broken_b41 {d N : Nat} (hd : 3 ≤ d) {h : iv_H} {q0 : Nat} {x1 : Int32} {x2 : Int32} {x3 : Int32} {s0 : Int32} {r : Int32 × iv_H} {Q : Option Value → iv_H → Prop} (hq : Q (some (.int r.1)) r.2) (e : fX3_broken_b41 N h q0 x1 x2 x3 s0 = some r) : Rn d 62 (some .int) 41 [some (.ref q0), some (.int x1), some (.int x2), some (.int x3), none] [.int s0] h Q := by
  have hT := hX3_broken
  unfold fX3_broken_b41 at e
  refine Rn.n hT 2 (pc' := 44) (L' := [some (.ref q0), some (.int x1), some (.int x2), some (.int x3), some (.int s0)]) (st' := [.ref q0]) rfl ?_
  obtain ⟨v_1529, e_1530, e⟩ := Option.bind_eq_some_iff.mp e
  refine Rn.hp hT rfl rfl (gR_hp e_1530) ?_
  obtain ⟨v_1531, e_1532, e⟩ := Option.bind_eq_some_iff.mp e
  refine Rn.hp hT rfl rfl (gI_hp e_1532) ?_
  refine Rn.n hT 6 (pc' := 56) (L' := [some (.ref q0), some (.int x1), some (.int x2), some (.int x3), some (.int s0)]) (st' := [.int ((v_1531 >>> ((x2 - (1 : Int32)) &&& 31)) &&& (1 : Int32))]) rfl ?_
  by_cases c_1533 : ((v_1531 >>> ((x2 - (1 : Int32)) &&& 31)) &&& (1 : Int32)) = 0
  · rw [if_pos c_1533] at e
    refine Rn.bt hT rfl rfl rfl (decide_eq_true c_1533) ?_
    exact Rn.weak (ll_n (ll_n (ll_n (ll_n (ll_n ll_e))))) (rX3_broken_b82 hd hq e)
  · rw [if_neg c_1533] at e
    refine Rn.bf hT rfl rfl rfl (decide_eq_false c_1533) ?_
    refine Rn.n hT 1 (pc' := 60) (L' := [some (.ref q0), some (.int x1), some (.int x2), some (.int x3), some (.int s0)]) (st' := [.ref q0]) rfl ?_
    obtain ⟨v_1534, e_1535, e⟩ := Option.bind_eq_some_iff.mp e
    refine Rn.hp hT rfl rfl (gR_hp e_1535) ?_
    refine Rn.n hT 1 (pc' := 64) (L' := [some (.ref q0), some (.int x1), some (.int x2), some (.int x3), some (.int s0)]) (st' := [.int x3, .ref v_1534]) rfl ?_
    obtain ⟨_, e_1537, e⟩ := Option.bind_eq_some_iff.mp e
    obtain ⟨v_1538, e_1536, e⟩ := Option.bind_eq_some_iff.mp e
    refine Rn.call hT rfl rfl rfl (Nat.le_of_ble_eq_true rfl) (rcv_v gX2_isFixed (by omega) e_1537) (rX2_isFixed (by omega) e_1536 ?_)
    show Rn d _ _ 67 [some (.ref q0), some (.int x1), some (.int x2), some (.int x3), some (.int s0)] [.int v_1538] h Q
    by_cases c_1539 : v_1538 = 0
    · rw [if_pos c_1539] at e
      refine Rn.bf hT rfl rfl rfl (decide_eq_false (fun z => z c_1539)) ?_
      refine Rn.n hT 1 (pc' := 71) (L' := [some (.ref q0), some (.int x1), some (.int x2), some (.int x3), some (.int s0)]) (st' := [.ref q0]) rfl ?_
      obtain ⟨v_1540, e_1541, e⟩ := Option.bind_eq_some_iff.mp e
      refine Rn.hp hT rfl rfl (gR_hp e_1541) ?_
      refine Rn.n hT 1 (pc' := 76) (L' := [some (.ref q0), some (.int x1), some (.int x2), some (.int x3), some (.int s0)]) (st' := [.int s0, .ref v_1540]) rfl ?_
      obtain ⟨_, e_1543, e⟩ := Option.bind_eq_some_iff.mp e
      obtain ⟨v_1544, e_1542, e⟩ := Option.bind_eq_some_iff.mp e
      refine Rn.call hT rfl rfl rfl (Nat.le_of_ble_eq_true rfl) (rcv_v gX2_isFixed (by omega) e_1543) (rX2_isFixed (by omega) e_1542 ?_)
      show Rn d _ _ 79 [some (.ref q0), some (.int x1), some (.int x2), some (.int x3), some (.int s0)] [.int v_1544] h Q
      by_cases c_1545 : v_1544 = 0
      · rw [if_pos c_1545] at e
        refine Rn.bt hT rfl rfl rfl (decide_eq_true c_1545) ?_
        refine Rn.n hT 1 (pc' := 85) (L' := [some (.ref q0), some (.int x1), some (.int x2), some (.int x3), some (.int s0)]) (st' := [.ref q0]) rfl ?_
        obtain ⟨v_1546, e_1547, e⟩ := Option.bind_eq_some_iff.mp e
        refine Rn.hp hT rfl rfl (gR_hp e_1547) ?_
        refine Rn.n hT 1 (pc' := 89) (L' := [some (.ref q0), some (.int x1), some (.int x2), some (.int x3), some (.int s0)]) (st' := [.int x1, .ref v_1546]) rfl ?_
        obtain ⟨_, e_1549, e⟩ := Option.bind_eq_some_iff.mp e
        obtain ⟨v_1550, e_1548, e⟩ := Option.bind_eq_some_iff.mp e
        refine Rn.call hT rfl rfl rfl (Nat.le_of_ble_eq_true rfl) (rcv_v gX1_canGo (by omega) e_1549) (rX1_canGo (by omega) e_1548 ?_)
        show Rn d _ _ 92 [some (.ref q0), some (.int x1), some (.int x2), some (.int x3), some (.int s0)] [.int v_1550] h Q
        by_cases c_1551 : v_1550 = 0
        · rw [if_pos c_1551] at e
          refine Rn.bf hT rfl rfl rfl (decide_eq_false (fun z => z c_1551)) ?_
          refine Rn.n hT 1 (pc' := 96) (L' := [some (.ref q0), some (.int x1), some (.int x2), some (.int x3), some (.int s0)]) (st' := [.int (2 : Int32)]) rfl ?_
          obtain rfl := Option.some.inj e
          exact Rn.ret hT rfl rfl rfl hq
        · rw [if_neg c_1551] at e
          refine Rn.bt hT rfl rfl rfl (decide_eq_true c_1551) ?_
          refine Rn.n hT 1 (pc' := 98) (L' := [some (.ref q0), some (.int x1), some (.int x2), some (.int x3), some (.int s0)]) (st' := [.ref q0]) rfl ?_
          obtain ⟨v_1552, e_1553, e⟩ := Option.bind_eq_some_iff.mp e
          refine Rn.hp hT rfl rfl (gI_hp e_1553) ?_
          by_cases c_1554 : v_1552 = 0
          · rw [if_pos c_1554] at e
            refine Rn.bf hT rfl rfl rfl (decide_eq_false (fun z => z c_1554)) ?_
            refine Rn.n hT 1 (pc' := 105) (L' := [some (.ref q0), some (.int x1), some (.int x2), some (.int x3), some (.int s0)]) (st' := [.int (0 : Int32)]) rfl ?_
            obtain rfl := Option.some.inj e
            exact Rn.ret hT rfl rfl rfl hq
          · rw [if_neg c_1554] at e
            refine Rn.bt hT rfl rfl rfl (decide_eq_true c_1554) ?_
            refine Rn.n hT 2 (pc' := 108) (L' := [some (.ref q0), some (.int x1), some (.int x2), some (.int x3), some (.int s0)]) (st' := [.ref q0, .ref q0]) rfl ?_
            obtain ⟨v_1555, e_1556, e⟩ := Option.bind_eq_some_iff.mp e
            refine Rn.hp hT rfl rfl (gI_hp e_1556) ?_
            refine Rn.n hT 1 (pc' := 112) (L' := [some (.ref q0), some (.int x1), some (.int x2), some (.int x3), some (.int s0)]) (st' := [.ref q0, .int v_1555, .ref q0]) rfl ?_
            obtain ⟨v_1557, e_1558, e⟩ := Option.bind_eq_some_iff.mp e
            refine Rn.hp hT rfl rfl (gR_hp e_1558) ?_
            refine Rn.n hT 1 (pc' := 116) (L' := [some (.ref q0), some (.int x1), some (.int x2), some (.int x3), some (.int s0)]) (st' := [.int x1, .ref v_1557, .int v_1555, .ref q0]) rfl ?_
            obtain ⟨_, e_1560, e⟩ := Option.bind_eq_some_iff.mp e
            obtain ⟨⟨v_1561, h_1562⟩, e_1559, e⟩ := Option.bind_eq_some_iff.mp e
            try dsimp only at e
            try dsimp only at e
            refine Rn.call hT rfl rfl rfl (Nat.le_of_ble_eq_true rfl) (rcv_v gX1_gain (by omega) e_1560) (rX1_gain (by omega) e_1559 ?_)
            show Rn d _ _ 119 [some (.ref q0), some (.int x1), some (.int x2), some (.int x3), some (.int s0)] [.int v_1561, .int v_1555, .ref q0] h_1562 Q
            refine Rn.n hT 1 (pc' := 120) (L' := [some (.ref q0), some (.int x1), some (.int x2), some (.int x3), some (.int s0)]) (st' := [.int (v_1555 + v_1561), .ref q0]) rfl ?_
            obtain ⟨h_1563, e_1564, e⟩ := Option.bind_eq_some_iff.mp e
            refine Rn.hp hT rfl rfl (pV_hp rfl e_1564) ?_
            refine Rn.n hT 1 (pc' := 124) (L' := [some (.ref q0), some (.int x1), some (.int x2), some (.int x3), some (.int s0)]) (st' := [.ref q0]) rfl ?_
            obtain ⟨v_1565, e_1566, e⟩ := Option.bind_eq_some_iff.mp e
            refine Rn.hp hT rfl rfl (gR_hp e_1566) ?_
            obtain ⟨v_1567, e_1568, e⟩ := Option.bind_eq_some_iff.mp e
            refine Rn.hp hT rfl rfl (gI_hp e_1568) ?_
            refine Rn.n hT 1 (pc' := 131) (L' := [some (.ref q0), some (.int x1), some (.int x2), some (.int x3), some (.int s0)]) (st' := [.int (1 : Int32), .int v_1567]) rfl ?_
            by_cases c_1569 : v_1567 = (1 : Int32)
            · rw [if_pos c_1569] at e
              refine Rn.bf hT rfl rfl rfl (decide_eq_false (fun z => z c_1569)) ?_
              refine Rn.n hT 1 (pc' := 135) (L' := [some (.ref q0), some (.int x1), some (.int x2), some (.int x3), some (.int s0)]) (st' := [.ref q0]) rfl ?_
              obtain ⟨v_1570, e_1571, e⟩ := Option.bind_eq_some_iff.mp e
              refine Rn.hp hT rfl rfl (gI_hp e_1571) ?_
              refine Rn.n hT 1 (pc' := 139) (L' := [some (.ref q0), some (.int x1), some (.int x2), some (.int x3), some (.int s0)]) (st' := [.ref q0, .int v_1570]) rfl ?_
              obtain ⟨v_1572, e_1573, e⟩ := Option.bind_eq_some_iff.mp e
              refine Rn.hp hT rfl rfl (gI_hp e_1573) ?_
              by_cases c_1574 : v_1572 < v_1570
              · rw [if_pos c_1574] at e
                refine Rn.bt hT rfl rfl rfl (decide_eq_true c_1574) ?_
                exact Rn.weak (ll_n (ll_n (ll_n (ll_n (ll_n ll_e))))) (rX3_broken_b163 hd hq e)
              · rw [if_neg c_1574] at e
                refine Rn.bf hT rfl rfl rfl (decide_eq_false c_1574) ?_
                exact Rn.weak (ll_s (ll_s (ll_n (ll_n (ll_n ll_e))))) (rX3_broken_b145 hd hq e)
            · rw [if_neg c_1569] at e
              refine Rn.bt hT rfl rfl rfl (decide_eq_true c_1569) ?_
              exact Rn.weak (ll_s (ll_s (ll_n (ll_n (ll_n ll_e))))) (rX3_broken_b145 hd hq e)
      · rw [if_neg c_1545] at e
        refine Rn.bf hT rfl rfl rfl (decide_eq_false c_1545) ?_
        exact Rn.weak (ll_n (ll_n (ll_n (ll_n (ll_n ll_e))))) (rX3_broken_b82 hd hq e)
    · rw [if_neg c_1539] at e
      refine Rn.bt hT rfl rfl rfl (decide_eq_true c_1539) ?_
      exact Rn.weak (ll_n (ll_n (ll_n (ll_n (ll_n ll_e))))) (rX3_broken_b82 hd hq e)
def fX3_broken (N : Nat) (h : iv_H) (q0 : Nat) (x1 : Int32) : Option (Int32 × iv_H) := ((gN h 3 0 q0).bind fun o_1528 => match o_1528 with | none => (fX3_broken_b14 N h) | some v_1522 => ((gN h 3 1 q0).bind fun o_1527 => match o_1527 with | none => (fX3_broken_b14 N h) | some v_1524 => (if (x1 >>> ((8 : Int32) &&& 31)) = (2 : Int32) then (fX3_broken_b41 N h q0 x1 (x1 >>> ((8 : Int32) &&& 31)) ((x1 >>> ((4 : Int32) &&& 31)) &&& (15 : Int32)) (x1 &&& (15 : Int32))) else (fX3_broken_b41 N h q0 x1 (x1 >>> ((8 : Int32) &&& 31)) ((x1 >>> ((4 : Int32) &&& 31)) &&& (15 : Int32)) ((x1 >>> ((4 : Int32) &&& 31)) &&& (15 : Int32))))))
set_option maxRecDepth 10000 in
set_option maxHeartbeats 4000000 in
theorem rX3_broken {d N : Nat} (hd : 4 ≤ d) {h : iv_H} {q0 : Nat} {x1 : Int32} {r : Int32 × iv_H} {Q : Option Value → iv_H → Prop} (e : fX3_broken N h q0 x1 = some r) (hq : Q (some (.int r.1)) r.2) : Cl d 62 [.ref q0, .int x1] h Q := by
  obtain ⟨d, rfl⟩ : ∃ k, d = k + 1 := ⟨d - 1, by omega⟩
  have hd : 3 ≤ d := by omega
  have hT := hX3_broken
  unfold fX3_broken at e
  refine Cl.into (by decide) gX3_broken rfl ?_
  show Rn d 62 (some .int) 0 [some (.ref q0), some (.int x1), none, none, none] [] h Q
  refine Rn.n hT 1 (pc' := 1) (L' := [some (.ref q0), some (.int x1), none, none, none]) (st' := [.ref q0]) rfl ?_
  obtain ⟨o_1528, e_1523, e⟩ := Option.bind_eq_some_iff.mp e
  refine Rn.hp hT rfl rfl (gN_hp e_1523) ?_
  cases o_1528 with
  | none =>
    dsimp only at e
    show Rn d _ _ 4 [some (.ref q0), some (.int x1), none, none, none] [.null] h Q
    refine Rn.bt hT rfl rfl rfl rfl ?_
    exact Rn.weak (ll_n (ll_n (ll_n (ll_n (ll_n ll_e))))) (rX3_broken_b14 hd hq e)
  | some v_1522 =>
    dsimp only at e
    show Rn d _ _ 4 [some (.ref q0), some (.int x1), none, none, none] [.ref v_1522] h Q
    refine Rn.bf hT rfl rfl rfl rfl ?_
    refine Rn.n hT 1 (pc' := 8) (L' := [some (.ref q0), some (.int x1), none, none, none]) (st' := [.ref q0]) rfl ?_
    obtain ⟨o_1527, e_1525, e⟩ := Option.bind_eq_some_iff.mp e
    refine Rn.hp hT rfl rfl (gN_hp e_1525) ?_
    cases o_1527 with
    | none =>
      dsimp only at e
      show Rn d _ _ 11 [some (.ref q0), some (.int x1), none, none, none] [.null] h Q
      refine Rn.bf hT rfl rfl rfl rfl ?_
      exact Rn.weak (ll_n (ll_n (ll_n (ll_n (ll_n ll_e))))) (rX3_broken_b14 hd hq e)
    | some v_1524 =>
      dsimp only at e
      show Rn d _ _ 11 [some (.ref q0), some (.int x1), none, none, none] [.ref v_1524] h Q
      refine Rn.bt hT rfl rfl rfl rfl ?_
      refine Rn.n hT 12 (pc' := 30) (L' := [some (.ref q0), some (.int x1), some (.int (x1 >>> ((8 : Int32) &&& 31))), some (.int ((x1 >>> ((4 : Int32) &&& 31)) &&& (15 : Int32))), none]) (st' := [.int (2 : Int32), .int (x1 >>> ((8 : Int32) &&& 31))]) rfl ?_
      by_cases c_1526 : (x1 >>> ((8 : Int32) &&& 31)) = (2 : Int32)
      · rw [if_pos c_1526] at e
        refine Rn.bf hT rfl rfl rfl (decide_eq_false (fun z => z c_1526)) ?_
        refine Rn.n hT 4 (pc' := 41) (L' := [some (.ref q0), some (.int x1), some (.int (x1 >>> ((8 : Int32) &&& 31))), some (.int ((x1 >>> ((4 : Int32) &&& 31)) &&& (15 : Int32))), none]) (st' := [.int (x1 &&& (15 : Int32))]) rfl ?_
        exact Rn.weak (ll_s (ll_s (ll_s (ll_s (ll_n ll_e))))) (rX3_broken_b41 hd hq e)
      · rw [if_neg c_1526] at e
        refine Rn.bt hT rfl rfl rfl (decide_eq_true c_1526) ?_
        refine Rn.n hT 1 (pc' := 41) (L' := [some (.ref q0), some (.int x1), some (.int (x1 >>> ((8 : Int32) &&& 31))), some (.int ((x1 >>> ((4 : Int32) &&& 31)) &&& (15 : Int32))), none]) (st' := [.int ((x1 >>> ((4 : Int32) &&& 31)) &&& (15 : Int32))]) rfl ?_
        exact Rn.weak (ll_s (ll_s (ll_s (ll_s (ll_n ll_e))))) (rX3_broken_b41 hd hq e)
set_option maxRecDepth 10000 in
theorem hX3_list : iv_Tb 63 tX3_list := iv_tb_of (m := mX3_list) rfl
set_option maxRecDepth 10000 in
theorem gX3_list : PG.2 63 = some mX3_list := iv_pi_of (t := tX3_list) rfl (by decide)
def fX3_list_b75 (N : Nat) (h : iv_H) (q0 : Nat) (q1 : Nat) (x2 : Int32) (x3 : Int32) (x4 : Int32) (x5 : Int32)  (kb : iv_H → Int32 → Int32 → Option (Int32 × iv_H)) (kx : iv_H → Int32 → Option (Int32 × iv_H)) : Option (Int32 × iv_H) := (kb h x3 (x5 + (1 : Int32)))
set_option maxRecDepth 10000 in
set_option maxHeartbeats 4000000 in
theorem rX3_list_b75 {d N : Nat} (hd : 4 ≤ d) {h : iv_H} {q0 : Nat} {q1 : Nat} {x2 : Int32} {x3 : Int32} {x4 : Int32} {x5 : Int32}  {kb : iv_H → Int32 → Int32 → Option (Int32 × iv_H)} {kx : iv_H → Int32 → Option (Int32 × iv_H)} {r : Int32 × iv_H} {Q : Option Value → iv_H → Prop} (hb : ∀ (h : iv_H) (w3 : Int32) (w5 : Int32), kb h w3 w5 = some r → Rn d 63 (some .int) 33 [some (.ref q0), some (.ref q1), some (.int x2), some (.int w3), some (.int x4), some (.int w5), none] [] h Q) (hk : ∀ (h : iv_H) (w3 : Int32), kx h w3 = some r → Rn d 63 (some .int) 81 [some (.ref q0), some (.ref q1), some (.int x2), some (.int w3), some (.int x4), none, none] [] h Q) (hq : Q (some (.int r.1)) r.2) (e : fX3_list_b75 N h q0 q1 x2 x3 x4 x5  kb kx = some r) : Rn d 63 (some .int) 75 [some (.ref q0), some (.ref q1), some (.int x2), some (.int x3), some (.int x4), some (.int x5), none] [] h Q := by
  have hT := hX3_list
  unfold fX3_list_b75 at e
  refine Rn.n hT 2 (pc' := 33) (L' := [some (.ref q0), some (.ref q1), some (.int x2), some (.int x3), some (.int x4), some (.int (x5 + (1 : Int32))), none]) (st' := []) rfl ?_
  exact Rn.weak (ll_s (ll_s (ll_s (ll_s (ll_s (ll_s (ll_n ll_e))))))) (hb h x3 (x5 + (1 : Int32)) e)
def fX3_list_l33 (N : Nat) (q0 : Nat) (q1 : Nat) (x2 : Int32) (x4 : Int32) (kx : iv_H → Int32 → Option (Int32 × iv_H)) : Nat → iv_H → Int32 → Int32 → Option (Int32 × iv_H)
  | 0, _, _, _ => none
  | n + 1, h, x3, x5 => (if (4 : Int32) ≤ x5 then (kx h x3) else ((cko h q0 3).bind fun _ => (fX3_broken N h q0 (((256 : Int32) ||| (x4 <<< ((4 : Int32) &&& 31))) ||| x5)).bind fun p_1620 => (fun (v_1612 : Int32) (h_1613 : iv_H) => (if v_1612 = 0 then ((aL h_1613 q1).bind fun v_1615 => (if v_1615 ≤ x3 then (fX3_list_b75 N h_1613 q0 q1 x2 x3 x4 x5 (fX3_list_l33 N q0 q1 x2 x4 kx n) kx) else ((wI h_1613 q1 x3 (((256 : Int32) ||| (x4 <<< ((4 : Int32) &&& 31))) ||| x5)).bind fun h_1618 => (fX3_list_b75 N h_1618 q0 q1 x2 (x3 + (1 : Int32)) x4 x5 (fX3_list_l33 N q0 q1 x2 x4 kx n) kx)))) else (fX3_list_b75 N h_1613 q0 q1 x2 x3 x4 x5 (fX3_list_l33 N q0 q1 x2 x4 kx n) kx))) p_1620.1 p_1620.2))
set_option maxRecDepth 10000 in
set_option maxHeartbeats 4000000 in
theorem rX3_list_l33 {d N : Nat} (hd : 4 ≤ d) {q0 : Nat} {q1 : Nat} {x2 : Int32} {x4 : Int32} {kx : iv_H → Int32 → Option (Int32 × iv_H)} {r : Int32 × iv_H} {Q : Option Value → iv_H → Prop} (hk : ∀ (h : iv_H) (x3 : Int32), kx h x3 = some r → Rn d 63 (some .int) 81 [some (.ref q0), some (.ref q1), some (.int x2), some (.int x3), some (.int x4), none, none] [] h Q) (hq : Q (some (.int r.1)) r.2) : ∀ (n : Nat) (h : iv_H) (x3 : Int32) (x5 : Int32), fX3_list_l33 N q0 q1 x2 x4 kx n h x3 x5 = some r → Rn d 63 (some .int) 33 [some (.ref q0), some (.ref q1), some (.int x2), some (.int x3), some (.int x4), some (.int x5), none] [] h Q := by
  have hT := hX3_list
  intro n
  induction n with
  | zero =>
    intro h x3 x5 e
    rw [fX3_list_l33] at e
    cases e
  | succ n ih =>
    intro h x3 x5 e
    rw [fX3_list_l33] at e
    refine Rn.n hT 2 (pc' := 36) (L' := [some (.ref q0), some (.ref q1), some (.int x2), some (.int x3), some (.int x4), some (.int x5), none]) (st' := [.int (4 : Int32), .int x5]) rfl ?_
    by_cases c_1609 : (4 : Int32) ≤ x5
    · rw [if_pos c_1609] at e
      refine Rn.bt hT rfl rfl rfl (decide_eq_true c_1609) ?_
      exact Rn.weak (ll_s (ll_s (ll_s (ll_s (ll_s (ll_n (ll_n ll_e))))))) (hk h x3 e)
    · rw [if_neg c_1609] at e
      refine Rn.bf hT rfl rfl rfl (decide_eq_false c_1609) ?_
      refine Rn.n hT 10 (pc' := 55) (L' := [some (.ref q0), some (.ref q1), some (.int x2), some (.int x3), some (.int x4), some (.int x5), some (.int (((256 : Int32) ||| (x4 <<< ((4 : Int32) &&& 31))) ||| x5))]) (st' := [.int (((256 : Int32) ||| (x4 <<< ((4 : Int32) &&& 31))) ||| x5), .ref q0]) rfl ?_
      obtain ⟨_, e_1611, e⟩ := Option.bind_eq_some_iff.mp e
      obtain ⟨⟨v_1612, h_1613⟩, e_1610, e⟩ := Option.bind_eq_some_iff.mp e
      try dsimp only at e
      try dsimp only at e
      refine Rn.call hT rfl rfl rfl (Nat.le_of_ble_eq_true rfl) (rcv_v gX3_broken (by omega) e_1611) (rX3_broken (by omega) e_1610 ?_)
      show Rn d _ _ 58 [some (.ref q0), some (.ref q1), some (.int x2), some (.int x3), some (.int x4), some (.int x5), some (.int (((256 : Int32) ||| (x4 <<< ((4 : Int32) &&& 31))) ||| x5))] [.int v_1612] h_1613 Q
      by_cases c_1614 : v_1612 = 0
      · rw [if_pos c_1614] at e
        refine Rn.bf hT rfl rfl rfl (decide_eq_false (fun z => z c_1614)) ?_
        refine Rn.n hT 2 (pc' := 63) (L' := [some (.ref q0), some (.ref q1), some (.int x2), some (.int x3), some (.int x4), some (.int x5), some (.int (((256 : Int32) ||| (x4 <<< ((4 : Int32) &&& 31))) ||| x5))]) (st' := [.ref q1, .int x3]) rfl ?_
        obtain ⟨v_1615, e_1616, e⟩ := Option.bind_eq_some_iff.mp e
        refine Rn.hp hT rfl rfl (aL_hp e_1616) ?_
        by_cases c_1617 : v_1615 ≤ x3
        · rw [if_pos c_1617] at e
          refine Rn.bt hT rfl rfl rfl (decide_eq_true c_1617) ?_
          exact Rn.weak (ll_s (ll_s (ll_s (ll_s (ll_s (ll_s (ll_n ll_e))))))) (rX3_list_b75 hd ih hk hq e)
        · rw [if_neg c_1617] at e
          refine Rn.bf hT rfl rfl rfl (decide_eq_false c_1617) ?_
          refine Rn.n hT 3 (pc' := 71) (L' := [some (.ref q0), some (.ref q1), some (.int x2), some (.int x3), some (.int x4), some (.int x5), some (.int (((256 : Int32) ||| (x4 <<< ((4 : Int32) &&& 31))) ||| x5))]) (st' := [.int (((256 : Int32) ||| (x4 <<< ((4 : Int32) &&& 31))) ||| x5), .int x3, .ref q1]) rfl ?_
          obtain ⟨h_1618, e_1619, e⟩ := Option.bind_eq_some_iff.mp e
          refine Rn.hp hT rfl rfl (wI_hp e_1619) ?_
          refine Rn.n hT 1 (pc' := 75) (L' := [some (.ref q0), some (.ref q1), some (.int x2), some (.int (x3 + (1 : Int32))), some (.int x4), some (.int x5), some (.int (((256 : Int32) ||| (x4 <<< ((4 : Int32) &&& 31))) ||| x5))]) (st' := []) rfl ?_
          exact Rn.weak (ll_s (ll_s (ll_s (ll_s (ll_s (ll_s (ll_n ll_e))))))) (rX3_list_b75 hd ih hk hq e)
      · rw [if_neg c_1614] at e
        refine Rn.bt hT rfl rfl rfl (decide_eq_true c_1614) ?_
        exact Rn.weak (ll_s (ll_s (ll_s (ll_s (ll_s (ll_s (ll_n ll_e))))))) (rX3_list_b75 hd ih hk hq e)
def fX3_list_l24 (N : Nat) (q0 : Nat) (q1 : Nat) (x2 : Int32) (kx : iv_H → Int32 → Option (Int32 × iv_H)) : Nat → iv_H → Int32 → Int32 → Option (Int32 × iv_H)
  | 0, _, _, _ => none
  | n + 1, h, x3, x4 => (if x2 ≤ x4 then (kx h x3) else (fX3_list_l33 N q0 q1 x2 x4 (fun (h_1607 : iv_H) (z_1608 : Int32) => (fX3_list_l24 N q0 q1 x2 kx n h_1607 z_1608 (x4 + (1 : Int32)))) N h x3 (0 : Int32)))
set_option maxRecDepth 10000 in
set_option maxHeartbeats 4000000 in
theorem rX3_list_l24 {d N : Nat} (hd : 4 ≤ d) {q0 : Nat} {q1 : Nat} {x2 : Int32} {kx : iv_H → Int32 → Option (Int32 × iv_H)} {r : Int32 × iv_H} {Q : Option Value → iv_H → Prop} (hk : ∀ (h : iv_H) (x3 : Int32), kx h x3 = some r → Rn d 63 (some .int) 87 [some (.ref q0), some (.ref q1), some (.int x2), some (.int x3), none, none, none] [] h Q) (hq : Q (some (.int r.1)) r.2) : ∀ (n : Nat) (h : iv_H) (x3 : Int32) (x4 : Int32), fX3_list_l24 N q0 q1 x2 kx n h x3 x4 = some r → Rn d 63 (some .int) 24 [some (.ref q0), some (.ref q1), some (.int x2), some (.int x3), some (.int x4), none, none] [] h Q := by
  have hT := hX3_list
  intro n
  induction n with
  | zero =>
    intro h x3 x4 e
    rw [fX3_list_l24] at e
    cases e
  | succ n ih =>
    intro h x3 x4 e
    rw [fX3_list_l24] at e
    refine Rn.n hT 2 (pc' := 27) (L' := [some (.ref q0), some (.ref q1), some (.int x2), some (.int x3), some (.int x4), none, none]) (st' := [.int x2, .int x4]) rfl ?_
    by_cases c_1606 : x2 ≤ x4
    · rw [if_pos c_1606] at e
      refine Rn.bt hT rfl rfl rfl (decide_eq_true c_1606) ?_
      exact Rn.weak (ll_s (ll_s (ll_s (ll_s (ll_n (ll_n (ll_n ll_e))))))) (hk h x3 e)
    · rw [if_neg c_1606] at e
      refine Rn.bf hT rfl rfl rfl (decide_eq_false c_1606) ?_
      refine Rn.n hT 2 (pc' := 33) (L' := [some (.ref q0), some (.ref q1), some (.int x2), some (.int x3), some (.int x4), some (.int (0 : Int32)), none]) (st' := []) rfl ?_
      refine Rn.weak (ll_s (ll_s (ll_s (ll_s (ll_s (ll_s (ll_n ll_e))))))) (rX3_list_l33 hd (fun h_1607 z_1608 e => ?_) hq N h x3 (0 : Int32) e)
      try dsimp only at e
      refine Rn.n hT 2 (pc' := 24) (L' := [some (.ref q0), some (.ref q1), some (.int x2), some (.int z_1608), some (.int (x4 + (1 : Int32))), none, none]) (st' := []) rfl ?_
      exact Rn.weak (ll_s (ll_s (ll_s (ll_s (ll_s (ll_n (ll_n ll_e))))))) (ih h_1607 z_1608 (x4 + (1 : Int32)) e)
def fX3_list_b144 (N : Nat) (h : iv_H) (q0 : Nat) (q1 : Nat) (x2 : Int32) (x3 : Int32) (x4 : Int32) (x5 : Int32)  (kb : iv_H → Int32 → Int32 → Option (Int32 × iv_H)) (kx : iv_H → Int32 → Option (Int32 × iv_H)) : Option (Int32 × iv_H) := (kb h x3 (x5 + (1 : Int32)))
set_option maxRecDepth 10000 in
set_option maxHeartbeats 4000000 in
theorem rX3_list_b144 {d N : Nat} (hd : 4 ≤ d) {h : iv_H} {q0 : Nat} {q1 : Nat} {x2 : Int32} {x3 : Int32} {x4 : Int32} {x5 : Int32}  {kb : iv_H → Int32 → Int32 → Option (Int32 × iv_H)} {kx : iv_H → Int32 → Option (Int32 × iv_H)} {r : Int32 × iv_H} {Q : Option Value → iv_H → Prop} (hb : ∀ (h : iv_H) (w3 : Int32) (w5 : Int32), kb h w3 w5 = some r → Rn d 63 (some .int) 102 [some (.ref q0), some (.ref q1), some (.int x2), some (.int w3), some (.int x4), some (.int w5), none] [] h Q) (hk : ∀ (h : iv_H) (w3 : Int32), kx h w3 = some r → Rn d 63 (some .int) 150 [some (.ref q0), some (.ref q1), some (.int x2), some (.int w3), some (.int x4), none, none] [] h Q) (hq : Q (some (.int r.1)) r.2) (e : fX3_list_b144 N h q0 q1 x2 x3 x4 x5  kb kx = some r) : Rn d 63 (some .int) 144 [some (.ref q0), some (.ref q1), some (.int x2), some (.int x3), some (.int x4), some (.int x5), none] [] h Q := by
  have hT := hX3_list
  unfold fX3_list_b144 at e
  refine Rn.n hT 2 (pc' := 102) (L' := [some (.ref q0), some (.ref q1), some (.int x2), some (.int x3), some (.int x4), some (.int (x5 + (1 : Int32))), none]) (st' := []) rfl ?_
  exact Rn.weak (ll_s (ll_s (ll_s (ll_s (ll_s (ll_s (ll_n ll_e))))))) (hb h x3 (x5 + (1 : Int32)) e)
def fX3_list_l102 (N : Nat) (q0 : Nat) (q1 : Nat) (x2 : Int32) (x4 : Int32) (kx : iv_H → Int32 → Option (Int32 × iv_H)) : Nat → iv_H → Int32 → Int32 → Option (Int32 × iv_H)
  | 0, _, _, _ => none
  | n + 1, h, x3, x5 => (if x2 ≤ x5 then (kx h x3) else ((cko h q0 3).bind fun _ => (fX3_broken N h q0 (((512 : Int32) ||| (x4 <<< ((4 : Int32) &&& 31))) ||| x5)).bind fun p_1635 => (fun (v_1627 : Int32) (h_1628 : iv_H) => (if v_1627 = 0 then ((aL h_1628 q1).bind fun v_1630 => (if v_1630 ≤ x3 then (fX3_list_b144 N h_1628 q0 q1 x2 x3 x4 x5 (fX3_list_l102 N q0 q1 x2 x4 kx n) kx) else ((wI h_1628 q1 x3 (((512 : Int32) ||| (x4 <<< ((4 : Int32) &&& 31))) ||| x5)).bind fun h_1633 => (fX3_list_b144 N h_1633 q0 q1 x2 (x3 + (1 : Int32)) x4 x5 (fX3_list_l102 N q0 q1 x2 x4 kx n) kx)))) else (fX3_list_b144 N h_1628 q0 q1 x2 x3 x4 x5 (fX3_list_l102 N q0 q1 x2 x4 kx n) kx))) p_1635.1 p_1635.2))
set_option maxRecDepth 10000 in
set_option maxHeartbeats 4000000 in
theorem rX3_list_l102 {d N : Nat} (hd : 4 ≤ d) {q0 : Nat} {q1 : Nat} {x2 : Int32} {x4 : Int32} {kx : iv_H → Int32 → Option (Int32 × iv_H)} {r : Int32 × iv_H} {Q : Option Value → iv_H → Prop} (hk : ∀ (h : iv_H) (x3 : Int32), kx h x3 = some r → Rn d 63 (some .int) 150 [some (.ref q0), some (.ref q1), some (.int x2), some (.int x3), some (.int x4), none, none] [] h Q) (hq : Q (some (.int r.1)) r.2) : ∀ (n : Nat) (h : iv_H) (x3 : Int32) (x5 : Int32), fX3_list_l102 N q0 q1 x2 x4 kx n h x3 x5 = some r → Rn d 63 (some .int) 102 [some (.ref q0), some (.ref q1), some (.int x2), some (.int x3), some (.int x4), some (.int x5), none] [] h Q := by
  have hT := hX3_list
  intro n
  induction n with
  | zero =>
    intro h x3 x5 e
    rw [fX3_list_l102] at e
    cases e
  | succ n ih =>
    intro h x3 x5 e
    rw [fX3_list_l102] at e
    refine Rn.n hT 2 (pc' := 105) (L' := [some (.ref q0), some (.ref q1), some (.int x2), some (.int x3), some (.int x4), some (.int x5), none]) (st' := [.int x2, .int x5]) rfl ?_
    by_cases c_1624 : x2 ≤ x5
    · rw [if_pos c_1624] at e
      refine Rn.bt hT rfl rfl rfl (decide_eq_true c_1624) ?_
      exact Rn.weak (ll_s (ll_s (ll_s (ll_s (ll_s (ll_n (ll_n ll_e))))))) (hk h x3 e)
    · rw [if_neg c_1624] at e
      refine Rn.bf hT rfl rfl rfl (decide_eq_false c_1624) ?_
      refine Rn.n hT 10 (pc' := 124) (L' := [some (.ref q0), some (.ref q1), some (.int x2), some (.int x3), some (.int x4), some (.int x5), some (.int (((512 : Int32) ||| (x4 <<< ((4 : Int32) &&& 31))) ||| x5))]) (st' := [.int (((512 : Int32) ||| (x4 <<< ((4 : Int32) &&& 31))) ||| x5), .ref q0]) rfl ?_
      obtain ⟨_, e_1626, e⟩ := Option.bind_eq_some_iff.mp e
      obtain ⟨⟨v_1627, h_1628⟩, e_1625, e⟩ := Option.bind_eq_some_iff.mp e
      try dsimp only at e
      try dsimp only at e
      refine Rn.call hT rfl rfl rfl (Nat.le_of_ble_eq_true rfl) (rcv_v gX3_broken (by omega) e_1626) (rX3_broken (by omega) e_1625 ?_)
      show Rn d _ _ 127 [some (.ref q0), some (.ref q1), some (.int x2), some (.int x3), some (.int x4), some (.int x5), some (.int (((512 : Int32) ||| (x4 <<< ((4 : Int32) &&& 31))) ||| x5))] [.int v_1627] h_1628 Q
      by_cases c_1629 : v_1627 = 0
      · rw [if_pos c_1629] at e
        refine Rn.bf hT rfl rfl rfl (decide_eq_false (fun z => z c_1629)) ?_
        refine Rn.n hT 2 (pc' := 132) (L' := [some (.ref q0), some (.ref q1), some (.int x2), some (.int x3), some (.int x4), some (.int x5), some (.int (((512 : Int32) ||| (x4 <<< ((4 : Int32) &&& 31))) ||| x5))]) (st' := [.ref q1, .int x3]) rfl ?_
        obtain ⟨v_1630, e_1631, e⟩ := Option.bind_eq_some_iff.mp e
        refine Rn.hp hT rfl rfl (aL_hp e_1631) ?_
        by_cases c_1632 : v_1630 ≤ x3
        · rw [if_pos c_1632] at e
          refine Rn.bt hT rfl rfl rfl (decide_eq_true c_1632) ?_
          exact Rn.weak (ll_s (ll_s (ll_s (ll_s (ll_s (ll_s (ll_n ll_e))))))) (rX3_list_b144 hd ih hk hq e)
        · rw [if_neg c_1632] at e
          refine Rn.bf hT rfl rfl rfl (decide_eq_false c_1632) ?_
          refine Rn.n hT 3 (pc' := 140) (L' := [some (.ref q0), some (.ref q1), some (.int x2), some (.int x3), some (.int x4), some (.int x5), some (.int (((512 : Int32) ||| (x4 <<< ((4 : Int32) &&& 31))) ||| x5))]) (st' := [.int (((512 : Int32) ||| (x4 <<< ((4 : Int32) &&& 31))) ||| x5), .int x3, .ref q1]) rfl ?_
          obtain ⟨h_1633, e_1634, e⟩ := Option.bind_eq_some_iff.mp e
          refine Rn.hp hT rfl rfl (wI_hp e_1634) ?_
          refine Rn.n hT 1 (pc' := 144) (L' := [some (.ref q0), some (.ref q1), some (.int x2), some (.int (x3 + (1 : Int32))), some (.int x4), some (.int x5), some (.int (((512 : Int32) ||| (x4 <<< ((4 : Int32) &&& 31))) ||| x5))]) (st' := []) rfl ?_
          exact Rn.weak (ll_s (ll_s (ll_s (ll_s (ll_s (ll_s (ll_n ll_e))))))) (rX3_list_b144 hd ih hk hq e)
      · rw [if_neg c_1629] at e
        refine Rn.bt hT rfl rfl rfl (decide_eq_true c_1629) ?_
        exact Rn.weak (ll_s (ll_s (ll_s (ll_s (ll_s (ll_s (ll_n ll_e))))))) (rX3_list_b144 hd ih hk hq e)
def fX3_list_l90 (N : Nat) (q0 : Nat) (q1 : Nat) (x2 : Int32) (kx : iv_H → Int32 → Option (Int32 × iv_H)) : Nat → iv_H → Int32 → Int32 → Option (Int32 × iv_H)
  | 0, _, _, _ => none
  | n + 1, h, x3, x4 => (if x2 ≤ x4 then (kx h x3) else (fX3_list_l102 N q0 q1 x2 x4 (fun (h_1622 : iv_H) (z_1623 : Int32) => (fX3_list_l90 N q0 q1 x2 kx n h_1622 z_1623 (x4 + (1 : Int32)))) N h x3 (x4 + (1 : Int32))))
set_option maxRecDepth 10000 in
set_option maxHeartbeats 4000000 in
theorem rX3_list_l90 {d N : Nat} (hd : 4 ≤ d) {q0 : Nat} {q1 : Nat} {x2 : Int32} {kx : iv_H → Int32 → Option (Int32 × iv_H)} {r : Int32 × iv_H} {Q : Option Value → iv_H → Prop} (hk : ∀ (h : iv_H) (x3 : Int32), kx h x3 = some r → Rn d 63 (some .int) 156 [some (.ref q0), some (.ref q1), some (.int x2), some (.int x3), none, none, none] [] h Q) (hq : Q (some (.int r.1)) r.2) : ∀ (n : Nat) (h : iv_H) (x3 : Int32) (x4 : Int32), fX3_list_l90 N q0 q1 x2 kx n h x3 x4 = some r → Rn d 63 (some .int) 90 [some (.ref q0), some (.ref q1), some (.int x2), some (.int x3), some (.int x4), none, none] [] h Q := by
  have hT := hX3_list
  intro n
  induction n with
  | zero =>
    intro h x3 x4 e
    rw [fX3_list_l90] at e
    cases e
  | succ n ih =>
    intro h x3 x4 e
    rw [fX3_list_l90] at e
    refine Rn.n hT 2 (pc' := 93) (L' := [some (.ref q0), some (.ref q1), some (.int x2), some (.int x3), some (.int x4), none, none]) (st' := [.int x2, .int x4]) rfl ?_
    by_cases c_1621 : x2 ≤ x4
    · rw [if_pos c_1621] at e
      refine Rn.bt hT rfl rfl rfl (decide_eq_true c_1621) ?_
      exact Rn.weak (ll_s (ll_s (ll_s (ll_s (ll_n (ll_n (ll_n ll_e))))))) (hk h x3 e)
    · rw [if_neg c_1621] at e
      refine Rn.bf hT rfl rfl rfl (decide_eq_false c_1621) ?_
      refine Rn.n hT 4 (pc' := 102) (L' := [some (.ref q0), some (.ref q1), some (.int x2), some (.int x3), some (.int x4), some (.int (x4 + (1 : Int32))), none]) (st' := []) rfl ?_
      refine Rn.weak (ll_s (ll_s (ll_s (ll_s (ll_s (ll_s (ll_n ll_e))))))) (rX3_list_l102 hd (fun h_1622 z_1623 e => ?_) hq N h x3 (x4 + (1 : Int32)) e)
      try dsimp only at e
      refine Rn.n hT 2 (pc' := 90) (L' := [some (.ref q0), some (.ref q1), some (.int x2), some (.int z_1623), some (.int (x4 + (1 : Int32))), none, none]) (st' := []) rfl ?_
      exact Rn.weak (ll_s (ll_s (ll_s (ll_s (ll_s (ll_n (ll_n ll_e))))))) (ih h_1622 z_1623 (x4 + (1 : Int32)) e)
def fX3_list_b198 (N : Nat) (h : iv_H) (q0 : Nat) (q1 : Nat) (x2 : Int32) (x3 : Int32) (x4 : Int32)  (kb : iv_H → Int32 → Int32 → Option (Int32 × iv_H)) (kx : iv_H → Int32 → Option (Int32 × iv_H)) : Option (Int32 × iv_H) := (kb h x3 (x4 + (1 : Int32)))
set_option maxRecDepth 10000 in
set_option maxHeartbeats 4000000 in
theorem rX3_list_b198 {d N : Nat} (hd : 4 ≤ d) {h : iv_H} {q0 : Nat} {q1 : Nat} {x2 : Int32} {x3 : Int32} {x4 : Int32}  {kb : iv_H → Int32 → Int32 → Option (Int32 × iv_H)} {kx : iv_H → Int32 → Option (Int32 × iv_H)} {r : Int32 × iv_H} {Q : Option Value → iv_H → Prop} (hb : ∀ (h : iv_H) (w3 : Int32) (w4 : Int32), kb h w3 w4 = some r → Rn d 63 (some .int) 159 [some (.ref q0), some (.ref q1), some (.int x2), some (.int w3), some (.int w4), none, none] [] h Q) (hk : ∀ (h : iv_H) (w3 : Int32), kx h w3 = some r → Rn d 63 (some .int) 204 [none, none, none, some (.int w3), none, none, none] [] h Q) (hq : Q (some (.int r.1)) r.2) (e : fX3_list_b198 N h q0 q1 x2 x3 x4  kb kx = some r) : Rn d 63 (some .int) 198 [some (.ref q0), some (.ref q1), some (.int x2), some (.int x3), some (.int x4), none, none] [] h Q := by
  have hT := hX3_list
  unfold fX3_list_b198 at e
  refine Rn.n hT 2 (pc' := 159) (L' := [some (.ref q0), some (.ref q1), some (.int x2), some (.int x3), some (.int (x4 + (1 : Int32))), none, none]) (st' := []) rfl ?_
  exact Rn.weak (ll_s (ll_s (ll_s (ll_s (ll_s (ll_n (ll_n ll_e))))))) (hb h x3 (x4 + (1 : Int32)) e)
def fX3_list_l159 (N : Nat) (q0 : Nat) (q1 : Nat) (x2 : Int32) (kx : iv_H → Int32 → Option (Int32 × iv_H)) : Nat → iv_H → Int32 → Int32 → Option (Int32 × iv_H)
  | 0, _, _, _ => none
  | n + 1, h, x3, x4 => (if x2 ≤ x4 then (kx h x3) else ((cko h q0 3).bind fun _ => (fX3_broken N h q0 ((768 : Int32) ||| (x4 <<< ((4 : Int32) &&& 31)))).bind fun p_1647 => (fun (v_1639 : Int32) (h_1640 : iv_H) => (if v_1639 = 0 then ((aL h_1640 q1).bind fun v_1642 => (if v_1642 ≤ x3 then (fX3_list_b198 N h_1640 q0 q1 x2 x3 x4 (fX3_list_l159 N q0 q1 x2 kx n) kx) else ((wI h_1640 q1 x3 ((768 : Int32) ||| (x4 <<< ((4 : Int32) &&& 31)))).bind fun h_1645 => (fX3_list_b198 N h_1645 q0 q1 x2 (x3 + (1 : Int32)) x4 (fX3_list_l159 N q0 q1 x2 kx n) kx)))) else (fX3_list_b198 N h_1640 q0 q1 x2 x3 x4 (fX3_list_l159 N q0 q1 x2 kx n) kx))) p_1647.1 p_1647.2))
set_option maxRecDepth 10000 in
set_option maxHeartbeats 4000000 in
theorem rX3_list_l159 {d N : Nat} (hd : 4 ≤ d) {q0 : Nat} {q1 : Nat} {x2 : Int32} {kx : iv_H → Int32 → Option (Int32 × iv_H)} {r : Int32 × iv_H} {Q : Option Value → iv_H → Prop} (hk : ∀ (h : iv_H) (x3 : Int32), kx h x3 = some r → Rn d 63 (some .int) 204 [none, none, none, some (.int x3), none, none, none] [] h Q) (hq : Q (some (.int r.1)) r.2) : ∀ (n : Nat) (h : iv_H) (x3 : Int32) (x4 : Int32), fX3_list_l159 N q0 q1 x2 kx n h x3 x4 = some r → Rn d 63 (some .int) 159 [some (.ref q0), some (.ref q1), some (.int x2), some (.int x3), some (.int x4), none, none] [] h Q := by
  have hT := hX3_list
  intro n
  induction n with
  | zero =>
    intro h x3 x4 e
    rw [fX3_list_l159] at e
    cases e
  | succ n ih =>
    intro h x3 x4 e
    rw [fX3_list_l159] at e
    refine Rn.n hT 2 (pc' := 162) (L' := [some (.ref q0), some (.ref q1), some (.int x2), some (.int x3), some (.int x4), none, none]) (st' := [.int x2, .int x4]) rfl ?_
    by_cases c_1636 : x2 ≤ x4
    · rw [if_pos c_1636] at e
      refine Rn.bt hT rfl rfl rfl (decide_eq_true c_1636) ?_
      exact Rn.weak (ll_n (ll_n (ll_n (ll_s (ll_n (ll_n (ll_n ll_e))))))) (hk h x3 e)
    · rw [if_neg c_1636] at e
      refine Rn.bf hT rfl rfl rfl (decide_eq_false c_1636) ?_
      refine Rn.n hT 8 (pc' := 178) (L' := [some (.ref q0), some (.ref q1), some (.int x2), some (.int x3), some (.int x4), some (.int ((768 : Int32) ||| (x4 <<< ((4 : Int32) &&& 31)))), none]) (st' := [.int ((768 : Int32) ||| (x4 <<< ((4 : Int32) &&& 31))), .ref q0]) rfl ?_
      obtain ⟨_, e_1638, e⟩ := Option.bind_eq_some_iff.mp e
      obtain ⟨⟨v_1639, h_1640⟩, e_1637, e⟩ := Option.bind_eq_some_iff.mp e
      try dsimp only at e
      try dsimp only at e
      refine Rn.call hT rfl rfl rfl (Nat.le_of_ble_eq_true rfl) (rcv_v gX3_broken (by omega) e_1638) (rX3_broken (by omega) e_1637 ?_)
      show Rn d _ _ 181 [some (.ref q0), some (.ref q1), some (.int x2), some (.int x3), some (.int x4), some (.int ((768 : Int32) ||| (x4 <<< ((4 : Int32) &&& 31)))), none] [.int v_1639] h_1640 Q
      by_cases c_1641 : v_1639 = 0
      · rw [if_pos c_1641] at e
        refine Rn.bf hT rfl rfl rfl (decide_eq_false (fun z => z c_1641)) ?_
        refine Rn.n hT 2 (pc' := 186) (L' := [some (.ref q0), some (.ref q1), some (.int x2), some (.int x3), some (.int x4), some (.int ((768 : Int32) ||| (x4 <<< ((4 : Int32) &&& 31)))), none]) (st' := [.ref q1, .int x3]) rfl ?_
        obtain ⟨v_1642, e_1643, e⟩ := Option.bind_eq_some_iff.mp e
        refine Rn.hp hT rfl rfl (aL_hp e_1643) ?_
        by_cases c_1644 : v_1642 ≤ x3
        · rw [if_pos c_1644] at e
          refine Rn.bt hT rfl rfl rfl (decide_eq_true c_1644) ?_
          exact Rn.weak (ll_s (ll_s (ll_s (ll_s (ll_s (ll_n (ll_n ll_e))))))) (rX3_list_b198 hd ih hk hq e)
        · rw [if_neg c_1644] at e
          refine Rn.bf hT rfl rfl rfl (decide_eq_false c_1644) ?_
          refine Rn.n hT 3 (pc' := 194) (L' := [some (.ref q0), some (.ref q1), some (.int x2), some (.int x3), some (.int x4), some (.int ((768 : Int32) ||| (x4 <<< ((4 : Int32) &&& 31)))), none]) (st' := [.int ((768 : Int32) ||| (x4 <<< ((4 : Int32) &&& 31))), .int x3, .ref q1]) rfl ?_
          obtain ⟨h_1645, e_1646, e⟩ := Option.bind_eq_some_iff.mp e
          refine Rn.hp hT rfl rfl (wI_hp e_1646) ?_
          refine Rn.n hT 1 (pc' := 198) (L' := [some (.ref q0), some (.ref q1), some (.int x2), some (.int (x3 + (1 : Int32))), some (.int x4), some (.int ((768 : Int32) ||| (x4 <<< ((4 : Int32) &&& 31)))), none]) (st' := []) rfl ?_
          exact Rn.weak (ll_s (ll_s (ll_s (ll_s (ll_s (ll_n (ll_n ll_e))))))) (rX3_list_b198 hd ih hk hq e)
      · rw [if_neg c_1641] at e
        refine Rn.bt hT rfl rfl rfl (decide_eq_true c_1641) ?_
        exact Rn.weak (ll_s (ll_s (ll_s (ll_s (ll_s (ll_n (ll_n ll_e))))))) (rX3_list_b198 hd ih hk hq e)
def fX3_list_b18 (N : Nat) (h : iv_H) (q0 : Nat) (q1 : Nat) (s0 : Int32) : Option (Int32 × iv_H) := (fX3_list_l24 N q0 q1 s0 (fun (h_1600 : iv_H) (z_1601 : Int32) => (fX3_list_l90 N q0 q1 s0 (fun (h_1602 : iv_H) (z_1603 : Int32) => (fX3_list_l159 N q0 q1 s0 (fun (h_1604 : iv_H) (z_1605 : Int32) => (some (z_1605, h_1604))) N h_1602 z_1603 (0 : Int32))) N h_1600 z_1601 (0 : Int32))) N h (0 : Int32) (0 : Int32))
set_option maxRecDepth 10000 in
set_option maxHeartbeats 4000000 in
theorem rX3_list_b18 {d N : Nat} (hd : 4 ≤ d) {h : iv_H} {q0 : Nat} {q1 : Nat} {s0 : Int32} {r : Int32 × iv_H} {Q : Option Value → iv_H → Prop} (hq : Q (some (.int r.1)) r.2) (e : fX3_list_b18 N h q0 q1 s0 = some r) : Rn d 63 (some .int) 18 [some (.ref q0), some (.ref q1), none, none, none, none, none] [.int s0] h Q := by
  have hT := hX3_list
  unfold fX3_list_b18 at e
  refine Rn.n hT 5 (pc' := 24) (L' := [some (.ref q0), some (.ref q1), some (.int s0), some (.int (0 : Int32)), some (.int (0 : Int32)), none, none]) (st' := []) rfl ?_
  refine Rn.weak (ll_s (ll_s (ll_s (ll_s (ll_s (ll_n (ll_n ll_e))))))) (rX3_list_l24 hd (fun h_1600 z_1601 e => ?_) hq N h (0 : Int32) (0 : Int32) e)
  try dsimp only at e
  refine Rn.n hT 2 (pc' := 90) (L' := [some (.ref q0), some (.ref q1), some (.int s0), some (.int z_1601), some (.int (0 : Int32)), none, none]) (st' := []) rfl ?_
  refine Rn.weak (ll_s (ll_s (ll_s (ll_s (ll_s (ll_n (ll_n ll_e))))))) (rX3_list_l90 hd (fun h_1602 z_1603 e => ?_) hq N h_1600 z_1601 (0 : Int32) e)
  try dsimp only at e
  refine Rn.n hT 2 (pc' := 159) (L' := [some (.ref q0), some (.ref q1), some (.int s0), some (.int z_1603), some (.int (0 : Int32)), none, none]) (st' := []) rfl ?_
  refine Rn.weak (ll_s (ll_s (ll_s (ll_s (ll_s (ll_n (ll_n ll_e))))))) (rX3_list_l159 hd (fun h_1604 z_1605 e => ?_) hq N h_1602 z_1603 (0 : Int32) e)
  try dsimp only at e
  refine Rn.n hT 1 (pc' := 205) (L' := [none, none, none, some (.int z_1605), none, none, none]) (st' := [.int z_1605]) rfl ?_
  obtain rfl := Option.some.inj e
  exact Rn.ret hT rfl rfl rfl hq
def fX3_list (N : Nat) (h : iv_H) (q0 : Nat) (q1 : Nat) : Option (Int32 × iv_H) := ((gN h 3 1 q0).bind fun o_1599 => match o_1599 with | none => (fX3_list_b18 N h q0 q1 (0 : Int32)) | some v_1593 => ((gR h 3 1 q0).bind fun v_1595 => ((gI h 1 2 v_1595).bind fun v_1597 => (fX3_list_b18 N h q0 q1 v_1597))))
set_option maxRecDepth 10000 in
set_option maxHeartbeats 4000000 in
theorem rX3_list {d N : Nat} (hd : 5 ≤ d) {h : iv_H} {q0 : Nat} {q1 : Nat} {r : Int32 × iv_H} {Q : Option Value → iv_H → Prop} (e : fX3_list N h q0 q1 = some r) (hq : Q (some (.int r.1)) r.2) : Cl d 63 [.ref q0, .ref q1] h Q := by
  obtain ⟨d, rfl⟩ : ∃ k, d = k + 1 := ⟨d - 1, by omega⟩
  have hd : 4 ≤ d := by omega
  have hT := hX3_list
  unfold fX3_list at e
  refine Cl.into (by decide) gX3_list rfl ?_
  show Rn d 63 (some .int) 0 [some (.ref q0), some (.ref q1), none, none, none, none, none] [] h Q
  refine Rn.n hT 1 (pc' := 1) (L' := [some (.ref q0), some (.ref q1), none, none, none, none, none]) (st' := [.ref q0]) rfl ?_
  obtain ⟨o_1599, e_1594, e⟩ := Option.bind_eq_some_iff.mp e
  refine Rn.hp hT rfl rfl (gN_hp e_1594) ?_
  cases o_1599 with
  | none =>
    dsimp only at e
    show Rn d _ _ 4 [some (.ref q0), some (.ref q1), none, none, none, none, none] [.null] h Q
    refine Rn.bf hT rfl rfl rfl rfl ?_
    refine Rn.n hT 2 (pc' := 18) (L' := [some (.ref q0), some (.ref q1), none, none, none, none, none]) (st' := [.int (0 : Int32)]) rfl ?_
    exact Rn.weak (ll_s (ll_s (ll_n (ll_n (ll_n (ll_n (ll_n ll_e))))))) (rX3_list_b18 hd hq e)
  | some v_1593 =>
    dsimp only at e
    show Rn d _ _ 4 [some (.ref q0), some (.ref q1), none, none, none, none, none] [.ref v_1593] h Q
    refine Rn.bt hT rfl rfl rfl rfl ?_
    refine Rn.n hT 1 (pc' := 12) (L' := [some (.ref q0), some (.ref q1), none, none, none, none, none]) (st' := [.ref q0]) rfl ?_
    obtain ⟨v_1595, e_1596, e⟩ := Option.bind_eq_some_iff.mp e
    refine Rn.hp hT rfl rfl (gR_hp e_1596) ?_
    obtain ⟨v_1597, e_1598, e⟩ := Option.bind_eq_some_iff.mp e
    refine Rn.hp hT rfl rfl (gI_hp e_1598) ?_
    exact Rn.weak (ll_s (ll_s (ll_n (ll_n (ll_n (ll_n (ll_n ll_e))))))) (rX3_list_b18 hd hq e)
set_option maxRecDepth 10000 in
theorem hX4_init : iv_Tb 68 tX4_init := iv_tb_of (m := mX4_init) rfl
set_option maxRecDepth 10000 in
theorem gX4_init : PG.2 68 = some mX4_init := iv_pi_of (t := tX4_init) rfl (by decide)
def fX4_init (N : Nat) (h : iv_H) (q0 : Nat) : Option (iv_H) := ((nO h 1).bind fun p_1652 => (fun (v_1651 : Nat) (h_1649 : iv_H) => ((fX1_init N h_1649 v_1651).bind fun h_1655 => ((pV h_1655 4 0 q0 (.ref v_1651)).bind fun h_1656 => ((pV h_1656 4 1 q0 (.int (0 : Int32))).bind fun h_1658 => ((pV h_1658 4 2 q0 (.int (0 : Int32))).bind fun h_1660 => ((pV h_1660 4 3 q0 (.int (0 : Int32))).bind fun h_1662 => ((nA h_1662 0 (6 : Int32)).bind fun p_1667 => (fun (v_1666 : Nat) (h_1664 : iv_H) => ((pV h_1664 4 4 q0 (.ref v_1666)).bind fun h_1668 => ((nA h_1668 0 (64 : Int32)).bind fun p_1673 => (fun (v_1672 : Nat) (h_1670 : iv_H) => ((pV h_1670 4 5 q0 (.ref v_1672)).bind fun h_1674 => some h_1674)) p_1673.1 p_1673.2))) p_1667.1 p_1667.2))))))) p_1652.1 p_1652.2)
set_option maxRecDepth 10000 in
set_option maxHeartbeats 4000000 in
theorem rX4_init {d N : Nat} (hd : 3 ≤ d) {h : iv_H} {q0 : Nat} {r : iv_H} {Q : Option Value → iv_H → Prop} (e : fX4_init N h q0 = some r) (hq : Q none r) : Cl d 68 [.ref q0] h Q := by
  obtain ⟨d, rfl⟩ : ∃ k, d = k + 1 := ⟨d - 1, by omega⟩
  have hd : 2 ≤ d := by omega
  have hT := hX4_init
  unfold fX4_init at e
  refine Cl.into (by decide) gX4_init rfl ?_
  show Rn d 68 none 0 [some (.ref q0)] [] h Q
  refine Rn.n hT 1 (pc' := 1) (L' := [some (.ref q0)]) (st' := [.ref q0]) rfl ?_
  refine Rn.hp hT rfl rfl (st' := []) (h1 := h) rfl ?_
  refine Rn.n hT 1 (pc' := 5) (L' := [some (.ref q0)]) (st' := [.ref q0]) rfl ?_
  obtain ⟨⟨v_1651, h_1649⟩, e_1650, e⟩ := Option.bind_eq_some_iff.mp e
  try dsimp only at e
  refine Rn.hp hT rfl rfl (nO_hp e_1650) ?_
  refine Rn.n hT 1 (pc' := 9) (L' := [some (.ref q0)]) (st' := [.ref v_1651, .ref v_1651, .ref q0]) rfl ?_
  obtain ⟨h_1655, e_1653, e⟩ := Option.bind_eq_some_iff.mp e
  refine Rn.call hT rfl rfl rfl (Nat.le_of_ble_eq_true rfl) rfl (rX1_init (by omega) e_1653 ?_)
  show Rn d _ _ 12 [some (.ref q0)] [.ref v_1651, .ref q0] h_1655 Q
  obtain ⟨h_1656, e_1657, e⟩ := Option.bind_eq_some_iff.mp e
  refine Rn.hp hT rfl rfl (pV_hp rfl e_1657) ?_
  refine Rn.n hT 2 (pc' := 17) (L' := [some (.ref q0)]) (st' := [.int (0 : Int32), .ref q0]) rfl ?_
  obtain ⟨h_1658, e_1659, e⟩ := Option.bind_eq_some_iff.mp e
  refine Rn.hp hT rfl rfl (pV_hp rfl e_1659) ?_
  refine Rn.n hT 2 (pc' := 22) (L' := [some (.ref q0)]) (st' := [.int (0 : Int32), .ref q0]) rfl ?_
  obtain ⟨h_1660, e_1661, e⟩ := Option.bind_eq_some_iff.mp e
  refine Rn.hp hT rfl rfl (pV_hp rfl e_1661) ?_
  refine Rn.n hT 2 (pc' := 27) (L' := [some (.ref q0)]) (st' := [.int (0 : Int32), .ref q0]) rfl ?_
  obtain ⟨h_1662, e_1663, e⟩ := Option.bind_eq_some_iff.mp e
  refine Rn.hp hT rfl rfl (pV_hp (by decide) e_1663) ?_
  refine Rn.n hT 2 (pc' := 33) (L' := [some (.ref q0)]) (st' := [.int (6 : Int32), .ref q0]) rfl ?_
  obtain ⟨⟨v_1666, h_1664⟩, e_1665, e⟩ := Option.bind_eq_some_iff.mp e
  try dsimp only at e
  refine Rn.hp hT rfl rfl (nA_hp rfl e_1665) ?_
  obtain ⟨h_1668, e_1669, e⟩ := Option.bind_eq_some_iff.mp e
  refine Rn.hp hT rfl rfl (pV_hp rfl e_1669) ?_
  refine Rn.n hT 2 (pc' := 41) (L' := [some (.ref q0)]) (st' := [.int (64 : Int32), .ref q0]) rfl ?_
  obtain ⟨⟨v_1672, h_1670⟩, e_1671, e⟩ := Option.bind_eq_some_iff.mp e
  try dsimp only at e
  refine Rn.hp hT rfl rfl (nA_hp rfl e_1671) ?_
  obtain ⟨h_1674, e_1675, e⟩ := Option.bind_eq_some_iff.mp e
  refine Rn.hp hT rfl rfl (pV_hp rfl e_1675) ?_
  obtain rfl := Option.some.inj e
  exact Rn.ret hT rfl rfl rfl hq
set_option maxRecDepth 10000 in
theorem hX4_layOne : iv_Tb 71 tX4_layOne := iv_tb_of (m := mX4_layOne) rfl
set_option maxRecDepth 10000 in
theorem gX4_layOne : PG.2 71 = some mX4_layOne := iv_pi_of (t := tX4_layOne) rfl (by decide)
set_option maxRecDepth 10000 in
theorem hX4_layFrom : iv_Tb 70 tX4_layFrom := iv_tb_of (m := mX4_layFrom) rfl
set_option maxRecDepth 10000 in
theorem gX4_layFrom : PG.2 70 = some mX4_layFrom := iv_pi_of (t := tX4_layFrom) rfl (by decide)
def fX4_layOne_b56 (N : Nat) (rc : iv_H → Nat → Nat → Int32 → Option iv_H) (h : iv_H) (q0 : Nat) (x2 : Int32)  : Option (iv_H) := ((gR h 4 0 q0).bind fun v_1701 => ((cko h v_1701 1).bind fun _ => (fX1_take N h v_1701 x2).bind fun h_1706 => some h_1706))
set_option maxRecDepth 10000 in
set_option maxHeartbeats 4000000 in
theorem rX4_layOne_b56 {d N : Nat} (hd : 1 ≤ d) {rc : iv_H → Nat → Nat → Int32 → Option iv_H} (hrc : ∀ {h : iv_H} {q0 q1 : Nat} {x2 : Int32} {r : iv_H} {Q : Option Value → iv_H → Prop}, rc h q0 q1 x2 = some r → Q none r → Cl d 70 [.ref q0, .ref q1, .int x2] h Q) {h : iv_H} {q0 : Nat} {x2 : Int32}  {r : iv_H} {Q : Option Value → iv_H → Prop} (hq : Q none r) (e : fX4_layOne_b56 N rc h q0 x2  = some r) : Rn d 71 none 56 [some (.ref q0), none, some (.int x2), none, none] [] h Q := by
  have hT := hX4_layOne
  unfold fX4_layOne_b56 at e
  refine Rn.n hT 1 (pc' := 57) (L' := [some (.ref q0), none, some (.int x2), none, none]) (st' := [.ref q0]) rfl ?_
  obtain ⟨v_1701, e_1702, e⟩ := Option.bind_eq_some_iff.mp e
  refine Rn.hp hT rfl rfl (gR_hp e_1702) ?_
  refine Rn.n hT 1 (pc' := 61) (L' := [some (.ref q0), none, some (.int x2), none, none]) (st' := [.int x2, .ref v_1701]) rfl ?_
  obtain ⟨_, e_1704, e⟩ := Option.bind_eq_some_iff.mp e
  obtain ⟨h_1706, e_1703, e⟩ := Option.bind_eq_some_iff.mp e
  refine Rn.call hT rfl rfl rfl (Nat.le_of_ble_eq_true rfl) (rcv_v gX1_take (by omega) e_1704) (rX1_take (by omega) e_1703 ?_)
  show Rn d _ _ 64 [some (.ref q0), none, some (.int x2), none, none] [] h_1706 Q
  obtain rfl := Option.some.inj e
  exact Rn.ret hT rfl rfl rfl hq
def fX4_layOne (N : Nat) (rc : iv_H → Nat → Nat → Int32 → Option iv_H) (h : iv_H) (q0 : Nat) (q1 : Nat) (x2 : Int32) (x3 : Int32) (x4 : Int32) : Option (iv_H) := ((gI h 4 1 q0).bind fun v_1676 => (if v_1676 < (20000 : Int32) then ((gI h 4 1 q0).bind fun v_1679 => ((pV h 4 1 q0 (.int (v_1679 + (1 : Int32)))).bind fun h_1681 => ((gR h_1681 4 0 q0).bind fun v_1683 => ((cko h_1681 v_1683 1).bind fun _ => (fX1_put N h_1681 v_1683 x2 x3 x4).bind fun h_1688 => ((gR h_1688 4 0 q0).bind fun v_1689 => ((cko h_1688 v_1689 1).bind fun _ => (fX1_fits N h_1688 v_1689 x2).bind fun v_1693 => (if v_1693 = 0 then (fX4_layOne_b56 N rc h_1688 q0 x2) else ((cko h_1688 q0 4).bind fun _ => (rc h_1688 q0 q1 (x2 + (1 : Int32))).bind fun h_1698 => (fX4_layOne_b56 N rc h_1698 q0 x2))))))))) else ((pV h 4 3 q0 (.int (1 : Int32))).bind fun h_1699 => some h_1699)))
set_option maxRecDepth 10000 in
set_option maxHeartbeats 4000000 in
theorem rX4_layOne {d N : Nat} (hd : 2 ≤ d) {rc : iv_H → Nat → Nat → Int32 → Option iv_H} (hrc : ∀ {h : iv_H} {q0 q1 : Nat} {x2 : Int32} {r : iv_H} {Q : Option Value → iv_H → Prop}, rc h q0 q1 x2 = some r → Q none r → Cl (d - 1) 70 [.ref q0, .ref q1, .int x2] h Q) {h : iv_H} {q0 : Nat} {q1 : Nat} {x2 : Int32} {x3 : Int32} {x4 : Int32} {r : iv_H} {Q : Option Value → iv_H → Prop} (e : fX4_layOne N rc h q0 q1 x2 x3 x4 = some r) (hq : Q none r) : Cl d 71 [.ref q0, .ref q1, .int x2, .int x3, .int x4] h Q := by
  obtain ⟨d, rfl⟩ : ∃ k, d = k + 1 := ⟨d - 1, by omega⟩
  have hd : 1 ≤ d := by omega
  have hT := hX4_layOne
  unfold fX4_layOne at e
  rw [show d + 1 - 1 = d from by omega] at hrc
  refine Cl.into (by decide) gX4_layOne rfl ?_
  show Rn d 71 none 0 [some (.ref q0), some (.ref q1), some (.int x2), some (.int x3), some (.int x4)] [] h Q
  refine Rn.n hT 1 (pc' := 1) (L' := [some (.ref q0), some (.ref q1), some (.int x2), some (.int x3), some (.int x4)]) (st' := [.ref q0]) rfl ?_
  obtain ⟨v_1676, e_1677, e⟩ := Option.bind_eq_some_iff.mp e
  refine Rn.hp hT rfl rfl (gI_hp e_1677) ?_
  refine Rn.n hT 1 (pc' := 7) (L' := [some (.ref q0), some (.ref q1), some (.int x2), some (.int x3), some (.int x4)]) (st' := [.int (20000 : Int32), .int v_1676]) rfl ?_
  by_cases c_1678 : v_1676 < (20000 : Int32)
  · rw [if_pos c_1678] at e
    refine Rn.bt hT rfl rfl rfl (decide_eq_true c_1678) ?_
    refine Rn.n hT 2 (pc' := 18) (L' := [some (.ref q0), some (.ref q1), some (.int x2), some (.int x3), some (.int x4)]) (st' := [.ref q0, .ref q0]) rfl ?_
    obtain ⟨v_1679, e_1680, e⟩ := Option.bind_eq_some_iff.mp e
    refine Rn.hp hT rfl rfl (gI_hp e_1680) ?_
    refine Rn.n hT 2 (pc' := 23) (L' := [some (.ref q0), some (.ref q1), some (.int x2), some (.int x3), some (.int x4)]) (st' := [.int (v_1679 + (1 : Int32)), .ref q0]) rfl ?_
    obtain ⟨h_1681, e_1682, e⟩ := Option.bind_eq_some_iff.mp e
    refine Rn.hp hT rfl rfl (pV_hp rfl e_1682) ?_
    refine Rn.n hT 1 (pc' := 27) (L' := [some (.ref q0), some (.ref q1), some (.int x2), some (.int x3), some (.int x4)]) (st' := [.ref q0]) rfl ?_
    obtain ⟨v_1683, e_1684, e⟩ := Option.bind_eq_some_iff.mp e
    refine Rn.hp hT rfl rfl (gR_hp e_1684) ?_
    refine Rn.n hT 3 (pc' := 34) (L' := [some (.ref q0), some (.ref q1), some (.int x2), some (.int x3), some (.int x4)]) (st' := [.int x4, .int x3, .int x2, .ref v_1683]) rfl ?_
    obtain ⟨_, e_1686, e⟩ := Option.bind_eq_some_iff.mp e
    obtain ⟨h_1688, e_1685, e⟩ := Option.bind_eq_some_iff.mp e
    refine Rn.call hT rfl rfl rfl (Nat.le_of_ble_eq_true rfl) (rcv_v gX1_put (by omega) e_1686) (rX1_put (by omega) e_1685 ?_)
    show Rn d _ _ 37 [some (.ref q0), some (.ref q1), some (.int x2), some (.int x3), some (.int x4)] [] h_1688 Q
    refine Rn.n hT 1 (pc' := 38) (L' := [some (.ref q0), some (.ref q1), some (.int x2), some (.int x3), some (.int x4)]) (st' := [.ref q0]) rfl ?_
    obtain ⟨v_1689, e_1690, e⟩ := Option.bind_eq_some_iff.mp e
    refine Rn.hp hT rfl rfl (gR_hp e_1690) ?_
    refine Rn.n hT 1 (pc' := 42) (L' := [some (.ref q0), some (.ref q1), some (.int x2), some (.int x3), some (.int x4)]) (st' := [.int x2, .ref v_1689]) rfl ?_
    obtain ⟨_, e_1692, e⟩ := Option.bind_eq_some_iff.mp e
    obtain ⟨v_1693, e_1691, e⟩ := Option.bind_eq_some_iff.mp e
    refine Rn.call hT rfl rfl rfl (Nat.le_of_ble_eq_true rfl) (rcv_v gX1_fits (by omega) e_1692) (rX1_fits (by omega) e_1691 ?_)
    show Rn d _ _ 45 [some (.ref q0), some (.ref q1), some (.int x2), some (.int x3), some (.int x4)] [.int v_1693] h_1688 Q
    by_cases c_1694 : v_1693 = 0
    · rw [if_pos c_1694] at e
      refine Rn.bt hT rfl rfl rfl (decide_eq_true c_1694) ?_
      exact Rn.weak (ll_s (ll_n (ll_s (ll_n (ll_n ll_e))))) (rX4_layOne_b56 hd hrc hq e)
    · rw [if_neg c_1694] at e
      refine Rn.bf hT rfl rfl rfl (decide_eq_false c_1694) ?_
      refine Rn.n hT 5 (pc' := 53) (L' := [some (.ref q0), some (.ref q1), some (.int x2), some (.int x3), some (.int x4)]) (st' := [.int (x2 + (1 : Int32)), .ref q1, .ref q0]) rfl ?_
      obtain ⟨_, e_1696, e⟩ := Option.bind_eq_some_iff.mp e
      obtain ⟨h_1698, e_1695, e⟩ := Option.bind_eq_some_iff.mp e
      refine Rn.call hT rfl rfl rfl (Nat.le_of_ble_eq_true rfl) (rcv_v gX4_layFrom (by omega) e_1696) (hrc e_1695 ?_)
      show Rn d _ _ 56 [some (.ref q0), some (.ref q1), some (.int x2), some (.int x3), some (.int x4)] [] h_1698 Q
      exact Rn.weak (ll_s (ll_n (ll_s (ll_n (ll_n ll_e))))) (rX4_layOne_b56 hd hrc hq e)
  · rw [if_neg c_1678] at e
    refine Rn.bf hT rfl rfl rfl (decide_eq_false c_1678) ?_
    refine Rn.n hT 2 (pc' := 12) (L' := [some (.ref q0), some (.ref q1), some (.int x2), some (.int x3), some (.int x4)]) (st' := [.int (1 : Int32), .ref q0]) rfl ?_
    obtain ⟨h_1699, e_1700, e⟩ := Option.bind_eq_some_iff.mp e
    refine Rn.hp hT rfl rfl (pV_hp (by decide) e_1700) ?_
    obtain rfl := Option.some.inj e
    exact Rn.ret hT rfl rfl rfl hq
def fX4_layFrom_l2 (N : Nat) (rc : iv_H → Nat → Nat → Int32 → Option iv_H) (q0 : Nat) (q1 : Nat) (kx : iv_H → Int32 → Option (iv_H)) : Nat → iv_H → Int32 → Option (iv_H)
  | 0, _, _ => none
  | n + 1, h, x3 => ((gR h 4 0 q0).bind fun v_1709 => ((gI h 1 2 v_1709).bind fun v_1711 => (if v_1711 ≤ x3 then (kx h x3) else ((cko h q1 2).bind fun _ => (fX2_isFixed N h q1 x3).bind fun v_1716 => (if v_1716 = 0 then (kx h x3) else (fX4_layFrom_l2 N rc q0 q1 kx n h (x3 + (1 : Int32))))))))
set_option maxRecDepth 10000 in
set_option maxHeartbeats 4000000 in
theorem rX4_layFrom_l2 {d N : Nat} (hd : 2 ≤ d) {rc : iv_H → Nat → Nat → Int32 → Option iv_H} (hrc : ∀ {h : iv_H} {q0 q1 : Nat} {x2 : Int32} {r : iv_H} {Q : Option Value → iv_H → Prop}, rc h q0 q1 x2 = some r → Q none r → Cl (d - 1) 70 [.ref q0, .ref q1, .int x2] h Q) {q0 : Nat} {q1 : Nat} {kx : iv_H → Int32 → Option (iv_H)} {r : iv_H} {Q : Option Value → iv_H → Prop} (hk : ∀ (h : iv_H) (x3 : Int32), kx h x3 = some r → Rn d 70 none 27 [some (.ref q0), some (.ref q1), none, some (.int x3), none, none, none] [] h Q) (hq : Q none r) : ∀ (n : Nat) (h : iv_H) (x3 : Int32), fX4_layFrom_l2 N rc q0 q1 kx n h x3 = some r → Rn d 70 none 2 [some (.ref q0), some (.ref q1), none, some (.int x3), none, none, none] [] h Q := by
  have hT := hX4_layFrom
  intro n
  induction n with
  | zero =>
    intro h x3 e
    rw [fX4_layFrom_l2] at e
    cases e
  | succ n ih =>
    intro h x3 e
    rw [fX4_layFrom_l2] at e
    refine Rn.n hT 2 (pc' := 4) (L' := [some (.ref q0), some (.ref q1), none, some (.int x3), none, none, none]) (st' := [.ref q0, .int x3]) rfl ?_
    obtain ⟨v_1709, e_1710, e⟩ := Option.bind_eq_some_iff.mp e
    refine Rn.hp hT rfl rfl (gR_hp e_1710) ?_
    obtain ⟨v_1711, e_1712, e⟩ := Option.bind_eq_some_iff.mp e
    refine Rn.hp hT rfl rfl (gI_hp e_1712) ?_
    by_cases c_1713 : v_1711 ≤ x3
    · rw [if_pos c_1713] at e
      refine Rn.bt hT rfl rfl rfl (decide_eq_true c_1713) ?_
      exact Rn.weak (ll_s (ll_s (ll_n (ll_s (ll_n (ll_n (ll_n ll_e))))))) (hk h x3 e)
    · rw [if_neg c_1713] at e
      refine Rn.bf hT rfl rfl rfl (decide_eq_false c_1713) ?_
      refine Rn.n hT 2 (pc' := 15) (L' := [some (.ref q0), some (.ref q1), none, some (.int x3), none, none, none]) (st' := [.int x3, .ref q1]) rfl ?_
      obtain ⟨_, e_1715, e⟩ := Option.bind_eq_some_iff.mp e
      obtain ⟨v_1716, e_1714, e⟩ := Option.bind_eq_some_iff.mp e
      refine Rn.call hT rfl rfl rfl (Nat.le_of_ble_eq_true rfl) (rcv_v gX2_isFixed (by omega) e_1715) (rX2_isFixed (by omega) e_1714 ?_)
      show Rn d _ _ 18 [some (.ref q0), some (.ref q1), none, some (.int x3), none, none, none] [.int v_1716] h Q
      by_cases c_1717 : v_1716 = 0
      · rw [if_pos c_1717] at e
        refine Rn.bt hT rfl rfl rfl (decide_eq_true c_1717) ?_
        exact Rn.weak (ll_s (ll_s (ll_n (ll_s (ll_n (ll_n (ll_n ll_e))))))) (hk h x3 e)
      · rw [if_neg c_1717] at e
        refine Rn.bf hT rfl rfl rfl (decide_eq_false c_1717) ?_
        refine Rn.n hT 2 (pc' := 2) (L' := [some (.ref q0), some (.ref q1), none, some (.int (x3 + (1 : Int32))), none, none, none]) (st' := []) rfl ?_
        exact Rn.weak (ll_s (ll_s (ll_n (ll_s (ll_n (ll_n (ll_n ll_e))))))) (ih h (x3 + (1 : Int32)) e)
def fX4_layFrom_b58 (N : Nat) (rc : iv_H → Nat → Nat → Int32 → Option iv_H) (h : iv_H)  (s0 : Int32) (s1 : Int32) (sq2 : Nat) : Option (iv_H) := ((pV h 4 2 sq2 (.int (s1 + s0))).bind fun h_1734 => some h_1734)
set_option maxRecDepth 10000 in
set_option maxHeartbeats 4000000 in
theorem rX4_layFrom_b58 {d N : Nat} (hd : 2 ≤ d) {rc : iv_H → Nat → Nat → Int32 → Option iv_H} (hrc : ∀ {h : iv_H} {q0 q1 : Nat} {x2 : Int32} {r : iv_H} {Q : Option Value → iv_H → Prop}, rc h q0 q1 x2 = some r → Q none r → Cl (d - 1) 70 [.ref q0, .ref q1, .int x2] h Q) {h : iv_H}  {s0 : Int32} {s1 : Int32} {sq2 : Nat} {r : iv_H} {Q : Option Value → iv_H → Prop} (hq : Q none r) (e : fX4_layFrom_b58 N rc h  s0 s1 sq2 = some r) : Rn d 70 none 58 [none, none, none, none, none, none, none] [.int s0, .int s1, .ref sq2] h Q := by
  have hT := hX4_layFrom
  unfold fX4_layFrom_b58 at e
  refine Rn.n hT 1 (pc' := 59) (L' := [none, none, none, none, none, none, none]) (st' := [.int (s1 + s0), .ref sq2]) rfl ?_
  obtain ⟨h_1734, e_1735, e⟩ := Option.bind_eq_some_iff.mp e
  refine Rn.hp hT rfl rfl (pV_hp rfl e_1735) ?_
  obtain rfl := Option.some.inj e
  exact Rn.ret hT rfl rfl rfl hq
def fX4_layFrom_b139 (N : Nat) (rc : iv_H → Nat → Nat → Int32 → Option iv_H) (h : iv_H) (q0 : Nat) (q1 : Nat) (x3 : Int32) (x4 : Int32) (x5 : Int32) (x6 : Int32)  (kb : iv_H → Int32 → Option (iv_H)) (kx : iv_H → Option (iv_H)) : Option (iv_H) := (kb h (x6 + (1 : Int32)))
set_option maxRecDepth 10000 in
set_option maxHeartbeats 4000000 in
theorem rX4_layFrom_b139 {d N : Nat} (hd : 2 ≤ d) {rc : iv_H → Nat → Nat → Int32 → Option iv_H} (hrc : ∀ {h : iv_H} {q0 q1 : Nat} {x2 : Int32} {r : iv_H} {Q : Option Value → iv_H → Prop}, rc h q0 q1 x2 = some r → Q none r → Cl (d - 1) 70 [.ref q0, .ref q1, .int x2] h Q) {h : iv_H} {q0 : Nat} {q1 : Nat} {x3 : Int32} {x4 : Int32} {x5 : Int32} {x6 : Int32}  {kb : iv_H → Int32 → Option (iv_H)} {kx : iv_H → Option (iv_H)} {r : iv_H} {Q : Option Value → iv_H → Prop} (hb : ∀ (h : iv_H) (w6 : Int32), kb h w6 = some r → Rn d 70 none 92 [some (.ref q0), some (.ref q1), none, some (.int x3), some (.int x4), some (.int x5), some (.int w6)] [] h Q) (hk : ∀ (h : iv_H), kx h = some r → Rn d 70 none 145 [some (.ref q0), some (.ref q1), none, some (.int x3), some (.int x4), some (.int x5), none] [] h Q) (hq : Q none r) (e : fX4_layFrom_b139 N rc h q0 q1 x3 x4 x5 x6  kb kx = some r) : Rn d 70 none 139 [some (.ref q0), some (.ref q1), none, some (.int x3), some (.int x4), some (.int x5), some (.int x6)] [] h Q := by
  have hT := hX4_layFrom
  unfold fX4_layFrom_b139 at e
  refine Rn.n hT 2 (pc' := 92) (L' := [some (.ref q0), some (.ref q1), none, some (.int x3), some (.int x4), some (.int x5), some (.int (x6 + (1 : Int32)))]) (st' := []) rfl ?_
  exact Rn.weak (ll_s (ll_s (ll_n (ll_s (ll_s (ll_s (ll_s ll_e))))))) (hb h (x6 + (1 : Int32)) e)
def fX4_layFrom_b129 (N : Nat) (rc : iv_H → Nat → Nat → Int32 → Option iv_H) (h : iv_H) (q0 : Nat) (q1 : Nat) (x3 : Int32) (x4 : Int32) (x5 : Int32) (x6 : Int32)  (kb : iv_H → Int32 → Option (iv_H)) (kx : iv_H → Option (iv_H)) : Option (iv_H) := ((cko h q0 4).bind fun _ => (fX4_layOne N rc h q0 q1 x3 x5 x6).bind fun h_1757 => (fX4_layFrom_b139 N rc h_1757 q0 q1 x3 x4 x5 x6 kb kx))
set_option maxRecDepth 10000 in
set_option maxHeartbeats 4000000 in
theorem rX4_layFrom_b129 {d N : Nat} (hd : 2 ≤ d) {rc : iv_H → Nat → Nat → Int32 → Option iv_H} (hrc : ∀ {h : iv_H} {q0 q1 : Nat} {x2 : Int32} {r : iv_H} {Q : Option Value → iv_H → Prop}, rc h q0 q1 x2 = some r → Q none r → Cl (d - 1) 70 [.ref q0, .ref q1, .int x2] h Q) {h : iv_H} {q0 : Nat} {q1 : Nat} {x3 : Int32} {x4 : Int32} {x5 : Int32} {x6 : Int32}  {kb : iv_H → Int32 → Option (iv_H)} {kx : iv_H → Option (iv_H)} {r : iv_H} {Q : Option Value → iv_H → Prop} (hb : ∀ (h : iv_H) (w6 : Int32), kb h w6 = some r → Rn d 70 none 92 [some (.ref q0), some (.ref q1), none, some (.int x3), some (.int x4), some (.int x5), some (.int w6)] [] h Q) (hk : ∀ (h : iv_H), kx h = some r → Rn d 70 none 145 [some (.ref q0), some (.ref q1), none, some (.int x3), some (.int x4), some (.int x5), none] [] h Q) (hq : Q none r) (e : fX4_layFrom_b129 N rc h q0 q1 x3 x4 x5 x6  kb kx = some r) : Rn d 70 none 129 [some (.ref q0), some (.ref q1), none, some (.int x3), some (.int x4), some (.int x5), some (.int x6)] [] h Q := by
  have hT := hX4_layFrom
  unfold fX4_layFrom_b129 at e
  refine Rn.n hT 5 (pc' := 136) (L' := [some (.ref q0), some (.ref q1), none, some (.int x3), some (.int x4), some (.int x5), some (.int x6)]) (st' := [.int x6, .int x5, .int x3, .ref q1, .ref q0]) rfl ?_
  obtain ⟨_, e_1755, e⟩ := Option.bind_eq_some_iff.mp e
  obtain ⟨h_1757, e_1754, e⟩ := Option.bind_eq_some_iff.mp e
  refine Rn.call hT rfl rfl rfl (Nat.le_of_ble_eq_true rfl) (rcv_v gX4_layOne (by omega) e_1755) (rX4_layOne (by omega) hrc e_1754 ?_)
  show Rn d _ _ 139 [some (.ref q0), some (.ref q1), none, some (.int x3), some (.int x4), some (.int x5), some (.int x6)] [] h_1757 Q
  exact Rn.weak (ll_s (ll_s (ll_n (ll_s (ll_s (ll_s (ll_s ll_e))))))) (rX4_layFrom_b139 hd hrc hb hk hq e)
def fX4_layFrom_l92 (N : Nat) (rc : iv_H → Nat → Nat → Int32 → Option iv_H) (q0 : Nat) (q1 : Nat) (x3 : Int32) (x4 : Int32) (x5 : Int32) (kx : iv_H → Option (iv_H)) : Nat → iv_H → Int32 → Option (iv_H)
  | 0, _, _ => none
  | n + 1, h, x6 => (if (4 : Int32) ≤ x6 then (kx h) else ((gR h 4 0 q0).bind fun v_1740 => ((cko h v_1740 1).bind fun _ => (fX1_isEmptyCell N h v_1740 x5).bind fun v_1744 => (if v_1744 = 0 then (kx h) else (if x4 = 0 then ((gR h 2 9 q1).bind fun v_1747 => ((gR h 1 6 v_1747).bind fun v_1749 => ((aI h v_1749 x3).bind fun v_1751 => (if x6 = v_1751 then (fX4_layFrom_b129 N rc h q0 q1 x3 x4 x5 x6 (fX4_layFrom_l92 N rc q0 q1 x3 x4 x5 kx n) kx) else (fX4_layFrom_b139 N rc h q0 q1 x3 x4 x5 x6 (fX4_layFrom_l92 N rc q0 q1 x3 x4 x5 kx n) kx))))) else (fX4_layFrom_b129 N rc h q0 q1 x3 x4 x5 x6 (fX4_layFrom_l92 N rc q0 q1 x3 x4 x5 kx n) kx))))))
set_option maxRecDepth 10000 in
set_option maxHeartbeats 4000000 in
theorem rX4_layFrom_l92 {d N : Nat} (hd : 2 ≤ d) {rc : iv_H → Nat → Nat → Int32 → Option iv_H} (hrc : ∀ {h : iv_H} {q0 q1 : Nat} {x2 : Int32} {r : iv_H} {Q : Option Value → iv_H → Prop}, rc h q0 q1 x2 = some r → Q none r → Cl (d - 1) 70 [.ref q0, .ref q1, .int x2] h Q) {q0 : Nat} {q1 : Nat} {x3 : Int32} {x4 : Int32} {x5 : Int32} {kx : iv_H → Option (iv_H)} {r : iv_H} {Q : Option Value → iv_H → Prop} (hk : ∀ (h : iv_H), kx h = some r → Rn d 70 none 145 [some (.ref q0), some (.ref q1), none, some (.int x3), some (.int x4), some (.int x5), none] [] h Q) (hq : Q none r) : ∀ (n : Nat) (h : iv_H) (x6 : Int32), fX4_layFrom_l92 N rc q0 q1 x3 x4 x5 kx n h x6 = some r → Rn d 70 none 92 [some (.ref q0), some (.ref q1), none, some (.int x3), some (.int x4), some (.int x5), some (.int x6)] [] h Q := by
  have hT := hX4_layFrom
  intro n
  induction n with
  | zero =>
    intro h x6 e
    rw [fX4_layFrom_l92] at e
    cases e
  | succ n ih =>
    intro h x6 e
    rw [fX4_layFrom_l92] at e
    refine Rn.n hT 2 (pc' := 95) (L' := [some (.ref q0), some (.ref q1), none, some (.int x3), some (.int x4), some (.int x5), some (.int x6)]) (st' := [.int (4 : Int32), .int x6]) rfl ?_
    by_cases c_1739 : (4 : Int32) ≤ x6
    · rw [if_pos c_1739] at e
      refine Rn.bt hT rfl rfl rfl (decide_eq_true c_1739) ?_
      exact Rn.weak (ll_s (ll_s (ll_n (ll_s (ll_s (ll_s (ll_n ll_e))))))) (hk h e)
    · rw [if_neg c_1739] at e
      refine Rn.bf hT rfl rfl rfl (decide_eq_false c_1739) ?_
      refine Rn.n hT 1 (pc' := 99) (L' := [some (.ref q0), some (.ref q1), none, some (.int x3), some (.int x4), some (.int x5), some (.int x6)]) (st' := [.ref q0]) rfl ?_
      obtain ⟨v_1740, e_1741, e⟩ := Option.bind_eq_some_iff.mp e
      refine Rn.hp hT rfl rfl (gR_hp e_1741) ?_
      refine Rn.n hT 1 (pc' := 104) (L' := [some (.ref q0), some (.ref q1), none, some (.int x3), some (.int x4), some (.int x5), some (.int x6)]) (st' := [.int x5, .ref v_1740]) rfl ?_
      obtain ⟨_, e_1743, e⟩ := Option.bind_eq_some_iff.mp e
      obtain ⟨v_1744, e_1742, e⟩ := Option.bind_eq_some_iff.mp e
      refine Rn.call hT rfl rfl rfl (Nat.le_of_ble_eq_true rfl) (rcv_v gX1_isEmptyCell (by omega) e_1743) (rX1_isEmptyCell (by omega) e_1742 ?_)
      show Rn d _ _ 107 [some (.ref q0), some (.ref q1), none, some (.int x3), some (.int x4), some (.int x5), some (.int x6)] [.int v_1744] h Q
      by_cases c_1745 : v_1744 = 0
      · rw [if_pos c_1745] at e
        refine Rn.bt hT rfl rfl rfl (decide_eq_true c_1745) ?_
        exact Rn.weak (ll_s (ll_s (ll_n (ll_s (ll_s (ll_s (ll_n ll_e))))))) (hk h e)
      · rw [if_neg c_1745] at e
        refine Rn.bf hT rfl rfl rfl (decide_eq_false c_1745) ?_
        refine Rn.n hT 1 (pc' := 112) (L' := [some (.ref q0), some (.ref q1), none, some (.int x3), some (.int x4), some (.int x5), some (.int x6)]) (st' := [.int x4]) rfl ?_
        by_cases c_1746 : x4 = 0
        · rw [if_pos c_1746] at e
          refine Rn.bf hT rfl rfl rfl (decide_eq_false (fun z => z c_1746)) ?_
          refine Rn.n hT 2 (pc' := 118) (L' := [some (.ref q0), some (.ref q1), none, some (.int x3), some (.int x4), some (.int x5), some (.int x6)]) (st' := [.ref q1, .int x6]) rfl ?_
          obtain ⟨v_1747, e_1748, e⟩ := Option.bind_eq_some_iff.mp e
          refine Rn.hp hT rfl rfl (gR_hp e_1748) ?_
          obtain ⟨v_1749, e_1750, e⟩ := Option.bind_eq_some_iff.mp e
          refine Rn.hp hT rfl rfl (gR_hp e_1750) ?_
          refine Rn.n hT 1 (pc' := 125) (L' := [some (.ref q0), some (.ref q1), none, some (.int x3), some (.int x4), some (.int x5), some (.int x6)]) (st' := [.int x3, .ref v_1749, .int x6]) rfl ?_
          obtain ⟨v_1751, e_1752, e⟩ := Option.bind_eq_some_iff.mp e
          refine Rn.hp hT rfl rfl (aI_hp e_1752) ?_
          by_cases c_1753 : x6 = v_1751
          · rw [if_pos c_1753] at e
            refine Rn.bf hT rfl rfl rfl (decide_eq_false (fun z => z c_1753)) ?_
            exact Rn.weak (ll_s (ll_s (ll_n (ll_s (ll_s (ll_s (ll_s ll_e))))))) (rX4_layFrom_b129 hd hrc ih hk hq e)
          · rw [if_neg c_1753] at e
            refine Rn.bt hT rfl rfl rfl (decide_eq_true c_1753) ?_
            exact Rn.weak (ll_s (ll_s (ll_n (ll_s (ll_s (ll_s (ll_s ll_e))))))) (rX4_layFrom_b139 hd hrc ih hk hq e)
        · rw [if_neg c_1746] at e
          refine Rn.bt hT rfl rfl rfl (decide_eq_true c_1746) ?_
          exact Rn.weak (ll_s (ll_s (ll_n (ll_s (ll_s (ll_s (ll_s ll_e))))))) (rX4_layFrom_b129 hd hrc ih hk hq e)
def fX4_layFrom_b145 (N : Nat) (rc : iv_H → Nat → Nat → Int32 → Option iv_H) (h : iv_H) (q0 : Nat) (q1 : Nat) (x3 : Int32) (x4 : Int32) (x5 : Int32)  (kb : iv_H → Int32 → Option (iv_H)) (kx : iv_H → Option (iv_H)) : Option (iv_H) := ((gI h 4 3 q0).bind fun v_1758 => (if v_1758 = 0 then (kb h (x5 + (1 : Int32))) else some h))
set_option maxRecDepth 10000 in
set_option maxHeartbeats 4000000 in
theorem rX4_layFrom_b145 {d N : Nat} (hd : 2 ≤ d) {rc : iv_H → Nat → Nat → Int32 → Option iv_H} (hrc : ∀ {h : iv_H} {q0 q1 : Nat} {x2 : Int32} {r : iv_H} {Q : Option Value → iv_H → Prop}, rc h q0 q1 x2 = some r → Q none r → Cl (d - 1) 70 [.ref q0, .ref q1, .int x2] h Q) {h : iv_H} {q0 : Nat} {q1 : Nat} {x3 : Int32} {x4 : Int32} {x5 : Int32}  {kb : iv_H → Int32 → Option (iv_H)} {kx : iv_H → Option (iv_H)} {r : iv_H} {Q : Option Value → iv_H → Prop} (hb : ∀ (h : iv_H) (w5 : Int32), kb h w5 = some r → Rn d 70 none 82 [some (.ref q0), some (.ref q1), none, some (.int x3), some (.int x4), some (.int w5), none] [] h Q) (hk : ∀ (h : iv_H), kx h = some r → Rn d 70 none 159 [none, none, none, none, none, none, none] [] h Q) (hq : Q none r) (e : fX4_layFrom_b145 N rc h q0 q1 x3 x4 x5  kb kx = some r) : Rn d 70 none 145 [some (.ref q0), some (.ref q1), none, some (.int x3), some (.int x4), some (.int x5), none] [] h Q := by
  have hT := hX4_layFrom
  unfold fX4_layFrom_b145 at e
  refine Rn.n hT 1 (pc' := 146) (L' := [some (.ref q0), some (.ref q1), none, some (.int x3), some (.int x4), some (.int x5), none]) (st' := [.ref q0]) rfl ?_
  obtain ⟨v_1758, e_1759, e⟩ := Option.bind_eq_some_iff.mp e
  refine Rn.hp hT rfl rfl (gI_hp e_1759) ?_
  by_cases c_1760 : v_1758 = 0
  · rw [if_pos c_1760] at e
    refine Rn.bt hT rfl rfl rfl (decide_eq_true c_1760) ?_
    refine Rn.n hT 2 (pc' := 82) (L' := [some (.ref q0), some (.ref q1), none, some (.int x3), some (.int x4), some (.int (x5 + (1 : Int32))), none]) (st' := []) rfl ?_
    exact Rn.weak (ll_s (ll_s (ll_n (ll_s (ll_s (ll_s (ll_n ll_e))))))) (hb h (x5 + (1 : Int32)) e)
  · rw [if_neg c_1760] at e
    refine Rn.bf hT rfl rfl rfl (decide_eq_false c_1760) ?_
    obtain rfl := Option.some.inj e
    exact Rn.ret hT rfl rfl rfl hq
def fX4_layFrom_l82 (N : Nat) (rc : iv_H → Nat → Nat → Int32 → Option iv_H) (q0 : Nat) (q1 : Nat) (x3 : Int32) (x4 : Int32) (kx : iv_H → Option (iv_H)) : Nat → iv_H → Int32 → Option (iv_H)
  | 0, _, _ => none
  | n + 1, h, x5 => (if (16 : Int32) ≤ x5 then (kx h) else (fX4_layFrom_l92 N rc q0 q1 x3 x4 x5 (fun (h_1738 : iv_H) => (fX4_layFrom_b145 N rc h_1738 q0 q1 x3 x4 x5 (fX4_layFrom_l82 N rc q0 q1 x3 x4 kx n) kx)) N h (0 : Int32)))
set_option maxRecDepth 10000 in
set_option maxHeartbeats 4000000 in
theorem rX4_layFrom_l82 {d N : Nat} (hd : 2 ≤ d) {rc : iv_H → Nat → Nat → Int32 → Option iv_H} (hrc : ∀ {h : iv_H} {q0 q1 : Nat} {x2 : Int32} {r : iv_H} {Q : Option Value → iv_H → Prop}, rc h q0 q1 x2 = some r → Q none r → Cl (d - 1) 70 [.ref q0, .ref q1, .int x2] h Q) {q0 : Nat} {q1 : Nat} {x3 : Int32} {x4 : Int32} {kx : iv_H → Option (iv_H)} {r : iv_H} {Q : Option Value → iv_H → Prop} (hk : ∀ (h : iv_H), kx h = some r → Rn d 70 none 159 [none, none, none, none, none, none, none] [] h Q) (hq : Q none r) : ∀ (n : Nat) (h : iv_H) (x5 : Int32), fX4_layFrom_l82 N rc q0 q1 x3 x4 kx n h x5 = some r → Rn d 70 none 82 [some (.ref q0), some (.ref q1), none, some (.int x3), some (.int x4), some (.int x5), none] [] h Q := by
  have hT := hX4_layFrom
  intro n
  induction n with
  | zero =>
    intro h x5 e
    rw [fX4_layFrom_l82] at e
    cases e
  | succ n ih =>
    intro h x5 e
    rw [fX4_layFrom_l82] at e
    refine Rn.n hT 2 (pc' := 86) (L' := [some (.ref q0), some (.ref q1), none, some (.int x3), some (.int x4), some (.int x5), none]) (st' := [.int (16 : Int32), .int x5]) rfl ?_
    by_cases c_1737 : (16 : Int32) ≤ x5
    · rw [if_pos c_1737] at e
      refine Rn.bt hT rfl rfl rfl (decide_eq_true c_1737) ?_
      exact Rn.weak (ll_n (ll_n (ll_n (ll_n (ll_n (ll_n (ll_n ll_e))))))) (hk h e)
    · rw [if_neg c_1737] at e
      refine Rn.bf hT rfl rfl rfl (decide_eq_false c_1737) ?_
      refine Rn.n hT 2 (pc' := 92) (L' := [some (.ref q0), some (.ref q1), none, some (.int x3), some (.int x4), some (.int x5), some (.int (0 : Int32))]) (st' := []) rfl ?_
      refine Rn.weak (ll_s (ll_s (ll_n (ll_s (ll_s (ll_s (ll_s ll_e))))))) (rX4_layFrom_l92 hd hrc (fun h_1738 e => ?_) hq N h (0 : Int32) e)
      try dsimp only at e
      exact Rn.weak (ll_s (ll_s (ll_n (ll_s (ll_s (ll_s (ll_n ll_e))))))) (rX4_layFrom_b145 hd hrc ih hk hq e)
def fX4_layFrom_b77 (N : Nat) (rc : iv_H → Nat → Nat → Int32 → Option iv_H) (h : iv_H) (q0 : Nat) (q1 : Nat) (x3 : Int32) (s0 : Int32) : Option (iv_H) := (fX4_layFrom_l82 N rc q0 q1 x3 s0 (fun (h_1736 : iv_H) => some h_1736) N h (0 : Int32))
set_option maxRecDepth 10000 in
set_option maxHeartbeats 4000000 in
theorem rX4_layFrom_b77 {d N : Nat} (hd : 2 ≤ d) {rc : iv_H → Nat → Nat → Int32 → Option iv_H} (hrc : ∀ {h : iv_H} {q0 q1 : Nat} {x2 : Int32} {r : iv_H} {Q : Option Value → iv_H → Prop}, rc h q0 q1 x2 = some r → Q none r → Cl (d - 1) 70 [.ref q0, .ref q1, .int x2] h Q) {h : iv_H} {q0 : Nat} {q1 : Nat} {x3 : Int32} {s0 : Int32} {r : iv_H} {Q : Option Value → iv_H → Prop} (hq : Q none r) (e : fX4_layFrom_b77 N rc h q0 q1 x3 s0 = some r) : Rn d 70 none 77 [some (.ref q0), some (.ref q1), none, some (.int x3), none, none, none] [.int s0] h Q := by
  have hT := hX4_layFrom
  unfold fX4_layFrom_b77 at e
  refine Rn.n hT 3 (pc' := 82) (L' := [some (.ref q0), some (.ref q1), none, some (.int x3), some (.int s0), some (.int (0 : Int32)), none]) (st' := []) rfl ?_
  refine Rn.weak (ll_s (ll_s (ll_n (ll_s (ll_s (ll_s (ll_n ll_e))))))) (rX4_layFrom_l82 hd hrc (fun h_1736 e => ?_) hq N h (0 : Int32) e)
  try dsimp only at e
  obtain rfl := Option.some.inj e
  exact Rn.ret hT rfl rfl rfl hq
def fX4_layFrom_b27 (N : Nat) (rc : iv_H → Nat → Nat → Int32 → Option iv_H) (h : iv_H) (q0 : Nat) (q1 : Nat) (x3 : Int32)  : Option (iv_H) := ((gR h 4 0 q0).bind fun v_1718 => ((gI h 1 2 v_1718).bind fun v_1720 => (if x3 < v_1720 then ((gI h 2 1 q1).bind fun v_1723 => (if (v_1723 &&& (4 : Int32)) = 0 then (fX4_layFrom_b77 N rc h q0 q1 x3 (0 : Int32)) else (fX4_layFrom_b77 N rc h q0 q1 x3 (1 : Int32)))) else ((gI h 4 2 q0).bind fun v_1726 => ((gR h 4 0 q0).bind fun v_1728 => ((cko h v_1728 1).bind fun _ => (fX1_mismatches N h v_1728).bind fun v_1732 => (if v_1732 = 0 then (fX4_layFrom_b58 N rc h (1 : Int32) v_1726 q0) else (fX4_layFrom_b58 N rc h (0 : Int32) v_1726 q0))))))))
set_option maxRecDepth 10000 in
set_option maxHeartbeats 4000000 in
theorem rX4_layFrom_b27 {d N : Nat} (hd : 2 ≤ d) {rc : iv_H → Nat → Nat → Int32 → Option iv_H} (hrc : ∀ {h : iv_H} {q0 q1 : Nat} {x2 : Int32} {r : iv_H} {Q : Option Value → iv_H → Prop}, rc h q0 q1 x2 = some r → Q none r → Cl (d - 1) 70 [.ref q0, .ref q1, .int x2] h Q) {h : iv_H} {q0 : Nat} {q1 : Nat} {x3 : Int32}  {r : iv_H} {Q : Option Value → iv_H → Prop} (hq : Q none r) (e : fX4_layFrom_b27 N rc h q0 q1 x3  = some r) : Rn d 70 none 27 [some (.ref q0), some (.ref q1), none, some (.int x3), none, none, none] [] h Q := by
  have hT := hX4_layFrom
  unfold fX4_layFrom_b27 at e
  refine Rn.n hT 2 (pc' := 29) (L' := [some (.ref q0), some (.ref q1), none, some (.int x3), none, none, none]) (st' := [.ref q0, .int x3]) rfl ?_
  obtain ⟨v_1718, e_1719, e⟩ := Option.bind_eq_some_iff.mp e
  refine Rn.hp hT rfl rfl (gR_hp e_1719) ?_
  obtain ⟨v_1720, e_1721, e⟩ := Option.bind_eq_some_iff.mp e
  refine Rn.hp hT rfl rfl (gI_hp e_1721) ?_
  by_cases c_1722 : x3 < v_1720
  · rw [if_pos c_1722] at e
    refine Rn.bt hT rfl rfl rfl (decide_eq_true c_1722) ?_
    refine Rn.n hT 1 (pc' := 64) (L' := [some (.ref q0), some (.ref q1), none, some (.int x3), none, none, none]) (st' := [.ref q1]) rfl ?_
    obtain ⟨v_1723, e_1724, e⟩ := Option.bind_eq_some_iff.mp e
    refine Rn.hp hT rfl rfl (gI_hp e_1724) ?_
    refine Rn.n hT 2 (pc' := 69) (L' := [some (.ref q0), some (.ref q1), none, some (.int x3), none, none, none]) (st' := [.int (v_1723 &&& (4 : Int32))]) rfl ?_
    by_cases c_1725 : (v_1723 &&& (4 : Int32)) = 0
    · rw [if_pos c_1725] at e
      refine Rn.bt hT rfl rfl rfl (decide_eq_true c_1725) ?_
      refine Rn.n hT 1 (pc' := 77) (L' := [some (.ref q0), some (.ref q1), none, some (.int x3), none, none, none]) (st' := [.int (0 : Int32)]) rfl ?_
      exact Rn.weak (ll_s (ll_s (ll_n (ll_s (ll_n (ll_n (ll_n ll_e))))))) (rX4_layFrom_b77 hd hrc hq e)
    · rw [if_neg c_1725] at e
      refine Rn.bf hT rfl rfl rfl (decide_eq_false c_1725) ?_
      refine Rn.n hT 2 (pc' := 77) (L' := [some (.ref q0), some (.ref q1), none, some (.int x3), none, none, none]) (st' := [.int (1 : Int32)]) rfl ?_
      exact Rn.weak (ll_s (ll_s (ll_n (ll_s (ll_n (ll_n (ll_n ll_e))))))) (rX4_layFrom_b77 hd hrc hq e)
  · rw [if_neg c_1722] at e
    refine Rn.bf hT rfl rfl rfl (decide_eq_false c_1722) ?_
    refine Rn.n hT 2 (pc' := 40) (L' := [some (.ref q0), some (.ref q1), none, some (.int x3), none, none, none]) (st' := [.ref q0, .ref q0]) rfl ?_
    obtain ⟨v_1726, e_1727, e⟩ := Option.bind_eq_some_iff.mp e
    refine Rn.hp hT rfl rfl (gI_hp e_1727) ?_
    refine Rn.n hT 1 (pc' := 44) (L' := [some (.ref q0), some (.ref q1), none, some (.int x3), none, none, none]) (st' := [.ref q0, .int v_1726, .ref q0]) rfl ?_
    obtain ⟨v_1728, e_1729, e⟩ := Option.bind_eq_some_iff.mp e
    refine Rn.hp hT rfl rfl (gR_hp e_1729) ?_
    obtain ⟨_, e_1731, e⟩ := Option.bind_eq_some_iff.mp e
    obtain ⟨v_1732, e_1730, e⟩ := Option.bind_eq_some_iff.mp e
    refine Rn.call hT rfl rfl rfl (Nat.le_of_ble_eq_true rfl) (rcv_v gX1_mismatches (by omega) e_1731) (rX1_mismatches (by omega) e_1730 ?_)
    show Rn d _ _ 50 [some (.ref q0), some (.ref q1), none, some (.int x3), none, none, none] [.int v_1732, .int v_1726, .ref q0] h Q
    by_cases c_1733 : v_1732 = 0
    · rw [if_pos c_1733] at e
      refine Rn.bf hT rfl rfl rfl (decide_eq_false (fun z => z c_1733)) ?_
      refine Rn.n hT 2 (pc' := 58) (L' := [some (.ref q0), some (.ref q1), none, some (.int x3), none, none, none]) (st' := [.int (1 : Int32), .int v_1726, .ref q0]) rfl ?_
      exact Rn.weak (ll_n (ll_n (ll_n (ll_n (ll_n (ll_n (ll_n ll_e))))))) (rX4_layFrom_b58 hd hrc hq e)
    · rw [if_neg c_1733] at e
      refine Rn.bt hT rfl rfl rfl (decide_eq_true c_1733) ?_
      refine Rn.n hT 1 (pc' := 58) (L' := [some (.ref q0), some (.ref q1), none, some (.int x3), none, none, none]) (st' := [.int (0 : Int32), .int v_1726, .ref q0]) rfl ?_
      exact Rn.weak (ll_n (ll_n (ll_n (ll_n (ll_n (ll_n (ll_n ll_e))))))) (rX4_layFrom_b58 hd hrc hq e)
def fX4_layFrom_s (N : Nat) (rc : iv_H → Nat → Nat → Int32 → Option iv_H) (h : iv_H) (q0 : Nat) (q1 : Nat) (x2 : Int32) : Option (iv_H) := (fX4_layFrom_l2 N rc q0 q1 (fun (h_1707 : iv_H) (z_1708 : Int32) => (fX4_layFrom_b27 N rc h_1707 q0 q1 z_1708)) N h x2)
set_option maxRecDepth 10000 in
set_option maxHeartbeats 4000000 in
theorem rX4_layFrom_s {d N : Nat} (hd : 3 ≤ d) {rc : iv_H → Nat → Nat → Int32 → Option iv_H} (hrc : ∀ {h : iv_H} {q0 q1 : Nat} {x2 : Int32} {r : iv_H} {Q : Option Value → iv_H → Prop}, rc h q0 q1 x2 = some r → Q none r → Cl (d - 2) 70 [.ref q0, .ref q1, .int x2] h Q) {h : iv_H} {q0 : Nat} {q1 : Nat} {x2 : Int32} {r : iv_H} {Q : Option Value → iv_H → Prop} (e : fX4_layFrom_s N rc h q0 q1 x2 = some r) (hq : Q none r) : Cl d 70 [.ref q0, .ref q1, .int x2] h Q := by
  obtain ⟨d, rfl⟩ : ∃ k, d = k + 1 := ⟨d - 1, by omega⟩
  have hd : 2 ≤ d := by omega
  have hT := hX4_layFrom
  unfold fX4_layFrom_s at e
  rw [show d + 1 - 2 = d - 1 from by omega] at hrc
  refine Cl.into (by decide) gX4_layFrom rfl ?_
  show Rn d 70 none 0 [some (.ref q0), some (.ref q1), some (.int x2), none, none, none, none] [] h Q
  refine Rn.n hT 2 (pc' := 2) (L' := [some (.ref q0), some (.ref q1), some (.int x2), some (.int x2), none, none, none]) (st' := []) rfl ?_
  refine Rn.weak (ll_s (ll_s (ll_n (ll_s (ll_n (ll_n (ll_n ll_e))))))) (rX4_layFrom_l2 hd hrc (fun h_1707 z_1708 e => ?_) hq N h x2 e)
  try dsimp only at e
  exact Rn.weak (ll_s (ll_s (ll_n (ll_s (ll_n (ll_n (ll_n ll_e))))))) (rX4_layFrom_b27 hd hrc hq e)
def fX4_layFrom (N : Nat) : Nat → iv_H → Nat → Nat → Int32 → Option iv_H
  | 0, _, _, _, _ => none
  | n + 1, h, q0, q1, x2 => fX4_layFrom_s N (fX4_layFrom N n) h q0 q1 x2
theorem rX4_layFrom {N : Nat} : ∀ (n : Nat) {d : Nat} (_ : 3 + 2 * n ≤ d) {h : iv_H} {q0 : Nat} {q1 : Nat} {x2 : Int32} {r : iv_H} {Q : Option Value → iv_H → Prop} (_ : fX4_layFrom N n h q0 q1 x2 = some r) (_ : Q none r), Cl d 70 [.ref q0, .ref q1, .int x2] h Q := by
  intro n
  induction n with
  | zero => intro d hd h q0 q1 x2 r Q e hq; rw [fX4_layFrom] at e; cases e
  | succ n ih =>
    intro d hd h q0 q1 x2 r Q e hq
    rw [fX4_layFrom] at e
    exact rX4_layFrom_s (by omega) (fun e hq => ih (by omega) e hq) e hq
set_option maxRecDepth 10000 in
theorem hX4_layRooms : iv_Tb 69 tX4_layRooms := iv_tb_of (m := mX4_layRooms) rfl
set_option maxRecDepth 10000 in
theorem gX4_layRooms : PG.2 69 = some mX4_layRooms := iv_pi_of (t := tX4_layRooms) rfl (by decide)
def fX4_layRooms_b55 (N : Nat) (h : iv_H) (q0 : Nat) (q1 : Nat) (x2 : Int32)  (kb : iv_H → Int32 → Option (Int32 × iv_H)) (kx : iv_H → Option (Int32 × iv_H)) : Option (Int32 × iv_H) := (kb h (x2 + (1 : Int32)))
set_option maxRecDepth 10000 in
set_option maxHeartbeats 4000000 in
theorem rX4_layRooms_b55 {d N : Nat} (hd : 43 ≤ d) {h : iv_H} {q0 : Nat} {q1 : Nat} {x2 : Int32}  {kb : iv_H → Int32 → Option (Int32 × iv_H)} {kx : iv_H → Option (Int32 × iv_H)} {r : Int32 × iv_H} {Q : Option Value → iv_H → Prop} (hb : ∀ (h : iv_H) (w2 : Int32), kb h w2 = some r → Rn d 69 (some .int) 28 [some (.ref q0), some (.ref q1), some (.int w2)] [] h Q) (hk : ∀ (h : iv_H), kx h = some r → Rn d 69 (some .int) 61 [some (.ref q0), some (.ref q1), none] [] h Q) (hq : Q (some (.int r.1)) r.2) (e : fX4_layRooms_b55 N h q0 q1 x2  kb kx = some r) : Rn d 69 (some .int) 55 [some (.ref q0), some (.ref q1), some (.int x2)] [] h Q := by
  have hT := hX4_layRooms
  unfold fX4_layRooms_b55 at e
  refine Rn.n hT 2 (pc' := 28) (L' := [some (.ref q0), some (.ref q1), some (.int (x2 + (1 : Int32)))]) (st' := []) rfl ?_
  exact Rn.weak (ll_s (ll_s (ll_s ll_e))) (hb h (x2 + (1 : Int32)) e)
def fX4_layRooms_l28 (N : Nat) (q0 : Nat) (q1 : Nat) (kx : iv_H → Option (Int32 × iv_H)) : Nat → iv_H → Int32 → Option (Int32 × iv_H)
  | 0, _, _ => none
  | n + 1, h, x2 => ((gR h 4 0 q0).bind fun v_1786 => ((gI h 1 2 v_1786).bind fun v_1788 => (if v_1788 ≤ x2 then (kx h) else ((cko h q1 2).bind fun _ => (fX2_isFixed N h q1 x2).bind fun v_1793 => (if v_1793 = 0 then ((gR h 4 0 q0).bind fun v_1795 => ((cko h v_1795 1).bind fun _ => (fX1_take N h v_1795 x2).bind fun h_1800 => (fX4_layRooms_b55 N h_1800 q0 q1 x2 (fX4_layRooms_l28 N q0 q1 kx n) kx))) else (fX4_layRooms_b55 N h q0 q1 x2 (fX4_layRooms_l28 N q0 q1 kx n) kx))))))
set_option maxRecDepth 10000 in
set_option maxHeartbeats 4000000 in
theorem rX4_layRooms_l28 {d N : Nat} (hd : 43 ≤ d) {q0 : Nat} {q1 : Nat} {kx : iv_H → Option (Int32 × iv_H)} {r : Int32 × iv_H} {Q : Option Value → iv_H → Prop} (hk : ∀ (h : iv_H), kx h = some r → Rn d 69 (some .int) 61 [some (.ref q0), some (.ref q1), none] [] h Q) (hq : Q (some (.int r.1)) r.2) : ∀ (n : Nat) (h : iv_H) (x2 : Int32), fX4_layRooms_l28 N q0 q1 kx n h x2 = some r → Rn d 69 (some .int) 28 [some (.ref q0), some (.ref q1), some (.int x2)] [] h Q := by
  have hT := hX4_layRooms
  intro n
  induction n with
  | zero =>
    intro h x2 e
    rw [fX4_layRooms_l28] at e
    cases e
  | succ n ih =>
    intro h x2 e
    rw [fX4_layRooms_l28] at e
    refine Rn.n hT 2 (pc' := 30) (L' := [some (.ref q0), some (.ref q1), some (.int x2)]) (st' := [.ref q0, .int x2]) rfl ?_
    obtain ⟨v_1786, e_1787, e⟩ := Option.bind_eq_some_iff.mp e
    refine Rn.hp hT rfl rfl (gR_hp e_1787) ?_
    obtain ⟨v_1788, e_1789, e⟩ := Option.bind_eq_some_iff.mp e
    refine Rn.hp hT rfl rfl (gI_hp e_1789) ?_
    by_cases c_1790 : v_1788 ≤ x2
    · rw [if_pos c_1790] at e
      refine Rn.bt hT rfl rfl rfl (decide_eq_true c_1790) ?_
      exact Rn.weak (ll_s (ll_s (ll_n ll_e))) (hk h e)
    · rw [if_neg c_1790] at e
      refine Rn.bf hT rfl rfl rfl (decide_eq_false c_1790) ?_
      refine Rn.n hT 2 (pc' := 41) (L' := [some (.ref q0), some (.ref q1), some (.int x2)]) (st' := [.int x2, .ref q1]) rfl ?_
      obtain ⟨_, e_1792, e⟩ := Option.bind_eq_some_iff.mp e
      obtain ⟨v_1793, e_1791, e⟩ := Option.bind_eq_some_iff.mp e
      refine Rn.call hT rfl rfl rfl (Nat.le_of_ble_eq_true rfl) (rcv_v gX2_isFixed (by omega) e_1792) (rX2_isFixed (by omega) e_1791 ?_)
      show Rn d _ _ 44 [some (.ref q0), some (.ref q1), some (.int x2)] [.int v_1793] h Q
      by_cases c_1794 : v_1793 = 0
      · rw [if_pos c_1794] at e
        refine Rn.bf hT rfl rfl rfl (decide_eq_false (fun z => z c_1794)) ?_
        refine Rn.n hT 1 (pc' := 48) (L' := [some (.ref q0), some (.ref q1), some (.int x2)]) (st' := [.ref q0]) rfl ?_
        obtain ⟨v_1795, e_1796, e⟩ := Option.bind_eq_some_iff.mp e
        refine Rn.hp hT rfl rfl (gR_hp e_1796) ?_
        refine Rn.n hT 1 (pc' := 52) (L' := [some (.ref q0), some (.ref q1), some (.int x2)]) (st' := [.int x2, .ref v_1795]) rfl ?_
        obtain ⟨_, e_1798, e⟩ := Option.bind_eq_some_iff.mp e
        obtain ⟨h_1800, e_1797, e⟩ := Option.bind_eq_some_iff.mp e
        refine Rn.call hT rfl rfl rfl (Nat.le_of_ble_eq_true rfl) (rcv_v gX1_take (by omega) e_1798) (rX1_take (by omega) e_1797 ?_)
        show Rn d _ _ 55 [some (.ref q0), some (.ref q1), some (.int x2)] [] h_1800 Q
        exact Rn.weak (ll_s (ll_s (ll_s ll_e))) (rX4_layRooms_b55 hd ih hk hq e)
      · rw [if_neg c_1794] at e
        refine Rn.bt hT rfl rfl rfl (decide_eq_true c_1794) ?_
        exact Rn.weak (ll_s (ll_s (ll_s ll_e))) (rX4_layRooms_b55 hd ih hk hq e)
def fX4_layRooms_b95 (N : Nat) (h : iv_H) (q0 : Nat) (q1 : Nat) (x2 : Int32)  (kb : iv_H → Int32 → Option (Int32 × iv_H)) (kx : iv_H → Option (Int32 × iv_H)) : Option (Int32 × iv_H) := (kb h (x2 + (1 : Int32)))
set_option maxRecDepth 10000 in
set_option maxHeartbeats 4000000 in
theorem rX4_layRooms_b95 {d N : Nat} (hd : 43 ≤ d) {h : iv_H} {q0 : Nat} {q1 : Nat} {x2 : Int32}  {kb : iv_H → Int32 → Option (Int32 × iv_H)} {kx : iv_H → Option (Int32 × iv_H)} {r : Int32 × iv_H} {Q : Option Value → iv_H → Prop} (hb : ∀ (h : iv_H) (w2 : Int32), kb h w2 = some r → Rn d 69 (some .int) 63 [some (.ref q0), some (.ref q1), some (.int w2)] [] h Q) (hk : ∀ (h : iv_H), kx h = some r → Rn d 69 (some .int) 101 [some (.ref q0), some (.ref q1), none] [] h Q) (hq : Q (some (.int r.1)) r.2) (e : fX4_layRooms_b95 N h q0 q1 x2  kb kx = some r) : Rn d 69 (some .int) 95 [some (.ref q0), some (.ref q1), some (.int x2)] [] h Q := by
  have hT := hX4_layRooms
  unfold fX4_layRooms_b95 at e
  refine Rn.n hT 2 (pc' := 63) (L' := [some (.ref q0), some (.ref q1), some (.int (x2 + (1 : Int32)))]) (st' := []) rfl ?_
  exact Rn.weak (ll_s (ll_s (ll_s ll_e))) (hb h (x2 + (1 : Int32)) e)
def fX4_layRooms_l63 (N : Nat) (q0 : Nat) (q1 : Nat) (kx : iv_H → Option (Int32 × iv_H)) : Nat → iv_H → Int32 → Option (Int32 × iv_H)
  | 0, _, _ => none
  | n + 1, h, x2 => ((gR h 4 0 q0).bind fun v_1801 => ((gI h 1 2 v_1801).bind fun v_1803 => (if v_1803 ≤ x2 then (kx h) else ((cko h q1 2).bind fun _ => (fX2_isFixed N h q1 x2).bind fun v_1808 => (if v_1808 = 0 then (fX4_layRooms_b95 N h q0 q1 x2 (fX4_layRooms_l63 N q0 q1 kx n) kx) else ((gR h 4 0 q0).bind fun v_1810 => ((cko h v_1810 1).bind fun _ => (fX1_fits N h v_1810 x2).bind fun v_1814 => (if v_1814 = 0 then (some ((0 : Int32), h)) else (fX4_layRooms_b95 N h q0 q1 x2 (fX4_layRooms_l63 N q0 q1 kx n) kx)))))))))
set_option maxRecDepth 10000 in
set_option maxHeartbeats 4000000 in
theorem rX4_layRooms_l63 {d N : Nat} (hd : 43 ≤ d) {q0 : Nat} {q1 : Nat} {kx : iv_H → Option (Int32 × iv_H)} {r : Int32 × iv_H} {Q : Option Value → iv_H → Prop} (hk : ∀ (h : iv_H), kx h = some r → Rn d 69 (some .int) 101 [some (.ref q0), some (.ref q1), none] [] h Q) (hq : Q (some (.int r.1)) r.2) : ∀ (n : Nat) (h : iv_H) (x2 : Int32), fX4_layRooms_l63 N q0 q1 kx n h x2 = some r → Rn d 69 (some .int) 63 [some (.ref q0), some (.ref q1), some (.int x2)] [] h Q := by
  have hT := hX4_layRooms
  intro n
  induction n with
  | zero =>
    intro h x2 e
    rw [fX4_layRooms_l63] at e
    cases e
  | succ n ih =>
    intro h x2 e
    rw [fX4_layRooms_l63] at e
    refine Rn.n hT 2 (pc' := 65) (L' := [some (.ref q0), some (.ref q1), some (.int x2)]) (st' := [.ref q0, .int x2]) rfl ?_
    obtain ⟨v_1801, e_1802, e⟩ := Option.bind_eq_some_iff.mp e
    refine Rn.hp hT rfl rfl (gR_hp e_1802) ?_
    obtain ⟨v_1803, e_1804, e⟩ := Option.bind_eq_some_iff.mp e
    refine Rn.hp hT rfl rfl (gI_hp e_1804) ?_
    by_cases c_1805 : v_1803 ≤ x2
    · rw [if_pos c_1805] at e
      refine Rn.bt hT rfl rfl rfl (decide_eq_true c_1805) ?_
      exact Rn.weak (ll_s (ll_s (ll_n ll_e))) (hk h e)
    · rw [if_neg c_1805] at e
      refine Rn.bf hT rfl rfl rfl (decide_eq_false c_1805) ?_
      refine Rn.n hT 2 (pc' := 76) (L' := [some (.ref q0), some (.ref q1), some (.int x2)]) (st' := [.int x2, .ref q1]) rfl ?_
      obtain ⟨_, e_1807, e⟩ := Option.bind_eq_some_iff.mp e
      obtain ⟨v_1808, e_1806, e⟩ := Option.bind_eq_some_iff.mp e
      refine Rn.call hT rfl rfl rfl (Nat.le_of_ble_eq_true rfl) (rcv_v gX2_isFixed (by omega) e_1807) (rX2_isFixed (by omega) e_1806 ?_)
      show Rn d _ _ 79 [some (.ref q0), some (.ref q1), some (.int x2)] [.int v_1808] h Q
      by_cases c_1809 : v_1808 = 0
      · rw [if_pos c_1809] at e
        refine Rn.bt hT rfl rfl rfl (decide_eq_true c_1809) ?_
        exact Rn.weak (ll_s (ll_s (ll_s ll_e))) (rX4_layRooms_b95 hd ih hk hq e)
      · rw [if_neg c_1809] at e
        refine Rn.bf hT rfl rfl rfl (decide_eq_false c_1809) ?_
        refine Rn.n hT 1 (pc' := 83) (L' := [some (.ref q0), some (.ref q1), some (.int x2)]) (st' := [.ref q0]) rfl ?_
        obtain ⟨v_1810, e_1811, e⟩ := Option.bind_eq_some_iff.mp e
        refine Rn.hp hT rfl rfl (gR_hp e_1811) ?_
        refine Rn.n hT 1 (pc' := 87) (L' := [some (.ref q0), some (.ref q1), some (.int x2)]) (st' := [.int x2, .ref v_1810]) rfl ?_
        obtain ⟨_, e_1813, e⟩ := Option.bind_eq_some_iff.mp e
        obtain ⟨v_1814, e_1812, e⟩ := Option.bind_eq_some_iff.mp e
        refine Rn.call hT rfl rfl rfl (Nat.le_of_ble_eq_true rfl) (rcv_v gX1_fits (by omega) e_1813) (rX1_fits (by omega) e_1812 ?_)
        show Rn d _ _ 90 [some (.ref q0), some (.ref q1), some (.int x2)] [.int v_1814] h Q
        by_cases c_1815 : v_1814 = 0
        · rw [if_pos c_1815] at e
          refine Rn.bf hT rfl rfl rfl (decide_eq_false (fun z => z c_1815)) ?_
          refine Rn.n hT 1 (pc' := 94) (L' := [some (.ref q0), some (.ref q1), some (.int x2)]) (st' := [.int (0 : Int32)]) rfl ?_
          obtain rfl := Option.some.inj e
          exact Rn.ret hT rfl rfl rfl hq
        · rw [if_neg c_1815] at e
          refine Rn.bt hT rfl rfl rfl (decide_eq_true c_1815) ?_
          exact Rn.weak (ll_s (ll_s (ll_s ll_e))) (rX4_layRooms_b95 hd ih hk hq e)
def fX4_layRooms_b123 (N : Nat) (h : iv_H)  (s0 : Int32) : Option (Int32 × iv_H) := (some (s0, h))
set_option maxRecDepth 10000 in
set_option maxHeartbeats 4000000 in
theorem rX4_layRooms_b123 {d N : Nat} (hd : 43 ≤ d) {h : iv_H}  {s0 : Int32} {r : Int32 × iv_H} {Q : Option Value → iv_H → Prop} (hq : Q (some (.int r.1)) r.2) (e : fX4_layRooms_b123 N h  s0 = some r) : Rn d 69 (some .int) 123 [none, none, none] [.int s0] h Q := by
  have hT := hX4_layRooms
  unfold fX4_layRooms_b123 at e
  obtain rfl := Option.some.inj e
  exact Rn.ret hT rfl rfl rfl hq
def fX4_layRooms (N : Nat) (h : iv_H) (q0 : Nat) (q1 : Nat) : Option (Int32 × iv_H) := ((pV h 4 1 q0 (.int (0 : Int32))).bind fun h_1761 => ((pV h_1761 4 2 q0 (.int (0 : Int32))).bind fun h_1763 => ((pV h_1763 4 3 q0 (.int (0 : Int32))).bind fun h_1765 => ((gR h_1765 4 0 q0).bind fun v_1767 => ((gR h_1765 2 9 q1).bind fun v_1769 => ((cko h_1765 v_1767 1).bind fun _ => (fX1_copyFrom N h_1765 v_1767 v_1769).bind fun h_1774 => (fX4_layRooms_l28 N q0 q1 (fun (h_1775 : iv_H) => (fX4_layRooms_l63 N q0 q1 (fun (h_1776 : iv_H) => ((cko h_1776 q0 4).bind fun _ => (fX4_layFrom N 20 h_1776 q0 q1 (0 : Int32)).bind fun h_1780 => ((gI h_1780 4 3 q0).bind fun v_1781 => (if v_1781 = 0 then ((gI h_1780 4 2 q0).bind fun v_1784 => (fX4_layRooms_b123 N h_1780 v_1784)) else (fX4_layRooms_b123 N h_1780 (-3 : Int32)))))) N h_1775 (0 : Int32))) N h_1774 (0 : Int32))))))))
set_option maxRecDepth 10000 in
set_option maxHeartbeats 4000000 in
theorem rX4_layRooms {d N : Nat} (hd : 44 ≤ d) {h : iv_H} {q0 : Nat} {q1 : Nat} {r : Int32 × iv_H} {Q : Option Value → iv_H → Prop} (e : fX4_layRooms N h q0 q1 = some r) (hq : Q (some (.int r.1)) r.2) : Cl d 69 [.ref q0, .ref q1] h Q := by
  obtain ⟨d, rfl⟩ : ∃ k, d = k + 1 := ⟨d - 1, by omega⟩
  have hd : 43 ≤ d := by omega
  have hT := hX4_layRooms
  unfold fX4_layRooms at e
  refine Cl.into (by decide) gX4_layRooms rfl ?_
  show Rn d 69 (some .int) 0 [some (.ref q0), some (.ref q1), none] [] h Q
  refine Rn.n hT 2 (pc' := 2) (L' := [some (.ref q0), some (.ref q1), none]) (st' := [.int (0 : Int32), .ref q0]) rfl ?_
  obtain ⟨h_1761, e_1762, e⟩ := Option.bind_eq_some_iff.mp e
  refine Rn.hp hT rfl rfl (pV_hp rfl e_1762) ?_
  refine Rn.n hT 2 (pc' := 7) (L' := [some (.ref q0), some (.ref q1), none]) (st' := [.int (0 : Int32), .ref q0]) rfl ?_
  obtain ⟨h_1763, e_1764, e⟩ := Option.bind_eq_some_iff.mp e
  refine Rn.hp hT rfl rfl (pV_hp rfl e_1764) ?_
  refine Rn.n hT 2 (pc' := 12) (L' := [some (.ref q0), some (.ref q1), none]) (st' := [.int (0 : Int32), .ref q0]) rfl ?_
  obtain ⟨h_1765, e_1766, e⟩ := Option.bind_eq_some_iff.mp e
  refine Rn.hp hT rfl rfl (pV_hp (by decide) e_1766) ?_
  refine Rn.n hT 1 (pc' := 16) (L' := [some (.ref q0), some (.ref q1), none]) (st' := [.ref q0]) rfl ?_
  obtain ⟨v_1767, e_1768, e⟩ := Option.bind_eq_some_iff.mp e
  refine Rn.hp hT rfl rfl (gR_hp e_1768) ?_
  refine Rn.n hT 1 (pc' := 20) (L' := [some (.ref q0), some (.ref q1), none]) (st' := [.ref q1, .ref v_1767]) rfl ?_
  obtain ⟨v_1769, e_1770, e⟩ := Option.bind_eq_some_iff.mp e
  refine Rn.hp hT rfl rfl (gR_hp e_1770) ?_
  obtain ⟨_, e_1772, e⟩ := Option.bind_eq_some_iff.mp e
  obtain ⟨h_1774, e_1771, e⟩ := Option.bind_eq_some_iff.mp e
  refine Rn.call hT rfl rfl rfl (Nat.le_of_ble_eq_true rfl) (rcv_v gX1_copyFrom (by omega) e_1772) (rX1_copyFrom (by omega) e_1771 ?_)
  show Rn d _ _ 26 [some (.ref q0), some (.ref q1), none] [] h_1774 Q
  refine Rn.n hT 2 (pc' := 28) (L' := [some (.ref q0), some (.ref q1), some (.int (0 : Int32))]) (st' := []) rfl ?_
  refine Rn.weak (ll_s (ll_s (ll_s ll_e))) (rX4_layRooms_l28 hd (fun h_1775 e => ?_) hq N h_1774 (0 : Int32) e)
  try dsimp only at e
  refine Rn.n hT 2 (pc' := 63) (L' := [some (.ref q0), some (.ref q1), some (.int (0 : Int32))]) (st' := []) rfl ?_
  refine Rn.weak (ll_s (ll_s (ll_s ll_e))) (rX4_layRooms_l63 hd (fun h_1776 e => ?_) hq N h_1775 (0 : Int32) e)
  try dsimp only at e
  refine Rn.n hT 3 (pc' := 104) (L' := [some (.ref q0), some (.ref q1), none]) (st' := [.int (0 : Int32), .ref q1, .ref q0]) rfl ?_
  obtain ⟨_, e_1778, e⟩ := Option.bind_eq_some_iff.mp e
  obtain ⟨h_1780, e_1777, e⟩ := Option.bind_eq_some_iff.mp e
  refine Rn.call hT rfl rfl rfl (Nat.le_of_ble_eq_true rfl) (rcv_v gX4_layFrom (by omega) e_1778) (rX4_layFrom 20 (by omega) e_1777 ?_)
  show Rn d _ _ 107 [some (.ref q0), some (.ref q1), none] [] h_1780 Q
  refine Rn.n hT 1 (pc' := 108) (L' := [some (.ref q0), some (.ref q1), none]) (st' := [.ref q0]) rfl ?_
  obtain ⟨v_1781, e_1782, e⟩ := Option.bind_eq_some_iff.mp e
  refine Rn.hp hT rfl rfl (gI_hp e_1782) ?_
  by_cases c_1783 : v_1781 = 0
  · rw [if_pos c_1783] at e
    refine Rn.bt hT rfl rfl rfl (decide_eq_true c_1783) ?_
    refine Rn.n hT 1 (pc' := 120) (L' := [some (.ref q0), some (.ref q1), none]) (st' := [.ref q0]) rfl ?_
    obtain ⟨v_1784, e_1785, e⟩ := Option.bind_eq_some_iff.mp e
    refine Rn.hp hT rfl rfl (gI_hp e_1785) ?_
    exact Rn.weak (ll_n (ll_n (ll_n ll_e))) (rX4_layRooms_b123 hd hq e)
  · rw [if_neg c_1783] at e
    refine Rn.bf hT rfl rfl rfl (decide_eq_false c_1783) ?_
    refine Rn.n hT 2 (pc' := 123) (L' := [some (.ref q0), some (.ref q1), none]) (st' := [.int (-3 : Int32)]) rfl ?_
    exact Rn.weak (ll_n (ll_n (ll_n ll_e))) (rX4_layRooms_b123 hd hq e)
set_option maxRecDepth 10000 in
theorem hX4_layPeople : iv_Tb 72 tX4_layPeople := iv_tb_of (m := mX4_layPeople) rfl
set_option maxRecDepth 10000 in
theorem gX4_layPeople : PG.2 72 = some mX4_layPeople := iv_pi_of (t := tX4_layPeople) rfl (by decide)
def fX4_layPeople_b114 (N : Nat) (h : iv_H) (q0 : Nat) (q1 : Nat) (x2 : Int32) (x3 : Int32) (x4 : Int32) (x5 : Int32)  (kb : iv_H → Int32 → Option (Int32 × iv_H)) (kx : iv_H → Option (Int32 × iv_H)) : Option (Int32 × iv_H) := (kb h (x5 + (1 : Int32)))
set_option maxRecDepth 10000 in
set_option maxHeartbeats 4000000 in
theorem rX4_layPeople_b114 {d N : Nat} (hd : 1 ≤ d) {h : iv_H} {q0 : Nat} {q1 : Nat} {x2 : Int32} {x3 : Int32} {x4 : Int32} {x5 : Int32}  {kb : iv_H → Int32 → Option (Int32 × iv_H)} {kx : iv_H → Option (Int32 × iv_H)} {r : Int32 × iv_H} {Q : Option Value → iv_H → Prop} (hb : ∀ (h : iv_H) (w5 : Int32), kb h w5 = some r → Rn d 72 (some .int) 48 [some (.ref q0), some (.ref q1), some (.int x2), some (.int x3), some (.int x4), some (.int w5)] [] h Q) (hk : ∀ (h : iv_H), kx h = some r → Rn d 72 (some .int) 120 [some (.ref q0), some (.ref q1), some (.int x2), some (.int x3), some (.int x4), none] [] h Q) (hq : Q (some (.int r.1)) r.2) (e : fX4_layPeople_b114 N h q0 q1 x2 x3 x4 x5  kb kx = some r) : Rn d 72 (some .int) 114 [some (.ref q0), some (.ref q1), some (.int x2), some (.int x3), some (.int x4), some (.int x5)] [] h Q := by
  have hT := hX4_layPeople
  unfold fX4_layPeople_b114 at e
  refine Rn.n hT 2 (pc' := 48) (L' := [some (.ref q0), some (.ref q1), some (.int x2), some (.int x3), some (.int x4), some (.int (x5 + (1 : Int32)))]) (st' := []) rfl ?_
  exact Rn.weak (ll_s (ll_s (ll_s (ll_s (ll_s (ll_s ll_e)))))) (hb h (x5 + (1 : Int32)) e)
def fX4_layPeople_l48 (N : Nat) (q0 : Nat) (q1 : Nat) (x2 : Int32) (x3 : Int32) (x4 : Int32) (kx : iv_H → Option (Int32 × iv_H)) : Nat → iv_H → Int32 → Option (Int32 × iv_H)
  | 0, _, _ => none
  | n + 1, h, x5 => ((gI h 2 2 q1).bind fun v_1840 => (if v_1840 ≤ x5 then (kx h) else ((gR h 4 5 q0).bind fun v_1843 => ((aI h v_1843 x4).bind fun v_1845 => (if v_1845 ≤ 0 then (kx h) else (if ((x4 >>> (x5 &&& 31)) &&& (1 : Int32)) = 0 then ((gR h 4 4 q0).bind fun v_1849 => ((aI h v_1849 x5).bind fun v_1851 => (if ((v_1851 >>> (x3 &&& 31)) &&& (1 : Int32)) = (1 : Int32) then ((gR h 4 5 q0).bind fun v_1854 => ((aI h v_1854 (x4 ||| ((1 : Int32) <<< (x5 &&& 31)))).bind fun v_1856 => ((gR h 4 5 q0).bind fun v_1858 => ((aI h v_1858 x4).bind fun v_1860 => ((wI h v_1854 (x4 ||| ((1 : Int32) <<< (x5 &&& 31))) (v_1856 + v_1860)).bind fun h_1862 => (fX4_layPeople_b114 N h_1862 q0 q1 x2 x3 x4 x5 (fX4_layPeople_l48 N q0 q1 x2 x3 x4 kx n) kx)))))) else (fX4_layPeople_b114 N h q0 q1 x2 x3 x4 x5 (fX4_layPeople_l48 N q0 q1 x2 x3 x4 kx n) kx)))) else (fX4_layPeople_b114 N h q0 q1 x2 x3 x4 x5 (fX4_layPeople_l48 N q0 q1 x2 x3 x4 kx n) kx)))))))
set_option maxRecDepth 10000 in
set_option maxHeartbeats 4000000 in
theorem rX4_layPeople_l48 {d N : Nat} (hd : 1 ≤ d) {q0 : Nat} {q1 : Nat} {x2 : Int32} {x3 : Int32} {x4 : Int32} {kx : iv_H → Option (Int32 × iv_H)} {r : Int32 × iv_H} {Q : Option Value → iv_H → Prop} (hk : ∀ (h : iv_H), kx h = some r → Rn d 72 (some .int) 120 [some (.ref q0), some (.ref q1), some (.int x2), some (.int x3), some (.int x4), none] [] h Q) (hq : Q (some (.int r.1)) r.2) : ∀ (n : Nat) (h : iv_H) (x5 : Int32), fX4_layPeople_l48 N q0 q1 x2 x3 x4 kx n h x5 = some r → Rn d 72 (some .int) 48 [some (.ref q0), some (.ref q1), some (.int x2), some (.int x3), some (.int x4), some (.int x5)] [] h Q := by
  have hT := hX4_layPeople
  intro n
  induction n with
  | zero =>
    intro h x5 e
    rw [fX4_layPeople_l48] at e
    cases e
  | succ n ih =>
    intro h x5 e
    rw [fX4_layPeople_l48] at e
    refine Rn.n hT 2 (pc' := 51) (L' := [some (.ref q0), some (.ref q1), some (.int x2), some (.int x3), some (.int x4), some (.int x5)]) (st' := [.ref q1, .int x5]) rfl ?_
    obtain ⟨v_1840, e_1841, e⟩ := Option.bind_eq_some_iff.mp e
    refine Rn.hp hT rfl rfl (gI_hp e_1841) ?_
    by_cases c_1842 : v_1840 ≤ x5
    · rw [if_pos c_1842] at e
      refine Rn.bt hT rfl rfl rfl (decide_eq_true c_1842) ?_
      exact Rn.weak (ll_s (ll_s (ll_s (ll_s (ll_s (ll_n ll_e)))))) (hk h e)
    · rw [if_neg c_1842] at e
      refine Rn.bf hT rfl rfl rfl (decide_eq_false c_1842) ?_
      refine Rn.n hT 1 (pc' := 58) (L' := [some (.ref q0), some (.ref q1), some (.int x2), some (.int x3), some (.int x4), some (.int x5)]) (st' := [.ref q0]) rfl ?_
      obtain ⟨v_1843, e_1844, e⟩ := Option.bind_eq_some_iff.mp e
      refine Rn.hp hT rfl rfl (gR_hp e_1844) ?_
      refine Rn.n hT 1 (pc' := 63) (L' := [some (.ref q0), some (.ref q1), some (.int x2), some (.int x3), some (.int x4), some (.int x5)]) (st' := [.int x4, .ref v_1843]) rfl ?_
      obtain ⟨v_1845, e_1846, e⟩ := Option.bind_eq_some_iff.mp e
      refine Rn.hp hT rfl rfl (aI_hp e_1846) ?_
      by_cases c_1847 : v_1845 ≤ 0
      · rw [if_pos c_1847] at e
        refine Rn.bt hT rfl rfl rfl (decide_eq_true c_1847) ?_
        exact Rn.weak (ll_s (ll_s (ll_s (ll_s (ll_s (ll_n ll_e)))))) (hk h e)
      · rw [if_neg c_1847] at e
        refine Rn.bf hT rfl rfl rfl (decide_eq_false c_1847) ?_
        refine Rn.n hT 5 (pc' := 74) (L' := [some (.ref q0), some (.ref q1), some (.int x2), some (.int x3), some (.int x4), some (.int x5)]) (st' := [.int ((x4 >>> (x5 &&& 31)) &&& (1 : Int32))]) rfl ?_
        by_cases c_1848 : ((x4 >>> (x5 &&& 31)) &&& (1 : Int32)) = 0
        · rw [if_pos c_1848] at e
          refine Rn.bf hT rfl rfl rfl (decide_eq_false (fun z => z c_1848)) ?_
          refine Rn.n hT 1 (pc' := 78) (L' := [some (.ref q0), some (.ref q1), some (.int x2), some (.int x3), some (.int x4), some (.int x5)]) (st' := [.ref q0]) rfl ?_
          obtain ⟨v_1849, e_1850, e⟩ := Option.bind_eq_some_iff.mp e
          refine Rn.hp hT rfl rfl (gR_hp e_1850) ?_
          refine Rn.n hT 1 (pc' := 83) (L' := [some (.ref q0), some (.ref q1), some (.int x2), some (.int x3), some (.int x4), some (.int x5)]) (st' := [.int x5, .ref v_1849]) rfl ?_
          obtain ⟨v_1851, e_1852, e⟩ := Option.bind_eq_some_iff.mp e
          refine Rn.hp hT rfl rfl (aI_hp e_1852) ?_
          refine Rn.n hT 5 (pc' := 89) (L' := [some (.ref q0), some (.ref q1), some (.int x2), some (.int x3), some (.int x4), some (.int x5)]) (st' := [.int (1 : Int32), .int ((v_1851 >>> (x3 &&& 31)) &&& (1 : Int32))]) rfl ?_
          by_cases c_1853 : ((v_1851 >>> (x3 &&& 31)) &&& (1 : Int32)) = (1 : Int32)
          · rw [if_pos c_1853] at e
            refine Rn.bf hT rfl rfl rfl (decide_eq_false (fun z => z c_1853)) ?_
            refine Rn.n hT 1 (pc' := 93) (L' := [some (.ref q0), some (.ref q1), some (.int x2), some (.int x3), some (.int x4), some (.int x5)]) (st' := [.ref q0]) rfl ?_
            obtain ⟨v_1854, e_1855, e⟩ := Option.bind_eq_some_iff.mp e
            refine Rn.hp hT rfl rfl (gR_hp e_1855) ?_
            refine Rn.n hT 6 (pc' := 104) (L' := [some (.ref q0), some (.ref q1), some (.int x2), some (.int x3), some (.int x4), some (.int x5)]) (st' := [.int (x4 ||| ((1 : Int32) <<< (x5 &&& 31))), .ref v_1854, .int (x4 ||| ((1 : Int32) <<< (x5 &&& 31))), .ref v_1854]) rfl ?_
            obtain ⟨v_1856, e_1857, e⟩ := Option.bind_eq_some_iff.mp e
            refine Rn.hp hT rfl rfl (aI_hp e_1857) ?_
            refine Rn.n hT 1 (pc' := 106) (L' := [some (.ref q0), some (.ref q1), some (.int x2), some (.int x3), some (.int x4), some (.int x5)]) (st' := [.ref q0, .int v_1856, .int (x4 ||| ((1 : Int32) <<< (x5 &&& 31))), .ref v_1854]) rfl ?_
            obtain ⟨v_1858, e_1859, e⟩ := Option.bind_eq_some_iff.mp e
            refine Rn.hp hT rfl rfl (gR_hp e_1859) ?_
            refine Rn.n hT 1 (pc' := 111) (L' := [some (.ref q0), some (.ref q1), some (.int x2), some (.int x3), some (.int x4), some (.int x5)]) (st' := [.int x4, .ref v_1858, .int v_1856, .int (x4 ||| ((1 : Int32) <<< (x5 &&& 31))), .ref v_1854]) rfl ?_
            obtain ⟨v_1860, e_1861, e⟩ := Option.bind_eq_some_iff.mp e
            refine Rn.hp hT rfl rfl (aI_hp e_1861) ?_
            refine Rn.n hT 1 (pc' := 113) (L' := [some (.ref q0), some (.ref q1), some (.int x2), some (.int x3), some (.int x4), some (.int x5)]) (st' := [.int (v_1856 + v_1860), .int (x4 ||| ((1 : Int32) <<< (x5 &&& 31))), .ref v_1854]) rfl ?_
            obtain ⟨h_1862, e_1863, e⟩ := Option.bind_eq_some_iff.mp e
            refine Rn.hp hT rfl rfl (wI_hp e_1863) ?_
            exact Rn.weak (ll_s (ll_s (ll_s (ll_s (ll_s (ll_s ll_e)))))) (rX4_layPeople_b114 hd ih hk hq e)
          · rw [if_neg c_1853] at e
            refine Rn.bt hT rfl rfl rfl (decide_eq_true c_1853) ?_
            exact Rn.weak (ll_s (ll_s (ll_s (ll_s (ll_s (ll_s ll_e)))))) (rX4_layPeople_b114 hd ih hk hq e)
        · rw [if_neg c_1848] at e
          refine Rn.bt hT rfl rfl rfl (decide_eq_true c_1848) ?_
          exact Rn.weak (ll_s (ll_s (ll_s (ll_s (ll_s (ll_s ll_e)))))) (rX4_layPeople_b114 hd ih hk hq e)
def fX4_layPeople_b120 (N : Nat) (h : iv_H) (q0 : Nat) (q1 : Nat) (x2 : Int32) (x3 : Int32) (x4 : Int32)  (kb : iv_H → Int32 → Option (Int32 × iv_H)) (kx : iv_H → Option (Int32 × iv_H)) : Option (Int32 × iv_H) := (kb h (x4 + (-1 : Int32)))
set_option maxRecDepth 10000 in
set_option maxHeartbeats 4000000 in
theorem rX4_layPeople_b120 {d N : Nat} (hd : 1 ≤ d) {h : iv_H} {q0 : Nat} {q1 : Nat} {x2 : Int32} {x3 : Int32} {x4 : Int32}  {kb : iv_H → Int32 → Option (Int32 × iv_H)} {kx : iv_H → Option (Int32 × iv_H)} {r : Int32 × iv_H} {Q : Option Value → iv_H → Prop} (hb : ∀ (h : iv_H) (w4 : Int32), kb h w4 = some r → Rn d 72 (some .int) 40 [some (.ref q0), some (.ref q1), some (.int x2), some (.int x3), some (.int w4), none] [] h Q) (hk : ∀ (h : iv_H), kx h = some r → Rn d 72 (some .int) 126 [some (.ref q0), some (.ref q1), some (.int x2), some (.int x3), none, none] [] h Q) (hq : Q (some (.int r.1)) r.2) (e : fX4_layPeople_b120 N h q0 q1 x2 x3 x4  kb kx = some r) : Rn d 72 (some .int) 120 [some (.ref q0), some (.ref q1), some (.int x2), some (.int x3), some (.int x4), none] [] h Q := by
  have hT := hX4_layPeople
  unfold fX4_layPeople_b120 at e
  refine Rn.n hT 2 (pc' := 40) (L' := [some (.ref q0), some (.ref q1), some (.int x2), some (.int x3), some (.int (x4 + (-1 : Int32))), none]) (st' := []) rfl ?_
  exact Rn.weak (ll_s (ll_s (ll_s (ll_s (ll_s (ll_n ll_e)))))) (hb h (x4 + (-1 : Int32)) e)
def fX4_layPeople_l40 (N : Nat) (q0 : Nat) (q1 : Nat) (x2 : Int32) (x3 : Int32) (kx : iv_H → Option (Int32 × iv_H)) : Nat → iv_H → Int32 → Option (Int32 × iv_H)
  | 0, _, _ => none
  | n + 1, h, x4 => (if x4 < 0 then (kx h) else (fX4_layPeople_l48 N q0 q1 x2 x3 x4 (fun (h_1839 : iv_H) => (fX4_layPeople_b120 N h_1839 q0 q1 x2 x3 x4 (fX4_layPeople_l40 N q0 q1 x2 x3 kx n) kx)) N h (0 : Int32)))
set_option maxRecDepth 10000 in
set_option maxHeartbeats 4000000 in
theorem rX4_layPeople_l40 {d N : Nat} (hd : 1 ≤ d) {q0 : Nat} {q1 : Nat} {x2 : Int32} {x3 : Int32} {kx : iv_H → Option (Int32 × iv_H)} {r : Int32 × iv_H} {Q : Option Value → iv_H → Prop} (hk : ∀ (h : iv_H), kx h = some r → Rn d 72 (some .int) 126 [some (.ref q0), some (.ref q1), some (.int x2), some (.int x3), none, none] [] h Q) (hq : Q (some (.int r.1)) r.2) : ∀ (n : Nat) (h : iv_H) (x4 : Int32), fX4_layPeople_l40 N q0 q1 x2 x3 kx n h x4 = some r → Rn d 72 (some .int) 40 [some (.ref q0), some (.ref q1), some (.int x2), some (.int x3), some (.int x4), none] [] h Q := by
  have hT := hX4_layPeople
  intro n
  induction n with
  | zero =>
    intro h x4 e
    rw [fX4_layPeople_l40] at e
    cases e
  | succ n ih =>
    intro h x4 e
    rw [fX4_layPeople_l40] at e
    refine Rn.n hT 1 (pc' := 42) (L' := [some (.ref q0), some (.ref q1), some (.int x2), some (.int x3), some (.int x4), none]) (st' := [.int x4]) rfl ?_
    by_cases c_1838 : x4 < 0
    · rw [if_pos c_1838] at e
      refine Rn.bt hT rfl rfl rfl (decide_eq_true c_1838) ?_
      exact Rn.weak (ll_s (ll_s (ll_s (ll_s (ll_n (ll_n ll_e)))))) (hk h e)
    · rw [if_neg c_1838] at e
      refine Rn.bf hT rfl rfl rfl (decide_eq_false c_1838) ?_
      refine Rn.n hT 2 (pc' := 48) (L' := [some (.ref q0), some (.ref q1), some (.int x2), some (.int x3), some (.int x4), some (.int (0 : Int32))]) (st' := []) rfl ?_
      refine Rn.weak (ll_s (ll_s (ll_s (ll_s (ll_s (ll_s ll_e)))))) (rX4_layPeople_l48 hd (fun h_1839 e => ?_) hq N h (0 : Int32) e)
      try dsimp only at e
      exact Rn.weak (ll_s (ll_s (ll_s (ll_s (ll_s (ll_n ll_e)))))) (rX4_layPeople_b120 hd ih hk hq e)
def fX4_layPeople_l26 (N : Nat) (q0 : Nat) (q1 : Nat) (x2 : Int32) (kx : iv_H → Option (Int32 × iv_H)) : Nat → iv_H → Int32 → Option (Int32 × iv_H)
  | 0, _, _ => none
  | n + 1, h, x3 => ((gR h 2 9 q1).bind fun v_1832 => ((gI h 1 2 v_1832).bind fun v_1834 => (if v_1834 ≤ x3 then (kx h) else (fX4_layPeople_l40 N q0 q1 x2 x3 (fun (h_1837 : iv_H) => (fX4_layPeople_l26 N q0 q1 x2 kx n h_1837 (x3 + (1 : Int32)))) N h x2))))
set_option maxRecDepth 10000 in
set_option maxHeartbeats 4000000 in
theorem rX4_layPeople_l26 {d N : Nat} (hd : 1 ≤ d) {q0 : Nat} {q1 : Nat} {x2 : Int32} {kx : iv_H → Option (Int32 × iv_H)} {r : Int32 × iv_H} {Q : Option Value → iv_H → Prop} (hk : ∀ (h : iv_H), kx h = some r → Rn d 72 (some .int) 132 [some (.ref q0), none, some (.int x2), none, none, none] [] h Q) (hq : Q (some (.int r.1)) r.2) : ∀ (n : Nat) (h : iv_H) (x3 : Int32), fX4_layPeople_l26 N q0 q1 x2 kx n h x3 = some r → Rn d 72 (some .int) 26 [some (.ref q0), some (.ref q1), some (.int x2), some (.int x3), none, none] [] h Q := by
  have hT := hX4_layPeople
  intro n
  induction n with
  | zero =>
    intro h x3 e
    rw [fX4_layPeople_l26] at e
    cases e
  | succ n ih =>
    intro h x3 e
    rw [fX4_layPeople_l26] at e
    refine Rn.n hT 2 (pc' := 28) (L' := [some (.ref q0), some (.ref q1), some (.int x2), some (.int x3), none, none]) (st' := [.ref q1, .int x3]) rfl ?_
    obtain ⟨v_1832, e_1833, e⟩ := Option.bind_eq_some_iff.mp e
    refine Rn.hp hT rfl rfl (gR_hp e_1833) ?_
    obtain ⟨v_1834, e_1835, e⟩ := Option.bind_eq_some_iff.mp e
    refine Rn.hp hT rfl rfl (gI_hp e_1835) ?_
    by_cases c_1836 : v_1834 ≤ x3
    · rw [if_pos c_1836] at e
      refine Rn.bt hT rfl rfl rfl (decide_eq_true c_1836) ?_
      exact Rn.weak (ll_s (ll_n (ll_s (ll_n (ll_n (ll_n ll_e)))))) (hk h e)
    · rw [if_neg c_1836] at e
      refine Rn.bf hT rfl rfl rfl (decide_eq_false c_1836) ?_
      refine Rn.n hT 2 (pc' := 40) (L' := [some (.ref q0), some (.ref q1), some (.int x2), some (.int x3), some (.int x2), none]) (st' := []) rfl ?_
      refine Rn.weak (ll_s (ll_s (ll_s (ll_s (ll_s (ll_n ll_e)))))) (rX4_layPeople_l40 hd (fun h_1837 e => ?_) hq N h x2 e)
      try dsimp only at e
      refine Rn.n hT 2 (pc' := 26) (L' := [some (.ref q0), some (.ref q1), some (.int x2), some (.int (x3 + (1 : Int32))), none, none]) (st' := []) rfl ?_
      exact Rn.weak (ll_s (ll_s (ll_s (ll_s (ll_n (ll_n ll_e)))))) (ih h_1837 (x3 + (1 : Int32)) e)
def fX4_layPeople (N : Nat) (h : iv_H) (q0 : Nat) (q1 : Nat) : Option (Int32 × iv_H) := ((gR h 4 5 q0).bind fun v_1816 => ((fJ7_fill_53178 N h v_1816 (0 : Int32)).bind fun h_1820 => ((gR h_1820 4 5 q0).bind fun v_1821 => ((wI h_1820 v_1821 (0 : Int32) (1 : Int32)).bind fun h_1823 => ((gI h_1823 2 2 q1).bind fun v_1825 => (fX4_layPeople_l26 N q0 q1 (((1 : Int32) <<< (v_1825 &&& 31)) - (1 : Int32)) (fun (h_1827 : iv_H) => ((gR h_1827 4 5 q0).bind fun v_1828 => ((aI h_1827 v_1828 (((1 : Int32) <<< (v_1825 &&& 31)) - (1 : Int32))).bind fun v_1830 => (some (v_1830, h_1827))))) N h_1823 (0 : Int32)))))))
set_option maxRecDepth 10000 in
set_option maxHeartbeats 4000000 in
theorem rX4_layPeople {d N : Nat} (hd : 2 ≤ d) {h : iv_H} {q0 : Nat} {q1 : Nat} {r : Int32 × iv_H} {Q : Option Value → iv_H → Prop} (e : fX4_layPeople N h q0 q1 = some r) (hq : Q (some (.int r.1)) r.2) : Cl d 72 [.ref q0, .ref q1] h Q := by
  obtain ⟨d, rfl⟩ : ∃ k, d = k + 1 := ⟨d - 1, by omega⟩
  have hd : 1 ≤ d := by omega
  have hT := hX4_layPeople
  unfold fX4_layPeople at e
  refine Cl.into (by decide) gX4_layPeople rfl ?_
  show Rn d 72 (some .int) 0 [some (.ref q0), some (.ref q1), none, none, none, none] [] h Q
  refine Rn.n hT 1 (pc' := 1) (L' := [some (.ref q0), some (.ref q1), none, none, none, none]) (st' := [.ref q0]) rfl ?_
  obtain ⟨v_1816, e_1817, e⟩ := Option.bind_eq_some_iff.mp e
  refine Rn.hp hT rfl rfl (gR_hp e_1817) ?_
  refine Rn.n hT 1 (pc' := 5) (L' := [some (.ref q0), some (.ref q1), none, none, none, none]) (st' := [.int (0 : Int32), .ref v_1816]) rfl ?_
  obtain ⟨h_1820, e_1818, e⟩ := Option.bind_eq_some_iff.mp e
  refine Rn.call hT rfl rfl rfl (Nat.le_of_ble_eq_true rfl) rfl (rJ7_fill_53178 (by omega) e_1818 ?_)
  show Rn d _ _ 8 [some (.ref q0), some (.ref q1), none, none, none, none] [] h_1820 Q
  refine Rn.n hT 1 (pc' := 9) (L' := [some (.ref q0), some (.ref q1), none, none, none, none]) (st' := [.ref q0]) rfl ?_
  obtain ⟨v_1821, e_1822, e⟩ := Option.bind_eq_some_iff.mp e
  refine Rn.hp hT rfl rfl (gR_hp e_1822) ?_
  refine Rn.n hT 2 (pc' := 14) (L' := [some (.ref q0), some (.ref q1), none, none, none, none]) (st' := [.int (1 : Int32), .int (0 : Int32), .ref v_1821]) rfl ?_
  obtain ⟨h_1823, e_1824, e⟩ := Option.bind_eq_some_iff.mp e
  refine Rn.hp hT rfl rfl (wI_hp e_1824) ?_
  refine Rn.n hT 2 (pc' := 17) (L' := [some (.ref q0), some (.ref q1), none, none, none, none]) (st' := [.ref q1, .int (1 : Int32)]) rfl ?_
  obtain ⟨v_1825, e_1826, e⟩ := Option.bind_eq_some_iff.mp e
  refine Rn.hp hT rfl rfl (gI_hp e_1826) ?_
  refine Rn.n hT 6 (pc' := 26) (L' := [some (.ref q0), some (.ref q1), some (.int (((1 : Int32) <<< (v_1825 &&& 31)) - (1 : Int32))), some (.int (0 : Int32)), none, none]) (st' := []) rfl ?_
  refine Rn.weak (ll_s (ll_s (ll_s (ll_s (ll_n (ll_n ll_e)))))) (rX4_layPeople_l26 hd (fun h_1827 e => ?_) hq N h_1823 (0 : Int32) e)
  try dsimp only at e
  refine Rn.n hT 1 (pc' := 133) (L' := [some (.ref q0), none, some (.int (((1 : Int32) <<< (v_1825 &&& 31)) - (1 : Int32))), none, none, none]) (st' := [.ref q0]) rfl ?_
  obtain ⟨v_1828, e_1829, e⟩ := Option.bind_eq_some_iff.mp e
  refine Rn.hp hT rfl rfl (gR_hp e_1829) ?_
  refine Rn.n hT 1 (pc' := 137) (L' := [some (.ref q0), none, some (.int (((1 : Int32) <<< (v_1825 &&& 31)) - (1 : Int32))), none, none, none]) (st' := [.int (((1 : Int32) <<< (v_1825 &&& 31)) - (1 : Int32)), .ref v_1828]) rfl ?_
  obtain ⟨v_1830, e_1831, e⟩ := Option.bind_eq_some_iff.mp e
  refine Rn.hp hT rfl rfl (aI_hp e_1831) ?_
  obtain rfl := Option.some.inj e
  exact Rn.ret hT rfl rfl rfl hq
