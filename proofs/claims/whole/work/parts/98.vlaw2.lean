-- THE LAW: its cases (written by wip/whole/vlaw.py)
set_option maxRecDepth 100000 in
theorem lb_feed {N : Nat} (hN : 20000000 ≤ N) : lwB 232 := lw_case (p := 232) (k := 5) (a := 136) (b := 207) (x := 13) (y := 17) (zo := 1346) (by decide +kernel) (fun t Ls n Xs t0 t1 => cp_feed hN t0 t1)
set_option maxRecDepth 100000 in
theorem lb_end {N : Nat} (hN : 20000000 ≤ N) : lwB 295 := lw_case (p := 295) (k := 1) (a := 138) (b := 209) (x := 18) (y := 22) (zo := 1323) (by decide +kernel) (fun t Ls n Xs t0 t1 => cp_end hN t0 t1)
set_option maxRecDepth 100000 in
theorem lb_palace {N : Nat} (hN : 20000000 ≤ N) : lwB 318 := lw_case (p := 318) (k := 0) (a := 139) (b := 239) (x := 23) (y := 27) (zo := 1310) (by decide +kernel) (fun t Ls n Xs t0 t1 => cp_palace hN t0 t1)
set_option maxRecDepth 100000 in
theorem lb_rule {N : Nat} (hN : 20000000 ≤ N) : lwB 331 := lw_case (p := 331) (k := 0) (a := 140) (b := 241) (x := 28) (y := 31) (zo := 1297) (by decide +kernel) (fun t Ls n Xs t0 t1 => cp_rule hN t0 t1)
set_option maxRecDepth 100000 in
theorem lb_force {N : Nat} (hN : 20000000 ≤ N) : lwB 344 := lw_case (p := 344) (k := 1) (a := 141) (b := 242) (x := 32) (y := 35) (zo := 1274) (by decide +kernel) (fun t Ls n Xs t0 t1 => cp_force hN t0 t1)
set_option maxRecDepth 100000 in
theorem lb_law {N : Nat} (hN : 20000000 ≤ N) : lwB 367 := lw_case (p := 367) (k := 1) (a := 143) (b := 243) (x := 36) (y := 39) (zo := 1251) (by decide +kernel) (fun t Ls n Xs t0 t1 => cp_law hN t0 t1)
set_option maxRecDepth 100000 in
theorem lb_room {N : Nat} (hN : 20000000 ≤ N) : lwB 390 := lw_case (p := 390) (k := 2) (a := 144) (b := 267) (x := 40) (y := 44) (zo := 1218) (by decide +kernel) (fun t Ls n Xs t0 t1 => cp_room hN t0 t1)
set_option maxRecDepth 100000 in
theorem lb_at {N : Nat} (hN : 20000000 ≤ N) : lwB 423 := lw_case (p := 423) (k := 2) (a := 145) (b := 268) (x := 45) (y := 48) (zo := 1185) (by decide +kernel) (fun t Ls n Xs t0 t1 => cp_at hN t0 t1)
set_option maxRecDepth 100000 in
theorem lb_sleeps {N : Nat} (hN : 20000000 ≤ N) : lwB 456 := lw_case (p := 456) (k := 1) (a := 146) (b := 269) (x := 49) (y := 52) (zo := 1162) (by decide +kernel) (fun t Ls n Xs t0 t1 => cp_sleeps hN t0 t1)
set_option maxRecDepth 100000 in
theorem lb_mismatch {N : Nat} (hN : 20000000 ≤ N) : lwB 479 := lw_case (p := 479) (k := 1) (a := 147) (b := 270) (x := 53) (y := 56) (zo := 1139) (by decide +kernel) (fun t Ls n Xs t0 t1 => cp_mismatch hN t0 t1)
set_option maxRecDepth 100000 in
theorem lb_brick {N : Nat} (hN : 20000000 ≤ N) : lwB 502 := lw_case (p := 502) (k := 3) (a := 149) (b := 273) (x := 57) (y := 61) (zo := 1096) (by decide +kernel) (fun t Ls n Xs t0 t1 => cp_brick hN t0 t1)
set_option maxRecDepth 100000 in
theorem lb_lay {N : Nat} (hN : 20000000 ≤ N) : lwB 545 := lw_case (p := 545) (k := 2) (a := 150) (b := 274) (x := 62) (y := 65) (zo := 1063) (by decide +kernel) (fun t Ls n Xs t0 t1 => cp_lay hN t0 t1)
set_option maxRecDepth 100000 in
theorem lb_bed {N : Nat} (hN : 20000000 ≤ N) : lwB 578 := lw_case (p := 578) (k := 2) (a := 151) (b := 275) (x := 66) (y := 69) (zo := 1030) (by decide +kernel) (fun t Ls n Xs t0 t1 => cp_bed hN t0 t1)
theorem lb_fix {N : Nat} (hN : 20000000 ≤ N) : lwB 611 := lw_fix hN
set_option maxRecDepth 100000 in
theorem lb_walk {N : Nat} (hN : 20000000 ≤ N) : lwB 660 := lw_case (p := 660) (k := 3) (a := 153) (b := 283) (x := 75) (y := 78) (zo := 938) (by decide +kernel) (fun t Ls n Xs t0 t1 => cp_walk hN t0 t1)
set_option maxRecDepth 100000 in
theorem lb_rest {N : Nat} (hN : 20000000 ≤ N) : lwB 703 := lw_case (p := 703) (k := 0) (a := 154) (b := 284) (x := 79) (y := 82) (zo := 925) (by decide +kernel) (fun t Ls n Xs t0 t1 => cp_rest hN t0 t1)
set_option maxRecDepth 100000 in
theorem lb_undo {N : Nat} (hN : 20000000 ≤ N) : lwB 716 := lw_case (p := 716) (k := 0) (a := 156) (b := 285) (x := 83) (y := 86) (zo := 912) (by decide +kernel) (fun t Ls n Xs t0 t1 => cp_undo hN t0 t1)
set_option maxRecDepth 100000 in
theorem lb_can {N : Nat} (hN : 20000000 ≤ N) : lwB 729 := lw_case (p := 729) (k := 0) (a := 157) (b := 271) (x := 87) (y := 90) (zo := 899) (by decide +kernel) (fun t Ls n Xs t0 t1 => cp_can hN t0 t1)
set_option maxRecDepth 100000 in
theorem lb_choice {N : Nat} (hN : 20000000 ≤ N) : lwB 742 := lw_case (p := 742) (k := 2) (a := 159) (b := 272) (x := 91) (y := 94) (zo := 866) (by decide +kernel) (fun t Ls n Xs t0 t1 => cp_choice hN t0 t1)
set_option maxRecDepth 100000 in
theorem lb_draft {N : Nat} (hN : 20000000 ≤ N) : lwB 775 := lw_case (p := 775) (k := 1) (a := 161) (b := 287) (x := 95) (y := 98) (zo := 843) (by decide +kernel) (fun t Ls n Xs t0 t1 => cp_draft hN t0 t1)
set_option maxRecDepth 100000 in
theorem lb_redraw {N : Nat} (hN : 20000000 ≤ N) : lwB 798 := lw_case (p := 798) (k := 4) (a := 162) (b := 290) (x := 99) (y := 103) (zo := 790) (by decide +kernel) (fun t Ls n Xs t0 t1 => cp_redraw hN t0 t1)
set_option maxRecDepth 100000 in
theorem lb_drafted {N : Nat} (hN : 20000000 ≤ N) : lwB 851 := lw_case (p := 851) (k := 3) (a := 163) (b := 288) (x := 104) (y := 107) (zo := 747) (by decide +kernel) (fun t Ls n Xs t0 t1 => cp_drafted hN t0 t1)
set_option maxRecDepth 100000 in
theorem lb_nights {N : Nat} (hN : 20000000 ≤ N) : lwB 894 := lw_case (p := 894) (k := 1) (a := 164) (b := 298) (x := 108) (y := 111) (zo := 724) (by decide +kernel) (fun t Ls n Xs t0 t1 => cp_nights hN t0 t1)
set_option maxRecDepth 100000 in
theorem lb_row {N : Nat} (hN : 20000000 ≤ N) : lwB 917 := lw_case (p := 917) (k := 3) (a := 165) (b := 299) (x := 112) (y := 115) (zo := 681) (by decide +kernel) (fun t Ls n Xs t0 t1 => cp_row hN t0 t1)
set_option maxRecDepth 100000 in
theorem lb_marks {N : Nat} (hN : 20000000 ≤ N) : lwB 960 := lw_case (p := 960) (k := 1) (a := 166) (b := 302) (x := 116) (y := 119) (zo := 658) (by decide +kernel) (fun t Ls n Xs t0 t1 => cp_marks hN t0 t1)
set_option maxRecDepth 100000 in
theorem lb_floors {N : Nat} (hN : 20000000 ≤ N) : lwB 983 := lw_case (p := 983) (k := 0) (a := 167) (b := 306) (x := 120) (y := 123) (zo := 645) (by decide +kernel) (fun t Ls n Xs t0 t1 => cp_floors hN t0 t1)
set_option maxRecDepth 100000 in
theorem lb_steps {N : Nat} (hN : 20000000 ≤ N) : lwB 996 := lw_case (p := 996) (k := 2) (a := 168) (b := 311) (x := 124) (y := 127) (zo := 612) (by decide +kernel) (fun t Ls n Xs t0 t1 => cp_steps hN t0 t1)
set_option maxRecDepth 100000 in
theorem lb_reach {N : Nat} (hN : 20000000 ≤ N) : lwB 1029 := lw_case (p := 1029) (k := 2) (a := 169) (b := 312) (x := 128) (y := 131) (zo := 579) (by decide +kernel) (fun t Ls n Xs t0 t1 => cp_reach hN t0 t1)
set_option maxRecDepth 100000 in
theorem lb_gossip {N : Nat} (hN : 20000000 ≤ N) : lwB 1062 := lw_case (p := 1062) (k := 2) (a := 170) (b := 313) (x := 132) (y := 135) (zo := 546) (by decide +kernel) (fun t Ls n Xs t0 t1 => cp_gossip hN t0 t1)
set_option maxRecDepth 100000 in
theorem lb_almanac {N : Nat} (hN : 20000000 ≤ N) : lwB 1095 := lw_case (p := 1095) (k := 3) (a := 171) (b := 314) (x := 136) (y := 139) (zo := 503) (by decide +kernel) (fun t Ls n Xs t0 t1 => cp_almanac hN t0 t1)
set_option maxRecDepth 100000 in
theorem lb_would {N : Nat} (hN : 20000000 ≤ N) : lwB 1138 := lw_case (p := 1138) (k := 3) (a := 172) (b := 317) (x := 140) (y := 143) (zo := 460) (by decide +kernel) (fun t Ls n Xs t0 t1 => cp_would hN t0 t1)
set_option maxRecDepth 100000 in
theorem lb_follow {N : Nat} (hN : 20000000 ≤ N) : lwB 1181 := lw_case (p := 1181) (k := 0) (a := 173) (b := 318) (x := 144) (y := 147) (zo := 447) (by decide +kernel) (fun t Ls n Xs t0 t1 => cp_follow hN t0 t1)
set_option maxRecDepth 100000 in
theorem lb_wish {N : Nat} (hN : 20000000 ≤ N) : lwB 1194 := lw_case (p := 1194) (k := 4) (a := 174) (b := 319) (x := 148) (y := 152) (zo := 394) (by decide +kernel) (fun t Ls n Xs t0 t1 => cp_wish hN t0 t1)
set_option maxRecDepth 100000 in
theorem lb_beds {N : Nat} (hN : 20000000 ≤ N) : lwB 1247 := lw_case (p := 1247) (k := 1) (a := 175) (b := 324) (x := 153) (y := 156) (zo := 371) (by decide +kernel) (fun t Ls n Xs t0 t1 => cp_beds hN t0 t1)
set_option maxRecDepth 100000 in
theorem lb_almost {N : Nat} (hN : 20000000 ≤ N) : lwB 1270 := lw_case (p := 1270) (k := 2) (a := 176) (b := 325) (x := 157) (y := 160) (zo := 338) (by decide +kernel) (fun t Ls n Xs t0 t1 => cp_almost hN t0 t1)
set_option maxRecDepth 100000 in
theorem lb_guards {N : Nat} (hN : 20000000 ≤ N) : lwB 1303 := lw_case (p := 1303) (k := 1) (a := 177) (b := 326) (x := 161) (y := 164) (zo := 315) (by decide +kernel) (fun t Ls n Xs t0 t1 => cp_guards hN t0 t1)
set_option maxRecDepth 100000 in
theorem lb_drift {N : Nat} (hN : 20000000 ≤ N) : lwB 1326 := lw_case (p := 1326) (k := 1) (a := 178) (b := 328) (x := 165) (y := 168) (zo := 292) (by decide +kernel) (fun t Ls n Xs t0 t1 => cp_drift hN t0 t1)
set_option maxRecDepth 100000 in
theorem lb_woke {N : Nat} (hN : 20000000 ≤ N) : lwB 1349 := lw_case (p := 1349) (k := 3) (a := 179) (b := 329) (x := 169) (y := 172) (zo := 249) (by decide +kernel) (fun t Ls n Xs t0 t1 => cp_woke hN t0 t1)
set_option maxRecDepth 100000 in
theorem lb_how {N : Nat} (hN : 20000000 ≤ N) : lwB 1392 := lw_case (p := 1392) (k := 2) (a := 180) (b := 334) (x := 173) (y := 176) (zo := 216) (by decide +kernel) (fun t Ls n Xs t0 t1 => cp_how hN t0 t1)
set_option maxRecDepth 100000 in
theorem lb_built {N : Nat} (hN : 20000000 ≤ N) : lwB 1425 := lw_case (p := 1425) (k := 3) (a := 181) (b := 337) (x := 177) (y := 180) (zo := 173) (by decide +kernel) (fun t Ls n Xs t0 t1 => cp_built hN t0 t1)
set_option maxRecDepth 100000 in
theorem lb_best {N : Nat} (hN : 20000000 ≤ N) : lwB 1468 := lw_case (p := 1468) (k := 0) (a := 182) (b := 338) (x := 181) (y := 184) (zo := 160) (by decide +kernel) (fun t Ls n Xs t0 t1 => cp_best hN t0 t1)
set_option maxRecDepth 100000 in
theorem lb_seed {N : Nat} (hN : 20000000 ≤ N) : lwB 1481 := lw_case (p := 1481) (k := 1) (a := 183) (b := 339) (x := 185) (y := 188) (zo := 137) (by decide +kernel) (fun t Ls n Xs t0 t1 => cp_seed hN t0 t1)
set_option maxRecDepth 100000 in
theorem lb_drawn {N : Nat} (hN : 20000000 ≤ N) : lwB 1504 := lw_case (p := 1504) (k := 5) (a := 184) (b := 343) (x := 189) (y := 192) (zo := 74) (by decide +kernel) (fun t Ls n Xs t0 t1 => cp_drawn hN t0 t1)
set_option maxRecDepth 100000 in
theorem lb_count {N : Nat} (hN : 20000000 ≤ N) : lwB 1567 := lw_case (p := 1567) (k := 1) (a := 185) (b := 344) (x := 193) (y := 196) (zo := 51) (by decide +kernel) (fun t Ls n Xs t0 t1 => cp_count hN t0 t1)
set_option maxRecDepth 100000 in
theorem lb_image {N : Nat} (hN : 20000000 ≤ N) : lwB 1590 := lw_case (p := 1590) (k := 1) (a := 187) (b := 347) (x := 197) (y := 200) (zo := 28) (by decide +kernel) (fun t Ls n Xs t0 t1 => cp_image t0)
set_option maxRecDepth 100000 in
theorem lb_back {N : Nat} (hN : 20000000 ≤ N) : lwB 1613 := lw_case (p := 1613) (k := 1) (a := 188) (b := 348) (x := 201) (y := 204) (zo := 5) (by decide +kernel) (fun t Ls n Xs t0 t1 => cp_back hN t0 t1)
def lwSw : List (Int × Nat) := [(0, 232), (1, 295), (2, 318), (3, 331), (4, 344), (5, 367), (6, 390), (7, 423), (8, 456), (9, 479), (10, 502), (11, 545), (12, 578), (13, 611), (14, 660), (15, 703), (16, 716), (17, 729), (18, 742), (19, 775), (20, 798), (21, 851), (22, 894), (23, 917), (24, 960), (25, 983), (26, 996), (27, 1029), (28, 1062), (29, 1095), (30, 1138), (31, 1181), (32, 1194), (33, 1247), (34, 1270), (35, 1303), (36, 1326), (37, 1349), (38, 1392), (39, 1425), (40, 1468), (41, 1481), (42, 1504), (43, 1567), (44, 1590), (45, 1613)]
set_option maxRecDepth 100000 in
theorem lw_all {N : Nat} (hN : 20000000 ≤ N) : ∀ q ∈ lwSw, lwB q.2 := by
  unfold lwSw
  intro q hq
  rcases List.mem_cons.mp hq with rfl | hq
  · exact lb_feed hN
  rcases List.mem_cons.mp hq with rfl | hq
  · exact lb_end hN
  rcases List.mem_cons.mp hq with rfl | hq
  · exact lb_palace hN
  rcases List.mem_cons.mp hq with rfl | hq
  · exact lb_rule hN
  rcases List.mem_cons.mp hq with rfl | hq
  · exact lb_force hN
  rcases List.mem_cons.mp hq with rfl | hq
  · exact lb_law hN
  rcases List.mem_cons.mp hq with rfl | hq
  · exact lb_room hN
  rcases List.mem_cons.mp hq with rfl | hq
  · exact lb_at hN
  rcases List.mem_cons.mp hq with rfl | hq
  · exact lb_sleeps hN
  rcases List.mem_cons.mp hq with rfl | hq
  · exact lb_mismatch hN
  rcases List.mem_cons.mp hq with rfl | hq
  · exact lb_brick hN
  rcases List.mem_cons.mp hq with rfl | hq
  · exact lb_lay hN
  rcases List.mem_cons.mp hq with rfl | hq
  · exact lb_bed hN
  rcases List.mem_cons.mp hq with rfl | hq
  · exact lb_fix hN
  rcases List.mem_cons.mp hq with rfl | hq
  · exact lb_walk hN
  rcases List.mem_cons.mp hq with rfl | hq
  · exact lb_rest hN
  rcases List.mem_cons.mp hq with rfl | hq
  · exact lb_undo hN
  rcases List.mem_cons.mp hq with rfl | hq
  · exact lb_can hN
  rcases List.mem_cons.mp hq with rfl | hq
  · exact lb_choice hN
  rcases List.mem_cons.mp hq with rfl | hq
  · exact lb_draft hN
  rcases List.mem_cons.mp hq with rfl | hq
  · exact lb_redraw hN
  rcases List.mem_cons.mp hq with rfl | hq
  · exact lb_drafted hN
  rcases List.mem_cons.mp hq with rfl | hq
  · exact lb_nights hN
  rcases List.mem_cons.mp hq with rfl | hq
  · exact lb_row hN
  rcases List.mem_cons.mp hq with rfl | hq
  · exact lb_marks hN
  rcases List.mem_cons.mp hq with rfl | hq
  · exact lb_floors hN
  rcases List.mem_cons.mp hq with rfl | hq
  · exact lb_steps hN
  rcases List.mem_cons.mp hq with rfl | hq
  · exact lb_reach hN
  rcases List.mem_cons.mp hq with rfl | hq
  · exact lb_gossip hN
  rcases List.mem_cons.mp hq with rfl | hq
  · exact lb_almanac hN
  rcases List.mem_cons.mp hq with rfl | hq
  · exact lb_would hN
  rcases List.mem_cons.mp hq with rfl | hq
  · exact lb_follow hN
  rcases List.mem_cons.mp hq with rfl | hq
  · exact lb_wish hN
  rcases List.mem_cons.mp hq with rfl | hq
  · exact lb_beds hN
  rcases List.mem_cons.mp hq with rfl | hq
  · exact lb_almost hN
  rcases List.mem_cons.mp hq with rfl | hq
  · exact lb_guards hN
  rcases List.mem_cons.mp hq with rfl | hq
  · exact lb_drift hN
  rcases List.mem_cons.mp hq with rfl | hq
  · exact lb_woke hN
  rcases List.mem_cons.mp hq with rfl | hq
  · exact lb_how hN
  rcases List.mem_cons.mp hq with rfl | hq
  · exact lb_built hN
  rcases List.mem_cons.mp hq with rfl | hq
  · exact lb_best hN
  rcases List.mem_cons.mp hq with rfl | hq
  · exact lb_seed hN
  rcases List.mem_cons.mp hq with rfl | hq
  · exact lb_drawn hN
  rcases List.mem_cons.mp hq with rfl | hq
  · exact lb_count hN
  rcases List.mem_cons.mp hq with rfl | hq
  · exact lb_image hN
  rcases List.mem_cons.mp hq with rfl | hq
  · exact lb_back hN
  cases hq
