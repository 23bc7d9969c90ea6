-- MIRRORS, 3 (written by wip/whole/mir.py)
set_option maxRecDepth 10000 in
theorem hX4_firstBed : iv_Tb 73 tX4_firstBed := iv_tb_of (m := mX4_firstBed) rfl
set_option maxRecDepth 10000 in
theorem gX4_firstBed : PG.2 73 = some mX4_firstBed := iv_pi_of (t := tX4_firstBed) rfl (by decide)
def fX4_firstBed_b66 (N : Nat) (h : iv_H) (q0 : Nat) (q1 : Nat) (x2 : Int32) (x3 : Int32) (x4 : Int32) (x6 : Int32) (s0 : Int32) (kb : iv_H → Int32 → Int32 → Option (Int32 × iv_H)) (kx : iv_H → Int32 → Option (Int32 × iv_H)) : Option (Int32 × iv_H) := (kb h s0 (x6 + (1 : Int32)))
set_option maxRecDepth 10000 in
set_option maxHeartbeats 4000000 in
theorem rX4_firstBed_b66 {d N : Nat} (hd : 2 ≤ d) {h : iv_H} {q0 : Nat} {q1 : Nat} {x2 : Int32} {x3 : Int32} {x4 : Int32} {x6 : Int32} {s0 : Int32} {kb : iv_H → Int32 → Int32 → Option (Int32 × iv_H)} {kx : iv_H → Int32 → Option (Int32 × iv_H)} {r : Int32 × iv_H} {Q : Option Value → iv_H → Prop} (hb : ∀ (h : iv_H) (w5 : Int32) (w6 : Int32), kb h w5 w6 = some r → Rn d 73 (some .int) 21 [some (.ref q0), some (.ref q1), some (.int x2), some (.int x3), some (.int x4), some (.int w5), some (.int w6)] [] h Q) (hk : ∀ (h : iv_H) (w5 : Int32), kx h w5 = some r → Rn d 73 (some .int) 74 [some (.ref q0), some (.ref q1), some (.int x2), some (.int x3), none, some (.int w5), none] [] h Q) (hq : Q (some (.int r.1)) r.2) (e : fX4_firstBed_b66 N h q0 q1 x2 x3 x4 x6 s0 kb kx = some r) : Rn d 73 (some .int) 66 [some (.ref q0), some (.ref q1), some (.int x2), some (.int x3), some (.int x4), none, some (.int x6)] [.int s0] h Q := by
  have hT := hX4_firstBed
  unfold fX4_firstBed_b66 at e
  refine Rn.n hT 3 (pc' := 21) (L' := [some (.ref q0), some (.ref q1), some (.int x2), some (.int x3), some (.int x4), some (.int s0), some (.int (x6 + (1 : Int32)))]) (st' := []) rfl ?_
  exact Rn.weak (ll_s (ll_s (ll_s (ll_s (ll_s (ll_s (ll_s ll_e))))))) (hb h s0 (x6 + (1 : Int32)) e)
def fX4_firstBed_l21 (N : Nat) (q0 : Nat) (q1 : Nat) (x2 : Int32) (x3 : Int32) (x4 : Int32) (kx : iv_H → Int32 → Option (Int32 × iv_H)) : Nat → iv_H → Int32 → Int32 → Option (Int32 × iv_H)
  | 0, _, _, _ => none
  | n + 1, h, x5, x6 => ((gR h 2 9 q1).bind fun v_1872 => ((gI h 1 2 v_1872).bind fun v_1874 => (if v_1874 ≤ x6 then (kx h x5) else (if x5 = (-1 : Int32) then ((gR h 4 4 q0).bind fun v_1878 => ((wI h v_1878 x3 (x4 &&& ((1 : Int32) <<< (x6 &&& 31)))).bind fun h_1880 => ((cko h_1880 q0 4).bind fun _ => (fX4_layPeople N h_1880 q0 q1).bind fun p_1887 => (fun (v_1884 : Int32) (h_1885 : iv_H) => (if v_1884 ≤ 0 then (fX4_firstBed_b66 N h_1885 q0 q1 x2 x3 x4 x6 (-1 : Int32) (fX4_firstBed_l21 N q0 q1 x2 x3 x4 kx n) kx) else (fX4_firstBed_b66 N h_1885 q0 q1 x2 x3 x4 x6 x6 (fX4_firstBed_l21 N q0 q1 x2 x3 x4 kx n) kx))) p_1887.1 p_1887.2))) else (kx h x5)))))
set_option maxRecDepth 10000 in
set_option maxHeartbeats 4000000 in
theorem rX4_firstBed_l21 {d N : Nat} (hd : 2 ≤ d) {q0 : Nat} {q1 : Nat} {x2 : Int32} {x3 : Int32} {x4 : Int32} {kx : iv_H → Int32 → Option (Int32 × iv_H)} {r : Int32 × iv_H} {Q : Option Value → iv_H → Prop} (hk : ∀ (h : iv_H) (x5 : Int32), kx h x5 = some r → Rn d 73 (some .int) 74 [some (.ref q0), some (.ref q1), some (.int x2), some (.int x3), none, some (.int x5), none] [] h Q) (hq : Q (some (.int r.1)) r.2) : ∀ (n : Nat) (h : iv_H) (x5 : Int32) (x6 : Int32), fX4_firstBed_l21 N q0 q1 x2 x3 x4 kx n h x5 x6 = some r → Rn d 73 (some .int) 21 [some (.ref q0), some (.ref q1), some (.int x2), some (.int x3), some (.int x4), some (.int x5), some (.int x6)] [] h Q := by
  have hT := hX4_firstBed
  intro n
  induction n with
  | zero =>
    intro h x5 x6 e
    rw [fX4_firstBed_l21] at e
    cases e
  | succ n ih =>
    intro h x5 x6 e
    rw [fX4_firstBed_l21] at e
    refine Rn.n hT 2 (pc' := 24) (L' := [some (.ref q0), some (.ref q1), some (.int x2), some (.int x3), some (.int x4), some (.int x5), some (.int x6)]) (st' := [.ref q1, .int x6]) rfl ?_
    obtain ⟨v_1872, e_1873, e⟩ := Option.bind_eq_some_iff.mp e
    refine Rn.hp hT rfl rfl (gR_hp e_1873) ?_
    obtain ⟨v_1874, e_1875, e⟩ := Option.bind_eq_some_iff.mp e
    refine Rn.hp hT rfl rfl (gI_hp e_1875) ?_
    by_cases c_1876 : v_1874 ≤ x6
    · rw [if_pos c_1876] at e
      refine Rn.bt hT rfl rfl rfl (decide_eq_true c_1876) ?_
      exact Rn.weak (ll_s (ll_s (ll_s (ll_s (ll_n (ll_s (ll_n ll_e))))))) (hk h x5 e)
    · rw [if_neg c_1876] at e
      refine Rn.bf hT rfl rfl rfl (decide_eq_false c_1876) ?_
      refine Rn.n hT 2 (pc' := 36) (L' := [some (.ref q0), some (.ref q1), some (.int x2), some (.int x3), some (.int x4), some (.int x5), some (.int x6)]) (st' := [.int (-1 : Int32), .int x5]) rfl ?_
      by_cases c_1877 : x5 = (-1 : Int32)
      · rw [if_pos c_1877] at e
        refine Rn.bf hT rfl rfl rfl (decide_eq_false (fun z => z c_1877)) ?_
        refine Rn.n hT 1 (pc' := 40) (L' := [some (.ref q0), some (.ref q1), some (.int x2), some (.int x3), some (.int x4), some (.int x5), some (.int x6)]) (st' := [.ref q0]) rfl ?_
        obtain ⟨v_1878, e_1879, e⟩ := Option.bind_eq_some_iff.mp e
        refine Rn.hp hT rfl rfl (gR_hp e_1879) ?_
        refine Rn.n hT 6 (pc' := 51) (L' := [some (.ref q0), some (.ref q1), some (.int x2), some (.int x3), some (.int x4), some (.int x5), some (.int x6)]) (st' := [.int (x4 &&& ((1 : Int32) <<< (x6 &&& 31))), .int x3, .ref v_1878]) rfl ?_
        obtain ⟨h_1880, e_1881, e⟩ := Option.bind_eq_some_iff.mp e
        refine Rn.hp hT rfl rfl (wI_hp e_1881) ?_
        refine Rn.n hT 2 (pc' := 54) (L' := [some (.ref q0), some (.ref q1), some (.int x2), some (.int x3), some (.int x4), some (.int x5), some (.int x6)]) (st' := [.ref q1, .ref q0]) rfl ?_
        obtain ⟨_, e_1883, e⟩ := Option.bind_eq_some_iff.mp e
        obtain ⟨⟨v_1884, h_1885⟩, e_1882, e⟩ := Option.bind_eq_some_iff.mp e
        try dsimp only at e
        try dsimp only at e
        refine Rn.call hT rfl rfl rfl (Nat.le_of_ble_eq_true rfl) (rcv_v gX4_layPeople (by omega) e_1883) (rX4_layPeople (by omega) e_1882 ?_)
        show Rn d _ _ 57 [some (.ref q0), some (.ref q1), some (.int x2), some (.int x3), some (.int x4), some (.int x5), some (.int x6)] [.int v_1884] h_1885 Q
        by_cases c_1886 : v_1884 ≤ 0
        · rw [if_pos c_1886] at e
          refine Rn.bt hT rfl rfl rfl (decide_eq_true c_1886) ?_
          refine Rn.n hT 1 (pc' := 66) (L' := [some (.ref q0), some (.ref q1), some (.int x2), some (.int x3), some (.int x4), some (.int x5), some (.int x6)]) (st' := [.int (-1 : Int32)]) rfl ?_
          exact Rn.weak (ll_s (ll_s (ll_s (ll_s (ll_s (ll_n (ll_s ll_e))))))) (rX4_firstBed_b66 hd ih hk hq e)
        · rw [if_neg c_1886] at e
          refine Rn.bf hT rfl rfl rfl (decide_eq_false c_1886) ?_
          refine Rn.n hT 2 (pc' := 66) (L' := [some (.ref q0), some (.ref q1), some (.int x2), some (.int x3), some (.int x4), some (.int x5), some (.int x6)]) (st' := [.int x6]) rfl ?_
          exact Rn.weak (ll_s (ll_s (ll_s (ll_s (ll_s (ll_n (ll_s ll_e))))))) (rX4_firstBed_b66 hd ih hk hq e)
      · rw [if_neg c_1877] at e
        refine Rn.bt hT rfl rfl rfl (decide_eq_true c_1877) ?_
        exact Rn.weak (ll_s (ll_s (ll_s (ll_s (ll_n (ll_s (ll_n ll_e))))))) (hk h x5 e)
def fX4_firstBed_b74 (N : Nat) (h : iv_H) (q0 : Nat) (q1 : Nat) (x2 : Int32) (x3 : Int32) (x5 : Int32)  (kb : iv_H → Int32 → Option (Int32 × iv_H)) (kx : iv_H → Option (Int32 × iv_H)) : Option (Int32 × iv_H) := (if x5 = (-1 : Int32) then (some ((-2 : Int32), h)) else (if x3 = x2 then (some (x5, h)) else (kb h (x3 + (1 : Int32)))))
set_option maxRecDepth 10000 in
set_option maxHeartbeats 4000000 in
theorem rX4_firstBed_b74 {d N : Nat} (hd : 2 ≤ d) {h : iv_H} {q0 : Nat} {q1 : Nat} {x2 : Int32} {x3 : Int32} {x5 : Int32}  {kb : iv_H → Int32 → Option (Int32 × iv_H)} {kx : iv_H → Option (Int32 × iv_H)} {r : Int32 × iv_H} {Q : Option Value → iv_H → Prop} (hb : ∀ (h : iv_H) (w3 : Int32), kb h w3 = some r → Rn d 73 (some .int) 2 [some (.ref q0), some (.ref q1), some (.int x2), some (.int w3), none, none, none] [] h Q) (hk : ∀ (h : iv_H), kx h = some r → Rn d 73 (some .int) 97 [none, none, none, none, none, none, none] [] h Q) (hq : Q (some (.int r.1)) r.2) (e : fX4_firstBed_b74 N h q0 q1 x2 x3 x5  kb kx = some r) : Rn d 73 (some .int) 74 [some (.ref q0), some (.ref q1), some (.int x2), some (.int x3), none, some (.int x5), none] [] h Q := by
  have hT := hX4_firstBed
  unfold fX4_firstBed_b74 at e
  refine Rn.n hT 2 (pc' := 77) (L' := [some (.ref q0), some (.ref q1), some (.int x2), some (.int x3), none, some (.int x5), none]) (st' := [.int (-1 : Int32), .int x5]) rfl ?_
  by_cases c_1888 : x5 = (-1 : Int32)
  · rw [if_pos c_1888] at e
    refine Rn.bf hT rfl rfl rfl (decide_eq_false (fun z => z c_1888)) ?_
    refine Rn.n hT 1 (pc' := 82) (L' := [some (.ref q0), some (.ref q1), some (.int x2), some (.int x3), none, some (.int x5), none]) (st' := [.int (-2 : Int32)]) rfl ?_
    obtain rfl := Option.some.inj e
    exact Rn.ret hT rfl rfl rfl hq
  · rw [if_neg c_1888] at e
    refine Rn.bt hT rfl rfl rfl (decide_eq_true c_1888) ?_
    refine Rn.n hT 2 (pc' := 85) (L' := [some (.ref q0), some (.ref q1), some (.int x2), some (.int x3), none, some (.int x5), none]) (st' := [.int x2, .int x3]) rfl ?_
    by_cases c_1889 : x3 = x2
    · rw [if_pos c_1889] at e
      refine Rn.bf hT rfl rfl rfl (decide_eq_false (fun z => z c_1889)) ?_
      refine Rn.n hT 1 (pc' := 90) (L' := [some (.ref q0), some (.ref q1), some (.int x2), some (.int x3), none, some (.int x5), none]) (st' := [.int x5]) rfl ?_
      obtain rfl := Option.some.inj e
      exact Rn.ret hT rfl rfl rfl hq
    · rw [if_neg c_1889] at e
      refine Rn.bt hT rfl rfl rfl (decide_eq_true c_1889) ?_
      refine Rn.n hT 2 (pc' := 2) (L' := [some (.ref q0), some (.ref q1), some (.int x2), some (.int (x3 + (1 : Int32))), none, some (.int x5), none]) (st' := []) rfl ?_
      exact Rn.weak (ll_s (ll_s (ll_s (ll_s (ll_n (ll_n (ll_n ll_e))))))) (hb h (x3 + (1 : Int32)) e)
def fX4_firstBed_l2 (N : Nat) (q0 : Nat) (q1 : Nat) (x2 : Int32) (kx : iv_H → Option (Int32 × iv_H)) : Nat → iv_H → Int32 → Option (Int32 × iv_H)
  | 0, _, _ => none
  | n + 1, h, x3 => (if x2 < x3 then (kx h) else ((gR h 4 4 q0).bind fun v_1866 => ((aI h v_1866 x3).bind fun v_1868 => (fX4_firstBed_l21 N q0 q1 x2 x3 v_1868 (fun (h_1870 : iv_H) (z_1871 : Int32) => (fX4_firstBed_b74 N h_1870 q0 q1 x2 x3 z_1871 (fX4_firstBed_l2 N q0 q1 x2 kx n) kx)) N h (-1 : Int32) (0 : Int32)))))
set_option maxRecDepth 10000 in
set_option maxHeartbeats 4000000 in
theorem rX4_firstBed_l2 {d N : Nat} (hd : 2 ≤ d) {q0 : Nat} {q1 : Nat} {x2 : Int32} {kx : iv_H → Option (Int32 × iv_H)} {r : Int32 × iv_H} {Q : Option Value → iv_H → Prop} (hk : ∀ (h : iv_H), kx h = some r → Rn d 73 (some .int) 97 [none, none, none, none, none, none, none] [] h Q) (hq : Q (some (.int r.1)) r.2) : ∀ (n : Nat) (h : iv_H) (x3 : Int32), fX4_firstBed_l2 N q0 q1 x2 kx n h x3 = some r → Rn d 73 (some .int) 2 [some (.ref q0), some (.ref q1), some (.int x2), some (.int x3), none, none, none] [] h Q := by
  have hT := hX4_firstBed
  intro n
  induction n with
  | zero =>
    intro h x3 e
    rw [fX4_firstBed_l2] at e
    cases e
  | succ n ih =>
    intro h x3 e
    rw [fX4_firstBed_l2] at e
    refine Rn.n hT 2 (pc' := 4) (L' := [some (.ref q0), some (.ref q1), some (.int x2), some (.int x3), none, none, none]) (st' := [.int x2, .int x3]) rfl ?_
    by_cases c_1865 : x2 < x3
    · rw [if_pos c_1865] at e
      refine Rn.bt hT rfl rfl rfl (decide_eq_true c_1865) ?_
      exact Rn.weak (ll_n (ll_n (ll_n (ll_n (ll_n (ll_n (ll_n ll_e))))))) (hk h e)
    · rw [if_neg c_1865] at e
      refine Rn.bf hT rfl rfl rfl (decide_eq_false c_1865) ?_
      refine Rn.n hT 1 (pc' := 8) (L' := [some (.ref q0), some (.ref q1), some (.int x2), some (.int x3), none, none, none]) (st' := [.ref q0]) rfl ?_
      obtain ⟨v_1866, e_1867, e⟩ := Option.bind_eq_some_iff.mp e
      refine Rn.hp hT rfl rfl (gR_hp e_1867) ?_
      refine Rn.n hT 1 (pc' := 12) (L' := [some (.ref q0), some (.ref q1), some (.int x2), some (.int x3), none, none, none]) (st' := [.int x3, .ref v_1866]) rfl ?_
      obtain ⟨v_1868, e_1869, e⟩ := Option.bind_eq_some_iff.mp e
      refine Rn.hp hT rfl rfl (aI_hp e_1869) ?_
      refine Rn.n hT 5 (pc' := 21) (L' := [some (.ref q0), some (.ref q1), some (.int x2), some (.int x3), some (.int v_1868), some (.int (-1 : Int32)), some (.int (0 : Int32))]) (st' := []) rfl ?_
      refine Rn.weak (ll_s (ll_s (ll_s (ll_s (ll_s (ll_s (ll_s ll_e))))))) (rX4_firstBed_l21 hd (fun h_1870 z_1871 e => ?_) hq N h (-1 : Int32) (0 : Int32) e)
      try dsimp only at e
      exact Rn.weak (ll_s (ll_s (ll_s (ll_s (ll_n (ll_s (ll_n ll_e))))))) (rX4_firstBed_b74 hd ih hk hq e)
def fX4_firstBed (N : Nat) (h : iv_H) (q0 : Nat) (q1 : Nat) (x2 : Int32) : Option (Int32 × iv_H) := (fX4_firstBed_l2 N q0 q1 x2 (fun (h_1864 : iv_H) => (some ((-2 : Int32), h_1864))) N h (0 : Int32))
set_option maxRecDepth 10000 in
set_option maxHeartbeats 4000000 in
theorem rX4_firstBed {d N : Nat} (hd : 3 ≤ d) {h : iv_H} {q0 : Nat} {q1 : Nat} {x2 : Int32} {r : Int32 × iv_H} {Q : Option Value → iv_H → Prop} (e : fX4_firstBed N h q0 q1 x2 = some r) (hq : Q (some (.int r.1)) r.2) : Cl d 73 [.ref q0, .ref q1, .int x2] h Q := by
  obtain ⟨d, rfl⟩ : ∃ k, d = k + 1 := ⟨d - 1, by omega⟩
  have hd : 2 ≤ d := by omega
  have hT := hX4_firstBed
  unfold fX4_firstBed at e
  refine Cl.into (by decide) gX4_firstBed rfl ?_
  show Rn d 73 (some .int) 0 [some (.ref q0), some (.ref q1), some (.int x2), none, none, none, none] [] h Q
  refine Rn.n hT 2 (pc' := 2) (L' := [some (.ref q0), some (.ref q1), some (.int x2), some (.int (0 : Int32)), none, none, none]) (st' := []) rfl ?_
  refine Rn.weak (ll_s (ll_s (ll_s (ll_s (ll_n (ll_n (ll_n ll_e))))))) (rX4_firstBed_l2 hd (fun h_1864 e => ?_) hq N h (0 : Int32) e)
  try dsimp only at e
  refine Rn.n hT 1 (pc' := 99) (L' := [none, none, none, none, none, none, none]) (st' := [.int (-2 : Int32)]) rfl ?_
  obtain rfl := Option.some.inj e
  exact Rn.ret hT rfl rfl rfl hq
set_option maxRecDepth 10000 in
theorem hX6_init : iv_Tb 85 tX6_init := iv_tb_of (m := mX6_init) rfl
set_option maxRecDepth 10000 in
theorem gX6_init : PG.2 85 = some mX6_init := iv_pi_of (t := tX6_init) rfl (by decide)
def fX6_init (N : Nat) (h : iv_H) (q0 : Nat) : Option (iv_H) := ((nA h 2 (0 : Int32)).bind fun p_1894 => (fun (v_1893 : Nat) (h_1891 : iv_H) => ((pV h_1891 6 0 q0 (.ref v_1893)).bind fun h_1895 => ((pV h_1895 6 1 q0 (.int (0 : Int32))).bind fun h_1897 => ((pV h_1897 6 2 q0 (.int (0 : Int32))).bind fun h_1899 => ((pV h_1899 6 3 q0 (.int (0 : Int32))).bind fun h_1901 => ((pV h_1901 6 4 q0 (.int (0 : Int32))).bind fun h_1903 => some h_1903)))))) p_1894.1 p_1894.2)
set_option maxRecDepth 10000 in
set_option maxHeartbeats 4000000 in
theorem rX6_init {d N : Nat} (hd : 1 ≤ d) {h : iv_H} {q0 : Nat} {r : iv_H} {Q : Option Value → iv_H → Prop} (e : fX6_init N h q0 = some r) (hq : Q none r) : Cl d 85 [.ref q0] h Q := by
  obtain ⟨d, rfl⟩ : ∃ k, d = k + 1 := ⟨d - 1, by omega⟩
  have hd : 0 ≤ d := by omega
  have hT := hX6_init
  unfold fX6_init at e
  refine Cl.into (by decide) gX6_init rfl ?_
  show Rn d 85 none 0 [some (.ref q0)] [] h Q
  refine Rn.n hT 1 (pc' := 1) (L' := [some (.ref q0)]) (st' := [.ref q0]) rfl ?_
  refine Rn.hp hT rfl rfl (st' := []) (h1 := h) rfl ?_
  refine Rn.n hT 2 (pc' := 6) (L' := [some (.ref q0)]) (st' := [.int (0 : Int32), .ref q0]) rfl ?_
  obtain ⟨⟨v_1893, h_1891⟩, e_1892, e⟩ := Option.bind_eq_some_iff.mp e
  try dsimp only at e
  refine Rn.hp hT rfl rfl (nA_hp rfl e_1892) ?_
  obtain ⟨h_1895, e_1896, e⟩ := Option.bind_eq_some_iff.mp e
  refine Rn.hp hT rfl rfl (pV_hp rfl e_1896) ?_
  refine Rn.n hT 2 (pc' := 13) (L' := [some (.ref q0)]) (st' := [.int (0 : Int32), .ref q0]) rfl ?_
  obtain ⟨h_1897, e_1898, e⟩ := Option.bind_eq_some_iff.mp e
  refine Rn.hp hT rfl rfl (pV_hp rfl e_1898) ?_
  refine Rn.n hT 2 (pc' := 18) (L' := [some (.ref q0)]) (st' := [.int (0 : Int32), .ref q0]) rfl ?_
  obtain ⟨h_1899, e_1900, e⟩ := Option.bind_eq_some_iff.mp e
  refine Rn.hp hT rfl rfl (pV_hp rfl e_1900) ?_
  refine Rn.n hT 2 (pc' := 23) (L' := [some (.ref q0)]) (st' := [.int (0 : Int32), .ref q0]) rfl ?_
  obtain ⟨h_1901, e_1902, e⟩ := Option.bind_eq_some_iff.mp e
  refine Rn.hp hT rfl rfl (pV_hp rfl e_1902) ?_
  refine Rn.n hT 2 (pc' := 28) (L' := [some (.ref q0)]) (st' := [.int (0 : Int32), .ref q0]) rfl ?_
  obtain ⟨h_1903, e_1904, e⟩ := Option.bind_eq_some_iff.mp e
  refine Rn.hp hT rfl rfl (pV_hp rfl e_1904) ?_
  obtain rfl := Option.some.inj e
  exact Rn.ret hT rfl rfl rfl hq
set_option maxRecDepth 10000 in
theorem hX5_init : iv_Tb 74 tX5_init := iv_tb_of (m := mX5_init) rfl
set_option maxRecDepth 10000 in
theorem gX5_init : PG.2 74 = some mX5_init := iv_pi_of (t := tX5_init) rfl (by decide)
def fX5_init (N : Nat) (h : iv_H) (q0 : Nat) : Option (iv_H) := ((nO h 6).bind fun p_1909 => (fun (v_1908 : Nat) (h_1906 : iv_H) => ((fX6_init N h_1906 v_1908).bind fun h_1912 => ((pV h_1912 5 0 q0 (.ref v_1908)).bind fun h_1913 => ((pV h_1913 5 1 q0 (.int (0 : Int32))).bind fun h_1915 => some h_1915)))) p_1909.1 p_1909.2)
set_option maxRecDepth 10000 in
set_option maxHeartbeats 4000000 in
theorem rX5_init {d N : Nat} (hd : 2 ≤ d) {h : iv_H} {q0 : Nat} {r : iv_H} {Q : Option Value → iv_H → Prop} (e : fX5_init N h q0 = some r) (hq : Q none r) : Cl d 74 [.ref q0] h Q := by
  obtain ⟨d, rfl⟩ : ∃ k, d = k + 1 := ⟨d - 1, by omega⟩
  have hd : 1 ≤ d := by omega
  have hT := hX5_init
  unfold fX5_init at e
  refine Cl.into (by decide) gX5_init rfl ?_
  show Rn d 74 none 0 [some (.ref q0)] [] h Q
  refine Rn.n hT 1 (pc' := 1) (L' := [some (.ref q0)]) (st' := [.ref q0]) rfl ?_
  refine Rn.hp hT rfl rfl (st' := []) (h1 := h) rfl ?_
  refine Rn.n hT 1 (pc' := 5) (L' := [some (.ref q0)]) (st' := [.ref q0]) rfl ?_
  obtain ⟨⟨v_1908, h_1906⟩, e_1907, e⟩ := Option.bind_eq_some_iff.mp e
  try dsimp only at e
  refine Rn.hp hT rfl rfl (nO_hp e_1907) ?_
  refine Rn.n hT 1 (pc' := 9) (L' := [some (.ref q0)]) (st' := [.ref v_1908, .ref v_1908, .ref q0]) rfl ?_
  obtain ⟨h_1912, e_1910, e⟩ := Option.bind_eq_some_iff.mp e
  refine Rn.call hT rfl rfl rfl (Nat.le_of_ble_eq_true rfl) rfl (rX6_init (by omega) e_1910 ?_)
  show Rn d _ _ 12 [some (.ref q0)] [.ref v_1908, .ref q0] h_1912 Q
  obtain ⟨h_1913, e_1914, e⟩ := Option.bind_eq_some_iff.mp e
  refine Rn.hp hT rfl rfl (pV_hp rfl e_1914) ?_
  refine Rn.n hT 2 (pc' := 17) (L' := [some (.ref q0)]) (st' := [.int (0 : Int32), .ref q0]) rfl ?_
  obtain ⟨h_1915, e_1916, e⟩ := Option.bind_eq_some_iff.mp e
  refine Rn.hp hT rfl rfl (pV_hp (by decide) e_1916) ?_
  obtain rfl := Option.some.inj e
  exact Rn.ret hT rfl rfl rfl hq
set_option maxRecDepth 10000 in
theorem hX6_open : iv_Tb 86 tX6_open := iv_tb_of (m := mX6_open) rfl
set_option maxRecDepth 10000 in
theorem gX6_open : PG.2 86 = some mX6_open := iv_pi_of (t := tX6_open) rfl (by decide)
def fX6_open (N : Nat) (h : iv_H) (q0 : Nat) (q1 : Nat) (x2 : Int32) : Option (iv_H) := ((pV h 6 0 q0 (.ref q1)).bind fun h_1917 => ((aL h_1917 q1).bind fun v_1919 => ((pV h_1917 6 1 q0 (.int (iv_mn x2 v_1919))).bind fun h_1922 => ((pV h_1922 6 2 q0 (.int (0 : Int32))).bind fun h_1924 => ((pV h_1924 6 3 q0 (.int (0 : Int32))).bind fun h_1926 => ((pV h_1926 6 4 q0 (.int (0 : Int32))).bind fun h_1928 => some h_1928))))))
set_option maxRecDepth 10000 in
set_option maxHeartbeats 4000000 in
theorem rX6_open {d N : Nat} (hd : 1 ≤ d) {h : iv_H} {q0 : Nat} {q1 : Nat} {x2 : Int32} {r : iv_H} {Q : Option Value → iv_H → Prop} (e : fX6_open N h q0 q1 x2 = some r) (hq : Q none r) : Cl d 86 [.ref q0, .ref q1, .int x2] h Q := by
  obtain ⟨d, rfl⟩ : ∃ k, d = k + 1 := ⟨d - 1, by omega⟩
  have hd : 0 ≤ d := by omega
  have hT := hX6_open
  unfold fX6_open at e
  refine Cl.into (by decide) gX6_open rfl ?_
  show Rn d 86 none 0 [some (.ref q0), some (.ref q1), some (.int x2)] [] h Q
  refine Rn.n hT 2 (pc' := 2) (L' := [some (.ref q0), some (.ref q1), some (.int x2)]) (st' := [.ref q1, .ref q0]) rfl ?_
  obtain ⟨h_1917, e_1918, e⟩ := Option.bind_eq_some_iff.mp e
  refine Rn.hp hT rfl rfl (pV_hp rfl e_1918) ?_
  refine Rn.n hT 3 (pc' := 8) (L' := [some (.ref q0), some (.ref q1), some (.int x2)]) (st' := [.ref q1, .int x2, .ref q0]) rfl ?_
  obtain ⟨v_1919, e_1920, e⟩ := Option.bind_eq_some_iff.mp e
  refine Rn.hp hT rfl rfl (aL_hp e_1920) ?_
  refine Rn.hp hT rfl rfl (mn_hp (Nat.le_of_ble_eq_true rfl)) ?_
  obtain ⟨h_1922, e_1923, e⟩ := Option.bind_eq_some_iff.mp e
  refine Rn.hp hT rfl rfl (pV_hp rfl e_1923) ?_
  refine Rn.n hT 2 (pc' := 17) (L' := [some (.ref q0), some (.ref q1), some (.int x2)]) (st' := [.int (0 : Int32), .ref q0]) rfl ?_
  obtain ⟨h_1924, e_1925, e⟩ := Option.bind_eq_some_iff.mp e
  refine Rn.hp hT rfl rfl (pV_hp rfl e_1925) ?_
  refine Rn.n hT 2 (pc' := 22) (L' := [some (.ref q0), some (.ref q1), some (.int x2)]) (st' := [.int (0 : Int32), .ref q0]) rfl ?_
  obtain ⟨h_1926, e_1927, e⟩ := Option.bind_eq_some_iff.mp e
  refine Rn.hp hT rfl rfl (pV_hp rfl e_1927) ?_
  refine Rn.n hT 2 (pc' := 27) (L' := [some (.ref q0), some (.ref q1), some (.int x2)]) (st' := [.int (0 : Int32), .ref q0]) rfl ?_
  obtain ⟨h_1928, e_1929, e⟩ := Option.bind_eq_some_iff.mp e
  refine Rn.hp hT rfl rfl (pV_hp rfl e_1929) ?_
  obtain rfl := Option.some.inj e
  exact Rn.ret hT rfl rfl rfl hq
set_option maxRecDepth 10000 in
theorem hX6_here : iv_Tb 88 tX6_here := iv_tb_of (m := mX6_here) rfl
set_option maxRecDepth 10000 in
theorem gX6_here : PG.2 88 = some mX6_here := iv_pi_of (t := tX6_here) rfl (by decide)
def fX6_here_b28 (N : Nat) (h : iv_H)  (s0 : Int32) : Option (Int32) := (some s0)
set_option maxRecDepth 10000 in
set_option maxHeartbeats 4000000 in
theorem rX6_here_b28 {d N : Nat} (hd : 0 ≤ d) {h : iv_H}  {s0 : Int32} {r : Int32} {Q : Option Value → iv_H → Prop} (hq : Q (some (.int r)) h) (e : fX6_here_b28 N h  s0 = some r) : Rn d 88 (some .int) 28 [none] [.int s0] h Q := by
  have hT := hX6_here
  unfold fX6_here_b28 at e
  obtain rfl := Option.some.inj e
  exact Rn.ret hT rfl rfl rfl hq
def fX6_here (N : Nat) (h : iv_H) (q0 : Nat) : Option (Int32) := ((gI h 6 2 q0).bind fun v_1930 => ((gI h 6 1 q0).bind fun v_1932 => (if v_1932 ≤ v_1930 then (fX6_here_b28 N h (-1 : Int32)) else ((gR h 6 0 q0).bind fun v_1935 => ((gI h 6 2 q0).bind fun v_1937 => ((aB h v_1935 v_1937).bind fun v_1939 => (fX6_here_b28 N h (v_1939 &&& (255 : Int32)))))))))
set_option maxRecDepth 10000 in
set_option maxHeartbeats 4000000 in
theorem rX6_here {d N : Nat} (hd : 1 ≤ d) {h : iv_H} {q0 : Nat} {r : Int32} {Q : Option Value → iv_H → Prop} (e : fX6_here N h q0 = some r) (hq : Q (some (.int r)) h) : Cl d 88 [.ref q0] h Q := by
  obtain ⟨d, rfl⟩ : ∃ k, d = k + 1 := ⟨d - 1, by omega⟩
  have hd : 0 ≤ d := by omega
  have hT := hX6_here
  unfold fX6_here at e
  refine Cl.into (by decide) gX6_here rfl ?_
  show Rn d 88 (some .int) 0 [some (.ref q0)] [] h Q
  refine Rn.n hT 1 (pc' := 1) (L' := [some (.ref q0)]) (st' := [.ref q0]) rfl ?_
  obtain ⟨v_1930, e_1931, e⟩ := Option.bind_eq_some_iff.mp e
  refine Rn.hp hT rfl rfl (gI_hp e_1931) ?_
  refine Rn.n hT 1 (pc' := 5) (L' := [some (.ref q0)]) (st' := [.ref q0, .int v_1930]) rfl ?_
  obtain ⟨v_1932, e_1933, e⟩ := Option.bind_eq_some_iff.mp e
  refine Rn.hp hT rfl rfl (gI_hp e_1933) ?_
  by_cases c_1934 : v_1932 ≤ v_1930
  · rw [if_pos c_1934] at e
    refine Rn.bt hT rfl rfl rfl (decide_eq_true c_1934) ?_
    refine Rn.n hT 1 (pc' := 28) (L' := [some (.ref q0)]) (st' := [.int (-1 : Int32)]) rfl ?_
    exact Rn.weak (ll_n ll_e) (rX6_here_b28 hd hq e)
  · rw [if_neg c_1934] at e
    refine Rn.bf hT rfl rfl rfl (decide_eq_false c_1934) ?_
    refine Rn.n hT 1 (pc' := 12) (L' := [some (.ref q0)]) (st' := [.ref q0]) rfl ?_
    obtain ⟨v_1935, e_1936, e⟩ := Option.bind_eq_some_iff.mp e
    refine Rn.hp hT rfl rfl (gR_hp e_1936) ?_
    refine Rn.n hT 1 (pc' := 16) (L' := [some (.ref q0)]) (st' := [.ref q0, .ref v_1935]) rfl ?_
    obtain ⟨v_1937, e_1938, e⟩ := Option.bind_eq_some_iff.mp e
    refine Rn.hp hT rfl rfl (gI_hp e_1938) ?_
    obtain ⟨v_1939, e_1940, e⟩ := Option.bind_eq_some_iff.mp e
    refine Rn.hp hT rfl rfl (aB_hp e_1940) ?_
    refine Rn.n hT 3 (pc' := 28) (L' := [some (.ref q0)]) (st' := [.int (v_1939 &&& (255 : Int32))]) rfl ?_
    exact Rn.weak (ll_n ll_e) (rX6_here_b28 hd hq e)
set_option maxRecDepth 10000 in
theorem hX6_skipBlanks : iv_Tb 89 tX6_skipBlanks := iv_tb_of (m := mX6_skipBlanks) rfl
set_option maxRecDepth 10000 in
theorem gX6_skipBlanks : PG.2 89 = some mX6_skipBlanks := iv_pi_of (t := tX6_skipBlanks) rfl (by decide)
def fX6_skipBlanks_l0 (N : Nat) (q0 : Nat) (kx : iv_H → Option (Int32 × iv_H)) : Nat → iv_H → Option (Int32 × iv_H)
  | 0, _ => none
  | n + 1, h => ((gI h 6 2 q0).bind fun v_1942 => ((gI h 6 1 q0).bind fun v_1944 => (if v_1944 ≤ v_1942 then (kx h) else ((gR h 6 0 q0).bind fun v_1947 => ((gI h 6 2 q0).bind fun v_1949 => ((aB h v_1947 v_1949).bind fun v_1951 => (if v_1951 = (32 : Int32) then ((gI h 6 2 q0).bind fun v_1954 => ((pV h 6 2 q0 (.int (v_1954 + (1 : Int32)))).bind fun h_1956 => (fX6_skipBlanks_l0 N q0 kx n h_1956))) else (kx h))))))))
set_option maxRecDepth 10000 in
set_option maxHeartbeats 4000000 in
theorem rX6_skipBlanks_l0 {d N : Nat} (hd : 1 ≤ d) {q0 : Nat} {kx : iv_H → Option (Int32 × iv_H)} {r : Int32 × iv_H} {Q : Option Value → iv_H → Prop} (hk : ∀ (h : iv_H), kx h = some r → Rn d 89 (some .int) 38 [some (.ref q0)] [] h Q) (hq : Q (some (.int r.1)) r.2) : ∀ (n : Nat) (h : iv_H), fX6_skipBlanks_l0 N q0 kx n h = some r → Rn d 89 (some .int) 0 [some (.ref q0)] [] h Q := by
  have hT := hX6_skipBlanks
  intro n
  induction n with
  | zero =>
    intro h e
    rw [fX6_skipBlanks_l0] at e
    cases e
  | succ n ih =>
    intro h e
    rw [fX6_skipBlanks_l0] at e
    refine Rn.n hT 1 (pc' := 1) (L' := [some (.ref q0)]) (st' := [.ref q0]) rfl ?_
    obtain ⟨v_1942, e_1943, e⟩ := Option.bind_eq_some_iff.mp e
    refine Rn.hp hT rfl rfl (gI_hp e_1943) ?_
    refine Rn.n hT 1 (pc' := 5) (L' := [some (.ref q0)]) (st' := [.ref q0, .int v_1942]) rfl ?_
    obtain ⟨v_1944, e_1945, e⟩ := Option.bind_eq_some_iff.mp e
    refine Rn.hp hT rfl rfl (gI_hp e_1945) ?_
    by_cases c_1946 : v_1944 ≤ v_1942
    · rw [if_pos c_1946] at e
      refine Rn.bt hT rfl rfl rfl (decide_eq_true c_1946) ?_
      exact Rn.weak (ll_s ll_e) (hk h e)
    · rw [if_neg c_1946] at e
      refine Rn.bf hT rfl rfl rfl (decide_eq_false c_1946) ?_
      refine Rn.n hT 1 (pc' := 12) (L' := [some (.ref q0)]) (st' := [.ref q0]) rfl ?_
      obtain ⟨v_1947, e_1948, e⟩ := Option.bind_eq_some_iff.mp e
      refine Rn.hp hT rfl rfl (gR_hp e_1948) ?_
      refine Rn.n hT 1 (pc' := 16) (L' := [some (.ref q0)]) (st' := [.ref q0, .ref v_1947]) rfl ?_
      obtain ⟨v_1949, e_1950, e⟩ := Option.bind_eq_some_iff.mp e
      refine Rn.hp hT rfl rfl (gI_hp e_1950) ?_
      obtain ⟨v_1951, e_1952, e⟩ := Option.bind_eq_some_iff.mp e
      refine Rn.hp hT rfl rfl (aB_hp e_1952) ?_
      refine Rn.n hT 1 (pc' := 22) (L' := [some (.ref q0)]) (st' := [.int (32 : Int32), .int v_1951]) rfl ?_
      by_cases c_1953 : v_1951 = (32 : Int32)
      · rw [if_pos c_1953] at e
        refine Rn.bf hT rfl rfl rfl (decide_eq_false (fun z => z c_1953)) ?_
        refine Rn.n hT 2 (pc' := 27) (L' := [some (.ref q0)]) (st' := [.ref q0, .ref q0]) rfl ?_
        obtain ⟨v_1954, e_1955, e⟩ := Option.bind_eq_some_iff.mp e
        refine Rn.hp hT rfl rfl (gI_hp e_1955) ?_
        refine Rn.n hT 2 (pc' := 32) (L' := [some (.ref q0)]) (st' := [.int (v_1954 + (1 : Int32)), .ref q0]) rfl ?_
        obtain ⟨h_1956, e_1957, e⟩ := Option.bind_eq_some_iff.mp e
        refine Rn.hp hT rfl rfl (pV_hp rfl e_1957) ?_
        refine Rn.n hT 1 (pc' := 0) (L' := [some (.ref q0)]) (st' := []) rfl ?_
        exact Rn.weak (ll_s ll_e) (ih h_1956 e)
      · rw [if_neg c_1953] at e
        refine Rn.bt hT rfl rfl rfl (decide_eq_true c_1953) ?_
        exact Rn.weak (ll_s ll_e) (hk h e)
def fX6_skipBlanks_b38 (N : Nat) (h : iv_H) (q0 : Nat)  : Option (Int32 × iv_H) := ((cko h q0 6).bind fun _ => (fX6_here N h q0).bind fun v_1960 => (some (v_1960, h)))
set_option maxRecDepth 10000 in
set_option maxHeartbeats 4000000 in
theorem rX6_skipBlanks_b38 {d N : Nat} (hd : 1 ≤ d) {h : iv_H} {q0 : Nat}  {r : Int32 × iv_H} {Q : Option Value → iv_H → Prop} (hq : Q (some (.int r.1)) r.2) (e : fX6_skipBlanks_b38 N h q0  = some r) : Rn d 89 (some .int) 38 [some (.ref q0)] [] h Q := by
  have hT := hX6_skipBlanks
  unfold fX6_skipBlanks_b38 at e
  refine Rn.n hT 1 (pc' := 39) (L' := [some (.ref q0)]) (st' := [.ref q0]) rfl ?_
  obtain ⟨_, e_1959, e⟩ := Option.bind_eq_some_iff.mp e
  obtain ⟨v_1960, e_1958, e⟩ := Option.bind_eq_some_iff.mp e
  refine Rn.call hT rfl rfl rfl (Nat.le_of_ble_eq_true rfl) (rcv_v gX6_here (by omega) e_1959) (rX6_here (by omega) e_1958 ?_)
  show Rn d _ _ 42 [some (.ref q0)] [.int v_1960] h Q
  obtain rfl := Option.some.inj e
  exact Rn.ret hT rfl rfl rfl hq
def fX6_skipBlanks (N : Nat) (h : iv_H) (q0 : Nat) : Option (Int32 × iv_H) := (fX6_skipBlanks_l0 N q0 (fun (h_1941 : iv_H) => (fX6_skipBlanks_b38 N h_1941 q0)) N h)
set_option maxRecDepth 10000 in
set_option maxHeartbeats 4000000 in
theorem rX6_skipBlanks {d N : Nat} (hd : 2 ≤ d) {h : iv_H} {q0 : Nat} {r : Int32 × iv_H} {Q : Option Value → iv_H → Prop} (e : fX6_skipBlanks N h q0 = some r) (hq : Q (some (.int r.1)) r.2) : Cl d 89 [.ref q0] h Q := by
  obtain ⟨d, rfl⟩ : ∃ k, d = k + 1 := ⟨d - 1, by omega⟩
  have hd : 1 ≤ d := by omega
  have hT := hX6_skipBlanks
  unfold fX6_skipBlanks at e
  refine Cl.into (by decide) gX6_skipBlanks rfl ?_
  show Rn d 89 (some .int) 0 [some (.ref q0)] [] h Q
  refine Rn.weak (ll_s ll_e) (rX6_skipBlanks_l0 hd (fun h_1941 e => ?_) hq N h e)
  try dsimp only at e
  exact Rn.weak (ll_s ll_e) (rX6_skipBlanks_b38 hd hq e)
set_option maxRecDepth 10000 in
theorem hX6_isLetter : iv_Tb 94 tX6_isLetter := iv_tb_of (m := mX6_isLetter) rfl
set_option maxRecDepth 10000 in
theorem gX6_isLetter : PG.2 94 = some mX6_isLetter := iv_pi_of (t := tX6_isLetter) rfl (by decide)
def fX6_isLetter_b17 (N : Nat) (h : iv_H)  (s0 : Int32) : Option (Int32) := (if s0 = 0 ∨ s0 = 1 then some s0 else none)
set_option maxRecDepth 10000 in
set_option maxHeartbeats 4000000 in
theorem rX6_isLetter_b17 {d N : Nat} (hd : 0 ≤ d) {h : iv_H}  {s0 : Int32} {r : Int32} {Q : Option Value → iv_H → Prop} (hq : Q (some (.int r)) h) (e : fX6_isLetter_b17 N h  s0 = some r) : Rn d 94 (some .boolean) 17 [none] [.int s0] h Q := by
  have hT := hX6_isLetter
  unfold fX6_isLetter_b17 at e
  by_cases c_1963 : s0 = 0 ∨ s0 = 1
  · rw [if_pos c_1963] at e
    obtain rfl := Option.some.inj e
    exact Rn.ret hT rfl rfl (if_pos c_1963) hq
  · rw [if_neg c_1963] at e
    cases e
def fX6_isLetter_b16 (N : Nat) (h : iv_H)   : Option (Int32) := (fX6_isLetter_b17 N h (0 : Int32))
set_option maxRecDepth 10000 in
set_option maxHeartbeats 4000000 in
theorem rX6_isLetter_b16 {d N : Nat} (hd : 0 ≤ d) {h : iv_H}   {r : Int32} {Q : Option Value → iv_H → Prop} (hq : Q (some (.int r)) h) (e : fX6_isLetter_b16 N h   = some r) : Rn d 94 (some .boolean) 16 [none] [] h Q := by
  have hT := hX6_isLetter
  unfold fX6_isLetter_b16 at e
  refine Rn.n hT 1 (pc' := 17) (L' := [none]) (st' := [.int (0 : Int32)]) rfl ?_
  exact Rn.weak (ll_n ll_e) (rX6_isLetter_b17 hd hq e)
def fX6_isLetter (N : Nat) (h : iv_H) (x0 : Int32) : Option (Int32) := (if x0 < (97 : Int32) then (fX6_isLetter_b16 N h) else (if (122 : Int32) < x0 then (fX6_isLetter_b16 N h) else (fX6_isLetter_b17 N h (1 : Int32))))
set_option maxRecDepth 10000 in
set_option maxHeartbeats 4000000 in
theorem rX6_isLetter {d N : Nat} (hd : 1 ≤ d) {h : iv_H} {x0 : Int32} {r : Int32} {Q : Option Value → iv_H → Prop} (e : fX6_isLetter N h x0 = some r) (hq : Q (some (.int r)) h) : Cl d 94 [.int x0] h Q := by
  obtain ⟨d, rfl⟩ : ∃ k, d = k + 1 := ⟨d - 1, by omega⟩
  have hd : 0 ≤ d := by omega
  have hT := hX6_isLetter
  unfold fX6_isLetter at e
  refine Cl.into (by decide) gX6_isLetter rfl ?_
  show Rn d 94 (some .boolean) 0 [some (.int x0)] [] h Q
  refine Rn.n hT 2 (pc' := 3) (L' := [some (.int x0)]) (st' := [.int (97 : Int32), .int x0]) rfl ?_
  by_cases c_1961 : x0 < (97 : Int32)
  · rw [if_pos c_1961] at e
    refine Rn.bt hT rfl rfl rfl (decide_eq_true c_1961) ?_
    exact Rn.weak (ll_n ll_e) (rX6_isLetter_b16 hd hq e)
  · rw [if_neg c_1961] at e
    refine Rn.bf hT rfl rfl rfl (decide_eq_false c_1961) ?_
    refine Rn.n hT 2 (pc' := 9) (L' := [some (.int x0)]) (st' := [.int (122 : Int32), .int x0]) rfl ?_
    by_cases c_1962 : (122 : Int32) < x0
    · rw [if_pos c_1962] at e
      refine Rn.bt hT rfl rfl rfl (decide_eq_true c_1962) ?_
      exact Rn.weak (ll_n ll_e) (rX6_isLetter_b16 hd hq e)
    · rw [if_neg c_1962] at e
      refine Rn.bf hT rfl rfl rfl (decide_eq_false c_1962) ?_
      refine Rn.n hT 2 (pc' := 17) (L' := [some (.int x0)]) (st' := [.int (1 : Int32)]) rfl ?_
      exact Rn.weak (ll_n ll_e) (rX6_isLetter_b17 hd hq e)
set_option maxRecDepth 10000 in
theorem hX6_indexOfWord : iv_Tb 92 tX6_indexOfWord := iv_tb_of (m := mX6_indexOfWord) rfl
set_option maxRecDepth 10000 in
theorem gX6_indexOfWord : PG.2 92 = some mX6_indexOfWord := iv_pi_of (t := tX6_indexOfWord) rfl (by decide)
def fX6_indexOfWord_b100 (N : Nat) (h : iv_H) (q0 : Nat) (q1 : Nat) (x2 : Int32) (x3 : Int32) (x4 : Int32) (x5 : Int32)  (kb : Int32 → Int32 → Int32 → Int32 → Option (Int32)) (kx : Unit → Option (Int32)) : Option (Int32) := (kb x2 x3 x4 (x5 + (1 : Int32)))
set_option maxRecDepth 10000 in
set_option maxHeartbeats 4000000 in
theorem rX6_indexOfWord_b100 {d N : Nat} (hd : 10 ≤ d) {h : iv_H} {q0 : Nat} {q1 : Nat} {x2 : Int32} {x3 : Int32} {x4 : Int32} {x5 : Int32}  {kb : Int32 → Int32 → Int32 → Int32 → Option (Int32)} {kx : Unit → Option (Int32)} {r : Int32} {Q : Option Value → iv_H → Prop} (hb : ∀ (w2 : Int32) (w3 : Int32) (w4 : Int32) (w5 : Int32), kb w2 w3 w4 w5 = some r → Rn d 92 (some .int) 13 [some (.ref q0), some (.ref q1), some (.int w2), some (.int w3), some (.int w4), some (.int w5), none] [] h Q) (hk : ∀ (u : Unit), kx u = some r → Rn d 92 (some .int) 106 [none, none, none, none, none, none, none] [] h Q) (hq : Q (some (.int r)) h) (e : fX6_indexOfWord_b100 N h q0 q1 x2 x3 x4 x5  kb kx = some r) : Rn d 92 (some .int) 100 [some (.ref q0), some (.ref q1), some (.int x2), some (.int x3), some (.int x4), some (.int x5), none] [] h Q := by
  have hT := hX6_indexOfWord
  unfold fX6_indexOfWord_b100 at e
  refine Rn.n hT 2 (pc' := 13) (L' := [some (.ref q0), some (.ref q1), some (.int x2), some (.int x3), some (.int x4), some (.int (x5 + (1 : Int32))), none]) (st' := []) rfl ?_
  exact Rn.weak (ll_s (ll_s (ll_s (ll_s (ll_s (ll_s (ll_n ll_e))))))) (hb x2 x3 x4 (x5 + (1 : Int32)) e)
def fX6_indexOfWord_b66 (N : Nat) (h : iv_H) (q0 : Nat) (q1 : Nat) (x2 : Int32) (x3 : Int32) (x5 : Int32) (s0 : Int32) (kb : Int32 → Int32 → Int32 → Int32 → Option (Int32)) (kx : Unit → Option (Int32)) : Option (Int32) := (fX6_indexOfWord_b100 N h q0 q1 x2 (x3 + (1 : Int32)) s0 x5 kb kx)
set_option maxRecDepth 10000 in
set_option maxHeartbeats 4000000 in
theorem rX6_indexOfWord_b66 {d N : Nat} (hd : 10 ≤ d) {h : iv_H} {q0 : Nat} {q1 : Nat} {x2 : Int32} {x3 : Int32} {x5 : Int32} {s0 : Int32} {kb : Int32 → Int32 → Int32 → Int32 → Option (Int32)} {kx : Unit → Option (Int32)} {r : Int32} {Q : Option Value → iv_H → Prop} (hb : ∀ (w2 : Int32) (w3 : Int32) (w4 : Int32) (w5 : Int32), kb w2 w3 w4 w5 = some r → Rn d 92 (some .int) 13 [some (.ref q0), some (.ref q1), some (.int w2), some (.int w3), some (.int w4), some (.int w5), none] [] h Q) (hk : ∀ (u : Unit), kx u = some r → Rn d 92 (some .int) 106 [none, none, none, none, none, none, none] [] h Q) (hq : Q (some (.int r)) h) (e : fX6_indexOfWord_b66 N h q0 q1 x2 x3 x5 s0 kb kx = some r) : Rn d 92 (some .int) 66 [some (.ref q0), some (.ref q1), some (.int x2), some (.int x3), none, some (.int x5), none] [.int s0] h Q := by
  have hT := hX6_indexOfWord
  unfold fX6_indexOfWord_b66 at e
  refine Rn.n hT 3 (pc' := 100) (L' := [some (.ref q0), some (.ref q1), some (.int x2), some (.int (x3 + (1 : Int32))), some (.int s0), some (.int x5), none]) (st' := []) rfl ?_
  exact Rn.weak (ll_s (ll_s (ll_s (ll_s (ll_s (ll_s (ll_n ll_e))))))) (rX6_indexOfWord_b100 hd hb hk hq e)
def fX6_indexOfWord_b65 (N : Nat) (h : iv_H) (q0 : Nat) (q1 : Nat) (x2 : Int32) (x3 : Int32) (x5 : Int32)  (kb : Int32 → Int32 → Int32 → Int32 → Option (Int32)) (kx : Unit → Option (Int32)) : Option (Int32) := (fX6_indexOfWord_b66 N h q0 q1 x2 x3 x5 (0 : Int32) kb kx)
set_option maxRecDepth 10000 in
set_option maxHeartbeats 4000000 in
theorem rX6_indexOfWord_b65 {d N : Nat} (hd : 10 ≤ d) {h : iv_H} {q0 : Nat} {q1 : Nat} {x2 : Int32} {x3 : Int32} {x5 : Int32}  {kb : Int32 → Int32 → Int32 → Int32 → Option (Int32)} {kx : Unit → Option (Int32)} {r : Int32} {Q : Option Value → iv_H → Prop} (hb : ∀ (w2 : Int32) (w3 : Int32) (w4 : Int32) (w5 : Int32), kb w2 w3 w4 w5 = some r → Rn d 92 (some .int) 13 [some (.ref q0), some (.ref q1), some (.int w2), some (.int w3), some (.int w4), some (.int w5), none] [] h Q) (hk : ∀ (u : Unit), kx u = some r → Rn d 92 (some .int) 106 [none, none, none, none, none, none, none] [] h Q) (hq : Q (some (.int r)) h) (e : fX6_indexOfWord_b65 N h q0 q1 x2 x3 x5  kb kx = some r) : Rn d 92 (some .int) 65 [some (.ref q0), some (.ref q1), some (.int x2), some (.int x3), none, some (.int x5), none] [] h Q := by
  have hT := hX6_indexOfWord
  unfold fX6_indexOfWord_b65 at e
  refine Rn.n hT 1 (pc' := 66) (L' := [some (.ref q0), some (.ref q1), some (.int x2), some (.int x3), none, some (.int x5), none]) (st' := [.int (0 : Int32)]) rfl ?_
  exact Rn.weak (ll_s (ll_s (ll_s (ll_s (ll_n (ll_s (ll_n ll_e))))))) (rX6_indexOfWord_b66 hd hb hk hq e)
def fX6_indexOfWord_b89 (N : Nat) (h : iv_H) (q0 : Nat) (q1 : Nat) (x2 : Int32) (x5 : Int32)  (kb : Int32 → Int32 → Int32 → Int32 → Option (Int32)) (kx : Unit → Option (Int32)) : Option (Int32) := ((gI h 6 3 q0).bind fun v_1985 => (fX6_indexOfWord_b100 N h q0 q1 (x2 + (1 : Int32)) v_1985 (1 : Int32) x5 kb kx))
set_option maxRecDepth 10000 in
set_option maxHeartbeats 4000000 in
theorem rX6_indexOfWord_b89 {d N : Nat} (hd : 10 ≤ d) {h : iv_H} {q0 : Nat} {q1 : Nat} {x2 : Int32} {x5 : Int32}  {kb : Int32 → Int32 → Int32 → Int32 → Option (Int32)} {kx : Unit → Option (Int32)} {r : Int32} {Q : Option Value → iv_H → Prop} (hb : ∀ (w2 : Int32) (w3 : Int32) (w4 : Int32) (w5 : Int32), kb w2 w3 w4 w5 = some r → Rn d 92 (some .int) 13 [some (.ref q0), some (.ref q1), some (.int w2), some (.int w3), some (.int w4), some (.int w5), none] [] h Q) (hk : ∀ (u : Unit), kx u = some r → Rn d 92 (some .int) 106 [none, none, none, none, none, none, none] [] h Q) (hq : Q (some (.int r)) h) (e : fX6_indexOfWord_b89 N h q0 q1 x2 x5  kb kx = some r) : Rn d 92 (some .int) 89 [some (.ref q0), some (.ref q1), some (.int x2), none, none, some (.int x5), none] [] h Q := by
  have hT := hX6_indexOfWord
  unfold fX6_indexOfWord_b89 at e
  refine Rn.n hT 2 (pc' := 93) (L' := [some (.ref q0), some (.ref q1), some (.int (x2 + (1 : Int32))), none, none, some (.int x5), none]) (st' := [.ref q0]) rfl ?_
  obtain ⟨v_1985, e_1986, e⟩ := Option.bind_eq_some_iff.mp e
  refine Rn.hp hT rfl rfl (gI_hp e_1986) ?_
  refine Rn.n hT 3 (pc' := 100) (L' := [some (.ref q0), some (.ref q1), some (.int (x2 + (1 : Int32))), some (.int v_1985), some (.int (1 : Int32)), some (.int x5), none]) (st' := []) rfl ?_
  exact Rn.weak (ll_s (ll_s (ll_s (ll_s (ll_s (ll_s (ll_n ll_e))))))) (rX6_indexOfWord_b100 hd hb hk hq e)
def fX6_indexOfWord_l13 (N : Nat) (h : iv_H) (q0 : Nat) (q1 : Nat) (kx : Unit → Option (Int32)) : Nat → Int32 → Int32 → Int32 → Int32 → Option (Int32)
  | 0, _, _, _, _ => none
  | n + 1, x2, x3, x4, x5 => ((sL h q1).bind fun v_1967 => (if v_1967 ≤ x5 then (kx ()) else ((sA h q1 x5).bind fun v_1970 => (if v_1970 = (44 : Int32) then (if x4 = 0 then (fX6_indexOfWord_b89 N h q0 q1 x2 x5 (fX6_indexOfWord_l13 N h q0 q1 kx n) kx) else ((gI h 6 2 q0).bind fun v_1973 => (if x3 = v_1973 then (some x2) else (fX6_indexOfWord_b89 N h q0 q1 x2 x5 (fX6_indexOfWord_l13 N h q0 q1 kx n) kx)))) else (if x4 = 0 then (fX6_indexOfWord_b65 N h q0 q1 x2 x3 x5 (fX6_indexOfWord_l13 N h q0 q1 kx n) kx) else ((gI h 6 2 q0).bind fun v_1977 => (if v_1977 ≤ x3 then (fX6_indexOfWord_b65 N h q0 q1 x2 x3 x5 (fX6_indexOfWord_l13 N h q0 q1 kx n) kx) else ((gR h 6 0 q0).bind fun v_1980 => ((aB h v_1980 x3).bind fun v_1982 => (if v_1982 = v_1970 then (fX6_indexOfWord_b66 N h q0 q1 x2 x3 x5 (1 : Int32) (fX6_indexOfWord_l13 N h q0 q1 kx n) kx) else (fX6_indexOfWord_b65 N h q0 q1 x2 x3 x5 (fX6_indexOfWord_l13 N h q0 q1 kx n) kx)))))))))))
set_option maxRecDepth 10000 in
set_option maxHeartbeats 4000000 in
theorem rX6_indexOfWord_l13 {d N : Nat} (hd : 10 ≤ d) {h : iv_H} {q0 : Nat} {q1 : Nat} {kx : Unit → Option (Int32)} {r : Int32} {Q : Option Value → iv_H → Prop} (hk : ∀ (u : Unit), kx u = some r → Rn d 92 (some .int) 106 [none, none, none, none, none, none, none] [] h Q) (hq : Q (some (.int r)) h) : ∀ (n : Nat) (x2 : Int32) (x3 : Int32) (x4 : Int32) (x5 : Int32), fX6_indexOfWord_l13 N h q0 q1 kx n x2 x3 x4 x5 = some r → Rn d 92 (some .int) 13 [some (.ref q0), some (.ref q1), some (.int x2), some (.int x3), some (.int x4), some (.int x5), none] [] h Q := by
  have hT := hX6_indexOfWord
  intro n
  induction n with
  | zero =>
    intro x2 x3 x4 x5 e
    rw [fX6_indexOfWord_l13] at e
    cases e
  | succ n ih =>
    intro x2 x3 x4 x5 e
    rw [fX6_indexOfWord_l13] at e
    refine Rn.n hT 2 (pc' := 16) (L' := [some (.ref q0), some (.ref q1), some (.int x2), some (.int x3), some (.int x4), some (.int x5), none]) (st' := [.ref q1, .int x5]) rfl ?_
    obtain ⟨v_1967, e_1966, e⟩ := Option.bind_eq_some_iff.mp e
    refine Rn.call hT rfl rfl rfl (Nat.le_of_ble_eq_true rfl) rfl (sL_cl (by omega) e_1966 ?_)
    show Rn d _ _ 19 [some (.ref q0), some (.ref q1), some (.int x2), some (.int x3), some (.int x4), some (.int x5), none] [.int v_1967, .int x5] h Q
    by_cases c_1968 : v_1967 ≤ x5
    · rw [if_pos c_1968] at e
      refine Rn.bt hT rfl rfl rfl (decide_eq_true c_1968) ?_
      exact Rn.weak (ll_n (ll_n (ll_n (ll_n (ll_n (ll_n (ll_n ll_e))))))) (hk () e)
    · rw [if_neg c_1968] at e
      refine Rn.bf hT rfl rfl rfl (decide_eq_false c_1968) ?_
      refine Rn.n hT 2 (pc' := 25) (L' := [some (.ref q0), some (.ref q1), some (.int x2), some (.int x3), some (.int x4), some (.int x5), none]) (st' := [.int x5, .ref q1]) rfl ?_
      obtain ⟨v_1970, e_1969, e⟩ := Option.bind_eq_some_iff.mp e
      refine Rn.call hT rfl rfl rfl (Nat.le_of_ble_eq_true rfl) rfl (sA_cl (by omega) e_1969 ?_)
      show Rn d _ _ 28 [some (.ref q0), some (.ref q1), some (.int x2), some (.int x3), some (.int x4), some (.int x5), none] [.int v_1970] h Q
      refine Rn.n hT 3 (pc' := 34) (L' := [some (.ref q0), some (.ref q1), some (.int x2), some (.int x3), some (.int x4), some (.int x5), some (.int v_1970)]) (st' := [.int (44 : Int32), .int v_1970]) rfl ?_
      by_cases c_1971 : v_1970 = (44 : Int32)
      · rw [if_pos c_1971] at e
        refine Rn.bt hT rfl rfl rfl (decide_eq_true c_1971) ?_
        refine Rn.n hT 1 (pc' := 76) (L' := [some (.ref q0), some (.ref q1), some (.int x2), some (.int x3), some (.int x4), some (.int x5), some (.int v_1970)]) (st' := [.int x4]) rfl ?_
        by_cases c_1972 : x4 = 0
        · rw [if_pos c_1972] at e
          refine Rn.bt hT rfl rfl rfl (decide_eq_true c_1972) ?_
          exact Rn.weak (ll_s (ll_s (ll_s (ll_n (ll_n (ll_s (ll_n ll_e))))))) (rX6_indexOfWord_b89 hd ih hk hq e)
        · rw [if_neg c_1972] at e
          refine Rn.bf hT rfl rfl rfl (decide_eq_false c_1972) ?_
          refine Rn.n hT 2 (pc' := 81) (L' := [some (.ref q0), some (.ref q1), some (.int x2), some (.int x3), some (.int x4), some (.int x5), some (.int v_1970)]) (st' := [.ref q0, .int x3]) rfl ?_
          obtain ⟨v_1973, e_1974, e⟩ := Option.bind_eq_some_iff.mp e
          refine Rn.hp hT rfl rfl (gI_hp e_1974) ?_
          by_cases c_1975 : x3 = v_1973
          · rw [if_pos c_1975] at e
            refine Rn.bf hT rfl rfl rfl (decide_eq_false (fun z => z c_1975)) ?_
            refine Rn.n hT 1 (pc' := 88) (L' := [some (.ref q0), some (.ref q1), some (.int x2), some (.int x3), some (.int x4), some (.int x5), some (.int v_1970)]) (st' := [.int x2]) rfl ?_
            obtain rfl := Option.some.inj e
            exact Rn.ret hT rfl rfl rfl hq
          · rw [if_neg c_1975] at e
            refine Rn.bt hT rfl rfl rfl (decide_eq_true c_1975) ?_
            exact Rn.weak (ll_s (ll_s (ll_s (ll_n (ll_n (ll_s (ll_n ll_e))))))) (rX6_indexOfWord_b89 hd ih hk hq e)
      · rw [if_neg c_1971] at e
        refine Rn.bf hT rfl rfl rfl (decide_eq_false c_1971) ?_
        refine Rn.n hT 1 (pc' := 39) (L' := [some (.ref q0), some (.ref q1), some (.int x2), some (.int x3), some (.int x4), some (.int x5), some (.int v_1970)]) (st' := [.int x4]) rfl ?_
        by_cases c_1976 : x4 = 0
        · rw [if_pos c_1976] at e
          refine Rn.bt hT rfl rfl rfl (decide_eq_true c_1976) ?_
          exact Rn.weak (ll_s (ll_s (ll_s (ll_s (ll_n (ll_s (ll_n ll_e))))))) (rX6_indexOfWord_b65 hd ih hk hq e)
        · rw [if_neg c_1976] at e
          refine Rn.bf hT rfl rfl rfl (decide_eq_false c_1976) ?_
          refine Rn.n hT 2 (pc' := 44) (L' := [some (.ref q0), some (.ref q1), some (.int x2), some (.int x3), some (.int x4), some (.int x5), some (.int v_1970)]) (st' := [.ref q0, .int x3]) rfl ?_
          obtain ⟨v_1977, e_1978, e⟩ := Option.bind_eq_some_iff.mp e
          refine Rn.hp hT rfl rfl (gI_hp e_1978) ?_
          by_cases c_1979 : v_1977 ≤ x3
          · rw [if_pos c_1979] at e
            refine Rn.bt hT rfl rfl rfl (decide_eq_true c_1979) ?_
            exact Rn.weak (ll_s (ll_s (ll_s (ll_s (ll_n (ll_s (ll_n ll_e))))))) (rX6_indexOfWord_b65 hd ih hk hq e)
          · rw [if_neg c_1979] at e
            refine Rn.bf hT rfl rfl rfl (decide_eq_false c_1979) ?_
            refine Rn.n hT 1 (pc' := 51) (L' := [some (.ref q0), some (.ref q1), some (.int x2), some (.int x3), some (.int x4), some (.int x5), some (.int v_1970)]) (st' := [.ref q0]) rfl ?_
            obtain ⟨v_1980, e_1981, e⟩ := Option.bind_eq_some_iff.mp e
            refine Rn.hp hT rfl rfl (gR_hp e_1981) ?_
            refine Rn.n hT 1 (pc' := 55) (L' := [some (.ref q0), some (.ref q1), some (.int x2), some (.int x3), some (.int x4), some (.int x5), some (.int v_1970)]) (st' := [.int x3, .ref v_1980]) rfl ?_
            obtain ⟨v_1982, e_1983, e⟩ := Option.bind_eq_some_iff.mp e
            refine Rn.hp hT rfl rfl (aB_hp e_1983) ?_
            refine Rn.n hT 1 (pc' := 58) (L' := [some (.ref q0), some (.ref q1), some (.int x2), some (.int x3), some (.int x4), some (.int x5), some (.int v_1970)]) (st' := [.int v_1970, .int v_1982]) rfl ?_
            by_cases c_1984 : v_1982 = v_1970
            · rw [if_pos c_1984] at e
              refine Rn.bf hT rfl rfl rfl (decide_eq_false (fun z => z c_1984)) ?_
              refine Rn.n hT 2 (pc' := 66) (L' := [some (.ref q0), some (.ref q1), some (.int x2), some (.int x3), some (.int x4), some (.int x5), some (.int v_1970)]) (st' := [.int (1 : Int32)]) rfl ?_
              exact Rn.weak (ll_s (ll_s (ll_s (ll_s (ll_n (ll_s (ll_n ll_e))))))) (rX6_indexOfWord_b66 hd ih hk hq e)
            · rw [if_neg c_1984] at e
              refine Rn.bt hT rfl rfl rfl (decide_eq_true c_1984) ?_
              exact Rn.weak (ll_s (ll_s (ll_s (ll_s (ll_n (ll_s (ll_n ll_e))))))) (rX6_indexOfWord_b65 hd ih hk hq e)
def fX6_indexOfWord (N : Nat) (h : iv_H) (q0 : Nat) (q1 : Nat) : Option (Int32) := ((gI h 6 3 q0).bind fun v_1964 => (fX6_indexOfWord_l13 N h q0 q1 (fun (_ : Unit) => (some (-1 : Int32))) N (0 : Int32) v_1964 (1 : Int32) (0 : Int32)))
set_option maxRecDepth 10000 in
set_option maxHeartbeats 4000000 in
theorem rX6_indexOfWord {d N : Nat} (hd : 11 ≤ d) {h : iv_H} {q0 : Nat} {q1 : Nat} {r : Int32} {Q : Option Value → iv_H → Prop} (e : fX6_indexOfWord N h q0 q1 = some r) (hq : Q (some (.int r)) h) : Cl d 92 [.ref q0, .ref q1] h Q := by
  obtain ⟨d, rfl⟩ : ∃ k, d = k + 1 := ⟨d - 1, by omega⟩
  have hd : 10 ≤ d := by omega
  have hT := hX6_indexOfWord
  unfold fX6_indexOfWord at e
  refine Cl.into (by decide) gX6_indexOfWord rfl ?_
  show Rn d 92 (some .int) 0 [some (.ref q0), some (.ref q1), none, none, none, none, none] [] h Q
  refine Rn.n hT 3 (pc' := 3) (L' := [some (.ref q0), some (.ref q1), some (.int (0 : Int32)), none, none, none, none]) (st' := [.ref q0]) rfl ?_
  obtain ⟨v_1964, e_1965, e⟩ := Option.bind_eq_some_iff.mp e
  refine Rn.hp hT rfl rfl (gI_hp e_1965) ?_
  refine Rn.n hT 5 (pc' := 13) (L' := [some (.ref q0), some (.ref q1), some (.int (0 : Int32)), some (.int v_1964), some (.int (1 : Int32)), some (.int (0 : Int32)), none]) (st' := []) rfl ?_
  refine Rn.weak (ll_s (ll_s (ll_s (ll_s (ll_s (ll_s (ll_n ll_e))))))) (rX6_indexOfWord_l13 hd (fun _ e => ?_) hq N (0 : Int32) v_1964 (1 : Int32) (0 : Int32) e)
  try dsimp only at e
  refine Rn.n hT 1 (pc' := 107) (L' := [none, none, none, none, none, none, none]) (st' := [.int (-1 : Int32)]) rfl ?_
  obtain rfl := Option.some.inj e
  exact Rn.ret hT rfl rfl rfl hq
set_option maxRecDepth 10000 in
theorem hX6_fail : iv_Tb 87 tX6_fail := iv_tb_of (m := mX6_fail) rfl
set_option maxRecDepth 10000 in
theorem gX6_fail : PG.2 87 = some mX6_fail := iv_pi_of (t := tX6_fail) rfl (by decide)
def fX6_fail_b19 (N : Nat) (h : iv_H)   : Option (iv_H) := some h
set_option maxRecDepth 10000 in
set_option maxHeartbeats 4000000 in
theorem rX6_fail_b19 {d N : Nat} (hd : 0 ≤ d) {h : iv_H}   {r : iv_H} {Q : Option Value → iv_H → Prop} (hq : Q none r) (e : fX6_fail_b19 N h   = some r) : Rn d 87 none 19 [none, none, none] [] h Q := by
  have hT := hX6_fail
  unfold fX6_fail_b19 at e
  obtain rfl := Option.some.inj e
  exact Rn.ret hT rfl rfl rfl hq
def fX6_fail (N : Nat) (h : iv_H) (q0 : Nat) (x1 : Int32) (x2 : Int32) : Option (iv_H) := ((gI h 6 4 q0).bind fun v_1987 => (if v_1987 = 0 then ((pV h 6 4 q0 (.int (((1 : Int32) + ((8 : Int32) * x1)) + x2))).bind fun h_1990 => (fX6_fail_b19 N h_1990)) else (fX6_fail_b19 N h)))
set_option maxRecDepth 10000 in
set_option maxHeartbeats 4000000 in
theorem rX6_fail {d N : Nat} (hd : 1 ≤ d) {h : iv_H} {q0 : Nat} {x1 : Int32} {x2 : Int32} {r : iv_H} {Q : Option Value → iv_H → Prop} (e : fX6_fail N h q0 x1 x2 = some r) (hq : Q none r) : Cl d 87 [.ref q0, .int x1, .int x2] h Q := by
  obtain ⟨d, rfl⟩ : ∃ k, d = k + 1 := ⟨d - 1, by omega⟩
  have hd : 0 ≤ d := by omega
  have hT := hX6_fail
  unfold fX6_fail at e
  refine Cl.into (by decide) gX6_fail rfl ?_
  show Rn d 87 none 0 [some (.ref q0), some (.int x1), some (.int x2)] [] h Q
  refine Rn.n hT 1 (pc' := 1) (L' := [some (.ref q0), some (.int x1), some (.int x2)]) (st' := [.ref q0]) rfl ?_
  obtain ⟨v_1987, e_1988, e⟩ := Option.bind_eq_some_iff.mp e
  refine Rn.hp hT rfl rfl (gI_hp e_1988) ?_
  by_cases c_1989 : v_1987 = 0
  · rw [if_pos c_1989] at e
    refine Rn.bf hT rfl rfl rfl (decide_eq_false (fun z => z c_1989)) ?_
    refine Rn.n hT 8 (pc' := 16) (L' := [some (.ref q0), some (.int x1), some (.int x2)]) (st' := [.int (((1 : Int32) + ((8 : Int32) * x1)) + x2), .ref q0]) rfl ?_
    obtain ⟨h_1990, e_1991, e⟩ := Option.bind_eq_some_iff.mp e
    refine Rn.hp hT rfl rfl (pV_hp rfl e_1991) ?_
    exact Rn.weak (ll_n (ll_n (ll_n ll_e))) (rX6_fail_b19 hd hq e)
  · rw [if_neg c_1989] at e
    refine Rn.bt hT rfl rfl rfl (decide_eq_true c_1989) ?_
    exact Rn.weak (ll_n (ll_n (ll_n ll_e))) (rX6_fail_b19 hd hq e)
set_option maxRecDepth 10000 in
theorem hX6_readWord : iv_Tb 91 tX6_readWord := iv_tb_of (m := mX6_readWord) rfl
set_option maxRecDepth 10000 in
theorem gX6_readWord : PG.2 91 = some mX6_readWord := iv_pi_of (t := tX6_readWord) rfl (by decide)
def fX6_readWord_l13 (N : Nat) (q0 : Nat) (q1 : Nat) (kx : iv_H → Option (Int32 × iv_H)) : Nat → iv_H → Option (Int32 × iv_H)
  | 0, _ => none
  | n + 1, h => ((gI h 6 2 q0).bind fun v_2002 => ((gI h 6 1 q0).bind fun v_2004 => (if v_2004 ≤ v_2002 then (kx h) else ((gR h 6 0 q0).bind fun v_2007 => ((gI h 6 2 q0).bind fun v_2009 => ((aB h v_2007 v_2009).bind fun v_2011 => ((fX6_isLetter N h v_2011).bind fun v_2014 => (if v_2014 = 0 then (kx h) else ((gI h 6 2 q0).bind fun v_2016 => ((pV h 6 2 q0 (.int (v_2016 + (1 : Int32)))).bind fun h_2018 => (fX6_readWord_l13 N q0 q1 kx n h_2018)))))))))))
set_option maxRecDepth 10000 in
set_option maxHeartbeats 4000000 in
theorem rX6_readWord_l13 {d N : Nat} (hd : 11 ≤ d) {q0 : Nat} {q1 : Nat} {kx : iv_H → Option (Int32 × iv_H)} {r : Int32 × iv_H} {Q : Option Value → iv_H → Prop} (hk : ∀ (h : iv_H), kx h = some r → Rn d 91 (some .int) 52 [some (.ref q0), some (.ref q1), none] [] h Q) (hq : Q (some (.int r.1)) r.2) : ∀ (n : Nat) (h : iv_H), fX6_readWord_l13 N q0 q1 kx n h = some r → Rn d 91 (some .int) 13 [some (.ref q0), some (.ref q1), none] [] h Q := by
  have hT := hX6_readWord
  intro n
  induction n with
  | zero =>
    intro h e
    rw [fX6_readWord_l13] at e
    cases e
  | succ n ih =>
    intro h e
    rw [fX6_readWord_l13] at e
    refine Rn.n hT 1 (pc' := 14) (L' := [some (.ref q0), some (.ref q1), none]) (st' := [.ref q0]) rfl ?_
    obtain ⟨v_2002, e_2003, e⟩ := Option.bind_eq_some_iff.mp e
    refine Rn.hp hT rfl rfl (gI_hp e_2003) ?_
    refine Rn.n hT 1 (pc' := 18) (L' := [some (.ref q0), some (.ref q1), none]) (st' := [.ref q0, .int v_2002]) rfl ?_
    obtain ⟨v_2004, e_2005, e⟩ := Option.bind_eq_some_iff.mp e
    refine Rn.hp hT rfl rfl (gI_hp e_2005) ?_
    by_cases c_2006 : v_2004 ≤ v_2002
    · rw [if_pos c_2006] at e
      refine Rn.bt hT rfl rfl rfl (decide_eq_true c_2006) ?_
      exact Rn.weak (ll_s (ll_s (ll_n ll_e))) (hk h e)
    · rw [if_neg c_2006] at e
      refine Rn.bf hT rfl rfl rfl (decide_eq_false c_2006) ?_
      refine Rn.n hT 1 (pc' := 25) (L' := [some (.ref q0), some (.ref q1), none]) (st' := [.ref q0]) rfl ?_
      obtain ⟨v_2007, e_2008, e⟩ := Option.bind_eq_some_iff.mp e
      refine Rn.hp hT rfl rfl (gR_hp e_2008) ?_
      refine Rn.n hT 1 (pc' := 29) (L' := [some (.ref q0), some (.ref q1), none]) (st' := [.ref q0, .ref v_2007]) rfl ?_
      obtain ⟨v_2009, e_2010, e⟩ := Option.bind_eq_some_iff.mp e
      refine Rn.hp hT rfl rfl (gI_hp e_2010) ?_
      obtain ⟨v_2011, e_2012, e⟩ := Option.bind_eq_some_iff.mp e
      refine Rn.hp hT rfl rfl (aB_hp e_2012) ?_
      obtain ⟨v_2014, e_2013, e⟩ := Option.bind_eq_some_iff.mp e
      refine Rn.call hT rfl rfl rfl (Nat.le_of_ble_eq_true rfl) rfl (rX6_isLetter (by omega) e_2013 ?_)
      show Rn d _ _ 36 [some (.ref q0), some (.ref q1), none] [.int v_2014] h Q
      by_cases c_2015 : v_2014 = 0
      · rw [if_pos c_2015] at e
        refine Rn.bt hT rfl rfl rfl (decide_eq_true c_2015) ?_
        exact Rn.weak (ll_s (ll_s (ll_n ll_e))) (hk h e)
      · rw [if_neg c_2015] at e
        refine Rn.bf hT rfl rfl rfl (decide_eq_false c_2015) ?_
        refine Rn.n hT 2 (pc' := 41) (L' := [some (.ref q0), some (.ref q1), none]) (st' := [.ref q0, .ref q0]) rfl ?_
        obtain ⟨v_2016, e_2017, e⟩ := Option.bind_eq_some_iff.mp e
        refine Rn.hp hT rfl rfl (gI_hp e_2017) ?_
        refine Rn.n hT 2 (pc' := 46) (L' := [some (.ref q0), some (.ref q1), none]) (st' := [.int (v_2016 + (1 : Int32)), .ref q0]) rfl ?_
        obtain ⟨h_2018, e_2019, e⟩ := Option.bind_eq_some_iff.mp e
        refine Rn.hp hT rfl rfl (pV_hp rfl e_2019) ?_
        refine Rn.n hT 1 (pc' := 13) (L' := [some (.ref q0), some (.ref q1), none]) (st' := []) rfl ?_
        exact Rn.weak (ll_s (ll_s (ll_n ll_e))) (ih h_2018 e)
def fX6_readWord_b72 (N : Nat) (h : iv_H) (x2 : Int32)  : Option (Int32 × iv_H) := (some (x2, h))
set_option maxRecDepth 10000 in
set_option maxHeartbeats 4000000 in
theorem rX6_readWord_b72 {d N : Nat} (hd : 11 ≤ d) {h : iv_H} {x2 : Int32}  {r : Int32 × iv_H} {Q : Option Value → iv_H → Prop} (hq : Q (some (.int r.1)) r.2) (e : fX6_readWord_b72 N h x2  = some r) : Rn d 91 (some .int) 72 [none, none, some (.int x2)] [] h Q := by
  have hT := hX6_readWord
  unfold fX6_readWord_b72 at e
  refine Rn.n hT 1 (pc' := 73) (L' := [none, none, some (.int x2)]) (st' := [.int x2]) rfl ?_
  obtain rfl := Option.some.inj e
  exact Rn.ret hT rfl rfl rfl hq
def fX6_readWord_b52 (N : Nat) (h : iv_H) (q0 : Nat) (q1 : Nat)  : Option (Int32 × iv_H) := ((cko h q0 6).bind fun _ => (fX6_indexOfWord N h q0 q1).bind fun v_2022 => (if v_2022 = (-1 : Int32) then ((gI h 6 3 q0).bind fun v_2024 => ((cko h q0 6).bind fun _ => (fX6_fail N h q0 v_2024 (0 : Int32)).bind fun h_2029 => (fX6_readWord_b72 N h_2029 v_2022))) else (fX6_readWord_b72 N h v_2022)))
set_option maxRecDepth 10000 in
set_option maxHeartbeats 4000000 in
theorem rX6_readWord_b52 {d N : Nat} (hd : 11 ≤ d) {h : iv_H} {q0 : Nat} {q1 : Nat}  {r : Int32 × iv_H} {Q : Option Value → iv_H → Prop} (hq : Q (some (.int r.1)) r.2) (e : fX6_readWord_b52 N h q0 q1  = some r) : Rn d 91 (some .int) 52 [some (.ref q0), some (.ref q1), none] [] h Q := by
  have hT := hX6_readWord
  unfold fX6_readWord_b52 at e
  refine Rn.n hT 2 (pc' := 54) (L' := [some (.ref q0), some (.ref q1), none]) (st' := [.ref q1, .ref q0]) rfl ?_
  obtain ⟨_, e_2021, e⟩ := Option.bind_eq_some_iff.mp e
  obtain ⟨v_2022, e_2020, e⟩ := Option.bind_eq_some_iff.mp e
  refine Rn.call hT rfl rfl rfl (Nat.le_of_ble_eq_true rfl) (rcv_v gX6_indexOfWord (by omega) e_2021) (rX6_indexOfWord (by omega) e_2020 ?_)
  show Rn d _ _ 57 [some (.ref q0), some (.ref q1), none] [.int v_2022] h Q
  refine Rn.n hT 3 (pc' := 60) (L' := [some (.ref q0), some (.ref q1), some (.int v_2022)]) (st' := [.int (-1 : Int32), .int v_2022]) rfl ?_
  by_cases c_2023 : v_2022 = (-1 : Int32)
  · rw [if_pos c_2023] at e
    refine Rn.bf hT rfl rfl rfl (decide_eq_false (fun z => z c_2023)) ?_
    refine Rn.n hT 2 (pc' := 65) (L' := [some (.ref q0), some (.ref q1), some (.int v_2022)]) (st' := [.ref q0, .ref q0]) rfl ?_
    obtain ⟨v_2024, e_2025, e⟩ := Option.bind_eq_some_iff.mp e
    refine Rn.hp hT rfl rfl (gI_hp e_2025) ?_
    refine Rn.n hT 1 (pc' := 69) (L' := [some (.ref q0), some (.ref q1), some (.int v_2022)]) (st' := [.int (0 : Int32), .int v_2024, .ref q0]) rfl ?_
    obtain ⟨_, e_2027, e⟩ := Option.bind_eq_some_iff.mp e
    obtain ⟨h_2029, e_2026, e⟩ := Option.bind_eq_some_iff.mp e
    refine Rn.call hT rfl rfl rfl (Nat.le_of_ble_eq_true rfl) (rcv_v gX6_fail (by omega) e_2027) (rX6_fail (by omega) e_2026 ?_)
    show Rn d _ _ 72 [some (.ref q0), some (.ref q1), some (.int v_2022)] [] h_2029 Q
    exact Rn.weak (ll_n (ll_n (ll_s ll_e))) (rX6_readWord_b72 hd hq e)
  · rw [if_neg c_2023] at e
    refine Rn.bt hT rfl rfl rfl (decide_eq_true c_2023) ?_
    exact Rn.weak (ll_n (ll_n (ll_s ll_e))) (rX6_readWord_b72 hd hq e)
def fX6_readWord (N : Nat) (h : iv_H) (q0 : Nat) (q1 : Nat) : Option (Int32 × iv_H) := ((cko h q0 6).bind fun _ => (fX6_skipBlanks N h q0).bind fun p_2001 => (fun (v_1994 : Int32) (h_1995 : iv_H) => ((gI h_1995 6 2 q0).bind fun v_1996 => ((pV h_1995 6 3 q0 (.int v_1996)).bind fun h_1998 => (fX6_readWord_l13 N q0 q1 (fun (h_2000 : iv_H) => (fX6_readWord_b52 N h_2000 q0 q1)) N h_1998)))) p_2001.1 p_2001.2)
set_option maxRecDepth 10000 in
set_option maxHeartbeats 4000000 in
theorem rX6_readWord {d N : Nat} (hd : 12 ≤ d) {h : iv_H} {q0 : Nat} {q1 : Nat} {r : Int32 × iv_H} {Q : Option Value → iv_H → Prop} (e : fX6_readWord N h q0 q1 = some r) (hq : Q (some (.int r.1)) r.2) : Cl d 91 [.ref q0, .ref q1] h Q := by
  obtain ⟨d, rfl⟩ : ∃ k, d = k + 1 := ⟨d - 1, by omega⟩
  have hd : 11 ≤ d := by omega
  have hT := hX6_readWord
  unfold fX6_readWord at e
  refine Cl.into (by decide) gX6_readWord rfl ?_
  show Rn d 91 (some .int) 0 [some (.ref q0), some (.ref q1), none] [] h Q
  refine Rn.n hT 1 (pc' := 1) (L' := [some (.ref q0), some (.ref q1), none]) (st' := [.ref q0]) rfl ?_
  obtain ⟨_, e_1993, e⟩ := Option.bind_eq_some_iff.mp e
  obtain ⟨⟨v_1994, h_1995⟩, e_1992, e⟩ := Option.bind_eq_some_iff.mp e
  try dsimp only at e
  try dsimp only at e
  refine Rn.call hT rfl rfl rfl (Nat.le_of_ble_eq_true rfl) (rcv_v gX6_skipBlanks (by omega) e_1993) (rX6_skipBlanks (by omega) e_1992 ?_)
  show Rn d _ _ 4 [some (.ref q0), some (.ref q1), none] [.int v_1994] h_1995 Q
  refine Rn.n hT 3 (pc' := 7) (L' := [some (.ref q0), some (.ref q1), none]) (st' := [.ref q0, .ref q0]) rfl ?_
  obtain ⟨v_1996, e_1997, e⟩ := Option.bind_eq_some_iff.mp e
  refine Rn.hp hT rfl rfl (gI_hp e_1997) ?_
  obtain ⟨h_1998, e_1999, e⟩ := Option.bind_eq_some_iff.mp e
  refine Rn.hp hT rfl rfl (pV_hp rfl e_1999) ?_
  refine Rn.weak (ll_s (ll_s (ll_n ll_e))) (rX6_readWord_l13 hd (fun h_2000 e => ?_) hq N h_1998 e)
  try dsimp only at e
  exact Rn.weak (ll_s (ll_s (ll_n ll_e))) (rX6_readWord_b52 hd hq e)
set_option maxRecDepth 10000 in
theorem hX5_isTooMuch : iv_Tb 78 tX5_isTooMuch := iv_tb_of (m := mX5_isTooMuch) rfl
set_option maxRecDepth 10000 in
theorem gX5_isTooMuch : PG.2 78 = some mX5_isTooMuch := iv_pi_of (t := tX5_isTooMuch) rfl (by decide)
def fX5_isTooMuch_b27 (N : Nat) (h : iv_H)   : Option (Int32) := (some (1 : Int32))
set_option maxRecDepth 10000 in
set_option maxHeartbeats 4000000 in
theorem rX5_isTooMuch_b27 {d N : Nat} (hd : 0 ≤ d) {h : iv_H}   {r : Int32} {Q : Option Value → iv_H → Prop} (hq : Q (some (.int r)) h) (e : fX5_isTooMuch_b27 N h   = some r) : Rn d 78 (some .boolean) 27 [none, none, none, none] [] h Q := by
  have hT := hX5_isTooMuch
  unfold fX5_isTooMuch_b27 at e
  refine Rn.n hT 1 (pc' := 28) (L' := [none, none, none, none]) (st' := [.int (1 : Int32)]) rfl ?_
  obtain rfl := Option.some.inj e
  exact Rn.ret hT rfl rfl rfl hq
def fX5_isTooMuch_b51 (N : Nat) (h : iv_H)  (s0 : Int32) : Option (Int32) := (if s0 = 0 ∨ s0 = 1 then some s0 else none)
set_option maxRecDepth 10000 in
set_option maxHeartbeats 4000000 in
theorem rX5_isTooMuch_b51 {d N : Nat} (hd : 0 ≤ d) {h : iv_H}  {s0 : Int32} {r : Int32} {Q : Option Value → iv_H → Prop} (hq : Q (some (.int r)) h) (e : fX5_isTooMuch_b51 N h  s0 = some r) : Rn d 78 (some .boolean) 51 [none, none, none, none] [.int s0] h Q := by
  have hT := hX5_isTooMuch
  unfold fX5_isTooMuch_b51 at e
  by_cases c_2048 : s0 = 0 ∨ s0 = 1
  · rw [if_pos c_2048] at e
    obtain rfl := Option.some.inj e
    exact Rn.ret hT rfl rfl (if_pos c_2048) hq
  · rw [if_neg c_2048] at e
    cases e
def fX5_isTooMuch_b71 (N : Nat) (h : iv_H)  (s0 : Int32) : Option (Int32) := (if s0 = 0 ∨ s0 = 1 then some s0 else none)
set_option maxRecDepth 10000 in
set_option maxHeartbeats 4000000 in
theorem rX5_isTooMuch_b71 {d N : Nat} (hd : 0 ≤ d) {h : iv_H}  {s0 : Int32} {r : Int32} {Q : Option Value → iv_H → Prop} (hq : Q (some (.int r)) h) (e : fX5_isTooMuch_b71 N h  s0 = some r) : Rn d 78 (some .boolean) 71 [none, none, none, none] [.int s0] h Q := by
  have hT := hX5_isTooMuch
  unfold fX5_isTooMuch_b71 at e
  by_cases c_2049 : s0 = 0 ∨ s0 = 1
  · rw [if_pos c_2049] at e
    obtain rfl := Option.some.inj e
    exact Rn.ret hT rfl rfl (if_pos c_2049) hq
  · rw [if_neg c_2049] at e
    cases e
def fX5_isTooMuch_b89 (N : Nat) (h : iv_H)  (s0 : Int32) : Option (Int32) := (if s0 = 0 ∨ s0 = 1 then some s0 else none)
set_option maxRecDepth 10000 in
set_option maxHeartbeats 4000000 in
theorem rX5_isTooMuch_b89 {d N : Nat} (hd : 0 ≤ d) {h : iv_H}  {s0 : Int32} {r : Int32} {Q : Option Value → iv_H → Prop} (hq : Q (some (.int r)) h) (e : fX5_isTooMuch_b89 N h  s0 = some r) : Rn d 78 (some .boolean) 89 [none, none, none, none] [.int s0] h Q := by
  have hT := hX5_isTooMuch
  unfold fX5_isTooMuch_b89 at e
  by_cases c_2050 : s0 = 0 ∨ s0 = 1
  · rw [if_pos c_2050] at e
    obtain rfl := Option.some.inj e
    exact Rn.ret hT rfl rfl (if_pos c_2050) hq
  · rw [if_neg c_2050] at e
    cases e
def fX5_isTooMuch_b88 (N : Nat) (h : iv_H)   : Option (Int32) := (fX5_isTooMuch_b89 N h (0 : Int32))
set_option maxRecDepth 10000 in
set_option maxHeartbeats 4000000 in
theorem rX5_isTooMuch_b88 {d N : Nat} (hd : 0 ≤ d) {h : iv_H}   {r : Int32} {Q : Option Value → iv_H → Prop} (hq : Q (some (.int r)) h) (e : fX5_isTooMuch_b88 N h   = some r) : Rn d 78 (some .boolean) 88 [none, none, none, none] [] h Q := by
  have hT := hX5_isTooMuch
  unfold fX5_isTooMuch_b88 at e
  refine Rn.n hT 1 (pc' := 89) (L' := [none, none, none, none]) (st' := [.int (0 : Int32)]) rfl ?_
  exact Rn.weak (ll_n (ll_n (ll_n (ll_n ll_e)))) (rX5_isTooMuch_b89 hd hq e)
def fX5_isTooMuch_b24 (N : Nat) (h : iv_H) (q0 : Nat) (q1 : Nat) (x3 : Int32) (s0 : Int32) (s1 : Int32) : Option (Int32) := (if s1 = s0 then (if x3 = (1 : Int32) then ((gR h 2 9 q1).bind fun v_2043 => ((gI h 1 2 v_2043).bind fun v_2045 => (if v_2045 < (12 : Int32) then (fX5_isTooMuch_b51 N h (0 : Int32)) else (fX5_isTooMuch_b51 N h (1 : Int32))))) else (if x3 = (4 : Int32) then ((gI h 2 2 q1).bind fun v_2040 => (if v_2040 < (6 : Int32) then (fX5_isTooMuch_b71 N h (0 : Int32)) else (fX5_isTooMuch_b71 N h (1 : Int32)))) else (if x3 = (5 : Int32) then ((gI h 5 1 q0).bind fun v_2037 => (if v_2037 = 0 then (fX5_isTooMuch_b88 N h) else (fX5_isTooMuch_b89 N h (1 : Int32)))) else (fX5_isTooMuch_b88 N h)))) else (fX5_isTooMuch_b27 N h))
set_option maxRecDepth 10000 in
set_option maxHeartbeats 4000000 in
theorem rX5_isTooMuch_b24 {d N : Nat} (hd : 0 ≤ d) {h : iv_H} {q0 : Nat} {q1 : Nat} {x3 : Int32} {s0 : Int32} {s1 : Int32} {r : Int32} {Q : Option Value → iv_H → Prop} (hq : Q (some (.int r)) h) (e : fX5_isTooMuch_b24 N h q0 q1 x3 s0 s1 = some r) : Rn d 78 (some .boolean) 24 [some (.ref q0), some (.ref q1), none, some (.int x3)] [.int s0, .int s1] h Q := by
  have hT := hX5_isTooMuch
  unfold fX5_isTooMuch_b24 at e
  by_cases c_2033 : s1 = s0
  · rw [if_pos c_2033] at e
    refine Rn.bt hT rfl rfl rfl (decide_eq_true c_2033) ?_
    refine Rn.n hT 2 (pc' := 31) (L' := [some (.ref q0), some (.ref q1), none, some (.int x3)]) (st' := [.int (1 : Int32), .int x3]) rfl ?_
    by_cases c_2034 : x3 = (1 : Int32)
    · rw [if_pos c_2034] at e
      refine Rn.bf hT rfl rfl rfl (decide_eq_false (fun z => z c_2034)) ?_
      refine Rn.n hT 1 (pc' := 35) (L' := [some (.ref q0), some (.ref q1), none, some (.int x3)]) (st' := [.ref q1]) rfl ?_
      obtain ⟨v_2043, e_2044, e⟩ := Option.bind_eq_some_iff.mp e
      refine Rn.hp hT rfl rfl (gR_hp e_2044) ?_
      obtain ⟨v_2045, e_2046, e⟩ := Option.bind_eq_some_iff.mp e
      refine Rn.hp hT rfl rfl (gI_hp e_2046) ?_
      refine Rn.n hT 1 (pc' := 43) (L' := [some (.ref q0), some (.ref q1), none, some (.int x3)]) (st' := [.int (12 : Int32), .int v_2045]) rfl ?_
      by_cases c_2047 : v_2045 < (12 : Int32)
      · rw [if_pos c_2047] at e
        refine Rn.bt hT rfl rfl rfl (decide_eq_true c_2047) ?_
        refine Rn.n hT 1 (pc' := 51) (L' := [some (.ref q0), some (.ref q1), none, some (.int x3)]) (st' := [.int (0 : Int32)]) rfl ?_
        exact Rn.weak (ll_n (ll_n (ll_n (ll_n ll_e)))) (rX5_isTooMuch_b51 hd hq e)
      · rw [if_neg c_2047] at e
        refine Rn.bf hT rfl rfl rfl (decide_eq_false c_2047) ?_
        refine Rn.n hT 2 (pc' := 51) (L' := [some (.ref q0), some (.ref q1), none, some (.int x3)]) (st' := [.int (1 : Int32)]) rfl ?_
        exact Rn.weak (ll_n (ll_n (ll_n (ll_n ll_e)))) (rX5_isTooMuch_b51 hd hq e)
    · rw [if_neg c_2034] at e
      refine Rn.bt hT rfl rfl rfl (decide_eq_true c_2034) ?_
      refine Rn.n hT 2 (pc' := 54) (L' := [some (.ref q0), some (.ref q1), none, some (.int x3)]) (st' := [.int (4 : Int32), .int x3]) rfl ?_
      by_cases c_2035 : x3 = (4 : Int32)
      · rw [if_pos c_2035] at e
        refine Rn.bf hT rfl rfl rfl (decide_eq_false (fun z => z c_2035)) ?_
        refine Rn.n hT 1 (pc' := 58) (L' := [some (.ref q0), some (.ref q1), none, some (.int x3)]) (st' := [.ref q1]) rfl ?_
        obtain ⟨v_2040, e_2041, e⟩ := Option.bind_eq_some_iff.mp e
        refine Rn.hp hT rfl rfl (gI_hp e_2041) ?_
        refine Rn.n hT 1 (pc' := 63) (L' := [some (.ref q0), some (.ref q1), none, some (.int x3)]) (st' := [.int (6 : Int32), .int v_2040]) rfl ?_
        by_cases c_2042 : v_2040 < (6 : Int32)
        · rw [if_pos c_2042] at e
          refine Rn.bt hT rfl rfl rfl (decide_eq_true c_2042) ?_
          refine Rn.n hT 1 (pc' := 71) (L' := [some (.ref q0), some (.ref q1), none, some (.int x3)]) (st' := [.int (0 : Int32)]) rfl ?_
          exact Rn.weak (ll_n (ll_n (ll_n (ll_n ll_e)))) (rX5_isTooMuch_b71 hd hq e)
        · rw [if_neg c_2042] at e
          refine Rn.bf hT rfl rfl rfl (decide_eq_false c_2042) ?_
          refine Rn.n hT 2 (pc' := 71) (L' := [some (.ref q0), some (.ref q1), none, some (.int x3)]) (st' := [.int (1 : Int32)]) rfl ?_
          exact Rn.weak (ll_n (ll_n (ll_n (ll_n ll_e)))) (rX5_isTooMuch_b71 hd hq e)
      · rw [if_neg c_2035] at e
        refine Rn.bt hT rfl rfl rfl (decide_eq_true c_2035) ?_
        refine Rn.n hT 2 (pc' := 74) (L' := [some (.ref q0), some (.ref q1), none, some (.int x3)]) (st' := [.int (5 : Int32), .int x3]) rfl ?_
        by_cases c_2036 : x3 = (5 : Int32)
        · rw [if_pos c_2036] at e
          refine Rn.bf hT rfl rfl rfl (decide_eq_false (fun z => z c_2036)) ?_
          refine Rn.n hT 1 (pc' := 78) (L' := [some (.ref q0), some (.ref q1), none, some (.int x3)]) (st' := [.ref q0]) rfl ?_
          obtain ⟨v_2037, e_2038, e⟩ := Option.bind_eq_some_iff.mp e
          refine Rn.hp hT rfl rfl (gI_hp e_2038) ?_
          by_cases c_2039 : v_2037 = 0
          · rw [if_pos c_2039] at e
            refine Rn.bt hT rfl rfl rfl (decide_eq_true c_2039) ?_
            exact Rn.weak (ll_n (ll_n (ll_n (ll_n ll_e)))) (rX5_isTooMuch_b88 hd hq e)
          · rw [if_neg c_2039] at e
            refine Rn.bf hT rfl rfl rfl (decide_eq_false c_2039) ?_
            refine Rn.n hT 2 (pc' := 89) (L' := [some (.ref q0), some (.ref q1), none, some (.int x3)]) (st' := [.int (1 : Int32)]) rfl ?_
            exact Rn.weak (ll_n (ll_n (ll_n (ll_n ll_e)))) (rX5_isTooMuch_b89 hd hq e)
        · rw [if_neg c_2036] at e
          refine Rn.bt hT rfl rfl rfl (decide_eq_true c_2036) ?_
          exact Rn.weak (ll_n (ll_n (ll_n (ll_n ll_e)))) (rX5_isTooMuch_b88 hd hq e)
  · rw [if_neg c_2033] at e
    refine Rn.bf hT rfl rfl rfl (decide_eq_false c_2033) ?_
    exact Rn.weak (ll_n (ll_n (ll_n (ll_n ll_e)))) (rX5_isTooMuch_b27 hd hq e)
def fX5_isTooMuch_b15 (N : Nat) (h : iv_H) (q0 : Nat) (q1 : Nat) (x3 : Int32) (s0 : Int32) : Option (Int32) := (if x3 = 0 then (fX5_isTooMuch_b24 N h q0 q1 x3 (1 : Int32) s0) else (fX5_isTooMuch_b24 N h q0 q1 x3 (0 : Int32) s0))
set_option maxRecDepth 10000 in
set_option maxHeartbeats 4000000 in
theorem rX5_isTooMuch_b15 {d N : Nat} (hd : 0 ≤ d) {h : iv_H} {q0 : Nat} {q1 : Nat} {x3 : Int32} {s0 : Int32} {r : Int32} {Q : Option Value → iv_H → Prop} (hq : Q (some (.int r)) h) (e : fX5_isTooMuch_b15 N h q0 q1 x3 s0 = some r) : Rn d 78 (some .boolean) 15 [some (.ref q0), some (.ref q1), none, some (.int x3)] [.int s0] h Q := by
  have hT := hX5_isTooMuch
  unfold fX5_isTooMuch_b15 at e
  refine Rn.n hT 1 (pc' := 16) (L' := [some (.ref q0), some (.ref q1), none, some (.int x3)]) (st' := [.int x3, .int s0]) rfl ?_
  by_cases c_2032 : x3 = 0
  · rw [if_pos c_2032] at e
    refine Rn.bf hT rfl rfl rfl (decide_eq_false (fun z => z c_2032)) ?_
    refine Rn.n hT 2 (pc' := 24) (L' := [some (.ref q0), some (.ref q1), none, some (.int x3)]) (st' := [.int (1 : Int32), .int s0]) rfl ?_
    exact Rn.weak (ll_s (ll_s (ll_n (ll_s ll_e)))) (rX5_isTooMuch_b24 hd hq e)
  · rw [if_neg c_2032] at e
    refine Rn.bt hT rfl rfl rfl (decide_eq_true c_2032) ?_
    refine Rn.n hT 1 (pc' := 24) (L' := [some (.ref q0), some (.ref q1), none, some (.int x3)]) (st' := [.int (0 : Int32), .int s0]) rfl ?_
    exact Rn.weak (ll_s (ll_s (ll_n (ll_s ll_e)))) (rX5_isTooMuch_b24 hd hq e)
def fX5_isTooMuch (N : Nat) (h : iv_H) (q0 : Nat) (q1 : Nat) (x2 : Int32) (x3 : Int32) : Option (Int32) := (if (40 : Int32) ≤ x2 then (fX5_isTooMuch_b27 N h) else (if x2 = 0 then (fX5_isTooMuch_b15 N h q0 q1 x3 (1 : Int32)) else (fX5_isTooMuch_b15 N h q0 q1 x3 (0 : Int32))))
set_option maxRecDepth 10000 in
set_option maxHeartbeats 4000000 in
theorem rX5_isTooMuch {d N : Nat} (hd : 1 ≤ d) {h : iv_H} {q0 : Nat} {q1 : Nat} {x2 : Int32} {x3 : Int32} {r : Int32} {Q : Option Value → iv_H → Prop} (e : fX5_isTooMuch N h q0 q1 x2 x3 = some r) (hq : Q (some (.int r)) h) : Cl d 78 [.ref q0, .ref q1, .int x2, .int x3] h Q := by
  obtain ⟨d, rfl⟩ : ∃ k, d = k + 1 := ⟨d - 1, by omega⟩
  have hd : 0 ≤ d := by omega
  have hT := hX5_isTooMuch
  unfold fX5_isTooMuch at e
  refine Cl.into (by decide) gX5_isTooMuch rfl ?_
  show Rn d 78 (some .boolean) 0 [some (.ref q0), some (.ref q1), some (.int x2), some (.int x3)] [] h Q
  refine Rn.n hT 2 (pc' := 3) (L' := [some (.ref q0), some (.ref q1), some (.int x2), some (.int x3)]) (st' := [.int (40 : Int32), .int x2]) rfl ?_
  by_cases c_2030 : (40 : Int32) ≤ x2
  · rw [if_pos c_2030] at e
    refine Rn.bt hT rfl rfl rfl (decide_eq_true c_2030) ?_
    exact Rn.weak (ll_n (ll_n (ll_n (ll_n ll_e)))) (rX5_isTooMuch_b27 hd hq e)
  · rw [if_neg c_2030] at e
    refine Rn.bf hT rfl rfl rfl (decide_eq_false c_2030) ?_
    refine Rn.n hT 1 (pc' := 7) (L' := [some (.ref q0), some (.ref q1), some (.int x2), some (.int x3)]) (st' := [.int x2]) rfl ?_
    by_cases c_2031 : x2 = 0
    · rw [if_pos c_2031] at e
      refine Rn.bf hT rfl rfl rfl (decide_eq_false (fun z => z c_2031)) ?_
      refine Rn.n hT 2 (pc' := 15) (L' := [some (.ref q0), some (.ref q1), some (.int x2), some (.int x3)]) (st' := [.int (1 : Int32)]) rfl ?_
      exact Rn.weak (ll_s (ll_s (ll_n (ll_s ll_e)))) (rX5_isTooMuch_b15 hd hq e)
    · rw [if_neg c_2031] at e
      refine Rn.bt hT rfl rfl rfl (decide_eq_true c_2031) ?_
      refine Rn.n hT 1 (pc' := 15) (L' := [some (.ref q0), some (.ref q1), some (.int x2), some (.int x3)]) (st' := [.int (0 : Int32)]) rfl ?_
      exact Rn.weak (ll_s (ll_s (ll_n (ll_s ll_e)))) (rX5_isTooMuch_b15 hd hq e)
set_option maxRecDepth 10000 in
theorem hX6_isDigit : iv_Tb 93 tX6_isDigit := iv_tb_of (m := mX6_isDigit) rfl
set_option maxRecDepth 10000 in
theorem gX6_isDigit : PG.2 93 = some mX6_isDigit := iv_pi_of (t := tX6_isDigit) rfl (by decide)
def fX6_isDigit_b17 (N : Nat) (h : iv_H)  (s0 : Int32) : Option (Int32) := (if s0 = 0 ∨ s0 = 1 then some s0 else none)
set_option maxRecDepth 10000 in
set_option maxHeartbeats 4000000 in
theorem rX6_isDigit_b17 {d N : Nat} (hd : 0 ≤ d) {h : iv_H}  {s0 : Int32} {r : Int32} {Q : Option Value → iv_H → Prop} (hq : Q (some (.int r)) h) (e : fX6_isDigit_b17 N h  s0 = some r) : Rn d 93 (some .boolean) 17 [none] [.int s0] h Q := by
  have hT := hX6_isDigit
  unfold fX6_isDigit_b17 at e
  by_cases c_2053 : s0 = 0 ∨ s0 = 1
  · rw [if_pos c_2053] at e
    obtain rfl := Option.some.inj e
    exact Rn.ret hT rfl rfl (if_pos c_2053) hq
  · rw [if_neg c_2053] at e
    cases e
def fX6_isDigit_b16 (N : Nat) (h : iv_H)   : Option (Int32) := (fX6_isDigit_b17 N h (0 : Int32))
set_option maxRecDepth 10000 in
set_option maxHeartbeats 4000000 in
theorem rX6_isDigit_b16 {d N : Nat} (hd : 0 ≤ d) {h : iv_H}   {r : Int32} {Q : Option Value → iv_H → Prop} (hq : Q (some (.int r)) h) (e : fX6_isDigit_b16 N h   = some r) : Rn d 93 (some .boolean) 16 [none] [] h Q := by
  have hT := hX6_isDigit
  unfold fX6_isDigit_b16 at e
  refine Rn.n hT 1 (pc' := 17) (L' := [none]) (st' := [.int (0 : Int32)]) rfl ?_
  exact Rn.weak (ll_n ll_e) (rX6_isDigit_b17 hd hq e)
def fX6_isDigit (N : Nat) (h : iv_H) (x0 : Int32) : Option (Int32) := (if x0 < (48 : Int32) then (fX6_isDigit_b16 N h) else (if (57 : Int32) < x0 then (fX6_isDigit_b16 N h) else (fX6_isDigit_b17 N h (1 : Int32))))
set_option maxRecDepth 10000 in
set_option maxHeartbeats 4000000 in
theorem rX6_isDigit {d N : Nat} (hd : 1 ≤ d) {h : iv_H} {x0 : Int32} {r : Int32} {Q : Option Value → iv_H → Prop} (e : fX6_isDigit N h x0 = some r) (hq : Q (some (.int r)) h) : Cl d 93 [.int x0] h Q := by
  obtain ⟨d, rfl⟩ : ∃ k, d = k + 1 := ⟨d - 1, by omega⟩
  have hd : 0 ≤ d := by omega
  have hT := hX6_isDigit
  unfold fX6_isDigit at e
  refine Cl.into (by decide) gX6_isDigit rfl ?_
  show Rn d 93 (some .boolean) 0 [some (.int x0)] [] h Q
  refine Rn.n hT 2 (pc' := 3) (L' := [some (.int x0)]) (st' := [.int (48 : Int32), .int x0]) rfl ?_
  by_cases c_2051 : x0 < (48 : Int32)
  · rw [if_pos c_2051] at e
    refine Rn.bt hT rfl rfl rfl (decide_eq_true c_2051) ?_
    exact Rn.weak (ll_n ll_e) (rX6_isDigit_b16 hd hq e)
  · rw [if_neg c_2051] at e
    refine Rn.bf hT rfl rfl rfl (decide_eq_false c_2051) ?_
    refine Rn.n hT 2 (pc' := 9) (L' := [some (.int x0)]) (st' := [.int (57 : Int32), .int x0]) rfl ?_
    by_cases c_2052 : (57 : Int32) < x0
    · rw [if_pos c_2052] at e
      refine Rn.bt hT rfl rfl rfl (decide_eq_true c_2052) ?_
      exact Rn.weak (ll_n ll_e) (rX6_isDigit_b16 hd hq e)
    · rw [if_neg c_2052] at e
      refine Rn.bf hT rfl rfl rfl (decide_eq_false c_2052) ?_
      refine Rn.n hT 2 (pc' := 17) (L' := [some (.int x0)]) (st' := [.int (1 : Int32)]) rfl ?_
      exact Rn.weak (ll_n ll_e) (rX6_isDigit_b17 hd hq e)
set_option maxRecDepth 10000 in
theorem hX6_readNumber : iv_Tb 90 tX6_readNumber := iv_tb_of (m := mX6_readNumber) rfl
set_option maxRecDepth 10000 in
theorem gX6_readNumber : PG.2 90 = some mX6_readNumber := iv_pi_of (t := tX6_readNumber) rfl (by decide)
def fX6_readNumber_b75 (N : Nat) (h : iv_H) (q0 : Nat) (x1 : Int32) (x2 : Int32) (s0 : Int32) (kb : iv_H → Int32 → Option (Int32 × iv_H)) (kx : iv_H → Int32 → Option (Int32 × iv_H)) : Option (Int32 × iv_H) := ((gI h 6 2 q0).bind fun v_2090 => ((pV h 6 2 q0 (.int (v_2090 + (1 : Int32)))).bind fun h_2092 => (kb h_2092 s0)))
set_option maxRecDepth 10000 in
set_option maxHeartbeats 4000000 in
theorem rX6_readNumber_b75 {d N : Nat} (hd : 2 ≤ d) {h : iv_H} {q0 : Nat} {x1 : Int32} {x2 : Int32} {s0 : Int32} {kb : iv_H → Int32 → Option (Int32 × iv_H)} {kx : iv_H → Int32 → Option (Int32 × iv_H)} {r : Int32 × iv_H} {Q : Option Value → iv_H → Prop} (hb : ∀ (h : iv_H) (w3 : Int32), kb h w3 = some r → Rn d 90 (some .int) 15 [some (.ref q0), some (.int x1), some (.int x2), some (.int w3)] [] h Q) (hk : ∀ (h : iv_H) (w3 : Int32), kx h w3 = some r → Rn d 90 (some .int) 89 [some (.ref q0), some (.int x1), some (.int x2), some (.int w3)] [] h Q) (hq : Q (some (.int r.1)) r.2) (e : fX6_readNumber_b75 N h q0 x1 x2 s0 kb kx = some r) : Rn d 90 (some .int) 75 [some (.ref q0), some (.int x1), some (.int x2), none] [.int s0] h Q := by
  have hT := hX6_readNumber
  unfold fX6_readNumber_b75 at e
  refine Rn.n hT 3 (pc' := 78) (L' := [some (.ref q0), some (.int x1), some (.int x2), some (.int s0)]) (st' := [.ref q0, .ref q0]) rfl ?_
  obtain ⟨v_2090, e_2091, e⟩ := Option.bind_eq_some_iff.mp e
  refine Rn.hp hT rfl rfl (gI_hp e_2091) ?_
  refine Rn.n hT 2 (pc' := 83) (L' := [some (.ref q0), some (.int x1), some (.int x2), some (.int s0)]) (st' := [.int (v_2090 + (1 : Int32)), .ref q0]) rfl ?_
  obtain ⟨h_2092, e_2093, e⟩ := Option.bind_eq_some_iff.mp e
  refine Rn.hp hT rfl rfl (pV_hp rfl e_2093) ?_
  refine Rn.n hT 1 (pc' := 15) (L' := [some (.ref q0), some (.int x1), some (.int x2), some (.int s0)]) (st' := []) rfl ?_
  exact Rn.weak (ll_s (ll_s (ll_s (ll_s ll_e)))) (hb h_2092 s0 e)
def fX6_readNumber_l15 (N : Nat) (q0 : Nat) (x1 : Int32) (x2 : Int32) (kx : iv_H → Int32 → Option (Int32 × iv_H)) : Nat → iv_H → Int32 → Option (Int32 × iv_H)
  | 0, _, _ => none
  | n + 1, h, x3 => ((gI h 6 2 q0).bind fun v_2065 => ((gI h 6 1 q0).bind fun v_2067 => (if v_2067 ≤ v_2065 then (kx h x3) else ((gR h 6 0 q0).bind fun v_2070 => ((gI h 6 2 q0).bind fun v_2072 => ((aB h v_2070 v_2072).bind fun v_2074 => ((fX6_isDigit N h v_2074).bind fun v_2077 => (if v_2077 = 0 then (kx h x3) else ((gI h 6 2 q0).bind fun v_2079 => ((gI h 6 3 q0).bind fun v_2081 => (if (5 : Int32) ≤ (v_2079 - v_2081) then (fX6_readNumber_b75 N h q0 x1 x2 x3 (fX6_readNumber_l15 N q0 x1 x2 kx n) kx) else ((gR h 6 0 q0).bind fun v_2084 => ((gI h 6 2 q0).bind fun v_2086 => ((aB h v_2084 v_2086).bind fun v_2088 => (fX6_readNumber_b75 N h q0 x1 x2 ((((10 : Int32) * x3) + v_2088) - (48 : Int32)) (fX6_readNumber_l15 N q0 x1 x2 kx n) kx)))))))))))))))
set_option maxRecDepth 10000 in
set_option maxHeartbeats 4000000 in
theorem rX6_readNumber_l15 {d N : Nat} (hd : 2 ≤ d) {q0 : Nat} {x1 : Int32} {x2 : Int32} {kx : iv_H → Int32 → Option (Int32 × iv_H)} {r : Int32 × iv_H} {Q : Option Value → iv_H → Prop} (hk : ∀ (h : iv_H) (x3 : Int32), kx h x3 = some r → Rn d 90 (some .int) 89 [some (.ref q0), some (.int x1), some (.int x2), some (.int x3)] [] h Q) (hq : Q (some (.int r.1)) r.2) : ∀ (n : Nat) (h : iv_H) (x3 : Int32), fX6_readNumber_l15 N q0 x1 x2 kx n h x3 = some r → Rn d 90 (some .int) 15 [some (.ref q0), some (.int x1), some (.int x2), some (.int x3)] [] h Q := by
  have hT := hX6_readNumber
  intro n
  induction n with
  | zero =>
    intro h x3 e
    rw [fX6_readNumber_l15] at e
    cases e
  | succ n ih =>
    intro h x3 e
    rw [fX6_readNumber_l15] at e
    refine Rn.n hT 1 (pc' := 16) (L' := [some (.ref q0), some (.int x1), some (.int x2), some (.int x3)]) (st' := [.ref q0]) rfl ?_
    obtain ⟨v_2065, e_2066, e⟩ := Option.bind_eq_some_iff.mp e
    refine Rn.hp hT rfl rfl (gI_hp e_2066) ?_
    refine Rn.n hT 1 (pc' := 20) (L' := [some (.ref q0), some (.int x1), some (.int x2), some (.int x3)]) (st' := [.ref q0, .int v_2065]) rfl ?_
    obtain ⟨v_2067, e_2068, e⟩ := Option.bind_eq_some_iff.mp e
    refine Rn.hp hT rfl rfl (gI_hp e_2068) ?_
    by_cases c_2069 : v_2067 ≤ v_2065
    · rw [if_pos c_2069] at e
      refine Rn.bt hT rfl rfl rfl (decide_eq_true c_2069) ?_
      exact Rn.weak (ll_s (ll_s (ll_s (ll_s ll_e)))) (hk h x3 e)
    · rw [if_neg c_2069] at e
      refine Rn.bf hT rfl rfl rfl (decide_eq_false c_2069) ?_
      refine Rn.n hT 1 (pc' := 27) (L' := [some (.ref q0), some (.int x1), some (.int x2), some (.int x3)]) (st' := [.ref q0]) rfl ?_
      obtain ⟨v_2070, e_2071, e⟩ := Option.bind_eq_some_iff.mp e
      refine Rn.hp hT rfl rfl (gR_hp e_2071) ?_
      refine Rn.n hT 1 (pc' := 31) (L' := [some (.ref q0), some (.int x1), some (.int x2), some (.int x3)]) (st' := [.ref q0, .ref v_2070]) rfl ?_
      obtain ⟨v_2072, e_2073, e⟩ := Option.bind_eq_some_iff.mp e
      refine Rn.hp hT rfl rfl (gI_hp e_2073) ?_
      obtain ⟨v_2074, e_2075, e⟩ := Option.bind_eq_some_iff.mp e
      refine Rn.hp hT rfl rfl (aB_hp e_2075) ?_
      obtain ⟨v_2077, e_2076, e⟩ := Option.bind_eq_some_iff.mp e
      refine Rn.call hT rfl rfl rfl (Nat.le_of_ble_eq_true rfl) rfl (rX6_isDigit (by omega) e_2076 ?_)
      show Rn d _ _ 38 [some (.ref q0), some (.int x1), some (.int x2), some (.int x3)] [.int v_2077] h Q
      by_cases c_2078 : v_2077 = 0
      · rw [if_pos c_2078] at e
        refine Rn.bt hT rfl rfl rfl (decide_eq_true c_2078) ?_
        exact Rn.weak (ll_s (ll_s (ll_s (ll_s ll_e)))) (hk h x3 e)
      · rw [if_neg c_2078] at e
        refine Rn.bf hT rfl rfl rfl (decide_eq_false c_2078) ?_
        refine Rn.n hT 1 (pc' := 42) (L' := [some (.ref q0), some (.int x1), some (.int x2), some (.int x3)]) (st' := [.ref q0]) rfl ?_
        obtain ⟨v_2079, e_2080, e⟩ := Option.bind_eq_some_iff.mp e
        refine Rn.hp hT rfl rfl (gI_hp e_2080) ?_
        refine Rn.n hT 1 (pc' := 46) (L' := [some (.ref q0), some (.int x1), some (.int x2), some (.int x3)]) (st' := [.ref q0, .int v_2079]) rfl ?_
        obtain ⟨v_2081, e_2082, e⟩ := Option.bind_eq_some_iff.mp e
        refine Rn.hp hT rfl rfl (gI_hp e_2082) ?_
        refine Rn.n hT 2 (pc' := 51) (L' := [some (.ref q0), some (.int x1), some (.int x2), some (.int x3)]) (st' := [.int (5 : Int32), .int (v_2079 - v_2081)]) rfl ?_
        by_cases c_2083 : (5 : Int32) ≤ (v_2079 - v_2081)
        · rw [if_pos c_2083] at e
          refine Rn.bt hT rfl rfl rfl (decide_eq_true c_2083) ?_
          refine Rn.n hT 1 (pc' := 75) (L' := [some (.ref q0), some (.int x1), some (.int x2), some (.int x3)]) (st' := [.int x3]) rfl ?_
          exact Rn.weak (ll_s (ll_s (ll_s (ll_n ll_e)))) (rX6_readNumber_b75 hd ih hk hq e)
        · rw [if_neg c_2083] at e
          refine Rn.bf hT rfl rfl rfl (decide_eq_false c_2083) ?_
          refine Rn.n hT 4 (pc' := 59) (L' := [some (.ref q0), some (.int x1), some (.int x2), some (.int x3)]) (st' := [.ref q0, .int ((10 : Int32) * x3)]) rfl ?_
          obtain ⟨v_2084, e_2085, e⟩ := Option.bind_eq_some_iff.mp e
          refine Rn.hp hT rfl rfl (gR_hp e_2085) ?_
          refine Rn.n hT 1 (pc' := 63) (L' := [some (.ref q0), some (.int x1), some (.int x2), some (.int x3)]) (st' := [.ref q0, .ref v_2084, .int ((10 : Int32) * x3)]) rfl ?_
          obtain ⟨v_2086, e_2087, e⟩ := Option.bind_eq_some_iff.mp e
          refine Rn.hp hT rfl rfl (gI_hp e_2087) ?_
          obtain ⟨v_2088, e_2089, e⟩ := Option.bind_eq_some_iff.mp e
          refine Rn.hp hT rfl rfl (aB_hp e_2089) ?_
          refine Rn.n hT 4 (pc' := 75) (L' := [some (.ref q0), some (.int x1), some (.int x2), some (.int x3)]) (st' := [.int ((((10 : Int32) * x3) + v_2088) - (48 : Int32))]) rfl ?_
          exact Rn.weak (ll_s (ll_s (ll_s (ll_n ll_e)))) (rX6_readNumber_b75 hd ih hk hq e)
def fX6_readNumber_b144 (N : Nat) (h : iv_H) (x3 : Int32)  : Option (Int32 × iv_H) := (some (x3, h))
set_option maxRecDepth 10000 in
set_option maxHeartbeats 4000000 in
theorem rX6_readNumber_b144 {d N : Nat} (hd : 2 ≤ d) {h : iv_H} {x3 : Int32}  {r : Int32 × iv_H} {Q : Option Value → iv_H → Prop} (hq : Q (some (.int r.1)) r.2) (e : fX6_readNumber_b144 N h x3  = some r) : Rn d 90 (some .int) 144 [none, none, none, some (.int x3)] [] h Q := by
  have hT := hX6_readNumber
  unfold fX6_readNumber_b144 at e
  refine Rn.n hT 1 (pc' := 145) (L' := [none, none, none, some (.int x3)]) (st' := [.int x3]) rfl ?_
  obtain rfl := Option.some.inj e
  exact Rn.ret hT rfl rfl rfl hq
def fX6_readNumber_b135 (N : Nat) (h : iv_H) (q0 : Nat) (x3 : Int32)  : Option (Int32 × iv_H) := ((gI h 6 3 q0).bind fun v_2112 => ((cko h q0 6).bind fun _ => (fX6_fail N h q0 v_2112 (1 : Int32)).bind fun h_2117 => (fX6_readNumber_b144 N h_2117 x3)))
set_option maxRecDepth 10000 in
set_option maxHeartbeats 4000000 in
theorem rX6_readNumber_b135 {d N : Nat} (hd : 2 ≤ d) {h : iv_H} {q0 : Nat} {x3 : Int32}  {r : Int32 × iv_H} {Q : Option Value → iv_H → Prop} (hq : Q (some (.int r.1)) r.2) (e : fX6_readNumber_b135 N h q0 x3  = some r) : Rn d 90 (some .int) 135 [some (.ref q0), none, none, some (.int x3)] [] h Q := by
  have hT := hX6_readNumber
  unfold fX6_readNumber_b135 at e
  refine Rn.n hT 2 (pc' := 137) (L' := [some (.ref q0), none, none, some (.int x3)]) (st' := [.ref q0, .ref q0]) rfl ?_
  obtain ⟨v_2112, e_2113, e⟩ := Option.bind_eq_some_iff.mp e
  refine Rn.hp hT rfl rfl (gI_hp e_2113) ?_
  refine Rn.n hT 1 (pc' := 141) (L' := [some (.ref q0), none, none, some (.int x3)]) (st' := [.int (1 : Int32), .int v_2112, .ref q0]) rfl ?_
  obtain ⟨_, e_2115, e⟩ := Option.bind_eq_some_iff.mp e
  obtain ⟨h_2117, e_2114, e⟩ := Option.bind_eq_some_iff.mp e
  refine Rn.call hT rfl rfl rfl (Nat.le_of_ble_eq_true rfl) (rcv_v gX6_fail (by omega) e_2115) (rX6_fail (by omega) e_2114 ?_)
  show Rn d _ _ 144 [some (.ref q0), none, none, some (.int x3)] [] h_2117 Q
  exact Rn.weak (ll_n (ll_n (ll_n (ll_s ll_e)))) (rX6_readNumber_b144 hd hq e)
def fX6_readNumber_b89 (N : Nat) (h : iv_H) (q0 : Nat) (x1 : Int32) (x2 : Int32) (x3 : Int32)  : Option (Int32 × iv_H) := ((gI h 6 2 q0).bind fun v_2094 => ((gI h 6 3 q0).bind fun v_2096 => (if v_2094 = v_2096 then ((gI h 6 2 q0).bind fun v_2106 => ((cko h q0 6).bind fun _ => (fX6_fail N h q0 v_2106 (0 : Int32)).bind fun h_2111 => (fX6_readNumber_b144 N h_2111 x3))) else ((gI h 6 2 q0).bind fun v_2099 => ((gI h 6 3 q0).bind fun v_2101 => (if (5 : Int32) < (v_2099 - v_2101) then (fX6_readNumber_b135 N h q0 x3) else (if x3 < x1 then (fX6_readNumber_b135 N h q0 x3) else (if x3 ≤ x2 then (fX6_readNumber_b144 N h x3) else (fX6_readNumber_b135 N h q0 x3)))))))))
set_option maxRecDepth 10000 in
set_option maxHeartbeats 4000000 in
theorem rX6_readNumber_b89 {d N : Nat} (hd : 2 ≤ d) {h : iv_H} {q0 : Nat} {x1 : Int32} {x2 : Int32} {x3 : Int32}  {r : Int32 × iv_H} {Q : Option Value → iv_H → Prop} (hq : Q (some (.int r.1)) r.2) (e : fX6_readNumber_b89 N h q0 x1 x2 x3  = some r) : Rn d 90 (some .int) 89 [some (.ref q0), some (.int x1), some (.int x2), some (.int x3)] [] h Q := by
  have hT := hX6_readNumber
  unfold fX6_readNumber_b89 at e
  refine Rn.n hT 1 (pc' := 90) (L' := [some (.ref q0), some (.int x1), some (.int x2), some (.int x3)]) (st' := [.ref q0]) rfl ?_
  obtain ⟨v_2094, e_2095, e⟩ := Option.bind_eq_some_iff.mp e
  refine Rn.hp hT rfl rfl (gI_hp e_2095) ?_
  refine Rn.n hT 1 (pc' := 94) (L' := [some (.ref q0), some (.int x1), some (.int x2), some (.int x3)]) (st' := [.ref q0, .int v_2094]) rfl ?_
  obtain ⟨v_2096, e_2097, e⟩ := Option.bind_eq_some_iff.mp e
  refine Rn.hp hT rfl rfl (gI_hp e_2097) ?_
  by_cases c_2098 : v_2094 = v_2096
  · rw [if_pos c_2098] at e
    refine Rn.bf hT rfl rfl rfl (decide_eq_false (fun z => z c_2098)) ?_
    refine Rn.n hT 2 (pc' := 102) (L' := [some (.ref q0), some (.int x1), some (.int x2), some (.int x3)]) (st' := [.ref q0, .ref q0]) rfl ?_
    obtain ⟨v_2106, e_2107, e⟩ := Option.bind_eq_some_iff.mp e
    refine Rn.hp hT rfl rfl (gI_hp e_2107) ?_
    refine Rn.n hT 1 (pc' := 106) (L' := [some (.ref q0), some (.int x1), some (.int x2), some (.int x3)]) (st' := [.int (0 : Int32), .int v_2106, .ref q0]) rfl ?_
    obtain ⟨_, e_2109, e⟩ := Option.bind_eq_some_iff.mp e
    obtain ⟨h_2111, e_2108, e⟩ := Option.bind_eq_some_iff.mp e
    refine Rn.call hT rfl rfl rfl (Nat.le_of_ble_eq_true rfl) (rcv_v gX6_fail (by omega) e_2109) (rX6_fail (by omega) e_2108 ?_)
    show Rn d _ _ 109 [some (.ref q0), some (.int x1), some (.int x2), some (.int x3)] [] h_2111 Q
    refine Rn.n hT 1 (pc' := 144) (L' := [some (.ref q0), some (.int x1), some (.int x2), some (.int x3)]) (st' := []) rfl ?_
    exact Rn.weak (ll_n (ll_n (ll_n (ll_s ll_e)))) (rX6_readNumber_b144 hd hq e)
  · rw [if_neg c_2098] at e
    refine Rn.bt hT rfl rfl rfl (decide_eq_true c_2098) ?_
    refine Rn.n hT 1 (pc' := 113) (L' := [some (.ref q0), some (.int x1), some (.int x2), some (.int x3)]) (st' := [.ref q0]) rfl ?_
    obtain ⟨v_2099, e_2100, e⟩ := Option.bind_eq_some_iff.mp e
    refine Rn.hp hT rfl rfl (gI_hp e_2100) ?_
    refine Rn.n hT 1 (pc' := 117) (L' := [some (.ref q0), some (.int x1), some (.int x2), some (.int x3)]) (st' := [.ref q0, .int v_2099]) rfl ?_
    obtain ⟨v_2101, e_2102, e⟩ := Option.bind_eq_some_iff.mp e
    refine Rn.hp hT rfl rfl (gI_hp e_2102) ?_
    refine Rn.n hT 2 (pc' := 122) (L' := [some (.ref q0), some (.int x1), some (.int x2), some (.int x3)]) (st' := [.int (5 : Int32), .int (v_2099 - v_2101)]) rfl ?_
    by_cases c_2103 : (5 : Int32) < (v_2099 - v_2101)
    · rw [if_pos c_2103] at e
      refine Rn.bt hT rfl rfl rfl (decide_eq_true c_2103) ?_
      exact Rn.weak (ll_s (ll_n (ll_n (ll_s ll_e)))) (rX6_readNumber_b135 hd hq e)
    · rw [if_neg c_2103] at e
      refine Rn.bf hT rfl rfl rfl (decide_eq_false c_2103) ?_
      refine Rn.n hT 2 (pc' := 127) (L' := [some (.ref q0), some (.int x1), some (.int x2), some (.int x3)]) (st' := [.int x1, .int x3]) rfl ?_
      by_cases c_2104 : x3 < x1
      · rw [if_pos c_2104] at e
        refine Rn.bt hT rfl rfl rfl (decide_eq_true c_2104) ?_
        exact Rn.weak (ll_s (ll_n (ll_n (ll_s ll_e)))) (rX6_readNumber_b135 hd hq e)
      · rw [if_neg c_2104] at e
        refine Rn.bf hT rfl rfl rfl (decide_eq_false c_2104) ?_
        refine Rn.n hT 2 (pc' := 132) (L' := [some (.ref q0), some (.int x1), some (.int x2), some (.int x3)]) (st' := [.int x2, .int x3]) rfl ?_
        by_cases c_2105 : x3 ≤ x2
        · rw [if_pos c_2105] at e
          refine Rn.bt hT rfl rfl rfl (decide_eq_true c_2105) ?_
          exact Rn.weak (ll_n (ll_n (ll_n (ll_s ll_e)))) (rX6_readNumber_b144 hd hq e)
        · rw [if_neg c_2105] at e
          refine Rn.bf hT rfl rfl rfl (decide_eq_false c_2105) ?_
          exact Rn.weak (ll_s (ll_n (ll_n (ll_s ll_e)))) (rX6_readNumber_b135 hd hq e)
def fX6_readNumber (N : Nat) (h : iv_H) (q0 : Nat) (x1 : Int32) (x2 : Int32) : Option (Int32 × iv_H) := ((cko h q0 6).bind fun _ => (fX6_skipBlanks N h q0).bind fun p_2064 => (fun (v_2056 : Int32) (h_2057 : iv_H) => ((gI h_2057 6 2 q0).bind fun v_2058 => ((pV h_2057 6 3 q0 (.int v_2058)).bind fun h_2060 => (fX6_readNumber_l15 N q0 x1 x2 (fun (h_2062 : iv_H) (z_2063 : Int32) => (fX6_readNumber_b89 N h_2062 q0 x1 x2 z_2063)) N h_2060 (0 : Int32))))) p_2064.1 p_2064.2)
set_option maxRecDepth 10000 in
set_option maxHeartbeats 4000000 in
theorem rX6_readNumber {d N : Nat} (hd : 3 ≤ d) {h : iv_H} {q0 : Nat} {x1 : Int32} {x2 : Int32} {r : Int32 × iv_H} {Q : Option Value → iv_H → Prop} (e : fX6_readNumber N h q0 x1 x2 = some r) (hq : Q (some (.int r.1)) r.2) : Cl d 90 [.ref q0, .int x1, .int x2] h Q := by
  obtain ⟨d, rfl⟩ : ∃ k, d = k + 1 := ⟨d - 1, by omega⟩
  have hd : 2 ≤ d := by omega
  have hT := hX6_readNumber
  unfold fX6_readNumber at e
  refine Cl.into (by decide) gX6_readNumber rfl ?_
  show Rn d 90 (some .int) 0 [some (.ref q0), some (.int x1), some (.int x2), none] [] h Q
  refine Rn.n hT 1 (pc' := 1) (L' := [some (.ref q0), some (.int x1), some (.int x2), none]) (st' := [.ref q0]) rfl ?_
  obtain ⟨_, e_2055, e⟩ := Option.bind_eq_some_iff.mp e
  obtain ⟨⟨v_2056, h_2057⟩, e_2054, e⟩ := Option.bind_eq_some_iff.mp e
  try dsimp only at e
  try dsimp only at e
  refine Rn.call hT rfl rfl rfl (Nat.le_of_ble_eq_true rfl) (rcv_v gX6_skipBlanks (by omega) e_2055) (rX6_skipBlanks (by omega) e_2054 ?_)
  show Rn d _ _ 4 [some (.ref q0), some (.int x1), some (.int x2), none] [.int v_2056] h_2057 Q
  refine Rn.n hT 3 (pc' := 7) (L' := [some (.ref q0), some (.int x1), some (.int x2), none]) (st' := [.ref q0, .ref q0]) rfl ?_
  obtain ⟨v_2058, e_2059, e⟩ := Option.bind_eq_some_iff.mp e
  refine Rn.hp hT rfl rfl (gI_hp e_2059) ?_
  obtain ⟨h_2060, e_2061, e⟩ := Option.bind_eq_some_iff.mp e
  refine Rn.hp hT rfl rfl (pV_hp rfl e_2061) ?_
  refine Rn.n hT 2 (pc' := 15) (L' := [some (.ref q0), some (.int x1), some (.int x2), some (.int (0 : Int32))]) (st' := []) rfl ?_
  refine Rn.weak (ll_s (ll_s (ll_s (ll_s ll_e)))) (rX6_readNumber_l15 hd (fun h_2062 z_2063 e => ?_) hq N h_2060 (0 : Int32) e)
  try dsimp only at e
  exact Rn.weak (ll_s (ll_s (ll_s (ll_s ll_e)))) (rX6_readNumber_b89 hd hq e)
set_option maxRecDepth 10000 in
theorem hX5_readFloor : iv_Tb 79 tX5_readFloor := iv_tb_of (m := mX5_readFloor) rfl
set_option maxRecDepth 10000 in
theorem gX5_readFloor : PG.2 79 = some mX5_readFloor := iv_pi_of (t := tX5_readFloor) rfl (by decide)
def fX5_readFloor_b47 (N : Nat) (h : iv_H)   : Option (iv_H) := some h
set_option maxRecDepth 10000 in
set_option maxHeartbeats 4000000 in
theorem rX5_readFloor_b47 {d N : Nat} (hd : 4 ≤ d) {h : iv_H}   {r : iv_H} {Q : Option Value → iv_H → Prop} (hq : Q none r) (e : fX5_readFloor_b47 N h   = some r) : Rn d 79 none 47 [none, none, none, none] [] h Q := by
  have hT := hX5_readFloor
  unfold fX5_readFloor_b47 at e
  obtain rfl := Option.some.inj e
  exact Rn.ret hT rfl rfl rfl hq
def fX5_readFloor (N : Nat) (h : iv_H) (q0 : Nat) (q1 : Nat) : Option (iv_H) := ((gR h 5 0 q0).bind fun v_2118 => ((cko h v_2118 6).bind fun _ => (fX6_readNumber N h v_2118 (1 : Int32) (4 : Int32)).bind fun p_2145 => (fun (v_2122 : Int32) (h_2123 : iv_H) => ((gR h_2123 5 0 q0).bind fun v_2124 => ((gI h_2123 6 4 v_2124).bind fun v_2126 => (if v_2126 = 0 then ((gR h_2123 5 0 q0).bind fun v_2129 => ((cko h_2123 v_2129 6).bind fun _ => (fX6_readNumber N h_2123 v_2129 (1 : Int32) (4 : Int32)).bind fun p_2144 => (fun (v_2133 : Int32) (h_2134 : iv_H) => ((gR h_2134 5 0 q0).bind fun v_2135 => ((gI h_2134 6 4 v_2135).bind fun v_2137 => (if v_2137 = 0 then ((cko h_2134 q1 2).bind fun _ => (fX2_build N h_2134 q1 v_2122 v_2133).bind fun h_2143 => (fX5_readFloor_b47 N h_2143)) else (fX5_readFloor_b47 N h_2134))))) p_2144.1 p_2144.2)) else some h_2123)))) p_2145.1 p_2145.2))
set_option maxRecDepth 10000 in
set_option maxHeartbeats 4000000 in
theorem rX5_readFloor {d N : Nat} (hd : 5 ≤ d) {h : iv_H} {q0 : Nat} {q1 : Nat} {r : iv_H} {Q : Option Value → iv_H → Prop} (e : fX5_readFloor N h q0 q1 = some r) (hq : Q none r) : Cl d 79 [.ref q0, .ref q1] h Q := by
  obtain ⟨d, rfl⟩ : ∃ k, d = k + 1 := ⟨d - 1, by omega⟩
  have hd : 4 ≤ d := by omega
  have hT := hX5_readFloor
  unfold fX5_readFloor at e
  refine Cl.into (by decide) gX5_readFloor rfl ?_
  show Rn d 79 none 0 [some (.ref q0), some (.ref q1), none, none] [] h Q
  refine Rn.n hT 1 (pc' := 1) (L' := [some (.ref q0), some (.ref q1), none, none]) (st' := [.ref q0]) rfl ?_
  obtain ⟨v_2118, e_2119, e⟩ := Option.bind_eq_some_iff.mp e
  refine Rn.hp hT rfl rfl (gR_hp e_2119) ?_
  refine Rn.n hT 2 (pc' := 6) (L' := [some (.ref q0), some (.ref q1), none, none]) (st' := [.int (4 : Int32), .int (1 : Int32), .ref v_2118]) rfl ?_
  obtain ⟨_, e_2121, e⟩ := Option.bind_eq_some_iff.mp e
  obtain ⟨⟨v_2122, h_2123⟩, e_2120, e⟩ := Option.bind_eq_some_iff.mp e
  try dsimp only at e
  try dsimp only at e
  refine Rn.call hT rfl rfl rfl (Nat.le_of_ble_eq_true rfl) (rcv_v gX6_readNumber (by omega) e_2121) (rX6_readNumber (by omega) e_2120 ?_)
  show Rn d _ _ 9 [some (.ref q0), some (.ref q1), none, none] [.int v_2122] h_2123 Q
  refine Rn.n hT 2 (pc' := 11) (L' := [some (.ref q0), some (.ref q1), some (.int v_2122), none]) (st' := [.ref q0]) rfl ?_
  obtain ⟨v_2124, e_2125, e⟩ := Option.bind_eq_some_iff.mp e
  refine Rn.hp hT rfl rfl (gR_hp e_2125) ?_
  obtain ⟨v_2126, e_2127, e⟩ := Option.bind_eq_some_iff.mp e
  refine Rn.hp hT rfl rfl (gI_hp e_2127) ?_
  by_cases c_2128 : v_2126 = 0
  · rw [if_pos c_2128] at e
    refine Rn.bt hT rfl rfl rfl (decide_eq_true c_2128) ?_
    refine Rn.n hT 1 (pc' := 22) (L' := [some (.ref q0), some (.ref q1), some (.int v_2122), none]) (st' := [.ref q0]) rfl ?_
    obtain ⟨v_2129, e_2130, e⟩ := Option.bind_eq_some_iff.mp e
    refine Rn.hp hT rfl rfl (gR_hp e_2130) ?_
    refine Rn.n hT 2 (pc' := 27) (L' := [some (.ref q0), some (.ref q1), some (.int v_2122), none]) (st' := [.int (4 : Int32), .int (1 : Int32), .ref v_2129]) rfl ?_
    obtain ⟨_, e_2132, e⟩ := Option.bind_eq_some_iff.mp e
    obtain ⟨⟨v_2133, h_2134⟩, e_2131, e⟩ := Option.bind_eq_some_iff.mp e
    try dsimp only at e
    try dsimp only at e
    refine Rn.call hT rfl rfl rfl (Nat.le_of_ble_eq_true rfl) (rcv_v gX6_readNumber (by omega) e_2132) (rX6_readNumber (by omega) e_2131 ?_)
    show Rn d _ _ 30 [some (.ref q0), some (.ref q1), some (.int v_2122), none] [.int v_2133] h_2134 Q
    refine Rn.n hT 2 (pc' := 32) (L' := [some (.ref q0), some (.ref q1), some (.int v_2122), some (.int v_2133)]) (st' := [.ref q0]) rfl ?_
    obtain ⟨v_2135, e_2136, e⟩ := Option.bind_eq_some_iff.mp e
    refine Rn.hp hT rfl rfl (gR_hp e_2136) ?_
    obtain ⟨v_2137, e_2138, e⟩ := Option.bind_eq_some_iff.mp e
    refine Rn.hp hT rfl rfl (gI_hp e_2138) ?_
    by_cases c_2139 : v_2137 = 0
    · rw [if_pos c_2139] at e
      refine Rn.bf hT rfl rfl rfl (decide_eq_false (fun z => z c_2139)) ?_
      refine Rn.n hT 3 (pc' := 44) (L' := [some (.ref q0), some (.ref q1), some (.int v_2122), some (.int v_2133)]) (st' := [.int v_2133, .int v_2122, .ref q1]) rfl ?_
      obtain ⟨_, e_2141, e⟩ := Option.bind_eq_some_iff.mp e
      obtain ⟨h_2143, e_2140, e⟩ := Option.bind_eq_some_iff.mp e
      refine Rn.call hT rfl rfl rfl (Nat.le_of_ble_eq_true rfl) (rcv_v gX2_build (by omega) e_2141) (rX2_build (by omega) e_2140 ?_)
      show Rn d _ _ 47 [some (.ref q0), some (.ref q1), some (.int v_2122), some (.int v_2133)] [] h_2143 Q
      exact Rn.weak (ll_n (ll_n (ll_n (ll_n ll_e)))) (rX5_readFloor_b47 hd hq e)
    · rw [if_neg c_2139] at e
      refine Rn.bt hT rfl rfl rfl (decide_eq_true c_2139) ?_
      exact Rn.weak (ll_n (ll_n (ll_n (ll_n ll_e)))) (rX5_readFloor_b47 hd hq e)
  · rw [if_neg c_2128] at e
    refine Rn.bf hT rfl rfl rfl (decide_eq_false c_2128) ?_
    obtain rfl := Option.some.inj e
    exact Rn.ret hT rfl rfl rfl hq
set_option maxRecDepth 10000 in
theorem hX5_sortOf : iv_Tb 81 tX5_sortOf := iv_tb_of (m := mX5_sortOf) rfl
set_option maxRecDepth 10000 in
theorem gX5_sortOf : PG.2 81 = some mX5_sortOf := iv_pi_of (t := tX5_sortOf) rfl (by decide)
def fX5_sortOf_b64 (N : Nat) (h : iv_H)  (s0 : Int32) : Option (Int32) := (some s0)
set_option maxRecDepth 10000 in
set_option maxHeartbeats 4000000 in
theorem rX5_sortOf_b64 {d N : Nat} (hd : 0 ≤ d) {h : iv_H}  {s0 : Int32} {r : Int32} {Q : Option Value → iv_H → Prop} (hq : Q (some (.int r)) h) (e : fX5_sortOf_b64 N h  s0 = some r) : Rn d 81 (some .int) 64 [none] [.int s0] h Q := by
  have hT := hX5_sortOf
  unfold fX5_sortOf_b64 at e
  obtain rfl := Option.some.inj e
  exact Rn.ret hT rfl rfl rfl hq
def fX5_sortOf_b63 (N : Nat) (h : iv_H)   : Option (Int32) := (fX5_sortOf_b64 N h (-1 : Int32))
set_option maxRecDepth 10000 in
set_option maxHeartbeats 4000000 in
theorem rX5_sortOf_b63 {d N : Nat} (hd : 0 ≤ d) {h : iv_H}   {r : Int32} {Q : Option Value → iv_H → Prop} (hq : Q (some (.int r)) h) (e : fX5_sortOf_b63 N h   = some r) : Rn d 81 (some .int) 63 [none] [] h Q := by
  have hT := hX5_sortOf
  unfold fX5_sortOf_b63 at e
  refine Rn.n hT 1 (pc' := 64) (L' := [none]) (st' := [.int (-1 : Int32)]) rfl ?_
  exact Rn.weak (ll_n ll_e) (rX5_sortOf_b64 hd hq e)
def fX5_sortOf (N : Nat) (h : iv_H) (x0 : Int32) : Option (Int32) := (if x0 = (46 : Int32) then (some (0 : Int32)) else (if x0 = (100 : Int32) then (some (1 : Int32)) else (if x0 = (119 : Int32) then (some (2 : Int32)) else (if x0 < (49 : Int32) then (fX5_sortOf_b63 N h) else (if (52 : Int32) < x0 then (fX5_sortOf_b63 N h) else (fX5_sortOf_b64 N h (((3 : Int32) + x0) - (49 : Int32))))))))
set_option maxRecDepth 10000 in
set_option maxHeartbeats 4000000 in
theorem rX5_sortOf {d N : Nat} (hd : 1 ≤ d) {h : iv_H} {x0 : Int32} {r : Int32} {Q : Option Value → iv_H → Prop} (e : fX5_sortOf N h x0 = some r) (hq : Q (some (.int r)) h) : Cl d 81 [.int x0] h Q := by
  obtain ⟨d, rfl⟩ : ∃ k, d = k + 1 := ⟨d - 1, by omega⟩
  have hd : 0 ≤ d := by omega
  have hT := hX5_sortOf
  unfold fX5_sortOf at e
  refine Cl.into (by decide) gX5_sortOf rfl ?_
  show Rn d 81 (some .int) 0 [some (.int x0)] [] h Q
  refine Rn.n hT 1 (pc' := 1) (L' := [some (.int x0)]) (st' := [.int x0]) rfl ?_
  by_cases c_2146 : x0 = (46 : Int32)
  · rw [if_pos c_2146] at e
    refine Rn.sw2 hT rfl rfl rfl (if_pos c_2146) ?_
    refine Rn.n hT 1 (pc' := 37) (L' := [some (.int x0)]) (st' := [.int (0 : Int32)]) rfl ?_
    obtain rfl := Option.some.inj e
    exact Rn.ret hT rfl rfl rfl hq
  · rw [if_neg c_2146] at e
    by_cases c_2147 : x0 = (100 : Int32)
    · rw [if_pos c_2147] at e
      refine Rn.sw2 hT rfl rfl rfl ((if_neg c_2146).trans (if_pos c_2147)) ?_
      refine Rn.n hT 1 (pc' := 39) (L' := [some (.int x0)]) (st' := [.int (1 : Int32)]) rfl ?_
      obtain rfl := Option.some.inj e
      exact Rn.ret hT rfl rfl rfl hq
    · rw [if_neg c_2147] at e
      by_cases c_2148 : x0 = (119 : Int32)
      · rw [if_pos c_2148] at e
        refine Rn.sw2 hT rfl rfl rfl ((if_neg c_2146).trans ((if_neg c_2147).trans (if_pos c_2148))) ?_
        refine Rn.n hT 1 (pc' := 41) (L' := [some (.int x0)]) (st' := [.int (2 : Int32)]) rfl ?_
        obtain rfl := Option.some.inj e
        exact Rn.ret hT rfl rfl rfl hq
      · rw [if_neg c_2148] at e
        refine Rn.sw2 hT rfl rfl rfl ((if_neg c_2146).trans ((if_neg c_2147).trans ((if_neg c_2148).trans rfl))) ?_
        refine Rn.n hT 2 (pc' := 45) (L' := [some (.int x0)]) (st' := [.int (49 : Int32), .int x0]) rfl ?_
        by_cases c_2149 : x0 < (49 : Int32)
        · rw [if_pos c_2149] at e
          refine Rn.bt hT rfl rfl rfl (decide_eq_true c_2149) ?_
          exact Rn.weak (ll_n ll_e) (rX5_sortOf_b63 hd hq e)
        · rw [if_neg c_2149] at e
          refine Rn.bf hT rfl rfl rfl (decide_eq_false c_2149) ?_
          refine Rn.n hT 2 (pc' := 51) (L' := [some (.int x0)]) (st' := [.int (52 : Int32), .int x0]) rfl ?_
          by_cases c_2150 : (52 : Int32) < x0
          · rw [if_pos c_2150] at e
            refine Rn.bt hT rfl rfl rfl (decide_eq_true c_2150) ?_
            exact Rn.weak (ll_n ll_e) (rX5_sortOf_b63 hd hq e)
          · rw [if_neg c_2150] at e
            refine Rn.bf hT rfl rfl rfl (decide_eq_false c_2150) ?_
            refine Rn.n hT 6 (pc' := 64) (L' := [some (.int x0)]) (st' := [.int (((3 : Int32) + x0) - (49 : Int32))]) rfl ?_
            exact Rn.weak (ll_n ll_e) (rX5_sortOf_b64 hd hq e)
set_option maxRecDepth 10000 in
theorem hX5_readRoom : iv_Tb 80 tX5_readRoom := iv_tb_of (m := mX5_readRoom) rfl
set_option maxRecDepth 10000 in
theorem gX5_readRoom : PG.2 80 = some mX5_readRoom := iv_pi_of (t := tX5_readRoom) rfl (by decide)
def fX5_readRoom_l10 (N : Nat) (q0 : Nat) (q1 : Nat) (kx : iv_H → Option (iv_H)) : Nat → iv_H → Int32 → Option (iv_H)
  | 0, _, _ => none
  | n + 1, h, x2 => (if (4 : Int32) ≤ x2 then (kx h) else ((gR h 5 0 q0).bind fun v_2207 => ((cko h v_2207 6).bind fun _ => (fX6_here N h v_2207).bind fun v_2211 => ((fX5_sortOf N h v_2211).bind fun v_2213 => (if v_2213 = (-1 : Int32) then ((gR h 5 0 q0).bind fun v_2227 => ((gR h 5 0 q0).bind fun v_2229 => ((gI h 6 2 v_2229).bind fun v_2231 => ((cko h v_2227 6).bind fun _ => (fX6_fail N h v_2227 v_2231 (0 : Int32)).bind fun h_2236 => some h_2236)))) else ((gR h 1 8 q1).bind fun v_2215 => ((gI h 1 2 q1).bind fun v_2217 => ((wI h v_2215 (((4 : Int32) * v_2217) + x2) v_2213).bind fun h_2219 => ((gR h_2219 5 0 q0).bind fun v_2221 => ((gI h_2219 6 2 v_2221).bind fun v_2223 => ((pV h_2219 6 2 v_2221 (.int (v_2223 + (1 : Int32)))).bind fun h_2225 => (fX5_readRoom_l10 N q0 q1 kx n h_2225 (x2 + (1 : Int32))))))))))))))
set_option maxRecDepth 10000 in
set_option maxHeartbeats 4000000 in
theorem rX5_readRoom_l10 {d N : Nat} (hd : 3 ≤ d) {q0 : Nat} {q1 : Nat} {kx : iv_H → Option (iv_H)} {r : iv_H} {Q : Option Value → iv_H → Prop} (hk : ∀ (h : iv_H), kx h = some r → Rn d 80 none 80 [some (.ref q0), some (.ref q1), none, none, none, none] [] h Q) (hq : Q none r) : ∀ (n : Nat) (h : iv_H) (x2 : Int32), fX5_readRoom_l10 N q0 q1 kx n h x2 = some r → Rn d 80 none 10 [some (.ref q0), some (.ref q1), some (.int x2), none, none, none] [] h Q := by
  have hT := hX5_readRoom
  intro n
  induction n with
  | zero =>
    intro h x2 e
    rw [fX5_readRoom_l10] at e
    cases e
  | succ n ih =>
    intro h x2 e
    rw [fX5_readRoom_l10] at e
    refine Rn.n hT 2 (pc' := 12) (L' := [some (.ref q0), some (.ref q1), some (.int x2), none, none, none]) (st' := [.int (4 : Int32), .int x2]) rfl ?_
    by_cases c_2206 : (4 : Int32) ≤ x2
    · rw [if_pos c_2206] at e
      refine Rn.bt hT rfl rfl rfl (decide_eq_true c_2206) ?_
      exact Rn.weak (ll_s (ll_s (ll_n (ll_n (ll_n (ll_n ll_e)))))) (hk h e)
    · rw [if_neg c_2206] at e
      refine Rn.bf hT rfl rfl rfl (decide_eq_false c_2206) ?_
      refine Rn.n hT 1 (pc' := 16) (L' := [some (.ref q0), some (.ref q1), some (.int x2), none, none, none]) (st' := [.ref q0]) rfl ?_
      obtain ⟨v_2207, e_2208, e⟩ := Option.bind_eq_some_iff.mp e
      refine Rn.hp hT rfl rfl (gR_hp e_2208) ?_
      obtain ⟨_, e_2210, e⟩ := Option.bind_eq_some_iff.mp e
      obtain ⟨v_2211, e_2209, e⟩ := Option.bind_eq_some_iff.mp e
      refine Rn.call hT rfl rfl rfl (Nat.le_of_ble_eq_true rfl) (rcv_v gX6_here (by omega) e_2210) (rX6_here (by omega) e_2209 ?_)
      show Rn d _ _ 22 [some (.ref q0), some (.ref q1), some (.int x2), none, none, none] [.int v_2211] h Q
      obtain ⟨v_2213, e_2212, e⟩ := Option.bind_eq_some_iff.mp e
      refine Rn.call hT rfl rfl rfl (Nat.le_of_ble_eq_true rfl) rfl (rX5_sortOf (by omega) e_2212 ?_)
      show Rn d _ _ 25 [some (.ref q0), some (.ref q1), some (.int x2), none, none, none] [.int v_2213] h Q
      refine Rn.n hT 3 (pc' := 28) (L' := [some (.ref q0), some (.ref q1), some (.int x2), some (.int v_2213), none, none]) (st' := [.int (-1 : Int32), .int v_2213]) rfl ?_
      by_cases c_2214 : v_2213 = (-1 : Int32)
      · rw [if_pos c_2214] at e
        refine Rn.bf hT rfl rfl rfl (decide_eq_false (fun z => z c_2214)) ?_
        refine Rn.n hT 1 (pc' := 32) (L' := [some (.ref q0), some (.ref q1), some (.int x2), some (.int v_2213), none, none]) (st' := [.ref q0]) rfl ?_
        obtain ⟨v_2227, e_2228, e⟩ := Option.bind_eq_some_iff.mp e
        refine Rn.hp hT rfl rfl (gR_hp e_2228) ?_
        refine Rn.n hT 1 (pc' := 36) (L' := [some (.ref q0), some (.ref q1), some (.int x2), some (.int v_2213), none, none]) (st' := [.ref q0, .ref v_2227]) rfl ?_
        obtain ⟨v_2229, e_2230, e⟩ := Option.bind_eq_some_iff.mp e
        refine Rn.hp hT rfl rfl (gR_hp e_2230) ?_
        obtain ⟨v_2231, e_2232, e⟩ := Option.bind_eq_some_iff.mp e
        refine Rn.hp hT rfl rfl (gI_hp e_2232) ?_
        refine Rn.n hT 1 (pc' := 43) (L' := [some (.ref q0), some (.ref q1), some (.int x2), some (.int v_2213), none, none]) (st' := [.int (0 : Int32), .int v_2231, .ref v_2227]) rfl ?_
        obtain ⟨_, e_2234, e⟩ := Option.bind_eq_some_iff.mp e
        obtain ⟨h_2236, e_2233, e⟩ := Option.bind_eq_some_iff.mp e
        refine Rn.call hT rfl rfl rfl (Nat.le_of_ble_eq_true rfl) (rcv_v gX6_fail (by omega) e_2234) (rX6_fail (by omega) e_2233 ?_)
        show Rn d _ _ 46 [some (.ref q0), some (.ref q1), some (.int x2), some (.int v_2213), none, none] [] h_2236 Q
        obtain rfl := Option.some.inj e
        exact Rn.ret hT rfl rfl rfl hq
      · rw [if_neg c_2214] at e
        refine Rn.bt hT rfl rfl rfl (decide_eq_true c_2214) ?_
        refine Rn.n hT 1 (pc' := 48) (L' := [some (.ref q0), some (.ref q1), some (.int x2), some (.int v_2213), none, none]) (st' := [.ref q1]) rfl ?_
        obtain ⟨v_2215, e_2216, e⟩ := Option.bind_eq_some_iff.mp e
        refine Rn.hp hT rfl rfl (gR_hp e_2216) ?_
        refine Rn.n hT 2 (pc' := 53) (L' := [some (.ref q0), some (.ref q1), some (.int x2), some (.int v_2213), none, none]) (st' := [.ref q1, .int (4 : Int32), .ref v_2215]) rfl ?_
        obtain ⟨v_2217, e_2218, e⟩ := Option.bind_eq_some_iff.mp e
        refine Rn.hp hT rfl rfl (gI_hp e_2218) ?_
        refine Rn.n hT 4 (pc' := 60) (L' := [some (.ref q0), some (.ref q1), some (.int x2), some (.int v_2213), none, none]) (st' := [.int v_2213, .int (((4 : Int32) * v_2217) + x2), .ref v_2215]) rfl ?_
        obtain ⟨h_2219, e_2220, e⟩ := Option.bind_eq_some_iff.mp e
        refine Rn.hp hT rfl rfl (wI_hp e_2220) ?_
        refine Rn.n hT 1 (pc' := 62) (L' := [some (.ref q0), some (.ref q1), some (.int x2), some (.int v_2213), none, none]) (st' := [.ref q0]) rfl ?_
        obtain ⟨v_2221, e_2222, e⟩ := Option.bind_eq_some_iff.mp e
        refine Rn.hp hT rfl rfl (gR_hp e_2222) ?_
        refine Rn.n hT 1 (pc' := 66) (L' := [some (.ref q0), some (.ref q1), some (.int x2), some (.int v_2213), none, none]) (st' := [.ref v_2221, .ref v_2221]) rfl ?_
        obtain ⟨v_2223, e_2224, e⟩ := Option.bind_eq_some_iff.mp e
        refine Rn.hp hT rfl rfl (gI_hp e_2224) ?_
        refine Rn.n hT 2 (pc' := 71) (L' := [some (.ref q0), some (.ref q1), some (.int x2), some (.int v_2213), none, none]) (st' := [.int (v_2223 + (1 : Int32)), .ref v_2221]) rfl ?_
        obtain ⟨h_2225, e_2226, e⟩ := Option.bind_eq_some_iff.mp e
        refine Rn.hp hT rfl rfl (pV_hp rfl e_2226) ?_
        refine Rn.n hT 2 (pc' := 10) (L' := [some (.ref q0), some (.ref q1), some (.int (x2 + (1 : Int32))), some (.int v_2213), none, none]) (st' := []) rfl ?_
        exact Rn.weak (ll_s (ll_s (ll_s (ll_n (ll_n (ll_n ll_e)))))) (ih h_2225 (x2 + (1 : Int32)) e)
def fX5_readRoom_b157 (N : Nat) (h : iv_H) (q0 : Nat) (x3 : Int32)  : Option (iv_H) := ((gR h 5 0 q0).bind fun v_2237 => ((cko h v_2237 6).bind fun _ => (fX6_fail N h v_2237 x3 (5 : Int32)).bind fun h_2242 => some h_2242))
set_option maxRecDepth 10000 in
set_option maxHeartbeats 4000000 in
theorem rX5_readRoom_b157 {d N : Nat} (hd : 3 ≤ d) {h : iv_H} {q0 : Nat} {x3 : Int32}  {r : iv_H} {Q : Option Value → iv_H → Prop} (hq : Q none r) (e : fX5_readRoom_b157 N h q0 x3  = some r) : Rn d 80 none 157 [some (.ref q0), none, none, some (.int x3), none, none] [] h Q := by
  have hT := hX5_readRoom
  unfold fX5_readRoom_b157 at e
  refine Rn.n hT 1 (pc' := 158) (L' := [some (.ref q0), none, none, some (.int x3), none, none]) (st' := [.ref q0]) rfl ?_
  obtain ⟨v_2237, e_2238, e⟩ := Option.bind_eq_some_iff.mp e
  refine Rn.hp hT rfl rfl (gR_hp e_2238) ?_
  refine Rn.n hT 2 (pc' := 163) (L' := [some (.ref q0), none, none, some (.int x3), none, none]) (st' := [.int (5 : Int32), .int x3, .ref v_2237]) rfl ?_
  obtain ⟨_, e_2240, e⟩ := Option.bind_eq_some_iff.mp e
  obtain ⟨h_2242, e_2239, e⟩ := Option.bind_eq_some_iff.mp e
  refine Rn.call hT rfl rfl rfl (Nat.le_of_ble_eq_true rfl) (rcv_v gX6_fail (by omega) e_2240) (rX6_fail (by omega) e_2239 ?_)
  show Rn d _ _ 166 [some (.ref q0), none, none, some (.int x3), none, none] [] h_2242 Q
  obtain rfl := Option.some.inj e
  exact Rn.ret hT rfl rfl rfl hq
def fX5_readRoom (N : Nat) (h : iv_H) (q0 : Nat) (q1 : Nat) : Option (iv_H) := ((gR h 5 0 q0).bind fun v_2151 => ((cko h v_2151 6).bind fun _ => (fX6_skipBlanks N h v_2151).bind fun p_2205 => (fun (v_2155 : Int32) (h_2156 : iv_H) => (fX5_readRoom_l10 N q0 q1 (fun (h_2157 : iv_H) => ((gR h_2157 5 0 q0).bind fun v_2158 => ((cko h_2157 v_2158 6).bind fun _ => (fX6_readNumber N h_2157 v_2158 (0 : Int32) (3 : Int32)).bind fun p_2204 => (fun (v_2162 : Int32) (h_2163 : iv_H) => ((gR h_2163 5 0 q0).bind fun v_2164 => ((gI h_2163 6 3 v_2164).bind fun v_2166 => ((gR h_2163 5 0 q0).bind fun v_2168 => ((gI h_2163 6 4 v_2168).bind fun v_2170 => (if v_2170 = 0 then ((gR h_2163 5 0 q0).bind fun v_2173 => ((cko h_2163 v_2173 6).bind fun _ => (fX6_readNumber N h_2163 v_2173 (0 : Int32) (3 : Int32)).bind fun p_2203 => (fun (v_2177 : Int32) (h_2178 : iv_H) => ((gR h_2178 5 0 q0).bind fun v_2179 => ((gI h_2178 6 4 v_2179).bind fun v_2181 => (if v_2181 = 0 then ((cko h_2178 q1 1).bind fun _ => (fX1_cellAt N h_2178 q1 v_2162 v_2177).bind fun v_2186 => (if v_2186 = (-1 : Int32) then (fX5_readRoom_b157 N h_2178 q0 v_2166) else ((gR h_2178 1 7 q1).bind fun v_2188 => ((aI h_2178 v_2188 v_2186).bind fun v_2190 => (if v_2190 = (-1 : Int32) then ((gI h_2178 1 2 q1).bind fun v_2193 => ((cko h_2178 q1 1).bind fun _ => (fX1_put N h_2178 q1 v_2193 v_2186 (0 : Int32)).bind fun h_2198 => ((gI h_2198 1 2 q1).bind fun v_2199 => ((pV h_2198 1 2 q1 (.int (v_2199 + (1 : Int32)))).bind fun h_2201 => some h_2201)))) else (fX5_readRoom_b157 N h_2178 q0 v_2166)))))) else some h_2178)))) p_2203.1 p_2203.2)) else some h_2163)))))) p_2204.1 p_2204.2))) N h_2156 (0 : Int32))) p_2205.1 p_2205.2))
set_option maxRecDepth 10000 in
set_option maxHeartbeats 4000000 in
theorem rX5_readRoom {d N : Nat} (hd : 4 ≤ d) {h : iv_H} {q0 : Nat} {q1 : Nat} {r : iv_H} {Q : Option Value → iv_H → Prop} (e : fX5_readRoom N h q0 q1 = some r) (hq : Q none r) : Cl d 80 [.ref q0, .ref q1] h Q := by
  obtain ⟨d, rfl⟩ : ∃ k, d = k + 1 := ⟨d - 1, by omega⟩
  have hd : 3 ≤ d := by omega
  have hT := hX5_readRoom
  unfold fX5_readRoom at e
  refine Cl.into (by decide) gX5_readRoom rfl ?_
  show Rn d 80 none 0 [some (.ref q0), some (.ref q1), none, none, none, none] [] h Q
  refine Rn.n hT 1 (pc' := 1) (L' := [some (.ref q0), some (.ref q1), none, none, none, none]) (st' := [.ref q0]) rfl ?_
  obtain ⟨v_2151, e_2152, e⟩ := Option.bind_eq_some_iff.mp e
  refine Rn.hp hT rfl rfl (gR_hp e_2152) ?_
  obtain ⟨_, e_2154, e⟩ := Option.bind_eq_some_iff.mp e
  obtain ⟨⟨v_2155, h_2156⟩, e_2153, e⟩ := Option.bind_eq_some_iff.mp e
  try dsimp only at e
  try dsimp only at e
  refine Rn.call hT rfl rfl rfl (Nat.le_of_ble_eq_true rfl) (rcv_v gX6_skipBlanks (by omega) e_2154) (rX6_skipBlanks (by omega) e_2153 ?_)
  show Rn d _ _ 7 [some (.ref q0), some (.ref q1), none, none, none, none] [.int v_2155] h_2156 Q
  refine Rn.n hT 3 (pc' := 10) (L' := [some (.ref q0), some (.ref q1), some (.int (0 : Int32)), none, none, none]) (st' := []) rfl ?_
  refine Rn.weak (ll_s (ll_s (ll_s (ll_n (ll_n (ll_n ll_e)))))) (rX5_readRoom_l10 hd (fun h_2157 e => ?_) hq N h_2156 (0 : Int32) e)
  try dsimp only at e
  refine Rn.n hT 1 (pc' := 81) (L' := [some (.ref q0), some (.ref q1), none, none, none, none]) (st' := [.ref q0]) rfl ?_
  obtain ⟨v_2158, e_2159, e⟩ := Option.bind_eq_some_iff.mp e
  refine Rn.hp hT rfl rfl (gR_hp e_2159) ?_
  refine Rn.n hT 2 (pc' := 86) (L' := [some (.ref q0), some (.ref q1), none, none, none, none]) (st' := [.int (3 : Int32), .int (0 : Int32), .ref v_2158]) rfl ?_
  obtain ⟨_, e_2161, e⟩ := Option.bind_eq_some_iff.mp e
  obtain ⟨⟨v_2162, h_2163⟩, e_2160, e⟩ := Option.bind_eq_some_iff.mp e
  try dsimp only at e
  try dsimp only at e
  refine Rn.call hT rfl rfl rfl (Nat.le_of_ble_eq_true rfl) (rcv_v gX6_readNumber (by omega) e_2161) (rX6_readNumber (by omega) e_2160 ?_)
  show Rn d _ _ 89 [some (.ref q0), some (.ref q1), none, none, none, none] [.int v_2162] h_2163 Q
  refine Rn.n hT 2 (pc' := 91) (L' := [some (.ref q0), some (.ref q1), some (.int v_2162), none, none, none]) (st' := [.ref q0]) rfl ?_
  obtain ⟨v_2164, e_2165, e⟩ := Option.bind_eq_some_iff.mp e
  refine Rn.hp hT rfl rfl (gR_hp e_2165) ?_
  obtain ⟨v_2166, e_2167, e⟩ := Option.bind_eq_some_iff.mp e
  refine Rn.hp hT rfl rfl (gI_hp e_2167) ?_
  refine Rn.n hT 2 (pc' := 99) (L' := [some (.ref q0), some (.ref q1), some (.int v_2162), some (.int v_2166), none, none]) (st' := [.ref q0]) rfl ?_
  obtain ⟨v_2168, e_2169, e⟩ := Option.bind_eq_some_iff.mp e
  refine Rn.hp hT rfl rfl (gR_hp e_2169) ?_
  obtain ⟨v_2170, e_2171, e⟩ := Option.bind_eq_some_iff.mp e
  refine Rn.hp hT rfl rfl (gI_hp e_2171) ?_
  by_cases c_2172 : v_2170 = 0
  · rw [if_pos c_2172] at e
    refine Rn.bt hT rfl rfl rfl (decide_eq_true c_2172) ?_
    refine Rn.n hT 1 (pc' := 110) (L' := [some (.ref q0), some (.ref q1), some (.int v_2162), some (.int v_2166), none, none]) (st' := [.ref q0]) rfl ?_
    obtain ⟨v_2173, e_2174, e⟩ := Option.bind_eq_some_iff.mp e
    refine Rn.hp hT rfl rfl (gR_hp e_2174) ?_
    refine Rn.n hT 2 (pc' := 115) (L' := [some (.ref q0), some (.ref q1), some (.int v_2162), some (.int v_2166), none, none]) (st' := [.int (3 : Int32), .int (0 : Int32), .ref v_2173]) rfl ?_
    obtain ⟨_, e_2176, e⟩ := Option.bind_eq_some_iff.mp e
    obtain ⟨⟨v_2177, h_2178⟩, e_2175, e⟩ := Option.bind_eq_some_iff.mp e
    try dsimp only at e
    try dsimp only at e
    refine Rn.call hT rfl rfl rfl (Nat.le_of_ble_eq_true rfl) (rcv_v gX6_readNumber (by omega) e_2176) (rX6_readNumber (by omega) e_2175 ?_)
    show Rn d _ _ 118 [some (.ref q0), some (.ref q1), some (.int v_2162), some (.int v_2166), none, none] [.int v_2177] h_2178 Q
    refine Rn.n hT 2 (pc' := 121) (L' := [some (.ref q0), some (.ref q1), some (.int v_2162), some (.int v_2166), some (.int v_2177), none]) (st' := [.ref q0]) rfl ?_
    obtain ⟨v_2179, e_2180, e⟩ := Option.bind_eq_some_iff.mp e
    refine Rn.hp hT rfl rfl (gR_hp e_2180) ?_
    obtain ⟨v_2181, e_2182, e⟩ := Option.bind_eq_some_iff.mp e
    refine Rn.hp hT rfl rfl (gI_hp e_2182) ?_
    by_cases c_2183 : v_2181 = 0
    · rw [if_pos c_2183] at e
      refine Rn.bt hT rfl rfl rfl (decide_eq_true c_2183) ?_
      refine Rn.n hT 3 (pc' := 135) (L' := [some (.ref q0), some (.ref q1), some (.int v_2162), some (.int v_2166), some (.int v_2177), none]) (st' := [.int v_2177, .int v_2162, .ref q1]) rfl ?_
      obtain ⟨_, e_2185, e⟩ := Option.bind_eq_some_iff.mp e
      obtain ⟨v_2186, e_2184, e⟩ := Option.bind_eq_some_iff.mp e
      refine Rn.call hT rfl rfl rfl (Nat.le_of_ble_eq_true rfl) (rcv_v gX1_cellAt (by omega) e_2185) (rX1_cellAt (by omega) e_2184 ?_)
      show Rn d _ _ 138 [some (.ref q0), some (.ref q1), some (.int v_2162), some (.int v_2166), some (.int v_2177), none] [.int v_2186] h_2178 Q
      refine Rn.n hT 3 (pc' := 143) (L' := [some (.ref q0), some (.ref q1), some (.int v_2162), some (.int v_2166), some (.int v_2177), some (.int v_2186)]) (st' := [.int (-1 : Int32), .int v_2186]) rfl ?_
      by_cases c_2187 : v_2186 = (-1 : Int32)
      · rw [if_pos c_2187] at e
        refine Rn.bt hT rfl rfl rfl (decide_eq_true c_2187) ?_
        exact Rn.weak (ll_s (ll_n (ll_n (ll_s (ll_n (ll_n ll_e)))))) (rX5_readRoom_b157 hd hq e)
      · rw [if_neg c_2187] at e
        refine Rn.bf hT rfl rfl rfl (decide_eq_false c_2187) ?_
        refine Rn.n hT 1 (pc' := 147) (L' := [some (.ref q0), some (.ref q1), some (.int v_2162), some (.int v_2166), some (.int v_2177), some (.int v_2186)]) (st' := [.ref q1]) rfl ?_
        obtain ⟨v_2188, e_2189, e⟩ := Option.bind_eq_some_iff.mp e
        refine Rn.hp hT rfl rfl (gR_hp e_2189) ?_
        refine Rn.n hT 1 (pc' := 152) (L' := [some (.ref q0), some (.ref q1), some (.int v_2162), some (.int v_2166), some (.int v_2177), some (.int v_2186)]) (st' := [.int v_2186, .ref v_2188]) rfl ?_
        obtain ⟨v_2190, e_2191, e⟩ := Option.bind_eq_some_iff.mp e
        refine Rn.hp hT rfl rfl (aI_hp e_2191) ?_
        refine Rn.n hT 1 (pc' := 154) (L' := [some (.ref q0), some (.ref q1), some (.int v_2162), some (.int v_2166), some (.int v_2177), some (.int v_2186)]) (st' := [.int (-1 : Int32), .int v_2190]) rfl ?_
        by_cases c_2192 : v_2190 = (-1 : Int32)
        · rw [if_pos c_2192] at e
          refine Rn.bt hT rfl rfl rfl (decide_eq_true c_2192) ?_
          refine Rn.n hT 2 (pc' := 169) (L' := [some (.ref q0), some (.ref q1), some (.int v_2162), some (.int v_2166), some (.int v_2177), some (.int v_2186)]) (st' := [.ref q1, .ref q1]) rfl ?_
          obtain ⟨v_2193, e_2194, e⟩ := Option.bind_eq_some_iff.mp e
          refine Rn.hp hT rfl rfl (gI_hp e_2194) ?_
          refine Rn.n hT 2 (pc' := 175) (L' := [some (.ref q0), some (.ref q1), some (.int v_2162), some (.int v_2166), some (.int v_2177), some (.int v_2186)]) (st' := [.int (0 : Int32), .int v_2186, .int v_2193, .ref q1]) rfl ?_
          obtain ⟨_, e_2196, e⟩ := Option.bind_eq_some_iff.mp e
          obtain ⟨h_2198, e_2195, e⟩ := Option.bind_eq_some_iff.mp e
          refine Rn.call hT rfl rfl rfl (Nat.le_of_ble_eq_true rfl) (rcv_v gX1_put (by omega) e_2196) (rX1_put (by omega) e_2195 ?_)
          show Rn d _ _ 178 [some (.ref q0), some (.ref q1), some (.int v_2162), some (.int v_2166), some (.int v_2177), some (.int v_2186)] [] h_2198 Q
          refine Rn.n hT 2 (pc' := 180) (L' := [some (.ref q0), some (.ref q1), some (.int v_2162), some (.int v_2166), some (.int v_2177), some (.int v_2186)]) (st' := [.ref q1, .ref q1]) rfl ?_
          obtain ⟨v_2199, e_2200, e⟩ := Option.bind_eq_some_iff.mp e
          refine Rn.hp hT rfl rfl (gI_hp e_2200) ?_
          refine Rn.n hT 2 (pc' := 185) (L' := [some (.ref q0), some (.ref q1), some (.int v_2162), some (.int v_2166), some (.int v_2177), some (.int v_2186)]) (st' := [.int (v_2199 + (1 : Int32)), .ref q1]) rfl ?_
          obtain ⟨h_2201, e_2202, e⟩ := Option.bind_eq_some_iff.mp e
          refine Rn.hp hT rfl rfl (pV_hp rfl e_2202) ?_
          obtain rfl := Option.some.inj e
          exact Rn.ret hT rfl rfl rfl hq
        · rw [if_neg c_2192] at e
          refine Rn.bf hT rfl rfl rfl (decide_eq_false c_2192) ?_
          exact Rn.weak (ll_s (ll_n (ll_n (ll_s (ll_n (ll_n ll_e)))))) (rX5_readRoom_b157 hd hq e)
    · rw [if_neg c_2183] at e
      refine Rn.bf hT rfl rfl rfl (decide_eq_false c_2183) ?_
      obtain rfl := Option.some.inj e
      exact Rn.ret hT rfl rfl rfl hq
  · rw [if_neg c_2172] at e
    refine Rn.bf hT rfl rfl rfl (decide_eq_false c_2172) ?_
    obtain rfl := Option.some.inj e
    exact Rn.ret hT rfl rfl rfl hq
set_option maxRecDepth 10000 in
theorem hX5_readFixed : iv_Tb 82 tX5_readFixed := iv_tb_of (m := mX5_readFixed) rfl
set_option maxRecDepth 10000 in
theorem gX5_readFixed : PG.2 82 = some mX5_readFixed := iv_pi_of (t := tX5_readFixed) rfl (by decide)
def fX5_readFixed_b40 (N : Nat) (h : iv_H)   : Option (iv_H) := some h
set_option maxRecDepth 10000 in
set_option maxHeartbeats 4000000 in
theorem rX5_readFixed_b40 {d N : Nat} (hd : 3 ≤ d) {h : iv_H}   {r : iv_H} {Q : Option Value → iv_H → Prop} (hq : Q none r) (e : fX5_readFixed_b40 N h   = some r) : Rn d 82 none 40 [none, none, none] [] h Q := by
  have hT := hX5_readFixed
  unfold fX5_readFixed_b40 at e
  obtain rfl := Option.some.inj e
  exact Rn.ret hT rfl rfl rfl hq
def fX5_readFixed (N : Nat) (h : iv_H) (q0 : Nat) (q1 : Nat) : Option (iv_H) := ((gR h 5 0 q0).bind fun v_2243 => ((gR h 2 9 q1).bind fun v_2245 => ((gI h 1 2 v_2245).bind fun v_2247 => ((cko h v_2243 6).bind fun _ => (fX6_readNumber N h v_2243 (0 : Int32) (v_2247 - (1 : Int32))).bind fun p_2262 => (fun (v_2251 : Int32) (h_2252 : iv_H) => ((gR h_2252 5 0 q0).bind fun v_2253 => ((gI h_2252 6 4 v_2253).bind fun v_2255 => (if v_2255 = 0 then ((gI h_2252 2 3 q1).bind fun v_2258 => ((pV h_2252 2 3 q1 (.int (v_2258 ||| ((1 : Int32) <<< (v_2251 &&& 31))))).bind fun h_2260 => (fX5_readFixed_b40 N h_2260))) else (fX5_readFixed_b40 N h_2252))))) p_2262.1 p_2262.2))))
set_option maxRecDepth 10000 in
set_option maxHeartbeats 4000000 in
theorem rX5_readFixed {d N : Nat} (hd : 4 ≤ d) {h : iv_H} {q0 : Nat} {q1 : Nat} {r : iv_H} {Q : Option Value → iv_H → Prop} (e : fX5_readFixed N h q0 q1 = some r) (hq : Q none r) : Cl d 82 [.ref q0, .ref q1] h Q := by
  obtain ⟨d, rfl⟩ : ∃ k, d = k + 1 := ⟨d - 1, by omega⟩
  have hd : 3 ≤ d := by omega
  have hT := hX5_readFixed
  unfold fX5_readFixed at e
  refine Cl.into (by decide) gX5_readFixed rfl ?_
  show Rn d 82 none 0 [some (.ref q0), some (.ref q1), none] [] h Q
  refine Rn.n hT 1 (pc' := 1) (L' := [some (.ref q0), some (.ref q1), none]) (st' := [.ref q0]) rfl ?_
  obtain ⟨v_2243, e_2244, e⟩ := Option.bind_eq_some_iff.mp e
  refine Rn.hp hT rfl rfl (gR_hp e_2244) ?_
  refine Rn.n hT 2 (pc' := 6) (L' := [some (.ref q0), some (.ref q1), none]) (st' := [.ref q1, .int (0 : Int32), .ref v_2243]) rfl ?_
  obtain ⟨v_2245, e_2246, e⟩ := Option.bind_eq_some_iff.mp e
  refine Rn.hp hT rfl rfl (gR_hp e_2246) ?_
  obtain ⟨v_2247, e_2248, e⟩ := Option.bind_eq_some_iff.mp e
  refine Rn.hp hT rfl rfl (gI_hp e_2248) ?_
  refine Rn.n hT 2 (pc' := 14) (L' := [some (.ref q0), some (.ref q1), none]) (st' := [.int (v_2247 - (1 : Int32)), .int (0 : Int32), .ref v_2243]) rfl ?_
  obtain ⟨_, e_2250, e⟩ := Option.bind_eq_some_iff.mp e
  obtain ⟨⟨v_2251, h_2252⟩, e_2249, e⟩ := Option.bind_eq_some_iff.mp e
  try dsimp only at e
  try dsimp only at e
  refine Rn.call hT rfl rfl rfl (Nat.le_of_ble_eq_true rfl) (rcv_v gX6_readNumber (by omega) e_2250) (rX6_readNumber (by omega) e_2249 ?_)
  show Rn d _ _ 17 [some (.ref q0), some (.ref q1), none] [.int v_2251] h_2252 Q
  refine Rn.n hT 2 (pc' := 19) (L' := [some (.ref q0), some (.ref q1), some (.int v_2251)]) (st' := [.ref q0]) rfl ?_
  obtain ⟨v_2253, e_2254, e⟩ := Option.bind_eq_some_iff.mp e
  refine Rn.hp hT rfl rfl (gR_hp e_2254) ?_
  obtain ⟨v_2255, e_2256, e⟩ := Option.bind_eq_some_iff.mp e
  refine Rn.hp hT rfl rfl (gI_hp e_2256) ?_
  by_cases c_2257 : v_2255 = 0
  · rw [if_pos c_2257] at e
    refine Rn.bf hT rfl rfl rfl (decide_eq_false (fun z => z c_2257)) ?_
    refine Rn.n hT 2 (pc' := 30) (L' := [some (.ref q0), some (.ref q1), some (.int v_2251)]) (st' := [.ref q1, .ref q1]) rfl ?_
    obtain ⟨v_2258, e_2259, e⟩ := Option.bind_eq_some_iff.mp e
    refine Rn.hp hT rfl rfl (gI_hp e_2259) ?_
    refine Rn.n hT 4 (pc' := 37) (L' := [some (.ref q0), some (.ref q1), some (.int v_2251)]) (st' := [.int (v_2258 ||| ((1 : Int32) <<< (v_2251 &&& 31))), .ref q1]) rfl ?_
    obtain ⟨h_2260, e_2261, e⟩ := Option.bind_eq_some_iff.mp e
    refine Rn.hp hT rfl rfl (pV_hp rfl e_2261) ?_
    exact Rn.weak (ll_n (ll_n (ll_n ll_e))) (rX5_readFixed_b40 hd hq e)
  · rw [if_neg c_2257] at e
    refine Rn.bt hT rfl rfl rfl (decide_eq_true c_2257) ?_
    exact Rn.weak (ll_n (ll_n (ll_n ll_e))) (rX5_readFixed_b40 hd hq e)
set_option maxRecDepth 10000 in
theorem hX5_readKey : iv_Tb 83 tX5_readKey := iv_tb_of (m := mX5_readKey) rfl
set_option maxRecDepth 10000 in
theorem gX5_readKey : PG.2 83 = some mX5_readKey := iv_pi_of (t := tX5_readKey) rfl (by decide)
def fX5_readKey_b56 (N : Nat) (h : iv_H)   : Option (iv_H) := some h
set_option maxRecDepth 10000 in
set_option maxHeartbeats 4000000 in
theorem rX5_readKey_b56 {d N : Nat} (hd : 3 ≤ d) {h : iv_H}   {r : iv_H} {Q : Option Value → iv_H → Prop} (hq : Q none r) (e : fX5_readKey_b56 N h   = some r) : Rn d 83 none 56 [none, none, none, none] [] h Q := by
  have hT := hX5_readKey
  unfold fX5_readKey_b56 at e
  obtain rfl := Option.some.inj e
  exact Rn.ret hT rfl rfl rfl hq
def fX5_readKey (N : Nat) (h : iv_H) (q0 : Nat) (q1 : Nat) : Option (iv_H) := ((gR h 5 0 q0).bind fun v_2263 => ((cko h v_2263 6).bind fun _ => (fX6_readNumber N h v_2263 (1 : Int32) (4 : Int32)).bind fun p_2294 => (fun (v_2267 : Int32) (h_2268 : iv_H) => ((gR h_2268 5 0 q0).bind fun v_2269 => ((gI h_2268 6 4 v_2269).bind fun v_2271 => (if v_2271 = 0 then ((gR h_2268 5 0 q0).bind fun v_2274 => ((gR h_2268 2 9 q1).bind fun v_2276 => ((gI h_2268 1 2 v_2276).bind fun v_2278 => ((cko h_2268 v_2274 6).bind fun _ => (fX6_readNumber N h_2268 v_2274 (0 : Int32) (v_2278 - (1 : Int32))).bind fun p_2293 => (fun (v_2282 : Int32) (h_2283 : iv_H) => ((gR h_2283 5 0 q0).bind fun v_2284 => ((gI h_2283 6 4 v_2284).bind fun v_2286 => (if v_2286 = 0 then ((gR h_2283 2 10 q1).bind fun v_2289 => ((wI h_2283 v_2289 v_2267 v_2282).bind fun h_2291 => (fX5_readKey_b56 N h_2291))) else (fX5_readKey_b56 N h_2283))))) p_2293.1 p_2293.2)))) else some h_2268)))) p_2294.1 p_2294.2))
set_option maxRecDepth 10000 in
set_option maxHeartbeats 4000000 in
theorem rX5_readKey {d N : Nat} (hd : 4 ≤ d) {h : iv_H} {q0 : Nat} {q1 : Nat} {r : iv_H} {Q : Option Value → iv_H → Prop} (e : fX5_readKey N h q0 q1 = some r) (hq : Q none r) : Cl d 83 [.ref q0, .ref q1] h Q := by
  obtain ⟨d, rfl⟩ : ∃ k, d = k + 1 := ⟨d - 1, by omega⟩
  have hd : 3 ≤ d := by omega
  have hT := hX5_readKey
  unfold fX5_readKey at e
  refine Cl.into (by decide) gX5_readKey rfl ?_
  show Rn d 83 none 0 [some (.ref q0), some (.ref q1), none, none] [] h Q
  refine Rn.n hT 1 (pc' := 1) (L' := [some (.ref q0), some (.ref q1), none, none]) (st' := [.ref q0]) rfl ?_
  obtain ⟨v_2263, e_2264, e⟩ := Option.bind_eq_some_iff.mp e
  refine Rn.hp hT rfl rfl (gR_hp e_2264) ?_
  refine Rn.n hT 2 (pc' := 6) (L' := [some (.ref q0), some (.ref q1), none, none]) (st' := [.int (4 : Int32), .int (1 : Int32), .ref v_2263]) rfl ?_
  obtain ⟨_, e_2266, e⟩ := Option.bind_eq_some_iff.mp e
  obtain ⟨⟨v_2267, h_2268⟩, e_2265, e⟩ := Option.bind_eq_some_iff.mp e
  try dsimp only at e
  try dsimp only at e
  refine Rn.call hT rfl rfl rfl (Nat.le_of_ble_eq_true rfl) (rcv_v gX6_readNumber (by omega) e_2266) (rX6_readNumber (by omega) e_2265 ?_)
  show Rn d _ _ 9 [some (.ref q0), some (.ref q1), none, none] [.int v_2267] h_2268 Q
  refine Rn.n hT 2 (pc' := 11) (L' := [some (.ref q0), some (.ref q1), some (.int v_2267), none]) (st' := [.ref q0]) rfl ?_
  obtain ⟨v_2269, e_2270, e⟩ := Option.bind_eq_some_iff.mp e
  refine Rn.hp hT rfl rfl (gR_hp e_2270) ?_
  obtain ⟨v_2271, e_2272, e⟩ := Option.bind_eq_some_iff.mp e
  refine Rn.hp hT rfl rfl (gI_hp e_2272) ?_
  by_cases c_2273 : v_2271 = 0
  · rw [if_pos c_2273] at e
    refine Rn.bt hT rfl rfl rfl (decide_eq_true c_2273) ?_
    refine Rn.n hT 1 (pc' := 22) (L' := [some (.ref q0), some (.ref q1), some (.int v_2267), none]) (st' := [.ref q0]) rfl ?_
    obtain ⟨v_2274, e_2275, e⟩ := Option.bind_eq_some_iff.mp e
    refine Rn.hp hT rfl rfl (gR_hp e_2275) ?_
    refine Rn.n hT 2 (pc' := 27) (L' := [some (.ref q0), some (.ref q1), some (.int v_2267), none]) (st' := [.ref q1, .int (0 : Int32), .ref v_2274]) rfl ?_
    obtain ⟨v_2276, e_2277, e⟩ := Option.bind_eq_some_iff.mp e
    refine Rn.hp hT rfl rfl (gR_hp e_2277) ?_
    obtain ⟨v_2278, e_2279, e⟩ := Option.bind_eq_some_iff.mp e
    refine Rn.hp hT rfl rfl (gI_hp e_2279) ?_
    refine Rn.n hT 2 (pc' := 35) (L' := [some (.ref q0), some (.ref q1), some (.int v_2267), none]) (st' := [.int (v_2278 - (1 : Int32)), .int (0 : Int32), .ref v_2274]) rfl ?_
    obtain ⟨_, e_2281, e⟩ := Option.bind_eq_some_iff.mp e
    obtain ⟨⟨v_2282, h_2283⟩, e_2280, e⟩ := Option.bind_eq_some_iff.mp e
    try dsimp only at e
    try dsimp only at e
    refine Rn.call hT rfl rfl rfl (Nat.le_of_ble_eq_true rfl) (rcv_v gX6_readNumber (by omega) e_2281) (rX6_readNumber (by omega) e_2280 ?_)
    show Rn d _ _ 38 [some (.ref q0), some (.ref q1), some (.int v_2267), none] [.int v_2282] h_2283 Q
    refine Rn.n hT 2 (pc' := 40) (L' := [some (.ref q0), some (.ref q1), some (.int v_2267), some (.int v_2282)]) (st' := [.ref q0]) rfl ?_
    obtain ⟨v_2284, e_2285, e⟩ := Option.bind_eq_some_iff.mp e
    refine Rn.hp hT rfl rfl (gR_hp e_2285) ?_
    obtain ⟨v_2286, e_2287, e⟩ := Option.bind_eq_some_iff.mp e
    refine Rn.hp hT rfl rfl (gI_hp e_2287) ?_
    by_cases c_2288 : v_2286 = 0
    · rw [if_pos c_2288] at e
      refine Rn.bf hT rfl rfl rfl (decide_eq_false (fun z => z c_2288)) ?_
      refine Rn.n hT 1 (pc' := 50) (L' := [some (.ref q0), some (.ref q1), some (.int v_2267), some (.int v_2282)]) (st' := [.ref q1]) rfl ?_
      obtain ⟨v_2289, e_2290, e⟩ := Option.bind_eq_some_iff.mp e
      refine Rn.hp hT rfl rfl (gR_hp e_2290) ?_
      refine Rn.n hT 2 (pc' := 55) (L' := [some (.ref q0), some (.ref q1), some (.int v_2267), some (.int v_2282)]) (st' := [.int v_2282, .int v_2267, .ref v_2289]) rfl ?_
      obtain ⟨h_2291, e_2292, e⟩ := Option.bind_eq_some_iff.mp e
      refine Rn.hp hT rfl rfl (wI_hp e_2292) ?_
      exact Rn.weak (ll_n (ll_n (ll_n (ll_n ll_e)))) (rX5_readKey_b56 hd hq e)
    · rw [if_neg c_2288] at e
      refine Rn.bt hT rfl rfl rfl (decide_eq_true c_2288) ?_
      exact Rn.weak (ll_n (ll_n (ll_n (ll_n ll_e)))) (rX5_readKey_b56 hd hq e)
  · rw [if_neg c_2273] at e
    refine Rn.bf hT rfl rfl rfl (decide_eq_false c_2273) ?_
    obtain rfl := Option.some.inj e
    exact Rn.ret hT rfl rfl rfl hq
set_option maxRecDepth 10000 in
theorem hX5_readPerson : iv_Tb 84 tX5_readPerson := iv_tb_of (m := mX5_readPerson) rfl
set_option maxRecDepth 10000 in
theorem gX5_readPerson : PG.2 84 = some mX5_readPerson := iv_pi_of (t := tX5_readPerson) rfl (by decide)
def fX5_readPerson_b48 (N : Nat) (h : iv_H)   : Option (iv_H) := some h
set_option maxRecDepth 10000 in
set_option maxHeartbeats 4000000 in
theorem rX5_readPerson_b48 {d N : Nat} (hd : 3 ≤ d) {h : iv_H}   {r : iv_H} {Q : Option Value → iv_H → Prop} (hq : Q none r) (e : fX5_readPerson_b48 N h   = some r) : Rn d 84 none 48 [none, none, none] [] h Q := by
  have hT := hX5_readPerson
  unfold fX5_readPerson_b48 at e
  obtain rfl := Option.some.inj e
  exact Rn.ret hT rfl rfl rfl hq
def fX5_readPerson (N : Nat) (h : iv_H) (q0 : Nat) (q1 : Nat) : Option (iv_H) := ((gR h 5 0 q0).bind fun v_2295 => ((gR h 2 9 q1).bind fun v_2297 => ((gI h 1 2 v_2297).bind fun v_2299 => ((cko h v_2295 6).bind fun _ => (fX6_readNumber N h v_2295 (0 : Int32) (v_2299 - (1 : Int32))).bind fun p_2320 => (fun (v_2303 : Int32) (h_2304 : iv_H) => ((gR h_2304 5 0 q0).bind fun v_2305 => ((gI h_2304 6 4 v_2305).bind fun v_2307 => (if v_2307 = 0 then ((gR h_2304 2 11 q1).bind fun v_2310 => ((gI h_2304 2 2 q1).bind fun v_2312 => ((wI h_2304 v_2310 v_2312 v_2303).bind fun h_2314 => ((gI h_2314 2 2 q1).bind fun v_2316 => ((pV h_2314 2 2 q1 (.int (v_2316 + (1 : Int32)))).bind fun h_2318 => (fX5_readPerson_b48 N h_2318)))))) else (fX5_readPerson_b48 N h_2304))))) p_2320.1 p_2320.2))))
set_option maxRecDepth 10000 in
set_option maxHeartbeats 4000000 in
theorem rX5_readPerson {d N : Nat} (hd : 4 ≤ d) {h : iv_H} {q0 : Nat} {q1 : Nat} {r : iv_H} {Q : Option Value → iv_H → Prop} (e : fX5_readPerson N h q0 q1 = some r) (hq : Q none r) : Cl d 84 [.ref q0, .ref q1] h Q := by
  obtain ⟨d, rfl⟩ : ∃ k, d = k + 1 := ⟨d - 1, by omega⟩
  have hd : 3 ≤ d := by omega
  have hT := hX5_readPerson
  unfold fX5_readPerson at e
  refine Cl.into (by decide) gX5_readPerson rfl ?_
  show Rn d 84 none 0 [some (.ref q0), some (.ref q1), none] [] h Q
  refine Rn.n hT 1 (pc' := 1) (L' := [some (.ref q0), some (.ref q1), none]) (st' := [.ref q0]) rfl ?_
  obtain ⟨v_2295, e_2296, e⟩ := Option.bind_eq_some_iff.mp e
  refine Rn.hp hT rfl rfl (gR_hp e_2296) ?_
  refine Rn.n hT 2 (pc' := 6) (L' := [some (.ref q0), some (.ref q1), none]) (st' := [.ref q1, .int (0 : Int32), .ref v_2295]) rfl ?_
  obtain ⟨v_2297, e_2298, e⟩ := Option.bind_eq_some_iff.mp e
  refine Rn.hp hT rfl rfl (gR_hp e_2298) ?_
  obtain ⟨v_2299, e_2300, e⟩ := Option.bind_eq_some_iff.mp e
  refine Rn.hp hT rfl rfl (gI_hp e_2300) ?_
  refine Rn.n hT 2 (pc' := 14) (L' := [some (.ref q0), some (.ref q1), none]) (st' := [.int (v_2299 - (1 : Int32)), .int (0 : Int32), .ref v_2295]) rfl ?_
  obtain ⟨_, e_2302, e⟩ := Option.bind_eq_some_iff.mp e
  obtain ⟨⟨v_2303, h_2304⟩, e_2301, e⟩ := Option.bind_eq_some_iff.mp e
  try dsimp only at e
  try dsimp only at e
  refine Rn.call hT rfl rfl rfl (Nat.le_of_ble_eq_true rfl) (rcv_v gX6_readNumber (by omega) e_2302) (rX6_readNumber (by omega) e_2301 ?_)
  show Rn d _ _ 17 [some (.ref q0), some (.ref q1), none] [.int v_2303] h_2304 Q
  refine Rn.n hT 2 (pc' := 19) (L' := [some (.ref q0), some (.ref q1), some (.int v_2303)]) (st' := [.ref q0]) rfl ?_
  obtain ⟨v_2305, e_2306, e⟩ := Option.bind_eq_some_iff.mp e
  refine Rn.hp hT rfl rfl (gR_hp e_2306) ?_
  obtain ⟨v_2307, e_2308, e⟩ := Option.bind_eq_some_iff.mp e
  refine Rn.hp hT rfl rfl (gI_hp e_2308) ?_
  by_cases c_2309 : v_2307 = 0
  · rw [if_pos c_2309] at e
    refine Rn.bf hT rfl rfl rfl (decide_eq_false (fun z => z c_2309)) ?_
    refine Rn.n hT 1 (pc' := 29) (L' := [some (.ref q0), some (.ref q1), some (.int v_2303)]) (st' := [.ref q1]) rfl ?_
    obtain ⟨v_2310, e_2311, e⟩ := Option.bind_eq_some_iff.mp e
    refine Rn.hp hT rfl rfl (gR_hp e_2311) ?_
    refine Rn.n hT 1 (pc' := 33) (L' := [some (.ref q0), some (.ref q1), some (.int v_2303)]) (st' := [.ref q1, .ref v_2310]) rfl ?_
    obtain ⟨v_2312, e_2313, e⟩ := Option.bind_eq_some_iff.mp e
    refine Rn.hp hT rfl rfl (gI_hp e_2313) ?_
    refine Rn.n hT 1 (pc' := 37) (L' := [some (.ref q0), some (.ref q1), some (.int v_2303)]) (st' := [.int v_2303, .int v_2312, .ref v_2310]) rfl ?_
    obtain ⟨h_2314, e_2315, e⟩ := Option.bind_eq_some_iff.mp e
    refine Rn.hp hT rfl rfl (wI_hp e_2315) ?_
    refine Rn.n hT 2 (pc' := 40) (L' := [some (.ref q0), some (.ref q1), some (.int v_2303)]) (st' := [.ref q1, .ref q1]) rfl ?_
    obtain ⟨v_2316, e_2317, e⟩ := Option.bind_eq_some_iff.mp e
    refine Rn.hp hT rfl rfl (gI_hp e_2317) ?_
    refine Rn.n hT 2 (pc' := 45) (L' := [some (.ref q0), some (.ref q1), some (.int v_2303)]) (st' := [.int (v_2316 + (1 : Int32)), .ref q1]) rfl ?_
    obtain ⟨h_2318, e_2319, e⟩ := Option.bind_eq_some_iff.mp e
    refine Rn.hp hT rfl rfl (pV_hp rfl e_2319) ?_
    exact Rn.weak (ll_n (ll_n (ll_n ll_e))) (rX5_readPerson_b48 hd hq e)
  · rw [if_neg c_2309] at e
    refine Rn.bt hT rfl rfl rfl (decide_eq_true c_2309) ?_
    exact Rn.weak (ll_n (ll_n (ll_n ll_e))) (rX5_readPerson_b48 hd hq e)
set_option maxRecDepth 10000 in
theorem hX5_readClause : iv_Tb 77 tX5_readClause := iv_tb_of (m := mX5_readClause) rfl
set_option maxRecDepth 10000 in
theorem gX5_readClause : PG.2 77 = some mX5_readClause := iv_pi_of (t := tX5_readClause) rfl (by decide)
def fX5_readClause_b146 (N : Nat) (h : iv_H)   : Option (iv_H) := some h
set_option maxRecDepth 10000 in
set_option maxHeartbeats 4000000 in
theorem rX5_readClause_b146 {d N : Nat} (hd : 12 ≤ d) {h : iv_H}   {r : iv_H} {Q : Option Value → iv_H → Prop} (hq : Q none r) (e : fX5_readClause_b146 N h   = some r) : Rn d 77 none 146 [none, none, none, none] [] h Q := by
  have hT := hX5_readClause
  unfold fX5_readClause_b146 at e
  obtain rfl := Option.some.inj e
  exact Rn.ret hT rfl rfl rfl hq
def fX5_readClause (N : Nat) (h : iv_H) (q0 : Nat) (q1 : Nat) (x2 : Int32) : Option (iv_H) := ((gR h 5 0 q0).bind fun v_2321 => ((cko h v_2321 6).bind fun _ => (fX6_readWord N h v_2321 1000010).bind fun p_2384 => (fun (v_2325 : Int32) (h_2326 : iv_H) => ((gR h_2326 5 0 q0).bind fun v_2327 => ((gI h_2326 6 4 v_2327).bind fun v_2329 => (if v_2329 = 0 then ((cko h_2326 q0 5).bind fun _ => (fX5_isTooMuch N h_2326 q0 q1 x2 v_2325).bind fun v_2334 => (if v_2334 = 0 then (if v_2325 = (0 : Int32) then ((cko h_2326 q0 5).bind fun _ => (fX5_readFloor N h_2326 q0 q1).bind fun h_2340 => (fX5_readClause_b146 N h_2340)) else (if v_2325 = (1 : Int32) then ((gR h_2326 2 9 q1).bind fun v_2342 => ((cko h_2326 q0 5).bind fun _ => (fX5_readRoom N h_2326 q0 v_2342).bind fun h_2347 => (fX5_readClause_b146 N h_2347))) else (if v_2325 = (2 : Int32) then ((cko h_2326 q0 5).bind fun _ => (fX5_readFixed N h_2326 q0 q1).bind fun h_2352 => (fX5_readClause_b146 N h_2352)) else (if v_2325 = (3 : Int32) then ((cko h_2326 q0 5).bind fun _ => (fX5_readKey N h_2326 q0 q1).bind fun h_2357 => (fX5_readClause_b146 N h_2357)) else (if v_2325 = (4 : Int32) then ((cko h_2326 q0 5).bind fun _ => (fX5_readPerson N h_2326 q0 q1).bind fun h_2362 => (fX5_readClause_b146 N h_2362)) else ((gR h_2326 5 0 q0).bind fun v_2363 => ((cko h_2326 v_2363 6).bind fun _ => (fX6_readNumber N h_2326 v_2363 (1 : Int32) (7 : Int32)).bind fun p_2373 => (fun (v_2367 : Int32) (h_2368 : iv_H) => ((pV h_2368 2 1 q1 (.int v_2367)).bind fun h_2369 => ((pV h_2369 5 1 q0 (.int (1 : Int32))).bind fun h_2371 => (fX5_readClause_b146 N h_2371)))) p_2373.1 p_2373.2))))))) else ((gR h_2326 5 0 q0).bind fun v_2374 => ((gR h_2326 5 0 q0).bind fun v_2376 => ((gI h_2326 6 3 v_2376).bind fun v_2378 => ((cko h_2326 v_2374 6).bind fun _ => (fX6_fail N h_2326 v_2374 v_2378 (4 : Int32)).bind fun h_2383 => some h_2383)))))) else some h_2326)))) p_2384.1 p_2384.2))
set_option maxRecDepth 10000 in
set_option maxHeartbeats 4000000 in
theorem rX5_readClause {d N : Nat} (hd : 13 ≤ d) {h : iv_H} {q0 : Nat} {q1 : Nat} {x2 : Int32} {r : iv_H} {Q : Option Value → iv_H → Prop} (e : fX5_readClause N h q0 q1 x2 = some r) (hq : Q none r) : Cl d 77 [.ref q0, .ref q1, .int x2] h Q := by
  obtain ⟨d, rfl⟩ : ∃ k, d = k + 1 := ⟨d - 1, by omega⟩
  have hd : 12 ≤ d := by omega
  have hT := hX5_readClause
  unfold fX5_readClause at e
  refine Cl.into (by decide) gX5_readClause rfl ?_
  show Rn d 77 none 0 [some (.ref q0), some (.ref q1), some (.int x2), none] [] h Q
  refine Rn.n hT 1 (pc' := 1) (L' := [some (.ref q0), some (.ref q1), some (.int x2), none]) (st' := [.ref q0]) rfl ?_
  obtain ⟨v_2321, e_2322, e⟩ := Option.bind_eq_some_iff.mp e
  refine Rn.hp hT rfl rfl (gR_hp e_2322) ?_
  refine Rn.n hT 1 (pc' := 6) (L' := [some (.ref q0), some (.ref q1), some (.int x2), none]) (st' := [.ref 1000010, .ref v_2321]) rfl ?_
  obtain ⟨_, e_2324, e⟩ := Option.bind_eq_some_iff.mp e
  obtain ⟨⟨v_2325, h_2326⟩, e_2323, e⟩ := Option.bind_eq_some_iff.mp e
  try dsimp only at e
  try dsimp only at e
  refine Rn.call hT rfl rfl rfl (Nat.le_of_ble_eq_true rfl) (rcv_v gX6_readWord (by omega) e_2324) (rX6_readWord (by omega) e_2323 ?_)
  show Rn d _ _ 9 [some (.ref q0), some (.ref q1), some (.int x2), none] [.int v_2325] h_2326 Q
  refine Rn.n hT 2 (pc' := 11) (L' := [some (.ref q0), some (.ref q1), some (.int x2), some (.int v_2325)]) (st' := [.ref q0]) rfl ?_
  obtain ⟨v_2327, e_2328, e⟩ := Option.bind_eq_some_iff.mp e
  refine Rn.hp hT rfl rfl (gR_hp e_2328) ?_
  obtain ⟨v_2329, e_2330, e⟩ := Option.bind_eq_some_iff.mp e
  refine Rn.hp hT rfl rfl (gI_hp e_2330) ?_
  by_cases c_2331 : v_2329 = 0
  · rw [if_pos c_2331] at e
    refine Rn.bt hT rfl rfl rfl (decide_eq_true c_2331) ?_
    refine Rn.n hT 4 (pc' := 25) (L' := [some (.ref q0), some (.ref q1), some (.int x2), some (.int v_2325)]) (st' := [.int v_2325, .int x2, .ref q1, .ref q0]) rfl ?_
    obtain ⟨_, e_2333, e⟩ := Option.bind_eq_some_iff.mp e
    obtain ⟨v_2334, e_2332, e⟩ := Option.bind_eq_some_iff.mp e
    refine Rn.call hT rfl rfl rfl (Nat.le_of_ble_eq_true rfl) (rcv_v gX5_isTooMuch (by omega) e_2333) (rX5_isTooMuch (by omega) e_2332 ?_)
    show Rn d _ _ 28 [some (.ref q0), some (.ref q1), some (.int x2), some (.int v_2325)] [.int v_2334] h_2326 Q
    by_cases c_2335 : v_2334 = 0
    · rw [if_pos c_2335] at e
      refine Rn.bt hT rfl rfl rfl (decide_eq_true c_2335) ?_
      refine Rn.n hT 1 (pc' := 48) (L' := [some (.ref q0), some (.ref q1), some (.int x2), some (.int v_2325)]) (st' := [.int v_2325]) rfl ?_
      by_cases c_2336 : v_2325 = (0 : Int32)
      · rw [if_pos c_2336] at e
        refine Rn.sw2 hT rfl rfl rfl (if_pos c_2336) ?_
        refine Rn.n hT 2 (pc' := 86) (L' := [some (.ref q0), some (.ref q1), some (.int x2), some (.int v_2325)]) (st' := [.ref q1, .ref q0]) rfl ?_
        obtain ⟨_, e_2338, e⟩ := Option.bind_eq_some_iff.mp e
        obtain ⟨h_2340, e_2337, e⟩ := Option.bind_eq_some_iff.mp e
        refine Rn.call hT rfl rfl rfl (Nat.le_of_ble_eq_true rfl) (rcv_v gX5_readFloor (by omega) e_2338) (rX5_readFloor (by omega) e_2337 ?_)
        show Rn d _ _ 89 [some (.ref q0), some (.ref q1), some (.int x2), some (.int v_2325)] [] h_2340 Q
        refine Rn.n hT 1 (pc' := 146) (L' := [some (.ref q0), some (.ref q1), some (.int x2), some (.int v_2325)]) (st' := []) rfl ?_
        exact Rn.weak (ll_n (ll_n (ll_n (ll_n ll_e)))) (rX5_readClause_b146 hd hq e)
      · rw [if_neg c_2336] at e
        by_cases c_2341 : v_2325 = (1 : Int32)
        · rw [if_pos c_2341] at e
          refine Rn.sw2 hT rfl rfl rfl ((if_neg c_2336).trans (if_pos c_2341)) ?_
          refine Rn.n hT 2 (pc' := 94) (L' := [some (.ref q0), some (.ref q1), some (.int x2), some (.int v_2325)]) (st' := [.ref q1, .ref q0]) rfl ?_
          obtain ⟨v_2342, e_2343, e⟩ := Option.bind_eq_some_iff.mp e
          refine Rn.hp hT rfl rfl (gR_hp e_2343) ?_
          obtain ⟨_, e_2345, e⟩ := Option.bind_eq_some_iff.mp e
          obtain ⟨h_2347, e_2344, e⟩ := Option.bind_eq_some_iff.mp e
          refine Rn.call hT rfl rfl rfl (Nat.le_of_ble_eq_true rfl) (rcv_v gX5_readRoom (by omega) e_2345) (rX5_readRoom (by omega) e_2344 ?_)
          show Rn d _ _ 100 [some (.ref q0), some (.ref q1), some (.int x2), some (.int v_2325)] [] h_2347 Q
          refine Rn.n hT 1 (pc' := 146) (L' := [some (.ref q0), some (.ref q1), some (.int x2), some (.int v_2325)]) (st' := []) rfl ?_
          exact Rn.weak (ll_n (ll_n (ll_n (ll_n ll_e)))) (rX5_readClause_b146 hd hq e)
        · rw [if_neg c_2341] at e
          by_cases c_2348 : v_2325 = (2 : Int32)
          · rw [if_pos c_2348] at e
            refine Rn.sw2 hT rfl rfl rfl ((if_neg c_2336).trans ((if_neg c_2341).trans (if_pos c_2348))) ?_
            refine Rn.n hT 2 (pc' := 105) (L' := [some (.ref q0), some (.ref q1), some (.int x2), some (.int v_2325)]) (st' := [.ref q1, .ref q0]) rfl ?_
            obtain ⟨_, e_2350, e⟩ := Option.bind_eq_some_iff.mp e
            obtain ⟨h_2352, e_2349, e⟩ := Option.bind_eq_some_iff.mp e
            refine Rn.call hT rfl rfl rfl (Nat.le_of_ble_eq_true rfl) (rcv_v gX5_readFixed (by omega) e_2350) (rX5_readFixed (by omega) e_2349 ?_)
            show Rn d _ _ 108 [some (.ref q0), some (.ref q1), some (.int x2), some (.int v_2325)] [] h_2352 Q
            refine Rn.n hT 1 (pc' := 146) (L' := [some (.ref q0), some (.ref q1), some (.int x2), some (.int v_2325)]) (st' := []) rfl ?_
            exact Rn.weak (ll_n (ll_n (ll_n (ll_n ll_e)))) (rX5_readClause_b146 hd hq e)
          · rw [if_neg c_2348] at e
            by_cases c_2353 : v_2325 = (3 : Int32)
            · rw [if_pos c_2353] at e
              refine Rn.sw2 hT rfl rfl rfl ((if_neg c_2336).trans ((if_neg c_2341).trans ((if_neg c_2348).trans (if_pos c_2353)))) ?_
              refine Rn.n hT 2 (pc' := 113) (L' := [some (.ref q0), some (.ref q1), some (.int x2), some (.int v_2325)]) (st' := [.ref q1, .ref q0]) rfl ?_
              obtain ⟨_, e_2355, e⟩ := Option.bind_eq_some_iff.mp e
              obtain ⟨h_2357, e_2354, e⟩ := Option.bind_eq_some_iff.mp e
              refine Rn.call hT rfl rfl rfl (Nat.le_of_ble_eq_true rfl) (rcv_v gX5_readKey (by omega) e_2355) (rX5_readKey (by omega) e_2354 ?_)
              show Rn d _ _ 116 [some (.ref q0), some (.ref q1), some (.int x2), some (.int v_2325)] [] h_2357 Q
              refine Rn.n hT 1 (pc' := 146) (L' := [some (.ref q0), some (.ref q1), some (.int x2), some (.int v_2325)]) (st' := []) rfl ?_
              exact Rn.weak (ll_n (ll_n (ll_n (ll_n ll_e)))) (rX5_readClause_b146 hd hq e)
            · rw [if_neg c_2353] at e
              by_cases c_2358 : v_2325 = (4 : Int32)
              · rw [if_pos c_2358] at e
                refine Rn.sw2 hT rfl rfl rfl ((if_neg c_2336).trans ((if_neg c_2341).trans ((if_neg c_2348).trans ((if_neg c_2353).trans (if_pos c_2358))))) ?_
                refine Rn.n hT 2 (pc' := 121) (L' := [some (.ref q0), some (.ref q1), some (.int x2), some (.int v_2325)]) (st' := [.ref q1, .ref q0]) rfl ?_
                obtain ⟨_, e_2360, e⟩ := Option.bind_eq_some_iff.mp e
                obtain ⟨h_2362, e_2359, e⟩ := Option.bind_eq_some_iff.mp e
                refine Rn.call hT rfl rfl rfl (Nat.le_of_ble_eq_true rfl) (rcv_v gX5_readPerson (by omega) e_2360) (rX5_readPerson (by omega) e_2359 ?_)
                show Rn d _ _ 124 [some (.ref q0), some (.ref q1), some (.int x2), some (.int v_2325)] [] h_2362 Q
                refine Rn.n hT 1 (pc' := 146) (L' := [some (.ref q0), some (.ref q1), some (.int x2), some (.int v_2325)]) (st' := []) rfl ?_
                exact Rn.weak (ll_n (ll_n (ll_n (ll_n ll_e)))) (rX5_readClause_b146 hd hq e)
              · rw [if_neg c_2358] at e
                refine Rn.sw2 hT rfl rfl rfl ((if_neg c_2336).trans ((if_neg c_2341).trans ((if_neg c_2348).trans ((if_neg c_2353).trans ((if_neg c_2358).trans rfl))))) ?_
                refine Rn.n hT 2 (pc' := 129) (L' := [some (.ref q0), some (.ref q1), some (.int x2), some (.int v_2325)]) (st' := [.ref q0, .ref q1]) rfl ?_
                obtain ⟨v_2363, e_2364, e⟩ := Option.bind_eq_some_iff.mp e
                refine Rn.hp hT rfl rfl (gR_hp e_2364) ?_
                refine Rn.n hT 2 (pc' := 135) (L' := [some (.ref q0), some (.ref q1), some (.int x2), some (.int v_2325)]) (st' := [.int (7 : Int32), .int (1 : Int32), .ref v_2363, .ref q1]) rfl ?_
                obtain ⟨_, e_2366, e⟩ := Option.bind_eq_some_iff.mp e
                obtain ⟨⟨v_2367, h_2368⟩, e_2365, e⟩ := Option.bind_eq_some_iff.mp e
                try dsimp only at e
                try dsimp only at e
                refine Rn.call hT rfl rfl rfl (Nat.le_of_ble_eq_true rfl) (rcv_v gX6_readNumber (by omega) e_2366) (rX6_readNumber (by omega) e_2365 ?_)
                show Rn d _ _ 138 [some (.ref q0), some (.ref q1), some (.int x2), some (.int v_2325)] [.int v_2367, .ref q1] h_2368 Q
                obtain ⟨h_2369, e_2370, e⟩ := Option.bind_eq_some_iff.mp e
                refine Rn.hp hT rfl rfl (pV_hp rfl e_2370) ?_
                refine Rn.n hT 2 (pc' := 143) (L' := [some (.ref q0), some (.ref q1), some (.int x2), some (.int v_2325)]) (st' := [.int (1 : Int32), .ref q0]) rfl ?_
                obtain ⟨h_2371, e_2372, e⟩ := Option.bind_eq_some_iff.mp e
                refine Rn.hp hT rfl rfl (pV_hp (by decide) e_2372) ?_
                exact Rn.weak (ll_n (ll_n (ll_n (ll_n ll_e)))) (rX5_readClause_b146 hd hq e)
    · rw [if_neg c_2335] at e
      refine Rn.bf hT rfl rfl rfl (decide_eq_false c_2335) ?_
      refine Rn.n hT 1 (pc' := 32) (L' := [some (.ref q0), some (.ref q1), some (.int x2), some (.int v_2325)]) (st' := [.ref q0]) rfl ?_
      obtain ⟨v_2374, e_2375, e⟩ := Option.bind_eq_some_iff.mp e
      refine Rn.hp hT rfl rfl (gR_hp e_2375) ?_
      refine Rn.n hT 1 (pc' := 36) (L' := [some (.ref q0), some (.ref q1), some (.int x2), some (.int v_2325)]) (st' := [.ref q0, .ref v_2374]) rfl ?_
      obtain ⟨v_2376, e_2377, e⟩ := Option.bind_eq_some_iff.mp e
      refine Rn.hp hT rfl rfl (gR_hp e_2377) ?_
      obtain ⟨v_2378, e_2379, e⟩ := Option.bind_eq_some_iff.mp e
      refine Rn.hp hT rfl rfl (gI_hp e_2379) ?_
      refine Rn.n hT 1 (pc' := 43) (L' := [some (.ref q0), some (.ref q1), some (.int x2), some (.int v_2325)]) (st' := [.int (4 : Int32), .int v_2378, .ref v_2374]) rfl ?_
      obtain ⟨_, e_2381, e⟩ := Option.bind_eq_some_iff.mp e
      obtain ⟨h_2383, e_2380, e⟩ := Option.bind_eq_some_iff.mp e
      refine Rn.call hT rfl rfl rfl (Nat.le_of_ble_eq_true rfl) (rcv_v gX6_fail (by omega) e_2381) (rX6_fail (by omega) e_2380 ?_)
      show Rn d _ _ 46 [some (.ref q0), some (.ref q1), some (.int x2), some (.int v_2325)] [] h_2383 Q
      obtain rfl := Option.some.inj e
      exact Rn.ret hT rfl rfl rfl hq
  · rw [if_neg c_2331] at e
    refine Rn.bf hT rfl rfl rfl (decide_eq_false c_2331) ?_
    obtain rfl := Option.some.inj e
    exact Rn.ret hT rfl rfl rfl hq
set_option maxRecDepth 10000 in
theorem hX5_goesOn : iv_Tb 76 tX5_goesOn := iv_tb_of (m := mX5_goesOn) rfl
set_option maxRecDepth 10000 in
theorem gX5_goesOn : PG.2 76 = some mX5_goesOn := iv_pi_of (t := tX5_goesOn) rfl (by decide)
def fX5_goesOn_b61 (N : Nat) (h : iv_H)   : Option (Int32 × iv_H) := (some ((0 : Int32), h))
set_option maxRecDepth 10000 in
set_option maxHeartbeats 4000000 in
theorem rX5_goesOn_b61 {d N : Nat} (hd : 2 ≤ d) {h : iv_H}   {r : Int32 × iv_H} {Q : Option Value → iv_H → Prop} (hq : Q (some (.int r.1)) r.2) (e : fX5_goesOn_b61 N h   = some r) : Rn d 76 (some .boolean) 61 [none, none] [] h Q := by
  have hT := hX5_goesOn
  unfold fX5_goesOn_b61 at e
  refine Rn.n hT 1 (pc' := 62) (L' := [none, none]) (st' := [.int (0 : Int32)]) rfl ?_
  obtain rfl := Option.some.inj e
  exact Rn.ret hT rfl rfl rfl hq
def fX5_goesOn (N : Nat) (h : iv_H) (q0 : Nat) : Option (Int32 × iv_H) := ((gR h 5 0 q0).bind fun v_2385 => ((gI h 6 4 v_2385).bind fun v_2387 => (if v_2387 = 0 then ((gR h 5 0 q0).bind fun v_2390 => ((cko h v_2390 6).bind fun _ => (fX6_skipBlanks N h v_2390).bind fun p_2414 => (fun (v_2394 : Int32) (h_2395 : iv_H) => (if v_2394 = (59 : Int32) then ((gR h_2395 5 0 q0).bind fun v_2408 => ((gI h_2395 6 2 v_2408).bind fun v_2410 => ((pV h_2395 6 2 v_2408 (.int (v_2410 + (1 : Int32)))).bind fun h_2412 => (some ((1 : Int32), h_2412))))) else (if v_2394 = (-1 : Int32) then (fX5_goesOn_b61 N h_2395) else ((gR h_2395 5 0 q0).bind fun v_2398 => ((gR h_2395 5 0 q0).bind fun v_2400 => ((gI h_2395 6 2 v_2400).bind fun v_2402 => ((cko h_2395 v_2398 6).bind fun _ => (fX6_fail N h_2395 v_2398 v_2402 (0 : Int32)).bind fun h_2407 => (fX5_goesOn_b61 N h_2407)))))))) p_2414.1 p_2414.2)) else (some ((0 : Int32), h)))))
set_option maxRecDepth 10000 in
set_option maxHeartbeats 4000000 in
theorem rX5_goesOn {d N : Nat} (hd : 3 ≤ d) {h : iv_H} {q0 : Nat} {r : Int32 × iv_H} {Q : Option Value → iv_H → Prop} (e : fX5_goesOn N h q0 = some r) (hq : Q (some (.int r.1)) r.2) : Cl d 76 [.ref q0] h Q := by
  obtain ⟨d, rfl⟩ : ∃ k, d = k + 1 := ⟨d - 1, by omega⟩
  have hd : 2 ≤ d := by omega
  have hT := hX5_goesOn
  unfold fX5_goesOn at e
  refine Cl.into (by decide) gX5_goesOn rfl ?_
  show Rn d 76 (some .boolean) 0 [some (.ref q0), none] [] h Q
  refine Rn.n hT 1 (pc' := 1) (L' := [some (.ref q0), none]) (st' := [.ref q0]) rfl ?_
  obtain ⟨v_2385, e_2386, e⟩ := Option.bind_eq_some_iff.mp e
  refine Rn.hp hT rfl rfl (gR_hp e_2386) ?_
  obtain ⟨v_2387, e_2388, e⟩ := Option.bind_eq_some_iff.mp e
  refine Rn.hp hT rfl rfl (gI_hp e_2388) ?_
  by_cases c_2389 : v_2387 = 0
  · rw [if_pos c_2389] at e
    refine Rn.bt hT rfl rfl rfl (decide_eq_true c_2389) ?_
    refine Rn.n hT 1 (pc' := 13) (L' := [some (.ref q0), none]) (st' := [.ref q0]) rfl ?_
    obtain ⟨v_2390, e_2391, e⟩ := Option.bind_eq_some_iff.mp e
    refine Rn.hp hT rfl rfl (gR_hp e_2391) ?_
    obtain ⟨_, e_2393, e⟩ := Option.bind_eq_some_iff.mp e
    obtain ⟨⟨v_2394, h_2395⟩, e_2392, e⟩ := Option.bind_eq_some_iff.mp e
    try dsimp only at e
    try dsimp only at e
    refine Rn.call hT rfl rfl rfl (Nat.le_of_ble_eq_true rfl) (rcv_v gX6_skipBlanks (by omega) e_2393) (rX6_skipBlanks (by omega) e_2392 ?_)
    show Rn d _ _ 19 [some (.ref q0), none] [.int v_2394] h_2395 Q
    refine Rn.n hT 3 (pc' := 23) (L' := [some (.ref q0), some (.int v_2394)]) (st' := [.int (59 : Int32), .int v_2394]) rfl ?_
    by_cases c_2396 : v_2394 = (59 : Int32)
    · rw [if_pos c_2396] at e
      refine Rn.bf hT rfl rfl rfl (decide_eq_false (fun z => z c_2396)) ?_
      refine Rn.n hT 1 (pc' := 27) (L' := [some (.ref q0), some (.int v_2394)]) (st' := [.ref q0]) rfl ?_
      obtain ⟨v_2408, e_2409, e⟩ := Option.bind_eq_some_iff.mp e
      refine Rn.hp hT rfl rfl (gR_hp e_2409) ?_
      refine Rn.n hT 1 (pc' := 31) (L' := [some (.ref q0), some (.int v_2394)]) (st' := [.ref v_2408, .ref v_2408]) rfl ?_
      obtain ⟨v_2410, e_2411, e⟩ := Option.bind_eq_some_iff.mp e
      refine Rn.hp hT rfl rfl (gI_hp e_2411) ?_
      refine Rn.n hT 2 (pc' := 36) (L' := [some (.ref q0), some (.int v_2394)]) (st' := [.int (v_2410 + (1 : Int32)), .ref v_2408]) rfl ?_
      obtain ⟨h_2412, e_2413, e⟩ := Option.bind_eq_some_iff.mp e
      refine Rn.hp hT rfl rfl (pV_hp rfl e_2413) ?_
      refine Rn.n hT 1 (pc' := 40) (L' := [some (.ref q0), some (.int v_2394)]) (st' := [.int (1 : Int32)]) rfl ?_
      obtain rfl := Option.some.inj e
      exact Rn.ret hT rfl rfl rfl hq
    · rw [if_neg c_2396] at e
      refine Rn.bt hT rfl rfl rfl (decide_eq_true c_2396) ?_
      refine Rn.n hT 2 (pc' := 43) (L' := [some (.ref q0), some (.int v_2394)]) (st' := [.int (-1 : Int32), .int v_2394]) rfl ?_
      by_cases c_2397 : v_2394 = (-1 : Int32)
      · rw [if_pos c_2397] at e
        refine Rn.bt hT rfl rfl rfl (decide_eq_true c_2397) ?_
        exact Rn.weak (ll_n (ll_n ll_e)) (rX5_goesOn_b61 hd hq e)
      · rw [if_neg c_2397] at e
        refine Rn.bf hT rfl rfl rfl (decide_eq_false c_2397) ?_
        refine Rn.n hT 1 (pc' := 47) (L' := [some (.ref q0), some (.int v_2394)]) (st' := [.ref q0]) rfl ?_
        obtain ⟨v_2398, e_2399, e⟩ := Option.bind_eq_some_iff.mp e
        refine Rn.hp hT rfl rfl (gR_hp e_2399) ?_
        refine Rn.n hT 1 (pc' := 51) (L' := [some (.ref q0), some (.int v_2394)]) (st' := [.ref q0, .ref v_2398]) rfl ?_
        obtain ⟨v_2400, e_2401, e⟩ := Option.bind_eq_some_iff.mp e
        refine Rn.hp hT rfl rfl (gR_hp e_2401) ?_
        obtain ⟨v_2402, e_2403, e⟩ := Option.bind_eq_some_iff.mp e
        refine Rn.hp hT rfl rfl (gI_hp e_2403) ?_
        refine Rn.n hT 1 (pc' := 58) (L' := [some (.ref q0), some (.int v_2394)]) (st' := [.int (0 : Int32), .int v_2402, .ref v_2398]) rfl ?_
        obtain ⟨_, e_2405, e⟩ := Option.bind_eq_some_iff.mp e
        obtain ⟨h_2407, e_2404, e⟩ := Option.bind_eq_some_iff.mp e
        refine Rn.call hT rfl rfl rfl (Nat.le_of_ble_eq_true rfl) (rcv_v gX6_fail (by omega) e_2405) (rX6_fail (by omega) e_2404 ?_)
        show Rn d _ _ 61 [some (.ref q0), some (.int v_2394)] [] h_2407 Q
        exact Rn.weak (ll_n (ll_n ll_e)) (rX5_goesOn_b61 hd hq e)
  · rw [if_neg c_2389] at e
    refine Rn.bf hT rfl rfl rfl (decide_eq_false c_2389) ?_
    refine Rn.n hT 1 (pc' := 11) (L' := [some (.ref q0), none]) (st' := [.int (0 : Int32)]) rfl ?_
    obtain rfl := Option.some.inj e
    exact Rn.ret hT rfl rfl rfl hq
set_option maxRecDepth 10000 in
theorem hX5_read : iv_Tb 75 tX5_read := iv_tb_of (m := mX5_read) rfl
set_option maxRecDepth 10000 in
theorem gX5_read : PG.2 75 = some mX5_read := iv_pi_of (t := tX5_read) rfl (by decide)
def fX5_read_l26 (N : Nat) (q0 : Nat) (q3 : Nat) (kx : iv_H → Option (Int32 × iv_H)) : Nat → iv_H → Int32 → Int32 → Option (Int32 × iv_H)
  | 0, _, _, _ => none
  | n + 1, h, x4, x5 => (if x4 = 0 then (kx h) else (if (40 : Int32) < x5 then (kx h) else ((cko h q0 5).bind fun _ => (fX5_readClause N h q0 q3 x5).bind fun h_2433 => ((cko h_2433 q0 5).bind fun _ => (fX5_goesOn N h_2433 q0).bind fun p_2438 => (fun (v_2436 : Int32) (h_2437 : iv_H) => (fX5_read_l26 N q0 q3 kx n h_2437 v_2436 (x5 + (1 : Int32)))) p_2438.1 p_2438.2))))
set_option maxRecDepth 10000 in
set_option maxHeartbeats 4000000 in
theorem rX5_read_l26 {d N : Nat} (hd : 13 ≤ d) {q0 : Nat} {q3 : Nat} {kx : iv_H → Option (Int32 × iv_H)} {r : Int32 × iv_H} {Q : Option Value → iv_H → Prop} (hk : ∀ (h : iv_H), kx h = some r → Rn d 75 (some .int) 57 [some (.ref q0), none, none, none, none, none] [] h Q) (hq : Q (some (.int r.1)) r.2) : ∀ (n : Nat) (h : iv_H) (x4 : Int32) (x5 : Int32), fX5_read_l26 N q0 q3 kx n h x4 x5 = some r → Rn d 75 (some .int) 26 [some (.ref q0), none, none, some (.ref q3), some (.int x4), some (.int x5)] [] h Q := by
  have hT := hX5_read
  intro n
  induction n with
  | zero =>
    intro h x4 x5 e
    rw [fX5_read_l26] at e
    cases e
  | succ n ih =>
    intro h x4 x5 e
    rw [fX5_read_l26] at e
    refine Rn.n hT 1 (pc' := 28) (L' := [some (.ref q0), none, none, some (.ref q3), some (.int x4), some (.int x5)]) (st' := [.int x4]) rfl ?_
    by_cases c_2428 : x4 = 0
    · rw [if_pos c_2428] at e
      refine Rn.bt hT rfl rfl rfl (decide_eq_true c_2428) ?_
      exact Rn.weak (ll_s (ll_n (ll_n (ll_n (ll_n (ll_n ll_e)))))) (hk h e)
    · rw [if_neg c_2428] at e
      refine Rn.bf hT rfl rfl rfl (decide_eq_false c_2428) ?_
      refine Rn.n hT 2 (pc' := 35) (L' := [some (.ref q0), none, none, some (.ref q3), some (.int x4), some (.int x5)]) (st' := [.int (40 : Int32), .int x5]) rfl ?_
      by_cases c_2429 : (40 : Int32) < x5
      · rw [if_pos c_2429] at e
        refine Rn.bt hT rfl rfl rfl (decide_eq_true c_2429) ?_
        exact Rn.weak (ll_s (ll_n (ll_n (ll_n (ll_n (ll_n ll_e)))))) (hk h e)
      · rw [if_neg c_2429] at e
        refine Rn.bf hT rfl rfl rfl (decide_eq_false c_2429) ?_
        refine Rn.n hT 3 (pc' := 42) (L' := [some (.ref q0), none, none, some (.ref q3), some (.int x4), some (.int x5)]) (st' := [.int x5, .ref q3, .ref q0]) rfl ?_
        obtain ⟨_, e_2431, e⟩ := Option.bind_eq_some_iff.mp e
        obtain ⟨h_2433, e_2430, e⟩ := Option.bind_eq_some_iff.mp e
        refine Rn.call hT rfl rfl rfl (Nat.le_of_ble_eq_true rfl) (rcv_v gX5_readClause (by omega) e_2431) (rX5_readClause (by omega) e_2430 ?_)
        show Rn d _ _ 45 [some (.ref q0), none, none, some (.ref q3), some (.int x4), some (.int x5)] [] h_2433 Q
        refine Rn.n hT 1 (pc' := 46) (L' := [some (.ref q0), none, none, some (.ref q3), some (.int x4), some (.int x5)]) (st' := [.ref q0]) rfl ?_
        obtain ⟨_, e_2435, e⟩ := Option.bind_eq_some_iff.mp e
        obtain ⟨⟨v_2436, h_2437⟩, e_2434, e⟩ := Option.bind_eq_some_iff.mp e
        try dsimp only at e
        try dsimp only at e
        refine Rn.call hT rfl rfl rfl (Nat.le_of_ble_eq_true rfl) (rcv_v gX5_goesOn (by omega) e_2435) (rX5_goesOn (by omega) e_2434 ?_)
        show Rn d _ _ 49 [some (.ref q0), none, none, some (.ref q3), some (.int x4), some (.int x5)] [.int v_2436] h_2437 Q
        refine Rn.n hT 3 (pc' := 26) (L' := [some (.ref q0), none, none, some (.ref q3), some (.int v_2436), some (.int (x5 + (1 : Int32)))]) (st' := []) rfl ?_
        exact Rn.weak (ll_s (ll_n (ll_n (ll_s (ll_s (ll_s ll_e)))))) (ih h_2437 v_2436 (x5 + (1 : Int32)) e)
def fX5_read_b57 (N : Nat) (h : iv_H) (q0 : Nat)  : Option (Int32 × iv_H) := ((gR h 5 0 q0).bind fun v_2439 => ((gI h 6 4 v_2439).bind fun v_2441 => (some (v_2441, h))))
set_option maxRecDepth 10000 in
set_option maxHeartbeats 4000000 in
theorem rX5_read_b57 {d N : Nat} (hd : 13 ≤ d) {h : iv_H} {q0 : Nat}  {r : Int32 × iv_H} {Q : Option Value → iv_H → Prop} (hq : Q (some (.int r.1)) r.2) (e : fX5_read_b57 N h q0  = some r) : Rn d 75 (some .int) 57 [some (.ref q0), none, none, none, none, none] [] h Q := by
  have hT := hX5_read
  unfold fX5_read_b57 at e
  refine Rn.n hT 1 (pc' := 58) (L' := [some (.ref q0), none, none, none, none, none]) (st' := [.ref q0]) rfl ?_
  obtain ⟨v_2439, e_2440, e⟩ := Option.bind_eq_some_iff.mp e
  refine Rn.hp hT rfl rfl (gR_hp e_2440) ?_
  obtain ⟨v_2441, e_2442, e⟩ := Option.bind_eq_some_iff.mp e
  refine Rn.hp hT rfl rfl (gI_hp e_2442) ?_
  obtain rfl := Option.some.inj e
  exact Rn.ret hT rfl rfl rfl hq
def fX5_read (N : Nat) (h : iv_H) (q0 : Nat) (q1 : Nat) (x2 : Int32) (q3 : Nat) : Option (Int32 × iv_H) := ((gR h 5 0 q0).bind fun v_2415 => ((cko h v_2415 6).bind fun _ => (fX6_open N h v_2415 q1 x2).bind fun h_2420 => ((pV h_2420 5 1 q0 (.int (0 : Int32))).bind fun h_2421 => ((cko h_2421 q3 2).bind fun _ => (fX2_build N h_2421 q3 (0 : Int32) (0 : Int32)).bind fun h_2426 => (fX5_read_l26 N q0 q3 (fun (h_2427 : iv_H) => (fX5_read_b57 N h_2427 q0)) N h_2426 (1 : Int32) (0 : Int32))))))
set_option maxRecDepth 10000 in
set_option maxHeartbeats 4000000 in
theorem rX5_read {d N : Nat} (hd : 14 ≤ d) {h : iv_H} {q0 : Nat} {q1 : Nat} {x2 : Int32} {q3 : Nat} {r : Int32 × iv_H} {Q : Option Value → iv_H → Prop} (e : fX5_read N h q0 q1 x2 q3 = some r) (hq : Q (some (.int r.1)) r.2) : Cl d 75 [.ref q0, .ref q1, .int x2, .ref q3] h Q := by
  obtain ⟨d, rfl⟩ : ∃ k, d = k + 1 := ⟨d - 1, by omega⟩
  have hd : 13 ≤ d := by omega
  have hT := hX5_read
  unfold fX5_read at e
  refine Cl.into (by decide) gX5_read rfl ?_
  show Rn d 75 (some .int) 0 [some (.ref q0), some (.ref q1), some (.int x2), some (.ref q3), none, none] [] h Q
  refine Rn.n hT 1 (pc' := 1) (L' := [some (.ref q0), some (.ref q1), some (.int x2), some (.ref q3), none, none]) (st' := [.ref q0]) rfl ?_
  obtain ⟨v_2415, e_2416, e⟩ := Option.bind_eq_some_iff.mp e
  refine Rn.hp hT rfl rfl (gR_hp e_2416) ?_
  refine Rn.n hT 2 (pc' := 6) (L' := [some (.ref q0), some (.ref q1), some (.int x2), some (.ref q3), none, none]) (st' := [.int x2, .ref q1, .ref v_2415]) rfl ?_
  obtain ⟨_, e_2418, e⟩ := Option.bind_eq_some_iff.mp e
  obtain ⟨h_2420, e_2417, e⟩ := Option.bind_eq_some_iff.mp e
  refine Rn.call hT rfl rfl rfl (Nat.le_of_ble_eq_true rfl) (rcv_v gX6_open (by omega) e_2418) (rX6_open (by omega) e_2417 ?_)
  show Rn d _ _ 9 [some (.ref q0), some (.ref q1), some (.int x2), some (.ref q3), none, none] [] h_2420 Q
  refine Rn.n hT 2 (pc' := 11) (L' := [some (.ref q0), some (.ref q1), some (.int x2), some (.ref q3), none, none]) (st' := [.int (0 : Int32), .ref q0]) rfl ?_
  obtain ⟨h_2421, e_2422, e⟩ := Option.bind_eq_some_iff.mp e
  refine Rn.hp hT rfl rfl (pV_hp (by decide) e_2422) ?_
  refine Rn.n hT 3 (pc' := 17) (L' := [some (.ref q0), some (.ref q1), some (.int x2), some (.ref q3), none, none]) (st' := [.int (0 : Int32), .int (0 : Int32), .ref q3]) rfl ?_
  obtain ⟨_, e_2424, e⟩ := Option.bind_eq_some_iff.mp e
  obtain ⟨h_2426, e_2423, e⟩ := Option.bind_eq_some_iff.mp e
  refine Rn.call hT rfl rfl rfl (Nat.le_of_ble_eq_true rfl) (rcv_v gX2_build (by omega) e_2424) (rX2_build (by omega) e_2423 ?_)
  show Rn d _ _ 20 [some (.ref q0), some (.ref q1), some (.int x2), some (.ref q3), none, none] [] h_2426 Q
  refine Rn.n hT 4 (pc' := 26) (L' := [some (.ref q0), some (.ref q1), some (.int x2), some (.ref q3), some (.int (1 : Int32)), some (.int (0 : Int32))]) (st' := []) rfl ?_
  refine Rn.weak (ll_s (ll_n (ll_n (ll_s (ll_s (ll_s ll_e)))))) (rX5_read_l26 hd (fun h_2427 e => ?_) hq N h_2426 (1 : Int32) (0 : Int32) e)
  try dsimp only at e
  exact Rn.weak (ll_s (ll_n (ll_n (ll_n (ll_n (ll_n ll_e)))))) (rX5_read_b57 hd hq e)
set_option maxRecDepth 10000 in
theorem hX8_init : iv_Tb 99 tX8_init := iv_tb_of (m := mX8_init) rfl
set_option maxRecDepth 10000 in
theorem gX8_init : PG.2 99 = some mX8_init := iv_pi_of (t := tX8_init) rfl (by decide)
def fX8_init (N : Nat) (h : iv_H) (q0 : Nat) : Option (iv_H) := ((nO h 6).bind fun p_2447 => (fun (v_2446 : Nat) (h_2444 : iv_H) => ((fX6_init N h_2444 v_2446).bind fun h_2450 => ((pV h_2450 8 0 q0 (.ref v_2446)).bind fun h_2451 => ((nA h_2451 0 (401 : Int32)).bind fun p_2456 => (fun (v_2455 : Nat) (h_2453 : iv_H) => ((pV h_2453 8 1 q0 (.ref v_2455)).bind fun h_2457 => ((pV h_2457 8 2 q0 (.int (0 : Int32))).bind fun h_2459 => ((nA h_2459 0 (64 : Int32)).bind fun p_2464 => (fun (v_2463 : Nat) (h_2461 : iv_H) => ((pV h_2461 8 3 q0 (.ref v_2463)).bind fun h_2465 => ((pV h_2465 8 4 q0 (.int (0 : Int32))).bind fun h_2467 => ((pV h_2467 8 5 q0 (.int (0 : Int32))).bind fun h_2469 => ((pV h_2469 8 6 q0 (.int (0 : Int32))).bind fun h_2471 => ((pV h_2471 8 7 q0 (.int (0 : Int32))).bind fun h_2473 => ((pV h_2473 8 8 q0 (.int (0 : Int32))).bind fun h_2475 => ((pV h_2475 8 9 q0 (.int (0 : Int32))).bind fun h_2477 => ((pV h_2477 8 10 q0 (.int (0 : Int32))).bind fun h_2479 => some h_2479))))))))) p_2464.1 p_2464.2)))) p_2456.1 p_2456.2)))) p_2447.1 p_2447.2)
set_option maxRecDepth 10000 in
set_option maxHeartbeats 4000000 in
theorem rX8_init {d N : Nat} (hd : 2 ≤ d) {h : iv_H} {q0 : Nat} {r : iv_H} {Q : Option Value → iv_H → Prop} (e : fX8_init N h q0 = some r) (hq : Q none r) : Cl d 99 [.ref q0] h Q := by
  obtain ⟨d, rfl⟩ : ∃ k, d = k + 1 := ⟨d - 1, by omega⟩
  have hd : 1 ≤ d := by omega
  have hT := hX8_init
  unfold fX8_init at e
  refine Cl.into (by decide) gX8_init rfl ?_
  show Rn d 99 none 0 [some (.ref q0)] [] h Q
  refine Rn.n hT 1 (pc' := 1) (L' := [some (.ref q0)]) (st' := [.ref q0]) rfl ?_
  refine Rn.hp hT rfl rfl (st' := []) (h1 := h) rfl ?_
  refine Rn.n hT 1 (pc' := 5) (L' := [some (.ref q0)]) (st' := [.ref q0]) rfl ?_
  obtain ⟨⟨v_2446, h_2444⟩, e_2445, e⟩ := Option.bind_eq_some_iff.mp e
  try dsimp only at e
  refine Rn.hp hT rfl rfl (nO_hp e_2445) ?_
  refine Rn.n hT 1 (pc' := 9) (L' := [some (.ref q0)]) (st' := [.ref v_2446, .ref v_2446, .ref q0]) rfl ?_
  obtain ⟨h_2450, e_2448, e⟩ := Option.bind_eq_some_iff.mp e
  refine Rn.call hT rfl rfl rfl (Nat.le_of_ble_eq_true rfl) rfl (rX6_init (by omega) e_2448 ?_)
  show Rn d _ _ 12 [some (.ref q0)] [.ref v_2446, .ref q0] h_2450 Q
  obtain ⟨h_2451, e_2452, e⟩ := Option.bind_eq_some_iff.mp e
  refine Rn.hp hT rfl rfl (pV_hp rfl e_2452) ?_
  refine Rn.n hT 2 (pc' := 19) (L' := [some (.ref q0)]) (st' := [.int (401 : Int32), .ref q0]) rfl ?_
  obtain ⟨⟨v_2455, h_2453⟩, e_2454, e⟩ := Option.bind_eq_some_iff.mp e
  try dsimp only at e
  refine Rn.hp hT rfl rfl (nA_hp rfl e_2454) ?_
  obtain ⟨h_2457, e_2458, e⟩ := Option.bind_eq_some_iff.mp e
  refine Rn.hp hT rfl rfl (pV_hp rfl e_2458) ?_
  refine Rn.n hT 2 (pc' := 26) (L' := [some (.ref q0)]) (st' := [.int (0 : Int32), .ref q0]) rfl ?_
  obtain ⟨h_2459, e_2460, e⟩ := Option.bind_eq_some_iff.mp e
  refine Rn.hp hT rfl rfl (pV_hp rfl e_2460) ?_
  refine Rn.n hT 2 (pc' := 32) (L' := [some (.ref q0)]) (st' := [.int (64 : Int32), .ref q0]) rfl ?_
  obtain ⟨⟨v_2463, h_2461⟩, e_2462, e⟩ := Option.bind_eq_some_iff.mp e
  try dsimp only at e
  refine Rn.hp hT rfl rfl (nA_hp rfl e_2462) ?_
  obtain ⟨h_2465, e_2466, e⟩ := Option.bind_eq_some_iff.mp e
  refine Rn.hp hT rfl rfl (pV_hp rfl e_2466) ?_
  refine Rn.n hT 2 (pc' := 39) (L' := [some (.ref q0)]) (st' := [.int (0 : Int32), .ref q0]) rfl ?_
  obtain ⟨h_2467, e_2468, e⟩ := Option.bind_eq_some_iff.mp e
  refine Rn.hp hT rfl rfl (pV_hp rfl e_2468) ?_
  refine Rn.n hT 2 (pc' := 44) (L' := [some (.ref q0)]) (st' := [.int (0 : Int32), .ref q0]) rfl ?_
  obtain ⟨h_2469, e_2470, e⟩ := Option.bind_eq_some_iff.mp e
  refine Rn.hp hT rfl rfl (pV_hp rfl e_2470) ?_
  refine Rn.n hT 2 (pc' := 49) (L' := [some (.ref q0)]) (st' := [.int (0 : Int32), .ref q0]) rfl ?_
  obtain ⟨h_2471, e_2472, e⟩ := Option.bind_eq_some_iff.mp e
  refine Rn.hp hT rfl rfl (pV_hp (by decide) e_2472) ?_
  refine Rn.n hT 2 (pc' := 54) (L' := [some (.ref q0)]) (st' := [.int (0 : Int32), .ref q0]) rfl ?_
  obtain ⟨h_2473, e_2474, e⟩ := Option.bind_eq_some_iff.mp e
  refine Rn.hp hT rfl rfl (pV_hp rfl e_2474) ?_
  refine Rn.n hT 2 (pc' := 59) (L' := [some (.ref q0)]) (st' := [.int (0 : Int32), .ref q0]) rfl ?_
  obtain ⟨h_2475, e_2476, e⟩ := Option.bind_eq_some_iff.mp e
  refine Rn.hp hT rfl rfl (pV_hp rfl e_2476) ?_
  refine Rn.n hT 2 (pc' := 64) (L' := [some (.ref q0)]) (st' := [.int (0 : Int32), .ref q0]) rfl ?_
  obtain ⟨h_2477, e_2478, e⟩ := Option.bind_eq_some_iff.mp e
  refine Rn.hp hT rfl rfl (pV_hp rfl e_2478) ?_
  refine Rn.n hT 2 (pc' := 69) (L' := [some (.ref q0)]) (st' := [.int (0 : Int32), .ref q0]) rfl ?_
  obtain ⟨h_2479, e_2480, e⟩ := Option.bind_eq_some_iff.mp e
  refine Rn.hp hT rfl rfl (pV_hp rfl e_2480) ?_
  obtain rfl := Option.some.inj e
  exact Rn.ret hT rfl rfl rfl hq
set_option maxRecDepth 10000 in
theorem hX8_readBar : iv_Tb 103 tX8_readBar := iv_tb_of (m := mX8_readBar) rfl
set_option maxRecDepth 10000 in
theorem gX8_readBar : PG.2 103 = some mX8_readBar := iv_pi_of (t := tX8_readBar) rfl (by decide)
def fX8_readBar_b34 (N : Nat) (h : iv_H) (q0 : Nat)  : Option (iv_H) := ((gI h 8 7 q0).bind fun v_2501 => ((pV h 8 7 q0 (.int (v_2501 + (1 : Int32)))).bind fun h_2503 => ((pV h_2503 8 5 q0 (.int (1 : Int32))).bind fun h_2505 => some h_2505)))
set_option maxRecDepth 10000 in
set_option maxHeartbeats 4000000 in
theorem rX8_readBar_b34 {d N : Nat} (hd : 12 ≤ d) {h : iv_H} {q0 : Nat}  {r : iv_H} {Q : Option Value → iv_H → Prop} (hq : Q none r) (e : fX8_readBar_b34 N h q0  = some r) : Rn d 103 none 34 [some (.ref q0)] [] h Q := by
  have hT := hX8_readBar
  unfold fX8_readBar_b34 at e
  refine Rn.n hT 2 (pc' := 36) (L' := [some (.ref q0)]) (st' := [.ref q0, .ref q0]) rfl ?_
  obtain ⟨v_2501, e_2502, e⟩ := Option.bind_eq_some_iff.mp e
  refine Rn.hp hT rfl rfl (gI_hp e_2502) ?_
  refine Rn.n hT 2 (pc' := 41) (L' := [some (.ref q0)]) (st' := [.int (v_2501 + (1 : Int32)), .ref q0]) rfl ?_
  obtain ⟨h_2503, e_2504, e⟩ := Option.bind_eq_some_iff.mp e
  refine Rn.hp hT rfl rfl (pV_hp rfl e_2504) ?_
  refine Rn.n hT 2 (pc' := 46) (L' := [some (.ref q0)]) (st' := [.int (1 : Int32), .ref q0]) rfl ?_
  obtain ⟨h_2505, e_2506, e⟩ := Option.bind_eq_some_iff.mp e
  refine Rn.hp hT rfl rfl (pV_hp rfl e_2506) ?_
  obtain rfl := Option.some.inj e
  exact Rn.ret hT rfl rfl rfl hq
def fX8_readBar (N : Nat) (h : iv_H) (q0 : Nat) : Option (iv_H) := ((gR h 8 0 q0).bind fun v_2481 => ((cko h v_2481 6).bind fun _ => (fX6_readWord N h v_2481 1000012).bind fun p_2500 => (fun (v_2485 : Int32) (h_2486 : iv_H) => ((gI h_2486 8 7 q0).bind fun v_2487 => (if v_2487 < (12 : Int32) then (fX8_readBar_b34 N h_2486 q0) else ((gR h_2486 8 0 q0).bind fun v_2490 => ((gR h_2486 8 0 q0).bind fun v_2492 => ((gI h_2486 6 3 v_2492).bind fun v_2494 => ((cko h_2486 v_2490 6).bind fun _ => (fX6_fail N h_2486 v_2490 v_2494 (4 : Int32)).bind fun h_2499 => (fX8_readBar_b34 N h_2499 q0)))))))) p_2500.1 p_2500.2))
set_option maxRecDepth 10000 in
set_option maxHeartbeats 4000000 in
theorem rX8_readBar {d N : Nat} (hd : 13 ≤ d) {h : iv_H} {q0 : Nat} {r : iv_H} {Q : Option Value → iv_H → Prop} (e : fX8_readBar N h q0 = some r) (hq : Q none r) : Cl d 103 [.ref q0] h Q := by
  obtain ⟨d, rfl⟩ : ∃ k, d = k + 1 := ⟨d - 1, by omega⟩
  have hd : 12 ≤ d := by omega
  have hT := hX8_readBar
  unfold fX8_readBar at e
  refine Cl.into (by decide) gX8_readBar rfl ?_
  show Rn d 103 none 0 [some (.ref q0)] [] h Q
  refine Rn.n hT 1 (pc' := 1) (L' := [some (.ref q0)]) (st' := [.ref q0]) rfl ?_
  obtain ⟨v_2481, e_2482, e⟩ := Option.bind_eq_some_iff.mp e
  refine Rn.hp hT rfl rfl (gR_hp e_2482) ?_
  refine Rn.n hT 1 (pc' := 6) (L' := [some (.ref q0)]) (st' := [.ref 1000012, .ref v_2481]) rfl ?_
  obtain ⟨_, e_2484, e⟩ := Option.bind_eq_some_iff.mp e
  obtain ⟨⟨v_2485, h_2486⟩, e_2483, e⟩ := Option.bind_eq_some_iff.mp e
  try dsimp only at e
  try dsimp only at e
  refine Rn.call hT rfl rfl rfl (Nat.le_of_ble_eq_true rfl) (rcv_v gX6_readWord (by omega) e_2484) (rX6_readWord (by omega) e_2483 ?_)
  show Rn d _ _ 9 [some (.ref q0)] [.int v_2485] h_2486 Q
  refine Rn.n hT 2 (pc' := 11) (L' := [some (.ref q0)]) (st' := [.ref q0]) rfl ?_
  obtain ⟨v_2487, e_2488, e⟩ := Option.bind_eq_some_iff.mp e
  refine Rn.hp hT rfl rfl (gI_hp e_2488) ?_
  refine Rn.n hT 1 (pc' := 16) (L' := [some (.ref q0)]) (st' := [.int (12 : Int32), .int v_2487]) rfl ?_
  by_cases c_2489 : v_2487 < (12 : Int32)
  · rw [if_pos c_2489] at e
    refine Rn.bt hT rfl rfl rfl (decide_eq_true c_2489) ?_
    exact Rn.weak (ll_s ll_e) (rX8_readBar_b34 hd hq e)
  · rw [if_neg c_2489] at e
    refine Rn.bf hT rfl rfl rfl (decide_eq_false c_2489) ?_
    refine Rn.n hT 1 (pc' := 20) (L' := [some (.ref q0)]) (st' := [.ref q0]) rfl ?_
    obtain ⟨v_2490, e_2491, e⟩ := Option.bind_eq_some_iff.mp e
    refine Rn.hp hT rfl rfl (gR_hp e_2491) ?_
    refine Rn.n hT 1 (pc' := 24) (L' := [some (.ref q0)]) (st' := [.ref q0, .ref v_2490]) rfl ?_
    obtain ⟨v_2492, e_2493, e⟩ := Option.bind_eq_some_iff.mp e
    refine Rn.hp hT rfl rfl (gR_hp e_2493) ?_
    obtain ⟨v_2494, e_2495, e⟩ := Option.bind_eq_some_iff.mp e
    refine Rn.hp hT rfl rfl (gI_hp e_2495) ?_
    refine Rn.n hT 1 (pc' := 31) (L' := [some (.ref q0)]) (st' := [.int (4 : Int32), .int v_2494, .ref v_2490]) rfl ?_
    obtain ⟨_, e_2497, e⟩ := Option.bind_eq_some_iff.mp e
    obtain ⟨h_2499, e_2496, e⟩ := Option.bind_eq_some_iff.mp e
    refine Rn.call hT rfl rfl rfl (Nat.le_of_ble_eq_true rfl) (rcv_v gX6_fail (by omega) e_2497) (rX6_fail (by omega) e_2496 ?_)
    show Rn d _ _ 34 [some (.ref q0)] [] h_2499 Q
    exact Rn.weak (ll_s ll_e) (rX8_readBar_b34 hd hq e)
set_option maxRecDepth 10000 in
theorem hX8_hold : iv_Tb 114 tX8_hold := iv_tb_of (m := mX8_hold) rfl
set_option maxRecDepth 10000 in
theorem gX8_hold : PG.2 114 = some mX8_hold := iv_pi_of (t := tX8_hold) rfl (by decide)
def fX8_hold_b32 (N : Nat) (h : iv_H)   : Option (iv_H) := some h
set_option maxRecDepth 10000 in
set_option maxHeartbeats 4000000 in
theorem rX8_hold_b32 {d N : Nat} (hd : 0 ≤ d) {h : iv_H}   {r : iv_H} {Q : Option Value → iv_H → Prop} (hq : Q none r) (e : fX8_hold_b32 N h   = some r) : Rn d 114 none 32 [none, none] [] h Q := by
  have hT := hX8_hold
  unfold fX8_hold_b32 at e
  obtain rfl := Option.some.inj e
  exact Rn.ret hT rfl rfl rfl hq
def fX8_hold (N : Nat) (h : iv_H) (q0 : Nat) (x1 : Int32) : Option (iv_H) := ((gI h 8 4 q0).bind fun v_2507 => ((gR h 8 3 q0).bind fun v_2509 => ((aL h v_2509).bind fun v_2511 => (if v_2511 ≤ v_2507 then (fX8_hold_b32 N h) else ((gR h 8 3 q0).bind fun v_2514 => ((gI h 8 4 q0).bind fun v_2516 => ((wI h v_2514 v_2516 x1).bind fun h_2518 => ((gI h_2518 8 4 q0).bind fun v_2520 => ((pV h_2518 8 4 q0 (.int (v_2520 + (1 : Int32)))).bind fun h_2522 => (fX8_hold_b32 N h_2522))))))))))
set_option maxRecDepth 10000 in
set_option maxHeartbeats 4000000 in
theorem rX8_hold {d N : Nat} (hd : 1 ≤ d) {h : iv_H} {q0 : Nat} {x1 : Int32} {r : iv_H} {Q : Option Value → iv_H → Prop} (e : fX8_hold N h q0 x1 = some r) (hq : Q none r) : Cl d 114 [.ref q0, .int x1] h Q := by
  obtain ⟨d, rfl⟩ : ∃ k, d = k + 1 := ⟨d - 1, by omega⟩
  have hd : 0 ≤ d := by omega
  have hT := hX8_hold
  unfold fX8_hold at e
  refine Cl.into (by decide) gX8_hold rfl ?_
  show Rn d 114 none 0 [some (.ref q0), some (.int x1)] [] h Q
  refine Rn.n hT 1 (pc' := 1) (L' := [some (.ref q0), some (.int x1)]) (st' := [.ref q0]) rfl ?_
  obtain ⟨v_2507, e_2508, e⟩ := Option.bind_eq_some_iff.mp e
  refine Rn.hp hT rfl rfl (gI_hp e_2508) ?_
  refine Rn.n hT 1 (pc' := 5) (L' := [some (.ref q0), some (.int x1)]) (st' := [.ref q0, .int v_2507]) rfl ?_
  obtain ⟨v_2509, e_2510, e⟩ := Option.bind_eq_some_iff.mp e
  refine Rn.hp hT rfl rfl (gR_hp e_2510) ?_
  obtain ⟨v_2511, e_2512, e⟩ := Option.bind_eq_some_iff.mp e
  refine Rn.hp hT rfl rfl (aL_hp e_2512) ?_
  by_cases c_2513 : v_2511 ≤ v_2507
  · rw [if_pos c_2513] at e
    refine Rn.bt hT rfl rfl rfl (decide_eq_true c_2513) ?_
    exact Rn.weak (ll_n (ll_n ll_e)) (rX8_hold_b32 hd hq e)
  · rw [if_neg c_2513] at e
    refine Rn.bf hT rfl rfl rfl (decide_eq_false c_2513) ?_
    refine Rn.n hT 1 (pc' := 13) (L' := [some (.ref q0), some (.int x1)]) (st' := [.ref q0]) rfl ?_
    obtain ⟨v_2514, e_2515, e⟩ := Option.bind_eq_some_iff.mp e
    refine Rn.hp hT rfl rfl (gR_hp e_2515) ?_
    refine Rn.n hT 1 (pc' := 17) (L' := [some (.ref q0), some (.int x1)]) (st' := [.ref q0, .ref v_2514]) rfl ?_
    obtain ⟨v_2516, e_2517, e⟩ := Option.bind_eq_some_iff.mp e
    refine Rn.hp hT rfl rfl (gI_hp e_2517) ?_
    refine Rn.n hT 1 (pc' := 21) (L' := [some (.ref q0), some (.int x1)]) (st' := [.int x1, .int v_2516, .ref v_2514]) rfl ?_
    obtain ⟨h_2518, e_2519, e⟩ := Option.bind_eq_some_iff.mp e
    refine Rn.hp hT rfl rfl (wI_hp e_2519) ?_
    refine Rn.n hT 2 (pc' := 24) (L' := [some (.ref q0), some (.int x1)]) (st' := [.ref q0, .ref q0]) rfl ?_
    obtain ⟨v_2520, e_2521, e⟩ := Option.bind_eq_some_iff.mp e
    refine Rn.hp hT rfl rfl (gI_hp e_2521) ?_
    refine Rn.n hT 2 (pc' := 29) (L' := [some (.ref q0), some (.int x1)]) (st' := [.int (v_2520 + (1 : Int32)), .ref q0]) rfl ?_
    obtain ⟨h_2522, e_2523, e⟩ := Option.bind_eq_some_iff.mp e
    refine Rn.hp hT rfl rfl (pV_hp rfl e_2523) ?_
    exact Rn.weak (ll_n (ll_n ll_e)) (rX8_hold_b32 hd hq e)
set_option maxRecDepth 10000 in
theorem hX8_deepen : iv_Tb 105 tX8_deepen := iv_tb_of (m := mX8_deepen) rfl
set_option maxRecDepth 10000 in
theorem gX8_deepen : PG.2 105 = some mX8_deepen := iv_pi_of (t := tX8_deepen) rfl (by decide)
def fX8_deepen (N : Nat) (h : iv_H) (q0 : Nat) (x1 : Int32) (x2 : Int32) : Option (iv_H) := ((gI h 8 8 q0).bind fun v_2524 => (if v_2524 < (10 : Int32) then ((gI h 8 8 q0).bind fun v_2527 => ((pV h 8 8 q0 (.int (v_2527 + (1 : Int32)))).bind fun h_2529 => ((cko h_2529 q0 8).bind fun _ => (fX8_hold N h_2529 q0 x1).bind fun h_2534 => some h_2534))) else ((gR h 8 0 q0).bind fun v_2535 => ((cko h v_2535 6).bind fun _ => (fX6_fail N h v_2535 x2 (2 : Int32)).bind fun h_2540 => some h_2540))))
set_option maxRecDepth 10000 in
set_option maxHeartbeats 4000000 in
theorem rX8_deepen {d N : Nat} (hd : 2 ≤ d) {h : iv_H} {q0 : Nat} {x1 : Int32} {x2 : Int32} {r : iv_H} {Q : Option Value → iv_H → Prop} (e : fX8_deepen N h q0 x1 x2 = some r) (hq : Q none r) : Cl d 105 [.ref q0, .int x1, .int x2] h Q := by
  obtain ⟨d, rfl⟩ : ∃ k, d = k + 1 := ⟨d - 1, by omega⟩
  have hd : 1 ≤ d := by omega
  have hT := hX8_deepen
  unfold fX8_deepen at e
  refine Cl.into (by decide) gX8_deepen rfl ?_
  show Rn d 105 none 0 [some (.ref q0), some (.int x1), some (.int x2)] [] h Q
  refine Rn.n hT 1 (pc' := 1) (L' := [some (.ref q0), some (.int x1), some (.int x2)]) (st' := [.ref q0]) rfl ?_
  obtain ⟨v_2524, e_2525, e⟩ := Option.bind_eq_some_iff.mp e
  refine Rn.hp hT rfl rfl (gI_hp e_2525) ?_
  refine Rn.n hT 1 (pc' := 6) (L' := [some (.ref q0), some (.int x1), some (.int x2)]) (st' := [.int (10 : Int32), .int v_2524]) rfl ?_
  by_cases c_2526 : v_2524 < (10 : Int32)
  · rw [if_pos c_2526] at e
    refine Rn.bt hT rfl rfl rfl (decide_eq_true c_2526) ?_
    refine Rn.n hT 2 (pc' := 21) (L' := [some (.ref q0), some (.int x1), some (.int x2)]) (st' := [.ref q0, .ref q0]) rfl ?_
    obtain ⟨v_2527, e_2528, e⟩ := Option.bind_eq_some_iff.mp e
    refine Rn.hp hT rfl rfl (gI_hp e_2528) ?_
    refine Rn.n hT 2 (pc' := 26) (L' := [some (.ref q0), some (.int x1), some (.int x2)]) (st' := [.int (v_2527 + (1 : Int32)), .ref q0]) rfl ?_
    obtain ⟨h_2529, e_2530, e⟩ := Option.bind_eq_some_iff.mp e
    refine Rn.hp hT rfl rfl (pV_hp rfl e_2530) ?_
    refine Rn.n hT 2 (pc' := 31) (L' := [some (.ref q0), some (.int x1), some (.int x2)]) (st' := [.int x1, .ref q0]) rfl ?_
    obtain ⟨_, e_2532, e⟩ := Option.bind_eq_some_iff.mp e
    obtain ⟨h_2534, e_2531, e⟩ := Option.bind_eq_some_iff.mp e
    refine Rn.call hT rfl rfl rfl (Nat.le_of_ble_eq_true rfl) (rcv_v gX8_hold (by omega) e_2532) (rX8_hold (by omega) e_2531 ?_)
    show Rn d _ _ 34 [some (.ref q0), some (.int x1), some (.int x2)] [] h_2534 Q
    obtain rfl := Option.some.inj e
    exact Rn.ret hT rfl rfl rfl hq
  · rw [if_neg c_2526] at e
    refine Rn.bf hT rfl rfl rfl (decide_eq_false c_2526) ?_
    refine Rn.n hT 1 (pc' := 10) (L' := [some (.ref q0), some (.int x1), some (.int x2)]) (st' := [.ref q0]) rfl ?_
    obtain ⟨v_2535, e_2536, e⟩ := Option.bind_eq_some_iff.mp e
    refine Rn.hp hT rfl rfl (gR_hp e_2536) ?_
    refine Rn.n hT 2 (pc' := 15) (L' := [some (.ref q0), some (.int x1), some (.int x2)]) (st' := [.int (2 : Int32), .int x2, .ref v_2535]) rfl ?_
    obtain ⟨_, e_2538, e⟩ := Option.bind_eq_some_iff.mp e
    obtain ⟨h_2540, e_2537, e⟩ := Option.bind_eq_some_iff.mp e
    refine Rn.call hT rfl rfl rfl (Nat.le_of_ble_eq_true rfl) (rcv_v gX6_fail (by omega) e_2538) (rX6_fail (by omega) e_2537 ?_)
    show Rn d _ _ 18 [some (.ref q0), some (.int x1), some (.int x2)] [] h_2540 Q
    obtain rfl := Option.some.inj e
    exact Rn.ret hT rfl rfl rfl hq
set_option maxRecDepth 10000 in
theorem hX8_countOne : iv_Tb 107 tX8_countOne := iv_tb_of (m := mX8_countOne) rfl
set_option maxRecDepth 10000 in
theorem gX8_countOne : PG.2 107 = some mX8_countOne := iv_pi_of (t := tX8_countOne) rfl (by decide)
def fX8_countOne_b18 (N : Nat) (h : iv_H) (q0 : Nat)  : Option (iv_H) := ((gI h 8 10 q0).bind fun v_2550 => ((pV h 8 10 q0 (.int (v_2550 + (1 : Int32)))).bind fun h_2552 => some h_2552))
set_option maxRecDepth 10000 in
set_option maxHeartbeats 4000000 in
theorem rX8_countOne_b18 {d N : Nat} (hd : 1 ≤ d) {h : iv_H} {q0 : Nat}  {r : iv_H} {Q : Option Value → iv_H → Prop} (hq : Q none r) (e : fX8_countOne_b18 N h q0  = some r) : Rn d 107 none 18 [some (.ref q0), none] [] h Q := by
  have hT := hX8_countOne
  unfold fX8_countOne_b18 at e
  refine Rn.n hT 2 (pc' := 20) (L' := [some (.ref q0), none]) (st' := [.ref q0, .ref q0]) rfl ?_
  obtain ⟨v_2550, e_2551, e⟩ := Option.bind_eq_some_iff.mp e
  refine Rn.hp hT rfl rfl (gI_hp e_2551) ?_
  refine Rn.n hT 2 (pc' := 25) (L' := [some (.ref q0), none]) (st' := [.int (v_2550 + (1 : Int32)), .ref q0]) rfl ?_
  obtain ⟨h_2552, e_2553, e⟩ := Option.bind_eq_some_iff.mp e
  refine Rn.hp hT rfl rfl (pV_hp rfl e_2553) ?_
  obtain rfl := Option.some.inj e
  exact Rn.ret hT rfl rfl rfl hq
def fX8_countOne (N : Nat) (h : iv_H) (q0 : Nat) (x1 : Int32) : Option (iv_H) := ((gI h 8 10 q0).bind fun v_2541 => (if v_2541 < (60 : Int32) then (fX8_countOne_b18 N h q0) else ((gR h 8 0 q0).bind fun v_2544 => ((cko h v_2544 6).bind fun _ => (fX6_fail N h v_2544 x1 (3 : Int32)).bind fun h_2549 => (fX8_countOne_b18 N h_2549 q0)))))
set_option maxRecDepth 10000 in
set_option maxHeartbeats 4000000 in
theorem rX8_countOne {d N : Nat} (hd : 2 ≤ d) {h : iv_H} {q0 : Nat} {x1 : Int32} {r : iv_H} {Q : Option Value → iv_H → Prop} (e : fX8_countOne N h q0 x1 = some r) (hq : Q none r) : Cl d 107 [.ref q0, .int x1] h Q := by
  obtain ⟨d, rfl⟩ : ∃ k, d = k + 1 := ⟨d - 1, by omega⟩
  have hd : 1 ≤ d := by omega
  have hT := hX8_countOne
  unfold fX8_countOne at e
  refine Cl.into (by decide) gX8_countOne rfl ?_
  show Rn d 107 none 0 [some (.ref q0), some (.int x1)] [] h Q
  refine Rn.n hT 1 (pc' := 1) (L' := [some (.ref q0), some (.int x1)]) (st' := [.ref q0]) rfl ?_
  obtain ⟨v_2541, e_2542, e⟩ := Option.bind_eq_some_iff.mp e
  refine Rn.hp hT rfl rfl (gI_hp e_2542) ?_
  refine Rn.n hT 1 (pc' := 6) (L' := [some (.ref q0), some (.int x1)]) (st' := [.int (60 : Int32), .int v_2541]) rfl ?_
  by_cases c_2543 : v_2541 < (60 : Int32)
  · rw [if_pos c_2543] at e
    refine Rn.bt hT rfl rfl rfl (decide_eq_true c_2543) ?_
    exact Rn.weak (ll_s (ll_n ll_e)) (rX8_countOne_b18 hd hq e)
  · rw [if_neg c_2543] at e
    refine Rn.bf hT rfl rfl rfl (decide_eq_false c_2543) ?_
    refine Rn.n hT 1 (pc' := 10) (L' := [some (.ref q0), some (.int x1)]) (st' := [.ref q0]) rfl ?_
    obtain ⟨v_2544, e_2545, e⟩ := Option.bind_eq_some_iff.mp e
    refine Rn.hp hT rfl rfl (gR_hp e_2545) ?_
    refine Rn.n hT 2 (pc' := 15) (L' := [some (.ref q0), some (.int x1)]) (st' := [.int (3 : Int32), .int x1, .ref v_2544]) rfl ?_
    obtain ⟨_, e_2547, e⟩ := Option.bind_eq_some_iff.mp e
    obtain ⟨h_2549, e_2546, e⟩ := Option.bind_eq_some_iff.mp e
    refine Rn.call hT rfl rfl rfl (Nat.le_of_ble_eq_true rfl) (rcv_v gX6_fail (by omega) e_2547) (rX6_fail (by omega) e_2546 ?_)
    show Rn d _ _ 18 [some (.ref q0), some (.int x1)] [] h_2549 Q
    exact Rn.weak (ll_s (ll_n ll_e)) (rX8_countOne_b18 hd hq e)
set_option maxRecDepth 10000 in
theorem hX8_emit : iv_Tb 115 tX8_emit := iv_tb_of (m := mX8_emit) rfl
set_option maxRecDepth 10000 in
theorem gX8_emit : PG.2 115 = some mX8_emit := iv_pi_of (t := tX8_emit) rfl (by decide)
def fX8_emit_b30 (N : Nat) (h : iv_H)   : Option (iv_H) := some h
set_option maxRecDepth 10000 in
set_option maxHeartbeats 4000000 in
theorem rX8_emit_b30 {d N : Nat} (hd : 0 ≤ d) {h : iv_H}   {r : iv_H} {Q : Option Value → iv_H → Prop} (hq : Q none r) (e : fX8_emit_b30 N h   = some r) : Rn d 115 none 30 [none, none] [] h Q := by
  have hT := hX8_emit
  unfold fX8_emit_b30 at e
  obtain rfl := Option.some.inj e
  exact Rn.ret hT rfl rfl rfl hq
def fX8_emit (N : Nat) (h : iv_H) (q0 : Nat) (x1 : Int32) : Option (iv_H) := ((gI h 8 2 q0).bind fun v_2554 => (if (400 : Int32) ≤ v_2554 then (fX8_emit_b30 N h) else ((gR h 8 1 q0).bind fun v_2557 => ((gI h 8 2 q0).bind fun v_2559 => ((wI h v_2557 v_2559 x1).bind fun h_2561 => ((gI h_2561 8 2 q0).bind fun v_2563 => ((pV h_2561 8 2 q0 (.int (v_2563 + (1 : Int32)))).bind fun h_2565 => (fX8_emit_b30 N h_2565))))))))
set_option maxRecDepth 10000 in
set_option maxHeartbeats 4000000 in
theorem rX8_emit {d N : Nat} (hd : 1 ≤ d) {h : iv_H} {q0 : Nat} {x1 : Int32} {r : iv_H} {Q : Option Value → iv_H → Prop} (e : fX8_emit N h q0 x1 = some r) (hq : Q none r) : Cl d 115 [.ref q0, .int x1] h Q := by
  obtain ⟨d, rfl⟩ : ∃ k, d = k + 1 := ⟨d - 1, by omega⟩
  have hd : 0 ≤ d := by omega
  have hT := hX8_emit
  unfold fX8_emit at e
  refine Cl.into (by decide) gX8_emit rfl ?_
  show Rn d 115 none 0 [some (.ref q0), some (.int x1)] [] h Q
  refine Rn.n hT 1 (pc' := 1) (L' := [some (.ref q0), some (.int x1)]) (st' := [.ref q0]) rfl ?_
  obtain ⟨v_2554, e_2555, e⟩ := Option.bind_eq_some_iff.mp e
  refine Rn.hp hT rfl rfl (gI_hp e_2555) ?_
  refine Rn.n hT 1 (pc' := 7) (L' := [some (.ref q0), some (.int x1)]) (st' := [.int (400 : Int32), .int v_2554]) rfl ?_
  by_cases c_2556 : (400 : Int32) ≤ v_2554
  · rw [if_pos c_2556] at e
    refine Rn.bt hT rfl rfl rfl (decide_eq_true c_2556) ?_
    exact Rn.weak (ll_n (ll_n ll_e)) (rX8_emit_b30 hd hq e)
  · rw [if_neg c_2556] at e
    refine Rn.bf hT rfl rfl rfl (decide_eq_false c_2556) ?_
    refine Rn.n hT 1 (pc' := 11) (L' := [some (.ref q0), some (.int x1)]) (st' := [.ref q0]) rfl ?_
    obtain ⟨v_2557, e_2558, e⟩ := Option.bind_eq_some_iff.mp e
    refine Rn.hp hT rfl rfl (gR_hp e_2558) ?_
    refine Rn.n hT 1 (pc' := 15) (L' := [some (.ref q0), some (.int x1)]) (st' := [.ref q0, .ref v_2557]) rfl ?_
    obtain ⟨v_2559, e_2560, e⟩ := Option.bind_eq_some_iff.mp e
    refine Rn.hp hT rfl rfl (gI_hp e_2560) ?_
    refine Rn.n hT 1 (pc' := 19) (L' := [some (.ref q0), some (.int x1)]) (st' := [.int x1, .int v_2559, .ref v_2557]) rfl ?_
    obtain ⟨h_2561, e_2562, e⟩ := Option.bind_eq_some_iff.mp e
    refine Rn.hp hT rfl rfl (wI_hp e_2562) ?_
    refine Rn.n hT 2 (pc' := 22) (L' := [some (.ref q0), some (.int x1)]) (st' := [.ref q0, .ref q0]) rfl ?_
    obtain ⟨v_2563, e_2564, e⟩ := Option.bind_eq_some_iff.mp e
    refine Rn.hp hT rfl rfl (gI_hp e_2564) ?_
    refine Rn.n hT 2 (pc' := 27) (L' := [some (.ref q0), some (.int x1)]) (st' := [.int (v_2563 + (1 : Int32)), .ref q0]) rfl ?_
    obtain ⟨h_2565, e_2566, e⟩ := Option.bind_eq_some_iff.mp e
    refine Rn.hp hT rfl rfl (pV_hp rfl e_2566) ?_
    exact Rn.weak (ll_n (ll_n ll_e)) (rX8_emit_b30 hd hq e)
set_option maxRecDepth 10000 in
theorem hX8_readValue : iv_Tb 106 tX8_readValue := iv_tb_of (m := mX8_readValue) rfl
set_option maxRecDepth 10000 in
theorem gX8_readValue : PG.2 106 = some mX8_readValue := iv_pi_of (t := tX8_readValue) rfl (by decide)
def fX8_readValue_b89 (N : Nat) (h : iv_H)  (s0 : Int32) (sq1 : Nat) : Option (iv_H) := ((pV h 8 5 sq1 (.int s0)).bind fun h_2608 => some h_2608)
set_option maxRecDepth 10000 in
set_option maxHeartbeats 4000000 in
theorem rX8_readValue_b89 {d N : Nat} (hd : 12 ≤ d) {h : iv_H}  {s0 : Int32} {sq1 : Nat} {r : iv_H} {Q : Option Value → iv_H → Prop} (hq : Q none r) (e : fX8_readValue_b89 N h  s0 sq1 = some r) : Rn d 106 none 89 [none, none, none, none, none] [.int s0, .ref sq1] h Q := by
  have hT := hX8_readValue
  unfold fX8_readValue_b89 at e
  obtain ⟨h_2608, e_2609, e⟩ := Option.bind_eq_some_iff.mp e
  refine Rn.hp hT rfl rfl (pV_hp rfl e_2609) ?_
  obtain rfl := Option.some.inj e
  exact Rn.ret hT rfl rfl rfl hq
def fX8_readValue_b60 (N : Nat) (h : iv_H) (q0 : Nat) (x3 : Int32)  : Option (iv_H) := ((gR h 8 0 q0).bind fun v_2593 => ((gI h 6 3 v_2593).bind fun v_2595 => ((cko h q0 8).bind fun _ => (fX8_countOne N h q0 v_2595).bind fun h_2600 => ((cko h_2600 q0 8).bind fun _ => (fX8_emit N h_2600 q0 x3).bind fun h_2604 => ((gI h_2604 8 6 q0).bind fun v_2605 => (if v_2605 = 0 then (fX8_readValue_b89 N h_2604 (3 : Int32) q0) else (fX8_readValue_b89 N h_2604 (4 : Int32) q0)))))))
set_option maxRecDepth 10000 in
set_option maxHeartbeats 4000000 in
theorem rX8_readValue_b60 {d N : Nat} (hd : 12 ≤ d) {h : iv_H} {q0 : Nat} {x3 : Int32}  {r : iv_H} {Q : Option Value → iv_H → Prop} (hq : Q none r) (e : fX8_readValue_b60 N h q0 x3  = some r) : Rn d 106 none 60 [some (.ref q0), none, none, some (.int x3), none] [] h Q := by
  have hT := hX8_readValue
  unfold fX8_readValue_b60 at e
  refine Rn.n hT 2 (pc' := 62) (L' := [some (.ref q0), none, none, some (.int x3), none]) (st' := [.ref q0, .ref q0]) rfl ?_
  obtain ⟨v_2593, e_2594, e⟩ := Option.bind_eq_some_iff.mp e
  refine Rn.hp hT rfl rfl (gR_hp e_2594) ?_
  obtain ⟨v_2595, e_2596, e⟩ := Option.bind_eq_some_iff.mp e
  refine Rn.hp hT rfl rfl (gI_hp e_2596) ?_
  obtain ⟨_, e_2598, e⟩ := Option.bind_eq_some_iff.mp e
  obtain ⟨h_2600, e_2597, e⟩ := Option.bind_eq_some_iff.mp e
  refine Rn.call hT rfl rfl rfl (Nat.le_of_ble_eq_true rfl) (rcv_v gX8_countOne (by omega) e_2598) (rX8_countOne (by omega) e_2597 ?_)
  show Rn d _ _ 71 [some (.ref q0), none, none, some (.int x3), none] [] h_2600 Q
  refine Rn.n hT 2 (pc' := 73) (L' := [some (.ref q0), none, none, some (.int x3), none]) (st' := [.int x3, .ref q0]) rfl ?_
  obtain ⟨_, e_2602, e⟩ := Option.bind_eq_some_iff.mp e
  obtain ⟨h_2604, e_2601, e⟩ := Option.bind_eq_some_iff.mp e
  refine Rn.call hT rfl rfl rfl (Nat.le_of_ble_eq_true rfl) (rcv_v gX8_emit (by omega) e_2602) (rX8_emit (by omega) e_2601 ?_)
  show Rn d _ _ 76 [some (.ref q0), none, none, some (.int x3), none] [] h_2604 Q
  refine Rn.n hT 2 (pc' := 78) (L' := [some (.ref q0), none, none, some (.int x3), none]) (st' := [.ref q0, .ref q0]) rfl ?_
  obtain ⟨v_2605, e_2606, e⟩ := Option.bind_eq_some_iff.mp e
  refine Rn.hp hT rfl rfl (gI_hp e_2606) ?_
  by_cases c_2607 : v_2605 = 0
  · rw [if_pos c_2607] at e
    refine Rn.bt hT rfl rfl rfl (decide_eq_true c_2607) ?_
    refine Rn.n hT 1 (pc' := 89) (L' := [some (.ref q0), none, none, some (.int x3), none]) (st' := [.int (3 : Int32), .ref q0]) rfl ?_
    exact Rn.weak (ll_n (ll_n (ll_n (ll_n (ll_n ll_e))))) (rX8_readValue_b89 hd hq e)
  · rw [if_neg c_2607] at e
    refine Rn.bf hT rfl rfl rfl (decide_eq_false c_2607) ?_
    refine Rn.n hT 2 (pc' := 89) (L' := [some (.ref q0), none, none, some (.int x3), none]) (st' := [.int (4 : Int32), .ref q0]) rfl ?_
    exact Rn.weak (ll_n (ll_n (ll_n (ll_n (ll_n ll_e))))) (rX8_readValue_b89 hd hq e)
def fX8_readValue (N : Nat) (h : iv_H) (q0 : Nat) (x1 : Int32) (q2 : Nat) : Option (iv_H) := ((fX6_isLetter N h x1).bind fun v_2568 => (if v_2568 = 0 then ((gR h 8 0 q0).bind fun v_2570 => ((cko h v_2570 6).bind fun _ => (fX6_readNumber N h v_2570 (0 : Int32) (99999 : Int32)).bind fun p_2576 => (fun (v_2574 : Int32) (h_2575 : iv_H) => (fX8_readValue_b60 N h_2575 q0 ((100 : Int32) + v_2574))) p_2576.1 p_2576.2)) else ((gR h 8 0 q0).bind fun v_2577 => ((cko h v_2577 6).bind fun _ => (fX6_readWord N h v_2577 q2).bind fun p_2592 => (fun (v_2581 : Int32) (h_2582 : iv_H) => (if v_2581 = (13 : Int32) then ((gR h_2582 8 0 q0).bind fun v_2584 => ((gI h_2582 6 3 v_2584).bind fun v_2586 => ((cko h_2582 q0 8).bind fun _ => (fX8_deepen N h_2582 q0 (3 : Int32) v_2586).bind fun h_2591 => some h_2591))) else (fX8_readValue_b60 N h_2582 q0 ((20 : Int32) + v_2581)))) p_2592.1 p_2592.2))))
set_option maxRecDepth 10000 in
set_option maxHeartbeats 4000000 in
theorem rX8_readValue {d N : Nat} (hd : 13 ≤ d) {h : iv_H} {q0 : Nat} {x1 : Int32} {q2 : Nat} {r : iv_H} {Q : Option Value → iv_H → Prop} (e : fX8_readValue N h q0 x1 q2 = some r) (hq : Q none r) : Cl d 106 [.ref q0, .int x1, .ref q2] h Q := by
  obtain ⟨d, rfl⟩ : ∃ k, d = k + 1 := ⟨d - 1, by omega⟩
  have hd : 12 ≤ d := by omega
  have hT := hX8_readValue
  unfold fX8_readValue at e
  refine Cl.into (by decide) gX8_readValue rfl ?_
  show Rn d 106 none 0 [some (.ref q0), some (.int x1), some (.ref q2), none, none] [] h Q
  refine Rn.n hT 1 (pc' := 1) (L' := [some (.ref q0), some (.int x1), some (.ref q2), none, none]) (st' := [.int x1]) rfl ?_
  obtain ⟨v_2568, e_2567, e⟩ := Option.bind_eq_some_iff.mp e
  refine Rn.call hT rfl rfl rfl (Nat.le_of_ble_eq_true rfl) rfl (rX6_isLetter (by omega) e_2567 ?_)
  show Rn d _ _ 4 [some (.ref q0), some (.int x1), some (.ref q2), none, none] [.int v_2568] h Q
  by_cases c_2569 : v_2568 = 0
  · rw [if_pos c_2569] at e
    refine Rn.bt hT rfl rfl rfl (decide_eq_true c_2569) ?_
    refine Rn.n hT 2 (pc' := 49) (L' := [some (.ref q0), some (.int x1), some (.ref q2), none, none]) (st' := [.ref q0, .int (100 : Int32)]) rfl ?_
    obtain ⟨v_2570, e_2571, e⟩ := Option.bind_eq_some_iff.mp e
    refine Rn.hp hT rfl rfl (gR_hp e_2571) ?_
    refine Rn.n hT 2 (pc' := 55) (L' := [some (.ref q0), some (.int x1), some (.ref q2), none, none]) (st' := [.int (99999 : Int32), .int (0 : Int32), .ref v_2570, .int (100 : Int32)]) rfl ?_
    obtain ⟨_, e_2573, e⟩ := Option.bind_eq_some_iff.mp e
    obtain ⟨⟨v_2574, h_2575⟩, e_2572, e⟩ := Option.bind_eq_some_iff.mp e
    try dsimp only at e
    try dsimp only at e
    refine Rn.call hT rfl rfl rfl (Nat.le_of_ble_eq_true rfl) (rcv_v gX6_readNumber (by omega) e_2573) (rX6_readNumber (by omega) e_2572 ?_)
    show Rn d _ _ 58 [some (.ref q0), some (.int x1), some (.ref q2), none, none] [.int v_2574, .int (100 : Int32)] h_2575 Q
    refine Rn.n hT 2 (pc' := 60) (L' := [some (.ref q0), some (.int x1), some (.ref q2), some (.int ((100 : Int32) + v_2574)), none]) (st' := []) rfl ?_
    exact Rn.weak (ll_s (ll_n (ll_n (ll_s (ll_n ll_e))))) (rX8_readValue_b60 hd hq e)
  · rw [if_neg c_2569] at e
    refine Rn.bf hT rfl rfl rfl (decide_eq_false c_2569) ?_
    refine Rn.n hT 1 (pc' := 8) (L' := [some (.ref q0), some (.int x1), some (.ref q2), none, none]) (st' := [.ref q0]) rfl ?_
    obtain ⟨v_2577, e_2578, e⟩ := Option.bind_eq_some_iff.mp e
    refine Rn.hp hT rfl rfl (gR_hp e_2578) ?_
    refine Rn.n hT 1 (pc' := 12) (L' := [some (.ref q0), some (.int x1), some (.ref q2), none, none]) (st' := [.ref q2, .ref v_2577]) rfl ?_
    obtain ⟨_, e_2580, e⟩ := Option.bind_eq_some_iff.mp e
    obtain ⟨⟨v_2581, h_2582⟩, e_2579, e⟩ := Option.bind_eq_some_iff.mp e
    try dsimp only at e
    try dsimp only at e
    refine Rn.call hT rfl rfl rfl (Nat.le_of_ble_eq_true rfl) (rcv_v gX6_readWord (by omega) e_2580) (rX6_readWord (by omega) e_2579 ?_)
    show Rn d _ _ 15 [some (.ref q0), some (.int x1), some (.ref q2), none, none] [.int v_2581] h_2582 Q
    refine Rn.n hT 3 (pc' := 21) (L' := [some (.ref q0), some (.int x1), some (.ref q2), none, some (.int v_2581)]) (st' := [.int (13 : Int32), .int v_2581]) rfl ?_
    by_cases c_2583 : v_2581 = (13 : Int32)
    · rw [if_pos c_2583] at e
      refine Rn.bf hT rfl rfl rfl (decide_eq_false (fun z => z c_2583)) ?_
      refine Rn.n hT 3 (pc' := 27) (L' := [some (.ref q0), some (.int x1), some (.ref q2), none, some (.int v_2581)]) (st' := [.ref q0, .int (3 : Int32), .ref q0]) rfl ?_
      obtain ⟨v_2584, e_2585, e⟩ := Option.bind_eq_some_iff.mp e
      refine Rn.hp hT rfl rfl (gR_hp e_2585) ?_
      obtain ⟨v_2586, e_2587, e⟩ := Option.bind_eq_some_iff.mp e
      refine Rn.hp hT rfl rfl (gI_hp e_2587) ?_
      obtain ⟨_, e_2589, e⟩ := Option.bind_eq_some_iff.mp e
      obtain ⟨h_2591, e_2588, e⟩ := Option.bind_eq_some_iff.mp e
      refine Rn.call hT rfl rfl rfl (Nat.le_of_ble_eq_true rfl) (rcv_v gX8_deepen (by omega) e_2589) (rX8_deepen (by omega) e_2588 ?_)
      show Rn d _ _ 36 [some (.ref q0), some (.int x1), some (.ref q2), none, some (.int v_2581)] [] h_2591 Q
      obtain rfl := Option.some.inj e
      exact Rn.ret hT rfl rfl rfl hq
    · rw [if_neg c_2583] at e
      refine Rn.bt hT rfl rfl rfl (decide_eq_true c_2583) ?_
      refine Rn.n hT 5 (pc' := 60) (L' := [some (.ref q0), some (.int x1), some (.ref q2), some (.int ((20 : Int32) + v_2581)), some (.int v_2581)]) (st' := []) rfl ?_
      exact Rn.weak (ll_s (ll_n (ll_n (ll_s (ll_n ll_e))))) (rX8_readValue_b60 hd hq e)
set_option maxRecDepth 10000 in
theorem hX8_readFact : iv_Tb 104 tX8_readFact := iv_tb_of (m := mX8_readFact) rfl
set_option maxRecDepth 10000 in
theorem gX8_readFact : PG.2 104 = some mX8_readFact := iv_pi_of (t := tX8_readFact) rfl (by decide)
def fX8_readFact_b57 (N : Nat) (h : iv_H)   : Option (iv_H) := some h
set_option maxRecDepth 10000 in
set_option maxHeartbeats 4000000 in
theorem rX8_readFact_b57 {d N : Nat} (hd : 13 ≤ d) {h : iv_H}   {r : iv_H} {Q : Option Value → iv_H → Prop} (hq : Q none r) (e : fX8_readFact_b57 N h   = some r) : Rn d 104 none 57 [none, none] [] h Q := by
  have hT := hX8_readFact
  unfold fX8_readFact_b57 at e
  obtain rfl := Option.some.inj e
  exact Rn.ret hT rfl rfl rfl hq
def fX8_readFact (N : Nat) (h : iv_H) (q0 : Nat) (x1 : Int32) : Option (iv_H) := ((pV h 8 6 q0 (.int (0 : Int32))).bind fun h_2610 => (if x1 = (91 : Int32) then ((gR h_2610 8 0 q0).bind fun v_2617 => ((gI h_2610 6 2 v_2617).bind fun v_2619 => ((cko h_2610 q0 8).bind fun _ => (fX8_deepen N h_2610 q0 (14 : Int32) v_2619).bind fun h_2624 => ((gI h_2624 8 9 q0).bind fun v_2625 => ((pV h_2624 8 9 q0 (.int (v_2625 + (1 : Int32)))).bind fun h_2627 => ((gR h_2627 8 0 q0).bind fun v_2629 => ((gI h_2627 6 2 v_2629).bind fun v_2631 => ((pV h_2627 6 2 v_2629 (.int (v_2631 + (1 : Int32)))).bind fun h_2633 => (fX8_readFact_b57 N h_2633))))))))) else ((cko h_2610 q0 8).bind fun _ => (fX8_readValue N h_2610 q0 x1 1000013).bind fun h_2616 => (fX8_readFact_b57 N h_2616))))
set_option maxRecDepth 10000 in
set_option maxHeartbeats 4000000 in
theorem rX8_readFact {d N : Nat} (hd : 14 ≤ d) {h : iv_H} {q0 : Nat} {x1 : Int32} {r : iv_H} {Q : Option Value → iv_H → Prop} (e : fX8_readFact N h q0 x1 = some r) (hq : Q none r) : Cl d 104 [.ref q0, .int x1] h Q := by
  obtain ⟨d, rfl⟩ : ∃ k, d = k + 1 := ⟨d - 1, by omega⟩
  have hd : 13 ≤ d := by omega
  have hT := hX8_readFact
  unfold fX8_readFact at e
  refine Cl.into (by decide) gX8_readFact rfl ?_
  show Rn d 104 none 0 [some (.ref q0), some (.int x1)] [] h Q
  refine Rn.n hT 2 (pc' := 2) (L' := [some (.ref q0), some (.int x1)]) (st' := [.int (0 : Int32), .ref q0]) rfl ?_
  obtain ⟨h_2610, e_2611, e⟩ := Option.bind_eq_some_iff.mp e
  refine Rn.hp hT rfl rfl (pV_hp (by decide) e_2611) ?_
  refine Rn.n hT 2 (pc' := 8) (L' := [some (.ref q0), some (.int x1)]) (st' := [.int (91 : Int32), .int x1]) rfl ?_
  by_cases c_2612 : x1 = (91 : Int32)
  · rw [if_pos c_2612] at e
    refine Rn.bf hT rfl rfl rfl (decide_eq_false (fun z => z c_2612)) ?_
    refine Rn.n hT 3 (pc' := 15) (L' := [some (.ref q0), some (.int x1)]) (st' := [.ref q0, .int (14 : Int32), .ref q0]) rfl ?_
    obtain ⟨v_2617, e_2618, e⟩ := Option.bind_eq_some_iff.mp e
    refine Rn.hp hT rfl rfl (gR_hp e_2618) ?_
    obtain ⟨v_2619, e_2620, e⟩ := Option.bind_eq_some_iff.mp e
    refine Rn.hp hT rfl rfl (gI_hp e_2620) ?_
    obtain ⟨_, e_2622, e⟩ := Option.bind_eq_some_iff.mp e
    obtain ⟨h_2624, e_2621, e⟩ := Option.bind_eq_some_iff.mp e
    refine Rn.call hT rfl rfl rfl (Nat.le_of_ble_eq_true rfl) (rcv_v gX8_deepen (by omega) e_2622) (rX8_deepen (by omega) e_2621 ?_)
    show Rn d _ _ 24 [some (.ref q0), some (.int x1)] [] h_2624 Q
    refine Rn.n hT 2 (pc' := 26) (L' := [some (.ref q0), some (.int x1)]) (st' := [.ref q0, .ref q0]) rfl ?_
    obtain ⟨v_2625, e_2626, e⟩ := Option.bind_eq_some_iff.mp e
    refine Rn.hp hT rfl rfl (gI_hp e_2626) ?_
    refine Rn.n hT 2 (pc' := 31) (L' := [some (.ref q0), some (.int x1)]) (st' := [.int (v_2625 + (1 : Int32)), .ref q0]) rfl ?_
    obtain ⟨h_2627, e_2628, e⟩ := Option.bind_eq_some_iff.mp e
    refine Rn.hp hT rfl rfl (pV_hp rfl e_2628) ?_
    refine Rn.n hT 1 (pc' := 35) (L' := [some (.ref q0), some (.int x1)]) (st' := [.ref q0]) rfl ?_
    obtain ⟨v_2629, e_2630, e⟩ := Option.bind_eq_some_iff.mp e
    refine Rn.hp hT rfl rfl (gR_hp e_2630) ?_
    refine Rn.n hT 1 (pc' := 39) (L' := [some (.ref q0), some (.int x1)]) (st' := [.ref v_2629, .ref v_2629]) rfl ?_
    obtain ⟨v_2631, e_2632, e⟩ := Option.bind_eq_some_iff.mp e
    refine Rn.hp hT rfl rfl (gI_hp e_2632) ?_
    refine Rn.n hT 2 (pc' := 44) (L' := [some (.ref q0), some (.int x1)]) (st' := [.int (v_2631 + (1 : Int32)), .ref v_2629]) rfl ?_
    obtain ⟨h_2633, e_2634, e⟩ := Option.bind_eq_some_iff.mp e
    refine Rn.hp hT rfl rfl (pV_hp rfl e_2634) ?_
    refine Rn.n hT 1 (pc' := 57) (L' := [some (.ref q0), some (.int x1)]) (st' := []) rfl ?_
    exact Rn.weak (ll_n (ll_n ll_e)) (rX8_readFact_b57 hd hq e)
  · rw [if_neg c_2612] at e
    refine Rn.bt hT rfl rfl rfl (decide_eq_true c_2612) ?_
    refine Rn.n hT 3 (pc' := 54) (L' := [some (.ref q0), some (.int x1)]) (st' := [.ref 1000013, .int x1, .ref q0]) rfl ?_
    obtain ⟨_, e_2614, e⟩ := Option.bind_eq_some_iff.mp e
    obtain ⟨h_2616, e_2613, e⟩ := Option.bind_eq_some_iff.mp e
    refine Rn.call hT rfl rfl rfl (Nat.le_of_ble_eq_true rfl) (rcv_v gX8_readValue (by omega) e_2614) (rX8_readValue (by omega) e_2613 ?_)
    show Rn d _ _ 57 [some (.ref q0), some (.int x1)] [] h_2616 Q
    exact Rn.weak (ll_n (ll_n ll_e)) (rX8_readFact_b57 hd hq e)
set_option maxRecDepth 10000 in
theorem hX8_arithmeticOf : iv_Tb 109 tX8_arithmeticOf := iv_tb_of (m := mX8_arithmeticOf) rfl
set_option maxRecDepth 10000 in
theorem gX8_arithmeticOf : PG.2 109 = some mX8_arithmeticOf := iv_pi_of (t := tX8_arithmeticOf) rfl (by decide)
def fX8_arithmeticOf (N : Nat) (h : iv_H) (x0 : Int32) : Option (Int32) := (if x0 = (37 : Int32) then (some (13 : Int32)) else (if x0 = (38 : Int32) then (some (-1 : Int32)) else (if x0 = (39 : Int32) then (some (-1 : Int32)) else (if x0 = (40 : Int32) then (some (-1 : Int32)) else (if x0 = (41 : Int32) then (some (-1 : Int32)) else (if x0 = (42 : Int32) then (some (11 : Int32)) else (if x0 = (43 : Int32) then (some (9 : Int32)) else (if x0 = (44 : Int32) then (some (-1 : Int32)) else (if x0 = (45 : Int32) then (some (10 : Int32)) else (if x0 = (46 : Int32) then (some (-1 : Int32)) else (if x0 = (47 : Int32) then (some (12 : Int32)) else (some (-1 : Int32)))))))))))))
set_option maxRecDepth 10000 in
set_option maxHeartbeats 4000000 in
theorem rX8_arithmeticOf {d N : Nat} (hd : 1 ≤ d) {h : iv_H} {x0 : Int32} {r : Int32} {Q : Option Value → iv_H → Prop} (e : fX8_arithmeticOf N h x0 = some r) (hq : Q (some (.int r)) h) : Cl d 109 [.int x0] h Q := by
  obtain ⟨d, rfl⟩ : ∃ k, d = k + 1 := ⟨d - 1, by omega⟩
  have hd : 0 ≤ d := by omega
  have hT := hX8_arithmeticOf
  unfold fX8_arithmeticOf at e
  refine Cl.into (by decide) gX8_arithmeticOf rfl ?_
  show Rn d 109 (some .int) 0 [some (.int x0)] [] h Q
  refine Rn.n hT 1 (pc' := 1) (L' := [some (.int x0)]) (st' := [.int x0]) rfl ?_
  by_cases c_2635 : x0 = (37 : Int32)
  · rw [if_pos c_2635] at e
    refine Rn.sw2 hT rfl rfl rfl (if_pos c_2635) ?_
    refine Rn.n hT 1 (pc' := 74) (L' := [some (.int x0)]) (st' := [.int (13 : Int32)]) rfl ?_
    obtain rfl := Option.some.inj e
    exact Rn.ret hT rfl rfl rfl hq
  · rw [if_neg c_2635] at e
    by_cases c_2636 : x0 = (38 : Int32)
    · rw [if_pos c_2636] at e
      refine Rn.sw2 hT rfl rfl rfl ((if_neg c_2635).trans (if_pos c_2636)) ?_
      refine Rn.n hT 1 (pc' := 76) (L' := [some (.int x0)]) (st' := [.int (-1 : Int32)]) rfl ?_
      obtain rfl := Option.some.inj e
      exact Rn.ret hT rfl rfl rfl hq
    · rw [if_neg c_2636] at e
      by_cases c_2637 : x0 = (39 : Int32)
      · rw [if_pos c_2637] at e
        refine Rn.sw2 hT rfl rfl rfl ((if_neg c_2635).trans ((if_neg c_2636).trans (if_pos c_2637))) ?_
        refine Rn.n hT 1 (pc' := 76) (L' := [some (.int x0)]) (st' := [.int (-1 : Int32)]) rfl ?_
        obtain rfl := Option.some.inj e
        exact Rn.ret hT rfl rfl rfl hq
      · rw [if_neg c_2637] at e
        by_cases c_2638 : x0 = (40 : Int32)
        · rw [if_pos c_2638] at e
          refine Rn.sw2 hT rfl rfl rfl ((if_neg c_2635).trans ((if_neg c_2636).trans ((if_neg c_2637).trans (if_pos c_2638)))) ?_
          refine Rn.n hT 1 (pc' := 76) (L' := [some (.int x0)]) (st' := [.int (-1 : Int32)]) rfl ?_
          obtain rfl := Option.some.inj e
          exact Rn.ret hT rfl rfl rfl hq
        · rw [if_neg c_2638] at e
          by_cases c_2639 : x0 = (41 : Int32)
          · rw [if_pos c_2639] at e
            refine Rn.sw2 hT rfl rfl rfl ((if_neg c_2635).trans ((if_neg c_2636).trans ((if_neg c_2637).trans ((if_neg c_2638).trans (if_pos c_2639))))) ?_
            refine Rn.n hT 1 (pc' := 76) (L' := [some (.int x0)]) (st' := [.int (-1 : Int32)]) rfl ?_
            obtain rfl := Option.some.inj e
            exact Rn.ret hT rfl rfl rfl hq
          · rw [if_neg c_2639] at e
            by_cases c_2640 : x0 = (42 : Int32)
            · rw [if_pos c_2640] at e
              refine Rn.sw2 hT rfl rfl rfl ((if_neg c_2635).trans ((if_neg c_2636).trans ((if_neg c_2637).trans ((if_neg c_2638).trans ((if_neg c_2639).trans (if_pos c_2640)))))) ?_
              refine Rn.n hT 1 (pc' := 68) (L' := [some (.int x0)]) (st' := [.int (11 : Int32)]) rfl ?_
              obtain rfl := Option.some.inj e
              exact Rn.ret hT rfl rfl rfl hq
            · rw [if_neg c_2640] at e
              by_cases c_2641 : x0 = (43 : Int32)
              · rw [if_pos c_2641] at e
                refine Rn.sw2 hT rfl rfl rfl ((if_neg c_2635).trans ((if_neg c_2636).trans ((if_neg c_2637).trans ((if_neg c_2638).trans ((if_neg c_2639).trans ((if_neg c_2640).trans (if_pos c_2641))))))) ?_
                refine Rn.n hT 1 (pc' := 62) (L' := [some (.int x0)]) (st' := [.int (9 : Int32)]) rfl ?_
                obtain rfl := Option.some.inj e
                exact Rn.ret hT rfl rfl rfl hq
              · rw [if_neg c_2641] at e
                by_cases c_2642 : x0 = (44 : Int32)
                · rw [if_pos c_2642] at e
                  refine Rn.sw2 hT rfl rfl rfl ((if_neg c_2635).trans ((if_neg c_2636).trans ((if_neg c_2637).trans ((if_neg c_2638).trans ((if_neg c_2639).trans ((if_neg c_2640).trans ((if_neg c_2641).trans (if_pos c_2642)))))))) ?_
                  refine Rn.n hT 1 (pc' := 76) (L' := [some (.int x0)]) (st' := [.int (-1 : Int32)]) rfl ?_
                  obtain rfl := Option.some.inj e
                  exact Rn.ret hT rfl rfl rfl hq
                · rw [if_neg c_2642] at e
                  by_cases c_2643 : x0 = (45 : Int32)
                  · rw [if_pos c_2643] at e
                    refine Rn.sw2 hT rfl rfl rfl ((if_neg c_2635).trans ((if_neg c_2636).trans ((if_neg c_2637).trans ((if_neg c_2638).trans ((if_neg c_2639).trans ((if_neg c_2640).trans ((if_neg c_2641).trans ((if_neg c_2642).trans (if_pos c_2643))))))))) ?_
                    refine Rn.n hT 1 (pc' := 65) (L' := [some (.int x0)]) (st' := [.int (10 : Int32)]) rfl ?_
                    obtain rfl := Option.some.inj e
                    exact Rn.ret hT rfl rfl rfl hq
                  · rw [if_neg c_2643] at e
                    by_cases c_2644 : x0 = (46 : Int32)
                    · rw [if_pos c_2644] at e
                      refine Rn.sw2 hT rfl rfl rfl ((if_neg c_2635).trans ((if_neg c_2636).trans ((if_neg c_2637).trans ((if_neg c_2638).trans ((if_neg c_2639).trans ((if_neg c_2640).trans ((if_neg c_2641).trans ((if_neg c_2642).trans ((if_neg c_2643).trans (if_pos c_2644)))))))))) ?_
                      refine Rn.n hT 1 (pc' := 76) (L' := [some (.int x0)]) (st' := [.int (-1 : Int32)]) rfl ?_
                      obtain rfl := Option.some.inj e
                      exact Rn.ret hT rfl rfl rfl hq
                    · rw [if_neg c_2644] at e
                      by_cases c_2645 : x0 = (47 : Int32)
                      · rw [if_pos c_2645] at e
                        refine Rn.sw2 hT rfl rfl rfl ((if_neg c_2635).trans ((if_neg c_2636).trans ((if_neg c_2637).trans ((if_neg c_2638).trans ((if_neg c_2639).trans ((if_neg c_2640).trans ((if_neg c_2641).trans ((if_neg c_2642).trans ((if_neg c_2643).trans ((if_neg c_2644).trans (if_pos c_2645))))))))))) ?_
                        refine Rn.n hT 1 (pc' := 71) (L' := [some (.int x0)]) (st' := [.int (12 : Int32)]) rfl ?_
                        obtain rfl := Option.some.inj e
                        exact Rn.ret hT rfl rfl rfl hq
                      · rw [if_neg c_2645] at e
                        refine Rn.sw2 hT rfl rfl rfl ((if_neg c_2635).trans ((if_neg c_2636).trans ((if_neg c_2637).trans ((if_neg c_2638).trans ((if_neg c_2639).trans ((if_neg c_2640).trans ((if_neg c_2641).trans ((if_neg c_2642).trans ((if_neg c_2643).trans ((if_neg c_2644).trans ((if_neg c_2645).trans rfl))))))))))) ?_
                        refine Rn.n hT 1 (pc' := 76) (L' := [some (.int x0)]) (st' := [.int (-1 : Int32)]) rfl ?_
                        obtain rfl := Option.some.inj e
                        exact Rn.ret hT rfl rfl rfl hq
set_option maxRecDepth 10000 in
theorem hX8_release : iv_Tb 113 tX8_release := iv_tb_of (m := mX8_release) rfl
set_option maxRecDepth 10000 in
theorem gX8_release : PG.2 113 = some mX8_release := iv_pi_of (t := tX8_release) rfl (by decide)
def fX8_release_b59 (N : Nat) (h : iv_H) (q0 : Nat) (x1 : Int32) (s0 : Int32) (s1 : Int32) (sq2 : Nat) (kb : iv_H → Option (iv_H)) (kx : iv_H → Option (iv_H)) : Option (iv_H) := ((pV h 8 8 sq2 (.int (s1 - s0))).bind fun h_2672 => ((gR h_2672 8 3 q0).bind fun v_2674 => ((gI h_2672 8 4 q0).bind fun v_2676 => ((aI h_2672 v_2674 v_2676).bind fun v_2678 => ((cko h_2672 q0 8).bind fun _ => (fX8_emit N h_2672 q0 v_2678).bind fun h_2683 => (kb h_2683))))))
set_option maxRecDepth 10000 in
set_option maxHeartbeats 4000000 in
theorem rX8_release_b59 {d N : Nat} (hd : 1 ≤ d) {h : iv_H} {q0 : Nat} {x1 : Int32} {s0 : Int32} {s1 : Int32} {sq2 : Nat} {kb : iv_H → Option (iv_H)} {kx : iv_H → Option (iv_H)} {r : iv_H} {Q : Option Value → iv_H → Prop} (hb : ∀ (h : iv_H), kb h = some r → Rn d 113 none 0 [some (.ref q0), some (.int x1)] [] h Q) (hk : ∀ (h : iv_H), kx h = some r → Rn d 113 none 79 [none, none] [] h Q) (hq : Q none r) (e : fX8_release_b59 N h q0 x1 s0 s1 sq2 kb kx = some r) : Rn d 113 none 59 [some (.ref q0), some (.int x1)] [.int s0, .int s1, .ref sq2] h Q := by
  have hT := hX8_release
  unfold fX8_release_b59 at e
  refine Rn.n hT 1 (pc' := 60) (L' := [some (.ref q0), some (.int x1)]) (st' := [.int (s1 - s0), .ref sq2]) rfl ?_
  obtain ⟨h_2672, e_2673, e⟩ := Option.bind_eq_some_iff.mp e
  refine Rn.hp hT rfl rfl (pV_hp rfl e_2673) ?_
  refine Rn.n hT 2 (pc' := 65) (L' := [some (.ref q0), some (.int x1)]) (st' := [.ref q0, .ref q0]) rfl ?_
  obtain ⟨v_2674, e_2675, e⟩ := Option.bind_eq_some_iff.mp e
  refine Rn.hp hT rfl rfl (gR_hp e_2675) ?_
  refine Rn.n hT 1 (pc' := 69) (L' := [some (.ref q0), some (.int x1)]) (st' := [.ref q0, .ref v_2674, .ref q0]) rfl ?_
  obtain ⟨v_2676, e_2677, e⟩ := Option.bind_eq_some_iff.mp e
  refine Rn.hp hT rfl rfl (gI_hp e_2677) ?_
  obtain ⟨v_2678, e_2679, e⟩ := Option.bind_eq_some_iff.mp e
  refine Rn.hp hT rfl rfl (aI_hp e_2679) ?_
  obtain ⟨_, e_2681, e⟩ := Option.bind_eq_some_iff.mp e
  obtain ⟨h_2683, e_2680, e⟩ := Option.bind_eq_some_iff.mp e
  refine Rn.call hT rfl rfl rfl (Nat.le_of_ble_eq_true rfl) (rcv_v gX8_emit (by omega) e_2681) (rX8_emit (by omega) e_2680 ?_)
  show Rn d _ _ 76 [some (.ref q0), some (.int x1)] [] h_2683 Q
  refine Rn.n hT 1 (pc' := 0) (L' := [some (.ref q0), some (.int x1)]) (st' := []) rfl ?_
  exact Rn.weak (ll_s (ll_s ll_e)) (hb h_2683 e)
def fX8_release_l0 (N : Nat) (q0 : Nat) (x1 : Int32) (kx : iv_H → Option (iv_H)) : Nat → iv_H → Option (iv_H)
  | 0, _ => none
  | n + 1, h => ((gI h 8 4 q0).bind fun v_2647 => (if v_2647 ≤ 0 then (kx h) else ((gR h 8 3 q0).bind fun v_2650 => ((gI h 8 4 q0).bind fun v_2652 => ((aI h v_2650 (v_2652 - (1 : Int32))).bind fun v_2654 => ((aI h 1000001 v_2654).bind fun v_2656 => (if v_2656 < x1 then (kx h) else ((gI h 8 4 q0).bind fun v_2659 => ((pV h 8 4 q0 (.int (v_2659 - (1 : Int32)))).bind fun h_2661 => ((gI h_2661 8 8 q0).bind fun v_2663 => ((gR h_2661 8 3 q0).bind fun v_2665 => ((gI h_2661 8 4 q0).bind fun v_2667 => ((aI h_2661 v_2665 v_2667).bind fun v_2669 => (if v_2669 = (3 : Int32) then (fX8_release_b59 N h_2661 q0 x1 (1 : Int32) v_2663 q0 (fX8_release_l0 N q0 x1 kx n) kx) else (fX8_release_b59 N h_2661 q0 x1 (0 : Int32) v_2663 q0 (fX8_release_l0 N q0 x1 kx n) kx)))))))))))))))
set_option maxRecDepth 10000 in
set_option maxHeartbeats 4000000 in
theorem rX8_release_l0 {d N : Nat} (hd : 1 ≤ d) {q0 : Nat} {x1 : Int32} {kx : iv_H → Option (iv_H)} {r : iv_H} {Q : Option Value → iv_H → Prop} (hk : ∀ (h : iv_H), kx h = some r → Rn d 113 none 79 [none, none] [] h Q) (hq : Q none r) : ∀ (n : Nat) (h : iv_H), fX8_release_l0 N q0 x1 kx n h = some r → Rn d 113 none 0 [some (.ref q0), some (.int x1)] [] h Q := by
  have hT := hX8_release
  intro n
  induction n with
  | zero =>
    intro h e
    rw [fX8_release_l0] at e
    cases e
  | succ n ih =>
    intro h e
    rw [fX8_release_l0] at e
    refine Rn.n hT 1 (pc' := 1) (L' := [some (.ref q0), some (.int x1)]) (st' := [.ref q0]) rfl ?_
    obtain ⟨v_2647, e_2648, e⟩ := Option.bind_eq_some_iff.mp e
    refine Rn.hp hT rfl rfl (gI_hp e_2648) ?_
    by_cases c_2649 : v_2647 ≤ 0
    · rw [if_pos c_2649] at e
      refine Rn.bt hT rfl rfl rfl (decide_eq_true c_2649) ?_
      exact Rn.weak (ll_n (ll_n ll_e)) (hk h e)
    · rw [if_neg c_2649] at e
      refine Rn.bf hT rfl rfl rfl (decide_eq_false c_2649) ?_
      refine Rn.hp hT rfl rfl rfl ?_
      refine Rn.n hT 1 (pc' := 11) (L' := [some (.ref q0), some (.int x1)]) (st' := [.ref q0, .ref 1000001]) rfl ?_
      obtain ⟨v_2650, e_2651, e⟩ := Option.bind_eq_some_iff.mp e
      refine Rn.hp hT rfl rfl (gR_hp e_2651) ?_
      refine Rn.n hT 1 (pc' := 15) (L' := [some (.ref q0), some (.int x1)]) (st' := [.ref q0, .ref v_2650, .ref 1000001]) rfl ?_
      obtain ⟨v_2652, e_2653, e⟩ := Option.bind_eq_some_iff.mp e
      refine Rn.hp hT rfl rfl (gI_hp e_2653) ?_
      refine Rn.n hT 2 (pc' := 20) (L' := [some (.ref q0), some (.int x1)]) (st' := [.int (v_2652 - (1 : Int32)), .ref v_2650, .ref 1000001]) rfl ?_
      obtain ⟨v_2654, e_2655, e⟩ := Option.bind_eq_some_iff.mp e
      refine Rn.hp hT rfl rfl (aI_hp e_2655) ?_
      obtain ⟨v_2656, e_2657, e⟩ := Option.bind_eq_some_iff.mp e
      refine Rn.hp hT rfl rfl (aI_hp e_2657) ?_
      refine Rn.n hT 1 (pc' := 23) (L' := [some (.ref q0), some (.int x1)]) (st' := [.int x1, .int v_2656]) rfl ?_
      by_cases c_2658 : v_2656 < x1
      · rw [if_pos c_2658] at e
        refine Rn.bt hT rfl rfl rfl (decide_eq_true c_2658) ?_
        exact Rn.weak (ll_n (ll_n ll_e)) (hk h e)
      · rw [if_neg c_2658] at e
        refine Rn.bf hT rfl rfl rfl (decide_eq_false c_2658) ?_
        refine Rn.n hT 2 (pc' := 28) (L' := [some (.ref q0), some (.int x1)]) (st' := [.ref q0, .ref q0]) rfl ?_
        obtain ⟨v_2659, e_2660, e⟩ := Option.bind_eq_some_iff.mp e
        refine Rn.hp hT rfl rfl (gI_hp e_2660) ?_
        refine Rn.n hT 2 (pc' := 33) (L' := [some (.ref q0), some (.int x1)]) (st' := [.int (v_2659 - (1 : Int32)), .ref q0]) rfl ?_
        obtain ⟨h_2661, e_2662, e⟩ := Option.bind_eq_some_iff.mp e
        refine Rn.hp hT rfl rfl (pV_hp rfl e_2662) ?_
        refine Rn.n hT 2 (pc' := 38) (L' := [some (.ref q0), some (.int x1)]) (st' := [.ref q0, .ref q0]) rfl ?_
        obtain ⟨v_2663, e_2664, e⟩ := Option.bind_eq_some_iff.mp e
        refine Rn.hp hT rfl rfl (gI_hp e_2664) ?_
        refine Rn.n hT 1 (pc' := 42) (L' := [some (.ref q0), some (.int x1)]) (st' := [.ref q0, .int v_2663, .ref q0]) rfl ?_
        obtain ⟨v_2665, e_2666, e⟩ := Option.bind_eq_some_iff.mp e
        refine Rn.hp hT rfl rfl (gR_hp e_2666) ?_
        refine Rn.n hT 1 (pc' := 46) (L' := [some (.ref q0), some (.int x1)]) (st' := [.ref q0, .ref v_2665, .int v_2663, .ref q0]) rfl ?_
        obtain ⟨v_2667, e_2668, e⟩ := Option.bind_eq_some_iff.mp e
        refine Rn.hp hT rfl rfl (gI_hp e_2668) ?_
        obtain ⟨v_2669, e_2670, e⟩ := Option.bind_eq_some_iff.mp e
        refine Rn.hp hT rfl rfl (aI_hp e_2670) ?_
        refine Rn.n hT 1 (pc' := 51) (L' := [some (.ref q0), some (.int x1)]) (st' := [.int (3 : Int32), .int v_2669, .int v_2663, .ref q0]) rfl ?_
        by_cases c_2671 : v_2669 = (3 : Int32)
        · rw [if_pos c_2671] at e
          refine Rn.bf hT rfl rfl rfl (decide_eq_false (fun z => z c_2671)) ?_
          refine Rn.n hT 2 (pc' := 59) (L' := [some (.ref q0), some (.int x1)]) (st' := [.int (1 : Int32), .int v_2663, .ref q0]) rfl ?_
          exact Rn.weak (ll_s (ll_s ll_e)) (rX8_release_b59 hd ih hk hq e)
        · rw [if_neg c_2671] at e
          refine Rn.bt hT rfl rfl rfl (decide_eq_true c_2671) ?_
          refine Rn.n hT 1 (pc' := 59) (L' := [some (.ref q0), some (.int x1)]) (st' := [.int (0 : Int32), .int v_2663, .ref q0]) rfl ?_
          exact Rn.weak (ll_s (ll_s ll_e)) (rX8_release_b59 hd ih hk hq e)
def fX8_release_b79 (N : Nat) (h : iv_H)   : Option (iv_H) := some h
set_option maxRecDepth 10000 in
set_option maxHeartbeats 4000000 in
theorem rX8_release_b79 {d N : Nat} (hd : 1 ≤ d) {h : iv_H}   {r : iv_H} {Q : Option Value → iv_H → Prop} (hq : Q none r) (e : fX8_release_b79 N h   = some r) : Rn d 113 none 79 [none, none] [] h Q := by
  have hT := hX8_release
  unfold fX8_release_b79 at e
  obtain rfl := Option.some.inj e
  exact Rn.ret hT rfl rfl rfl hq
def fX8_release (N : Nat) (h : iv_H) (q0 : Nat) (x1 : Int32) : Option (iv_H) := (fX8_release_l0 N q0 x1 (fun (h_2646 : iv_H) => (fX8_release_b79 N h_2646)) N h)
set_option maxRecDepth 10000 in
set_option maxHeartbeats 4000000 in
theorem rX8_release {d N : Nat} (hd : 2 ≤ d) {h : iv_H} {q0 : Nat} {x1 : Int32} {r : iv_H} {Q : Option Value → iv_H → Prop} (e : fX8_release N h q0 x1 = some r) (hq : Q none r) : Cl d 113 [.ref q0, .int x1] h Q := by
  obtain ⟨d, rfl⟩ : ∃ k, d = k + 1 := ⟨d - 1, by omega⟩
  have hd : 1 ≤ d := by omega
  have hT := hX8_release
  unfold fX8_release at e
  refine Cl.into (by decide) gX8_release rfl ?_
  show Rn d 113 none 0 [some (.ref q0), some (.int x1)] [] h Q
  refine Rn.weak (ll_s (ll_s ll_e)) (rX8_release_l0 hd (fun h_2646 e => ?_) hq N h e)
  try dsimp only at e
  exact Rn.weak (ll_n (ll_n ll_e)) (rX8_release_b79 hd hq e)
set_option maxRecDepth 10000 in
theorem hX8_join : iv_Tb 112 tX8_join := iv_tb_of (m := mX8_join) rfl
set_option maxRecDepth 10000 in
theorem gX8_join : PG.2 112 = some mX8_join := iv_pi_of (t := tX8_join) rfl (by decide)
def fX8_join (N : Nat) (h : iv_H) (q0 : Nat) (x1 : Int32) : Option (iv_H) := ((aI h 1000001 x1).bind fun v_2684 => ((cko h q0 8).bind fun _ => (fX8_release N h q0 v_2684).bind fun h_2689 => ((cko h_2689 q0 8).bind fun _ => (fX8_hold N h_2689 q0 x1).bind fun h_2693 => some h_2693)))
set_option maxRecDepth 10000 in
set_option maxHeartbeats 4000000 in
theorem rX8_join {d N : Nat} (hd : 3 ≤ d) {h : iv_H} {q0 : Nat} {x1 : Int32} {r : iv_H} {Q : Option Value → iv_H → Prop} (e : fX8_join N h q0 x1 = some r) (hq : Q none r) : Cl d 112 [.ref q0, .int x1] h Q := by
  obtain ⟨d, rfl⟩ : ∃ k, d = k + 1 := ⟨d - 1, by omega⟩
  have hd : 2 ≤ d := by omega
  have hT := hX8_join
  unfold fX8_join at e
  refine Cl.into (by decide) gX8_join rfl ?_
  show Rn d 112 none 0 [some (.ref q0), some (.int x1)] [] h Q
  refine Rn.n hT 1 (pc' := 1) (L' := [some (.ref q0), some (.int x1)]) (st' := [.ref q0]) rfl ?_
  refine Rn.hp hT rfl rfl rfl ?_
  refine Rn.n hT 1 (pc' := 5) (L' := [some (.ref q0), some (.int x1)]) (st' := [.int x1, .ref 1000001, .ref q0]) rfl ?_
  obtain ⟨v_2684, e_2685, e⟩ := Option.bind_eq_some_iff.mp e
  refine Rn.hp hT rfl rfl (aI_hp e_2685) ?_
  obtain ⟨_, e_2687, e⟩ := Option.bind_eq_some_iff.mp e
  obtain ⟨h_2689, e_2686, e⟩ := Option.bind_eq_some_iff.mp e
  refine Rn.call hT rfl rfl rfl (Nat.le_of_ble_eq_true rfl) (rcv_v gX8_release (by omega) e_2687) (rX8_release (by omega) e_2686 ?_)
  show Rn d _ _ 9 [some (.ref q0), some (.int x1)] [] h_2689 Q
  refine Rn.n hT 2 (pc' := 11) (L' := [some (.ref q0), some (.int x1)]) (st' := [.int x1, .ref q0]) rfl ?_
  obtain ⟨_, e_2691, e⟩ := Option.bind_eq_some_iff.mp e
  obtain ⟨h_2693, e_2690, e⟩ := Option.bind_eq_some_iff.mp e
  refine Rn.call hT rfl rfl rfl (Nat.le_of_ble_eq_true rfl) (rcv_v gX8_hold (by omega) e_2691) (rX8_hold (by omega) e_2690 ?_)
  show Rn d _ _ 14 [some (.ref q0), some (.int x1)] [] h_2693 Q
  obtain rfl := Option.some.inj e
  exact Rn.ret hT rfl rfl rfl hq
