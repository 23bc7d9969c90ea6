-- NIGHTS DRAWN
def drS (x : Int) : Int := (x * 1103515245 + 12345) % 2147483648
def dr1 (ru : Option (List (List (Int × Int)))) (S : iv_M × Int × Int) : iv_M × Int × Int := if (okl ru S.1 204).length = 0 then (nx S.1, S.2.1, S.2.2) else (nx (wkc S.1 ((okl ru S.1 204).getD (drS S.2.1 / 65536 % ((okl ru S.1 204).length : Int)).toNat 0)), drS S.2.1, S.2.2 + 1)
def drn (ru : Option (List (List (Int × Int)))) (S : iv_M × Int × Int) : Nat → iv_M × Int × Int
  | 0 => S
  | n + 1 => dr1 ru (drn ru S n)
def Dok (m : Int) (B : iv_M) (n : Int) (S : iv_M × Int × Int) : Prop := Lok m B S.1 ∧ (0 ≤ S.2.1 ∧ S.2.1 < 2147483648) ∧ (0 ≤ S.2.2 ∧ S.2.2 ≤ n) ∧ S.1 114 6 = B 114 6 + n
theorem okc_walk {ru : Option (List (List (Int × Int)))} {B : iv_M} {c : Int} (h : c ∈ okl ru B 204) : 0 ≤ c ∧ c < 204 ∧ isW B (cK c) (cR c) (cO c) ∧ slO B (cK c) (cR c) (cO c) ∧ okc ru B c := by
  obtain ⟨k0, k1, ko⟩ := okl_mem 204 c h
  exact ⟨k0, by omega, thr_isW k0 (by omega) ko.1, cn_sl (lwf_cn ko.2), ko⟩
theorem dr_pick {ru : Option (List (List (Int × Int)))} {P : iv_M} {x : Int} (h : (okl ru P 204).length ≠ 0) : (0 ≤ drS x ∧ drS x < 2147483648) ∧ 0 ≤ drS x / 65536 % ((okl ru P 204).length : Int) ∧ drS x / 65536 % ((okl ru P 204).length : Int) < (okl ru P 204).length ∧ (okl ru P 204).getD (drS x / 65536 % ((okl ru P 204).length : Int)).toNat 0 ∈ okl ru P 204 := by
  have h1 : 0 ≤ drS x ∧ drS x < 2147483648 := by unfold drS; omega
  have h2 : 0 ≤ drS x / 65536 % ((okl ru P 204).length : Int) := Int.emod_nonneg _ (by omega)
  have h3 : drS x / 65536 % ((okl ru P 204).length : Int) < (okl ru P 204).length := Int.emod_lt_of_pos _ (by omega)
  exact ⟨h1, h2, h3, gd_mem (by omega)⟩
theorem dr1_ok {ru : Option (List (List (Int × Int)))} {B : iv_M} {m n : Int} {S : iv_M × Int × Int} (h : Dok m B n S) : Dok (m + 1) B (n + 1) (dr1 ru S) := by
  obtain ⟨h1, h2, h3, h4⟩ := h
  unfold dr1
  by_cases e : (okl ru S.1 204).length = 0
  · rw [if_pos e]
    exact ⟨h1.nx, h2, ⟨h3.1, by show S.2.2 ≤ n + 1; omega⟩, by show nx S.1 114 6 = _; rw [nx_6, h4]; omega⟩
  · rw [if_neg e]
    obtain ⟨p1, p2, p3, p4⟩ := dr_pick (ru := ru) (P := S.1) (x := S.2.1) e
    obtain ⟨c0, c1, c2, c3, c4⟩ := okc_walk p4
    refine ⟨(h1.wk c2 c3).nx, p1, ⟨by show 0 ≤ S.2.2 + 1; omega, by show S.2.2 + 1 ≤ n + 1; omega⟩, ?_⟩
    show nx (wlk _ _ _ _) 114 6 = _
    rw [nx_6, wlk_o (by omega) (by omega) (by omega), h4]; omega
theorem drn_ok {ru : Option (List (List (Int × Int)))} {B : iv_M} {m x : Int} (hB : WHm m B) (hO : OZ B) (x0 : 0 ≤ x) (x1 : x < 2147483648) : ∀ n : Nat, Dok (m + n) B n (drn ru (B, x, 0) n) := by
  intro n
  induction n with
  | zero => exact ⟨Lok.refl (WHm_mono (by omega) hB) hO, ⟨x0, x1⟩, ⟨Int.le_refl _, Int.le_refl _⟩, by show B 114 6 = _; omega⟩
  | succ n ih =>
    have := dr1_ok (ru := ru) ih
    rw [show m + ((n + 1 : Nat) : Int) = m + n + 1 by omega, show ((n + 1 : Nat) : Int) = (n : Int) + 1 by omega]
    exact this
/-- the trials stand for the block, with sums -/
def TrD (q : Nat) (ru : Option (List (List (Int × Int)))) (s : iv_M) (P : iv_M) (a b w : Int) (x : iv_M) : Prop := LW x 89 q 82 P ru ∧ x 81 9 = a ∧ x 81 10 = b ∧ x 81 11 = w ∧ (∀ i, i ≠ 2 → i ≠ 9 → i ≠ 10 → i ≠ 11 → x 81 i = s 81 i) ∧ ∀ a, (a < 81 ∨ 90 < a) → a ≠ 92 → x a = s a
theorem LH_tr {q : Nat} {B : iv_M} (h : q = 9 ∨ q = 31) (hW : Wf B) (p0 : 0 ≤ B 114 3) (p1 : B 114 3 ≤ 6) (qa : Nat) (hqa : qa = 92 ∨ qa = 93 ∨ qa = 94) : LH 89 q 82 qa B := by
  refine ⟨Sp_tr h, TF_82, by decide, by decide, hW, p0, p1, by omega, by omega, by omega, by omega, by omega, by omega, by omega, ?_⟩
  rcases hqa with z | z | z <;> rw [z] <;> decide
theorem draw_c {N q f : Nat} {s x : iv_M} {o2 x3 x4 x5 x6 x9 a b m n i w0 : Int} {S : iv_M × Int × Int} {ru : Option (List (List (Int × Int)))} {kx : iv_M → Int → Option iv_M} {B : iv_M} (hN : 1000 ≤ N) (h : q = 9 ∨ q = 31) (hS : Dok m B n S) (hm : m ≤ 100000) (w0' : 0 ≤ w0 ∧ w0 ≤ 1000) (hn : n ≤ 100) (hx : TrD q ru s S.1 a b (w0 + S.2.2) x) (i0 : 0 ≤ i) (i1 : i < x4) (i2 : x4 ≤ 60) : ∃ x', FX10_drawTimes_l40 N 81 q o2 x3 x4 x5 x6 x9 kx (f + 1) x S.2.1 i = FX10_drawTimes_l40 N 81 q o2 x3 x4 x5 x6 x9 kx f x' (dr1 ru S).2.1 (i + 1) ∧ TrD q ru s (dr1 ru S).1 a b (w0 + (dr1 ru S).2.2) x' := by
  obtain ⟨s1, s2, s3, s4⟩ := hS
  obtain ⟨t1, t2, t3, t4, t5, t6⟩ := hx
  have hW := s1.1.1
  have a6 := s1.1.2.1.2.2.2.1
  obtain ⟨y, l1, l2, l3, l4⟩ := FX3_list_ok (N := N) (ql := 89) (qh := q) (qf := 82) (qa := 92) hN (LH_tr h hW s1.1.2.1.1.1 s1.1.2.1.1.2 92 (Or.inl rfl)) t1
  have oy : ∀ c, (c < 81 ∨ 90 < c) → c ≠ 92 → y c = s c := fun c hc hc2 => by rw [l4.1 c (by omega) (by omega) (by omega) hc2, t6 c hc hc2]
  have y81 : y 81 = x 81 := l4.1 81 (by omega) (by omega) (by omega) (by omega)
  have n4 : y 89 4 = S.1 114 6 := l2.1.2.2.2.2.2.2.1
  have g91 : gx 91 3 0 = some 92 := by decide
  rw [FX10_drawTimes_l40, if_neg (by omega)]
  simp only [Nat.reduceAdd]
  rw [g91, Option.bind_some, l1, Option.bind_some]
  unfold dr1
  by_cases e : (okl ru S.1 204).length = 0
  · rw [if_pos e]
    refine ⟨mu y 89 4 (S.1 114 6 + 1), ?_, ⟨LR_nx (Sp_tr h) l2.1, ew_FRc Ew_nx (FRc_ext (fun c z0 z1 => mu_rw (by omega)) l2.2.1), ew_FP Ew_nx (FP_ext (mu_rw (by omega)) l2.2.2)⟩, by rw [mu_ne (by omega), y81]; exact t2, by rw [mu_ne (by omega), y81]; exact t3, by rw [mu_ne (by omega), y81]; exact t4, fun j j0 j1 j2 j3 => by rw [mu_ne (by omega), y81]; exact t5 j j0 j1 j2 j3, fun c hc hc2 => by rw [mu_rw (by omega)]; exact oy c hc hc2⟩
    dsimp only
    rw [if_pos (by omega)]
    unfold FX10_drawTimes_b125
    simp only [Nat.reduceAdd]
    rw [n4, w32_id (x := S.1 114 6 + 1) (by omega) (by omega), pt_ok, Option.bind_some, w32_id (by omega) (by omega)]
  · rw [if_neg e]
    obtain ⟨p1, p2, p3, p4⟩ := dr_pick (ru := ru) (P := S.1) (x := S.2.1) e
    obtain ⟨k, hk⟩ : ∃ k, k = drS S.2.1 / 65536 % ((okl ru S.1 204).length : Int) := ⟨_, rfl⟩
    obtain ⟨c, hc⟩ : ∃ c, c = (okl ru S.1 204).getD k.toNat 0 := ⟨_, rfl⟩
    rw [← hk] at p2 p3 p4
    rw [← hc] at p4
    obtain ⟨c0, c1, c2, c3, c4⟩ := okc_walk p4
    have hlen := okl_stc ru S.1 204
    rw [stc_204] at hlen
    have hrow : y 92 k = wcd c := by
      have := l3 k.toNat (by omega)
      rw [Int.toNat_of_nonneg p2] at this
      rw [this, hc]
    obtain ⟨z, g1, g2, g3, g4⟩ := go_ok (N := N) (q := 82) (s := y) (by omega) TF_82 hW l2.2.1 l2.2.2 c2 c3
    have oz : ∀ a, (a < 82 ∨ 87 < a) → z a = y a := fun a ha => by funext i; exact g4 a i ha
    have hLz : LR z 89 q 82 S.1 ru := LR_ext (fun i _ => by rw [oz 89 (by omega)]) (oz _ (by omega)) (oz _ (by omega)) (fun a ha => oz a (by omega)) l2.1
    have w4 : wlk S.1 (cK c) (cR c) (cO c) 114 = S.1 114 := wlk_row (by omega) (by omega) (by omega)
    obtain ⟨u, k1, k2⟩ := FX3_look_ok (N := N) (B' := wlk S.1 (cK c) (cR c) (cO c)) (by omega) (Sp_tr h) hLz (fun j _ => by rw [w4]) (by rw [w4]; exact hLz.2.2.2.2.2.2.1) (wlk_row (by omega) (by omega) (by omega)) (wlk_row (by omega) (by omega) (by omega)) g2 (Wf_wlk hW c2 c3)
    obtain ⟨p, hp⟩ : ∃ p, p = mu (mu z 89 5 u) 81 11 (w0 + S.2.2 + 1) := ⟨_, rfl⟩
    have hLp : LR p 89 q 82 (wlk S.1 (cK c) (cR c) (cO c)) ru := by rw [hp]; exact LR_ext (fun i _ => mu_ne (by omega)) (mu_rw (by omega)) (mu_rw (by omega)) (fun a ha => mu_rw (by omega)) k2
    have q11 : mu z 89 5 u 81 11 = w0 + S.2.2 := by rw [mu_ne (by omega), oz 81 (by omega), y81]; exact t4
    have q4 : p 89 4 = S.1 114 6 := by rw [hLp.2.2.2.2.2.2.1, w4]
    have o81 : ∀ i, i ≠ 11 → p 81 i = x 81 i := fun i hi => by rw [hp, mu_ne (by omega), mu_ne (by omega), oz 81 (by omega), y81]
    have hwk : wkc S.1 c = wlk S.1 (cK c) (cR c) (cO c) := rfl
    have hLn := LR_nx (Sp_tr h) hLp
    rw [w4] at hLn
    refine ⟨mu p 89 4 (S.1 114 6 + 1), ?_, ⟨?_, ?_, ?_⟩, by rw [mu_ne (by omega), o81 9 (by omega)]; exact t2, by rw [mu_ne (by omega), o81 10 (by omega)]; exact t3, ?_, fun j j0 j1 j2 j3 => by rw [mu_ne (by omega), o81 j j3]; exact t5 j j0 j1 j2 j3, fun c hc hc2 => ?_⟩
    · dsimp only
      rw [if_neg (by omega), Option.bind_some, if_neg (by omega)]
      have ex : bAn (w64 (w64 (S.2.1 * 1103515245) + 12345)) 2147483647 = drS S.2.1 := by
        rw [w64_id (x := S.2.1 * 1103515245) (by omega) (by omega), w64_id (by omega) (by omega), bAn_31b]; rfl
      have ek : w32 (Int.tmod (dv64 (drS S.2.1) 65536) ((okl ru S.1 204).length : Int)) = k := by
        rw [dv64_pos p1.1 (by omega) (by omega), tmod_pos (Int.ediv_nonneg p1.1 (by omega)), ← hk, w32_id (by omega) (by omega)]
      rw [ex, ek, rd_ok p2 (by omega), Option.bind_some, hrow]
      unfold FX1_go FX10_drawTimes_b125 wcd
      simp only [Nat.reduceAdd]
      rw [g1, Option.bind_some, Option.bind_some, k1, Option.bind_some, pt_ok, Option.bind_some, q11, w32_id (x := w0 + S.2.2 + 1) (by omega) (by omega), ← hp, q4, w32_id (x := S.1 114 6 + 1) (by omega) (by omega), pt_ok, Option.bind_some, w32_id (by omega) (by omega)]
    · show LR _ 89 q 82 (nx (wkc S.1 _)) ru
      rw [← hk, ← hc, hwk]; exact hLn
    · show FRc _ 82 (nx (wkc S.1 _))
      rw [← hk, ← hc, hwk]
      exact ew_FRc Ew_nx (FRc_ext (fun a z0 z1 => by rw [mu_rw (by omega), hp, mu_rw (by omega), mu_rw (by omega)]) g2)
    · show FP _ 82 (nx (wkc S.1 _))
      rw [← hk, ← hc, hwk]
      exact ew_FP Ew_nx (FP_ext (by rw [mu_rw (by omega), hp, mu_rw (by omega), mu_rw (by omega)]) g3)
    · show _ = w0 + (S.2.2 + 1)
      rw [mu_ne (by omega), hp, mu_eq]; omega
    · rw [mu_rw (by omega), hp, mu_rw (by omega), mu_rw (by omega), oz c (by omega), oy c hc hc2]
/-- all nights of one time -/
theorem draws_c {N q : Nat} {s x B : iv_M} {o2 x3 n x5 x6 x9 a b m v w0 : Int} {ru : Option (List (List (Int × Int)))} {kx : iv_M → Int → Option iv_M} (hN : 1000 ≤ N) (h : q = 9 ∨ q = 31) (hB : WHm m B) (hm : m ≤ 50000) (hO : OZ B) (v0 : 0 ≤ v) (v1 : v < 2147483648) (w0' : 0 ≤ w0 ∧ w0 ≤ 1000) (n0 : 0 ≤ n) (n1 : n ≤ 60) (hx : TrD q ru s B a b w0 x) : ∃ x', FX10_drawTimes_l40 N 81 q o2 x3 n x5 x6 x9 kx N x v 0 = kx x' (drn ru (B, v, 0) n.toNat).2.1 ∧ TrD q ru s (drn ru (B, v, 0) n.toNat).1 a b (w0 + (drn ru (B, v, 0) n.toNat).2.2) x' := by
  have al := fun k => drn_ok (ru := ru) hB hO v0 v1 k
  obtain ⟨y, y1, y2⟩ := loop_up (L := fun m (z : iv_M × Int) i => FX10_drawTimes_l40 N 81 q o2 x3 n x5 x6 x9 kx m z.1 z.2 i) (k := fun z => kx z.1 z.2) (hi := n) (fun i z => 0 ≤ i ∧ z.2 = (drn ru (B, v, 0) i.toNat).2.1 ∧ TrD q ru s (drn ru (B, v, 0) i.toNat).1 a b (w0 + (drn ru (B, v, 0) i.toNat).2.2) z.1) (fun m z hz => by
      show FX10_drawTimes_l40 N 81 q o2 x3 n x5 x6 x9 kx (m + 1) z.1 z.2 n = kx z.1 z.2
      rw [FX10_drawTimes_l40, if_pos (by omega)]) (fun f i z hz hi => by
      obtain ⟨z0, z1, z2⟩ := hz
      have hd := al i.toNat
      rw [Int.toNat_of_nonneg z0] at hd
      obtain ⟨x', g1, g2⟩ := draw_c (N := N) (f := f) (o2 := o2) (x3 := x3) (x4 := n) (x5 := x5) (x6 := x6) (x9 := x9) (kx := kx) hN h hd (by omega) w0' (by omega) z2 z0 hi n1
      have hst : (i + 1).toNat = i.toNat + 1 := by omega
      refine ⟨(x', (dr1 ru (drn ru (B, v, 0) i.toNat)).2.1), ?_, by omega, ?_, ?_⟩
      · show FX10_drawTimes_l40 N 81 q o2 x3 n x5 x6 x9 kx (f + 1) z.1 z.2 i = FX10_drawTimes_l40 N 81 q o2 x3 n x5 x6 x9 kx f x' _ (i + 1)
        rw [z1]; exact g1
      · rw [hst]; rfl
      · rw [hst]; exact g2) N 0 (x, v) ⟨by omega, rfl, by
        show TrD q ru s B a b (w0 + 0) x
        rw [show w0 + 0 = w0 by omega]; exact hx⟩ n0 (by omega)
  obtain ⟨y0, y3, y4⟩ := y1
  have y2' : FX10_drawTimes_l40 N 81 q o2 x3 n x5 x6 x9 kx N x v 0 = kx y.1 y.2 := y2
  rw [y3] at y2'
  exact ⟨y.1, y2', y4⟩
-- many times: (x, mismatches, doors, walks)
def tmd (ru : Option (List (List (Int × Int)))) (B : iv_M) (n : Nat) (c d x : Int) : Nat → Int × Int × Int × Int
  | 0 => (x, 0, 0, 0)
  | k + 1 => ((drn ru (B, (tmd ru B n c d x k).1, 0) n).2.1, (tmd ru B n c d x k).2.1 + mm (drn ru (B, (tmd ru B n c d x k).1, 0) n).1, (tmd ru B n c d x k).2.2.1 + dtd (drn ru (B, (tmd ru B n c d x k).1, 0) n).1 c d, (tmd ru B n c d x k).2.2.2 + (drn ru (B, (tmd ru B n c d x k).1, 0) n).2.2)
theorem dtd_01 (B : iv_M) (a b : Int) : 0 ≤ dtd B a b ∧ dtd B a b ≤ 1 := by unfold dtd; split <;> omega
theorem tmd_ok {ru : Option (List (List (Int × Int)))} {B : iv_M} {n : Nat} {c d x m : Int} (hB : WHm m B) (hO : OZ B) (x0 : 0 ≤ x) (x1 : x < 2147483648) (hn : n ≤ 60) : ∀ k : Nat, (0 ≤ (tmd ru B n c d x k).1 ∧ (tmd ru B n c d x k).1 < 2147483648) ∧ (0 ≤ (tmd ru B n c d x k).2.1 ∧ (tmd ru B n c d x k).2.1 ≤ 40 * k) ∧ (0 ≤ (tmd ru B n c d x k).2.2.1 ∧ (tmd ru B n c d x k).2.2.1 ≤ k) ∧ (0 ≤ (tmd ru B n c d x k).2.2.2 ∧ (tmd ru B n c d x k).2.2.2 ≤ 60 * k) := by
  intro k
  induction k with
  | zero => exact ⟨⟨x0, x1⟩, ⟨Int.le_refl _, Int.le_refl _⟩, ⟨Int.le_refl _, Int.le_refl _⟩, ⟨Int.le_refl _, Int.le_refl _⟩⟩
  | succ k ih =>
    obtain ⟨i1, i2, i3, i4⟩ := ih
    obtain ⟨d1, d2, d3, d4⟩ := drn_ok (ru := ru) hB hO i1.1 i1.2 n
    have m1 := mm_bd (drn ru (B, (tmd ru B n c d x k).1, 0) n).1
    have m2 := dtd_01 (drn ru (B, (tmd ru B n c d x k).1, 0) n).1 c d
    refine ⟨d2, ?_, ?_, ?_⟩
    · show 0 ≤ (tmd ru B n c d x k).2.1 + mm (drn ru (B, (tmd ru B n c d x k).1, 0) n).1 ∧ (tmd ru B n c d x k).2.1 + mm (drn ru (B, (tmd ru B n c d x k).1, 0) n).1 ≤ _
      omega
    · show 0 ≤ (tmd ru B n c d x k).2.2.1 + dtd (drn ru (B, (tmd ru B n c d x k).1, 0) n).1 c d ∧ (tmd ru B n c d x k).2.2.1 + dtd (drn ru (B, (tmd ru B n c d x k).1, 0) n).1 c d ≤ _
      omega
    · show 0 ≤ (tmd ru B n c d x k).2.2.2 + (drn ru (B, (tmd ru B n c d x k).1, 0) n).2.2 ∧ (tmd ru B n c d x k).2.2.2 + (drn ru (B, (tmd ru B n c d x k).1, 0) n).2.2 ≤ _
      omega
def TmC (q : Nat) (ru : Option (List (List (Int × Int)))) (s B : iv_M) (n : Nat) (c d v : Int) (i : Int) (z : iv_M × Int) : Prop := 0 ≤ i ∧ z.2 = (tmd ru B n c d v i.toNat).1 ∧ z.1 81 9 = (tmd ru B n c d v i.toNat).2.1 ∧ z.1 81 10 = (tmd ru B n c d v i.toNat).2.2.1 ∧ z.1 81 11 = (tmd ru B n c d v i.toNat).2.2.2 ∧ (∀ i, i ≠ 2 → i ≠ 9 → i ≠ 10 → i ≠ 11 → z.1 81 i = s 81 i) ∧ ∀ a, (a < 81 ∨ 90 < a) → a ≠ 92 → z.1 a = s a
theorem drawTimes_ok {N q : Nat} {s B : iv_M} {o2 k n c d m : Int} {ru : Option (List (List (Int × Int)))} (hN : 1000 ≤ N) (h : q = 9 ∨ q = 31) (hH : HR s q B) (hB : WHm m B) (hm : m ≤ 50000) (hO : OZ B) (hR : RuX s o2 ru) (k0 : 0 ≤ k) (k1 : k ≤ 10) (n0 : 0 ≤ n) (n1 : n ≤ 60) (c0 : 0 ≤ c) (c1 : c < B 114 2) : ∃ x, FX10_drawTimes N s 81 q o2 k n c d = some x ∧ x 81 9 = (tmd ru B n.toNat c d (B 114 13) k.toNat).2.1 ∧ x 81 10 = (tmd ru B n.toNat c d (B 114 13) k.toNat).2.2.1 ∧ x 81 11 = (tmd ru B n.toNat c d (B 114 13) k.toNat).2.2.2 ∧ (∀ i, i ≠ 2 → i ≠ 9 → i ≠ 10 → i ≠ 11 → x 81 i = s 81 i) ∧ ∀ a, (a < 81 ∨ 90 < a) → a ≠ 92 → x a = s a := by
  have h13 := hB.2.1.2.2.2.2.2.2.2.2.2.2.1
  have hs7 : s q 7 = B 114 13 := hH.1.2.2.2.2.2.2.1
  obtain ⟨s0, hs0⟩ : ∃ s0, s0 = mu (mu (mu s 81 9 0) 81 10 0) 81 11 0 := ⟨_, rfl⟩
  have o0 : ∀ a, a ≠ 81 → s0 a = s a := fun a ha => by rw [hs0, mu_rw ha, mu_rw ha, mu_rw ha]
  have al := fun j => tmd_ok (ru := ru) (n := n.toNat) (c := c) (d := d) hB hO h13.1 h13.2 (by omega) j
  obtain ⟨y, y1, y2⟩ := loop_up (L := fun m (z : iv_M × Int) i => FX10_drawTimes_l25 N 81 q o2 k n c d (fun (s_1716 : iv_M) => some s_1716) m z.1 z.2 i) (k := fun z => some z.1) (hi := k) (TmC q ru s B n.toNat c d (B 114 13)) (fun m z hz => by
      show FX10_drawTimes_l25 N 81 q o2 k n c d _ (m + 1) z.1 z.2 k = some z.1
      rw [FX10_drawTimes_l25, if_pos (by omega)]) (fun f i z hz hi => by
      obtain ⟨z0, z1, z2, z3, z4, z5, z6⟩ := hz
      obtain ⟨i1, i2, i3, i4⟩ := al i.toNat
      have hst : (i + 1).toNat = i.toNat + 1 := by omega
      obtain ⟨T, hT⟩ : ∃ T, T = tmd ru B n.toNat c d (B 114 13) i.toNat := ⟨_, rfl⟩
      rw [← hT] at z1 z2 z3 z4 i1 i2 i3 i4
      obtain ⟨b, b1, b2⟩ := begin_ok (N := N) (q := q) (s := z.1) (B := B) (o3 := o2) (ru := ru) (by omega) h (HR1_ext (z6 _ (by omega) (by omega)) (z6 _ (by omega) (by omega)) hH.1) hB.1 (FRc_ext (fun a y0 y1 => z6 a (by omega) (by omega)) hH.2.1.1) (FP_ext (z6 _ (by omega) (by omega)) hH.2.1.2) (RuX_ext (fun a ha => z6 a (by omega) (by omega)) hR)
      have hTr : TrD q ru s B T.2.1 T.2.2.1 T.2.2.2 b := ⟨b2.1, by rw [b2.2.2.1 9 (by omega)]; exact z2, by rw [b2.2.2.1 10 (by omega)]; exact z3, by rw [b2.2.2.1 11 (by omega)]; exact z4, fun j j0 j1 j2 j3 => by rw [b2.2.2.1 j j0]; exact z5 j j0 j1 j2 j3, fun a ha ha2 => by rw [b2.2.2.2 a ha]; exact z6 a ha ha2⟩
      obtain ⟨e, e1, e2⟩ := draws_c (N := N) (o2 := o2) (x3 := k) (n := n) (x5 := c) (x6 := d) (x9 := i) (v := T.1) (kx := (fun (s_1721 : iv_M) (y1722_7 : Int) => ((FX1_mismatches N s_1721 82).bind fun v_1724 => ((pt s_1721 81 9 (w32 ((s_1721 81 9) + v_1724))).bind fun s_1725 => ((FX1_doorToDoor N s_1725 82 c d).bind fun v_1728 => (if v_1728 = 0 then (FX10_drawTimes_b184 N s_1725 81 q o2 k n c d y1722_7 i 0 (s_1725 81 10) 81 (FX10_drawTimes_l25 N 81 q o2 k n c d (fun (s_1716 : iv_M) => some s_1716) f) (fun (s_1716 : iv_M) => some s_1716)) else (FX10_drawTimes_b184 N s_1725 81 q o2 k n c d y1722_7 i 1 (s_1725 81 10) 81 (FX10_drawTimes_l25 N 81 q o2 k n c d (fun (s_1716 : iv_M) => some s_1716) f) (fun (s_1716 : iv_M) => some s_1716)))))))) hN h hB hm hO i1.1 i1.2 (by omega) n0 n1 hTr
      obtain ⟨S, hS⟩ : ∃ S, S = drn ru (B, T.1, 0) n.toNat := ⟨_, rfl⟩
      rw [← hS] at e1 e2
      obtain ⟨d1, d2, d3, d4⟩ := drn_ok (ru := ru) hB hO i1.1 i1.2 n.toNat
      rw [← hS] at d1 d2 d3 d4
      obtain ⟨u1, u2, u3, u4, u5, u6⟩ := e2
      have m1 := mm_bd S.1
      have m2 := dtd_01 S.1 c d
      have e42 : S.1 114 2 = B 114 2 := d1.2.2.1 2 (by omega)
      obtain ⟨g, hg⟩ : ∃ g, g = mu e 81 9 (T.2.1 + mm S.1) := ⟨_, rfl⟩
      have hFg : FRc g 82 S.1 := FRc_ext (fun a y0 y1 => by rw [hg, mu_rw (by omega)]) u1.2.1
      have g10 : g 81 10 = T.2.2.1 := by rw [hg, mu_ne (by omega)]; exact u3
      have hts : tmd ru B n.toNat c d (B 114 13) (i + 1).toNat = (S.2.1, T.2.1 + mm S.1, T.2.2.1 + dtd S.1 c d, T.2.2.2 + S.2.2) := by
        rw [hst, tmd, ← hT, ← hS]
      refine ⟨(mu g 81 10 (T.2.2.1 + dtd S.1 c d), S.2.1), ?_, by omega, by rw [hts], by rw [hts]; show mu g 81 10 (T.2.2.1 + dtd S.1 c d) 81 9 = T.2.1 + mm S.1; rw [mu_ne (by omega), hg, mu_eq], by rw [hts]; show mu g 81 10 (T.2.2.1 + dtd S.1 c d) 81 10 = (T.2.2.1 + dtd S.1 c d); exact mu_eq, by rw [hts]; show mu g 81 10 (T.2.2.1 + dtd S.1 c d) 81 11 = T.2.2.2 + S.2.2; rw [mu_ne (by omega), hg, mu_ne (by omega)]; exact u4, fun j j0 j1 j2 j3 => by show mu g 81 10 (T.2.2.1 + dtd S.1 c d) 81 j = _; rw [mu_ne (by omega), hg, mu_ne (by omega)]; exact u5 j j0 j1 j2 j3, fun a ha ha2 => by show mu g 81 10 (T.2.2.1 + dtd S.1 c d) a = _; rw [mu_rw (by omega), hg, mu_rw (by omega)]; exact u6 a ha ha2⟩
      show FX10_drawTimes_l25 N 81 q o2 k n c d _ (f + 1) z.1 z.2 i = FX10_drawTimes_l25 N 81 q o2 k n c d _ f (mu g 81 10 (T.2.2.1 + dtd S.1 c d)) S.2.1 (i + 1)
      rw [FX10_drawTimes_l25, if_neg (by omega), b1, Option.bind_some, z1]
      refine e1.trans ?_
      show ((FX1_mismatches N e 82).bind fun v_1724 => ((pt e 81 9 (w32 ((e 81 9) + v_1724))).bind fun s_1725 => ((FX1_doorToDoor N s_1725 82 c d).bind fun v_1728 => (if v_1728 = 0 then (FX10_drawTimes_b184 N s_1725 81 q o2 k n c d S.2.1 i 0 (s_1725 81 10) 81 (FX10_drawTimes_l25 N 81 q o2 k n c d (fun (s_1716 : iv_M) => some s_1716) f) (fun (s_1716 : iv_M) => some s_1716)) else (FX10_drawTimes_b184 N s_1725 81 q o2 k n c d S.2.1 i 1 (s_1725 81 10) 81 (FX10_drawTimes_l25 N 81 q o2 k n c d (fun (s_1716 : iv_M) => some s_1716) f) (fun (s_1716 : iv_M) => some s_1716)))))) = _
      rw [FX1_mismatches_ok u1.2.1 d1.1.1.1 d1.1.1.2.1 (by omega), Option.bind_some, u2, w32_id (x := T.2.1 + mm S.1) (by omega) (by omega), pt_ok, Option.bind_some, ← hg, FX1_doorToDoor_ok (by omega) hFg d1.1.1 c0 (by rw [e42]; exact c1), Option.bind_some, g10]
      have fin : ∀ v, v = dtd S.1 c d → FX10_drawTimes_b184 N g 81 q o2 k n c d S.2.1 i v (T.2.2.1) 81 (FX10_drawTimes_l25 N 81 q o2 k n c d (fun (s_1716 : iv_M) => some s_1716) f) (fun (s_1716 : iv_M) => some s_1716) = FX10_drawTimes_l25 N 81 q o2 k n c d (fun (s_1716 : iv_M) => some s_1716) f (mu g 81 10 (T.2.2.1 + dtd S.1 c d)) S.2.1 (i + 1) := fun v hv => by
        unfold FX10_drawTimes_b184
        rw [hv, w32_id (x := T.2.2.1 + dtd S.1 c d) (by omega) (by omega), pt_ok, Option.bind_some, w32_id (by omega) (by omega)]
      by_cases q0 : dtd S.1 c d = 0
      · rw [if_pos q0]; exact fin 0 q0.symm
      · rw [if_neg q0]; exact fin 1 (by omega)) N 0 (s0, B 114 13) ⟨by omega, rfl, by show s0 81 9 = 0; rw [hs0, mu_ne (by omega), mu_ne (by omega), mu_eq], by show s0 81 10 = 0; rw [hs0, mu_ne (by omega), mu_eq], by show s0 81 11 = 0; rw [hs0, mu_eq], fun j j0 j1 j2 j3 => by show s0 81 j = _; rw [hs0, mu_ne (by omega), mu_ne (by omega), mu_ne (by omega)], fun a ha ha2 => o0 a (by omega)⟩ k0 (by omega)
  obtain ⟨_, _, y3, y4, y5, y6, y7⟩ := y1
  refine ⟨y.1, ?_, y3, y4, y5, y6, y7⟩
  unfold FX10_drawTimes
  rw [pt_ok, Option.bind_some, pt_ok, Option.bind_some, pt_ok, Option.bind_some, ← hs0, o0 q (by omega), hs7]
  exact y2
