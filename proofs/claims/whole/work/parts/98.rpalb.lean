-- PALACE: both read the whole text
def rIn (r : iv_M) : iv_M := flM (flM (mu (flM (mu (mu (mu (mu (mu (mu r 113 29 0) 113 30 0) 113 33 0) 113 34 0) 113 35 0) 113 38 0) 132 5 0) 132 4 7) 136 4 (-1)) 138 16 (-1)
theorem rIn_o {r : iv_M} {a : Nat} (h : a ≠ 113) (h2 : a ≠ 132) (h3 : a ≠ 136) (h4 : a ≠ 138) : rIn r a = r a := by
  funext i
  unfold rIn
  rw [fl_ne h4, fl_ne h3, mu_rw h2, fl_ne h2, mu_rw h, mu_rw h, mu_rw h, mu_rw h, mu_rw h, mu_rw h]
theorem rIn_113 {r : iv_M} {i : Int} : rIn r 113 i = if i = 29 ∨ i = 30 ∨ i = 33 ∨ i = 34 ∨ i = 35 ∨ i = 38 then 0 else r 113 i := by
  unfold rIn
  rw [fl_ne (by decide), fl_ne (by decide), mu_rw (by decide), fl_ne (by decide)]
  unfold mu
  by_cases a1 : i = 38
  · rw [if_pos ⟨rfl, a1⟩, if_pos (by omega)]
  rw [if_neg (fun z => a1 z.2)]
  by_cases a2 : i = 35
  · rw [if_pos ⟨rfl, a2⟩, if_pos (by omega)]
  rw [if_neg (fun z => a2 z.2)]
  by_cases a3 : i = 34
  · rw [if_pos ⟨rfl, a3⟩, if_pos (by omega)]
  rw [if_neg (fun z => a3 z.2)]
  by_cases a4 : i = 33
  · rw [if_pos ⟨rfl, a4⟩, if_pos (by omega)]
  rw [if_neg (fun z => a4 z.2)]
  by_cases a5 : i = 30
  · rw [if_pos ⟨rfl, a5⟩, if_pos (by omega)]
  rw [if_neg (fun z => a5 z.2)]
  by_cases a6 : i = 29
  · rw [if_pos ⟨rfl, a6⟩, if_pos (by omega)]
  rw [if_neg (fun z => a6 z.2), if_neg (by omega)]
theorem rIn_132 {r : iv_M} {i : Int} (h : 0 ≤ i) (h1 : i < 5) : rIn r 132 i = if i = 4 then 7 else 0 := by
  unfold rIn
  rw [fl_ne (by decide), fl_ne (by decide)]
  by_cases g : i = 4
  · rw [if_pos g, g, mu_eq]
  · rw [if_neg g, mu_ne (by omega), fl_eq h h1]
theorem rIn_ini {r : iv_M} : Ini (rIn r) := by
  refine ⟨by rw [rIn_132 (by omega) (by omega)]; rfl, by rw [rIn_132 (by omega) (by omega)]; rfl, by rw [rIn_132 (by omega) (by omega)]; rfl, fun c c0 c1 => ?_, fun k k0 k1 => ?_⟩
  · unfold rIn; rw [fl_eq c0 c1]
  · unfold rIn; rw [fl_ne (by decide), fl_eq k0 k1]
theorem readsAll_ok {N : Nat} {r : iv_M} (hN : 100 ≤ N) : FX12_readsAll N r 113 = FX12_readsAll_l82 N 113 (fun (s_2912 : iv_M) => ((pt s_2912 113 28 0).bind fun s_2914 => some s_2914)) N (rIn r) 0 1 := by
  unfold FX12_readsAll FX12_starts
  simp only [Nat.reduceAdd]
  rw [pt_ok, Option.bind_some, pt_ok, Option.bind_some, pt_ok, Option.bind_some, pt_ok, Option.bind_some, pt_ok, Option.bind_some, Option.bind_some, pt_ok, Option.bind_some]
  rw [fill_gen (L := fun m (x : iv_M) i => FX12_readsAll_l11 N 113 (fun (s_2904 : iv_M) => ((wr s_2904 132 5 4 7).bind fun s_2906 => (FX12_readsAll_l39 N 113 (fun (s_2908 : iv_M) => (FX12_readsAll_l59 N 113 (fun (s_2910 : iv_M) => (FX12_readsAll_l82 N 113 (fun (s_2912 : iv_M) => ((pt s_2912 113 28 0).bind fun s_2914 => some s_2914)) N s_2910 0 1)) N s_2908 0)) N s_2906 0))) m x i) (k := fun (s_2904 : iv_M) => ((wr s_2904 132 5 4 7).bind fun s_2906 => (FX12_readsAll_l39 N 113 (fun (s_2908 : iv_M) => (FX12_readsAll_l59 N 113 (fun (s_2910 : iv_M) => (FX12_readsAll_l82 N 113 (fun (s_2912 : iv_M) => ((pt s_2912 113 28 0).bind fun s_2914 => some s_2914)) N s_2910 0 1)) N s_2908 0)) N s_2906 0))) (a := 132) (n := 5) (v := 0) (by omega) (by omega) (fun f x => by rw [FX12_readsAll_l11, if_pos (by omega)]) (fun f x i i0 i1 => by
    rw [FX12_readsAll_l11, if_neg (by omega)]
    simp only [Nat.reduceAdd]
    rw [wr_ok i0 i1, Option.bind_some, w32_id (by omega) (by omega)])]
  rw [wr_ok (by omega) (by omega), Option.bind_some]
  rw [fill_gen (L := fun m (x : iv_M) i => FX12_readsAll_l39 N 113 (fun (s_2908 : iv_M) => (FX12_readsAll_l59 N 113 (fun (s_2910 : iv_M) => (FX12_readsAll_l82 N 113 (fun (s_2912 : iv_M) => ((pt s_2912 113 28 0).bind fun s_2914 => some s_2914)) N s_2910 0 1)) N s_2908 0)) m x i) (k := fun (s_2908 : iv_M) => (FX12_readsAll_l59 N 113 (fun (s_2910 : iv_M) => (FX12_readsAll_l82 N 113 (fun (s_2912 : iv_M) => ((pt s_2912 113 28 0).bind fun s_2914 => some s_2914)) N s_2910 0 1)) N s_2908 0)) (a := 136) (n := 4) (v := -1) (by omega) (by omega) (fun f x => by rw [FX12_readsAll_l39, if_pos (by omega)]) (fun f x i i0 i1 => by
    rw [FX12_readsAll_l39, if_neg (by omega)]
    simp only [Nat.reduceAdd]
    rw [wr_ok i0 i1, Option.bind_some, w32_id (by omega) (by omega)])]
  rw [fill_gen (L := fun m (x : iv_M) i => FX12_readsAll_l59 N 113 (fun (s_2910 : iv_M) => (FX12_readsAll_l82 N 113 (fun (s_2912 : iv_M) => ((pt s_2912 113 28 0).bind fun s_2914 => some s_2914)) N s_2910 0 1)) m x i) (k := fun (s_2910 : iv_M) => (FX12_readsAll_l82 N 113 (fun (s_2912 : iv_M) => ((pt s_2912 113 28 0).bind fun s_2914 => some s_2914)) N s_2910 0 1)) (a := 138) (n := 16) (v := -1) (by omega) (by omega) (fun f x => by rw [FX12_readsAll_l59, if_pos (by omega)]) (fun f x i i0 i1 => by
    rw [FX12_readsAll_l59, if_neg (by omega)]
    simp only [Nat.reduceAdd]
    rw [wr_ok i0 i1, Option.bind_some, w32_id (by omega) (by omega)])]
  rfl
theorem pal_both {N q : Nat} {s r : iv_M} {b : Int → Int} {L : Int} (hN : 1000 ≤ N) (hq : q = 9 ∨ q = 31) (hT : TX b L) (hs : ∀ i, 0 ≤ i → i < L → s 1 i = b i) (hrL : r 113 28 = L) (hr : ∀ i, 0 ≤ i → i < L → r 139 i = b i) : ∃ sc' sr' ft, FX5_read N s 54 1 L q = some (sc' 55 4, sc') ∧ FX12_readsAll N r 113 = some (mu sr' 113 28 0) ∧ (∀ a, a ≠ 54 → a ≠ 55 → (a < q ∨ q + 21 < a) → sc' a = s a) ∧ (∀ a, a ≠ 113 → (a < 132 ∨ 138 < a) → sr' a = r a) ∧ (∀ i, i ≠ 29 → i ≠ 30 → i ≠ 33 → i ≠ 34 → i ≠ 35 → i ≠ 38 → sr' 113 i = r 113 i) ∧ sc' 55 4 = ft ∧ sr' 113 30 = ft ∧ ((ft = 0 ∧ HP sc' q (nbk sr') ∧ WP (nbk sr') ∧ 0 < sr' 132 0) ∨ (0 < ft ∧ ft ≤ 10000)) := by
  have hL := hT.2.1
  have l0 := hT.1
  have hQ : HQ q := by unfold HQ; omega
  obtain ⟨y, hy⟩ : ∃ y, y = mu (mu (mu (mu (mu (mu s 55 0 1) 55 1 L) 55 2 0) 55 3 0) 55 4 0) 54 1 0 := ⟨_, rfl⟩
  have yo : ∀ a, a ≠ 54 → a ≠ 55 → y a = s a := fun a h1 h2 => by rw [hy, mu_rw h1, mu_rw h2, mu_rw h2, mu_rw h2, mu_rw h2, mu_rw h2]
  have iW : WP (nbk (rIn r)) := ini_W rIn_ini (by rw [rIn_132 (by omega) (by omega), if_neg (by omega)]; omega) (by rw [rIn_132 (by omega) (by omega), if_neg (by omega)]; omega) (by rw [rIn_132 (by omega) (by omega), rIn_132 (by omega) (by omega), if_neg (by omega), if_neg (by omega)])
  obtain ⟨x, b1, b2, b3⟩ := build_ok (N := N) (q := q) (s := y) (B := nbk (rIn r)) (x := 0) (y := 0) (by omega) hQ (by rw [nbk_4 (by omega) (by omega), rIn_132 (by omega) (by omega)]; rfl) (by rw [nbk_4 (by omega) (by omega), rIn_132 (by omega) (by omega)]; rfl) (by rw [nbk_4 (by omega) (by omega), rIn_132 (by omega) (by omega)]; rfl) (by rw [nbk_4 (by omega) (by omega), rIn_132 (by omega) (by omega)]; rfl) (by rw [nbk_4 (by omega) (by omega), rIn_132 (by omega) (by omega)]; rfl) (fun c c0 c1 => by rw [nbk_21 c0 c1]; exact rIn_ini.2.2.2.1 c c0 c1) (fun k k0 k1 => by rw [nbk_9 k0 k1]; exact rIn_ini.2.2.2.2 k k0 k1) (by omega) (by omega) (by omega) (by omega)
  have xo : ∀ a, (a < q ∨ q + 21 < a) → x a = y a := fun a ha => by funext i; exact b3 a i ha
  have x55 := xo 55 (by omega)
  have hRD : RD x 55 b L 0 0 0 := by
    refine ⟨?_, ?_, ?_, ?_, ?_, by decide, fun i i0 i1 => by rw [xo 1 (by omega), yo 1 (by decide) (by decide)]; exact hs i i0 i1⟩
    · rw [x55, hy, mu_rw (by decide)]; simp (disch := omega) only [mu_ne, mu_eq]
    · rw [x55, hy, mu_rw (by decide)]; simp (disch := omega) only [mu_ne, mu_eq]
    · rw [x55, hy, mu_rw (by decide)]; simp (disch := omega) only [mu_ne, mu_eq]
    · rw [x55, hy, mu_rw (by decide)]; simp (disch := omega) only [mu_ne, mu_eq]
    · rw [x55, hy, mu_rw (by decide)]; simp (disch := omega) only [mu_ne, mu_eq]
  have hRT : RT (rIn r) b L 0 0 := ⟨by rw [rIn_113, if_neg (by omega)]; exact hrL, by rw [rIn_113, if_pos (by omega)], by rw [rIn_113, if_pos (by omega)], fun i i0 i1 => by rw [rIn_o (by decide) (by decide) (by decide) (by decide)]; exact hr i i0 i1⟩
  obtain ⟨sc', sr', ft, a1, a2, a3, a4, a5, a6, a7⟩ := pal_loop (N := N) (q := q) (s0 := x) (r0 := rIn r) (b := b) (L := L) (kc := fun (s_1133 : iv_M) => (FX5_read_b57 N s_1133 54)) (kr := fun (s_2912 : iv_M) => ((pt s_2912 113 28 0).bind fun s_2914 => some s_2914)) hN hq hT 40 N N 0 0 0 x (rIn r) (by omega) (by omega) (by omega) (by omega) (by omega) l0 ⟨⟨0, hRD⟩, by rw [xo 54 (by omega), hy, mu_eq], b2, hRT, by rw [rIn_113, if_pos (by omega)], Or.inl rfl, iW⟩ (fun _ => rIn_ini) (fun h => absurd rfl h) (fun _ _ _ _ => rfl) ⟨fun _ _ _ => rfl, fun _ _ _ _ => rfl⟩
  refine ⟨sc', sr', ft, ?_, ?_, fun a h1 h2 h3 => by rw [a3 a h1 h2 h3, xo a h3, yo a h1 h2], fun a h1 h2 => by rw [a4.1 a h1 h2, rIn_o h1 (by omega) (by omega) (by omega)], fun i h1 h2 h3 h4 h5 h6 => by rw [a4.2 i h1 h2 h6, rIn_113, if_neg (by omega)], a5, a6, a7⟩
  · unfold FX5_read FX6_open
    simp only [Nat.reduceAdd]
    have s1 : ((sh 1).2 : Int) = 400 := by decide
    have mn : mnI L 400 = L := by unfold mnI; rw [if_neg (by omega)]
    have c1 : ((1 : Nat) : Int) = 1 := rfl
    rw [pt_ok, Option.bind_some, pt_ok, Option.bind_some, pt_ok, Option.bind_some, pt_ok, Option.bind_some, pt_ok, Option.bind_some, Option.bind_some, pt_ok, Option.bind_some, s1, mn, c1, ← hy, b1, Option.bind_some]
    refine a1.trans ?_
    unfold FX5_read_b57
    rfl
  · rw [readsAll_ok (by omega), a2, pt_ok, Option.bind_some]
