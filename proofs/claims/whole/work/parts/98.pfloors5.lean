-- FLOORS: the class's answer
def fP0 (B : iv_M) (n : Int) : iv_M := fun a i => if a = 121 ∧ 0 ≤ i ∧ i < 16 ∧ (0 ≤ B 121 i ∧ B 121 i < n) ∧ B 118 (B 121 i) ≠ 1 then -1 else B a i
theorem fP0_o {B : iv_M} {n : Int} {a : Nat} (h : a ≠ 121) : fP0 B n a = B a := by funext i; unfold fP0; rw [if_neg (fun z => h z.1)]
theorem fP0_fix {B : iv_M} {x : Int} (h : B 118 x = 1) : fP0 B (x + 1) = fP0 B x := by
  funext a i
  unfold fP0
  by_cases e : a = 121 ∧ 0 ≤ i ∧ i < 16 ∧ (0 ≤ B 121 i ∧ B 121 i < x) ∧ B 118 (B 121 i) ≠ 1
  · rw [if_pos e, if_pos ⟨e.1, e.2.1, e.2.2.1, by have := e.2.2.2.1; omega, e.2.2.2.2⟩]
  · rw [if_neg e, if_neg]
    rintro ⟨z1, z2, z3, z4, z5⟩
    refine e ⟨z1, z2, z3, ⟨z4.1, ?_⟩, z5⟩
    by_cases u : B 121 i = x
    · rw [u] at z5; exact absurd h z5
    · omega
theorem fP0_take {B : iv_M} {x : Int} (hW : Wf B) (x0 : 0 ≤ x) (x1 : x < B 114 2) (h : B 118 x ≠ 1) (i : Int) : fP0 B (x + 1) 121 i = if i = B 116 x then -1 else fP0 B x 121 i := by
  obtain ⟨c0, c1, cr⟩ := hW.2.2 x x0 x1
  by_cases e : i = B 116 x
  · rw [if_pos e]
    unfold fP0
    rw [if_pos ⟨rfl, by omega, by omega, by rw [e, cr]; omega, by rw [e, cr]; exact h⟩]
  · rw [if_neg e]
    unfold fP0
    by_cases g : (121 : Nat) = 121 ∧ 0 ≤ i ∧ i < 16 ∧ (0 ≤ B 121 i ∧ B 121 i < x) ∧ B 118 (B 121 i) ≠ 1
    · rw [if_pos g, if_pos ⟨g.1, g.2.1, g.2.2.1, by have := g.2.2.2.1; omega, g.2.2.2.2⟩]
    · rw [if_neg g, if_neg]
      rintro ⟨z1, z2, z3, z4, z5⟩
      refine g ⟨z1, z2, z3, ⟨z4.1, ?_⟩, z5⟩
      by_cases u : B 121 i = x
      · rcases hW.2.1 i z2 z3 with k | k
        · omega
        · rw [u] at k; exact absurd k.2.2.1.symm e
      · omega
theorem fP0_0 {B : iv_M} : fP0 B 0 = B := by
  funext a i; unfold fP0; rw [if_neg (by rintro ⟨_, _, _, z, _⟩; omega)]
theorem fP0_W {B : iv_M} {n : Int} (hW : Wf B) : Wa (fP0 B n) ∧ Wc (fP0 B n) := by
  have e4 : fP0 B n 114 = B 114 := fP0_o (by decide)
  have e5 : fP0 B n 115 = B 115 := fP0_o (by decide)
  have e6 : fP0 B n 116 = B 116 := fP0_o (by decide)
  have e7 : fP0 B n 117 = B 117 := fP0_o (by decide)
  refine ⟨?_, fun c c0 c1 => ?_⟩
  · have := hW.1
    unfold Wa at this ⊢; rw [e4, e5]; exact this
  · rw [e4, e6, e7]
    by_cases g : (121 : Nat) = 121 ∧ 0 ≤ c ∧ c < 16 ∧ (0 ≤ B 121 c ∧ B 121 c < n) ∧ B 118 (B 121 c) ≠ 1
    · left; unfold fP0; rw [if_pos g]
    · have : fP0 B n 121 c = B 121 c := by unfold fP0; rw [if_neg g]
      rw [this]; exact hW.2.1 c c0 c1
theorem fP0_TP {B : iv_M} {m : Nat} (hW : Wf B) (hm : (m : Int) = B 114 2) : fTP (flo (B 118) m 0) (fP0 B (B 114 2)) := by
  obtain ⟨w1, w2⟩ := fP0_W (n := B 114 2) hW
  refine ⟨w1, w2, fun r hr => ?_, flo_nodup m 0⟩
  obtain ⟨r0, r1, rx⟩ := flo_mem m 0 r hr
  refine ⟨r0, by rw [fP0_o (by decide)]; omega, fun c c0 c1 z => ?_⟩
  unfold fP0 at z
  by_cases g : (121 : Nat) = 121 ∧ 0 ≤ c ∧ c < 16 ∧ (0 ≤ B 121 c ∧ B 121 c < B 114 2) ∧ B 118 (B 121 c) ≠ 1
  · rw [if_pos g] at z; omega
  · rw [if_neg g] at z
    exact g ⟨rfl, c0, c1, by rw [z]; omega, by rw [z]; exact rx⟩
def ffw (P : iv_M) (fx : Int → Int) : Nat → Int → Bool
  | 0, _ => true
  | m + 1, r => (!decide (fx r = 1) || fdn P r 4 0) && ffw P fx m (r + 1)
def flA (B : iv_M) : Int := if ffw (fP0 B (B 114 2)) (B 118) (B 114 2).toNat 0 = true then (if (flw true (ftn B) (B 117) (flo (B 118) (B 114 2).toNat 0) (fP0 B (B 114 2))).2 ≤ 20000 then w32 (flw true (ftn B) (B 117) (flo (B 118) (B 114 2).toNat 0) (fP0 B (B 114 2))).1 else -3) else 0
theorem lay_take {N q1 : Nat} {s0 B : iv_M} {kx : iv_M → Option (Int × iv_M)} (hN : 100 ≤ N) (hW : Wf B) (hH : fHs s0 q1 B) : ∀ (m f : Nat) (x : Int) (s : iv_M), 0 ≤ x → x + m = B 114 2 → m < f → FRc s 103 (fP0 B x) → Fo 102 109 s0 s → s 102 = s0 102 → ∃ s', FX4_layRooms_l28 N 102 q1 kx f s x = kx s' ∧ FRc s' 103 (fP0 B (B 114 2)) ∧ Fo 102 109 s0 s' ∧ s' 102 = s0 102 := by
  intro m
  have b12 := hH.2.2.2.2
  induction m with
  | zero =>
    intro f x s x0 hx hf hF hO h2
    obtain ⟨f', rfl⟩ : ∃ f', f = f' + 1 := ⟨f - 1, by omega⟩
    refine ⟨s, ?_, by rw [show B 114 2 = x by omega]; exact hF, hO, h2⟩
    rw [FX4_layRooms_l28]
    simp only [Nat.reduceAdd]
    rw [hF.2.2.1, fP0_o (by decide), if_pos (by omega)]
  | succ m ih =>
    intro f x s x0 hx hf hF hO h2
    obtain ⟨f', rfl⟩ : ∃ f', f = f' + 1 := ⟨f - 1, by omega⟩
    have fx := FX2_isFixed_ok (N := N) (fHs_ext hO hH).2.1 x0 (show x < B 114 2 by omega) (by omega)
    have go : ∀ y : iv_M, FRc y 103 (fP0 B (x + 1)) → Fo 102 109 s0 y → y 102 = s0 102 → ∃ s', FX4_layRooms_b55 N y 102 q1 x (FX4_layRooms_l28 N 102 q1 kx f') kx = kx s' ∧ FRc s' 103 (fP0 B (B 114 2)) ∧ Fo 102 109 s0 s' ∧ s' 102 = s0 102 := fun y yF yO y2 => by
      unfold FX4_layRooms_b55
      rw [w32_id (by omega) (by omega)]
      exact ih f' (x + 1) y (by omega) (by omega) (by omega) yF yO y2
    rw [FX4_layRooms_l28]
    simp only [Nat.reduceAdd]
    rw [hF.2.2.1, fP0_o (by decide), if_neg (by omega), fx, Option.bind_some]
    by_cases e : B 118 x = 1
    · rw [if_pos e, if_neg (by decide)]
      exact go s (by rw [fP0_fix e]; exact hF) hO h2
    · rw [if_neg e, if_pos rfl]
      obtain ⟨c0, c1, cr⟩ := hW.2.2 x x0 (by omega)
      have pr : fP0 B x 121 (B 116 x) = x := by
        unfold fP0
        rw [if_neg (by rintro ⟨_, _, _, z, _⟩; rw [cr] at z; omega), cr]
      have hc : s (103 + 1) x = B 116 x := by
        have := (hF.2.2.2.2.2.2.2 (B 116 x) c0 c1 (by rw [pr]; omega)).1
        rw [pr] at this; exact this
      rw [FX1_take_ok (by omega) x0 (by omega) hc c0 c1, Option.bind_some]
      have tk := fP0_take hW x0 (by omega) e
      have x1 : FRx (fun c' => c' = B 116 x) s 103 (fP0 B (x + 1)) := FRc_x hF (by rw [fP0_o (by decide), fP0_o (by decide)]) (by rw [fP0_o (by decide), fP0_o (by decide)]) (by rw [fP0_o (by decide), fP0_o (by decide)]) (fun j => by rw [fP0_o (by decide), fP0_o (by decide)]) (fun c' _ _ hx => ⟨by rw [tk, if_neg hx], fun _ => by rw [fP0_o (a := 117) (by decide), fP0_o (a := 117) (by decide)]⟩)
      have x2 := take_fr x1 (show fP0 B (x + 1) 121 (B 116 x) = -1 by rw [tk, if_pos rfl])
      exact go _ (FRx_c x2 (fun c' _ _ z => z.2 z.1)) (fun a i h => by rw [tk_out (by omega) (by omega)]; exact hO a i h) (by rw [← h2]; funext i; exact tk_out (by omega) (by omega))
theorem lay_fits {N q1 : Nat} {s B : iv_M} {kx : iv_M → Option (Int × iv_M)} (hN : 100 ≤ N) (hW : Wf B) (hH : fHs s q1 B) (hF : FRc s 103 (fP0 B (B 114 2))) : ∀ (m f : Nat) (x : Int), 0 ≤ x → x + m = B 114 2 → m < f → FX4_layRooms_l63 N 102 q1 kx f s x = if ffw (fP0 B (B 114 2)) (B 118) m x = true then kx s else some (0, s) := by
  intro m
  have b12 := hH.2.2.2.2
  induction m with
  | zero =>
    intro f x x0 hx hf
    obtain ⟨f', rfl⟩ : ∃ f', f = f' + 1 := ⟨f - 1, by omega⟩
    rw [FX4_layRooms_l63]
    simp only [Nat.reduceAdd]
    rw [hF.2.2.1, fP0_o (by decide), if_pos (by omega), if_pos (show ffw (fP0 B (B 114 2)) (B 118) 0 x = true from rfl)]
  | succ m ih =>
    intro f x x0 hx hf
    obtain ⟨f', rfl⟩ : ∃ f', f = f' + 1 := ⟨f - 1, by omega⟩
    have fx := FX2_isFixed_ok (N := N) hH.2.1 x0 (show x < B 114 2 by omega) (by omega)
    have nx := ih f' (x + 1) (by omega) (by omega) (by omega)
    have e1 : ffw (fP0 B (B 114 2)) (B 118) (m + 1) x = ((!decide (B 118 x = 1) || fdn (fP0 B (B 114 2)) x 4 0) && ffw (fP0 B (B 114 2)) (B 118) m (x + 1)) := rfl
    rw [FX4_layRooms_l63]
    simp only [Nat.reduceAdd]
    rw [hF.2.2.1, fP0_o (by decide), if_neg (by omega), fx, Option.bind_some, e1]
    unfold FX4_layRooms_b95
    rw [w32_id (by omega) (by omega), nx]
    by_cases e : B 118 x = 1
    · rw [if_pos e, if_neg (by decide), decide_eq_true e]
      obtain ⟨c0, c1, cr⟩ := hW.2.2 x x0 (by omega)
      have e6 : fP0 B (B 114 2) 116 = B 116 := fP0_o (by decide)
      have pr : fP0 B (B 114 2) 121 (B 116 x) = x := by
        unfold fP0
        rw [if_neg (by rintro ⟨_, _, _, _, z⟩; rw [cr] at z; exact z e), cr]
      have hc : s (103 + 1) x = B 116 x := by
        have := (hF.2.2.2.2.2.2.2 (B 116 x) c0 c1 (by rw [pr]; omega)).1
        rw [pr] at this; exact this
      rw [FX1_fits_ok (B := fP0 B (B 114 2)) (by omega) hF (fP0_W hW).1 x0 (by omega) (by rw [e6]; exact c0) (by rw [e6]; exact c1) (by rw [e6]; exact hc), Option.bind_some]
      show (if (if fdn (fP0 B (B 114 2)) x 4 0 = true then (1 : Int) else 0) = 0 then some (0, s) else _) = if (fdn (fP0 B (B 114 2)) x 4 0 && _) = true then _ else _
      by_cases g : fdn (fP0 B (B 114 2)) x 4 0 = true
      · rw [if_pos g, if_neg (by decide), g, Bool.true_and]
      · rw [if_neg g, if_pos rfl]
        have g' : fdn (fP0 B (B 114 2)) x 4 0 = false := by cases hh : fdn (fP0 B (B 114 2)) x 4 0; rfl; exact absurd hh g
        rw [g', Bool.false_and, if_neg (by decide)]
    · rw [if_neg e, if_pos rfl, decide_eq_false e]
      rfl
theorem layRooms_ok {N q1 : Nat} {s B : iv_M} (hN : 100 ≤ N) (hW : Wf B) (hH : fHs s q1 B) (hF : FRc s (q1 + 1) B) (hP : FP s (q1 + 1) B) : ∃ s', FX4_layRooms N s 102 q1 = some (flA B, s') ∧ Fo 102 109 s s' := by
  have hq := hH.1
  have b0 := hH.2.2.2.1
  have b12 := hH.2.2.2.2
  obtain ⟨y, hy⟩ : ∃ y, y = mu (mu (mu s 102 1 0) 102 2 0) 102 3 0 := ⟨_, rfl⟩
  have yO : ∀ a : Nat, a ≠ 102 → y a = s a := fun a ha => by rw [hy, mu_rw ha, mu_rw ha, mu_rw ha]
  obtain ⟨x, x1, x2, x3, x4⟩ := FX1_copyFrom_ok (N := N) (q := 103) (p := q1 + 1) (s := y) (B := B) hN (by unfold TF; decide) hW (by omega) (FRc_ext (fun a _ _ => yO a (by omega)) hF) (FP_ext (yO _ (by omega)) hP)
  have xO : Fo 102 109 s x := fun a i h => by rw [x4 a i (by omega), yO a (by omega)]
  have x102 : x 102 = y 102 := by funext i; exact x4 102 i (by omega)
  have yS : fSt y (0, 0) := Or.inl ⟨⟨Int.le_refl 0, by decide⟩, by rw [hy, mu_ne (by omega), mu_ne (by omega), mu_eq], by rw [hy, mu_ne (by omega), mu_eq]; rfl, by rw [hy, mu_eq]⟩
  have hm : (((B 114 2).toNat : Nat) : Int) = B 114 2 := by omega
  obtain ⟨z, z1, z2, z3, z4⟩ := lay_take (N := N) (q1 := q1) (s0 := x) (B := B) (kx := fun (s_811 : iv_M) => (FX4_layRooms_l63 N 102 q1 (fun (s_813 : iv_M) => ((FX4_layFrom N 20 s_813 102 q1 0).bind fun s_816 => (if (s_816 102 3) = 0 then (FX4_layRooms_b123 N s_816 (s_816 102 2)) else (FX4_layRooms_b123 N s_816 (-3))))) N s_811 0)) hN hW (fHs_ext xO hH) (B 114 2).toNat N 0 x (by omega) (by omega) (by omega) (by rw [fP0_0]; exact x2) Fo.refl rfl
  have zO : Fo 102 109 s z := fun a i h => by rw [z3 a i h]; exact xO a i h
  have ft := lay_fits (N := N) (q1 := q1) (s := z) (B := B) (kx := fun (s_813 : iv_M) => ((FX4_layFrom N 20 s_813 102 q1 0).bind fun s_816 => (if (s_816 102 3) = 0 then (FX4_layRooms_b123 N s_816 (s_816 102 2)) else (FX4_layRooms_b123 N s_816 (-3))))) hN hW (fHs_ext zO hH) z2 (B 114 2).toNat N 0 (by omega) (by omega) (by omega)
  have st : FX4_layRooms N s 102 q1 = if ffw (fP0 B (B 114 2)) (B 118) (B 114 2).toNat 0 = true then ((FX4_layFrom N 20 z 102 q1 0).bind fun s_816 => (if (s_816 102 3) = 0 then (FX4_layRooms_b123 N s_816 (s_816 102 2)) else (FX4_layRooms_b123 N s_816 (-3)))) else some (0, z) := by
    unfold FX4_layRooms
    simp only [Nat.reduceAdd]
    rw [pt_ok, Option.bind_some, pt_ok, Option.bind_some, pt_ok, Option.bind_some, ← hy, x1, Option.bind_some]
    exact z1.trans ft
  rw [st]
  unfold flA
  by_cases g : ffw (fP0 B (B 114 2)) (B 118) (B 114 2).toNat 0 = true
  rotate_left
  · rw [if_neg g, if_neg g]; exact ⟨z, rfl, zO⟩
  rw [if_pos g, if_pos g]
  obtain ⟨v, v1, v2, v3, v4⟩ := layFrom_ok (N := N) (q1 := q1) (s0 := s) (B := B) hN hH 20 (B 114 2).toNat 0 z (fP0 B (B 114 2)) (0, 0) (by omega) (by omega) (by omega) z2 (by rw [fP0_o (by decide)]) (fP0_TP hW hm) (fSt_ext (by rw [z4, x102]) yS) zO
  rw [fad_0l] at v3
  rw [v1, Option.bind_some]
  unfold FX4_layRooms_b123
  rcases v3 with ⟨⟨a0, a1⟩, a2, a3, a4⟩ | ⟨a1, a2, a4⟩
  · rw [if_pos a4, if_pos a1, a3]; exact ⟨v, rfl, v4⟩
  · rw [if_neg (by omega), if_neg (by omega)]; exact ⟨v, rfl, v4⟩
