-- MARKS: whether the draft can be by slides
def emp (P : iv_M) (e : Int) : Prop := (0 ≤ e ∧ e < 16) ∧ (e % 4 < P 114 0 ∧ e / 4 < P 114 1 ∧ P 121 e = -1) ∧ ∀ c : Int, 0 ≤ c → c < 16 → c % 4 < P 114 0 ∧ c / 4 < P 114 1 ∧ P 121 c = -1 → c = e
def evA (e : Int) (f : Int → Int) (i : Nat) : Int := if i = 0 then e else f ((i : Int) - 1)
theorem evA_s {e : Int} {f : Int → Int} {r : Nat} : evA e f (r + 1) = f r := by unfold evA; rw [if_neg (by omega), show ((r + 1 : Nat) : Int) - 1 = (r : Int) by omega]
def Pl (w : Int → Int) (a : Nat → Int) (n : Nat) : Prop := (∀ i, i ≤ n → 0 ≤ a i ∧ a i < 16 ∧ w (a i) = (i : Int) - 1) ∧ ∀ c, 0 ≤ c → c < 16 → w c = -2 ∨ ∃ i, i ≤ n ∧ a i = c
theorem Pl.inj {w : Int → Int} {a : Nat → Int} {n i j : Nat} (h : Pl w a n) (hi : i ≤ n) (hj : j ≤ n) (e : a i = a j) : i = j := by
  have h1 := (h.1 i hi).2.2
  have h2 := (h.1 j hj).2.2
  rw [e, h2] at h1; omega
theorem Pl.at {w : Int → Int} {a : Nat → Int} {n j : Nat} {c : Int} (h : Pl w a n) (c0 : 0 ≤ c) (c1 : c < 16) (e : w c = (j : Int) - 1) (hj : j ≤ n) : a j = c := by
  rcases h.2 c c0 c1 with z | ⟨i, i1, i2⟩
  · omega
  · have := (h.1 i i1).2.2
    rw [i2, e] at this
    have : i = j := by omega
    rw [← this]; exact i2
theorem find188 {N : Nat} {y : iv_M} {x2 x3 x4 c p : Int} {kx : iv_M → Int → Option (Int × iv_M)} (c0 : 0 ≤ c) (c1 : c < 16) (p1 : p < 16) (hp : y 156 p = y 155 c) : ∀ (d f : Nat) (x : Int), x + d = p → d < f → 0 ≤ x → (∀ z, x ≤ z → z < p → y 156 z ≠ y 155 c) → FX12_canBySlides_l188 N 113 x2 x3 x4 c kx f y x = kx y p := by
  intro d
  induction d with
  | zero =>
    intro f x hx hf x0 _
    obtain ⟨f', rfl⟩ : ∃ f', f = f' + 1 := ⟨f - 1, by omega⟩
    have : x = p := by omega
    rw [FX12_canBySlides_l188, this]
    simp only [Nat.reduceAdd]
    rw [rd_ok (by omega) (by omega), Option.bind_some, rd_ok c0 c1, Option.bind_some, if_pos hp]
  | succ d ih =>
    intro f x hx hf x0 hz
    obtain ⟨f', rfl⟩ : ∃ f', f = f' + 1 := ⟨f - 1, by omega⟩
    rw [FX12_canBySlides_l188]
    simp only [Nat.reduceAdd]
    rw [rd_ok (by omega) (by omega), Option.bind_some, rd_ok c0 c1, Option.bind_some, if_neg (hz x (by omega) (by omega)), w32_id (by omega) (by omega)]
    exact ih f' (x + 1) (by omega) (by omega) (by omega) (fun z z0 z1 => hz z (by omega) z1)
theorem slide_l {N n : Nat} {b : Nat → Int} {x2 x3 : Int} {kx : iv_M → Int → Option (Int × iv_M)} (hN : 100 ≤ N) : ∀ (d c f : Nat) (y : iv_M) (k : Int) (a : Nat → Int), c + d = 16 → d < f → Pl (y 156) a n → Pl (y 155) b n → (∀ z : Int, 0 ≤ z → z < c → y 156 z = y 155 z) → (∀ z : Int, 0 ≤ z → z < 16 → (y 156 z = -2 ↔ y 155 z = -2)) → 0 ≤ k → k ≤ c → ∃ k' y', FX12_canBySlides_l158 N 113 x2 x3 kx f y k c = kx y' k' ∧ k' % 2 = (k + evt a b (n + 1)) % 2 ∧ (0 ≤ k' ∧ k' ≤ 16) ∧ ∀ r, r ≠ 156 → y' r = y r := by
  intro d
  induction d with
  | zero =>
    intro c f y k a hc hf hA hB hpre hoff k0 k1
    obtain ⟨f', rfl⟩ : ∃ f', f = f' + 1 := ⟨f - 1, by omega⟩
    refine ⟨k, y, by rw [FX12_canBySlides_l158, if_pos (by omega)], ?_, ⟨k0, by omega⟩, fun _ _ => rfl⟩
    have : evt a b (n + 1) = 0 := evt_same (M := n + 1) (fun i hi => by
      obtain ⟨i0, i1, i2⟩ := hA.1 i (by omega)
      rw [hpre (a i) i0 (by omega)] at i2
      exact (hB.at i0 i1 i2 (by omega)).symm) (n + 1) (Nat.le_refl _)
    rw [this, Int.add_zero]
  | succ d ih =>
    intro c f y k a hc hf hA hB hpre hoff k0 k1
    obtain ⟨f', rfl⟩ : ∃ f', f = f' + 1 := ⟨f - 1, by omega⟩
    have c0 : (0 : Int) ≤ c := by omega
    have c1 : (c : Int) < 16 := by omega
    have start : FX12_canBySlides_l158 N 113 x2 x3 kx (f' + 1) y k c = (if y 156 c = y 155 c then (FX12_canBySlides_l158 N 113 x2 x3 kx f' y k ((c + 1 : Nat) : Int)) else (FX12_canBySlides_l188 N 113 x2 x3 k (c : Int) (fun (s_3728 : iv_M) (x3729_6 : Int) => ((rd s_3728 156 16 (c : Int)).bind fun v_3730 => ((wr s_3728 156 16 x3729_6 v_3730).bind fun s_3731 => ((rd s_3731 155 16 (c : Int)).bind fun v_3733 => ((wr s_3731 156 16 (c : Int) v_3733).bind fun s_3734 => (FX12_canBySlides_l158 N 113 x2 x3 kx f' s_3734 (w32 (k + 1)) ((c + 1 : Nat) : Int))))))) N y ((c : Int) + 1))) := by
      rw [FX12_canBySlides_l158, if_neg (by omega)]
      unfold FX12_canBySlides_b242
      simp only [Nat.reduceAdd]
      rw [rd_ok c0 c1, Option.bind_some, rd_ok c0 c1, Option.bind_some, w32_id (x := (c : Int) + 1) (by omega) (by omega)]
      rfl
    by_cases e : y 156 c = y 155 c
    · rw [start, if_pos e]
      refine ih (c + 1) f' y k a (by omega) (by omega) hA hB (fun z z0 z1 => ?_) hoff k0 (by omega)
      by_cases q : z = c
      · rw [q]; exact e
      · exact hpre z z0 (by omega)
    rw [if_neg e] at start
    have g2 : y 155 c ≠ -2 := fun q => e (by rw [q]; exact (hoff c c0 c1).mpr q)
    have w2 : y 156 c ≠ -2 := fun q => g2 ((hoff c c0 c1).mp q)
    obtain ⟨j, j1, j2⟩ : ∃ j, j ≤ n ∧ b j = c := by
      rcases hB.2 c c0 c1 with z | z
      · exact absurd z g2
      · exact z
    obtain ⟨i0, i1, i2⟩ : ∃ i, i ≤ n ∧ a i = c := by
      rcases hA.2 c c0 c1 with z | z
      · exact absurd z w2
      · exact z
    have gj : y 155 c = (j : Int) - 1 := by have := (hB.1 j j1).2.2; rw [j2] at this; exact this
    have wi : y 156 c = (i0 : Int) - 1 := by have := (hA.1 i0 i1).2.2; rw [i2] at this; exact this
    obtain ⟨p0, p1, p2⟩ := hA.1 j j1
    obtain ⟨p, hp⟩ : ∃ p, p = a j := ⟨_, rfl⟩
    rw [← hp] at p0 p1 p2
    have hij : i0 ≠ j := fun q => e (by rw [gj, wi, q])
    have pc : p ≠ c := fun q => hij (hA.inj i1 j1 (by rw [i2, ← hp, q]))
    have hpc : (c : Int) < p := by
      by_cases q : (c : Int) < p
      · exact q
      · have h1 := hpre p p0 (by omega)
        rw [p2] at h1
        have := hB.at p0 p1 h1.symm j1
        omega
    obtain ⟨z, hz⟩ : ∃ z, z = mu (mu y 156 p (y 156 c)) 156 (c : Int) (y 155 c) := ⟨_, rfl⟩
    have zo : ∀ r, r ≠ 156 → z r = y r := fun r hr => by rw [hz, mu_rw hr, mu_rw hr]
    have zc : z 156 c = y 155 c := by rw [hz, mu_eq]
    have zp : z 156 p = y 156 c := by rw [hz, mu_ne (by omega), mu_eq]
    have zz : ∀ x : Int, x ≠ c → x ≠ p → z 156 x = y 156 x := fun x h1 h2 => by rw [hz, mu_ne (by omega), mu_ne (by omega)]
    have fd := find188 (N := N) (y := y) (x2 := x2) (x3 := x3) (x4 := k) (c := (c : Int)) (p := p) (kx := fun (s_3728 : iv_M) (x3729_6 : Int) => ((rd s_3728 156 16 (c : Int)).bind fun v_3730 => ((wr s_3728 156 16 x3729_6 v_3730).bind fun s_3731 => ((rd s_3731 155 16 (c : Int)).bind fun v_3733 => ((wr s_3731 156 16 (c : Int) v_3733).bind fun s_3734 => (FX12_canBySlides_l158 N 113 x2 x3 kx f' s_3734 (w32 (k + 1)) ((c + 1 : Nat) : Int))))))) c0 c1 p1 (by rw [p2, gj]) (p - c - 1).toNat N ((c : Int) + 1) (by omega) (by omega) (by omega) (fun x x0 x1 q => by
      rw [gj] at q
      have := hA.at (c := x) (by omega) (by omega) q j1
      omega)
    have step : FX12_canBySlides_l158 N 113 x2 x3 kx (f' + 1) y k c = FX12_canBySlides_l158 N 113 x2 x3 kx f' z (k + 1) ((c + 1 : Nat) : Int) := by
      refine start.trans (fd.trans ?_)
      show ((rd y 156 16 (c : Int)).bind fun v_3730 => ((wr y 156 16 p v_3730).bind fun s_3731 => ((rd s_3731 155 16 (c : Int)).bind fun v_3733 => ((wr s_3731 156 16 (c : Int) v_3733).bind fun s_3734 => (FX12_canBySlides_l158 N 113 x2 x3 kx f' s_3734 (w32 (k + 1)) ((c + 1 : Nat) : Int)))))) = _
      rw [rd_ok c0 c1, Option.bind_some, wr_ok p0 p1, Option.bind_some, rd_ok c0 c1, Option.bind_some, mu_ne (by omega), wr_ok c0 c1, Option.bind_some, ← hz, w32_id (by omega) (by omega)]
    have hPl : Pl (z 156) (evw a i0 j) n := by
      refine ⟨fun i hi => ?_, fun x x0 x1 => ?_⟩
      · by_cases q1 : i = i0
        · rw [q1, evw_x, ← hp, zp, wi]; exact ⟨p0, p1, rfl⟩
        · by_cases q2 : i = j
          · rw [q2, evw_y hij, i2, zc, gj]; exact ⟨c0, c1, rfl⟩
          · rw [evw_o q1 q2, zz (a i) (fun q => q1 (hA.inj hi i1 (by rw [q, i2]))) (fun q => q2 (hA.inj hi j1 (by rw [q, hp])))]
            exact hA.1 i hi
      · by_cases q1 : x = c
        · exact Or.inr ⟨j, j1, by rw [evw_y hij, i2, q1]⟩
        · by_cases q2 : x = p
          · exact Or.inr ⟨i0, i1, by rw [evw_x, ← hp, q2]⟩
          · rw [zz x q1 q2]
            rcases hA.2 x x0 x1 with q | ⟨i, v1, v2⟩
            · exact Or.inl q
            · exact Or.inr ⟨i, v1, by rw [evw_o (fun q => q1 (by rw [← v2, q, i2])) (fun q => q2 (by rw [← v2, q, hp]))]; exact v2⟩
    obtain ⟨k', y', r1, r2, r3, r4⟩ := ih (c + 1) f' z (k + 1) (evw a i0 j) (by omega) (by omega) hPl (by rw [zo 155 (by omega)]; exact hB) (fun x x0 x1 => by
      rw [zo 155 (by omega)]
      by_cases q1 : x = c
      · rw [q1]; exact zc
      · rw [zz x q1 (by omega)]; exact hpre x x0 (by omega)) (fun x x0 x1 => by
      rw [zo 155 (by omega)]
      by_cases q1 : x = c
      · rw [q1, zc]
      · by_cases q2 : x = p
        · rw [q2, zp]
          constructor
          · intro q; exact absurd q w2
          · intro q
            have := (hoff p p0 p1).mpr q
            rw [p2] at this; omega
        · rw [zz x q1 q2]; exact hoff x x0 x1) (by omega) (by omega)
    have fl := evt_flip (a := a) (b := b) (x := i0) (y := j) (M := n + 1) hij (by omega) (by omega) (fun i i' hi hi' q => hA.inj (by omega) (by omega) q)
    exact ⟨k', y', step.trans r1, by omega, r3, fun r hr => by rw [r4 r hr, zo r hr]⟩
theorem empties_l {N : Nat} {y : iv_M} {e e' : Int} {kx : iv_M → Int → Int → Option (Int × iv_M)} (e1 : e < 16) (e1' : e' < 16) (h : ∀ c, 0 ≤ c → c < 16 → (y 156 c = -1 ↔ c = e)) (h' : ∀ c, 0 ≤ c → c < 16 → (y 155 c = -1 ↔ c = e')) : ∀ (d c f : Nat), c + d = 16 → d < f → FX12_canBySlides_l103 N 113 kx f y (if e < c then e else 0) (if e' < c then e' else 0) (c : Int) = kx y e e' := by
  intro d
  induction d with
  | zero =>
    intro c f hc hf
    obtain ⟨f', rfl⟩ : ∃ f', f = f' + 1 := ⟨f - 1, by omega⟩
    rw [FX12_canBySlides_l103, if_pos (by omega), if_pos (by omega), if_pos (by omega)]
  | succ d ih =>
    intro c f hc hf
    obtain ⟨f', rfl⟩ : ∃ f', f = f' + 1 := ⟨f - 1, by omega⟩
    have := ih (c + 1) f' (by omega) (by omega)
    rw [FX12_canBySlides_l103, if_neg (by omega)]
    unfold FX12_canBySlides_b127 FX12_canBySlides_b145
    simp only [Nat.reduceAdd]
    have n1 : ∀ v : Int, (c : Int) ≠ v → (if v < ((c + 1 : Nat) : Int) then v else 0) = (if v < (c : Int) then v else 0) := fun v hv => by
      by_cases q : v < c
      · rw [if_pos (by omega), if_pos q]
      · rw [if_neg (by omega), if_neg q]
    have n2 : ∀ v : Int, (c : Int) = v → (if v < ((c + 1 : Nat) : Int) then v else 0) = (c : Int) := fun v hv => by rw [if_pos (by omega)]; exact hv.symm
    have en : (c : Int) + 1 = ((c + 1 : Nat) : Int) := by omega
    rw [rd_ok (by omega) (by omega), Option.bind_some, rd_ok (by omega) (by omega), Option.bind_some, w32_id (by omega) (by omega), en]
    by_cases q : (c : Int) = e
    · rw [if_pos ((h c (by omega) (by omega)).mpr q)]
      rw [n2 e q] at this
      by_cases q' : (c : Int) = e'
      · rw [n2 e' q'] at this
        rw [if_pos ((h' c (by omega) (by omega)).mpr q')]; exact this
      · rw [n1 e' q'] at this
        rw [if_neg (fun z => q' ((h' c (by omega) (by omega)).mp z))]; exact this
    · rw [if_neg (fun z => q ((h c (by omega) (by omega)).mp z)), Option.bind_some]
      rw [n1 e q] at this
      by_cases q' : (c : Int) = e'
      · rw [n2 e' q'] at this
        rw [if_pos ((h' c (by omega) (by omega)).mpr q')]; exact this
      · rw [n1 e' q'] at this
        rw [if_neg (fun z => q' ((h' c (by omega) (by omega)).mp z))]; exact this
/-- the cells set out -/
def cs (x : iv_M) (n : Int) : iv_M := fun a c => if a = 156 ∧ 0 ≤ c ∧ c < n then (if c % 4 < x 114 0 ∧ c / 4 < x 114 1 then x 121 c else -2) else if a = 155 ∧ 0 ≤ c ∧ c < n then (if c % 4 < x 114 0 ∧ c / 4 < x 114 1 then -1 else -2) else x a c
theorem cs_o {x : iv_M} {n : Int} {a : Nat} (h : a ≠ 155) (h2 : a ≠ 156) : cs x n a = x a := by funext c; unfold cs; rw [if_neg (by omega), if_neg (by omega)]
theorem cells_l {N : Nat} {x : iv_M} {k : Int} {kx : iv_M → Option (Int × iv_M)} (hN : 100 ≤ N) (hW : Wa x) : FX12_canBySlides_l2 N 113 k kx N x 0 = kx (cs x 16) := by
  have hs0 : x = cs x ((0 : Nat) : Int) := by funext a c; unfold cs; rw [if_neg (by omega), if_neg (by omega)]
  have lp := loop_fn (L := FX12_canBySlides_l2 N 113 k kx) (k := kx) (hi := 16) (N := N) (fun i => cs x (i : Int)) (by omega) (fun n => by rw [FX12_canBySlides_l2, if_pos (by omega)]) (fun n i hi => by
    obtain ⟨g, hg⟩ : ∃ g, g = cs x (i : Int) := ⟨_, rfl⟩
    have go : ∀ a, a ≠ 155 → a ≠ 156 → g a = x a := fun a h h2 => by rw [hg]; exact cs_o h h2
    have hWg : Wa g := by unfold Wa at hW ⊢; rw [go 114 (by omega) (by omega), go 115 (by omega) (by omega)]; exact hW
    have wa2 : ∀ v, Wa (mu g 156 (i : Int) v) := fun v => by unfold Wa at hWg ⊢; rw [mu_rw (by omega), mu_rw (by omega)]; exact hWg
    have i0 : (0 : Int) ≤ i := by omega
    have hend : ∀ v u, v = (if (i : Int) % 4 < x 114 0 ∧ (i : Int) / 4 < x 114 1 then x 121 i else -2) → u = (if (i : Int) % 4 < x 114 0 ∧ (i : Int) / 4 < x 114 1 then (-1 : Int) else -2) → mu (mu g 156 (i : Int) v) 155 (i : Int) u = cs x ((i + 1 : Nat) : Int) := fun v u hv hu => by
      funext a c
      rw [hg]
      unfold mu cs
      by_cases c1 : a = 155 ∧ c = (i : Int)
      · rw [if_pos c1, if_neg (by omega), if_pos (by omega), hu, c1.2]
      · rw [if_neg c1]
        by_cases c2 : a = 156 ∧ c = (i : Int)
        · rw [if_pos c2, if_pos (by omega), hv, c2.2]
        · rw [if_neg c2]
          by_cases c3 : a = 156 ∧ 0 ≤ c ∧ c < (i : Int)
          · rw [if_pos c3, if_pos (show a = 156 ∧ 0 ≤ c ∧ c < ((i + 1 : Nat) : Int) by omega)]
          · rw [if_neg c3, if_neg (show ¬ (a = 156 ∧ 0 ≤ c ∧ c < ((i + 1 : Nat) : Int)) by omega)]
            by_cases c4 : a = 155 ∧ 0 ≤ c ∧ c < (i : Int)
            · rw [if_pos c4, if_pos (show a = 155 ∧ 0 ≤ c ∧ c < ((i + 1 : Nat) : Int) by omega)]
            · rw [if_neg c4, if_neg (show ¬ (a = 155 ∧ 0 ≤ c ∧ c < ((i + 1 : Nat) : Int)) by omega)]
    rw [FX12_canBySlides_l2, if_neg (by omega)]
    rw [← hg]
    unfold FX12_canBySlides_b32 FX12_canBySlides_b52
    simp only [Nat.reduceAdd]
    have s6 : ((sh 156).2 : Int) = 16 := by decide
    have s5 : ((sh 155).2 : Int) = 16 := by decide
    have m4 : ∀ v, mu g 156 (i : Int) v 114 = x 114 := fun v => by rw [mu_rw (by omega), go 114 (by omega) (by omega)]
    rw [FX12_isFloor_ok hWg i0 (by omega), Option.bind_some, go 114 (by omega) (by omega), s6, s5]
    by_cases q : (i : Int) % 4 < x 114 0 ∧ (i : Int) / 4 < x 114 1
    · rw [if_pos q, if_neg (by decide), rd_ok i0 (by omega), Option.bind_some, wr_ok i0 (by omega), Option.bind_some, FX12_isFloor_ok (wa2 _) i0 (by omega), Option.bind_some, m4, if_pos q, if_neg (by decide), wr_ok i0 (by omega), Option.bind_some, w32_id (by omega) (by omega), hend _ _ (by rw [if_pos q, go 121 (by omega) (by omega)]) (by rw [if_pos q])]
    · rw [if_neg q, if_pos rfl, wr_ok i0 (by omega), Option.bind_some, FX12_isFloor_ok (wa2 _) i0 (by omega), Option.bind_some, m4, if_neg q, if_pos rfl, wr_ok i0 (by omega), Option.bind_some, w32_id (by omega) (by omega), hend _ _ (by rw [if_neg q]) (by rw [if_neg q])]) (by omega)
  have lp' : FX12_canBySlides_l2 N 113 k kx N (cs x ((0 : Nat) : Int)) 0 = kx (cs x 16) := lp
  rw [← hs0] at lp'
  exact lp'
theorem canBySlides_ok {N : Nat} {x : iv_M} {k e e' : Int} (hN : 100 ≤ N) (hW : Wf x) (k0 : 0 ≤ k) (k1 : k < 4) (hv : FV x (dC x k) (dT x k)) (he : emp x e) (he' : emp (lay x (dC x k) (dT x k)) e') : ∃ y, FX12_canBySlides N x 113 k = some (if (e % 4 + e / 4 + e' % 4 + e' / 4 + evt (evA e (x 116)) (evA e' (dC x k)) ((x 114 2).toNat + 1)) % 2 = 0 then 1 else 0, y) ∧ ∀ r, r ≠ 155 → r ≠ 156 → y r = x r := by
  obtain ⟨a0, a1, a2, a3, a4, a5, _⟩ := id hW.1
  obtain ⟨n, hn⟩ : ∃ n, n = (x 114 2).toNat := ⟨_, rfl⟩
  have hn2 : x 114 2 = n := by omega
  have hWD := Wf_lay hW.1 hv
  obtain ⟨D, hD⟩ : ∃ D, D = lay x (dC x k) (dT x k) := ⟨_, rfl⟩
  rw [← hD] at he' hWD
  have D4 : D 114 = x 114 := by rw [hD]; exact lay_o (by omega) (by omega) (by omega)
  have D6 : ∀ r, 0 ≤ r → r < x 114 2 → D 116 r = dC x k r := fun r r0 r1 => by rw [hD]; exact lay_6 r0 r1
  have Dat : ∀ r, 0 ≤ r → r < x 114 2 → D 121 (dC x k r) = r := fun r r0 r1 => by rw [← D6 r r0 r1]; exact (hWD.room r0 (by rw [D4]; exact r1)).2.2.1
  unfold emp at he'
  rw [D4] at he'
  obtain ⟨y1, hy1⟩ : ∃ y1, y1 = cs x 16 := ⟨_, rfl⟩
  have o1 : ∀ a, a ≠ 155 → a ≠ 156 → y1 a = x a := fun a h h2 => by rw [hy1]; exact cs_o h h2
  have v156 : ∀ c, 0 ≤ c → c < 16 → y1 156 c = (if c % 4 < x 114 0 ∧ c / 4 < x 114 1 then x 121 c else -2) := fun c c0 c1 => by rw [hy1]; unfold cs; rw [if_pos ⟨rfl, c0, c1⟩]
  have v155 : ∀ c, 0 ≤ c → c < 16 → y1 155 c = (if c % 4 < x 114 0 ∧ c / 4 < x 114 1 then -1 else -2) := fun c c0 c1 => by rw [hy1]; unfold cs; rw [if_neg (by omega), if_pos ⟨rfl, c0, c1⟩]
  -- the goal set out
  obtain ⟨y2, ⟨_, b2, b3, b4⟩, b1⟩ := loop_up (L := fun m z i => FX12_canBySlides_l61 N 113 k (fun (s_3695 : iv_M) => (FX12_canBySlides_l103 N 113 (fun (s_3697 : iv_M) (x3698_2 : Int) (x3698_3 : Int) => (FX12_canBySlides_l158 N 113 x3698_2 x3698_3 (fun (s_3699 : iv_M) (x3700_4 : Int) => ((FX12_apart N s_3699 (Int.tmod x3698_2 4) (Int.tmod x3698_3 4)).bind fun v_3701 => ((FX12_apart N s_3699 (dv32 x3698_2 4) (dv32 x3698_3 4)).bind fun v_3702 => (if (Int.tmod x3700_4 2) = (Int.tmod (w32 (v_3701 + v_3702)) 2) then (FX12_canBySlides_b285 N s_3699 1) else (FX12_canBySlides_b285 N s_3699 0))))) N s_3697 0 0)) N s_3695 0 0 0)) m z i) (k := fun (s_3695 : iv_M) => (FX12_canBySlides_l103 N 113 (fun (s_3697 : iv_M) (x3698_2 : Int) (x3698_3 : Int) => (FX12_canBySlides_l158 N 113 x3698_2 x3698_3 (fun (s_3699 : iv_M) (x3700_4 : Int) => ((FX12_apart N s_3699 (Int.tmod x3698_2 4) (Int.tmod x3698_3 4)).bind fun v_3701 => ((FX12_apart N s_3699 (dv32 x3698_2 4) (dv32 x3698_3 4)).bind fun v_3702 => (if (Int.tmod x3700_4 2) = (Int.tmod (w32 (v_3701 + v_3702)) 2) then (FX12_canBySlides_b285 N s_3699 1) else (FX12_canBySlides_b285 N s_3699 0))))) N s_3697 0 0)) N s_3695 0 0 0)) (hi := x 114 2) (fun r z => 0 ≤ r ∧ (∀ j : Int, 0 ≤ j → j < r → z 155 (dC x k j) = j) ∧ (∀ c : Int, (∀ j : Int, 0 ≤ j → j < r → dC x k j ≠ c) → z 155 c = y1 155 c) ∧ ∀ a, a ≠ 155 → z a = y1 a) (fun m z hz => by
      show FX12_canBySlides_l61 N 113 k _ (m + 1) z (x 114 2) = _
      rw [FX12_canBySlides_l61]
      simp only [Nat.reduceAdd]
      rw [rd_ok (by omega) (by omega), Option.bind_some, hz.2.2.2 114 (by omega), o1 114 (by omega) (by omega), if_pos (by omega)]) (fun m j z hz hj => by
      obtain ⟨z0, z1, z2, z3⟩ := hz
      obtain ⟨d0, d1, _⟩ := hv.1 j z0 hj
      refine ⟨mu z 155 (dC x k j) j, ?_, by omega, fun i i0 i1 => ?_, fun c hc => ?_, fun a ha => by rw [mu_rw ha]; exact z3 a ha⟩
      · show FX12_canBySlides_l61 N 113 k _ (m + 1) z j = FX12_canBySlides_l61 N 113 k _ m (mu z 155 (dC x k j) j) (j + 1)
        rw [FX12_canBySlides_l61]
        simp only [Nat.reduceAdd]
        have hc : z 123 (24 * k + 2 * j) = dC x k j := by rw [z3 123 (by omega), o1 123 (by omega) (by omega)]; rfl
        rw [rd_ok (by omega) (by omega), Option.bind_some, z3 114 (by omega), o1 114 (by omega) (by omega), if_neg (by omega), w32_id (x := 24 * k) (by omega) (by omega), w32_id (x := 2 * j) (by omega) (by omega), w32_id (by omega) (by omega), rd_ok (by omega) (by omega), Option.bind_some, hc, wr_ok d0 d1, Option.bind_some, w32_id (by omega) (by omega)]
      · by_cases q : i = j
        · rw [q, mu_eq]
        · rw [mu_ne (fun u => q (hv.2 i j i0 (by omega) z0 hj u.2))]; exact z1 i i0 (by omega)
      · rw [mu_ne (fun u => hc j z0 (by omega) u.2.symm)]; exact z2 c (fun i i0 i1 => hc i i0 (by omega))) N 0 y1 ⟨by omega, fun j j0 j1 => by omega, fun c _ => rfl, fun a _ => rfl⟩ a4 (by omega)
  have w156 : ∀ c, 0 ≤ c → c < 16 → y2 156 c = (if c % 4 < x 114 0 ∧ c / 4 < x 114 1 then x 121 c else -2) := fun c c0 c1 => by rw [b4 156 (by omega)]; exact v156 c c0 c1
  have hpA : Pl (y2 156) (evA e (x 116)) n := by
    refine ⟨fun i hi => ?_, fun c c0 c1 => ?_⟩
    · cases i with
      | zero =>
        show 0 ≤ e ∧ e < 16 ∧ y2 156 e = _
        rw [w156 e he.1.1 he.1.2, if_pos ⟨he.2.1.1, he.2.1.2.1⟩, he.2.1.2.2]
        exact ⟨he.1.1, he.1.2, rfl⟩
      | succ r =>
        rw [evA_s]
        obtain ⟨g1, g2, g3, _, _, g6, g7⟩ := hW.room (r := r) (by omega) (by omega)
        rw [w156 _ g1 g2, if_pos ⟨g6, g7⟩, g3]
        exact ⟨g1, g2, by omega⟩
    · rw [w156 c c0 c1]
      by_cases q : c % 4 < x 114 0 ∧ c / 4 < x 114 1
      · right
        rcases hW.2.1 c c0 c1 with z | ⟨z0, z1, z2, _⟩
        · exact ⟨0, by omega, (he.2.2 c c0 c1 ⟨q.1, q.2, z⟩).symm⟩
        · exact ⟨(x 121 c).toNat + 1, by omega, by rw [evA_s, Int.toNat_of_nonneg z0]; exact z2⟩
      · left; rw [if_neg q]
  have w155 : ∀ c, 0 ≤ c → c < 16 → (∃ r : Nat, r < n ∧ dC x k r = c ∧ y2 155 c = r) ∨ ((∀ r : Nat, r < n → dC x k r ≠ c) ∧ y2 155 c = (if c % 4 < x 114 0 ∧ c / 4 < x 114 1 then -1 else -2)) := fun c c0 c1 => by
    rcases evo_iff (f := dC x k) (c := c) n with ⟨_, r, r1, r2⟩ | ⟨_, r1⟩
    · left; exact ⟨r, r1, r2, by rw [← r2]; exact b2 r (by omega) (by omega)⟩
    · right
      refine ⟨r1, ?_⟩
      rw [b3 c (fun j j0 j1 => by have := r1 j.toNat (by omega); rw [Int.toNat_of_nonneg j0] at this; exact this)]
      exact v155 c c0 c1
  have nodr : ∀ r : Nat, r < n → dC x k r ≠ e' := fun r hr q => by
    have := Dat r (by omega) (by omega)
    rw [q, he'.2.1.2.2] at this; omega
  have hpB : Pl (y2 155) (evA e' (dC x k)) n := by
    refine ⟨fun i hi => ?_, fun c c0 c1 => ?_⟩
    · cases i with
      | zero =>
        show 0 ≤ e' ∧ e' < 16 ∧ y2 155 e' = _
        rcases w155 e' he'.1.1 he'.1.2 with ⟨r, r1, r2, _⟩ | ⟨_, z⟩
        · exact absurd r2 (nodr r r1)
        · rw [z, if_pos ⟨he'.2.1.1, he'.2.1.2.1⟩]
          exact ⟨he'.1.1, he'.1.2, rfl⟩
      | succ r =>
        rw [evA_s]
        obtain ⟨g1, g2, _⟩ := hv.1 r (by omega) (by omega)
        exact ⟨g1, g2, by rw [b2 r (by omega) (by omega)]; omega⟩
    · rcases w155 c c0 c1 with ⟨r, r1, r2, _⟩ | ⟨z0, z⟩
      · right; exact ⟨r + 1, by omega, by rw [evA_s]; exact r2⟩
      · rw [z]
        by_cases q : c % 4 < x 114 0 ∧ c / 4 < x 114 1
        · right
          refine ⟨0, by omega, (he'.2.2 c c0 c1 ⟨q.1, q.2, ?_⟩).symm⟩
          rcases hWD.2.1 c c0 c1 with u | ⟨u0, u1, u2, _⟩
          · exact u
          · rw [D4] at u1
            rw [D6 _ u0 u1] at u2
            have := z0 (D 121 c).toNat (by omega)
            rw [Int.toNat_of_nonneg u0] at this
            exact absurd u2 this
        · left; rw [if_neg q]
  have hoff : ∀ z : Int, 0 ≤ z → z < 16 → (y2 156 z = -2 ↔ y2 155 z = -2) := fun z z0 z1 => by
    rw [w156 z z0 z1]
    rcases w155 z z0 z1 with ⟨r, r1, r2, r3⟩ | ⟨_, u⟩
    · obtain ⟨_, _, g3, g4, _⟩ := hv.1 r (by omega) (by omega)
      rw [r2] at g3 g4
      rw [r3, if_pos ⟨g3, g4⟩]
      rcases hW.2.1 z z0 z1 with q | ⟨q, _⟩ <;> omega
    · rw [u]
      by_cases q : z % 4 < x 114 0 ∧ z / 4 < x 114 1
      · rw [if_pos q, if_pos q]
        rcases hW.2.1 z z0 z1 with q | ⟨q, _⟩ <;> omega
      · rw [if_neg q, if_neg q]
  have hem : ∀ c, 0 ≤ c → c < 16 → (y2 156 c = -1 ↔ c = e) := fun c c0 c1 => by
    constructor
    · intro q; exact (hpA.at (j := 0) c0 c1 (by rw [q]; rfl) (by omega)).symm
    · intro q; rw [q]; exact (hpA.1 0 (by omega)).2.2
  have hem' : ∀ c, 0 ≤ c → c < 16 → (y2 155 c = -1 ↔ c = e') := fun c c0 c1 => by
    constructor
    · intro q; exact (hpB.at (j := 0) c0 c1 (by rw [q]; rfl) (by omega)).symm
    · intro q; rw [q]; exact (hpB.1 0 (by omega)).2.2
  have em := empties_l (N := N) (y := y2) (e := e) (e' := e') (kx := fun (s_3697 : iv_M) (x3698_2 : Int) (x3698_3 : Int) => (FX12_canBySlides_l158 N 113 x3698_2 x3698_3 (fun (s_3699 : iv_M) (x3700_4 : Int) => ((FX12_apart N s_3699 (Int.tmod x3698_2 4) (Int.tmod x3698_3 4)).bind fun v_3701 => ((FX12_apart N s_3699 (dv32 x3698_2 4) (dv32 x3698_3 4)).bind fun v_3702 => (if (Int.tmod x3700_4 2) = (Int.tmod (w32 (v_3701 + v_3702)) 2) then (FX12_canBySlides_b285 N s_3699 1) else (FX12_canBySlides_b285 N s_3699 0))))) N s_3697 0 0)) he.1.2 he'.1.2 hem hem' 16 0 N (by omega) (by omega)
  rw [if_neg (by have := he.1.1; omega), if_neg (by have := he'.1.1; omega)] at em
  obtain ⟨k', y3, r1, r2, r3, r4⟩ := slide_l (N := N) (n := n) (b := evA e' (dC x k)) (x2 := e) (x3 := e') (kx := fun (s_3699 : iv_M) (x3700_4 : Int) => ((FX12_apart N s_3699 (Int.tmod e 4) (Int.tmod e' 4)).bind fun v_3701 => ((FX12_apart N s_3699 (dv32 e 4) (dv32 e' 4)).bind fun v_3702 => (if (Int.tmod x3700_4 2) = (Int.tmod (w32 (v_3701 + v_3702)) 2) then (FX12_canBySlides_b285 N s_3699 1) else (FX12_canBySlides_b285 N s_3699 0))))) hN 16 0 N y2 0 (evA e (x 116)) (by omega) (by omega) hpA hpB (fun z z0 z1 => by omega) hoff (by omega) (by omega)
  refine ⟨y3, ?_, fun r h1 h2 => by rw [r4 r h2, b4 r h1, o1 r h1 h2]⟩
  rw [← hn]
  have ap : ∀ u v : Int, 0 ≤ u → u < 16 → 0 ≤ v → v < 16 → FX12_apart N y3 u v = some (if v ≤ u then u - v else v - u) := fun u v u0 u1 v0 v1 => by
    unfold FX12_apart FX12_apart_b14
    by_cases q : v ≤ u
    · rw [if_pos q, if_pos q, w32_id (by omega) (by omega)]
    · rw [if_neg q, if_neg q, w32_id (by omega) (by omega)]
  have chain : FX12_canBySlides N x 113 k = (fun (s_3699 : iv_M) (x3700_4 : Int) => ((FX12_apart N s_3699 (Int.tmod e 4) (Int.tmod e' 4)).bind fun v_3701 => ((FX12_apart N s_3699 (dv32 e 4) (dv32 e' 4)).bind fun v_3702 => (if (Int.tmod x3700_4 2) = (Int.tmod (w32 (v_3701 + v_3702)) 2) then (FX12_canBySlides_b285 N s_3699 1) else (FX12_canBySlides_b285 N s_3699 0))))) y3 k' := by
    unfold FX12_canBySlides
    rw [cells_l hN hW.1, ← hy1]
    exact b1.trans (em.trans r1)
  rw [chain]
  dsimp only
  obtain ⟨⟨q0, q1⟩, _⟩ := he
  obtain ⟨⟨q0', q1'⟩, _⟩ := he'
  rw [tmod_pos q0, tmod_pos q0', tmod_pos r3.1, dv32_pos q0 (by omega) (by omega), dv32_pos q0' (by omega) (by omega), ap _ _ (by omega) (by omega) (by omega) (by omega), Option.bind_some, ap _ _ (by omega) (by omega) (by omega) (by omega), Option.bind_some]
  obtain ⟨A, hA⟩ : ∃ A, A = (if e' % 4 ≤ e % 4 then e % 4 - e' % 4 else e' % 4 - e % 4) := ⟨_, rfl⟩
  obtain ⟨C, hC⟩ : ∃ C, C = (if e' / 4 ≤ e / 4 then e / 4 - e' / 4 else e' / 4 - e / 4) := ⟨_, rfl⟩
  have pA : 0 ≤ A ∧ A ≤ 3 ∧ (A + e % 4 + e' % 4) % 2 = 0 := by rw [hA]; split <;> omega
  have pC : 0 ≤ C ∧ C ≤ 3 ∧ (C + e / 4 + e' / 4) % 2 = 0 := by rw [hC]; split <;> omega
  rw [← hA, ← hC, w32_id (by omega) (by omega), tmod_pos (by omega)]
  unfold FX12_canBySlides_b285
  by_cases q : k' % 2 = (A + C) % 2
  · rw [if_pos q, if_pos (Or.inr rfl), if_pos (by omega)]
  · rw [if_neg q, if_pos (Or.inl rfl), if_neg (by omega)]
