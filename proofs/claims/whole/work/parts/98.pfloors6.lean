-- FLOORS: one turn of the reference's loop
def rE (z P : iv_M) : Prop := z 114 = P 114 ∧ z 115 = P 115 ∧ z 121 = P 121 ∧ ∀ c, 0 ≤ c → c < 16 → P 121 c ≠ -1 → z 116 (P 121 c) = c ∧ z 117 (P 121 c) = P 117 (P 121 c)
theorem rE_kd {z P : iv_M} {c d : Int} (h : rE z P) (c0 : 0 ≤ c) (c1 : c < 16) : kd z c d = kd P c d := kd_ext (by rw [h.2.2.1]) (fun e => (h.2.2.2 c c0 c1 e).2) (fun j => by rw [h.2.1])
theorem rE_nb {z P : iv_M} {c d : Int} (h : rE z P) : nb z c d = nb P c d := nb_ext (by rw [h.1]) (by rw [h.1]) c d
theorem rE_W {z P : iv_M} (h : rE z P) (hW : Wa P) (hC : Wc P) : Wa z ∧ Wc z := by
  refine ⟨?_, fun c c0 c1 => ?_⟩
  · unfold Wa at hW ⊢; rw [h.1, h.2.1]; exact hW
  · rw [h.2.2.1, h.1]
    rcases hC c c0 c1 with k | k
    · left; exact k
    · right
      have := h.2.2.2 c c0 c1 (by omega)
      rw [this.1, this.2]; exact ⟨k.1, k.2.1, rfl, k.2.2.2⟩
theorem rE_kdn {z P : iv_M} {c d : Int} (h : rE z P) (hW : Wa P) : kdn z c d = kdn P c d := by
  unfold kdn
  rw [rE_nb h]
  have hn := nb_range (c := c) (d := d) hW
  by_cases e : nb P c d = -1
  · rw [if_pos e, if_pos e]
  · rw [if_neg e, if_neg e, rE_kd h (by omega) (by omega)]
theorem rE_ed {z P : iv_M} {c d : Int} (h : rE z P) (hW : Wa P) (c0 : 0 ≤ c) (c1 : c < 16) : ed z c d = ed P c d := by
  unfold ed; rw [rE_kd h c0 c1, rE_kdn h hW]
theorem rE_mm {z P : iv_M} (h : rE z P) (hW : Wa P) : mm z = mm P := by
  unfold mm
  rw [su_congr (f := fun c => ed z c 1 + ed z c 2) (g := fun c => ed P c 1 + ed P c 2) 16 (fun i i0 i1 => by show ed z i 1 + ed z i 2 = ed P i 1 + ed P i 2; rw [rE_ed h hW i0 (by omega), rE_ed h hW i0 (by omega)]), su_congr (f := fun x => ed z x 0) (g := fun x => ed P x 0) 4 (fun i i0 i1 => rE_ed h hW i0 (by omega)), su_congr (f := fun y => ed z (4 * y) 3) (g := fun y => ed P (4 * y) 3) 4 (fun i i0 i1 => rE_ed h hW (by omega) (by omega))]
theorem rE_fdd {z P : iv_M} {r d : Int} (h : rE z P) (hW : Wa P) (h6 : z 116 r = P 116 r) (c0 : 0 ≤ P 116 r) (c1 : P 116 r < 16) : fdd z r d = fdd P r d := by
  unfold fdd
  have hn := nb_range (c := P 116 r) (d := d) hW
  rw [h6, rE_nb h, rE_kd h c0 c1, h.2.2.1]
  by_cases e : nb P (P 116 r) d = -1
  · rw [if_pos e, if_pos e]
  · rw [if_neg e, if_neg e, rE_kd h (by omega) (by omega)]
theorem rE_fdn {z P : iv_M} {r : Int} (h : rE z P) (hW : Wa P) (h6 : z 116 r = P 116 r) (c0 : 0 ≤ P 116 r) (c1 : P 116 r < 16) : ∀ (m d : Nat), fdn z r m d = fdn P r m d := by
  intro m
  induction m with
  | zero => intro d; rfl
  | succ m ih =>
    intro d
    show (fdd z r (d : Int) && fdn z r m (d + 1)) = (fdd P r (d : Int) && fdn P r m (d + 1))
    rw [ih, rE_fdd h hW h6 c0 c1]
theorem rE_flr {z P : iv_M} {r c t : Int} {rs : List Int} (h : rE z P) (hT : fTP (r :: rs) P) : rE (flr z r c t) (flr P r c t) := by
  have e4 : ∀ Q : iv_M, flr Q r c t 114 = Q 114 := fun Q => flr_o (by decide) (by decide) (by decide)
  have e5 : ∀ Q : iv_M, flr Q r c t 115 = Q 115 := fun Q => flr_o (by decide) (by decide) (by decide)
  obtain ⟨r0, r1, rn⟩ := hT.2.2.1 r List.mem_cons_self
  refine ⟨by rw [e4, e4]; exact h.1, by rw [e5, e5]; exact h.2.1, ?_, fun c' c0 c1 hn => ?_⟩
  · funext i; rw [flr_21, flr_21, h.2.2.1]
  · rw [flr_21] at hn ⊢
    rw [flr_16, flr_17, flr_17]
    by_cases e : c' = c
    · rw [if_pos e, if_pos rfl, if_pos rfl, if_pos rfl]; exact ⟨e.symm, rfl⟩
    · rw [if_neg e] at hn ⊢
      rw [if_neg (rn c' c0 c1), if_neg (rn c' c0 c1), if_neg (rn c' c0 c1)]
      exact h.2.2.2 c' c0 c1 hn
/-- rows that are of no weight here -/
theorem rE_row {z z' P : iv_M} (h : rE z P) (h4 : z' 114 = z 114) (h5 : z' 115 = z 115) (h1 : z' 121 = z 121) (h6 : ∀ c, 0 ≤ c → c < 16 → P 121 c ≠ -1 → z' 116 (P 121 c) = z 116 (P 121 c) ∧ z' 117 (P 121 c) = z 117 (P 121 c)) : rE z' P :=
  ⟨by rw [h4]; exact h.1, by rw [h5]; exact h.2.1, by rw [h1]; exact h.2.2.1, fun c c0 c1 hn => by rw [(h6 c c0 c1 hn).1, (h6 c c0 c1 hn).2]; exact h.2.2.2 c c0 c1 hn⟩
def fun1 (z : iv_M) (r t : Int) : iv_M := if 0 < t ∧ z 121 (z 116 r) = r then mu z 121 (z 116 r) (-1) else z
theorem fl_head {N : Nat} {x1 x2 x3 x4 x5 x6 r t : Int} {z : iv_M} {n : Nat} {kx : iv_M → Int → Int → Option (Int × iv_M)} (h6 : 0 ≤ x6) (h6' : x6 < 12) (h1 : 0 < x1) (h5 : x5 ≤ 20000) (hr : z 157 x6 = r) (ht : z 158 x6 = t) (r0 : 0 ≤ r) (r1 : r < 12) (hc : 0 < t → 0 ≤ z 116 r ∧ z 116 r < 16) : FX12_floors_l93 N 113 x1 x2 x3 kx (n + 1) z x4 x5 x6 = FX12_floors_b174 N (fun1 z r t) 113 x1 x2 x3 x4 x5 x6 r (FX12_floors_l93 N 113 x1 x2 x3 kx n) kx := by
  rw [FX12_floors_l93, if_neg (by omega), if_neg (by omega), if_neg (by omega)]
  simp only [Nat.reduceAdd]
  rw [rd_ok h6 h6', Option.bind_some, hr, rd_ok h6 (by omega), Option.bind_some, ht]
  unfold fun1
  by_cases e : 0 < t
  · obtain ⟨c0, c1⟩ := hc e
    rw [if_neg (by omega), rd_ok r0 r1, Option.bind_some, Option.bind_some, rd_ok c0 c1, Option.bind_some]
    unfold FX12_floors_b173
    have s121 : ((sh 121).2 : Int) = 16 := by decide
    rw [s121]
    by_cases g : z 121 (z 116 r) = r
    · rw [if_pos g, wr_ok c0 c1, Option.bind_some, if_pos ⟨e, g⟩]
    · rw [if_neg g, Option.bind_some, rd_ok c0 c1, Option.bind_some, wr_ok c0 c1, Option.bind_some, mu_same, if_neg (fun z => g z.2)]
  · rw [if_pos (by omega), if_neg (fun z => e z.1)]
theorem fl_up {N : Nat} {x1 x2 x3 x4 x5 x6 r : Int} {y : iv_M} {kb : iv_M → Int → Int → Int → Option (Int × iv_M)} {kx : iv_M → Int → Int → Option (Int × iv_M)} (h6 : 0 ≤ x6) (h6' : x6 < 12) (h3 : x3 = 1 ∨ x3 = 4) (ht : y 158 x6 = 16 * x3) : FX12_floors_b174 N y 113 x1 x2 x3 x4 x5 x6 r kb kx = kb y x4 x5 (x6 - 1) := by
  unfold FX12_floors_b174 FX12_floors_b351
  simp only [Nat.reduceAdd]
  rw [rd_ok h6 (by omega), Option.bind_some, ht, w32_id (by omega) (by omega), if_pos rfl, w32_id (by omega) (by omega)]
  rfl
theorem fl_try {N : Nat} {x1 x2 x3 x4 x5 x6 r t : Int} {y : iv_M} {kb : iv_M → Int → Int → Int → Option (Int × iv_M)} {kx : iv_M → Int → Int → Option (Int × iv_M)} (h6 : 0 ≤ x6) (h6' : x6 < 12) (h3 : x3 = 1 ∨ x3 = 4) (ht : y 158 x6 = t) (t0 : 0 ≤ t) (t1 : t < 16 * x3) (r0 : 0 ≤ r) (r1 : r < 12) (hW : Wa y) (h5 : 0 ≤ x5 ∧ x5 ≤ 20000) : FX12_floors_b174 N y 113 x1 x2 x3 x4 x5 x6 r kb kx = if ffr y (t / x3) = true then FX12_floors_b272 N (mu (mu y 158 x6 (t + 1)) 116 r (t / x3)) 113 x1 x2 x3 x4 (x5 + 1) x6 r (t / x3) (if x3 = 1 then y 159 r else t % 4) r 117 kb kx else kb (mu (mu y 158 x6 (t + 1)) 116 r (t / x3)) x4 x5 x6 := by
  unfold FX12_floors_b174 FX12_floors_b351
  simp only [Nat.reduceAdd]
  have hdv : dv32 t x3 = t / x3 := by
    unfold dv32
    rcases h3 with rfl | rfl
    · rw [Int.tdiv_eq_ediv_of_nonneg t0, w32_id (by omega) (by omega)]
    · rw [Int.tdiv_eq_ediv_of_nonneg t0, w32_id (by omega) (by omega)]
  have c01 : 0 ≤ t / x3 ∧ t / x3 < 16 := by rcases h3 with rfl | rfl <;> omega
  have x30 : ¬ x3 = 0 := by omega
  rw [rd_ok h6 (by omega), Option.bind_some, ht, w32_id (x := 16 * x3) (by omega) (by omega), if_neg (by omega), Option.bind_some, w32_id (x := t + 1) (by omega) (by omega), wr_ok h6 (by omega), Option.bind_some, if_neg x30, hdv, wr_ok r0 r1, Option.bind_some]
  have e4 : (mu (mu y 158 x6 (t + 1)) 116 r (t / x3)) 114 = y 114 := by rw [mu_rw (by decide), mu_rw (by decide)]
  have e1 : (mu (mu y 158 x6 (t + 1)) 116 r (t / x3)) 121 = y 121 := by rw [mu_rw (by decide), mu_rw (by decide)]
  have e9 : (mu (mu y 158 x6 (t + 1)) 116 r (t / x3)) 159 = y 159 := by rw [mu_rw (by decide), mu_rw (by decide)]
  have e5 : (mu (mu y 158 x6 (t + 1)) 116 r (t / x3)) 115 = y 115 := by rw [mu_rw (by decide), mu_rw (by decide)]
  have hW' : Wa (mu (mu y 158 x6 (t + 1)) 116 r (t / x3)) := by unfold Wa at hW ⊢; rw [e4, e5]; exact hW
  rw [FX12_isFloor_ok hW' c01.1 (by omega), Option.bind_some, e4]
  by_cases g : (t / x3) % 4 < y 114 0 ∧ (t / x3) / 4 < y 114 1
  · rw [if_pos g, if_neg (by decide), rd_ok c01.1 c01.2, Option.bind_some, e1]
    by_cases k : y 121 (t / x3) = -1
    · rw [if_pos k, if_pos (ffr_iff.mpr ⟨g.1, g.2, k⟩), w32_id (x := x5 + 1) (by omega) (by omega)]
      rcases h3 with rfl | rfl
      · rw [if_pos rfl, if_pos rfl, rd_ok r0 r1, Option.bind_some, e9]
      · rw [if_neg (by decide), if_neg (by decide), if_neg (by decide), Int.tmod_eq_emod_of_nonneg t0]
    · rw [if_neg k, if_neg (fun z => k (ffr_iff.mp z).2.2)]
  · rw [if_neg g, if_pos rfl, if_neg (fun z => g ⟨(ffr_iff.mp z).1, (ffr_iff.mp z).2.1⟩)]
theorem fl_lay {N : Nat} {x1 x2 x3 x4 x5 x6 r c v : Int} {y P : iv_M} {w : Bool} {rs : List Int} {kb : iv_M → Int → Int → Int → Option (Int × iv_M)} {kx : iv_M → Int → Int → Option (Int × iv_M)} (hN : 100 ≤ N) (hw : x2 = if w = true then 1 else 0) (h6 : 0 ≤ x6) (h6' : x6 < x1) (h1 : x1 ≤ 12) (c0 : 0 ≤ c) (c1 : c < 16) (v0 : 0 ≤ v) (v1 : v < 4) (hE : rE y P) (hT : fTP (r :: rs) P) (fr : ffr P c = true) : FX12_floors_b272 N (mu y 116 r c) 113 x1 x2 x3 x4 x5 x6 r c v r 117 kb kx =
    if (w && fdn (flr P r c v) r 4 0) = true then (if x6 = x1 - 1 then kb (fsM (flr y r c v) 64) (w32 (x4 + (if mm (flr P r c v) = 0 then 1 else 0))) x5 x6 else kb (mu (flr y r c v) 158 (x6 + 1) 0) x4 x5 (x6 + 1)) else kb (flr y r c v) x4 x5 x6 := by
  obtain ⟨r0, r1, rn⟩ := hT.2.2.1 r List.mem_cons_self
  have r12 : r < 12 := by have := hT.1.2.2.2.2.2.1; omega
  have hT' := flr_TP hT c0 c1 v0 v1 fr
  have hE' : rE (flr y r c v) (flr P r c v) := rE_flr hE hT
  obtain ⟨wa, wc⟩ := rE_W hE' hT'.1 hT'.2.1
  have p6 : flr P r c v 116 r = c := by rw [flr_16, if_pos rfl]
  have y6 : flr y r c v 116 r = c := by rw [flr_16, if_pos rfl]
  have y7 : flr y r c v 117 r = v := by rw [flr_17, if_pos rfl]
  have lw := isLaidWell_ok (N := N) (s := flr y r c v) (r := r) (by omega) wa wc r0 r12 (by rw [y6]; exact c0) (by rw [y6]; exact c1) (by rw [y6, flr_21, if_pos rfl]) (by rw [y7]; exact v0) (by rw [y7]; exact v1)
  rw [rE_fdn hE' hT'.1 (by rw [y6, p6]) (by rw [p6]; exact c0) (by rw [p6]; exact c1)] at lw
  unfold FX12_floors_b272
  simp only [Nat.reduceAdd]
  rw [show ((sh 117).2 : Int) = 12 by decide, wr_ok r0 r12, Option.bind_some, wr_ok c0 c1, Option.bind_some]
  have fl : mu (mu (mu y 116 r c) 117 r v) 121 c r = flr y r c v := rfl
  rw [fl]
  have no : FX12_floors_b299 N (flr y r c v) 113 x1 x2 x3 x4 x5 x6 kb kx = kb (flr y r c v) x4 x5 x6 := by
    unfold FX12_floors_b299 FX12_floors_b300 FX12_floors_b335 FX12_floors_b351
    rw [if_pos rfl, if_pos rfl]
  cases w with
  | false =>
    rw [if_neg (show ¬ (false = true) by decide)] at hw
    rw [if_pos hw, no, Bool.false_and, if_neg (by decide)]
  | true =>
    rw [if_pos rfl] at hw
    rw [if_neg (by omega), lw, Option.bind_some, Bool.true_and]
    by_cases g : fdn (flr P r c v) r 4 0 = true
    rotate_left
    · rw [if_neg g, if_neg g, if_pos rfl, no]
    rw [if_pos g, if_pos g, if_neg (by decide)]
    unfold FX12_floors_b300 FX12_floors_b335 FX12_floors_b329 FX12_floors_b351
    simp only [Nat.reduceAdd]
    rw [if_neg (show ¬ (1 : Int) = 0 by decide), if_neg (show ¬ (1 : Int) = 0 by decide), w32_id (x := x1 - 1) (by omega) (by omega)]
    by_cases l : x6 = x1 - 1
    · rw [if_pos l, if_pos l, FX12_mismatches_ok hN wa wc, Option.bind_some, rE_mm hE' hT'.1]
      dsimp only
      by_cases u : mm (flr P r c v) = 0
      · rw [if_pos u, if_pos u]
      · rw [if_neg u, if_neg u]
    · rw [if_neg l, if_neg l, w32_id (x := x6 + 1) (by omega) (by omega), wr_ok (by omega) (by omega), Option.bind_some]
