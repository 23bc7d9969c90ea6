-- NIGHTS DRAWN by the reference
def pB (P : iv_M) (x : Int) : iv_M := mu P 114 13 x
theorem pB_o {P : iv_M} {x : Int} {a : Nat} (h : a ≠ 114) : pB P x a = P a := mu_rw h
theorem pB_j {P : iv_M} {x j : Int} (h : j ≠ 13) : pB P x 114 j = P 114 j := mu_ne (by omega)
theorem pB_13 {P : iv_M} {x : Int} : pB P x 114 13 = x := mu_eq
theorem Er_pB {P : iv_M} {x : Int} : Er P (pB P x) := ⟨fun a ha => pB_o (by omega), fun j _ _ _ h => pB_j h⟩
theorem Ew_pB {P : iv_M} {x : Int} : Ew P (pB P x) := ⟨pB_j (by omega), pB_j (by omega), pB_j (by omega), pB_o (by omega), pB_o (by omega), pB_o (by omega), pB_o (by omega)⟩
theorem WHm_pB {m x : Int} {B : iv_M} (h : WHm m B) (x0 : 0 ≤ x) (x1 : x < 2147483648) : WHm m (pB B x) := by
  have b : ∀ j, j ≠ 13 → pB B x 114 j = B 114 j := fun j hj => pB_j hj
  have b13 : pB B x 114 13 = x := pB_13
  have bo : ∀ a, a ≠ 114 → pB B x a = B a := fun a ha => pB_o ha
  have ew : Ew B (pB B x) := Ew_pB
  generalize pB B x = B' at *
  obtain ⟨hW, ⟨a1, a2, a3, a4, a5, a6, a7, a8, a9, a10, a11, a12⟩, ⟨e1, e2, e3, e4, e5, e6, e7, e8⟩⟩ := h
  have pc : pC B' = pC B := by funext j r; unfold pC; rw [bo 122 (by omega)]
  have pt : pT B' = pT B := by funext j r; unfold pT; rw [bo 122 (by omega)]
  have dc : dC B' = dC B := by funext j r; unfold dC; rw [bo 123 (by omega)]
  have dt : dT B' = dT B := by funext j r; unfold dT; rw [bo 123 (by omega)]
  have fv : FV B' = FV B := by funext f g; unfold FV; rw [b 0 (by omega), b 1 (by omega), b 2 (by omega)]
  have iw : isW B' = isW B := by funext k r o; unfold isW; rw [b 2 (by omega)]
  refine ⟨ew_Wf ew hW, ⟨by rw [b 3 (by omega)]; exact a1, by rw [b 4 (by omega)]; exact a2, by rw [b 5 (by omega)]; exact a3, by rw [b 6 (by omega)]; exact a4, by rw [b 7 (by omega)]; exact a5, by rw [b 8 (by omega)]; exact a6, by rw [b 9 (by omega)]; exact a7, by rw [b 10 (by omega)]; exact a8, by rw [b 11 (by omega)]; exact a9, by rw [b 12 (by omega)]; exact a10, by rw [b13]; exact ⟨x0, x1⟩, by rw [b 0 (by omega), b 2 (by omega)]; exact a12⟩, ⟨by rw [b 2 (by omega), bo 118 (by omega)]; exact e1, by rw [bo 119 (by omega)]; exact e2, by rw [b 3 (by omega), b 2 (by omega), bo 120 (by omega)]; exact e3, by rw [b 7 (by omega), fv, pc, pt]; exact e4, by rw [b 11 (by omega), fv, dc, dt]; exact e5, by rw [iw, b 8 (by omega), bo 124 (by omega), bo 125 (by omega), bo 126 (by omega)]; exact e6, by rw [b 9 (by omega), b 3 (by omega), bo 127 (by omega), bo 128 (by omega), bo 129 (by omega)]; exact e7, by rw [b 10 (by omega), b 2 (by omega), bo 130 (by omega), bo 131 (by omega)]; exact e8⟩⟩
theorem OZ_pB {B : iv_M} {x : Int} (hO : OZ B) : OZ (pB B x) := OZ_mu hO (fun _ _ => by unfold ln; simp)
theorem Lok_pB {m x : Int} {B P : iv_M} (h : Lok m B P) (x0 : 0 ≤ x) (x1 : x < 2147483648) : Lok m (pB B x) (pB P x) := by
  obtain ⟨h1, h2, h3, h4, h5⟩ := h
  refine ⟨WHm_pB h1 x0 x1, OZ_pB h2, fun j hj => ?_, fun a ha => by rw [pB_o (by omega), pB_o (by omega), h4 a ha], fun i hi => ?_⟩
  · by_cases e : j = 13
    · rw [e, pB_13, pB_13]
    · rw [pB_j e, pB_j e, h3 j hj]
  · rw [pB_j (by omega)] at hi
    rw [pB_o (by omega), pB_o (by omega), pB_o (by omega), pB_o (by omega)]; exact h5 i hi
theorem eb_step {P y : iv_M} {x k r o : Int} (h : Eb (pB P x) y) : Eb (pB (nx (wlk P k r o)) x) (mu (wlk y k r o) 114 6 (P 114 6 + 1)) := by
  have ew : Ew P y := Ew.trans Ew_pB (Eb.ew h)
  have eww := ew_wlk (k := k) (r := r) (o := o) ew
  intro a z0 z1
  by_cases e : a = 114
  · subst e
    funext j
    by_cases e6 : j = 6
    · rw [e6, mu_eq, pB_j (by omega), nx_6, wlk_o (by omega) (by omega) (by omega)]
    · rw [mu_ne (by omega), wlk_o (by omega) (by omega) (by omega), h 114 (by omega) (by omega)]
      by_cases e13 : j = 13
      · rw [e13, pB_13, pB_13]
      · rw [pB_j e13, pB_j e13, nx_j e6, wlk_o (by omega) (by omega) (by omega)]
  · rw [mu_rw e, pB_o e, nx_o e]
    by_cases c6 : a = 116
    · subst c6; exact eww.2.2.2.2.1
    · by_cases c7 : a = 117
      · subst c7; exact eww.2.2.2.2.2.1
      · by_cases c1 : a = 121
        · subst c1; exact eww.2.2.2.2.2.2
        · rw [wlk_row c6 c7 c1, wlk_row c6 c7 c1, h a z0 z1, pB_o e]
theorem eb_rest {P y : iv_M} {x : Int} (h : Eb (pB P x) y) : Eb (pB (nx P) x) (mu y 114 6 (P 114 6 + 1)) := by
  intro a z0 z1
  by_cases e : a = 114
  · subst e
    funext j
    by_cases e6 : j = 6
    · rw [e6, mu_eq, pB_j (by omega), nx_6]
    · rw [mu_ne (by omega), h 114 (by omega) (by omega)]
      by_cases e13 : j = 13
      · rw [e13, pB_13, pB_13]
      · rw [pB_j e13, pB_j e13, nx_j e6]
  · rw [mu_rw e, pB_o e, nx_o e, h a z0 z1, pB_o e]
def Rfr (s x : iv_M) : Prop := (∀ a, a ≠ 113 → (a < 114 ∨ 131 < a) → a ≠ 146 → a ≠ 147 → x a = s a) ∧ ∀ j, j ≠ 26 → j ≠ 27 → j ≠ 48 → x 113 j = s 113 j
theorem Rfr.refl {s : iv_M} : Rfr s s := ⟨fun _ _ _ _ _ => rfl, fun _ _ _ _ => rfl⟩
theorem Rfr.trans {s x y : iv_M} (h : Rfr s x) (h2 : Rfr x y) : Rfr s y := ⟨fun a z0 z1 z2 z3 => by rw [h2.1 a z0 z1 z2 z3, h.1 a z0 z1 z2 z3], fun j z0 z1 z2 => by rw [h2.2 j z0 z1 z2, h.2 j z0 z1 z2]⟩
theorem Scr.rfr {s x : iv_M} (h : Scr s x) : Rfr s x := ⟨fun a z0 _ z2 z3 => h.1 a z0 z2 z3, h.2⟩
theorem mu_rfr {s x : iv_M} {a : Nat} {i v : Int} (h : Rfr s x) (ha : 114 ≤ a ∧ a ≤ 131) : Rfr s (mu x a i v) := ⟨fun c z0 z1 z2 z3 => by rw [mu_rw (by omega), h.1 c z0 z1 z2 z3], fun j z0 z1 z2 => by rw [mu_rw (by omega), h.2 j z0 z1 z2]⟩
theorem wlk_rfr {s x : iv_M} {k r o : Int} (h : Rfr s x) : Rfr s (wlk x k r o) := ⟨fun c z0 z1 z2 z3 => by rw [wlk_row (by omega) (by omega) (by omega), h.1 c z0 z1 z2 z3], fun j z0 z1 z2 => by rw [wlk_row (by omega) (by omega) (by omega), h.2 j z0 z1 z2]⟩
theorem rfr_refL {s y P : iv_M} {m x : Int} {ru : Option (List (List (Int × Int)))} (hP : WHm m P) (hE : Eb (pB P x) y) (hR : RUO s (P 114 12) ru) (hf : Rfr s y) : RefL y ru := by
  have e4 := hE 114 (by omega) (by omega)
  refine ⟨eb_Wf hE (ew_Wf Ew_pB hP.1), ?_, ?_⟩
  · rw [e4, pB_j (by omega)]; exact hP.2.1.1
  · rw [e4, pB_j (by omega)]
    exact RUO_ext (fun a ha => hf.1 a (by omega) (by omega) (by omega) (by omega)) hR
theorem draw_r {N f : Nat} {s x B : iv_M} {n i m k : Int} {S : iv_M × Int × Int} {ru : Option (List (List (Int × Int)))} {kx : iv_M → Int → Option (Int × iv_M)} (hN : 1000 ≤ N) (hS : Dok m B k S) (hm : m ≤ 100000) (hk : k ≤ 100) (hR : RUO s (B 114 12) ru) (hE : Eb (pB S.1 S.2.1) x) (hf : Rfr s x) (i0 : 0 ≤ i) (i1 : i < n) (n1 : n ≤ 60) : ∃ x', FX12_drawnNights_l4 N 113 n kx (f + 1) x S.2.2 i = FX12_drawnNights_l4 N 113 n kx f x' (dr1 ru S).2.2 (i + 1) ∧ Eb (pB (dr1 ru S).1 (dr1 ru S).2.1) x' ∧ Rfr s x' := by
  obtain ⟨s1, s2, s3, s4⟩ := hS
  have e12 : S.1 114 12 = B 114 12 := s1.2.2.1 12 (by omega)
  have a6 := s1.1.2.1.2.2.2.1
  have rl : ∀ y v, Eb (pB S.1 v) y → Rfr s y → RefL y ru := fun y v hy hfy => rfr_refL (s := s) s1.1 hy (by rw [e12]; exact hR) hfy
  have okl_y : ∀ y v, Eb (pB S.1 v) y → okl ru y 204 = okl ru S.1 204 := fun y v hy => by rw [eb_okl hy, er_okl Er_pB]
  obtain ⟨y, c1, c2⟩ := FX12_canNow_ok (N := N) (s := x) hN (rl x _ hE hf)
  rw [okl_y x _ hE] at c1
  have hEy : Eb (pB S.1 S.2.1) y := Eb.trans hE c2.eb
  have hfy : Rfr s y := hf.trans c2.rfr
  have y4 := hEy 114 (by omega) (by omega)
  have y6 : y 114 6 = S.1 114 6 := by rw [y4, pB_j (by omega)]
  rw [FX12_drawnNights_l4, if_neg (by omega), c1, Option.bind_some]
  unfold dr1
  by_cases e : (okl ru S.1 204).length = 0
  · rw [if_pos e]
    refine ⟨mu y 114 6 (S.1 114 6 + 1), ?_, eb_rest hEy, mu_rfr hfy (by omega)⟩
    dsimp only
    rw [if_pos (by omega)]
    unfold FX12_drawnNights_b37
    simp only [Nat.reduceAdd]
    rw [rd_ok (by omega) (by omega), Option.bind_some, y6, w32_id (x := S.1 114 6 + 1) (by omega) (by omega), wr_ok (by omega) (by omega), Option.bind_some, w32_id (by omega) (by omega)]
  · rw [if_neg e]
    obtain ⟨p1, p2, p3, p4⟩ := dr_pick (ru := ru) (P := S.1) (x := S.2.1) e
    obtain ⟨k, hk⟩ : ∃ k, k = drS S.2.1 / 65536 % ((okl ru S.1 204).length : Int) := ⟨_, rfl⟩
    obtain ⟨c, hc⟩ : ∃ c, c = (okl ru S.1 204).getD k.toNat 0 := ⟨_, rfl⟩
    rw [← hk] at p2 p3 p4
    rw [← hc] at p4
    obtain ⟨c0, c1', c2', c3, c4⟩ := okc_walk p4
    obtain ⟨z, hz⟩ : ∃ z, z = mu y 114 13 (drS S.2.1) := ⟨_, rfl⟩
    have hEz : Eb (pB S.1 (drS S.2.1)) z := fun a z0 z1 => by
      rw [hz]
      by_cases e4 : a = 114
      · subst e4
        funext j
        by_cases e13 : j = 13
        · rw [e13, mu_eq, pB_13]
        · rw [mu_ne (by omega), y4, pB_j e13, pB_j e13]
      · rw [mu_rw e4, hEy a z0 z1, pB_o e4, pB_o e4]
    have hfz : Rfr s z := by rw [hz]; exact mu_rfr hfy (by omega)
    obtain ⟨u, d1, d2, d3⟩ := FX12_codeAt_ok (N := N) (s := z) (k := k) hN (rl z _ hEz hfz) p2
    rw [okl_y z _ hEz] at d1
    have hgd : (okl ru S.1 204).getD k.toNat (-1) = c := by rw [hc]; exact gd_def (by omega)
    rw [hgd] at d1
    have hEu : Eb (pB S.1 (drS S.2.1)) u := Eb.trans hEz d2.eb
    have hfu : Rfr s u := hfz.trans d2.rfr
    have hok : okc ru u c := (eb_okc hEu c).mpr ((er_okc Er_pB c).mpr c4)
    have hdo := FX12_does_ok (N := N) (s := u) (ru := ru) (rl u _ hEu hfu).1 c0 (by omega) hok
    have hwk : wkc S.1 c = wlk S.1 (cK c) (cR c) (cO c) := rfl
    have u6 : wlk u (cK c) (cR c) (cO c) 114 6 = S.1 114 6 := by rw [wlk_o (by omega) (by omega) (by omega), hEu 114 (by omega) (by omega), pB_j (by omega)]
    refine ⟨mu (wlk u (cK c) (cR c) (cO c)) 114 6 (S.1 114 6 + 1), ?_, ?_, mu_rfr (wlk_rfr hfu) (by omega)⟩
    · dsimp only
      rw [if_neg (by omega)]
      unfold FX12_draws
      simp only [Nat.reduceAdd]
      have y13 : y 114 13 = S.2.1 := by rw [y4, pB_13]
      have ex : w32 (Int.tmod (w64 (w64 (S.2.1 * 1103515245) + 12345)) 2147483648) = drS S.2.1 := by
        rw [w64_id (x := S.2.1 * 1103515245) (by omega) (by omega), w64_id (by omega) (by omega), tmod_pos (by omega)]
        exact w32_id (by omega) (by omega)
      rw [rd_ok (by omega) (by omega), Option.bind_some, y13, ex, wr_ok (by omega) (by omega), Option.bind_some, rd_ok (by omega) (by omega), Option.bind_some, mu_eq, if_neg (by omega), Option.bind_some]
      dsimp only
      have ek : Int.tmod (dv32 (drS S.2.1) 65536) ((okl ru S.1 204).length : Int) = k := by
        rw [dv32_pos p1.1 p1.2 (by omega), tmod_pos (Int.ediv_nonneg p1.1 (by omega)), ← hk]
      rw [ek, ← hz, d1, Option.bind_some]
      dsimp only
      rw [hdo, Option.bind_some]
      unfold FX12_drawnNights_b37
      simp only [Nat.reduceAdd]
      rw [rd_ok (by omega) (by omega), Option.bind_some, u6, w32_id (x := S.1 114 6 + 1) (by omega) (by omega), wr_ok (by omega) (by omega), Option.bind_some, w32_id (x := S.2.2 + 1) (by omega) (by omega), w32_id (by omega) (by omega)]
    · show Eb (pB (nx (wkc S.1 _)) (drS S.2.1)) _
      rw [← hk, ← hc, hwk]
      exact eb_step hEu
theorem drawnNights_ok {N : Nat} {s B : iv_M} {n m v : Int} {ru : Option (List (List (Int × Int)))} (hN : 1000 ≤ N) (hB : WHm m B) (hm : m ≤ 50000) (hO : OZ B) (hE : Eb (pB B v) s) (hR : RUO s (B 114 12) ru) (v0 : 0 ≤ v) (v1 : v < 2147483648) (n0 : 0 ≤ n) (n1 : n ≤ 60) : ∃ x, FX12_drawnNights N s 113 n = some ((drn ru (B, v, 0) n.toNat).2.2, x) ∧ (∀ j, x 114 j = pB B (drn ru (B, v, 0) n.toNat).2.1 114 j) ∧ (∀ a, 115 ≤ a → a ≤ 131 → x a = (drn ru (B, v, 0) n.toNat).1 a) ∧ Rfr s x := by
  have al := fun k => drn_ok (ru := ru) hB hO v0 v1 k
  have a6 := hB.2.1.2.2.2.1
  obtain ⟨y, y1, y2⟩ := loop_up (L := fun m (z : iv_M × Int) i => FX12_drawnNights_l4 N 113 n (fun (s_4402 : iv_M) (x4403_2 : Int) => ((rd s_4402 114 14 6).bind fun v_4404 => ((wr s_4402 114 14 6 (w32 (v_4404 - n))).bind fun s_4405 => (some (x4403_2, s_4405))))) m z.1 z.2 i) (k := fun z => (fun (s_4402 : iv_M) (x4403_2 : Int) => ((rd s_4402 114 14 6).bind fun v_4404 => ((wr s_4402 114 14 6 (w32 (v_4404 - n))).bind fun s_4405 => (some (x4403_2, s_4405))))) z.1 z.2) (hi := n) (fun i z => 0 ≤ i ∧ z.2 = (drn ru (B, v, 0) i.toNat).2.2 ∧ Eb (pB (drn ru (B, v, 0) i.toNat).1 (drn ru (B, v, 0) i.toNat).2.1) z.1 ∧ Rfr s z.1) (fun m z hz => by
      show FX12_drawnNights_l4 N 113 n _ (m + 1) z.1 z.2 n = _
      rw [FX12_drawnNights_l4, if_pos (by omega)]) (fun f i z hz hi => by
      obtain ⟨z0, z1, z2, z3⟩ := hz
      have hd := al i.toNat
      rw [Int.toNat_of_nonneg z0] at hd
      obtain ⟨x', g1, g2, g3⟩ := draw_r (N := N) (f := f) (n := n) (kx := (fun (s_4402 : iv_M) (x4403_2 : Int) => ((rd s_4402 114 14 6).bind fun v_4404 => ((wr s_4402 114 14 6 (w32 (v_4404 - n))).bind fun s_4405 => (some (x4403_2, s_4405)))))) hN hd (by omega) (by omega) hR z2 z3 z0 hi n1
      have hst : (i + 1).toNat = i.toNat + 1 := by omega
      refine ⟨(x', (dr1 ru (drn ru (B, v, 0) i.toNat)).2.2), ?_, by omega, ?_, ?_, g3⟩
      · show FX12_drawnNights_l4 N 113 n _ (f + 1) z.1 z.2 i = FX12_drawnNights_l4 N 113 n _ f x' _ (i + 1)
        rw [z1]; exact g1
      · rw [hst]; rfl
      · rw [hst]; exact g2) N 0 (s, 0) ⟨by omega, rfl, hE, Rfr.refl⟩ n0 (by omega)
  obtain ⟨_, y3, y4, y5⟩ := y1
  have hd := al n.toNat
  rw [Int.toNat_of_nonneg n0] at hd
  have e4 := y4 114 (by omega) (by omega)
  have h6 : y.1 114 6 = B 114 6 + n := by rw [e4, pB_j (by omega)]; exact hd.2.2.2
  refine ⟨mu y.1 114 6 (B 114 6), ?_, fun j => ?_, fun a z0 z1 => ?_, mu_rfr y5 (by omega)⟩
  · unfold FX12_drawnNights
    simp only [Nat.reduceAdd]
    refine y2.trans ?_
    show ((rd y.1 114 14 6).bind fun v_4404 => ((wr y.1 114 14 6 (w32 (v_4404 - n))).bind fun s_4405 => (some (y.2, s_4405)))) = _
    rw [rd_ok (by omega) (by omega), Option.bind_some, h6, w32_id (by omega) (by omega), wr_ok (by omega) (by omega), Option.bind_some, y3, show B 114 6 + n - n = B 114 6 by omega]
  · by_cases c6 : j = 6
    · rw [c6, mu_eq, pB_j (by omega)]
    · rw [mu_ne (by omega), e4]
      by_cases c13 : j = 13
      · rw [c13, pB_13, pB_13]
      · rw [pB_j c13, pB_j c13, hd.1.2.2.1 j c6]
  · rw [mu_rw (by omega), y4 a (by omega) z1, pB_o (by omega)]
def tsel (w : Int) (T : Int × Int × Int × Int) : Int := if w = 0 then T.2.1 else if w = 2 then T.2.2.2 else T.2.2.1
theorem drawn_r {N : Nat} {s B : iv_M} {k n c d w m v x6 : Int} {ru : Option (List (List (Int × Int)))} {kx : iv_M → Int → Option (Int × iv_M)} (hN : 1000 ≤ N) (hB : WHm m B) (hm : m ≤ 50000) (hO : OZ B) (hE : Eb (pB B v) s) (hR : RUO s (B 114 12) ru) (v0 : 0 ≤ v) (v1 : v < 2147483648) (k0 : 0 ≤ k) (k1 : k ≤ 10) (n0 : 0 ≤ n) (n1 : n ≤ 60) (c0 : 0 ≤ c) (c1 : c < B 114 2) (d0 : 0 ≤ d) (w0 : 0 ≤ w ∧ w ≤ 2) (hk : ∀ r, 0 ≤ r → r < 12 → s 154 (2 * r) = B 116 r ∧ s 154 (2 * r + 1) = B 117 r) : ∃ x, FX12_drawn_l86 N 113 k n c d w x6 kx N s 0 0 = kx x (tsel w (tmd ru B n.toNat c d v k.toNat)) ∧ Eb (pB B (tmd ru B n.toNat c d v k.toNat).1) x ∧ Rfr s x := by
  have al := fun j => tmd_ok (ru := ru) (n := n.toNat) (c := c) (d := d) hB hO v0 v1 (by omega) j
  obtain ⟨y, y1, y2⟩ := loop_up (L := fun m (z : iv_M × Int) i => FX12_drawn_l86 N 113 k n c d w x6 kx m z.1 z.2 i) (k := fun z => kx z.1 z.2) (hi := k) (fun i z => 0 ≤ i ∧ z.2 = tsel w (tmd ru B n.toNat c d v i.toNat) ∧ Eb (pB B (tmd ru B n.toNat c d v i.toNat).1) z.1 ∧ Rfr s z.1) (fun m z hz => by
      show FX12_drawn_l86 N 113 k n c d w x6 kx (m + 1) z.1 z.2 k = kx z.1 z.2
      rw [FX12_drawn_l86, if_pos (by omega)]) (fun f i z hz hi => by
      obtain ⟨z0, z1, z2, z3⟩ := hz
      obtain ⟨i1, i2, i3, i4⟩ := al i.toNat
      have hst : (i + 1).toNat = i.toNat + 1 := by omega
      obtain ⟨T, hT⟩ : ∃ T, T = tmd ru B n.toNat c d v i.toNat := ⟨_, rfl⟩
      rw [← hT] at z1 z2 i1 i2 i3 i4
      obtain ⟨x, b1, b2, b3, b4⟩ := drawnNights_ok (N := N) (s := z.1) (B := B) (ru := ru) (n := n) hN hB hm hO z2 (RUO_ext (fun a ha => z3.1 a (by omega) (by omega) (by omega) (by omega)) hR) i1.1 i1.2 n0 n1
      obtain ⟨S, hS⟩ : ∃ S, S = drn ru (B, T.1, 0) n.toNat := ⟨_, rfl⟩
      rw [← hS] at b1 b2 b3
      obtain ⟨q1, q2, q3, q4⟩ := drn_ok (ru := ru) hB hO i1.1 i1.2 n.toNat
      rw [← hS] at q1 q2 q3 q4
      have hts : tmd ru B n.toNat c d v (i + 1).toNat = (S.2.1, T.2.1 + mm S.1, T.2.2.1 + dtd S.1 c d, T.2.2.2 + S.2.2) := by
        rw [hst, tmd, ← hT, ← hS]
      have ewx : Ew S.1 x := by
        have e0 := q1.2.2.1 0 (by omega)
        have e1 := q1.2.2.1 1 (by omega)
        have e2 := q1.2.2.1 2 (by omega)
        exact ⟨by rw [b2 0, pB_j (by omega), e0], by rw [b2 1, pB_j (by omega), e1], by rw [b2 2, pB_j (by omega), e2], b3 115 (by omega) (by omega), b3 116 (by omega) (by omega), b3 117 (by omega) (by omega), b3 121 (by omega) (by omega)⟩
      have hWx : Wf x := ew_Wf ewx q1.1.1
      have m1 := mm_bd S.1
      have m2 := dtd_01 S.1 c d
      have lb : ∀ x', Eb x x' → x' 154 = x 154 → Rfr s x' → ∃ y, FX12_laysFloor N x' 113 154 0 = some y ∧ Eb (pB B S.2.1) y ∧ Rfr s y := fun x' he h54 hfx => by
        obtain ⟨y, l1, l2, l3⟩ := laid_back (N := N) (s := pB B S.2.1) (x := x') (P := pB S.1 S.2.1) (m := m + n) (by omega) (ew_Wf Ew_pB hB.1) (OZ_pB hO) (Lok_pB (by rw [Int.toNat_of_nonneg n0] at q1; exact q1) q2.1 q2.2) (fun j => by rw [he 114 (by omega) (by omega)]; exact b2 j) (fun a y0 y1 => by rw [he a (by omega) y1, b3 a y0 y1, pB_o (by omega)]) (fun r r0 r1 => by
          rw [h54, b4.1 154 (by omega) (by omega) (by omega) (by omega), z3.1 154 (by omega) (by omega) (by omega) (by omega), pB_o (by omega), pB_o (by omega)]
          exact hk r r0 r1)
        exact ⟨y, l1, l2, ⟨fun a y0 y1 y2 y3 => by rw [l3 a y1, hfx.1 a y0 y1 y2 y3], fun j y0 y1 y2 => by rw [l3 113 (by omega), hfx.2 j y0 y1 y2]⟩⟩
      have fin : ∀ x' u, Eb x x' → x' 154 = x 154 → Rfr s x' → tsel w T + u = tsel w (tmd ru B n.toNat c d v (i + 1).toNat) → 0 ≤ u → u ≤ 100 → ∃ z' : iv_M × Int, FX12_drawn_b139 N x' 113 k n c d w x6 i u z.2 (fun s x2 x3 => FX12_drawn_l86 N 113 k n c d w x6 kx f s x2 x3) kx = FX12_drawn_l86 N 113 k n c d w x6 kx f z'.1 z'.2 (i + 1) ∧ 0 ≤ i + 1 ∧ z'.2 = tsel w (tmd ru B n.toNat c d v (i + 1).toNat) ∧ Eb (pB B (tmd ru B n.toNat c d v (i + 1).toNat).1) z'.1 ∧ Rfr s z'.1 := by
        intro x' u he h54 hfx hu u0 u1
        obtain ⟨y, l1, l2, l3⟩ := lb x' he h54 hfx
        refine ⟨(y, tsel w (tmd ru B n.toNat c d v (i + 1).toNat)), ?_, by omega, rfl, by rw [hts]; exact l2, l3⟩
        unfold FX12_drawn_b139
        simp only [Nat.reduceAdd]
        have hb : 0 ≤ tsel w T ∧ tsel w T ≤ 1000 := by unfold tsel; split <;> (try split) <;> omega
        rw [l1, Option.bind_some, z1, w32_id (x := tsel w T + u) (by omega) (by omega), hu, w32_id (by omega) (by omega)]
      have hfx : Rfr s x := z3.trans b4
      show ∃ x' : iv_M × Int, FX12_drawn_l86 N 113 k n c d w x6 kx (f + 1) z.1 z.2 i = FX12_drawn_l86 N 113 k n c d w x6 kx f x'.1 x'.2 (i + 1) ∧ (0 ≤ i + 1 ∧ x'.2 = tsel w (tmd ru B n.toNat c d v (i + 1).toNat) ∧ Eb (pB B (tmd ru B n.toNat c d v (i + 1).toNat).1) x'.1 ∧ Rfr s x'.1)
      rw [FX12_drawn_l86, if_neg (by omega), b1, Option.bind_some]
      dsimp only
      by_cases cw : w = 0
      · rw [if_pos cw, FX12_mismatches_ok (by omega) hWx.1 hWx.2.1, Option.bind_some]
        have sc := scr_fsM (s := x) (j := 64)
        have u1 : tsel w T + mm x = tsel w (tmd ru B n.toNat c d v (i + 1).toNat) := by rw [hts, ew_mm ewx]; unfold tsel; rw [if_pos cw, if_pos cw]
        have u2 : 0 ≤ mm x := by rw [ew_mm ewx]; omega
        have u3 : mm x ≤ 100 := by rw [ew_mm ewx]; omega
        have u4 : fsM x 64 154 = x 154 := sc.1 154 (by omega) (by omega) (by omega)
        have u5 := sc.eb
        have u6 := hfx.trans sc.rfr
        dsimp only
        generalize fsM x 64 = xx at *
        exact fin xx (mm x) u5 u4 u6 u1 u2 u3
      · rw [if_neg cw]
        by_cases cw2 : w = 2
        · rw [if_pos cw2]
          refine fin x S.2.2 Eb.refl rfl hfx ?_ (by omega) (by omega)
          rw [hts]; unfold tsel; rw [if_neg cw, if_pos cw2, if_neg cw, if_pos cw2]
        · have e2 := ewx.2.2.1
          have e42 : S.1 114 2 = B 114 2 := q1.2.2.1 2 (by omega)
          have hdx : dtd x c d = dtd S.1 c d := by
            have htd : ∀ dd, td x c dd = td S.1 c dd := fun dd => by
              have hkd := ew_kd ewx
              have hkn : kdn x = kdn S.1 := by funext p r; unfold kdn; rw [hkd, ew_nb ewx]
              unfold td; rw [hkd, hkn, ew_nb ewx, ewx.2.2.2.2.1, ewx.2.2.2.2.2.2]
            unfold dtd; rw [htd, htd, htd, htd]
          rw [if_neg cw2, FX12_areDoorToDoor_ok (by omega) hWx c0 (by rw [e2, e42]; exact c1) d0, Option.bind_some, hdx]
          have ht : tsel w T + dtd S.1 c d = tsel w (tmd ru B n.toNat c d v (i + 1).toNat) := by
            rw [hts]; unfold tsel; rw [if_neg cw, if_neg cw2, if_neg cw, if_neg cw2]
          by_cases cd : dtd S.1 c d = 0
          · rw [if_pos cd]
            exact fin x 0 Eb.refl rfl hfx (by rw [← ht, cd]) (by omega) (by omega)
          · rw [if_neg cd]
            exact fin x 1 Eb.refl rfl hfx (by rw [← ht]; congr 1; omega) (by omega) (by omega)) N 0 (s, 0) ⟨by omega, by show (0 : Int) = tsel w (v, 0, 0, 0); unfold tsel; split <;> (try split) <;> rfl, hE, Rfr.refl⟩ k0 (by omega)
  obtain ⟨_, y3, y4, y5⟩ := y1
  have y2' : FX12_drawn_l86 N 113 k n c d w x6 kx N s 0 0 = kx y.1 y.2 := y2
  rw [y3] at y2'
  exact ⟨y.1, y2', y4, y5⟩
theorem Me_tr {s Y : iv_M} (h : MeS s ∧ MeR s) (hE : Er s Y) (h0 : Y 0 15 = s 0 15) (h81 : Y 81 7 = s 81 7 ∧ Y 81 8 = s 81 8) (hr : ∀ a, (140 ≤ a ∧ a ≤ 144) ∨ (3 ≤ a ∧ a ≤ 8) ∨ a = 64 ∨ a = 80 ∨ a = 96 ∨ a = 97 → Y a = s a) : MeS Y ∧ MeR Y := by
  obtain ⟨⟨b1, b2, b3⟩, ⟨c1, c2, c3⟩⟩ := h
  refine ⟨⟨by rw [hr 64 (by omega)]; exact b1, by rw [hr 64 (by omega), h0]; exact b2, fun q => ?_⟩, ⟨by rw [h81.1]; exact c1, by rw [h81.1, h0]; exact c2, fun q => ?_⟩⟩
  · rw [hr 64 (by omega), h0] at q
    exact SOK_er hE (hr 64 (by omega)) (hr 80 (by omega)) (fun a ha => (hr a (by omega)).symm) (b3 q)
  · rw [h81.1, h0] at q
    have hR := c3 q
    intro ru' hru'
    have hre : RUO s (s 114 12) ru' := by
      rw [hE.sc.2.2.2.2.2.2.2.2.2] at hru'
      exact RUO_ext (fun a ha => (hr a (by omega)).symm) hru'
    have hrl : ∀ n, rowsL ru' n Y = rowsL ru' n s := fun n => er_rowsL n s Y hE
    have := hR ru' hre
    rw [h81.2, hr 97 (by omega), hr 96 (by omega), hrl]
    exact this
theorem ct_drawn {t : Int} {N : Nat} {s : iv_M} {k n c d w : Int} (hN : 1000 ≤ N) (h : Inv t s) (t0 : 0 ≤ t) (t1 : t ≤ 1000) : ∃ a s1 s2, FX11_drawn N s 0 k n c d w = some (a, s1) ∧ FX12_drawn N s1 113 k n c d w = some (a, s2) ∧ Inv (t + 1) s2 := by
  have hI := h
  obtain ⟨h1, h2, h3, h4, h5, h6, h7, h8, h9, h10⟩ := h
  obtain ⟨n1, n2, n3⟩ := now_ne h1
  have hn := (now_HQ h1).2.1
  have hq : (s 0 4).toNat = now s := rfl
  obtain ⟨hW, ⟨_, _, _, _, _, _, _, _, _, p12, p13, _⟩, _⟩ := id h3
  have h12 := hW.1.2.2.2.2.2.1
  by_cases C : (1 ≤ k ∧ k ≤ 10) ∧ (1 ≤ n ∧ n ≤ 60) ∧ (0 ≤ c ∧ c < s 114 2) ∧ (0 ≤ d ∧ d < s 114 2) ∧ c ≠ d ∧ (0 ≤ w ∧ w ≤ 2)
  rotate_left
  · refine ⟨-1, s, s, ?_, ?_, HR1_mono (by omega) hI⟩
    · unfold FX11_drawn FX11_drawn_b33 FX11_drawn_b64
      rw [hq]
      by_cases k0 : k < 1
      · rw [if_pos k0]
      rw [if_neg k0]
      by_cases k1 : 10 < k
      · rw [if_pos k1]
      rw [if_neg k1]
      by_cases e0 : n < 1
      · rw [if_pos e0]
      rw [if_neg e0]
      by_cases e1 : 60 < n
      · rw [if_pos e1]
      rw [if_neg e1]
      by_cases w0 : w < 0
      · rw [if_pos w0]
      rw [if_neg w0]
      by_cases w1 : w ≤ 2
      · rw [if_pos w1, FX2_isRoom_ok h2.2.1.1, Option.bind_some]
        by_cases r : 0 ≤ c ∧ c < s 114 2
        · rw [if_pos r, if_neg (by omega), FX2_isRoom_ok h2.2.1.1, Option.bind_some]
          by_cases r2 : 0 ≤ d ∧ d < s 114 2
          · rw [if_pos r2, if_neg (by omega), if_pos (by
              by_cases e : c = d
              · exact e
              · exact absurd ⟨⟨by omega, by omega⟩, ⟨by omega, by omega⟩, r, r2, e, by omega, w1⟩ C)]
          · rw [if_neg r2, if_pos rfl]
        · rw [if_neg r, if_pos rfl]
      · rw [if_neg w1]
    · unfold FX12_drawn FX12_drawn_b60
      rw [FX12_in_ok, Option.bind_some]
      by_cases k0 : 1 ≤ k ∧ k ≤ 10
      · rw [if_pos k0, if_neg (by omega), FX12_in_ok, Option.bind_some]
        by_cases e0 : 1 ≤ n ∧ n ≤ 60
        · rw [if_pos e0, if_neg (by omega), FX12_isRoom_ok hW.1, Option.bind_some]
          by_cases r : 0 ≤ c ∧ c < s 114 2
          · rw [if_pos r, if_neg (by omega), FX12_isRoom_ok hW.1, Option.bind_some]
            by_cases r2 : 0 ≤ d ∧ d < s 114 2
            · rw [if_pos r2, if_neg (by omega)]
              by_cases e : c = d
              · rw [if_pos e]
              · rw [if_neg e, FX12_in_ok, Option.bind_some, if_neg (show ¬ (0 ≤ w ∧ w ≤ 2) from fun z => C ⟨k0, e0, r, r2, e, z⟩), if_pos rfl]
            · rw [if_neg r2, if_pos rfl]
          · rw [if_neg r, if_pos rfl]
        · rw [if_neg e0, if_pos rfl]
      · rw [if_neg k0, if_pos rfl]
  obtain ⟨c1, c2, c3, c4, c5, c6⟩ := C
  obtain ⟨ru, hR⟩ := Rl_RUO h5 p12
  obtain ⟨o3, e1, e2⟩ := ruleIn_ok (N := N) hq h2.1.2.2.2.2.1 h5.2.2.2.1 h5.2.2.1 hR
  obtain ⟨s1, d1, d2, d3, d4, d5, d6⟩ := drawTimes_ok (N := N) (q := now s) (s := s) (B := s) (k := k) (n := n) (c := c) (d := d) hN hn h2 (WH_m.mp h3) (by omega) h10 e2 (by omega) c1.2 (by omega) c2.2 c3.1 c3.2
  obtain ⟨T, hT⟩ : ∃ T, T = tmd ru s n.toNat c d (s 114 13) k.toNat := ⟨_, rfl⟩
  rw [← hT] at d2 d3 d4
  have hcl : FX11_drawn N s 0 k n c d w = some (tsel w T, s1) := by
    unfold FX11_drawn FX11_drawn_b122 tsel
    simp only [Nat.reduceAdd, Nat.zero_add]
    rw [hq, if_neg (by omega), if_neg (by omega), if_neg (by omega), if_neg (by omega), if_neg (by omega), if_pos c6.2, FX2_isRoom_ok h2.2.1.1, Option.bind_some, if_pos c3, if_neg (by omega), FX2_isRoom_ok h2.2.1.1, Option.bind_some, if_pos c4, if_neg (by omega), if_neg c5, e1, Option.bind_some, d1, Option.bind_some, d2, d3, d4]
    by_cases w0 : w = 0
    · rw [if_pos w0, if_pos w0]
    · rw [if_neg w0, if_neg w0]
      by_cases w1 : w = 1
      · rw [if_pos w1, if_neg (by omega)]
      · rw [if_neg w1, if_pos (by omega)]
  have hb : Eb s s1 := fun a z0 z1 => d6 a (by omega) (by omega)
  have e114 := hb 114 (by omega) (by omega)
  obtain ⟨K, hK⟩ : ∃ K, K = flF s1 154 0 12 := ⟨_, rfl⟩
  have Ko : ∀ a, a ≠ 154 → K a = s1 a := fun a ha => by rw [hK, flF_o ha]
  have hbK : Eb (pB s (s 114 13)) K := fun a z0 z1 => by
    have : pB s (s 114 13) = s := mu_same
    rw [this, Ko a (by omega), hb a z0 z1]
  obtain ⟨X, x1, x2, x3⟩ := drawn_r (N := N) (s := K) (B := s) (ru := ru) (k := k) (n := n) (c := c) (d := d) (w := w) (v := s 114 13) (x6 := s 114 13) (kx := fun (s_4442 : iv_M) (x4443_7 : Int) => ((wr s_4442 114 14 13 (s 114 13)).bind fun s_4444 => (some (x4443_7, s_4444)))) hN (WH_m.mp h3) (by omega) h10 hbK (RUO_ext (fun a ha => by rw [Ko a (by omega), d6 a (by omega) (by omega)]) hR) p13.1 p13.2 (by omega) c1.2 (by omega) c2.2 c3.1 c3.2 c4.1 c6 (fun r r0 r1 => by
    rw [hK]
    have := flF_c (s := s1) (q := 154) (b := 0) r0 r1
    rw [show (0 : Int) + 2 * r = 2 * r by omega, hb 116 (by omega) (by omega), hb 117 (by omega) (by omega)] at this
    exact this)
  rw [← hT] at x1 x2
  have hrf : FX12_drawn N s1 113 k n c d w = some (tsel w T, mu X 114 13 (s 114 13)) := by
    unfold FX12_drawn
    simp only [Nat.reduceAdd]
    rw [FX12_in_ok, Option.bind_some, if_pos c1, if_neg (by omega), FX12_in_ok, Option.bind_some, if_pos c2, if_neg (by omega), FX12_isRoom_ok (eb_Wf hb hW).1, Option.bind_some, e114, if_pos c3, if_neg (by omega), FX12_isRoom_ok (eb_Wf hb hW).1, Option.bind_some, e114, if_pos c4, if_neg (by omega), if_neg c5, FX12_in_ok, Option.bind_some, if_pos c6, if_neg (by omega), rd_ok (by omega) (by omega), Option.bind_some, e114, FX12_fillsFloor_ok (m := 24) (by omega) (by omega) (by decide) (by omega) (by omega), Option.bind_some, ← hK, x1]
    show ((wr X 114 14 13 (s 114 13)).bind fun s_4444 => (some (tsel w T, s_4444))) = _
    rw [wr_ok (by omega) (by omega), Option.bind_some]
  have hEY : Eb s (mu X 114 13 (s 114 13)) := fun a z0 z1 => by
    by_cases e4 : a = 114
    · subst e4
      funext j
      by_cases e13 : j = 13
      · rw [e13, mu_eq]
      · rw [mu_ne (by omega), x2 114 (by omega) (by omega), pB_j e13]
    · rw [mu_rw e4, x2 a z0 z1, pB_o e4]
  have far : ∀ a, a ≠ 113 → (a < 114 ∨ 131 < a) → a ≠ 146 → a ≠ 147 → a ≠ 154 → mu X 114 13 (s 114 13) a = s1 a := fun a z0 z1 z2 z3 z4 => by rw [mu_rw (by omega), x3.1 a z0 z1 z2 z3, Ko a z4]
  have h0 : s1 0 = s 0 := d6 0 (by omega) (by omega)
  have h15 := h9.1
  refine ⟨_, s1, _, hcl, hrf, ?_⟩
  refine Inv_bk (s1 := s1) hI (by omega) (fun i _ => by rw [h0]) (by rw [h0]; omega) (fun a ha => d6 a (by omega) (by omega)) (HR_ext (fun a z0 z1 => d6 a (by omega) (by omega)) h2) (WH_mono (by omega) h3) h5.2.2.2.1 h10 (fun a ha => far a (by omega) (by omega) (by omega) (by omega) (by omega)) (fun i hi => by rw [mu_rw (by omega), x3.2 i (by omega) (by omega) (by omega), Ko 113 (by omega)]) hEY (Me_tr ⟨h7, h8⟩ (Er.of_eb hEY) (by rw [far 0 (by omega) (by omega) (by omega) (by omega) (by omega), h0]) ⟨by rw [far 81 (by omega) (by omega) (by omega) (by omega) (by omega), d5 7 (by omega) (by omega) (by omega) (by omega)], by rw [far 81 (by omega) (by omega) (by omega) (by omega) (by omega), d5 8 (by omega) (by omega) (by omega) (by omega)]⟩ (fun a ha => by rw [far a (by omega) (by omega) (by omega) (by omega) (by omega), d6 a (by omega) (by omega)]))
