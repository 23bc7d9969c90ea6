-- THE ALMANAC IS FOLLOWED
def fol (ru : Option (List (List (Int × Int)))) (B : iv_M) : Nat → iv_M × Int
  | 0 => (B, 0)
  | n + 1 => if lwf ru (fol ru B n).1 (B 124 n) (B 125 n) (B 126 n) = 0 then (wlk (kpB (fol ru B n).1) (B 124 n) (B 125 n) (B 126 n), (fol ru B n).2) else (kpB (fol ru B n).1, (fol ru B n).2 + 1)
def Fok (m : Int) (B P : iv_M) : Prop := WHm m P ∧ OZ P ∧ (∀ j, j ≠ 6 → j ≠ 7 → P 114 j = B 114 j) ∧ ∀ a, (a = 115 ∨ (118 ≤ a ∧ a ≤ 120) ∨ (123 ≤ a ∧ a ≤ 131)) → P a = B a
theorem Fok_kp {m : Int} {B P : iv_M} (h : Fok m B P) : Fok (m + 1) B (kpB P) := by
  obtain ⟨h1, h2, h3, h4⟩ := h
  exact ⟨WHm_kp h1, OZ_kp h2 h1.2.1.2.2.2.2.1.1 h1.2.1.2.2.2.2.1.2, fun j z0 z1 => by rw [kpB_j z0 z1, h3 j z0 z1], fun a ha => by rw [kpB_o (by omega) (by omega), h4 a ha]⟩
theorem Fok_wk {m : Int} {B P : iv_M} {k r o : Int} (h : Fok m B P) (hi : isW P k r o) (hs : slO P k r o) : Fok m B (wlk P k r o) := by
  obtain ⟨h1, h2, h3, h4⟩ := h
  exact ⟨WHm_wlk h1 hi hs, OZ_wlk h2 h1.1 hi hs, fun j z0 z1 => by rw [wlk_o (by omega) (by omega) (by omega), h3 j z0 z1], fun a ha => by rw [wlk_row (by omega) (by omega) (by omega), h4 a ha]⟩
theorem isW_2 {B P : iv_M} {k r o : Int} (h : P 114 2 = B 114 2) (hi : isW B k r o) : isW P k r o := by unfold isW at hi ⊢; rw [h]; exact hi
theorem fol_ok {ru : Option (List (List (Int × Int)))} {B : iv_M} {m : Int} (hB : WHm m B) (hO : OZ B) : ∀ n : Nat, (n : Int) ≤ B 114 8 → Fok (m + n) B (fol ru B n).1 ∧ 0 ≤ (fol ru B n).2 ∧ (fol ru B n).2 ≤ n := by
  intro n
  induction n with
  | zero => intro _; exact ⟨⟨WHm_mono (by omega) hB, hO, fun _ _ _ => rfl, fun _ _ => rfl⟩, Int.le_refl _, Int.le_refl _⟩
  | succ n ih =>
    intro hn
    obtain ⟨i1, i2, i3⟩ := ih (by omega)
    have hw := (hB.2.2.2.2.2.2.2.1 n (by omega) (by omega)).1
    have e2 : (fol ru B n).1 114 2 = B 114 2 := i1.2.2.1 2 (by omega) (by omega)
    unfold fol
    by_cases e : lwf ru (fol ru B n).1 (B 124 n) (B 125 n) (B 126 n) = 0
    · rw [if_pos e]
      refine ⟨?_, i2, by show (fol ru B n).2 ≤ _; omega⟩
      have := Fok_wk (Fok_kp i1) (kp_isW (isW_2 e2 hw)) (kp_slO (cn_sl (lwf_cn e)))
      rw [show m + ((n + 1 : Nat) : Int) = m + n + 1 by omega]
      exact this
    · rw [if_neg e]
      refine ⟨?_, by show 0 ≤ (fol ru B n).2 + 1; omega, by show (fol ru B n).2 + 1 ≤ _; omega⟩
      rw [show m + ((n + 1 : Nat) : Int) = m + n + 1 by omega]
      exact Fok_kp i1
def FoC (ru : Option (List (List (Int × Int)))) (s : iv_M) (i : Int) (x : iv_M × Int) : Prop := 0 ≤ i ∧ HR x.1 (now s) (fol ru s i.toNat).1 ∧ x.2 = (fol ru s i.toNat).2 ∧ x.1 0 15 = s 0 15 + i ∧ (∀ j, j ≠ 15 → x.1 0 j = s 0 j) ∧ ∀ a, a ≠ 0 → (a < now s ∨ now s + 13 < a) → a ≠ 62 → a ≠ 63 → x.1 a = s a
theorem follow_c {t : Int} {N : Nat} {s : iv_M} {ru : Option (List (List (Int × Int)))} {kx : iv_M → Int → Option (Int × iv_M)} (hN : 1000 ≤ N) (h : Inv t s) (t0 : 0 ≤ t) (t1 : t ≤ 1000) (hR : RUO s (s 114 12) ru) : ∃ s1 v, FX11_follow_l16 N 0 kx N s 0 0 = kx s1 v ∧ FoC ru s (s 114 8) (s1, v) := by
  have hI := h
  obtain ⟨h1, h2, h3, h4, h5, h6, h7, h8, h9, h10⟩ := h
  obtain ⟨n1, n2, n3⟩ := now_ne h1
  have hn := (now_HQ h1).2.1
  have h15 := h9.1
  have hQ := HQ_TF (now_HQ h1).1
  have hQ2 := HQ_rows (now_HQ h1).1
  have a8 := h3.2.1.2.2.2.2.2.1
  have al := fun n hn => fol_ok (ru := ru) (WH_m.mp h3) h10 n hn
  obtain ⟨y, y1, y2⟩ := loop_up (L := fun m (x : iv_M × Int) i => FX11_follow_l16 N 0 kx m x.1 x.2 i) (k := fun x => kx x.1 x.2) (hi := s 114 8) (FoC ru s) (fun m x hx => by
      obtain ⟨x1, x2, x3, x4, x5, x6⟩ := hx
      have hq : (x.1 0 4).toNat = now s := by rw [x5 4 (by omega)]; rfl
      obtain ⟨f1, f2, f3⟩ := al (s 114 8).toNat (by omega)
      have hc : x.1 (now s + 16) 1 = s 114 8 := by rw [x2.2.2.2.2.2.1, f1.2.2.1 8 (by omega) (by omega)]
      show FX11_follow_l16 N 0 kx (m + 1) x.1 x.2 (s 114 8) = kx x.1 x.2
      rw [FX11_follow_l16, hq, hc, if_pos (by omega)]) (fun m i x hx hi => by
      obtain ⟨x1, x2, x3, x4, x5, x6⟩ := hx
      have hq : (x.1 0 4).toNat = now s := by rw [x5 4 (by omega)]; rfl
      obtain ⟨f1, f2, f3⟩ := al i.toNat (by omega)
      rw [Int.toNat_of_nonneg x1] at f1 f3
      obtain ⟨P, hP⟩ : ∃ P, P = (fol ru s i.toNat).1 := ⟨_, rfl⟩
      rw [← hP] at x2 f1
      have hc : x.1 (now s + 16) 1 = s 114 8 := by rw [x2.2.2.2.2.2.1, f1.2.2.1 8 (by omega) (by omega)]
      have hit : x.1 (now s + 17) i = 256 * s 124 i + 16 * s 125 i + s 126 i := by
        rw [x2.2.2.2.2.2.2.1 i x1 (by rw [f1.2.2.1 8 (by omega) (by omega)]; exact hi), f1.2.2.2 124 (by omega), f1.2.2.2 125 (by omega), f1.2.2.2 126 (by omega)]
      have hw := (h3.2.2.2.2.2.2.2.1 i x1 hi).1
      have e2 : P 114 2 = s 114 2 := f1.2.2.1 2 (by omega) (by omega)
      have e12 : P 114 12 = s 114 12 := f1.2.2.1 12 (by omega) (by omega)
      have hwP : isW P (s 124 i) (s 125 i) (s 126 i) := isW_2 e2 hw
      have hWf := f1.1.1
      obtain ⟨g1, ⟨gF, gP⟩, _⟩ := id x2
      have hRx : RUO x.1 (P 114 12) ru := by rw [e12]; exact RUO_ext (fun a ha => x6 a (by omega) (by omega) (by omega) (by omega)) hR
      obtain ⟨o3, z0, o1, o2, o4, o5⟩ := open_face (N := N) (by omega) hq hn g1 hWf gF (by rw [e12, x5 3 (by omega)]; exact h5.2.2.2.1) (by rw [x5 3 (by omega)]; exact h5.2.2.1) hRx
      have hF' : FRc z0 (now s + 1) P := FRc_ext (fun a z0 z1 => o5 a (by omega)) gF
      have hP' : FP z0 (now s + 1) P := FP_ext (o5 _ (by omega)) gP
      obtain ⟨z1, b1, b2, b3⟩ := FX3_broken_ok (N := N) hN (Sp_face hn) hQ.1 hQ.2 (by decide) hWf ⟨o4, hF', hP'⟩ hwP f1.1.2.1.1.1 f1.1.2.1.1.2
      have ro1 : ∀ a, (a < now s + 1 ∨ now s + 6 < a) → a ≠ 62 → a ≠ 63 → z1 a = x.1 a := fun a y0 y1 y2 => by rw [b3.1 a (by omega) y1 (by omega), o5 a y1]
      have e0 : z1 0 = x.1 0 := ro1 0 (by omega) (by omega) (by omega)
      have hH1 : HR z1 (now s) P := HR_scl x2 (fun a y0 y1 y2 => ro1 a y2 (by omega) (by omega)) b2.2.1 b2.2.2
      have n6 := f1.1.2.1.2.2.2.1
      have n7 := f1.1.2.1.2.2.2.2.1
      have hl : ((sh (now s + 16 + 1)).2 : Int) = 10 := by show ((sh (now s + 17)).2 : Int) = 10; rw [hQ2.2.2.2.1]; rfl
      have hwc : 256 ≤ 256 * s 124 i + 16 * s 125 i + s 126 i ∧ 256 * s 124 i + 16 * s 125 i + s 126 i < 2000 := by
        have h12 := h3.1.1.2.2.2.2.2.1
        unfold isW at hw; omega
      have f2' : 0 ≤ x.2 ∧ x.2 ≤ i := by rw [x3]; exact ⟨f2, f3⟩
      have hst : i.toNat + 1 = (i + 1).toNat := by omega
      by_cases L : lwf ru P (s 124 i) (s 125 i) (s 126 i) = 0
      · have hfs : fol ru s (i + 1).toNat = (wlk (kpB P) (s 124 i) (s 125 i) (s 126 i), (fol ru s i.toNat).2) := by
          rw [← hst, fol, Int.toNat_of_nonneg x1, ← hP, if_pos L]
        obtain ⟨z2, k1, k2, k3, k4, k5⟩ := night_ok (N := N) (s := z1) (B := P) (B' := wlk (kpB P) (s 124 i) (s 125 i) (s 126 i)) (w := 256 * s 124 i + 16 * s 125 i + s 126 i) hN (by rw [e0]; exact hq) hn hH1 hWf n7 (by omega) (by rw [e0, x4]; omega) (by rw [e0, x4]; omega) (Or.inr ⟨_, _, _, rfl, hwP, cn_sl (lwf_cn L), rfl⟩)
        refine ⟨(z2, x.2), ?_, by omega, by rw [hfs]; exact k2, by rw [hfs]; exact x3, by show z2 0 15 = _; rw [k3, e0, x4]; omega, fun j hj => by show z2 0 j = _; rw [k4 j hj, e0, x5 j hj], fun a y0 y1 y2 y3 => by show z2 a = _; rw [k5 a y0 y1, ro1 a (by omega) y2 y3, x6 a y0 y1 y2 y3]⟩
        show FX11_follow_l16 N 0 kx (m + 1) x.1 x.2 i = FX11_follow_l16 N 0 kx m z2 x.2 (i + 1)
        rw [FX11_follow_l16]
        simp only [Nat.zero_add]
        rw [hq, hc, if_neg (by omega), hl, rd_ok x1 (by omega), Option.bind_some]
        show ((FX11_ruleInForce N x.1 0).bind fun v_2107 => ((FX3_open N x.1 62 (now s) (now s + 1) v_2107).bind fun s_2109 => ((FX3_broken N s_2109 62 (w32 (x.1 (now s + 17) i))).bind fun r_2110 => (fun (v_2110 : Int) (s_2111 : iv_M) => (if v_2110 = 0 then (FX11_follow_b82 N s_2111 0 x.2 i (w32 (x.1 (now s + 17) i)) 1 (FX11_follow_l16 N 0 kx m) kx) else (FX11_follow_b82 N s_2111 0 x.2 i (w32 (x.1 (now s + 17) i)) 0 (FX11_follow_l16 N 0 kx m) kx))) r_2110.1 r_2110.2))) = _
        rw [o1, Option.bind_some, o2, Option.bind_some, hit, w32_id (by omega) (by omega), b1, Option.bind_some]
        show (if lwf ru P (s 124 i) (s 125 i) (s 126 i) = 0 then _ else _) = _
        rw [if_pos L]
        unfold FX11_follow_b82 FX11_follow_b95 FX11_follow_b109
        rw [if_neg (by omega), k1, Option.bind_some, if_neg (by omega), w32_id (x := x.2 + 0) (by omega) (by omega), w32_id (by omega) (by omega), show x.2 + 0 = x.2 by omega]
      · have hfs : fol ru s (i + 1).toNat = (kpB P, (fol ru s i.toNat).2 + 1) := by
          rw [← hst, fol, Int.toNat_of_nonneg x1, ← hP, if_neg L]
        obtain ⟨z2, k1, k2, k3, k4, k5⟩ := night_ok (N := N) (s := z1) (B := P) (B' := kpB P) (w := -1) hN (by rw [e0]; exact hq) hn hH1 hWf n7 (by omega) (by rw [e0, x4]; omega) (by rw [e0, x4]; omega) (Or.inl ⟨rfl, rfl⟩)
        refine ⟨(z2, x.2 + 1), ?_, by omega, by rw [hfs]; exact k2, by rw [hfs]; show x.2 + 1 = _; rw [x3], by show z2 0 15 = _; rw [k3, e0, x4]; omega, fun j hj => by show z2 0 j = _; rw [k4 j hj, e0, x5 j hj], fun a y0 y1 y2 y3 => by show z2 a = _; rw [k5 a y0 y1, ro1 a (by omega) y2 y3, x6 a y0 y1 y2 y3]⟩
        show FX11_follow_l16 N 0 kx (m + 1) x.1 x.2 i = FX11_follow_l16 N 0 kx m z2 (x.2 + 1) (i + 1)
        rw [FX11_follow_l16]
        simp only [Nat.zero_add]
        rw [hq, hc, if_neg (by omega), hl, rd_ok x1 (by omega), Option.bind_some]
        show ((FX11_ruleInForce N x.1 0).bind fun v_2107 => ((FX3_open N x.1 62 (now s) (now s + 1) v_2107).bind fun s_2109 => ((FX3_broken N s_2109 62 (w32 (x.1 (now s + 17) i))).bind fun r_2110 => (fun (v_2110 : Int) (s_2111 : iv_M) => (if v_2110 = 0 then (FX11_follow_b82 N s_2111 0 x.2 i (w32 (x.1 (now s + 17) i)) 1 (FX11_follow_l16 N 0 kx m) kx) else (FX11_follow_b82 N s_2111 0 x.2 i (w32 (x.1 (now s + 17) i)) 0 (FX11_follow_l16 N 0 kx m) kx))) r_2110.1 r_2110.2))) = _
        rw [o1, Option.bind_some, o2, Option.bind_some, hit, w32_id (by omega) (by omega), b1, Option.bind_some]
        show (if lwf ru P (s 124 i) (s 125 i) (s 126 i) = 0 then _ else _) = _
        rw [if_neg L]
        unfold FX11_follow_b82 FX11_follow_b95 FX11_follow_b109
        rw [if_pos rfl, k1, Option.bind_some, if_pos rfl, w32_id (x := x.2 + 1) (by omega) (by omega), w32_id (by omega) (by omega)]) N 0 (s, 0) ⟨by omega, h2, rfl, by show s 0 15 = _; omega, fun _ _ => rfl, fun _ _ _ _ _ => rfl⟩ a8.1 (by omega)
  exact ⟨y.1, y.2, y2, y1⟩
def FoR (ru : Option (List (List (Int × Int)))) (B s : iv_M) (i : Int) (x : iv_M × Int) : Prop := 0 ≤ i ∧ Eb (fol ru B i.toNat).1 x.1 ∧ x.2 = (fol ru B i.toNat).2 ∧ (∀ a, a ≠ 113 → (a < 114 ∨ 131 < a) → a ≠ 146 → a ≠ 147 → x.1 a = s a) ∧ ∀ j, j ≠ 26 → j ≠ 27 → j ≠ 48 → x.1 113 j = s 113 j
theorem follow_r {m : Int} {N : Nat} {s B : iv_M} {ru : Option (List (List (Int × Int)))} {kx : iv_M → Int → Option (Int × iv_M)} (hN : 1000 ≤ N) (hB : WHm m B) (hm : m ≤ 50000) (hO : OZ B) (hE : Eb B s) (hR : RUO s (B 114 12) ru) : ∃ s1 v, FX12_follow_l13 N 113 kx N s 0 0 = kx s1 v ∧ FoR ru B s (B 114 8) (s1, v) := by
  have a8 := hB.2.1.2.2.2.2.2.1
  have al := fun n hn => fol_ok (ru := ru) hB hO n hn
  obtain ⟨y, y1, y2⟩ := loop_up (L := fun m (x : iv_M × Int) i => FX12_follow_l13 N 113 kx m x.1 x.2 i) (k := fun x => kx x.1 x.2) (hi := B 114 8) (FoR ru B s) (fun m x hx => by
      obtain ⟨x1, x2, x3, x4, x5⟩ := hx
      obtain ⟨f1, f2, f3⟩ := al (B 114 8).toNat (by omega)
      have hc : x.1 114 8 = B 114 8 := by rw [x2 114 (by omega) (by omega), f1.2.2.1 8 (by omega) (by omega)]
      show FX12_follow_l13 N 113 kx (m + 1) x.1 x.2 (B 114 8) = kx x.1 x.2
      rw [FX12_follow_l13]
      simp only [Nat.reduceAdd]
      rw [rd_ok (by omega) (by omega), Option.bind_some, hc, if_pos (by omega)]) (fun m i x hx hi => by
      obtain ⟨x1, x2, x3, x4, x5⟩ := hx
      obtain ⟨f1, f2, f3⟩ := al i.toNat (by omega)
      rw [Int.toNat_of_nonneg x1] at f1 f3
      obtain ⟨P, hP⟩ : ∃ P, P = (fol ru B i.toNat).1 := ⟨_, rfl⟩
      rw [← hP] at x2 f1
      have hc : x.1 114 8 = B 114 8 := by rw [x2 114 (by omega) (by omega), f1.2.2.1 8 (by omega) (by omega)]
      have h24 : x.1 124 = B 124 := by rw [x2 124 (by omega) (by omega), f1.2.2.2 124 (by omega)]
      have h25 : x.1 125 = B 125 := by rw [x2 125 (by omega) (by omega), f1.2.2.2 125 (by omega)]
      have h26 : x.1 126 = B 126 := by rw [x2 126 (by omega) (by omega), f1.2.2.2 126 (by omega)]
      have hw := (hB.2.2.2.2.2.2.2.1 i x1 hi).1
      have e2 : P 114 2 = B 114 2 := f1.2.2.1 2 (by omega) (by omega)
      have e12 : P 114 12 = B 114 12 := f1.2.2.1 12 (by omega) (by omega)
      have hwP : isW P (B 124 i) (B 125 i) (B 126 i) := isW_2 e2 hw
      have hWf := f1.1.1
      have e4 := x2 114 (by omega) (by omega)
      have n6 := f1.1.2.1.2.2.2.1
      have n7 := f1.1.2.1.2.2.2.2.1
      have pp := f1.1.2.1.1
      obtain ⟨z1, b1, b2, b3⟩ := FX12_lawOf_ok (N := N) (s := x.1) (ru := ru) hN (eb_Wf x2 hWf) (eb_isW x2 hwP) (by rw [e4]; exact pp.1) (by rw [e4]; exact pp.2) (by rw [e4, e12]; exact RUO_ext (fun a ha => x4 a (by omega) (by omega) (by omega) (by omega)) hR)
      rw [eb_lwf x2] at b1
      have hbz : Eb P z1 := fun a y0 y1 => by rw [b2.1 a (by omega) (by omega) (by omega), x2 a y0 y1]
      have ez := hbz 114 (by omega) (by omega)
      have kn := FX12_keepsNight_ok (N := N) (s := z1) hN (by rw [ez]; exact n7.1) (by rw [ez]; exact n7.2) (by rw [ez]; omega) (by rw [ez]; omega)
      have hbk : Eb (kpB P) (kpB z1) := eb_kp hbz
      have f2' : 0 ≤ x.2 ∧ x.2 ≤ i := by rw [x3]; exact ⟨f2, f3⟩
      have hst : i.toNat + 1 = (i + 1).toNat := by omega
      have k24 : kpB z1 124 = B 124 := by rw [hbk 124 (by omega) (by omega), kpB_o (by omega) (by omega), f1.2.2.2 124 (by omega)]
      have k25 : kpB z1 125 = B 125 := by rw [hbk 125 (by omega) (by omega), kpB_o (by omega) (by omega), f1.2.2.2 125 (by omega)]
      have k26 : kpB z1 126 = B 126 := by rw [hbk 126 (by omega) (by omega), kpB_o (by omega) (by omega), f1.2.2.2 126 (by omega)]
      have hi10 : i < 10 := by omega
      by_cases L : lwf ru P (B 124 i) (B 125 i) (B 126 i) = 0
      · have hfs : fol ru B (i + 1).toNat = (wlk (kpB P) (B 124 i) (B 125 i) (B 126 i), (fol ru B i.toNat).2) := by
          rw [← hst, fol, Int.toNat_of_nonneg x1, ← hP, if_pos L]
        have hsl := cn_sl (lwf_cn L)
        have wk := FX12_walks_ok (N := N) (s := kpB z1) (k := B 124 i) (r := B 125 i) (o := B 126 i) (eb_Wf hbk (ew_Wf Ew_kp hWf)) (eb_isW hbk (kp_isW hwP)) (eb_slO hbk (kp_slO hsl))
        refine ⟨(wlk (kpB z1) (B 124 i) (B 125 i) (B 126 i), x.2), ?_, by omega, by rw [hfs]; exact eb_wlk hbk, by rw [hfs]; exact x3, fun a y0 y1 y2 y3 => by show wlk (kpB z1) _ _ _ a = _; rw [wlk_row (by omega) (by omega) (by omega), kpB_o (by omega) (by omega), b2.1 a y0 y2 y3, x4 a y0 y1 y2 y3], fun j y0 y1 y2 => by show wlk (kpB z1) _ _ _ 113 j = _; rw [wlk_row (by omega) (by omega) (by omega), kpB_o (by omega) (by omega), b2.2 j y0 y1 y2, x5 j y0 y1 y2]⟩
        show FX12_follow_l13 N 113 kx (m + 1) x.1 x.2 i = FX12_follow_l13 N 113 kx m (wlk (kpB z1) (B 124 i) (B 125 i) (B 126 i)) x.2 (i + 1)
        rw [FX12_follow_l13]
        simp only [Nat.reduceAdd]
        rw [rd_ok (by omega) (by omega), Option.bind_some, hc, if_neg (by omega), rd_ok x1 hi10, Option.bind_some, rd_ok x1 hi10, Option.bind_some, rd_ok x1 hi10, Option.bind_some, h24, h25, h26, b1, Option.bind_some]
        show (if lwf ru P (B 124 i) (B 125 i) (B 126 i) = 0 then _ else _) = _
        rw [if_pos L]
        unfold FX12_follow_b54 FX12_follow_b85 FX12_follow_b95
        simp only [Nat.reduceAdd]
        rw [kn, Option.bind_some, if_neg (by omega), rd_ok x1 hi10, Option.bind_some, rd_ok x1 hi10, Option.bind_some, rd_ok x1 hi10, Option.bind_some, k24, k25, k26, wk, Option.bind_some, if_neg (by omega), w32_id (x := x.2 + 0) (by omega) (by omega), w32_id (by omega) (by omega), show x.2 + 0 = x.2 by omega]
      · have hfs : fol ru B (i + 1).toNat = (kpB P, (fol ru B i.toNat).2 + 1) := by
          rw [← hst, fol, Int.toNat_of_nonneg x1, ← hP, if_neg L]
        refine ⟨(kpB z1, x.2 + 1), ?_, by omega, by rw [hfs]; exact hbk, by rw [hfs]; show x.2 + 1 = _; rw [x3], fun a y0 y1 y2 y3 => by show kpB z1 a = _; rw [kpB_o (by omega) (by omega), b2.1 a y0 y2 y3, x4 a y0 y1 y2 y3], fun j y0 y1 y2 => by show kpB z1 113 j = _; rw [kpB_o (by omega) (by omega), b2.2 j y0 y1 y2, x5 j y0 y1 y2]⟩
        show FX12_follow_l13 N 113 kx (m + 1) x.1 x.2 i = FX12_follow_l13 N 113 kx m (kpB z1) (x.2 + 1) (i + 1)
        rw [FX12_follow_l13]
        simp only [Nat.reduceAdd]
        rw [rd_ok (by omega) (by omega), Option.bind_some, hc, if_neg (by omega), rd_ok x1 hi10, Option.bind_some, rd_ok x1 hi10, Option.bind_some, rd_ok x1 hi10, Option.bind_some, h24, h25, h26, b1, Option.bind_some]
        show (if lwf ru P (B 124 i) (B 125 i) (B 126 i) = 0 then _ else _) = _
        rw [if_neg L]
        unfold FX12_follow_b54 FX12_follow_b85 FX12_follow_b95
        rw [kn, Option.bind_some, if_pos rfl, if_pos rfl, w32_id (x := x.2 + 1) (by omega) (by omega), w32_id (by omega) (by omega)]) N 0 (s, 0) ⟨by omega, hE, rfl, fun _ _ _ _ _ => rfl, fun _ _ _ _ => rfl⟩ a8.1 (by omega)
  exact ⟨y.1, y.2, y2, y1⟩
theorem HR_plan0 {s B : iv_M} {q : Nat} (hq : q ≠ 114) (h : HR s q B) : HR (mu s (q + 16) 1 0) q (mu B 114 8 0) := by
  have b : ∀ j, j ≠ 8 → mu B 114 8 0 114 j = B 114 j := fun j hj => mu_ne (by omega)
  have b8 : mu B 114 8 0 114 8 = 0 := mu_eq
  have bo : ∀ a, a ≠ 114 → mu B 114 8 0 a = B a := fun a ha => mu_rw ha
  have so : ∀ a, a ≠ q + 16 → mu s (q + 16) 1 0 a = s a := fun a ha => mu_rw ha
  have s16 : mu s (q + 16) 1 0 (q + 16) 1 = 0 := mu_eq
  generalize mu B 114 8 0 = B' at *
  generalize mu s (q + 16) 1 0 = s' at *
  obtain ⟨h1, ⟨h2, h2'⟩, h3, h4, h5, h6⟩ := h
  have ew : Ew B B' := ⟨b 0 (by omega), b 1 (by omega), b 2 (by omega), bo 115 (by omega), bo 116 (by omega), bo 117 (by omega), bo 121 (by omega)⟩
  refine ⟨?_, ⟨ew_FRc ew (FRc_ext (fun a z0 z1 => so a (by omega)) h2), ew_FP ew (FP_ext (so _ (by omega)) h2')⟩, ?_, ?_, ?_, ?_⟩
  · unfold HR1 HB at h1 ⊢
    rw [so q (by omega), so (q + 9) (by omega), b 0 (by omega), b 2 (by omega), b 3 (by omega), b 4 (by omega), b 5 (by omega), b 6 (by omega), b 11 (by omega), b 12 (by omega), b 13 (by omega), bo 118 (by omega), bo 120 (by omega)]; exact h1
  · unfold HR3 at h3 ⊢; rw [so (q + 8) (by omega), bo 119 (by omega)]; exact h3
  · have pc : pC B' = pC B := by funext j r; unfold pC; rw [bo 122 (by omega)]
    have pt : pT B' = pT B := by funext j r; unfold pT; rw [bo 122 (by omega)]
    unfold HR4 at h4 ⊢; rw [pc, pt, so (q + 10) (by omega), so (q + 11) (by omega), so (q + 12) (by omega), so (q + 13) (by omega), b 7 (by omega), b 2 (by omega)]; exact h4
  · have dc : dC B' = dC B := by funext j r; unfold dC; rw [bo 123 (by omega)]
    have dt : dT B' = dT B := by funext j r; unfold dT; rw [bo 123 (by omega)]
    unfold HR5 at h5 ⊢; rw [dc, dt, so (q + 14) (by omega), so (q + 15) (by omega), b 11 (by omega), b 2 (by omega)]; exact h5
  · obtain ⟨u1, u2, u3, u4, u5, u6⟩ := h6
    refine ⟨by rw [s16, b8], fun j z0 z1 => by omega, ?_, ?_, ?_, ?_⟩
    · rw [so (q + 18) (by omega), b 9 (by omega)]; exact u3
    · rw [so (q + 19) (by omega), b 9 (by omega), bo 127 (by omega), bo 128 (by omega), bo 129 (by omega)]; exact u4
    · rw [so (q + 20) (by omega), b 10 (by omega)]; exact u5
    · rw [so (q + 21) (by omega), b 10 (by omega), bo 130 (by omega), bo 131 (by omega)]; exact u6
theorem WHm_plan0 {m : Int} {B : iv_M} (h : WHm m B) : WHm m (mu B 114 8 0) := by
  have b : ∀ j, j ≠ 8 → mu B 114 8 0 114 j = B 114 j := fun j hj => mu_ne (by omega)
  have b8 : mu B 114 8 0 114 8 = 0 := mu_eq
  have bo : ∀ a, a ≠ 114 → mu B 114 8 0 a = B a := fun a ha => mu_rw ha
  generalize mu B 114 8 0 = B' at *
  obtain ⟨hW, ⟨a1, a2, a3, a4, a5, a6, a7, a8, a9, a10, a11, a12⟩, ⟨e1, e2, e3, e4, e5, e6, e7, e8⟩⟩ := h
  have ew : Ew B B' := ⟨b 0 (by omega), b 1 (by omega), b 2 (by omega), bo 115 (by omega), bo 116 (by omega), bo 117 (by omega), bo 121 (by omega)⟩
  have pc : pC B' = pC B := by funext j r; unfold pC; rw [bo 122 (by omega)]
  have pt : pT B' = pT B := by funext j r; unfold pT; rw [bo 122 (by omega)]
  have dc : dC B' = dC B := by funext j r; unfold dC; rw [bo 123 (by omega)]
  have dt : dT B' = dT B := by funext j r; unfold dT; rw [bo 123 (by omega)]
  have fv : FV B' = FV B := by funext f g; unfold FV; rw [b 0 (by omega), b 1 (by omega), b 2 (by omega)]
  refine ⟨ew_Wf ew hW, ⟨by rw [b 3 (by omega)]; exact a1, by rw [b 4 (by omega)]; exact a2, by rw [b 5 (by omega)]; exact a3, by rw [b 6 (by omega)]; exact a4, by rw [b 7 (by omega)]; exact a5, by omega, by rw [b 9 (by omega)]; exact a7, by rw [b 10 (by omega)]; exact a8, by rw [b 11 (by omega)]; exact a9, by rw [b 12 (by omega)]; exact a10, by rw [b 13 (by omega)]; exact a11, by rw [b 0 (by omega), b 2 (by omega)]; exact a12⟩, ⟨by rw [b 2 (by omega), bo 118 (by omega)]; exact e1, by rw [bo 119 (by omega)]; exact e2, by rw [b 3 (by omega), b 2 (by omega), bo 120 (by omega)]; exact e3, by rw [b 7 (by omega), fv, pc, pt]; exact e4, by rw [b 11 (by omega), fv, dc, dt]; exact e5, fun j z0 z1 => by omega, by rw [b 9 (by omega), b 3 (by omega), bo 127 (by omega), bo 128 (by omega), bo 129 (by omega)]; exact e7, by rw [b 10 (by omega), b 2 (by omega), bo 130 (by omega), bo 131 (by omega)]; exact e8⟩⟩
theorem ct_follow {t : Int} {N : Nat} {s : iv_M} (hN : 1000 ≤ N) (h : Inv t s) (t0 : 0 ≤ t) (t1 : t ≤ 1000) : ∃ a s1 s2, FX11_follow N s 0 = some (a, s1) ∧ FX12_follow N s1 113 = some (a, s2) ∧ Inv (t + 1) s2 := by
  have hI := h
  obtain ⟨h1, h2, h3, h4, h5, h6, h7, h8, h9, h10⟩ := h
  obtain ⟨n1, n2, n3⟩ := now_ne h1
  have hn := (now_HQ h1).2.1
  have hq : (s 0 4).toNat = now s := rfl
  have hto := HR1_told h2.1
  have h15 := h9.1
  obtain ⟨hW, ⟨a1, a2, a3, a4, a5, a8, _, _, _, p12, _⟩, _⟩ := id h3
  by_cases e0 : s (now s) 0 = 0
  · refine ⟨-1, s, s, ?_, ?_, HR1_mono (by omega) hI⟩
    · unfold FX11_follow; rw [hq, if_pos e0]
    · unfold FX12_follow; rw [told_ref, Option.bind_some, if_neg (hto.mp e0), if_pos rfl]
  have hp : 0 < s 114 0 := by
    by_cases z : 0 < s 114 0
    · exact z
    · exact absurd (hto.mpr z) e0
  obtain ⟨ru, hR⟩ := Rl_RUO h5 p12
  obtain ⟨s1, v, c1, c2⟩ := follow_c (ru := ru) (kx := fun (s_2100 : iv_M) (x2101_1 : Int) => ((pt s_2100 ((s_2100 0 4).toNat + 16) 1 0).bind fun s_2102 => (some (x2101_1, s_2102)))) hN hI t0 t1 hR
  obtain ⟨d1, d2, d3, d4, d5, d6⟩ := c2
  have d2' : HR s1 (now s) (fol ru s (s 114 8).toNat).1 := d2
  have d3' : v = (fol ru s (s 114 8).toNat).2 := d3
  have d4' : s1 0 15 = s 0 15 + s 114 8 := d4
  have d5' : ∀ j, j ≠ 15 → s1 0 j = s 0 j := d5
  have d6' : ∀ a, a ≠ 0 → (a < now s ∨ now s + 13 < a) → a ≠ 62 → a ≠ 63 → s1 a = s a := d6
  obtain ⟨f1, f2, f3⟩ := fol_ok (ru := ru) (WH_m.mp h3) h10 (s 114 8).toNat (by omega)
  rw [Int.toNat_of_nonneg a8.1] at f1
  obtain ⟨s2, hs2⟩ : ∃ s2, s2 = mu s1 (now s + 16) 1 0 := ⟨_, rfl⟩
  have hs2o : ∀ a, a ≠ now s + 16 → s2 a = s1 a := fun a ha => by rw [hs2, mu_rw ha]
  have hb : Eb s s2 := fun a z0 z1 => by rw [hs2o a (by omega), d6' a (by omega) (by omega) (by omega) (by omega)]
  have e114 := hb 114 (by omega) (by omega)
  obtain ⟨s3, v3, r1, r2⟩ := follow_r (N := N) (s := s2) (B := s) (ru := ru) (kx := fun (s_4044 : iv_M) (x4045_1 : Int) => ((wr s_4044 114 14 8 0).bind fun s_4046 => (some (x4045_1, s_4046)))) hN (WH_m.mp h3) (by omega) h10 hb (RUO_ext (fun a ha => by rw [hs2o a (by omega), d6' a (by omega) (by omega) (by omega) (by omega)]) hR)
  obtain ⟨g1, g2, g3, g4, g5⟩ := r2
  have g2' : Eb (fol ru s (s 114 8).toNat).1 s3 := g2
  have g3' : v3 = (fol ru s (s 114 8).toNat).2 := g3
  have g4' : ∀ a, a ≠ 113 → (a < 114 ∨ 131 < a) → a ≠ 146 → a ≠ 147 → s3 a = s2 a := g4
  have g5' : ∀ j, j ≠ 26 → j ≠ 27 → j ≠ 48 → s3 113 j = s2 113 j := g5
  refine ⟨v, s2, mu s3 114 8 0, ?_, ?_, ?_⟩
  · unfold FX11_follow
    rw [hq, if_neg e0, c1]
    show ((pt s1 ((s1 0 4).toNat + 16) 1 0).bind fun s_2102 => (some (v, s_2102))) = _
    rw [d5' 4 (by omega), hq, pt_ok, Option.bind_some, hs2]
  · unfold FX12_follow
    simp only [Nat.reduceAdd]
    rw [told_ref, Option.bind_some, e114, if_pos hp, if_neg (by omega), r1]
    show ((wr s3 114 14 8 0).bind fun s_4046 => (some (v3, s_4046))) = _
    rw [wr_ok (by omega) (by omega), Option.bind_some, g3', d3']
  · have hE : Eb (mu (fol ru s (s 114 8).toNat).1 114 8 0) (mu s3 114 8 0) := fun a z0 z1 => by
      funext i; unfold mu; rw [g2' a z0 z1]
    have b12 : mu (fol ru s (s 114 8).toNat).1 114 8 0 114 12 = s 114 12 := by rw [mu_ne (by omega), f1.2.2.1 12 (by omega) (by omega)]
    have far : ∀ a, a ≠ 114 → a ≠ 113 → (a < 114 ∨ 131 < a) → a ≠ 146 → a ≠ 147 → mu s3 114 8 0 a = s2 a := fun a z0 z1 z2 z3 z4 => by rw [mu_rw z0, g4' a z1 z2 z3 z4]
    have x0 : s2 0 = s1 0 := hs2o 0 (by omega)
    have hH2 : HR s2 (now s) (mu (fol ru s (s 114 8).toNat).1 114 8 0) := by rw [hs2]; exact HR_plan0 (by omega) d2'
    have hm : MeS (mu s3 114 8 0) ∧ MeR (mu s3 114 8 0) := by
      by_cases z : s 114 8 = 0
      · have f0 : fol ru s (s 114 8).toNat = (s, 0) := by rw [z]; rfl
        rw [f0] at hE
        have hE' : Eb (mu s 114 8 0) (mu s3 114 8 0) := hE
        refine Me_er ⟨fun a ha => ?_, fun j j7 j8 j9 j13 => ?_⟩ (fun a ha => ?_) ?_ ⟨h7, h8⟩
        · rw [hE' a (by omega) (by omega), mu_rw (by omega)]
        · rw [hE' 114 (by omega) (by omega), mu_ne (by omega)]
        · rw [far a (by omega) (by omega) (by omega) (by omega) (by omega), hs2o a (by omega), d6' a (by omega) (by omega) (by omega) (by omega)]
        · rw [far 0 (by omega) (by omega) (by omega) (by omega) (by omega), x0, d4', z]; omega
      · refine Me_bump ⟨h7, h8⟩ ?_ ?_ ?_
        · rw [far 64 (by omega) (by omega) (by omega) (by omega) (by omega), hs2o 64 (by omega), d6' 64 (by omega) (by omega) (by omega) (by omega)]
        · rw [far 81 (by omega) (by omega) (by omega) (by omega) (by omega), hs2o 81 (by omega), d6' 81 (by omega) (by omega) (by omega) (by omega)]
        · rw [far 0 (by omega) (by omega) (by omega) (by omega) (by omega), x0, d4']; omega
    refine Inv_bk (s1 := s2) hI (by omega) (fun i hi => by rw [x0, d5' i hi]) (by rw [x0, d4']; omega) (fun a ha => by rw [hs2o a (by omega), d6' a (by omega) (by omega) (by omega) (by omega)]) hH2 (WHm_mono (by omega) (WHm_plan0 f1.1)) (by rw [b12]; exact h5.2.2.2.1) (OZ_mu f1.2.1 (fun _ _ => by unfold ln; simp)) (fun a ha => far a (by omega) (by omega) (by omega) (by omega) (by omega)) (fun i hi => by rw [mu_rw (by omega), g5' i (by omega) (by omega) (by omega)]) hE hm
