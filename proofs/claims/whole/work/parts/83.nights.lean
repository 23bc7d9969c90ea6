-- NIGHTS of the class; what is well formed behind them
def WHm (m : Int) (B : iv_M) : Prop := Wf B ∧ ((0 ≤ B 114 3 ∧ B 114 3 ≤ 6) ∧ (0 ≤ B 114 4 ∧ B 114 4 ≤ 7) ∧ (0 ≤ B 114 5 ∧ B 114 5 ≤ 2) ∧ (-m ≤ B 114 6 ∧ B 114 6 ≤ m) ∧ (0 ≤ B 114 7 ∧ B 114 7 ≤ 20) ∧ (0 ≤ B 114 8 ∧ B 114 8 ≤ 10) ∧ (0 ≤ B 114 9 ∧ B 114 9 ≤ 12) ∧ (0 ≤ B 114 10 ∧ B 114 10 ≤ 8) ∧ (0 ≤ B 114 11 ∧ B 114 11 < 16) ∧ -1 ≤ B 114 12 ∧ (0 ≤ B 114 13 ∧ B 114 13 < 2147483648) ∧ (B 114 0 = 0 → B 114 2 = 0)) ∧ WH2 B
theorem WH_m {t : Int} {B : iv_M} : WH t B ↔ WHm (20 * t) B := Iff.rfl
theorem WHm_mono {m m' : Int} {B : iv_M} (h : m ≤ m') (hW : WHm m B) : WHm m' B := by
  obtain ⟨h1, ⟨a1, a2, a3, a4, a5⟩, h3⟩ := hW
  exact ⟨h1, ⟨a1, a2, a3, by omega, a5⟩, h3⟩
theorem FV_congr {B B' : iv_M} {f g f' g' : Int → Int} (h0 : B' 114 0 = B 114 0) (h1 : B' 114 1 = B 114 1) (h2 : B' 114 2 = B 114 2) (hf : ∀ r, 0 ≤ r → r < B 114 2 → f' r = f r ∧ g' r = g r) (h : FV B f g) : FV B' f' g' := by
  obtain ⟨v1, v2⟩ := h
  refine ⟨fun r r0 r1 => ?_, fun r r' r0 r1 r0' r1' e => ?_⟩
  · rw [h2] at r1
    obtain ⟨e1, e2⟩ := hf r r0 r1
    rw [e1, e2, h0, h1]; exact v1 r r0 r1
  · rw [h2] at r1 r1'
    rw [(hf r r0 r1).1, (hf r' r0' r1').1] at e
    exact v2 r r' r0 r1 r0' r1' e
theorem Wf_FV {B : iv_M} (h : Wf B) : FV B (B 116) (B 117) := by
  refine ⟨fun r r0 r1 => ?_, fun r r' r0 r1 r0' r1' e => ?_⟩
  · obtain ⟨g1, g2, g3, g4, g5, g6, g7⟩ := h.room r0 r1
    exact ⟨g1, g2, g6, g7, g4, g5⟩
  · obtain ⟨g1, g2, g3, _⟩ := h.room r0 r1
    obtain ⟨k1, k2, k3, _⟩ := h.room r0' r1'
    rw [← g3, e, k3]
theorem kp_old {B : iv_M} {j r : Int} (j0 : 0 ≤ j) (j1 : j < pn B) (h7 : B 114 7 ≤ 20) (r0 : 0 ≤ r) (r1 : r < 12) : pC (kpB B) j r = pC B (j + (if B 114 7 = 20 then 1 else 0)) r ∧ pT (kpB B) j r = pT B (j + (if B 114 7 = 20 then 1 else 0)) r := by
  unfold pC pT
  rw [kpB_22, kpB_22]
  unfold kpR
  unfold pn at j1 ⊢
  by_cases e : B 114 7 = 20
  · rw [if_pos e] at j1 ⊢
    rw [if_neg (by omega), if_pos (by omega), if_pos e, if_neg (by omega), if_pos (by omega), show 24 * j + 2 * r + 24 = 24 * (j + 1) + 2 * r by omega, show 24 * j + 2 * r + 1 + 24 = 24 * (j + 1) + 2 * r + 1 by omega]
    exact ⟨rfl, rfl⟩
  · rw [if_neg e] at j1 ⊢
    rw [if_neg (by omega), if_neg (by omega), if_neg e, if_neg (by omega), if_neg (by omega), show j + 0 = j by omega]
    exact ⟨rfl, rfl⟩
theorem kp_new {B : iv_M} {r : Int} (r0 : 0 ≤ r) (r1 : r < 12) : pC (kpB B) (pn B) r = B 116 r ∧ pT (kpB B) (pn B) r = B 117 r := by
  unfold pC pT
  rw [kpB_22, kpB_22]
  unfold kpR
  rw [if_pos (by omega), if_pos (by omega), if_pos (by omega), if_neg (by omega), show (24 * pn B + 2 * r - 24 * pn B) / 2 = r by omega, show (24 * pn B + 2 * r + 1 - 24 * pn B) / 2 = r by omega]
  exact ⟨rfl, rfl⟩
theorem pn_rng {B : iv_M} (h0 : 0 ≤ B 114 7) (h7 : B 114 7 ≤ 20) : 0 ≤ pn B ∧ pn B ≤ 19 := by unfold pn; split <;> omega
theorem keepPast_ok {N q : Nat} {s B : iv_M} (h11 : (sh (q + 11)).2 = 20) (h13 : (sh (q + 13)).2 = 20) (h0 : 0 ≤ B 114 7) (h7 : B 114 7 ≤ 20) (hr0 : 0 ≤ B 114 2) (hr : B 114 2 ≤ 12) (hP : FP s (q + 1) B) (h4 : HR4 s q B) : ∃ s', FX2_keepPast N s q = some s' ∧ HR4 s' q (kpB B) ∧ ∀ a, a ≠ q + 10 → a ≠ q + 11 → a ≠ q + 12 → a ≠ q + 13 → s' a = s a := by
  obtain ⟨c1, c2, c3⟩ := h4
  have hp := pn_rng h0 h7
  have b26 : ∀ x : iv_M, x (q + 10) 1 = pn B → x (q + 12) 1 = pn B → x (q + 1) = s (q + 1) → FX2_keepPast_b26 N x q = some (mu (mu (mu (mu x (q + 11) (pn B) (s (q + 1) 3)) (q + 10) 1 (pn B + 1)) (q + 13) (pn B) (s (q + 1) 4)) (q + 12) 1 (pn B + 1)) := fun x x1 x2 x3 => by
    unfold FX2_keepPast_b26
    have a1 := FX7_add_ok (N := N) (q := q + 10) (s := x) (y := x (q + 1) 3) (n := 20) (by show ((sh (q + 11)).2 : Int) = 20; rw [h11]; rfl) (by omega)
    rw [x1, if_pos (by omega)] at a1
    rw [a1, Option.bind_some]
    show ((FX7_add N (mu (mu x (q + 11) (pn B) (x (q + 1) 3)) (q + 10) 1 (pn B + 1)) (q + 12) (mu (mu x (q + 11) (pn B) (x (q + 1) 3)) (q + 10) 1 (pn B + 1) (q + 1) 4)).bind fun r_532 => (fun (v_532 : Int) (s_533 : iv_M) => some s_533) r_532.1 r_532.2) = _
    have y2 : mu (mu x (q + 11) (pn B) (x (q + 1) 3)) (q + 10) 1 (pn B + 1) (q + 12) 1 = pn B := by rw [mu_ne (by omega), mu_ne (by omega)]; exact x2
    have a2 := FX7_add_ok (N := N) (q := q + 12) (s := mu (mu x (q + 11) (pn B) (x (q + 1) 3)) (q + 10) 1 (pn B + 1)) (y := mu (mu x (q + 11) (pn B) (x (q + 1) 3)) (q + 10) 1 (pn B + 1) (q + 1) 4) (n := 20) (by show ((sh (q + 13)).2 : Int) = 20; rw [h13]; rfl) (by omega)
    rw [y2, if_pos (by omega)] at a2
    rw [a2, Option.bind_some, mu_ne (by omega), mu_ne (by omega), x3]
  have fin : ∀ x : iv_M, x (q + 10) 1 = pn B → x (q + 12) 1 = pn B → x (q + 1) = s (q + 1) → (∀ j, 0 ≤ j → j < pn B → x (q + 11) j = s (q + 11) (j + (if B 114 7 = 20 then 1 else 0)) ∧ x (q + 13) j = s (q + 13) (j + (if B 114 7 = 20 then 1 else 0))) → (∀ a, a ≠ q + 10 → a ≠ q + 11 → a ≠ q + 12 → a ≠ q + 13 → x a = s a) → ∃ s', FX2_keepPast_b26 N x q = some s' ∧ HR4 s' q (kpB B) ∧ ∀ a, a ≠ q + 10 → a ≠ q + 11 → a ≠ q + 12 → a ≠ q + 13 → s' a = s a := by
    intro x x1 x2 x3 x4 x5
    refine ⟨_, b26 x x1 x2 x3, ⟨?_, ?_, fun j j0 j1 => ?_⟩, fun a z0 z1 z2 z3 => by rw [mu_rw z2, mu_rw z3, mu_rw z0, mu_rw z1, x5 a z0 z1 z2 z3]⟩
    · rw [kpB_7]; simp (disch := omega) only [mu_ne, mu_eq]
    · rw [kpB_7]; simp (disch := omega) only [mu_ne, mu_eq]
    · rw [kpB_7] at j1
      rw [kpB_j (by omega) (by omega)]
      by_cases e : j = pn B
      · subst e
        have g1 := pkd_congr (w := 4) (f := pC (kpB B) (pn B)) (g := B 116) (B 114 2).toNat (fun i i0 i1 => (kp_new i0 (by omega)).1)
        have g2 := pkd_congr (w := 2) (f := pT (kpB B) (pn B)) (g := B 117) (B 114 2).toNat (fun i i0 i1 => (kp_new i0 (by omega)).2)
        rw [g1, g2, ← hP.1, ← hP.2]
        simp (disch := omega) only [mu_ne, mu_eq]
        exact ⟨trivial, trivial⟩
      · have g1 := pkd_congr (w := 4) (f := pC (kpB B) j) (g := pC B (j + (if B 114 7 = 20 then 1 else 0))) (B 114 2).toNat (fun i i0 i1 => (kp_old j0 (by omega) h7 i0 (by omega)).1)
        have g2 := pkd_congr (w := 2) (f := pT (kpB B) j) (g := pT B (j + (if B 114 7 = 20 then 1 else 0))) (B 114 2).toNat (fun i i0 i1 => (kp_old j0 (by omega) h7 i0 (by omega)).2)
        rw [g1, g2]
        simp (disch := omega) only [mu_ne]
        rw [(x4 j j0 (by omega)).1, (x4 j j0 (by omega)).2]
        refine c3 _ ?_ ?_
        · split <;> omega
        · have : j < pn B := by omega
          unfold pn at this
          split <;> split at this <;> omega
  unfold FX2_keepPast
  rw [c1]
  by_cases e : B 114 7 < 20
  · have hpn : pn B = B 114 7 := by unfold pn; rw [if_neg (by omega)]
    rw [if_pos e]
    refine fin s (by rw [c1, hpn]) (by rw [c2, hpn]) rfl (fun j j0 j1 => ?_) (fun a _ _ _ _ => rfl)
    rw [if_neg (by omega), show j + 0 = j by omega]; exact ⟨rfl, rfl⟩
  · have e20 : B 114 7 = 20 := by omega
    have hpn : pn B = 19 := by unfold pn; rw [if_pos e20]
    rw [if_neg e]
    have d1 : FX7_dropFirst N s (q + 10) = some (mu (cpm s (q + 11) 1 (q + 11) 0 19) (q + 10) 1 19) := by
      unfold FX7_dropFirst FX7_dropFirst_b36
      have hl : ((sh (q + 10 + 1)).2 : Int) = 20 := by show ((sh (q + 11)).2 : Int) = 20; rw [h11]; rfl
      rw [c1, e20, if_neg (by omega), hl, w32_id (by omega) (by omega), cp_ok (by omega) (by omega) (by omega) (by omega) (by omega), Option.bind_some, pt_ok, Option.bind_some, cpm_ne (by omega), c1, e20, w32_id (by omega) (by omega)]
      rfl
    rw [d1, Option.bind_some]
    obtain ⟨x, hx⟩ : ∃ x, x = mu (cpm s (q + 11) 1 (q + 11) 0 19) (q + 10) 1 19 := ⟨_, rfl⟩
    have xo : ∀ a, a ≠ q + 10 → a ≠ q + 11 → x a = s a := fun a z0 z1 => by
      rw [hx, mu_rw z0]; funext i; rw [cpm_ne (by omega)]
    have x11 : ∀ j, 0 ≤ j → j < 19 → x (q + 11) j = s (q + 11) (j + 1) := fun j j0 j1 => by
      rw [hx, mu_ne (by omega), cpm_in (by omega) (by omega), show j - 0 + 1 = j + 1 by omega]
    have x10 : x (q + 10) 1 = 19 := by rw [hx, mu_eq]
    rw [← hx]
    have x12 : x (q + 12) 1 = 20 := by rw [xo _ (by omega) (by omega), c2, e20]
    have d2 : FX7_dropFirst N x (q + 12) = some (mu (cpm x (q + 13) 1 (q + 13) 0 19) (q + 12) 1 19) := by
      unfold FX7_dropFirst FX7_dropFirst_b36
      have hl : ((sh (q + 12 + 1)).2 : Int) = 20 := by show ((sh (q + 13)).2 : Int) = 20; rw [h13]; rfl
      rw [x12, if_neg (by omega), hl, w32_id (by omega) (by omega), cp_ok (by omega) (by omega) (by omega) (by omega) (by omega), Option.bind_some, pt_ok, Option.bind_some, cpm_ne (by omega), x12, w32_id (by omega) (by omega)]
      rfl
    rw [d2, Option.bind_some]
    refine fin _ ?_ ?_ ?_ (fun j j0 j1 => ?_) (fun a z0 z1 z2 z3 => ?_)
    · rw [mu_ne (by omega), cpm_ne (by omega), x10, hpn]
    · rw [mu_eq, hpn]
    · rw [mu_rw (by omega)]; funext i; rw [cpm_ne (by omega), xo _ (by omega) (by omega)]
    · rw [hpn] at j1
      rw [if_pos e20, mu_ne (by omega), cpm_ne (by omega), x11 j j0 j1, mu_ne (by omega), cpm_in (by omega) (by omega), xo _ (by omega) (by omega), show j - 0 + 1 = j + 1 by omega]
      exact ⟨rfl, rfl⟩
    · rw [mu_rw z2]; funext i; rw [cpm_ne (by omega), xo a z0 z1]
/-- a house whose floor, past and nights have become others -/
theorem HR_past {s s' B B' : iv_M} {q : Nat} (h : HR s q B) (rows : ∀ a, (a = q + 8 ∨ a = q + 9 ∨ (q + 14 ≤ a ∧ a ≤ q + 21)) → s' a = s a) (rq : ∀ i, i ≠ 6 → s' q i = s q i) (h6 : s' q 6 = B' 114 6) (b : ∀ j, j ≠ 6 → j ≠ 7 → B' 114 j = B 114 j) (b' : ∀ a, (a = 115 ∨ (118 ≤ a ∧ a ≤ 120) ∨ (123 ≤ a ∧ a ≤ 131)) → B' a = B a) (hF : FRc s' (q + 1) B') (hP : FP s' (q + 1) B') (h4 : HR4 s' q B') : HR s' q B' := by
  obtain ⟨h1, _, h3, _, h5, h6'⟩ := h
  have dc : dC B' = dC B := by funext j r; unfold dC; rw [b' 123 (by omega)]
  have dt : dT B' = dT B := by funext j r; unfold dT; rw [b' 123 (by omega)]
  refine ⟨?_, ⟨hF, hP⟩, ?_, h4, ?_, ?_⟩
  · unfold HR1 HB at h1 ⊢
    rw [rq 0 (by omega), rq 1 (by omega), rq 2 (by omega), rq 3 (by omega), rq 4 (by omega), rq 5 (by omega), h6, rq 7 (by omega), rq 8 (by omega), rows (q + 9) (by omega), b 0 (by omega) (by omega), b 2 (by omega) (by omega), b 3 (by omega) (by omega), b 4 (by omega) (by omega), b 5 (by omega) (by omega), b 11 (by omega) (by omega), b 12 (by omega) (by omega), b 13 (by omega) (by omega), b' 118 (by omega), b' 120 (by omega)]
    obtain ⟨z1, z2, z3, z4, z5, z6, z7, z8⟩ := h1
    exact ⟨z1, z2, z3, z4, z5, rfl, z7, z8⟩
  · unfold HR3 at h3 ⊢; rw [rows (q + 8) (by omega), b' 119 (by omega)]; exact h3
  · unfold HR5 at h5 ⊢; rw [dc, dt, rows (q + 14) (by omega), rows (q + 15) (by omega), b 11 (by omega) (by omega), b 2 (by omega) (by omega)]; exact h5
  · unfold HR6 at h6' ⊢; rw [rows (q + 16) (by omega), rows (q + 17) (by omega), rows (q + 18) (by omega), rows (q + 19) (by omega), rows (q + 20) (by omega), rows (q + 21) (by omega), b 8 (by omega) (by omega), b 9 (by omega) (by omega), b 10 (by omega) (by omega), b' 124 (by omega), b' 125 (by omega), b' 126 (by omega), b' 127 (by omega), b' 128 (by omega), b' 129 (by omega), b' 130 (by omega), b' 131 (by omega)]; exact h6'
theorem WHm_past {m m' : Int} {B B' : iv_M} (h : WHm m B) (b : ∀ j, j ≠ 6 → j ≠ 7 → B' 114 j = B 114 j) (b' : ∀ a, (a = 115 ∨ (118 ≤ a ∧ a ≤ 120) ∨ (123 ≤ a ∧ a ≤ 131)) → B' a = B a) (hW : Wf B') (h6 : -m' ≤ B' 114 6 ∧ B' 114 6 ≤ m') (h7 : 0 ≤ B' 114 7 ∧ B' 114 7 ≤ 20) (hv : ∀ j, 0 ≤ j → j < B' 114 7 → FV B' (pC B' j) (pT B' j)) : WHm m' B' := by
  obtain ⟨_, ⟨a1, a2, a3, a4, a5, a6, a7, a8, a9, a10, a11, a12⟩, ⟨e1, e2, e3, e4, e5, e6, e7, e8⟩⟩ := h
  have dc : dC B' = dC B := by funext j r; unfold dC; rw [b' 123 (by omega)]
  have dt : dT B' = dT B := by funext j r; unfold dT; rw [b' 123 (by omega)]
  have fv : FV B' = FV B := by funext f g; unfold FV; rw [b 0 (by omega) (by omega), b 1 (by omega) (by omega), b 2 (by omega) (by omega)]
  have iw : isW B' = isW B := by funext k r o; unfold isW; rw [b 2 (by omega) (by omega)]
  have c2 := b 2 (by omega) (by omega)
  have c3 := b 3 (by omega) (by omega)
  refine ⟨hW, ⟨by rw [c3]; exact a1, by rw [b 4 (by omega) (by omega)]; exact a2, by rw [b 5 (by omega) (by omega)]; exact a3, h6, h7, by rw [b 8 (by omega) (by omega)]; exact a6, by rw [b 9 (by omega) (by omega)]; exact a7, by rw [b 10 (by omega) (by omega)]; exact a8, by rw [b 11 (by omega) (by omega)]; exact a9, by rw [b 12 (by omega) (by omega)]; exact a10, by rw [b 13 (by omega) (by omega)]; exact a11, by rw [b 0 (by omega) (by omega), c2]; exact a12⟩, ⟨by rw [c2, b' 118 (by omega)]; exact e1, by rw [b' 119 (by omega)]; exact e2, by rw [c3, c2, b' 120 (by omega)]; exact e3, hv, by rw [b 11 (by omega) (by omega), fv, dc, dt]; exact e5, by rw [iw, b 8 (by omega) (by omega), b' 124 (by omega), b' 125 (by omega), b' 126 (by omega)]; exact e6, by rw [b 9 (by omega) (by omega), c3, b' 127 (by omega), b' 128 (by omega), b' 129 (by omega)]; exact e7, by rw [b 10 (by omega) (by omega), c2, b' 130 (by omega), b' 131 (by omega)]; exact e8⟩⟩
theorem WHm_kp {m : Int} {B : iv_M} (h : WHm m B) : WHm (m + 1) (kpB B) := by
  have h' := h
  obtain ⟨hW, ⟨a1, a2, a3, a4, a5, _⟩, ⟨e1, e2, e3, e4, _⟩⟩ := h'
  have hp := pn_rng a5.1 a5.2
  have hr := hW.1.2.2.2.2.2.1
  refine WHm_past h (fun j z0 z1 => kpB_j z0 z1) (fun a ha => kpB_o (by omega) (by omega)) (ew_Wf Ew_kp hW) (by rw [kpB_6]; omega) (by rw [kpB_7]; omega) (fun j j0 j1 => ?_)
  rw [kpB_7] at j1
  by_cases e : j = pn B
  · subst e
    exact FV_congr (kpB_j (by omega) (by omega)) (kpB_j (by omega) (by omega)) (kpB_j (by omega) (by omega)) (fun r r0 r1 => kp_new r0 (by omega)) (Wf_FV hW)
  · refine FV_congr (kpB_j (by omega) (by omega)) (kpB_j (by omega) (by omega)) (kpB_j (by omega) (by omega)) (fun r r0 r1 => kp_old j0 (by omega) a5.2 r0 (by omega)) (e4 (j + (if B 114 7 = 20 then 1 else 0)) ?_ ?_)
    · split <;> omega
    · have : j < pn B := by omega
      unfold pn at this
      split <;> split at this <;> omega
theorem wlk_row {B : iv_M} {k r o : Int} {a : Nat} (h : a ≠ 116) (h1 : a ≠ 117) (h2 : a ≠ 121) : wlk B k r o a = B a := by funext i; exact wlk_o h h1 h2
theorem WHm_wlk {m : Int} {B : iv_M} {k r o : Int} (h : WHm m B) (hi : isW B k r o) (hs : slO B k r o) : WHm m (wlk B k r o) := by
  have e4 : wlk B k r o 114 = B 114 := wlk_row (by omega) (by omega) (by omega)
  have e22 : wlk B k r o 122 = B 122 := wlk_row (by omega) (by omega) (by omega)
  have pc : pC (wlk B k r o) = pC B := by funext j r; unfold pC; rw [e22]
  have pt : pT (wlk B k r o) = pT B := by funext j r; unfold pT; rw [e22]
  have fv : FV (wlk B k r o) = FV B := by funext f g; unfold FV; rw [e4]
  refine WHm_past h (fun j _ _ => by rw [e4]) (fun a ha => wlk_row (by omega) (by omega) (by omega)) (Wf_wlk h.1 hi hs) (by rw [e4]; exact h.2.1.2.2.2.1) (by rw [e4]; exact h.2.1.2.2.2.2.1) ?_
  rw [e4, pc, pt, fv]; exact h.2.2.2.2.2.1
theorem OZ_wlk {B : iv_M} {k r o : Int} (hO : OZ B) (hW : Wf B) (h : isW B k r o) (hs : slO B k r o) : OZ (wlk B k r o) := by
  have hr := hW.1.2.2.2.2.2.1
  have hi := h
  unfold isW at h
  obtain ⟨g1, g2, _⟩ := hW.room h.1 h.2.1
  unfold wlk
  by_cases e1 : k = 1
  · rw [if_pos e1]
    obtain ⟨s1, s2⟩ := hs e1
    obtain ⟨n1, n2, _⟩ := nb_in hW.1 s1
    exact OZ_mu (OZ_mu (OZ_mu hO (fun _ _ => by unfold ln; simp; omega)) (fun _ _ => by unfold ln; simp; omega)) (fun _ _ => by unfold ln; simp; omega)
  · rw [if_neg e1]
    by_cases e2 : k = 2
    · rw [if_pos e2]
      obtain ⟨k1, k2, _⟩ := hW.room (r := o) (by omega) (by omega)
      exact OZ_mu (OZ_mu (OZ_mu (OZ_mu hO (fun _ _ => by unfold ln; simp; omega)) (fun _ _ => by unfold ln; simp; omega)) (fun _ _ => by unfold ln; simp; omega)) (fun _ _ => by unfold ln; simp; omega)
    · rw [if_neg e2]
      exact OZ_mu hO (fun _ _ => by unfold ln; simp; omega)
theorem OZ_kp {B : iv_M} (hO : OZ B) (h0 : 0 ≤ B 114 7) (h7 : B 114 7 ≤ 20) : OZ (kpB B) := by
  have hp := pn_rng h0 h7
  intro a a0 a1 i hi
  by_cases e : a = 122
  · subst e
    have : ln 122 = 480 := by decide
    rw [this] at hi
    rw [kpB_22]
    unfold kpR
    rw [if_neg (by omega), if_neg (by omega)]
    exact hO 122 (by omega) (by omega) i (by rw [this]; exact hi)
  · by_cases e2 : a = 114
    · subst e2
      have : ln 114 = 14 := by decide
      rw [this] at hi
      rw [kpB_j (by omega) (by omega)]
      exact hO 114 (by omega) (by omega) i (by rw [this]; exact hi)
    · rw [kpB_o e2 e]; exact hO a a0 a1 i hi
theorem eb_kp {B B' : iv_M} (h : Eb B B') : Eb (kpB B) (kpB B') := by
  have h4 := h 114 (by omega) (by omega)
  have h6 := h 116 (by omega) (by omega)
  have h7 := h 117 (by omega) (by omega)
  have h22 := h 122 (by omega) (by omega)
  intro a a0 a1
  funext i
  have e : pn B' = pn B := by unfold pn; rw [h4]
  have e2 : kpR B' i = kpR B i := by unfold kpR; rw [e, h4, h6, h7, h22]
  unfold kpB
  rw [e, e2, h4, h a a0 a1]
theorem kp_isW {B : iv_M} {k r o : Int} (h : isW B k r o) : isW (kpB B) k r o := ew_isW Ew_kp h
theorem kp_slO {B : iv_M} {k r o : Int} (h : slO B k r o) : slO (kpB B) k r o := ew_slO Ew_kp h
theorem night_ok {N q : Nat} {s B B' : iv_M} {w : Int} (hN : 1000 ≤ N) (hq : (s 0 4).toNat = q) (hq2 : q = 9 ∨ q = 31) (hH : HR s q B) (hW : Wf B) (h7 : 0 ≤ B 114 7 ∧ B 114 7 ≤ 20) (h6 : -100000 ≤ B 114 6 ∧ B 114 6 ≤ 100000) (c0 : 0 ≤ s 0 15) (c1 : s 0 15 ≤ 100000) (hw : (w = -1 ∧ B' = kpB B) ∨ ∃ k r o, w = 256 * k + 16 * r + o ∧ isW B k r o ∧ slO B k r o ∧ B' = wlk (kpB B) k r o) : ∃ s', FX11_nightComes N s 0 w = some s' ∧ HR s' q B' ∧ s' 0 15 = s 0 15 + 1 ∧ (∀ i, i ≠ 15 → s' 0 i = s 0 i) ∧ ∀ a, a ≠ 0 → (a < q ∨ q + 13 < a) → s' a = s a := by
  obtain ⟨j1, ⟨j2, j2'⟩, j3, j4, j5, j6⟩ := id hH
  have hHQ : HQ q := by
    rcases hq2 with z | z
    · exact Or.inl z
    · exact Or.inr (Or.inl z)
  have hQ := HQ_TF hHQ
  have hQ2 := HQ_rows hHQ
  obtain ⟨s1, k1, k2, k3⟩ := keepPast_ok (N := N) hQ2.2.1 hQ2.2.2.1 h7.1 h7.2 hW.1.2.2.2.2.1 hW.1.2.2.2.2.2.1 j2' j4
  have hF1 : FRc s1 (q + 1) (kpB B) := ew_FRc Ew_kp (FRc_ext (fun a z0 z1 => k3 a (by omega) (by omega) (by omega) (by omega)) j2)
  have hP1 : FP s1 (q + 1) (kpB B) := ew_FP Ew_kp (FP_ext (k3 _ (by omega) (by omega) (by omega) (by omega)) j2')
  have hB : (∀ j, B' 114 j = kpB B 114 j) ∧ ∀ a, a ≠ 116 → a ≠ 117 → a ≠ 121 → B' a = kpB B a := by
    rcases hw with ⟨_, e⟩ | ⟨k, r, o, _, _, _, e⟩
    · rw [e]; exact ⟨fun _ => rfl, fun _ _ _ _ => rfl⟩
    · rw [e]; exact ⟨fun j => wlk_o (by omega) (by omega) (by omega), fun a z0 z1 z2 => wlk_row z0 z1 z2⟩
  have hq1 : (s1 0 4).toNat = q := by rw [k3 0 (by omega) (by omega) (by omega) (by omega)]; exact hq
  have fin : ∀ s2, FRc s2 (q + 1) B' → FP s2 (q + 1) B' → (∀ a, (a < q + 1 ∨ q + 6 < a) → s2 a = s1 a) → ∃ s', FX11_nightComes_b23 N s2 0 = some s' ∧ HR s' q B' ∧ s' 0 15 = s 0 15 + 1 ∧ (∀ i, i ≠ 15 → s' 0 i = s 0 i) ∧ ∀ a, a ≠ 0 → (a < q ∨ q + 13 < a) → s' a = s a := by
    intro s2 f1 f2 f3
    have e0 : s2 0 = s 0 := by rw [f3 0 (by omega), k3 0 (by omega) (by omega) (by omega) (by omega)]
    have eq : s2 q = s q := by rw [f3 q (by omega), k3 q (by omega) (by omega) (by omega) (by omega)]
    have e6 : s q 6 = B 114 6 := j1.2.2.2.2.2.1
    refine ⟨mu (mu s2 q 6 (B 114 6 + 1)) 0 15 (s 0 15 + 1), ?_, ?_, mu_eq, fun i hi => by rw [mu_ne (by omega), mu_ne (by omega), e0], fun a z0 z1 => by rw [mu_rw z0, mu_rw (by omega), f3 a (by omega), k3 a (by omega) (by omega) (by omega) (by omega)]⟩
    · unfold FX11_nightComes_b23
      rw [e0, hq, eq, e6, pt_ok, Option.bind_some, pt_ok, Option.bind_some, mu_ne (by omega), e0, w32_id (by omega) (by omega), w32_id (by omega) (by omega)]
    · refine HR_past hH (fun a ha => by rw [mu_rw (by omega), mu_rw (by omega), f3 a (by omega), k3 a (by omega) (by omega) (by omega) (by omega)]) (fun i hi => by rw [mu_ne (by omega), mu_ne (by omega), eq]) (by rw [mu_ne (by omega), mu_eq, hB.1, kpB_6]) (fun j z0 z1 => by rw [hB.1, kpB_j z0 z1]) (fun a ha => by rw [hB.2 a (by omega) (by omega) (by omega), kpB_o (by omega) (by omega)]) (FRc_ext (fun a z0 z1 => by rw [mu_rw (by omega), mu_rw (by omega)]) f1) (FP_ext (by rw [mu_rw (by omega), mu_rw (by omega)]) f2) ?_
      have ep : pC B' = pC (kpB B) := by funext j r; unfold pC; rw [hB.2 122 (by omega) (by omega) (by omega)]
      have et : pT B' = pT (kpB B) := by funext j r; unfold pT; rw [hB.2 122 (by omega) (by omega) (by omega)]
      unfold HR4 at k2 ⊢
      rw [ep, et, hB.1, hB.1]
      have r : ∀ a, q + 10 ≤ a → a ≤ q + 13 → mu (mu s2 q 6 (B 114 6 + 1)) 0 15 (s 0 15 + 1) a = s1 a := fun a z0 z1 => by rw [mu_rw (by omega), mu_rw (by omega), f3 a (by omega)]
      rw [r (q + 10) (by omega) (by omega), r (q + 11) (by omega) (by omega), r (q + 12) (by omega) (by omega), r (q + 13) (by omega) (by omega)]
      exact k2
  unfold FX11_nightComes
  rw [hq, k1, Option.bind_some]
  rcases hw with ⟨e1, e2⟩ | ⟨k, r, o, e1, e2, e3, e4⟩
  · rw [if_pos e1]
    exact fin s1 (by rw [e2]; exact hF1) (by rw [e2]; exact hP1) (fun a _ => rfl)
  · have hne : ¬ w = -1 := by unfold isW at e2; omega
    obtain ⟨s2, g1, g2, g3, g4⟩ := go_ok (N := N) (by omega) hQ.1 (ew_Wf Ew_kp hW) hF1 hP1 (kp_isW e2) (kp_slO e3)
    rw [if_neg hne, hq1, e1]
    unfold FX1_go
    rw [g1, Option.bind_some, Option.bind_some]
    exact fin s2 (by rw [e4]; exact g2) (by rw [e4]; exact g3) (fun a ha => by funext i; exact g4 a i (by omega))
