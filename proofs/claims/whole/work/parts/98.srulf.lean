-- RULE: the call
def krL (N : Nat) : iv_M → Int → Option (Int × iv_M) := fun (s_2991 : iv_M) (x2992_1 : Int) => ((pt s_2991 113 28 0).bind fun s_2993 => ((wr s_2993 142 6 (s_2993 113 31) x2992_1).bind fun s_2996 => (if (s_2996 113 30) = 0 then (FX12_rule_b79 N s_2996 113 1 (s_2996 113 32) 113) else (FX12_rule_b79 N s_2996 113 0 (s_2996 113 32) 113))))
theorem ref_rule {N : Nat} {r : iv_M} {sl : Int} (h : r 113 32 = sl) (h6 : sl < 6) : FX12_rule N r 113 = FX12_rule_l27 N 113 (krL N) N (rIr r sl) 0 1 := by
  unfold FX12_rule FX12_starts
  rw [if_neg (by omega), h, pt_ok, Option.bind_some, pt_ok, Option.bind_some, pt_ok, Option.bind_some, pt_ok, Option.bind_some, pt_ok, Option.bind_some, pt_ok, Option.bind_some]
  rfl
def krS (r : iv_M) (sl n v : Int) : iv_M := mu (mu (mu r 113 28 0) 142 sl n) 113 32 v
theorem krL_0 {N : Nat} {r : iv_M} {sl n : Int} (h31 : r 113 31 = sl) (h32 : r 113 32 = sl) (h30 : r 113 30 = 0) (h0 : 0 ≤ sl) (h6 : sl < 6) : krL N r n = some (sl, krS r sl n (sl + 1)) := by
  unfold krL
  have e1 : mu r 113 28 0 113 31 = sl := by rw [mu_ne (by omega)]; exact h31
  have e2 : mu (mu r 113 28 0) 142 sl n 113 30 = 0 := by rw [mu_ne (by omega), mu_ne (by omega)]; exact h30
  have e3 : mu (mu r 113 28 0) 142 sl n 113 32 = sl := by rw [mu_ne (by omega), mu_ne (by omega)]; exact h32
  rw [pt_ok, Option.bind_some, e1, wr_ok h0 h6, Option.bind_some, if_pos e2, e3]
  unfold FX12_rule_b79
  rw [pt_ok, Option.bind_some, w32_id (by omega) (by omega)]
  have e4 : mu (mu (mu r 113 28 0) 142 sl n) 113 32 (sl + 1) 113 30 = 0 := by rw [mu_ne (by omega)]; exact e2
  have e5 : mu (mu (mu r 113 28 0) 142 sl n) 113 32 (sl + 1) 113 32 = sl + 1 := by rw [mu_eq]
  rw [if_pos (by rw [e4]; decide)]
  unfold FX12_rule_b106
  rw [e5, w32_id (by omega) (by omega), show sl + 1 - 1 = sl by omega]
  rfl
theorem krL_f {N : Nat} {r : iv_M} {sl n ft : Int} (h31 : r 113 31 = sl) (h32 : r 113 32 = sl) (h30 : r 113 30 = ft) (f0 : 0 < ft) (h0 : 0 ≤ sl) (h6 : sl < 6) : krL N r n = some (w32 (-2 - ft), krS r sl n sl) := by
  unfold krL
  have e1 : mu r 113 28 0 113 31 = sl := by rw [mu_ne (by omega)]; exact h31
  have e2 : mu (mu r 113 28 0) 142 sl n 113 30 = ft := by rw [mu_ne (by omega), mu_ne (by omega)]; exact h30
  have e3 : mu (mu r 113 28 0) 142 sl n 113 32 = sl := by rw [mu_ne (by omega), mu_ne (by omega)]; exact h32
  rw [pt_ok, Option.bind_some, e1, wr_ok h0 h6, Option.bind_some, if_neg (by omega), e3]
  unfold FX12_rule_b79
  rw [pt_ok, Option.bind_some, show sl + 0 = sl by omega, w32_id (by omega) (by omega)]
  have e4 : mu (mu (mu r 113 28 0) 142 sl n) 113 32 sl 113 30 = ft := by rw [mu_ne (by omega)]; exact e2
  rw [if_neg (by rw [e4]; omega)]
  unfold FX12_rule_b106
  rw [e4]
  rfl
theorem CE_cp {c c' : iv_M} {q : Nat} : ∀ (E : List (Int × Int)) (i : Int), (∀ j, i ≤ j → j < i + E.length → c' q j = c 60 j) → CE c 60 i E → CE c' q i E := by
  intro E
  induction E with
  | nil => intro i _ _; trivial
  | cons e es ih =>
    intro i h hE
    have hl : ((e :: es).length : Int) = (es.length : Int) + 1 := by simp
    exact ⟨by rw [h i (by omega) (by omega)]; exact hE.1, ih (i + 1) (fun j j0 j1 => h j (by omega) (by omega)) hE.2⟩
theorem sh_rules {sl : Int} (h0 : 0 ≤ sl) (h6 : sl < 6) : ((sh (3 + sl.toNat)).2 : Int) = 401 := by
  obtain ⟨k, rfl⟩ : ∃ k : Nat, sl = k := ⟨sl.toNat, by omega⟩
  rw [Int.toNat_natCast]
  have : k = 0 ∨ k = 1 ∨ k = 2 ∨ k = 3 ∨ k = 4 ∨ k = 5 := by omega
  rcases this with rfl | rfl | rfl | rfl | rfl | rfl <;> decide
theorem copyTo_ok {N : Nat} {s : iv_M} {q : Nat} (hN : 1000 ≤ N) (hq : ((sh q).2 : Int) = 401) (h57 : q ≠ 57) (h60 : q ≠ 60) (l0 : 0 ≤ s 57 2) (l1 : s 57 2 ≤ 400) : FX8_copyTo N s 57 q = some (cpm (flM s q 401 0) 60 0 q 0 (s 57 2)) := by
  unfold FX8_copyTo
  simp only [Nat.reduceAdd]
  have e : flM s q 401 0 57 2 = s 57 2 := if_neg (by omega)
  have mn : mnI (s 57 2) 401 = s 57 2 := by unfold mnI; rw [if_neg (by omega)]
  rw [fill_ok hq (by omega), Option.bind_some, hq, e, mn, cp_ok (by omega) (by omega) l0 (by omega) (by omega), Option.bind_some]
theorem ct_rule {t : Int} {N : Nat} {s : iv_M} (hN : 1000 ≤ N) (h : Inv t s) (t0 : 0 ≤ t) (t1 : t ≤ 1000) : ∃ a s1 s2, FX11_rule N s 0 = some (a, s1) ∧ FX12_rule N s1 113 = some (a, s2) ∧ Inv (t + 1) s2 := by
  have hI := h
  obtain ⟨h1, h2, h3, h4, h5, h6, h7, h8, h9, h10⟩ := h
  obtain ⟨u1, u2, u3, u4, u5⟩ := id h5
  by_cases g6 : s 0 3 < 6
  rotate_left
  · refine ⟨-1, s, s, ?_, ?_, HR1_mono (by omega) hI⟩
    · unfold FX11_rule; rw [if_neg g6]
    · unfold FX12_rule; rw [if_pos (by omega)]
  obtain ⟨sl, hsl⟩ : ∃ sl, sl = s 0 3 := ⟨_, rfl⟩
  have s00 : 0 ≤ sl := by omega
  have s06 : sl < 6 := by omega
  obtain ⟨T1, T2, T3, T4, T5⟩ := id h4
  have hT : TX (s 1) (s 0 1) := ⟨T2, T3, T5⟩
  obtain ⟨⟨k0, k1⟩, k37, k56, kmk⟩ := id h9
  obtain ⟨sc, sr0, n0, ft, a1, _, a3, _, a5, _, a7⟩ := rule_both (N := N) (s := s) (r := s) (b := s 1) (L := s 0 1) (sl := sl) (kr := krL N) hN hT s00 s06 (fun _ _ _ => rfl) T1.symm (fun i i0 i1 => (T4 i i0 i1).symm) k37
  have sc0 : sc 0 = s 0 := a3 0 (by decide) (by decide) (by decide) (by decide)
  by_cases e : sc 58 4 = 0
  rotate_left
  · -- refused
    obtain ⟨s1, hs1⟩ : ∃ s1, s1 = mu sc 0 1 0 := ⟨_, rfl⟩
    have s1o : ∀ a, a ≠ 57 → a ≠ 58 → a ≠ 60 → a ≠ 61 → a ≠ 0 → s1 a = s a := fun a x1 x2 x3 x4 x5 => by rw [hs1, mu_rw x5]; exact a3 a x1 x2 x3 x4
    have c1 : FX11_rule N s 0 = some (w32 (-2 - sc 58 4), s1) := by
      unfold FX11_rule
      simp only [Nat.zero_add]
      rw [if_pos g6, a1, Option.bind_some]
      dsimp only
      rw [pt_ok, Option.bind_some, if_neg e, hs1]
    have r113 := s1o 113 (by decide) (by decide) (by decide) (by decide) (by decide)
    obtain ⟨sc2, sr, n, ft2, b1, b2, b3, b4, b5, b6, b7⟩ := rule_both (N := N) (s := s) (r := s1) (b := s 1) (L := s 0 1) (sl := sl) (kr := krL N) hN hT s00 s06 (fun _ _ _ => rfl) (by rw [r113]; exact T1.symm) (fun i i0 i1 => by rw [s1o 139 (by decide) (by decide) (by decide) (by decide) (by decide)]; exact (T4 i i0 i1).symm) (by rw [r113]; exact k37)
    have : sc2 = sc := by rw [a1] at b1; injection b1 with b1; injection b1 with _ b1; exact b1.symm
    rw [this] at b5
    have ftp : 0 < ft2 ∧ ft2 ≤ 10000 := by
      rcases b7 with u | u
      · rw [u.1] at b5; exact absurd b5 e
      · exact u
    have q31 : sr 113 31 = sl := by rw [b4.2.2.2 31 (by omega) (by omega) (by omega) (by omega) (by omega) (by omega), rIr_i, if_neg (by omega), if_pos rfl]
    have qi : ∀ i, i ≠ 29 → i ≠ 30 → i ≠ 31 → i ≠ 33 → i ≠ 34 → i ≠ 35 → i ≠ 36 → sr 113 i = s 113 i := fun i x1 x2 x3 x4 x5 x6 x7 => by rw [b4.2.2.2 i x1 x2 x4 x5 x6 x7, rIr_i, if_neg (by omega), if_neg x3, r113]
    have q32 : sr 113 32 = sl := by rw [qi 32 (by omega) (by omega) (by omega) (by omega) (by omega) (by omega) (by omega)]; omega
    obtain ⟨s2, hs2⟩ : ∃ s2, s2 = krS sr sl n sl := ⟨_, rfl⟩
    have c2 : FX12_rule N s1 113 = some (w32 (-2 - sc 58 4), s2) := by
      rw [ref_rule (sl := sl) (by rw [r113]; omega) s06, b2, krL_f q31 q32 b6 ftp.1 s00 s06, ← hs2, b5]
    have s2o : ∀ a, a ≠ 113 → a ≠ 142 → s2 a = sr a := fun a x1 x2 => by rw [hs2]; unfold krS; rw [mu_rw x1, mu_rw x2, mu_rw x1]
    have s2u : ∀ a, a ≠ 113 → a ≠ 140 → a ≠ 141 → a ≠ 142 → a ≠ 143 → a ≠ 144 → a ≠ 145 → s2 a = s1 a := fun a x1 x2 x3 x4 x5 x6 x7 => by rw [s2o a x1 x4, b4.1 a x1 x2 x3 x5 x6 x7, rIr_o x1]
    have s20 : ∀ i, i ≠ 1 → s2 0 i = s 0 i := fun i hi => by rw [s2u 0 (by decide) (by decide) (by decide) (by decide) (by decide) (by decide) (by decide), hs1, mu_ne (by omega), sc0]
    have s2113 : ∀ i, i ≠ 28 → i ≠ 32 → s2 113 i = sr 113 i := fun i x1 x2 => by rw [hs2]; unfold krS; rw [mu_ne (by omega), mu_rw (by omega), mu_ne (by omega)]
    have hF : FrX (s 0 3) s s2 := by
      rw [← hsl]
      refine ⟨fun a x0 x1 x2 x3 x4 x5 x6 x7 x8 x9 x10 x11 x12 => ?_, fun j hj => ?_, fun j hj => ?_, fun j hj => ?_, fun i x1 x2 => s20 i x1, fun i hi => ?_⟩
      · rw [s2u a x5 x6 x7 x8 x9 x10 x11, s1o a x1 x2 x3 x4 x0]
      · obtain ⟨y1, y2⟩ := b4.2.1 j hj
        rw [s2o 140 (by decide) (by decide), s2o 141 (by decide) (by decide), y1, y2, rIr_o (by decide), rIr_o (by decide), s1o 140 (by decide) (by decide) (by decide) (by decide) (by decide), s1o 141 (by decide) (by decide) (by decide) (by decide) (by decide)]
        exact ⟨rfl, rfl⟩
      · obtain ⟨y1, y2⟩ := b4.2.2.1 j hj
        rw [s2o 143 (by decide) (by decide), s2o 144 (by decide) (by decide), y1, y2, rIr_o (by decide), rIr_o (by decide), s1o 143 (by decide) (by decide) (by decide) (by decide) (by decide), s1o 144 (by decide) (by decide) (by decide) (by decide) (by decide)]
        exact ⟨rfl, rfl⟩
      · rw [hs2]; unfold krS; rw [mu_rw (by omega), mu_ne (by omega), mu_rw (by omega), b4.1 142 (by decide) (by decide) (by decide) (by decide) (by decide) (by decide), rIr_o (by decide), s1o 142 (by decide) (by decide) (by decide) (by decide) (by decide)]
      · rw [s2113 i (by omega) (by omega), qi i (by omega) (by omega) (by omega) (by omega) (by omega) (by omega) (by omega)]
    refine ⟨_, s1, s2, c1, c2, Inv_rule hI hF g6 (Tp_0 ?_ ?_) ⟨Or.inl (s20 3 (by omega)), ?_⟩⟩
    · rw [s2u 0 (by decide) (by decide) (by decide) (by decide) (by decide) (by decide) (by decide), hs1, mu_eq]
    · rw [hs2]; unfold krS; rw [mu_ne (by omega), mu_rw (by omega), mu_eq]
    · rw [s20 3 (by omega), hs2]; unfold krS; rw [mu_eq, hsl]
  -- told
  obtain ⟨R0, hR0⟩ : ∃ R, BE sl s (rIr s sl) R sc sr0 := by
    rcases a7 with ⟨_, R, _, hR⟩ | u
    · exact ⟨R, hR⟩
    · omega
  clear a7
  have lc0 : 0 ≤ sc 57 2 := by rw [hR0.2.2.1.1]; omega
  have lc1 : sc 57 2 ≤ 400 := by
    have := rco_len (R := R0)
    have := hR0.2.1
    have := hR0.2.2.2.2.2.1
    rw [hR0.2.2.1.1]; omega
  obtain ⟨q, hq⟩ : ∃ q, q = 3 + sl.toNat := ⟨_, rfl⟩
  obtain ⟨w, hw⟩ : ∃ w, w = cpm (flM (mu sc 0 1 0) q 401 0) 60 0 q 0 (sc 57 2) := ⟨_, rfl⟩
  have wo : ∀ a, a ≠ q → w a = mu sc 0 1 0 a := fun a ha => by
    funext i
    rw [hw, cpm_ne (by omega)]; exact if_neg (by omega)
  have w03 : w 0 3 = sl := by rw [wo 0 (by omega), mu_ne (by omega), sc0, hsl]
  obtain ⟨s1, hs1⟩ : ∃ s1, s1 = mu w 0 3 (sl + 1) := ⟨_, rfl⟩
  have s1o : ∀ a, a ≠ 57 → a ≠ 58 → a ≠ 60 → a ≠ 61 → a ≠ 0 → a ≠ q → s1 a = s a := fun a x1 x2 x3 x4 x5 x6 => by rw [hs1, mu_rw x5, wo a x6, mu_rw x5]; exact a3 a x1 x2 x3 x4
  have c1 : FX11_rule N s 0 = some (sl, s1) := by
    unfold FX11_rule
    simp only [Nat.zero_add]
    rw [if_pos g6, a1, Option.bind_some]
    dsimp only
    have m03 : mu sc 0 1 0 0 3 = sl := by rw [mu_ne (by omega), sc0, hsl]
    have m57 : mu sc 0 1 0 57 2 = sc 57 2 := by rw [mu_ne (by omega)]
    have hg : gx 2 6 sl = some q := by unfold gx; rw [if_pos ⟨s00, s06⟩, hq]
    rw [pt_ok, Option.bind_some, if_pos e, m03, hg, Option.bind_some, copyTo_ok hN (by rw [hq]; exact sh_rules s00 s06) (by omega) (by omega) (by rw [m57]; exact lc0) (by rw [m57]; exact lc1), m57, ← hw, Option.bind_some, w03, w32_id (by omega) (by omega), pt_ok, Option.bind_some, ← hs1]
    have : s1 0 3 = sl + 1 := by rw [hs1, mu_eq]
    rw [this, w32_id (by omega) (by omega), show sl + 1 - 1 = sl by omega]
  have r113 := s1o 113 (by decide) (by decide) (by decide) (by decide) (by decide) (by omega)
  obtain ⟨sc2, sr, n, ft2, b1, b2, b3, b4, b5, b6, b7⟩ := rule_both (N := N) (s := s) (r := s1) (b := s 1) (L := s 0 1) (sl := sl) (kr := krL N) hN hT s00 s06 (fun _ _ _ => rfl) (by rw [r113]; exact T1.symm) (fun i i0 i1 => by rw [s1o 139 (by decide) (by decide) (by decide) (by decide) (by decide) (by omega)]; exact (T4 i i0 i1).symm) (by rw [r113]; exact k37)
  have esc : sc2 = sc := by rw [a1] at b1; injection b1 with b1; injection b1 with _ b1; exact b1.symm
  rw [esc] at b5 b7
  have f0 : ft2 = 0 := by omega
  obtain ⟨R, hn, hR⟩ : ∃ R, n = (R.length : Int) ∧ BE sl s (rIr s1 sl) R sc sr := by
    rcases b7 with u | u
    · exact u.2
    · omega
  clear b7
  have q31 : sr 113 31 = sl := by rw [b4.2.2.2 31 (by omega) (by omega) (by omega) (by omega) (by omega) (by omega), rIr_i, if_neg (by omega), if_pos rfl]
  have qi : ∀ i, i ≠ 29 → i ≠ 30 → i ≠ 31 → i ≠ 33 → i ≠ 34 → i ≠ 35 → i ≠ 36 → sr 113 i = s 113 i := fun i x1 x2 x3 x4 x5 x6 x7 => by rw [b4.2.2.2 i x1 x2 x4 x5 x6 x7, rIr_i, if_neg (by omega), if_neg x3, r113]
  have q32 : sr 113 32 = sl := by rw [qi 32 (by omega) (by omega) (by omega) (by omega) (by omega) (by omega) (by omega)]; omega
  obtain ⟨s2, hs2⟩ : ∃ s2, s2 = krS sr sl n (sl + 1) := ⟨_, rfl⟩
  have c2 : FX12_rule N s1 113 = some (sl, s2) := by
    rw [ref_rule (sl := sl) (by rw [r113]; omega) s06, b2, krL_0 q31 q32 (by rw [b6, f0]) s00 s06, ← hs2]
  have s2o : ∀ a, a ≠ 113 → a ≠ 142 → s2 a = sr a := fun a x1 x2 => by rw [hs2]; unfold krS; rw [mu_rw x1, mu_rw x2, mu_rw x1]
  have s2u : ∀ a, a ≠ 113 → a ≠ 140 → a ≠ 141 → a ≠ 142 → a ≠ 143 → a ≠ 144 → a ≠ 145 → s2 a = s1 a := fun a x1 x2 x3 x4 x5 x6 x7 => by rw [s2o a x1 x4, b4.1 a x1 x2 x3 x5 x6 x7, rIr_o x1]
  have s20 : s2 0 = s1 0 := s2u 0 (by decide) (by decide) (by decide) (by decide) (by decide) (by decide) (by decide)
  have s203 : s2 0 3 = sl + 1 := by rw [s20, hs1, mu_eq]
  have s2113 : ∀ i, i ≠ 28 → i ≠ 32 → s2 113 i = sr 113 i := fun i x1 x2 => by rw [hs2]; unfold krS; rw [mu_ne (by omega), mu_rw (by omega), mu_ne (by omega)]
  have s2142 : ∀ j, s2 142 j = if j = sl then n else s 142 j := fun j => by
    rw [hs2]; unfold krS; rw [mu_rw (by omega)]
    by_cases x : j = sl
    · rw [if_pos x, x, mu_eq]
    · rw [if_neg x, mu_ne (by omega), mu_rw (by omega), b4.1 142 (by decide) (by decide) (by decide) (by decide) (by decide) (by decide), rIr_o (by decide), s1o 142 (by decide) (by decide) (by decide) (by decide) (by decide) (by omega)]
  have hF : FrX (s 0 3) s s2 := by
    rw [← hsl]
    refine ⟨fun a x0 x1 x2 x3 x4 x5 x6 x7 x8 x9 x10 x11 x12 => ?_, fun j hj => ?_, fun j hj => ?_, fun j hj => ?_, fun i x1 x2 => ?_, fun i hi => ?_⟩
    · rw [s2u a x5 x6 x7 x8 x9 x10 x11, s1o a x1 x2 x3 x4 x0 (by rw [hq]; exact x12)]
    · obtain ⟨y1, y2⟩ := b4.2.1 j hj
      rw [s2o 140 (by decide) (by decide), s2o 141 (by decide) (by decide), y1, y2, rIr_o (by decide), rIr_o (by decide), s1o 140 (by decide) (by decide) (by decide) (by decide) (by decide) (by omega), s1o 141 (by decide) (by decide) (by decide) (by decide) (by decide) (by omega)]
      exact ⟨rfl, rfl⟩
    · obtain ⟨y1, y2⟩ := b4.2.2.1 j hj
      rw [s2o 143 (by decide) (by decide), s2o 144 (by decide) (by decide), y1, y2, rIr_o (by decide), rIr_o (by decide), s1o 143 (by decide) (by decide) (by decide) (by decide) (by decide) (by omega), s1o 144 (by decide) (by decide) (by decide) (by decide) (by decide) (by omega)]
      exact ⟨rfl, rfl⟩
    · rw [s2142 j, if_neg hj]
    · rw [s20, hs1, mu_ne (by omega), wo 0 (by omega), mu_ne (by omega), sc0]
    · rw [s2113 i (by omega) (by omega), qi i (by omega) (by omega) (by omega) (by omega) (by omega) (by omega) (by omega)]
  obtain ⟨r1, r2, ⟨r3, r4⟩, r5, ⟨r6, r7⟩, r8, r9, r10⟩ := hR
  have rl := rco_len (R := R)
  have s2q : ∀ j, 0 ≤ j → j < 401 → s2 q j = if j < sc 57 2 then sc 60 j else 0 := fun j j0 j1 => by
    rw [s2u q (by omega) (by omega) (by omega) (by omega) (by omega) (by omega) (by omega), hs1, mu_rw (by omega), hw]
    by_cases x : j < sc 57 2
    · rw [if_pos x, cpm_in j0 (by omega), show j - 0 + 0 = j by omega]
      show (if _ then _ else _) = _
      rw [if_neg (by omega), mu_rw (by omega)]
    · rw [if_neg x, cpm_ne (by omega)]; exact if_pos ⟨rfl, j0, j1⟩
  have hRUL : RUL s2 (s 0 3) R := by
    rw [← hsl]
    refine ⟨r1, r10, ?_, ?_, r2, by omega, ?_, by omega, ?_, ?_⟩
    · refine T34_RC R 0 0 (T34_ext R 0 0 (by omega) (fun j _ _ => ?_) r7) (EN_slot (fun j _ _ => ?_) _ 0 (by omega) (by omega) r6)
      · rw [s2o 143 (by decide) (by decide), s2o 144 (by decide) (by decide)]; exact ⟨rfl, rfl⟩
      · rw [s2o 140 (by decide) (by decide), s2o 141 (by decide) (by decide)]; exact ⟨rfl, rfl⟩
    · rw [s2142, if_pos rfl, hn]
    · rw [← hq]
      exact CE_cp _ 0 (fun j j0 j1 => by rw [s2q j j0 (by omega), if_pos (by omega)]) r4
    · rw [← hq, s2q _ (by omega) (by omega), if_neg (by omega)]
    · rw [rco_nvs]; exact r9
  refine ⟨sl, s1, s2, c1, c2, Inv_rule hI hF g6 (Tp_0 ?_ ?_) ⟨Or.inr ⟨by rw [s203, hsl], R, hRUL⟩, ?_⟩⟩
  · rw [s20, hs1, mu_ne (by omega), wo 0 (by omega), mu_eq]
  · rw [hs2]; unfold krS; rw [mu_ne (by omega), mu_rw (by omega), mu_eq]
  · rw [s203, hs2]; unfold krS; rw [mu_eq]
