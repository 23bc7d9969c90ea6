-- QUESTIONS that leave houses alone
theorem Inv_q {t t' : Int} {s s2 : iv_M} (hI : Inv t s) (ht : t ≤ t') (h0 : s2 0 = s 0) (hrow : ∀ a, ((1 ≤ a ∧ a ≤ 53) ∨ a = 64 ∨ a = 80 ∨ a = 81 ∨ a = 96 ∨ a = 97 ∨ (114 ≤ a ∧ a ≤ 131) ∨ (139 ≤ a ∧ a ≤ 144) ∨ a = 153 ∨ a = 172 ∨ a = 173 ∨ 174 ≤ a) → s2 a = s a) (h113 : ∀ i, (i = 28 ∨ i = 32 ∨ i = 37 ∨ i = 56) → s2 113 i = s 113 i) : Inv t' s2 := by
  obtain ⟨h1, h2, h3, h4, h5, h6, h7, h8, h9, h10⟩ := id hI
  obtain ⟨n1, n2, n3⟩ := now_ne h1
  have hE : Eb s s2 := fun a a0 a1 => hrow a (by omega)
  have h15 := h9.1
  obtain ⟨m1, m2⟩ := Me_er (Er.of_eb hE) (fun a ha => hrow a (by omega)) (by rw [h0]) ⟨h7, h8⟩
  refine Inv_mk hI ht (fun i _ => by rw [h0]) (by rw [h0]; omega) (fun a ha => hrow a (by omega)) h113 (HR_eb hE (HR_ext (fun a x y => hrow a (by omega)) h2)) (WH_mono ht (WH_eb hE h3)) (by rw [hE 114 (by omega) (by omega)]; exact h5.2.2.2.1) (fun a a0 a1 i hi => by rw [hE a a0 a1]; exact h10 a a0 a1 i hi) m1 m2
theorem Inv_df {t t' : Int} {s s2 : iv_M} (hI : Inv t s) (ht : t ≤ t') (h : Df s s2) : Inv t' s2 := Inv_q hI ht (h.1 0 (by omega) (by omega) (by omega)) (fun a ha => h.1 a (by omega) (by omega) (by omega)) (fun i hi => by rw [h.1 113 (by omega) (by omega) (by omega)])
theorem Inv_dg {t t' : Int} {s s2 : iv_M} (hI : Inv t s) (ht : t ≤ t') (h : Dg s s2) : Inv t' s2 := Inv_q hI ht (h.1 0 (by omega) (by omega) (by omega)) (fun a ha => h.1 a (by omega) (by omega) (by omega)) (fun i hi => h.2 i (by omega))
theorem Inv_scr {t t' : Int} {s s2 : iv_M} (hI : Inv t s) (ht : t ≤ t') (h : Scr s s2) : Inv t' s2 := Inv_q hI ht (h.1 0 (by omega) (by omega) (by omega)) (fun a ha => h.1 a (by omega) (by omega) (by omega)) (fun i hi => h.2 i (by omega) (by omega) (by omega))
theorem scr_fsM {s : iv_M} {j : Nat} : Scr s (fsM s j) := by
  refine ⟨fun a h1 h2 h3 => ?_, fun i h1 h2 h3 => ?_⟩
  · unfold fsM; split
    · rfl
    · rw [mu_rw h1, mu_rw h1]
  · unfold fsM; split
    · rfl
    · rw [mu_ne (by omega), mu_ne (by omega)]
theorem Inv.dh {t : Int} {s : iv_M} (h : Inv t s) : DH s (now s) s := by
  obtain ⟨h1, ⟨hr1, ⟨hF, hP⟩, hK, hH4, _⟩, ⟨hW, _⟩, _⟩ := h
  obtain ⟨n1, n2, n3⟩ := now_ne h1
  exact ⟨hW, hF, hK, by omega⟩
theorem ct_mismatch {t : Int} {N : Nat} {s : iv_M} {x : Int} (hN : 1000 ≤ N) (h : Inv t s) : ∃ a s2, FX11_mismatch N s 0 x = some a ∧ FX12_mismatch N s 113 x = some (a, s2) ∧ Inv (t + 1) s2 := by
  have hI := h
  obtain ⟨h1, ⟨hr1, ⟨hF, hP⟩, hK, hH4, _⟩, ⟨hW, _⟩, _⟩ := h
  have hq : (s 0 4).toNat = now s := rfl
  have hto := HR1_told hr1
  have hs := HR1_mono (t' := t + 1) (by omega) hI
  unfold FX11_mismatch FX12_mismatch FX11_mismatch_b19 FX12_mismatch_b19 FX11_mismatch_b82
  rw [hq, told_ref, Option.bind_some]
  by_cases e0 : s (now s) 0 = 0
  · rw [if_pos e0, if_neg (hto.mp e0), if_pos rfl]; exact ⟨-1, s, rfl, rfl, hs⟩
  have hp : 0 < s 114 0 := by
    by_cases z : 0 < s 114 0
    · exact z
    · exact absurd (hto.mpr z) e0
  rw [if_neg e0, if_pos hp, if_neg (show ¬ (1 : Int) = 0 by omega), FX12_in_ok, Option.bind_some]
  by_cases c : 0 ≤ x ∧ x ≤ 3
  · rw [if_neg (show ¬ x < 0 by omega), if_pos c.2, if_pos c, if_neg (show ¬ (1 : Int) = 0 by omega), FX1_mismatches_ok hF hW.1 hW.2.1 (by omega), FX1_firstMismatch_ok hF hW.1 (by omega), FX12_mismatches_ok (by omega) hW.1 hW.2.1, Option.bind_some, Option.bind_some, Option.bind_some]
    dsimp only
    have hi := Inv_scr (t' := t + 1) hI (by omega) (scr_fsM (s := s) (j := 64))
    have m0 := mm_bd s
    have hz := ffb_zero (f := mis s) (fun i => mi_01 _ _ _) 64
    rw [mis_mm hW.1 hW.2.1] at hz
    have hfe := first_eq hW.1 hW.2.1
    unfold FX12_mismatch_b34 FX12_mismatch_b47 FX12_mismatch_b48 FX12_mismatch_b81
    by_cases x0 : x = 0
    · rw [if_pos x0, if_pos x0]
      refine ⟨mm s, fsM s 64, rfl, ?_, hi⟩
      split
      · next z => rw [if_pos (by omega), z]
      · rfl
    · rw [if_neg x0, if_neg x0]
      by_cases m1 : mm s = 0
      · rw [if_pos m1, if_pos m1, if_neg (show ¬ x ≤ 0 by omega), if_pos (show ffb (cms s) 64 = -1 by rw [← hfe]; exact hz.mp m1)]
        exact ⟨-2, fsM s 64, rfl, rfl, hi⟩
      · have hne : ffb (mis s) 64 ≠ -1 := fun z => m1 (hz.mpr z)
        have hsp := ffb_spec (f := mis s) 64
        have hb : 0 ≤ ffb (mis s) 64 ∧ ffb (mis s) 64 < 64 := by
          rcases hsp with z | z
          · exact absurd z.1 hne
          · exact ⟨z.1, z.2.1⟩
        have f26 : fsM s 64 113 26 = ffb (mis s) 64 / 4 := by unfold fsM; rw [if_neg hne, mu_ne (by omega), mu_eq]
        have f27 : fsM s 64 113 27 = ffb (mis s) 64 % 4 := by unfold fsM; rw [if_neg hne, mu_eq]
        rw [if_neg m1, ← hfe, if_neg hne, f26, f27]
        generalize ffb (mis s) 64 = j at *
        rw [dv32_pos hb.1 (by omega) (by omega), bAn_3, sr32_2, tmod_pos hb.1, tmod_pos (by omega), dv32_pos (by omega) (by omega) (by omega)]
        by_cases x1 : x = 1
        · rw [if_pos x1, if_pos x1]; exact ⟨_, _, rfl, rfl, hi⟩
        · rw [if_neg x1, if_neg x1]
          by_cases x2 : x = 2
          · rw [if_pos x2, if_pos x2]; exact ⟨_, _, rfl, rfl, hi⟩
          · rw [if_neg x2, if_neg x2]; exact ⟨_, _, rfl, rfl, hi⟩
  · rw [if_neg c, if_pos rfl]
    refine ⟨-1, s, ?_, rfl, hs⟩
    by_cases z : x < 0
    · rw [if_pos z]
    · rw [if_neg z, if_neg (by omega)]
theorem Df.eb {s s' : iv_M} (h : Df s s') : Eb s s' := fun a a0 a1 => h.1 a (by omega) (by omega) (by omega)
theorem eb_kyb {s s' : iv_M} (h : Eb s s') : kyb s' = kyb s := by funext r; unfold kyb; rw [eb_ky h]
theorem eb_dst {s s' : iv_M} (h : Eb s s') : dst s' = dst s := by funext x d P; unfold dst; rw [eb_td h, eb_sd h, eb_kyb h]
theorem eb_spr {s s' : iv_M} (h : Eb s s') : ∀ n i P, spr s' n i P = spr s n i P := by
  intro n
  induction n with
  | zero => intro i P; rfl
  | succ n ih =>
    intro i P
    have hd : ∀ x, dal s' x P = dal s x P := fun x => by unfold dal; rw [eb_dst h]
    show (if i < P.2.length then spr s' n (i + 1) (dal s' (P.2.getD i 0) P) else P) = (if i < P.2.length then spr s n (i + 1) (dal s (P.2.getD i 0) P) else P)
    rw [hd, ih]
theorem eb_dyA {s s' : iv_M} (h : Eb s s') : dyA s' = dyA s := by funext r; unfold dyA; rw [eb_spr h, eb_kyb h]
theorem ct_steps {t : Int} {N : Nat} {s : iv_M} {x y : Int} (hN : 1000 ≤ N) (h : Inv t s) : ∃ a s1 s2, FX11_steps N s 0 x y = some (a, s1) ∧ FX12_steps N s1 113 x y = some (a, s2) ∧ Inv (t + 1) s2 := by
  have hI := h
  have hdh := h.dh
  obtain ⟨h1, ⟨hr1, ⟨hF, hP⟩, hK, hH4, _⟩, ⟨hW, _⟩, _⟩ := h
  have hq : (s 0 4).toNat = now s := rfl
  have hr12 := hW.1.2.2.2.2.2.1
  have hs := HR1_mono (t' := t + 1) (by omega) hI
  unfold FX11_steps FX12_steps FX11_steps_b22 FX12_steps_b16
  rw [hq, FX2_isRoom_ok hF, FX2_isRoom_ok hF, Option.bind_some, Option.bind_some]
  by_cases hx : 0 ≤ x ∧ x < s 114 2
  · rw [if_pos hx, if_neg (show ¬ (1 : Int) = 0 by omega)]
    by_cases hy : 0 ≤ y ∧ y < s 114 2
    · rw [if_pos hy, if_neg (show ¬ (1 : Int) = 0 by omega)]
      obtain ⟨s1, e1, e2, e3⟩ := FX0_spread_ok hN hdh hx.1 hx.2
      have hd := dyA_ok hW hx.1 hx.2
      simp only [Nat.reduceAdd]
      rw [e1, Option.bind_some, FX0_fewest_ok hN hd.1 (by omega) e2, Option.bind_some]
      have hI1 := Inv_df hI (Int.le_refl t) e3
      have hW1 := eb_Wf e3.eb hW
      have hb := e3.eb 114 (by omega) (by omega)
      obtain ⟨s2, f1, f2, f3⟩ := FX12_goesByDay_ok (s := s1) hN hW1 hx.1 (by rw [hb]; exact hx.2)
      rw [eb_dyA e3.eb] at f2
      refine ⟨_, s1, s2, rfl, ?_, Inv_dg hI1 (by omega) f3⟩
      rw [FX12_isRoom_ok hW1.1, FX12_isRoom_ok hW1.1, Option.bind_some, Option.bind_some, hb, if_pos hx, if_neg (show ¬ (1 : Int) = 0 by omega), if_pos hy, if_neg (show ¬ (1 : Int) = 0 by omega), f1, Option.bind_some]
      exact FX12_steps_lp hN hd.1 (by omega) f2
    · rw [if_neg hy, if_pos rfl]
      refine ⟨_, s, s, rfl, ?_, hs⟩
      rw [FX12_isRoom_ok hW.1, FX12_isRoom_ok hW.1, Option.bind_some, Option.bind_some, if_pos hx, if_neg (show ¬ (1 : Int) = 0 by omega), if_neg hy, if_pos rfl]
  · rw [if_neg hx, if_pos rfl]
    refine ⟨_, s, s, rfl, ?_, hs⟩
    rw [FX12_isRoom_ok hW.1, Option.bind_some, if_neg hx, if_pos rfl]
theorem ct_reach {t : Int} {N : Nat} {s : iv_M} {x y : Int} (hN : 1000 ≤ N) (h : Inv t s) : ∃ a s1 s2, FX11_reach N s 0 x y = some (a, s1) ∧ FX12_reach N s1 113 x y = some (a, s2) ∧ Inv (t + 1) s2 := by
  have hI := h
  have hdh := h.dh
  obtain ⟨h1, ⟨hr1, ⟨hF, hP⟩, hK, hH4, _⟩, ⟨hW, _⟩, _⟩ := h
  have hq : (s 0 4).toNat = now s := rfl
  have hr12 := hW.1.2.2.2.2.2.1
  have hs := HR1_mono (t' := t + 1) (by omega) hI
  unfold FX11_reach FX12_reach FX11_reach_b20 FX12_reach_b18 FX11_reach_b55 FX12_reach_b90
  rw [hq, FX2_isRoom_ok hF, Option.bind_some]
  by_cases hx : 0 ≤ x ∧ x < s 114 2
  · rw [if_pos hx, if_neg (show ¬ (1 : Int) = 0 by omega)]
    by_cases hy : 0 ≤ y ∧ y ≤ 1
    · rw [if_neg (show ¬ y < 0 by omega), if_pos hy.2]
      obtain ⟨s1, e1, e2, e3⟩ := FX0_spread_ok hN hdh hx.1 hx.2
      have hd := dyA_ok hW hx.1 hx.2
      simp only [Nat.reduceAdd]
      obtain ⟨g1, g2⟩ := FX0_reached_ok hN hd.1 (by omega) e2
      rw [e1, Option.bind_some, g1, g2, Option.bind_some, Option.bind_some]
      have hI1 := Inv_df hI (Int.le_refl t) e3
      have hW1 := eb_Wf e3.eb hW
      have hb := e3.eb 114 (by omega) (by omega)
      obtain ⟨s2, f1, f2, f3⟩ := FX12_goesByDay_ok (s := s1) hN hW1 hx.1 (by rw [hb]; exact hx.2)
      rw [eb_dyA e3.eb] at f2
      have key : ∀ v, FX12_reach_l33 N 113 y (fun (s_3940 : iv_M) (x3941_3 : Int) (x3941_4 : Int) => (if y = 0 then (some (x3941_3, s_3940)) else (some (x3941_4, s_3940)))) N s2 0 0 0 = some (v, s2) → (do
          let v_3934 ← FX12_isRoom N s1 113 x
          if v_3934 = 0 then some (-1, s1) else (FX12_in N s1 y 0 1).bind fun v_3936 => (if v_3936 = 0 then some (-1, s1) else ((FX12_goesByDay N s1 113 x).bind fun s_3939 => (FX12_reach_l33 N 113 y (fun (s_3940 : iv_M) (x3941_3 : Int) (x3941_4 : Int) => (if y = 0 then (some (x3941_3, s_3940)) else (some (x3941_4, s_3940)))) N s_3939 0 0 0)))) = some (v, s2) := by
        intro v hv
        rw [FX12_isRoom_ok hW1.1, Option.bind_eq_bind, Option.bind_some, hb, if_pos hx, if_neg (show ¬ (1 : Int) = 0 by omega), FX12_in_ok, Option.bind_some, if_pos hy, if_neg (show ¬ (1 : Int) = 0 by omega), f1, Option.bind_some]
        exact hv
      have kl := FX12_reach_lp (N := N) (s := s2) (x2 := y) (kx := (fun (s_3940 : iv_M) (x3941_3 : Int) (x3941_4 : Int) => (if y = 0 then (some (x3941_3, s_3940)) else (some (x3941_4, s_3940))))) hN hd.1 (by omega) f2
      by_cases y0 : y = 0
      · rw [if_pos y0]
        refine ⟨_, s1, s2, rfl, key _ ?_, Inv_dg hI1 (by omega) f3⟩
        rw [kl, if_pos y0]
      · rw [if_neg y0]
        refine ⟨_, s1, s2, rfl, key _ ?_, Inv_dg hI1 (by omega) f3⟩
        rw [kl, if_neg y0]
    · have : (if y < 0 then some (-1, s) else if y ≤ 1 then (FX0_spread N s (0 + 98) (now s) x).bind fun s_2064 => (if y = 0 then ((FX0_reachedRooms N s_2064 (0 + 98)).bind fun v_2067 => some (v_2067, s_2064)) else ((FX0_reachedKeys N s_2064 (0 + 98)).bind fun v_2066 => some (v_2066, s_2064))) else some (-1, s)) = some (-1, s) := by
        by_cases z : y < 0
        · rw [if_pos z]
        · rw [if_neg z, if_neg (show ¬ y ≤ 1 by omega)]
      rw [this]
      refine ⟨_, s, s, rfl, ?_, hs⟩
      rw [FX12_isRoom_ok hW.1, Option.bind_some, if_pos hx, if_neg (show ¬ (1 : Int) = 0 by omega), FX12_in_ok, Option.bind_some, if_neg hy, if_pos rfl]
  · rw [if_neg hx, if_pos rfl]
    refine ⟨_, s, s, rfl, ?_, hs⟩
    rw [FX12_isRoom_ok hW.1, Option.bind_some, if_neg hx, if_pos rfl]
