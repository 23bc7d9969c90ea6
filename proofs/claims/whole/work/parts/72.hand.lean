-- BY HAND BY DAY
theorem Inv_day {t : Int} {s s2 : iv_M} (hI : Inv t s) (t0 : 0 ≤ t) (c15 : s2 0 15 = s 0 15 + 1) (r0 : ∀ i, i ≠ 15 → s2 0 i = s 0 i) (rows : ∀ a, a ≠ 0 → (a < now s ∨ now s + 13 < a) → (a < 114 ∨ 121 < a) → s2 a = s a) (b114 : ∀ j, j ≠ 7 → s2 114 j = s 114 j) (b7 : s2 114 7 = 0) (p10 : s2 (now s + 10) 1 = 0) (p12 : s2 (now s + 12) 1 = 0) (hr1 : HR1 s2 (now s) s2) (hf : FRc s2 (now s + 1) s2) (hp : FP s2 (now s + 1) s2) (h3' : HR3 s2 (now s) s2) (hw : Wf s2) (w8' : ∀ r, 0 ≤ r → r < s 114 2 → s2 118 r = 0 ∨ s2 118 r = 1) (w9' : ∀ k, 0 ≤ k → k < 4 → -1 ≤ s2 119 k ∧ s2 119 k < 12) (w0' : ∀ p, 0 ≤ p → p < s 114 3 → 0 ≤ s2 120 p ∧ s2 120 p < s 114 2) (hO : OZ s2) : Inv (t + 1) s2 := by
  obtain ⟨h1, ⟨_, _, _, g4, g5, g6⟩, ⟨_, ⟨a1, a2, a3, a4, a5, a6, a7, a8, a9, a10, a11, a12⟩, ⟨e1, e2, e3, e4, e5, e6, e7, e8⟩⟩, h4, h5, h6, h7, h8, h9, h10⟩ := id hI
  obtain ⟨n1, n2, n3⟩ := now_ne h1
  have b0 := b114 0 (by omega)
  have b1 := b114 1 (by omega)
  have b2 := b114 2 (by omega)
  have b3 := b114 3 (by omega)
  have b8 := b114 8 (by omega)
  have b9 := b114 9 (by omega)
  have b10 := b114 10 (by omega)
  have b11 := b114 11 (by omega)
  have r123 := rows 123 (by omega) (by omega) (by omega)
  have dp : dC s2 = dC s := by funext j r; unfold dC; rw [r123]
  have dt : dT s2 = dT s := by funext j r; unfold dT; rw [r123]
  have fv : FV s2 = FV s := by funext f g; unfold FV; rw [b0, b1, b2]
  have iw : isW s2 = isW s := by funext k r o; unfold isW; rw [b2]
  obtain ⟨m1, m2⟩ := Me_bump (s2 := s2) ⟨h7, h8⟩ (by rw [rows 64 (by omega) (by omega) (by omega)]) (by rw [rows 81 (by omega) (by omega) (by omega)]) (by omega)
  have h15 := h9.1
  refine Inv_mk hI (by omega) r0 (by omega) (fun a ha => rows a (by omega) (by omega) (by omega)) (fun i hi => by rw [rows 113 (by omega) (by omega) (by omega)]) ⟨hr1, ⟨hf, hp⟩, h3', ⟨by rw [p10, b7], by rw [p12, b7], fun j j0 j1 => by rw [b7] at j1; omega⟩, ?_, ?_⟩ ⟨hw, ⟨by rw [b3]; exact a1, by rw [b114 4 (by omega)]; exact a2, by rw [b114 5 (by omega)]; exact a3, by rw [b114 6 (by omega)]; omega, by rw [b7]; omega, by rw [b8]; exact a6, by rw [b9]; exact a7, by rw [b10]; exact a8, by rw [b11]; exact a9, by rw [b114 12 (by omega)]; exact a10, by rw [b114 13 (by omega)]; exact a11, by rw [b0, b2]; exact a12⟩, ⟨by rw [b2]; exact w8', w9', by rw [b3, b2]; exact w0', fun j j0 j1 => by rw [b7] at j1; omega, by rw [dp, dt, fv, b11]; exact e5, ?_, ?_, ?_⟩⟩ (by rw [b114 12 (by omega)]; exact h5.2.2.2.1) hO m1 m2
  · unfold HR5 at g5 ⊢; rw [dp, dt, b11, b2, rows (now s + 14) (by omega) (by omega) (by omega), rows (now s + 15) (by omega) (by omega) (by omega)]; exact g5
  · unfold HR6 at g6 ⊢; rw [b8, b9, b10, rows (now s + 16) (by omega) (by omega) (by omega), rows (now s + 17) (by omega) (by omega) (by omega), rows (now s + 18) (by omega) (by omega) (by omega), rows (now s + 19) (by omega) (by omega) (by omega), rows (now s + 20) (by omega) (by omega) (by omega), rows (now s + 21) (by omega) (by omega) (by omega), rows 124 (by omega) (by omega) (by omega), rows 125 (by omega) (by omega) (by omega), rows 126 (by omega) (by omega) (by omega), rows 127 (by omega) (by omega) (by omega), rows 128 (by omega) (by omega) (by omega), rows 129 (by omega) (by omega) (by omega), rows 130 (by omega) (by omega) (by omega), rows 131 (by omega) (by omega) (by omega)]; exact g6
  · rw [iw, b8, rows 124 (by omega) (by omega) (by omega), rows 125 (by omega) (by omega) (by omega), rows 126 (by omega) (by omega) (by omega)]; exact e6
  · rw [b9, b3, rows 127 (by omega) (by omega) (by omega), rows 128 (by omega) (by omega) (by omega), rows 129 (by omega) (by omega) (by omega)]; exact e7
  · rw [b10, b2, rows 130 (by omega) (by omega) (by omega), rows 131 (by omega) (by omega) (by omega)]; exact e8
/-- the class's day -/
theorem day_ok {N : Nat} {s : iv_M} {q : Nat} (hq : (s 0 4).toNat = q) (hq2 : 9 ≤ q) (c0 : 0 ≤ s 0 15) (c1 : s 0 15 ≤ 100000) : FX11_dayCame N s 0 = some (mu (mu (mu s (q + 10) 1 0) (q + 12) 1 0) 0 15 (s 0 15 + 1)) := by
  unfold FX11_dayCame FX2_forgetPast
  rw [hq, pt_ok, Option.bind_some, pt_ok, Option.bind_some, Option.bind_some, pt_ok, Option.bind_some, mu_ne (by omega), mu_ne (by omega), w32_id (by omega) (by omega)]
theorem t_bed {t : Int} {N : Nat} {s : iv_M} {x y : Int} (h : Inv t s) (t0 : 0 ≤ t) (t1 : t ≤ 1000) : ∃ a s1 s2, FX11_bed N s 0 x y = some (a, s1) ∧ FX12_bed N s1 113 x y = some (a, s2) ∧ Inv (t + 1) s2 := by
  have hI := h
  obtain ⟨h1, ⟨hr1, ⟨hF, hP⟩, hK, hH4, _⟩, ⟨hW, ⟨pp, _⟩, hw2⟩, _, _, _, _, _, h9, h10⟩ := h
  obtain ⟨n1, n2, n3⟩ := now_ne h1
  have hq : (s 0 4).toNat = now s := rfl
  have hB := hr1.2.1
  have h15 := h9.1
  unfold FX11_bed FX11_bed_b35
  rw [hq, FX2_isPerson_ok hB, Option.bind_some]
  have no : ∀ s', s' = s → (¬ (0 ≤ x ∧ x < s 114 3) ∨ ¬ (0 ≤ y ∧ y < s 114 2) ∨ ((0 ≤ x ∧ x < s 114 3) ∧ s 120 x = y)) → ∃ a s1 s2, some ((-2 : Int), s') = some (a, s1) ∧ FX12_bed N s1 113 x y = some (a, s2) ∧ Inv (t + 1) s2 := by
    intro s' e hc
    subst e
    refine ⟨-2, s', s', rfl, ?_, HR1_mono (by omega) hI⟩
    unfold FX12_bed FX12_bed_b26
    rw [FX12_isPerson_ok pp.1 pp.2, Option.bind_some]
    by_cases c : 0 ≤ x ∧ x < s' 114 3
    · rw [if_pos c, if_neg (by omega), FX12_isRoom_ok hW.1, Option.bind_some]
      by_cases d : 0 ≤ y ∧ y < s' 114 2
      · rw [if_pos d, if_neg (by omega)]
        simp only [Nat.reduceAdd]
        rw [rd_ok c.1 (by omega), Option.bind_some, if_pos (by rcases hc with z | z | z; exact absurd c z; exact absurd d z; exact z.2)]
      · rw [if_neg d, if_pos rfl]
    · rw [if_neg c, if_pos rfl]
  by_cases c : 0 ≤ x ∧ x < s 114 3
  · rw [if_pos c, if_neg (by omega), FX2_isRoom_ok hF, Option.bind_some]
    by_cases d : 0 ≤ y ∧ y < s 114 2
    · rw [if_pos d, if_neg (by omega), rd_ok c.1 (by omega), Option.bind_some, Option.bind_some, hB.2.2.2.2 x c.1 c.2]
      by_cases e : s 120 x = y
      · rw [if_pos e]; exact no s rfl (Or.inr (Or.inr ⟨c, e⟩))
      · rw [if_neg e, wr_ok c.1 (by omega), Option.bind_some, day_ok (q := now s) (by rw [mu_ne (by omega)]; rfl) n2 (by rw [mu_ne (by omega)]; omega) (by rw [mu_ne (by omega)]; omega), Option.bind_some, mu_ne (by omega)]
        refine ⟨s 120 x, mu (mu (mu (mu s (now s + 9) x y) (now s + 10) 1 0) (now s + 12) 1 0) 0 15 (s 0 15 + 1), mu (mu (mu (mu (mu (mu s (now s + 9) x y) (now s + 10) 1 0) (now s + 12) 1 0) 0 15 (s 0 15 + 1)) 120 x y) 114 7 0, rfl, ?_, ?_⟩
        · unfold FX12_bed
          have r114 : mu (mu (mu (mu s (now s + 9) x y) (now s + 10) 1 0) (now s + 12) 1 0) 0 15 (s 0 15 + 1) 114 = s 114 := by simp (disch := omega) only [mu_rw]
          have r120 : mu (mu (mu (mu s (now s + 9) x y) (now s + 10) 1 0) (now s + 12) 1 0) 0 15 (s 0 15 + 1) 120 = s 120 := by simp (disch := omega) only [mu_rw]
          have r115 : mu (mu (mu (mu s (now s + 9) x y) (now s + 10) 1 0) (now s + 12) 1 0) 0 15 (s 0 15 + 1) 115 = s 115 := by simp (disch := omega) only [mu_rw]
          rw [FX12_isPerson_ok (by rw [r114]; exact pp.1) (by rw [r114]; exact pp.2), Option.bind_some, r114, if_pos c, if_neg (by omega), FX12_isRoom_ok (by unfold Wa; rw [r114, r115]; exact hW.1), Option.bind_some, r114, if_pos d, if_neg (by omega)]
          simp only [Nat.reduceAdd]
          rw [rd_ok c.1 (by omega), Option.bind_some, r120, if_neg e, Option.bind_some, wr_ok c.1 (by omega), Option.bind_some, wr_ok (by omega) (by omega), Option.bind_some]
        · have hO : OZ (mu (mu (mu (mu (mu (mu s (now s + 9) x y) (now s + 10) 1 0) (now s + 12) 1 0) 0 15 (s 0 15 + 1)) 120 x y) 114 7 0) := OZ_mu (OZ_mu (OZ_mu (OZ_mu (OZ_mu (OZ_mu h10 (fun z => by omega)) (fun z => by omega)) (fun z => by omega)) (fun z => by omega)) (fun _ _ => by unfold ln; simp; omega)) (fun _ _ => by unfold ln; simp)
          have ro : ∀ a, a ≠ 0 → a ≠ now s + 9 → a ≠ now s + 10 → a ≠ now s + 12 → a ≠ 114 → a ≠ 120 → mu (mu (mu (mu (mu (mu s (now s + 9) x y) (now s + 10) 1 0) (now s + 12) 1 0) 0 15 (s 0 15 + 1)) 120 x y) 114 7 0 a = s a := fun a z0 z1 z2 z3 z4 z5 => by rw [mu_rw z4, mu_rw z5, mu_rw z0, mu_rw z3, mu_rw z2, mu_rw z1]
          have b114 : ∀ j, j ≠ 7 → mu (mu (mu (mu (mu (mu s (now s + 9) x y) (now s + 10) 1 0) (now s + 12) 1 0) 0 15 (s 0 15 + 1)) 120 x y) 114 7 0 114 j = s 114 j := fun j hj => by simp (disch := omega) only [mu_ne]
          have b7 : mu (mu (mu (mu (mu (mu s (now s + 9) x y) (now s + 10) 1 0) (now s + 12) 1 0) 0 15 (s 0 15 + 1)) 120 x y) 114 7 0 114 7 = 0 := mu_eq
          have b120 : ∀ p, mu (mu (mu (mu (mu (mu s (now s + 9) x y) (now s + 10) 1 0) (now s + 12) 1 0) 0 15 (s 0 15 + 1)) 120 x y) 114 7 0 120 p = if p = x then y else s 120 p := fun p => by
            rw [mu_ne (by omega)]
            by_cases z : p = x
            · rw [if_pos z, z, mu_eq]
            · rw [if_neg z, mu_ne (by omega)]; simp (disch := omega) only [mu_ne]
          have q9 : ∀ p, mu (mu (mu (mu (mu (mu s (now s + 9) x y) (now s + 10) 1 0) (now s + 12) 1 0) 0 15 (s 0 15 + 1)) 120 x y) 114 7 0 (now s + 9) p = if p = x then y else s (now s + 9) p := fun p => by
            rw [mu_ne (by omega), mu_ne (by omega), mu_ne (by omega), mu_ne (by omega), mu_ne (by omega)]
            by_cases z : p = x
            · rw [if_pos z, z, mu_eq]
            · rw [if_neg z, mu_ne (by omega)]
          have r0 : ∀ i, i ≠ 15 → mu (mu (mu (mu (mu (mu s (now s + 9) x y) (now s + 10) 1 0) (now s + 12) 1 0) 0 15 (s 0 15 + 1)) 120 x y) 114 7 0 0 i = s 0 i := fun i hi => by simp (disch := omega) only [mu_ne]
          have r15 : mu (mu (mu (mu (mu (mu s (now s + 9) x y) (now s + 10) 1 0) (now s + 12) 1 0) 0 15 (s 0 15 + 1)) 120 x y) 114 7 0 0 15 = s 0 15 + 1 := by rw [mu_ne (by omega), mu_ne (by omega), mu_eq]
          have p10 : mu (mu (mu (mu (mu (mu s (now s + 9) x y) (now s + 10) 1 0) (now s + 12) 1 0) 0 15 (s 0 15 + 1)) 120 x y) 114 7 0 (now s + 10) 1 = 0 := by rw [mu_ne (by omega), mu_ne (by omega), mu_ne (by omega), mu_ne (by omega), mu_eq]
          have p12 : mu (mu (mu (mu (mu (mu s (now s + 9) x y) (now s + 10) 1 0) (now s + 12) 1 0) 0 15 (s 0 15 + 1)) 120 x y) 114 7 0 (now s + 12) 1 = 0 := by rw [mu_ne (by omega), mu_ne (by omega), mu_ne (by omega), mu_eq]
          generalize mu (mu (mu (mu (mu (mu s (now s + 9) x y) (now s + 10) 1 0) (now s + 12) 1 0) 0 15 (s 0 15 + 1)) 120 x y) 114 7 0 = s2 at *
          have rq : s2 (now s) = s (now s) := ro _ (by omega) (by omega) (by omega) (by omega) (by omega) (by omega)
          have rb : ∀ a, 115 ≤ a → a ≤ 121 → a ≠ 120 → s2 a = s a := fun a z1 z2 z3 => ro a (by omega) (by omega) (by omega) (by omega) (by omega) z3
          have hk : kd s2 = kd s := by funext c d; unfold kd sd; rw [rb 115 (by omega) (by omega) (by omega), rb 117 (by omega) (by omega) (by omega), rb 121 (by omega) (by omega) (by omega)]
          have hn : nb s2 = nb s := by funext c d; exact nb_ext (b114 0 (by omega)) (b114 1 (by omega)) c d
          refine Inv_day hI t0 r15 r0 (fun a z0 z1 z2 => ro a z0 (by omega) (by omega) (by omega) (by omega) (by omega)) b114 b7 p10 p12 ?_ ?_ ?_ ?_ ⟨?_, ?_, ?_⟩ ?_ ?_ ?_ hO
          · obtain ⟨g0, ⟨g1, g2, g3, g4, g5⟩, g6, g7, g8, g9, g10, g11⟩ := hr1
            unfold HR1 HB
            rw [rq, b114 0 (by omega), b114 2 (by omega), b114 3 (by omega), b114 4 (by omega), b114 5 (by omega), b114 12 (by omega), b114 6 (by omega), b114 13 (by omega), b114 11 (by omega), rb 118 (by omega) (by omega) (by omega)]
            refine ⟨g0, ⟨g1, g2, g3, g4, fun p z0 z1 => ?_⟩, g6, g7, g8, g9, g10, g11⟩
            rw [q9, b120]; split
            · rfl
            · exact g5 p z0 z1
          · have : FRc s2 (now s + 1) s := FRc_ext (fun a z0 z1 => ro a (by omega) (by omega) (by omega) (by omega) (by omega) (by omega)) hF
            unfold FRc at this ⊢
            rw [hk, hn, rb 115 (by omega) (by omega) (by omega), rb 117 (by omega) (by omega) (by omega), rb 121 (by omega) (by omega) (by omega), b114 0 (by omega), b114 1 (by omega), b114 2 (by omega)]; exact this
          · unfold FP at hP ⊢; rw [ro (now s + 1) (by omega) (by omega) (by omega) (by omega) (by omega) (by omega), rb 116 (by omega) (by omega) (by omega), rb 117 (by omega) (by omega) (by omega), b114 2 (by omega)]; exact hP
          · unfold HR3 at hK ⊢; rw [ro (now s + 8) (by omega) (by omega) (by omega) (by omega) (by omega) (by omega), rb 119 (by omega) (by omega) (by omega)]; exact hK
          · have := hW.1; unfold Wa at this ⊢; rw [b114 0 (by omega), b114 1 (by omega), b114 2 (by omega), rb 115 (by omega) (by omega) (by omega)]; exact this
          · have := hW.2.1; unfold Wc at this ⊢; rw [b114 0 (by omega), b114 1 (by omega), b114 2 (by omega), rb 116 (by omega) (by omega) (by omega), rb 117 (by omega) (by omega) (by omega), rb 121 (by omega) (by omega) (by omega)]; exact this
          · have := hW.2.2; unfold Wr at this ⊢; rw [b114 2 (by omega), rb 116 (by omega) (by omega) (by omega), rb 121 (by omega) (by omega) (by omega)]; exact this
          · rw [rb 118 (by omega) (by omega) (by omega)]; exact hw2.1
          · rw [rb 119 (by omega) (by omega) (by omega)]; exact hw2.2.1
          · intro p z0 z1; rw [b120]; split
            · exact d
            · exact hw2.2.2.1 p z0 z1
    · rw [if_neg d, if_pos rfl]; exact no s rfl (Or.inr (Or.inl d))
  · rw [if_neg c, if_pos rfl]; exact no s rfl (Or.inl c)
