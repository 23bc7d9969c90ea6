-- KEYS ARE LAID
theorem Inv_row2 {t : Int} {s s2 : iv_M} (hI : Inv t s) (t0 : 0 ≤ t) (r15 : s2 0 15 = s 0 15 + 1) (r0 : ∀ i, i ≠ 15 → s2 0 i = s 0 i) (ro : ∀ a, a ≠ 0 → a ≠ now s + 8 → a ≠ now s + 9 → a ≠ now s + 10 → a ≠ now s + 12 → a ≠ 114 → a ≠ 119 → a ≠ 120 → s2 a = s a) (b114 : ∀ j, j ≠ 7 → s2 114 j = s 114 j) (b7 : s2 114 7 = 0) (p10 : s2 (now s + 10) 1 = 0) (p12 : s2 (now s + 12) 1 = 0) (hbed : ∀ p, 0 ≤ p → p < s 114 3 → s2 (now s + 9) p = s2 120 p) (h3' : HR3 s2 (now s) s2) (w9' : ∀ k, 0 ≤ k → k < 4 → -1 ≤ s2 119 k ∧ s2 119 k < 12) (w0' : ∀ p, 0 ≤ p → p < s 114 3 → 0 ≤ s2 120 p ∧ s2 120 p < s 114 2) (hO : OZ s2) : Inv (t + 1) s2 := by
  obtain ⟨h1, ⟨hr1, ⟨hF, hP⟩, hK, hH4, _⟩, ⟨hW, ⟨pp, _⟩, hw2⟩, _, _, _, _, _, h9, h10⟩ := id hI
  obtain ⟨n1, n2, n3⟩ := now_ne h1
  have rq : s2 (now s) = s (now s) := ro _ (by omega) (by omega) (by omega) (by omega) (by omega) (by omega) (by omega) (by omega)
  have rb : ∀ a, 115 ≤ a → a ≤ 121 → a ≠ 119 → a ≠ 120 → s2 a = s a := fun a z1 z2 z3 z4 => ro a (by omega) (by omega) (by omega) (by omega) (by omega) (by omega) z3 z4
  have r115 := rb 115 (by omega) (by omega) (by omega) (by omega)
  have r116 := rb 116 (by omega) (by omega) (by omega) (by omega)
  have r117 := rb 117 (by omega) (by omega) (by omega) (by omega)
  have r118 := rb 118 (by omega) (by omega) (by omega) (by omega)
  have r121 := rb 121 (by omega) (by omega) (by omega) (by omega)
  have hk : kd s2 = kd s := by funext c d; unfold kd sd; rw [r115, r117, r121]
  have hn : nb s2 = nb s := by funext c d; exact nb_ext (b114 0 (by omega)) (b114 1 (by omega)) c d
  refine Inv_day hI t0 r15 r0 (fun a z0 z1 z2 => ro a z0 (by omega) (by omega) (by omega) (by omega) (by omega) (by omega) (by omega)) b114 b7 p10 p12 ?_ ?_ ?_ h3' ⟨?_, ?_, ?_⟩ ?_ w9' w0' hO
  · obtain ⟨g0, ⟨g1, g2, g3, g4, g5⟩, g6, g7, g8, g9, g10, g11⟩ := hr1
    unfold HR1 HB
    rw [rq, b114 0 (by omega), b114 2 (by omega), b114 3 (by omega), b114 4 (by omega), b114 5 (by omega), b114 12 (by omega), b114 6 (by omega), b114 13 (by omega), b114 11 (by omega), r118]
    exact ⟨g0, ⟨g1, g2, g3, g4, hbed⟩, g6, g7, g8, g9, g10, g11⟩
  · have : FRc s2 (now s + 1) s := FRc_ext (fun a z0 z1 => ro a (by omega) (by omega) (by omega) (by omega) (by omega) (by omega) (by omega) (by omega)) hF
    unfold FRc at this ⊢
    rw [hk, hn, r115, r117, r121, b114 0 (by omega), b114 1 (by omega), b114 2 (by omega)]; exact this
  · unfold FP at hP ⊢; rw [ro (now s + 1) (by omega) (by omega) (by omega) (by omega) (by omega) (by omega) (by omega) (by omega), r116, r117, b114 2 (by omega)]; exact hP
  · have := hW.1; unfold Wa at this ⊢; rw [b114 0 (by omega), b114 1 (by omega), b114 2 (by omega), r115]; exact this
  · have := hW.2.1; unfold Wc at this ⊢; rw [b114 0 (by omega), b114 1 (by omega), b114 2 (by omega), r116, r117, r121]; exact this
  · have := hW.2.2; unfold Wr at this ⊢; rw [b114 2 (by omega), r116, r121]; exact this
  · rw [r118]; exact hw2.1
theorem ct_lay {t : Int} {N : Nat} {s : iv_M} {x y : Int} (h : Inv t s) (t0 : 0 ≤ t) (t1 : t ≤ 1000) : ∃ a s1 s2, FX11_lay N s 0 x y = some (a, s1) ∧ FX12_lay N s1 113 x y = some (a, s2) ∧ Inv (t + 1) s2 := by
  have hI := h
  obtain ⟨h1, ⟨hr1, ⟨hF, hP⟩, hK, hH4, _⟩, ⟨hW, ⟨pp, _⟩, hw2⟩, _, _, _, _, _, h9, h10⟩ := h
  obtain ⟨n1, n2, n3⟩ := now_ne h1
  have hq : (s 0 4).toNat = now s := rfl
  have hB := hr1.2.1
  have h15 := h9.1
  have hto := HR1_told hr1
  have hr2 := hW.1.2.2.2.2.2.1
  unfold FX11_lay FX11_lay_b36
  rw [hq]
  have ry : ∀ (u : Nat) (s' : iv_M), s' 114 = s 114 → s' 115 = s 115 → FX12_isRoom N s' 113 y = some (if 0 ≤ y ∧ y < s 114 2 then 1 else 0) := fun u s' e1 e2 => by
    rw [FX12_isRoom_ok (by unfold Wa; rw [e1, e2]; exact hW.1), e1]
  have no : ∀ s', s' = s → (¬ 0 < s 114 0 ∨ ¬ (1 ≤ x ∧ x ≤ 4) ∨ (y ≠ -1 ∧ ¬ (0 ≤ y ∧ y < s 114 2)) ∨ ((1 ≤ x ∧ x ≤ 4) ∧ s 119 (x - 1) = y)) → ∃ a s1 s2, some ((-2 : Int), s') = some (a, s1) ∧ FX12_lay N s1 113 x y = some (a, s2) ∧ Inv (t + 1) s2 := by
    intro s' e hc
    subst e
    refine ⟨-2, s', s', rfl, ?_, HR1_mono (by omega) hI⟩
    unfold FX12_lay FX12_lay_b44
    rw [told_ref, Option.bind_some]
    by_cases c0 : 0 < s' 114 0
    · rw [if_pos c0, if_neg (by omega), FX12_in_ok, Option.bind_some]
      by_cases c1 : 1 ≤ x ∧ x ≤ 4
      · have last : (y = -1 ∨ (0 ≤ y ∧ y < s' 114 2)) → FX12_lay_b32 N s' 113 x y = some (-2, s') := by
          intro hy
          unfold FX12_lay_b32 FX12_lay_b44
          simp only [Nat.reduceAdd]
          rw [w32_id (by omega) (by omega), rd_ok (by omega) (by omega), Option.bind_some, if_pos (by rcases hc with z | z | z | z; exact absurd c0 z; exact absurd c1 z; exact absurd hy (by omega); exact z.2)]
        rw [if_pos c1, if_neg (by omega)]
        by_cases c2 : y = -1
        · rw [if_pos c2]; exact last (Or.inl c2)
        · rw [if_neg c2, ry 0 s' rfl rfl, Option.bind_some]
          by_cases c3 : 0 ≤ y ∧ y < s' 114 2
          · rw [if_pos c3, if_neg (by omega)]; exact last (Or.inr c3)
          · rw [if_neg c3, if_pos rfl]
      · rw [if_neg c1, if_pos rfl]
    · rw [if_neg c0, if_pos rfl]
  by_cases e0 : s (now s) 0 = 0
  · rw [if_pos e0]; exact no s rfl (Or.inl (hto.mp e0))
  have hp : 0 < s 114 0 := by
    by_cases z : 0 < s 114 0
    · exact z
    · exact absurd (hto.mpr z) e0
  rw [if_neg e0]
  by_cases e1 : x < 1
  · rw [if_pos e1]; exact no s rfl (Or.inr (Or.inl (by omega)))
  rw [if_neg e1]
  by_cases e2 : 4 < x
  · rw [if_pos e2]; exact no s rfl (Or.inr (Or.inl (by omega)))
  rw [if_neg e2]
  have hkx : s (now s + 8) x = s 119 (x - 1) := by have := hK (x - 1) (by omega) (by omega); rw [show x - 1 + 1 = x by omega] at this; exact this
  have yes : (y = -1 ∨ (0 ≤ y ∧ y < s 114 2)) → ∃ a s1 s2, FX11_lay_b39 N s 0 x y = some (a, s1) ∧ FX12_lay N s1 113 x y = some (a, s2) ∧ Inv (t + 1) s2 := by
    intro hy
    unfold FX11_lay_b39
    rw [hq, rd_ok (by omega) (by omega), Option.bind_some, hkx]
    by_cases e : s 119 (x - 1) = y
    · rw [if_pos e]; exact no s rfl (Or.inr (Or.inr (Or.inr ⟨by omega, e⟩)))
    · rw [if_neg e, wr_ok (by omega) (by omega), Option.bind_some, day_ok (q := now s) (by rw [mu_ne (by omega)]; rfl) n2 (by rw [mu_ne (by omega)]; omega) (by rw [mu_ne (by omega)]; omega), Option.bind_some, mu_ne (by omega)]
      refine ⟨s 119 (x - 1), mu (mu (mu (mu s (now s + 8) x y) (now s + 10) 1 0) (now s + 12) 1 0) 0 15 (s 0 15 + 1), mu (mu (mu (mu (mu (mu s (now s + 8) x y) (now s + 10) 1 0) (now s + 12) 1 0) 0 15 (s 0 15 + 1)) 119 (x - 1) y) 114 7 0, rfl, ?_, ?_⟩
      · unfold FX12_lay
        have r114 : mu (mu (mu (mu s (now s + 8) x y) (now s + 10) 1 0) (now s + 12) 1 0) 0 15 (s 0 15 + 1) 114 = s 114 := by simp (disch := omega) only [mu_rw]
        have r119 : mu (mu (mu (mu s (now s + 8) x y) (now s + 10) 1 0) (now s + 12) 1 0) 0 15 (s 0 15 + 1) 119 = s 119 := by simp (disch := omega) only [mu_rw]
        have r115 : mu (mu (mu (mu s (now s + 8) x y) (now s + 10) 1 0) (now s + 12) 1 0) 0 15 (s 0 15 + 1) 115 = s 115 := by simp (disch := omega) only [mu_rw]
        have last : FX12_lay_b32 N (mu (mu (mu (mu s (now s + 8) x y) (now s + 10) 1 0) (now s + 12) 1 0) 0 15 (s 0 15 + 1)) 113 x y = some (s 119 (x - 1), mu (mu (mu (mu (mu (mu s (now s + 8) x y) (now s + 10) 1 0) (now s + 12) 1 0) 0 15 (s 0 15 + 1)) 119 (x - 1) y) 114 7 0) := by
          unfold FX12_lay_b32
          simp only [Nat.reduceAdd]
          rw [w32_id (by omega) (by omega), rd_ok (by omega) (by omega), Option.bind_some, r119, if_neg e, Option.bind_some, wr_ok (by omega) (by omega), Option.bind_some, wr_ok (by omega) (by omega), Option.bind_some]
        rw [told_ref, Option.bind_some, r114, if_pos hp, if_neg (by omega), FX12_in_ok, Option.bind_some, if_pos (show 1 ≤ x ∧ x ≤ 4 by omega), if_neg (by omega)]
        by_cases c2 : y = -1
        · rw [if_pos c2]; exact last
        · rw [if_neg c2, ry 0 _ r114 r115, Option.bind_some, if_pos (show 0 ≤ y ∧ y < s 114 2 by omega), if_neg (by omega)]; exact last
      · have hO : OZ (mu (mu (mu (mu (mu (mu s (now s + 8) x y) (now s + 10) 1 0) (now s + 12) 1 0) 0 15 (s 0 15 + 1)) 119 (x - 1) y) 114 7 0) := OZ_mu (OZ_mu (OZ_mu (OZ_mu (OZ_mu (OZ_mu h10 (fun z => by omega)) (fun z => by omega)) (fun z => by omega)) (fun z => by omega)) (fun _ _ => by unfold ln; simp; omega)) (fun _ _ => by unfold ln; simp)
        have b119 : ∀ k, mu (mu (mu (mu (mu (mu s (now s + 8) x y) (now s + 10) 1 0) (now s + 12) 1 0) 0 15 (s 0 15 + 1)) 119 (x - 1) y) 114 7 0 119 k = if k = x - 1 then y else s 119 k := fun k => by
          rw [mu_ne (by omega)]
          by_cases z : k = x - 1
          · rw [if_pos z, z, mu_eq]
          · rw [if_neg z, mu_ne (by omega)]; simp (disch := omega) only [mu_ne]
        have q8 : ∀ k, mu (mu (mu (mu (mu (mu s (now s + 8) x y) (now s + 10) 1 0) (now s + 12) 1 0) 0 15 (s 0 15 + 1)) 119 (x - 1) y) 114 7 0 (now s + 8) k = if k = x then y else s (now s + 8) k := fun k => by
          rw [mu_ne (by omega), mu_ne (by omega), mu_ne (by omega), mu_ne (by omega), mu_ne (by omega)]
          by_cases z : k = x
          · rw [if_pos z, z, mu_eq]
          · rw [if_neg z, mu_ne (by omega)]
        refine Inv_row2 hI t0 (by rw [mu_ne (by omega), mu_ne (by omega), mu_eq]) (fun i hi => by simp (disch := omega) only [mu_ne]) (fun a z0 z8 z9 z10 z12 z14 z19 z20 => by rw [mu_rw z14, mu_rw z19, mu_rw z0, mu_rw z12, mu_rw z10, mu_rw z8]) (fun j hj => by simp (disch := omega) only [mu_ne]) mu_eq (by rw [mu_ne (by omega), mu_ne (by omega), mu_ne (by omega), mu_ne (by omega), mu_eq]) (by rw [mu_ne (by omega), mu_ne (by omega), mu_ne (by omega), mu_eq]) (fun p z0 z1 => ?_) (fun k k0 k1 => ?_) (fun k k0 k1 => ?_) (fun p z0 z1 => ?_) hO
        · have := hB.2.2.2.2 p z0 z1
          simp (disch := omega) only [mu_ne]; exact this
        · rw [b119, q8]
          by_cases z : k = x - 1
          · rw [if_pos z, if_pos (by omega)]
          · rw [if_neg z, if_neg (by omega)]; exact hK k k0 k1
        · rw [b119]; split
          · omega
          · exact hw2.2.1 k k0 k1
        · have := hw2.2.2.1 p z0 z1
          simp (disch := omega) only [mu_ne]; exact this
  by_cases e3 : y = -1
  · rw [if_pos e3]; exact yes (Or.inl e3)
  · rw [if_neg e3, FX2_isRoom_ok hF, Option.bind_some]
    by_cases e4 : 0 ≤ y ∧ y < s 114 2
    · rw [if_pos e4, if_neg (by omega)]; exact yes (Or.inr e4)
    · rw [if_neg e4, if_pos rfl]; exact no s rfl (Or.inr (Or.inr (Or.inl ⟨e3, e4⟩)))
