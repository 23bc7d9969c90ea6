-- FORCE, SEED, END, FEED
theorem HR1_set {s : iv_M} {q : Nat} {kc j v c : Int} (hq : 9 ≤ q) (hq2 : q + 21 ≤ 52) (h : HR1 s q s) (hk : (kc = 4 ∧ j = 5) ∨ (kc = 5 ∧ j = 12) ∨ (kc = 7 ∧ j = 13)) : HR1 (mu (mu (mu s q kc v) 0 15 c) 114 j v) q (mu (mu (mu s q kc v) 0 15 c) 114 j v) := by
  have rq : ∀ i, i ≠ kc → mu (mu (mu s q kc v) 0 15 c) 114 j v q i = s q i := fun i hi => by rw [mu_ne (by omega), mu_ne (by omega), mu_ne (by omega)]
  have qk : mu (mu (mu s q kc v) 0 15 c) 114 j v q kc = v := by rw [mu_ne (by omega), mu_ne (by omega), mu_eq]
  have bj : mu (mu (mu s q kc v) 0 15 c) 114 j v 114 j = v := mu_eq
  have bo : ∀ i, i ≠ j → mu (mu (mu s q kc v) 0 15 c) 114 j v 114 i = s 114 i := fun i hi => by rw [mu_ne (by omega), mu_ne (by omega), mu_ne (by omega)]
  have r9 : mu (mu (mu s q kc v) 0 15 c) 114 j v (q + 9) = s (q + 9) := by rw [mu_rw (by omega), mu_rw (by omega), mu_rw (by omega)]
  have r118 : mu (mu (mu s q kc v) 0 15 c) 114 j v 118 = s 118 := by rw [mu_rw (by omega), mu_rw (by omega), mu_rw (by omega)]
  have r120 : mu (mu (mu s q kc v) 0 15 c) 114 j v 120 = s 120 := by rw [mu_rw (by omega), mu_rw (by omega), mu_rw (by omega)]
  generalize mu (mu (mu s q kc v) 0 15 c) 114 j v = s2 at *
  obtain ⟨g0, ⟨g1, g2, g3, g4, g5⟩, g6, g7, g8, g9, g10, g11⟩ := h
  refine ⟨by rw [rq 0 (by omega), bo 0 (by omega)]; exact g0, ⟨by rw [rq 1 (by omega), bo 4 (by omega)]; exact g1, by rw [rq 2 (by omega), bo 3 (by omega)]; exact g2, by rw [rq 3 (by omega), bo 2 (by omega), r118]; exact g3, ?_, by rw [r9, bo 3 (by omega), r120]; exact g5⟩, by rw [rq 3 (by omega)]; exact g6, by rw [rq 3 (by omega)]; exact g7, ?_, by rw [rq 6 (by omega), bo 6 (by omega)]; exact g9, ?_, by rw [rq 8 (by omega), bo 11 (by omega)]; exact g11⟩
  · rcases hk with ⟨rfl, rfl⟩ | ⟨rfl, rfl⟩ | ⟨rfl, rfl⟩
    · rw [qk, bj]
    · rw [rq 4 (by omega), bo 5 (by omega)]; exact g4
    · rw [rq 4 (by omega), bo 5 (by omega)]; exact g4
  · rcases hk with ⟨rfl, rfl⟩ | ⟨rfl, rfl⟩ | ⟨rfl, rfl⟩
    · rw [rq 5 (by omega), bo 12 (by omega)]; exact g8
    · rw [qk, bj]
    · rw [rq 5 (by omega), bo 12 (by omega)]; exact g8
  · rcases hk with ⟨rfl, rfl⟩ | ⟨rfl, rfl⟩ | ⟨rfl, rfl⟩
    · rw [rq 7 (by omega), bo 13 (by omega)]; exact g10
    · rw [rq 7 (by omega), bo 13 (by omega)]; exact g10
    · rw [qk, bj]
theorem Inv_set {t : Int} {s : iv_M} {kc j v c : Int} (hI : Inv t s) (t0 : 0 ≤ t) (hk : (kc = 4 ∧ j = 5 ∧ 0 ≤ v ∧ v ≤ 2) ∨ (kc = 5 ∧ j = 12 ∧ -1 ≤ v ∧ v < s 0 3) ∨ (kc = 7 ∧ j = 13 ∧ 0 ≤ v ∧ v < 2147483648)) (hc : c = s 0 15 + 1 ∨ (c = s 0 15 ∧ kc = 7)) : Inv (t + 1) (mu (mu (mu s (now s) kc v) 0 15 c) 114 j v) := by
  obtain ⟨h1, h2, h3, h4, h5, h6, h7, h8, h9, h10⟩ := id hI
  obtain ⟨n1, n2, n3⟩ := now_ne h1
  have sc : Sc5 s (mu (mu (mu s (now s) kc v) 0 15 c) 114 j v) := ⟨fun a a0 a1 => by rw [mu_rw (by omega), mu_rw (by omega), mu_rw (by omega)], fun i j1 j2 j3 j4 j5 => by rw [mu_ne (by omega), mu_ne (by omega), mu_ne (by omega)]⟩
  have hr1 := HR1_set (v := v) (c := c) n2 n3 h2.1 (kc := kc) (j := j) (by omega)
  have bj : mu (mu (mu s (now s) kc v) 0 15 c) 114 j v 114 j = v := mu_eq
  have bo : ∀ i, i ≠ j → mu (mu (mu s (now s) kc v) 0 15 c) 114 j v 114 i = s 114 i := fun i hi => by rw [mu_ne (by omega), mu_ne (by omega), mu_ne (by omega)]
  have ro : ∀ a, a ≠ 0 → a ≠ now s → a ≠ 114 → mu (mu (mu s (now s) kc v) 0 15 c) 114 j v a = s a := fun a x y z => by rw [mu_rw z, mu_rw x, mu_rw y]
  have r0 : ∀ i, i ≠ 15 → mu (mu (mu s (now s) kc v) 0 15 c) 114 j v 0 i = s 0 i := fun i hi => by rw [mu_ne (by omega), mu_ne (by omega), mu_ne (by omega)]
  have r15 : mu (mu (mu s (now s) kc v) 0 15 c) 114 j v 0 15 = c := by rw [mu_ne (by omega), mu_eq]
  have hO : OZ (mu (mu (mu s (now s) kc v) 0 15 c) 114 j v) := OZ_mu (OZ_mu (OZ_mu h10 (fun z => by omega)) (fun z => by omega)) (fun _ _ => by unfold ln; simp; omega)
  have h15 := h9.1
  have hme : MeS (mu (mu (mu s (now s) kc v) 0 15 c) 114 j v) ∧ MeR (mu (mu (mu s (now s) kc v) 0 15 c) 114 j v) := by
    rcases hc with hc | ⟨hc, hk7⟩
    · exact Me_bump ⟨h7, h8⟩ (by rw [ro 64 (by omega) (by omega) (by omega)]) (by rw [ro 81 (by omega) (by omega) (by omega)]) (by rw [r15]; omega)
    · exact Me_er ⟨fun a ha => ro a (by omega) (by omega) (by omega), fun i i1 i2 i3 i4 => bo i (by omega)⟩ (fun a ha => ro a (by omega) (by omega) (by omega)) (by rw [r15]; exact hc) ⟨h7, h8⟩
  obtain ⟨_, ⟨a1, a2, a3, a4, a5, a6, a7, a8, a9, a10, a11, a12⟩, _⟩ := id h3
  generalize hs2 : mu (mu (mu s (now s) kc v) 0 15 c) 114 j v = s2 at *
  have b12 : s2 114 12 < s 0 3 ∧ -1 ≤ s2 114 12 := by
    have := h5.2.2.2.1
    by_cases e : j = 12
    · rw [e] at bj; rw [bj]; omega
    · rw [bo 12 (by omega)]; omega
  refine Inv_mk hI (by omega) r0 (by rw [r15]; omega) (fun a ha => ro a (by omega) (by omega) (by omega)) (fun i hi => by rw [ro 113 (by omega) (by omega) (by omega)]) (HR_sc sc (fun a x y => ro a (by omega) (by omega) (by omega)) h2 hr1) (WH_sc sc h3 (by rw [bo 4 (by omega)]; exact a2) ?_ (by rw [bo 6 (by omega)]; omega) b12.2 ?_) b12.1 hO hme.1 hme.2
  · by_cases e : j = 5
    · rw [e] at bj; rw [bj]; omega
    · rw [bo 5 (by omega)]; exact a3
  · by_cases e : j = 13
    · rw [e] at bj; rw [bj]; omega
    · rw [bo 13 (by omega)]; exact a11
theorem t_force {t : Int} {N : Nat} {s : iv_M} {x : Int} (h : Inv t s) (t0 : 0 ≤ t) (t1 : t ≤ 1000) : ∃ a s1 s2, FX11_force N s 0 x = some (a, s1) ∧ FX12_force N s1 113 x = some (a, s2) ∧ Inv (t + 1) s2 := by
  have hI := h
  obtain ⟨h1, h2, h3, h4, h5, h6, h7, h8, h9, h10⟩ := h
  obtain ⟨n1, n2, n3⟩ := now_ne h1
  have hq : (s 0 4).toNat = now s := rfl
  have hto := HR1_told h2.1
  have hru := h5.1
  have hru2 := h5.2.1
  have hru3 := h5.2.2.1
  unfold FX11_force FX11_force_b23
  rw [hq]
  have no : ∀ s', s' = s → (¬ 0 < s 114 0 ∨ x < -1 ∨ s 0 3 ≤ x) → ∃ a s1 s2, some ((-2 : Int), s') = some (a, s1) ∧ FX12_force N s1 113 x = some (a, s2) ∧ Inv (t + 1) s2 := by
    intro s' e hc
    subst e
    refine ⟨-2, s', s', rfl, ?_, HR1_mono (by omega) hI⟩
    unfold FX12_force FX12_force_b25
    rw [told_ref, Option.bind_some, w32_id (by omega) (by omega)]
    by_cases c : 0 < s' 114 0
    · rw [if_pos c, if_neg (by omega), FX12_in_ok, Option.bind_some, if_neg (show ¬ (-1 ≤ x ∧ x ≤ s' 113 32 - 1) by omega), if_pos rfl]
    · rw [if_neg c, if_pos rfl]
  by_cases e0 : s (now s) 0 = 0
  · rw [if_pos e0]; exact no s rfl (Or.inl (hto.mp e0))
  rw [if_neg e0]
  by_cases e1 : x < -1
  · rw [if_pos e1]; exact no s rfl (Or.inr (Or.inl e1))
  rw [if_neg e1]
  by_cases e2 : x < s 0 3
  · have hp : 0 < s 114 0 := by
      by_cases z : 0 < s 114 0
      · exact z
      · exact absurd (hto.mpr z) e0
    have h15 := h9.1
    rw [if_pos e2, pt_ok, Option.bind_some, pt_ok, Option.bind_some, mu_ne (by omega), w32_id (by omega) (by omega)]
    refine ⟨s (now s) 5, mu (mu s (now s) 5 x) 0 15 (s 0 15 + 1), mu (mu (mu s (now s) 5 x) 0 15 (s 0 15 + 1)) 114 12 x, rfl, ?_, Inv_set hI t0 (Or.inr (Or.inl ⟨rfl, rfl, by omega, e2⟩)) (Or.inl rfl)⟩
    unfold FX12_force
    rw [told_ref, Option.bind_some]
    have e114 : mu (mu s (now s) 5 x) 0 15 (s 0 15 + 1) 114 = s 114 := by rw [mu_rw (by omega), mu_rw (by omega)]
    have e113 : mu (mu s (now s) 5 x) 0 15 (s 0 15 + 1) 113 = s 113 := by rw [mu_rw (by omega), mu_rw (by omega)]
    rw [e114, e113, if_pos hp, if_neg (by omega), FX12_in_ok, Option.bind_some, w32_id (by omega) (by omega), if_pos (show -1 ≤ x ∧ x ≤ s 113 32 - 1 by omega), if_neg (by omega)]
    simp only [Nat.reduceAdd]
    rw [rd_ok (by omega) (by omega), Option.bind_some, wr_ok (by omega) (by omega), Option.bind_some, e114, h2.1.2.2.2.2.1]
  · rw [if_neg e2]; exact no s rfl (Or.inr (Or.inr (by omega)))
theorem t_seed {t : Int} {N : Nat} {s : iv_M} {x : Int} (h : Inv t s) (t0 : 0 ≤ t) (t1 : t ≤ 1000) (hx : x < 2147483648) : ∃ a s1 s2, FX11_seed N s 0 x = some (a, s1) ∧ FX12_seed N s1 113 x = some (a, s2) ∧ Inv (t + 1) s2 := by
  have hI := h
  obtain ⟨h1, h2, h3, h4, h5, h6, h7, h8, h9, h10⟩ := h
  obtain ⟨n1, n2, n3⟩ := now_ne h1
  have hq : (s 0 4).toNat = now s := rfl
  unfold FX11_seed
  rw [hq]
  by_cases e : 0 ≤ x
  · rw [if_pos e, pt_ok, Option.bind_some]
    have hs : mu (mu s (now s) 7 x) 0 15 (s 0 15) = mu s (now s) 7 x := by
      have := mu_same (s := mu s (now s) 7 x) (a := 0) (i := 15)
      rw [mu_ne (by omega)] at this; exact this
    have hi := Inv_set (c := s 0 15) hI t0 (Or.inr (Or.inr ⟨rfl, rfl, e, hx⟩)) (Or.inr ⟨rfl, rfl⟩)
    rw [hs] at hi
    refine ⟨s (now s) 7, mu s (now s) 7 x, mu (mu s (now s) 7 x) 114 13 x, rfl, ?_, hi⟩
    unfold FX12_seed
    simp only [Nat.reduceAdd]
    rw [if_pos e, rd_ok (by omega) (by omega), Option.bind_some, wr_ok (by omega) (by omega), Option.bind_some, mu_ne (by omega), h2.1.2.2.2.2.2.2.1]
  · rw [if_neg e]
    refine ⟨-1, s, s, rfl, ?_, HR1_mono (by omega) hI⟩
    unfold FX12_seed; rw [if_neg e]
