-- CALLS THAT CHANGE LITTLE
theorem Inv_mk {t t' : Int} {s s2 : iv_M} (hI : Inv t s) (ht : t ≤ t') (h0 : ∀ i, i ≠ 15 → s2 0 i = s 0 i) (hc : s 0 15 ≤ s2 0 15 ∧ s2 0 15 ≤ 20 * t')
    (hrow : ∀ a, (a = 1 ∨ (3 ≤ a ∧ a ≤ 8) ∨ a = 53 ∨ 174 ≤ a ∨ (139 ≤ a ∧ a ≤ 144) ∨ a = 153 ∨ a = 172 ∨ a = 173) → s2 a = s a)
    (h113 : ∀ i, (i = 28 ∨ i = 32 ∨ i = 37 ∨ i = 56) → s2 113 i = s 113 i)
    (hH : HR s2 (now s) s2) (hW : WH t' s2) (hf : s2 114 12 < s 0 3) (hO : OZ s2) (hMS : MeS s2) (hMR : MeR s2) : Inv t' s2 := by
  obtain ⟨h1, h2, h3, h4, h5, h6, h7, h8, h9, h10⟩ := hI
  have hn : now s2 = now s := by unfold now; rw [h0 4 (by omega)]
  refine ⟨?_, by rw [hn]; exact hH, hW, ?_, ?_, fun k k0 k1 => ?_, hMS, hMR, ?_, hO⟩
  · unfold NowS at h1 ⊢; rw [h0 4 (by omega), h0 5 (by omega)]; exact h1
  · unfold Tp at h4 ⊢; rw [h0 1 (by omega), h113 28 (by omega), hrow 1 (by omega), hrow 139 (by omega)]; exact h4
  · obtain ⟨a1, a2, a3, a4, a5⟩ := h5
    refine ⟨by rw [h0 3 (by omega), h113 32 (by omega)]; exact a1, by rw [h0 3 (by omega)]; exact a2, by rw [h0 3 (by omega)]; exact a3, by rw [h0 3 (by omega)]; exact hf, fun f f0 f1 => ?_⟩
    rw [h0 3 (by omega)] at f1
    obtain ⟨R, hR⟩ := a5 f f0 f1
    exact ⟨R, RUL_ext (hrow 140 (by omega)) (hrow 141 (by omega)) (hrow 142 (by omega)) (hrow 143 (by omega)) (hrow 144 (by omega)) (hrow _ (by omega)) hR⟩
  · have hi : img s2 k = img s k := by funext a i; unfold img; rw [hrow 172 (by omega)]
    unfold Im1
    rw [hrow 173 (by omega), hrow 53 (by omega), hi, h0 3 (by omega)]
    rcases h6 k k0 k1 with z | ⟨z1, q, z2, z3, z4, z5, z6, z7⟩
    · left; exact z
    · right; exact ⟨z1, q, z2, z3, z4, HR_ext (fun a x y => hrow a (by omega)) z5, WH_mono ht z6, z7⟩
  · obtain ⟨a1, a2, a3, a4⟩ := h9
    refine ⟨⟨by omega, hc.2⟩, by rw [h113 37 (by omega)]; exact a2, by rw [h113 56 (by omega)]; exact ⟨a3.1, by omega⟩, ?_⟩
    rw [h113 56 (by omega), hrow 153 (by omega)]; exact a4
theorem Me_bump {s s2 : iv_M} (h : MeS s ∧ MeR s) (h64 : s2 64 9 = s 64 9) (h81 : s2 81 7 = s 81 7) (hc : s 0 15 < s2 0 15) : MeS s2 ∧ MeR s2 := by
  obtain ⟨⟨a1, a2, a3⟩, ⟨b1, b2, b3⟩⟩ := h
  exact ⟨⟨by omega, by omega, fun z => by omega⟩, ⟨by omega, by omega, fun z => by omega⟩⟩
theorem OZ_mu {s : iv_M} {a : Nat} {i v : Int} (h : OZ s) (hi : 114 ≤ a → a ≤ 131 → 0 ≤ i ∧ i < ln a) : OZ (mu s a i v) := by
  intro b b0 b1 j hj
  rw [mu_ne (fun z => by obtain ⟨z1, z2⟩ := z; subst z1; subst z2; exact hj (hi b0 b1))]
  exact h b b0 b1 j hj
/-- the block changed at a scalar -/
theorem HR1_told {s : iv_M} {q : Nat} {B : iv_M} (h : HR1 s q B) : s q 0 = 0 ↔ ¬ 0 < B 114 0 := by
  rw [h.1]; split
  · next z => exact ⟨fun y => by omega, fun y => absurd z y⟩
  · next z => exact ⟨fun _ => z, fun _ => rfl⟩
theorem now_ne {s : iv_M} (h : NowS s) : now s ≠ 0 ∧ 9 ≤ now s ∧ now s + 21 ≤ 52 := by
  rcases (now_HQ h).2.1 with z | z <;> omega
theorem mu2 {s : iv_M} {q : Nat} {B : iv_M} {i v : Int} (hH : HR s q B) (hi : i = 4 ∨ i = 5 ∨ i = 6 ∨ i = 7 ∨ i = 8 ∨ i = 3 ∨ i = 1) : (FRc (mu s q i v) (q + 1) B ∧ FP (mu s q i v) (q + 1) B) ∧ HR3 (mu s q i v) q B ∧ HR4 (mu s q i v) q B ∧ HR5 (mu s q i v) q B ∧ HR6 (mu s q i v) q B := by
  obtain ⟨h1, ⟨h2, h2'⟩, h3, h4, h5, h6⟩ := hH
  refine ⟨⟨FRc_ext (fun a x y => mu_rw (by omega)) h2, FP_ext (mu_rw (by omega)) h2'⟩, ?_, ?_, ?_, ?_⟩
  · unfold HR3 at h3 ⊢; rw [mu_rw (by omega)]; exact h3
  · unfold HR4 at h4 ⊢; rw [mu_rw (by omega), mu_rw (by omega), mu_rw (by omega), mu_rw (by omega)]; exact h4
  · unfold HR5 at h5 ⊢; rw [mu_rw (by omega), mu_rw (by omega)]; exact h5
  · unfold HR6 at h6 ⊢; rw [mu_rw (by omega), mu_rw (by omega), mu_rw (by omega), mu_rw (by omega), mu_rw (by omega), mu_rw (by omega)]; exact h6
def Sc5 (s s2 : iv_M) : Prop := (∀ a : Nat, 115 ≤ a → a ≤ 131 → s2 a = s a) ∧ ∀ j : Int, j ≠ 4 → j ≠ 5 → j ≠ 6 → j ≠ 12 → j ≠ 13 → s2 114 j = s 114 j
theorem FRc_sc {s B B2 : iv_M} {q : Nat} (h : Sc5 B B2) (hF : FRc s q B) : FRc s q B2 := by
  have hk : kd B2 = kd B := by funext c d; unfold kd sd; rw [h.1 115 (by omega) (by omega), h.1 117 (by omega) (by omega), h.1 121 (by omega) (by omega)]
  have hn : nb B2 = nb B := by funext c d; unfold nb isC; rw [h.2 0 (by omega) (by omega) (by omega) (by omega) (by omega), h.2 1 (by omega) (by omega) (by omega) (by omega) (by omega)]
  unfold FRc at hF ⊢
  rw [hk, hn, h.1 115 (by omega) (by omega), h.1 117 (by omega) (by omega), h.1 121 (by omega) (by omega), h.2 0 (by omega) (by omega) (by omega) (by omega) (by omega), h.2 1 (by omega) (by omega) (by omega) (by omega) (by omega), h.2 2 (by omega) (by omega) (by omega) (by omega) (by omega)]
  exact hF
theorem HR_sc {s s2 B B2 : iv_M} {q : Nat} (h : Sc5 B B2) (hr : ∀ a, q + 1 ≤ a → a ≤ q + 21 → s2 a = s a) (hH : HR s q B) (h1 : HR1 s2 q B2) : HR s2 q B2 := by
  obtain ⟨_, ⟨h2, h2'⟩, h3, h4, h5, h6⟩ := hH
  have e2 := h.2 2 (by omega) (by omega) (by omega) (by omega) (by omega)
  have e7 := h.2 7 (by omega) (by omega) (by omega) (by omega) (by omega)
  have e8 := h.2 8 (by omega) (by omega) (by omega) (by omega) (by omega)
  have e9 := h.2 9 (by omega) (by omega) (by omega) (by omega) (by omega)
  have e10 := h.2 10 (by omega) (by omega) (by omega) (by omega) (by omega)
  have e11 := h.2 11 (by omega) (by omega) (by omega) (by omega) (by omega)
  refine ⟨h1, ⟨FRc_ext (fun a x y => hr a (by omega) (by omega)) (FRc_sc h h2), ?_⟩, ?_, ?_, ?_, ?_⟩
  · unfold FP at h2' ⊢; rw [hr (q + 1) (by omega) (by omega), h.1 116 (by omega) (by omega), h.1 117 (by omega) (by omega), e2]; exact h2'
  · unfold HR3 at h3 ⊢; rw [hr (q + 8) (by omega) (by omega), h.1 119 (by omega) (by omega)]; exact h3
  · have ep : pC B2 = pC B := by funext j r; unfold pC; rw [h.1 122 (by omega) (by omega)]
    have et : pT B2 = pT B := by funext j r; unfold pT; rw [h.1 122 (by omega) (by omega)]
    unfold HR4 at h4 ⊢; rw [ep, et, hr (q + 10) (by omega) (by omega), hr (q + 11) (by omega) (by omega), hr (q + 12) (by omega) (by omega), hr (q + 13) (by omega) (by omega), e7, e2]; exact h4
  · have ep : dC B2 = dC B := by funext j r; unfold dC; rw [h.1 123 (by omega) (by omega)]
    have et : dT B2 = dT B := by funext j r; unfold dT; rw [h.1 123 (by omega) (by omega)]
    unfold HR5 at h5 ⊢; rw [ep, et, hr (q + 14) (by omega) (by omega), hr (q + 15) (by omega) (by omega), e11, e2]; exact h5
  · unfold HR6 at h6 ⊢; rw [hr (q + 16) (by omega) (by omega), hr (q + 17) (by omega) (by omega), hr (q + 18) (by omega) (by omega), hr (q + 19) (by omega) (by omega), hr (q + 20) (by omega) (by omega), hr (q + 21) (by omega) (by omega), e8, e9, e10, h.1 124 (by omega) (by omega), h.1 125 (by omega) (by omega), h.1 126 (by omega) (by omega), h.1 127 (by omega) (by omega), h.1 128 (by omega) (by omega), h.1 129 (by omega) (by omega), h.1 130 (by omega) (by omega), h.1 131 (by omega) (by omega)]; exact h6
theorem WH_sc {t t' : Int} {s s2 : iv_M} (h : Sc5 s s2) (hW : WH t s) (c4 : 0 ≤ s2 114 4 ∧ s2 114 4 ≤ 7) (c5 : 0 ≤ s2 114 5 ∧ s2 114 5 ≤ 2) (c6 : -(20 * t') ≤ s2 114 6 ∧ s2 114 6 ≤ 20 * t') (c12 : -1 ≤ s2 114 12) (c13 : 0 ≤ s2 114 13 ∧ s2 114 13 < 2147483648) : WH t' s2 := by
  have e0 := h.2 0 (by omega) (by omega) (by omega) (by omega) (by omega)
  have e1 := h.2 1 (by omega) (by omega) (by omega) (by omega) (by omega)
  have e2 := h.2 2 (by omega) (by omega) (by omega) (by omega) (by omega)
  have e3 := h.2 3 (by omega) (by omega) (by omega) (by omega) (by omega)
  have e7 := h.2 7 (by omega) (by omega) (by omega) (by omega) (by omega)
  have e8 := h.2 8 (by omega) (by omega) (by omega) (by omega) (by omega)
  have e9 := h.2 9 (by omega) (by omega) (by omega) (by omega) (by omega)
  have e10 := h.2 10 (by omega) (by omega) (by omega) (by omega) (by omega)
  have e11 := h.2 11 (by omega) (by omega) (by omega) (by omega) (by omega)
  obtain ⟨⟨w1, w2, w3⟩, ⟨a1, a2, a3, a4, a5, a6, a7, a8, a9, a10, a11, a12⟩, hw⟩ := hW
  refine ⟨⟨?_, ?_, ?_⟩, ⟨by rw [e3]; exact a1, c4, c5, c6, by rw [e7]; exact a5, by rw [e8]; exact a6, by rw [e9]; exact a7, by rw [e10]; exact a8, by rw [e11]; exact a9, c12, c13, by rw [e0, e2]; exact a12⟩, ?_⟩
  · unfold Wa at w1 ⊢; rw [e0, e1, e2, h.1 115 (by omega) (by omega)]; exact w1
  · unfold Wc at w2 ⊢; rw [e0, e1, e2, h.1 116 (by omega) (by omega), h.1 117 (by omega) (by omega), h.1 121 (by omega) (by omega)]; exact w2
  · unfold Wr at w3 ⊢; rw [e2, h.1 116 (by omega) (by omega), h.1 121 (by omega) (by omega)]; exact w3
  · have ep : pC s2 = pC s := by funext j r; unfold pC; rw [h.1 122 (by omega) (by omega)]
    have et : pT s2 = pT s := by funext j r; unfold pT; rw [h.1 122 (by omega) (by omega)]
    have dp : dC s2 = dC s := by funext j r; unfold dC; rw [h.1 123 (by omega) (by omega)]
    have dt : dT s2 = dT s := by funext j r; unfold dT; rw [h.1 123 (by omega) (by omega)]
    have fv : FV s2 = FV s := by funext f g; unfold FV; rw [e0, e1, e2]
    have iw : isW s2 = isW s := by funext k r o; unfold isW; rw [e2]
    unfold WH2 at hw ⊢
    rw [ep, et, dp, dt, fv, iw, e2, e3, e7, e8, e9, e10, e11, h.1 118 (by omega) (by omega), h.1 119 (by omega) (by omega), h.1 120 (by omega) (by omega), h.1 124 (by omega) (by omega), h.1 125 (by omega) (by omega), h.1 126 (by omega) (by omega), h.1 127 (by omega) (by omega), h.1 128 (by omega) (by omega), h.1 129 (by omega) (by omega), h.1 130 (by omega) (by omega), h.1 131 (by omega) (by omega)]
    exact hw
theorem told_ref {N : Nat} {s : iv_M} : FX12_isPalace N s 113 = some (if 0 < s 114 0 then 1 else 0) := FX12_isPalace_ok
theorem t_law {t : Int} {N : Nat} {s : iv_M} {x : Int} (h : Inv t s) (t0 : 0 ≤ t) (t1 : t ≤ 1000) : ∃ a s1 s2, FX11_law N s 0 x = some (a, s1) ∧ FX12_law N s1 113 x = some (a, s2) ∧ Inv (t + 1) s2 := by
  have hI := h
  obtain ⟨h1, h2, h3, h4, h5, h6, h7, h8, h9, h10⟩ := h
  obtain ⟨n1, n2, n3⟩ := now_ne h1
  have hq : (s 0 4).toNat = now s := rfl
  have hto := HR1_told h2.1
  unfold FX11_law FX11_law_b19
  rw [hq]
  have no : ∀ s', s' = s → (¬ 0 < s 114 0 ∨ x < 0 ∨ 2 < x) → ∃ a s1 s2, some ((-2 : Int), s') = some (a, s1) ∧ FX12_law N s1 113 x = some (a, s2) ∧ Inv (t + 1) s2 := by
    intro s' e hc
    subst e
    refine ⟨-2, s', s', rfl, ?_, HR1_mono (by omega) hI⟩
    unfold FX12_law FX12_law_b19
    rw [told_ref, Option.bind_some]
    by_cases c : 0 < s' 114 0
    · rw [if_pos c, if_neg (by omega), FX12_in_ok, Option.bind_some, if_neg (show ¬ (0 ≤ x ∧ x ≤ 2) by omega), if_pos rfl]
    · rw [if_neg c, if_pos rfl]
  by_cases e0 : s (now s) 0 = 0
  · rw [if_pos e0]; exact no s rfl (Or.inl (hto.mp e0))
  rw [if_neg e0]
  by_cases e1 : x < 0
  · rw [if_pos e1]; exact no s rfl (Or.inr (Or.inl e1))
  rw [if_neg e1]
  by_cases e2 : x ≤ 2
  · have hp : 0 < s 114 0 := by
      by_cases z : 0 < s 114 0
      · exact z
      · exact absurd (hto.mpr z) e0
    have h15 := h9.1
    rw [if_pos e2, pt_ok, Option.bind_some, pt_ok, Option.bind_some, mu_ne (by omega), w32_id (by omega) (by omega)]
    refine ⟨s (now s) 4, mu (mu s (now s) 4 x) 0 15 (s 0 15 + 1), mu (mu (mu s (now s) 4 x) 0 15 (s 0 15 + 1)) 114 5 x, rfl, ?_, ?_⟩
    · unfold FX12_law
      rw [told_ref, Option.bind_some]
      have e114 : mu (mu s (now s) 4 x) 0 15 (s 0 15 + 1) 114 = s 114 := by rw [mu_rw (by omega), mu_rw (by omega)]
      rw [e114, if_pos hp, if_neg (by omega), FX12_in_ok, Option.bind_some, if_pos (show 0 ≤ x ∧ x ≤ 2 by omega), if_neg (by omega)]
      simp only [Nat.reduceAdd]
      rw [rd_ok (by omega) (by omega), Option.bind_some, wr_ok (by omega) (by omega), Option.bind_some, e114, h2.1.2.1.2.2.2.1]
    · have sc : Sc5 s (mu (mu (mu s (now s) 4 x) 0 15 (s 0 15 + 1)) 114 5 x) := ⟨fun a a0 a1 => by rw [mu_rw (by omega), mu_rw (by omega), mu_rw (by omega)], fun j j1 j2 j3 j4 j5 => by rw [mu_ne (by omega), mu_ne (by omega), mu_ne (by omega)]⟩
      have rq : ∀ i, i ≠ 4 → mu (mu (mu s (now s) 4 x) 0 15 (s 0 15 + 1)) 114 5 x (now s) i = s (now s) i := fun i hi => by rw [mu_ne (by omega), mu_ne (by omega), mu_ne (by omega)]
      have b5 : mu (mu (mu s (now s) 4 x) 0 15 (s 0 15 + 1)) 114 5 x 114 5 = x := mu_eq
      have bo : ∀ j, j ≠ 5 → mu (mu (mu s (now s) 4 x) 0 15 (s 0 15 + 1)) 114 5 x 114 j = s 114 j := fun j hj => by rw [mu_ne (by omega), mu_ne (by omega), mu_ne (by omega)]
      have hr1 : HR1 (mu (mu (mu s (now s) 4 x) 0 15 (s 0 15 + 1)) 114 5 x) (now s) (mu (mu (mu s (now s) 4 x) 0 15 (s 0 15 + 1)) 114 5 x) := by
        obtain ⟨g0, ⟨g1, g2, g3, g4, g5⟩, g6, g7, g8, g9, g10, g11⟩ := h2.1
        refine ⟨by rw [rq 0 (by omega), bo 0 (by omega)]; exact g0, ⟨by rw [rq 1 (by omega), bo 4 (by omega)]; exact g1, by rw [rq 2 (by omega), bo 3 (by omega)]; exact g2, ?_, ?_, ?_⟩, by rw [rq 3 (by omega)]; exact g6, by rw [rq 3 (by omega)]; exact g7, by rw [rq 5 (by omega), bo 12 (by omega)]; exact g8, by rw [rq 6 (by omega), bo 6 (by omega)]; exact g9, by rw [rq 7 (by omega), bo 13 (by omega)]; exact g10, by rw [rq 8 (by omega), bo 11 (by omega)]; exact g11⟩
        · rw [rq 3 (by omega), bo 2 (by omega), sc.1 118 (by omega) (by omega)]; exact g3
        · rw [b5, mu_ne (by omega), mu_ne (by omega), mu_eq]
        · rw [bo 3 (by omega), sc.1 120 (by omega) (by omega), mu_rw (by omega), mu_rw (by omega), mu_rw (by omega)]; exact g5
      obtain ⟨_, ⟨a1, a2, a3, a4, a5, a6, a7, a8, a9, a10, a11, a12⟩, _⟩ := id h3
      obtain ⟨m1, m2⟩ := Me_bump (s2 := mu (mu (mu s (now s) 4 x) 0 15 (s 0 15 + 1)) 114 5 x) ⟨h7, h8⟩ (by rw [mu_ne (by omega), mu_ne (by omega), mu_ne (by omega)]) (by rw [mu_ne (by omega), mu_ne (by omega), mu_ne (by omega)]) (by rw [mu_ne (by omega), mu_eq]; omega)
      refine Inv_mk hI (by omega) (fun i hi => by rw [mu_ne (by omega), mu_ne (by omega), mu_ne (by omega)]) (by rw [mu_ne (by omega), mu_eq]; omega) (fun a ha => by rw [mu_rw (by omega), mu_rw (by omega), mu_rw (by omega)]) (fun i hi => by rw [mu_ne (by omega), mu_ne (by omega), mu_ne (by omega)]) (HR_sc sc (fun a x y => by rw [mu_rw (by omega), mu_rw (by omega), mu_rw (by omega)]) h2 hr1) (WH_sc sc h3 (by rw [bo 4 (by omega)]; exact a2) (by rw [b5]; omega) (by rw [bo 6 (by omega)]; omega) (by rw [bo 12 (by omega)]; exact a10) (by rw [bo 13 (by omega)]; exact a11)) (by rw [bo 12 (by omega)]; exact h5.2.2.2.1) (OZ_mu (OZ_mu (OZ_mu h10 (fun z => by omega)) (fun z => by omega)) (fun _ _ => by unfold ln; simp)) m1 m2
  · rw [if_neg e2]; exact no s rfl (Or.inr (Or.inr (by omega)))
