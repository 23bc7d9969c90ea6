-- IMAGES: what holds after one was made
theorem Inv_img {t : Int} {s s2 : iv_M} {k : Int} {q : Nat} (hI : Inv t s) (k0 : 0 ≤ k) (k1 : k < 4) (hq : HQ q) (hq2 : 174 ≤ q) (hmade : (s 173 k = 1 ∧ s 53 k = q) ∨ (s 173 k = 0 ∧ (q : Int) = 174 + 22 * (s 173 0 + s 173 1 + s 173 2 + s 173 3))) (ho : ∀ a, a ≠ 53 → a ≠ 113 → a ≠ 172 → a ≠ 173 → (a < q ∨ q + 21 < a) → s2 a = s a) (h53 : ∀ i, s2 53 i = if i = k then (q : Int) else s 53 i) (h113 : ∀ j, j ≠ 81 → j ≠ 82 → s2 113 j = s 113 j) (h173 : ∀ i, s2 173 i = if i = k then 1 else s 173 i) (hH : HR s2 q s) (hk : ∀ a, 114 ≤ a → a ≤ 131 → img s2 k a = s a) (hk' : ∀ k', 0 ≤ k' → k' < 4 → k' ≠ k → ∀ a, 114 ≤ a → a ≤ 131 → img s2 k' a = img s k' a) : Inv t s2 := by
  have hI2 := hI
  obtain ⟨g1, g2, g3, g4, g5, g6, g7, g8, g9, g10⟩ := hI
  obtain ⟨n1, n2, n3⟩ := now_ne g1
  have lo : ∀ a, a ≤ 171 → a ≠ 53 → a ≠ 113 → s2 a = s a := fun a a1 a2 a3 => ho a a2 a3 (by omega) (by omega) (by omega)
  have e0 : s2 0 = s 0 := lo 0 (by omega) (by omega) (by omega)
  have hn : now s2 = now s := by unfold now; rw [e0]
  have hE : Eb s s2 := fun a a0 a1 => lo a (by omega) (by omega) (by omega)
  have mad : ∀ i, 0 ≤ i → i < 4 → s 173 i = 0 ∨ s 173 i = 1 := fun i i0 i1 => by
    rcases g6 i i0 i1 with ⟨z, _⟩ | ⟨z, _⟩
    · exact Or.inl z
    · exact Or.inr z
  have sums : s2 173 0 + s2 173 1 + s2 173 2 + s2 173 3 = s 173 0 + s 173 1 + s 173 2 + s 173 3 + (1 - s 173 k) := by
    have : k = 0 ∨ k = 1 ∨ k = 2 ∨ k = 3 := by omega
    rw [h173 0, h173 1, h173 2, h173 3]
    rcases this with e | e | e | e <;> subst e <;> simp <;> omega
  have mk := mad k k0 k1
  refine ⟨?_, ?_, WH_eb hE g3, ?_, ?_, fun k' k0' k1' => ?_, ?_, ?_, ?_, fun a a0 a1 i hi => by rw [hE a a0 a1]; exact g10 a a0 a1 i hi⟩
  · unfold NowS at g1 ⊢; rw [e0]; exact g1
  · rw [hn]; exact HR_eb hE (HR_ext (fun a y z => lo a (by omega) (by omega) (by omega)) g2)
  · unfold Tp at g4 ⊢; rw [e0, h113 28 (by omega) (by omega), lo 1 (by omega) (by omega) (by omega), lo 139 (by omega) (by omega) (by omega)]; exact g4
  · obtain ⟨a1, a2, a3, a4, a5⟩ := g5
    refine ⟨by rw [e0, h113 32 (by omega) (by omega)]; exact a1, by rw [e0]; exact a2, by rw [e0]; exact a3, by rw [e0, lo 114 (by omega) (by omega) (by omega)]; exact a4, fun f f0 f1 => ?_⟩
    rw [e0] at f1
    obtain ⟨R, hR⟩ := a5 f f0 f1
    exact ⟨R, RUL_ext (lo 140 (by omega) (by omega) (by omega)) (lo 141 (by omega) (by omega) (by omega)) (lo 142 (by omega) (by omega) (by omega)) (lo 143 (by omega) (by omega) (by omega)) (lo 144 (by omega) (by omega) (by omega)) (lo _ (by omega) (by omega) (by omega)) hR⟩
  · by_cases e : k' = k
    · subst e
      right
      have hEi : Eb s (img s2 k') := fun a a0 a1 => hk a a0 a1
      refine ⟨by rw [h173, if_pos rfl], q, by rw [h53, if_pos rfl], hq2, hq, HR_eb hEi hH, WH_eb hEi g3, by rw [hk 114 (by omega) (by omega), e0]; exact g5.2.2.2.1, ?_, fun k2 z0 z1 z2 => ?_⟩
      · rw [sums]
        rcases hmade with ⟨w1, w2⟩ | ⟨w1, w2⟩
        · rcases g6 k' k0' k1' with ⟨y1, _⟩ | ⟨_, q', y2, _, _, _, _, _, y8, _⟩
          · omega
          · rw [w2] at y2; omega
        · omega
      · rw [h53, if_neg z2]
        rcases hmade with ⟨w1, w2⟩ | ⟨w1, w2⟩
        · rcases g6 k' k0' k1' with ⟨y1, _⟩ | ⟨_, q', y2, _, _, _, _, _, _, y9⟩
          · omega
          · rw [w2] at y2
            have := y9 k2 z0 z1 z2
            omega
        · rcases g6 k2 z0 z1 with ⟨_, y1⟩ | ⟨_, q', y2, _, _, _, _, _, y8, _⟩
          · omega
          · omega
    · rcases g6 k' k0' k1' with ⟨y1, y2⟩ | ⟨y1, q', y2, y3, y4, y5, y6, y7, y8, y9⟩
      · left; exact ⟨by rw [h173, if_neg e]; exact y1, by rw [h53, if_neg e]; exact y2⟩
      · right
        have hne : q ≠ q' := fun z => by
          rcases hmade with ⟨w1, w2⟩ | ⟨w1, w2⟩
          · exact y9 k k0 k1 (fun c => e c.symm) (by rw [w2, z])
          · omega
        have hEi : Eb (img s k') (img s2 k') := fun a a0 a1 => hk' k' k0' k1' e a a0 a1
        have ap := HQ_apart hq y4 hne
        refine ⟨by rw [h173, if_neg e]; exact y1, q', by rw [h53, if_neg e]; exact y2, y3, y4, HR_eb hEi (HR_ext (fun a y z => ho a (by omega) (by omega) (by omega) (by omega) (by omega)) y5), WH_eb hEi y6, by rw [hEi 114 (by omega) (by omega), e0]; exact y7, by rw [sums]; omega, fun k2 z0 z1 z2 => ?_⟩
        rw [h53]
        by_cases c : k2 = k
        · rw [if_pos c]; omega
        · rw [if_neg c]; exact y9 k2 z0 z1 z2
  · obtain ⟨a1, a2, a3⟩ := g7
    refine ⟨by rw [lo 64 (by omega) (by omega) (by omega)]; exact a1, by rw [lo 64 (by omega) (by omega) (by omega), e0]; exact a2, fun q => ?_⟩
    rw [lo 64 (by omega) (by omega) (by omega), e0] at q
    exact SOK_er (Er.of_eb hE) (lo 64 (by omega) (by omega) (by omega)) (lo 80 (by omega) (by omega) (by omega)) (fun a ha => (lo a (by omega) (by omega) (by omega)).symm) (a3 q)
  · obtain ⟨a1, a2, a3⟩ := g8
    refine ⟨by rw [lo 81 (by omega) (by omega) (by omega)]; exact a1, by rw [lo 81 (by omega) (by omega) (by omega), e0]; exact a2, fun q => ?_⟩
    rw [lo 81 (by omega) (by omega) (by omega), e0] at q
    exact ROK_er (Er.of_eb hE) (lo 81 (by omega) (by omega) (by omega)) (lo 96 (by omega) (by omega) (by omega)) (lo 97 (by omega) (by omega) (by omega)) (fun a ha => (lo a (by omega) (by omega) (by omega)).symm) (a3 q)
  · obtain ⟨a1, a2, a3, a4⟩ := g9
    refine ⟨by rw [e0]; exact a1, by rw [h113 37 (by omega) (by omega)]; exact a2, by rw [h113 56 (by omega) (by omega)]; exact a3, ?_⟩
    rw [h113 56 (by omega) (by omega), lo 153 (by omega) (by omega) (by omega)]; exact a4
