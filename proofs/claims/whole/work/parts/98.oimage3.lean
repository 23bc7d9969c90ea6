-- IMAGES: the reference's answer, once the class has copied its house
theorem image_ok {t : Int} {N : Nat} {s s1 : iv_M} {k : Int} {q : Nat} (hN : 1000 ≤ N) (hI : Inv t s) (k0 : 0 ≤ k) (k1 : k < 4) (hq : HQ q) (hq2 : 174 ≤ q) (hmade : (s 173 k = 1 ∧ s 53 k = q) ∨ (s 173 k = 0 ∧ (q : Int) = 174 + 22 * (s 173 0 + s 173 1 + s 173 2 + s 173 3))) (ho : ∀ a, a ≠ 53 → (a < q ∨ q + 21 < a) → s1 a = s a) (h53 : ∀ i, s1 53 i = if i = k then (q : Int) else s 53 i) (hH : HR s1 q s) : ∃ s2, FX12_image N s1 113 k = some (s 114 6, s2) ∧ Inv (t + 1) s2 := by
  have hO := hI.2.2.2.2.2.2.2.2.2
  obtain ⟨y, hy⟩ : ∃ y, y = mu s1 173 k 1 := ⟨_, rfl⟩
  have oy : ∀ a, a ≠ 173 → y a = s1 a := fun a ha => by rw [hy, mu_rw ha]
  have yb : ∀ a, 114 ≤ a → a ≤ 131 → y a = s a := fun a a0 a1 => by rw [oy a (by omega), ho a (by omega) (by omega)]
  have y172 : y 172 = s 172 := by rw [oy 172 (by omega), ho 172 (by omega) (by omega)]
  obtain ⟨x, x1, x2, x3, x4, x5⟩ := carriesTo_ok (N := N) (s := y) (k := k) hN (fun a a0 a1 i hi => by rw [yb a a0 a1]; exact hO a a0 a1 i hi) k0 k1
  refine ⟨x, ?_, HR1_mono (by omega) (Inv_img (s2 := x) hI k0 k1 hq hq2 hmade (fun a a1 a2 a3 a4 a5 => by rw [x4 a a2 a3, oy a a4, ho a a1 a5]) (fun i => by rw [x4 53 (by omega) (by omega), oy 53 (by omega), h53]) (fun j j0 j1 => by rw [x5 j j0 j1, oy 113 (by omega), ho 113 (by omega) (by omega)]) (fun i => ?_) (HR_ext (fun a a0 a1 => by rw [x4 a (by omega) (by omega), oy a (by omega)]) hH) (fun a a0 a1 => by rw [x2 a a0 a1, yb a a0 a1]) (fun k' z0 z1 z2 a a0 a1 => by
    rw [x3 k' z0 z1 z2 a a0 a1]
    funext i; unfold img; rw [y172]))⟩
  · unfold FX12_image
    simp only [Nat.reduceAdd]
    rw [FX12_in_ok, Option.bind_some, if_pos (show 0 ≤ k ∧ k ≤ 3 by omega), if_neg (by decide), wr_ok k0 (by omega), Option.bind_some, ← hy, x1, Option.bind_some, rd_ok (by omega) (by omega), Option.bind_some, x4 114 (by omega) (by omega), yb 114 (by omega) (by omega)]
  · rw [x4 173 (by omega) (by omega), hy]
    by_cases e : i = k
    · rw [if_pos e, e, mu_eq]
    · rw [if_neg e, mu_ne (by omega), ho 173 (by omega) (by omega)]
