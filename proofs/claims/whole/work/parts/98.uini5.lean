-- THE START: well formed
set_option maxRecDepth 100000 in
theorem st0_114 : (st0 114 0 = 0 ∧ st0 114 1 = 0 ∧ st0 114 2 = 0 ∧ st0 114 3 = 0 ∧ st0 114 4 = 0) ∧ (st0 114 5 = 0 ∧ st0 114 6 = 0 ∧ st0 114 7 = 0 ∧ st0 114 8 = 0 ∧ st0 114 9 = 0) ∧ (st0 114 10 = 0 ∧ st0 114 11 = 0 ∧ st0 114 12 = -1 ∧ 0 ≤ st0 114 13 ∧ st0 114 13 < 2147483648) := by decide +kernel
set_option maxRecDepth 100000 in
theorem st0_121 : ∀ c : Fin 16, st0 121 (c.1 : Int) = -1 ∧ st0 13 (c.1 : Int) = -1 := by decide +kernel
set_option maxRecDepth 100000 in
theorem st0_119 : ∀ k : Fin 4, st0 119 (k.1 : Int) = -1 ∧ st0 17 ((k.1 : Int) + 1) = -1 := by decide +kernel
theorem st0_121' {c : Int} (c0 : 0 ≤ c) (c1 : c < 16) : st0 121 c = -1 ∧ st0 13 c = -1 := by
  have := st0_121 ⟨c.toNat, by omega⟩
  dsimp only at this
  rw [Int.toNat_of_nonneg c0] at this
  exact this
theorem st0_119' {c : Int} (c0 : 0 ≤ c) (c1 : c < 4) : st0 119 c = -1 ∧ st0 17 (c + 1) = -1 := by
  have := st0_119 ⟨c.toNat, by omega⟩
  dsimp only at this
  rw [Int.toNat_of_nonneg c0] at this
  exact this
theorem st0_WH : WH 0 st0 := by
  obtain ⟨⟨a0, a1, a2, a3, a4⟩, ⟨a5, a6, a7, a8, a9⟩, a10, a11, a12, a13, a14⟩ := st0_114
  refine ⟨⟨?_, fun c c0 c1 => Or.inl (st0_121' c0 c1).1, fun r r0 r1 => by omega⟩, ?_, ?_⟩
  · unfold Wa
    rw [a0, a1, a2]
    exact ⟨by decide, by decide, by decide, by decide, by decide, by decide, Iff.rfl, fun j j0 j1 => by omega⟩
  · unfold WH1
    rw [a0, a2, a3, a4, a5, a6, a7, a8, a9, a10, a11, a12]
    exact ⟨by decide, by decide, by decide, by decide, by decide, by decide, by decide, by decide, by decide, by decide, ⟨a13, a14⟩, fun _ => rfl⟩
  · unfold WH2
    rw [a2, a3, a7, a8, a9, a10, a11]
    refine ⟨fun r _ _ => by omega, fun k k0 k1 => ?_, fun p _ _ => by omega, fun j _ _ => by omega, fun k _ _ z => ?_, fun j _ _ => by omega, fun j _ _ => by omega, fun j _ _ => by omega⟩
    · rw [(st0_119' k0 k1).1]; decide
    · rw [Int.zero_ediv] at z; exact absurd z (by decide)
