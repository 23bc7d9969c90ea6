-- THE START: the easy parts of Inv
set_option maxRecDepth 100000 in
theorem st0_sc : ((st0 0 4 = 9 ∧ st0 0 5 = 31) ∧ (st0 0 1 = 0 ∧ st0 113 28 = 0) ∧ (st0 0 3 = 0 ∧ st0 113 32 = 0 ∧ st0 114 12 = -1) ∧ (st0 64 9 = -1 ∧ st0 81 7 = -1 ∧ st0 0 15 = 0)) ∧ (st0 113 37 = 13 ∧ st0 113 56 = 0) ∧ ((st0 173 0 = 0 ∧ st0 53 0 = -1) ∧ (st0 173 1 = 0 ∧ st0 53 1 = -1) ∧ (st0 173 2 = 0 ∧ st0 53 2 = -1) ∧ (st0 173 3 = 0 ∧ st0 53 3 = -1)) := by decide +kernel
set_option maxRecDepth 100000 in
theorem st0_153 : (List.range 4096).all (fun i => decide (st0 153 (i : Int) ≤ 0)) = true := by decide +kernel
theorem st0_Nc : Nc 174 st0 := by
  obtain ⟨_, _, ⟨a, _⟩, ⟨b, _⟩, ⟨c, _⟩, ⟨d, _⟩⟩ := st0_sc
  unfold Nc; rw [a, b, c, d]; rfl
theorem st0_NowS : NowS st0 := Or.inl st0_sc.1.1
theorem st0_Tp : Tp st0 := Tp_0 st0_sc.1.2.1.1 st0_sc.1.2.1.2
theorem st0_Rl : Rl st0 := by
  obtain ⟨a, b, c⟩ := st0_sc.1.2.2.1
  unfold Rl
  rw [a, b, c]
  exact ⟨rfl, by decide, by decide, by decide, fun f f0 f1 => by omega⟩
theorem st0_Im {t : Int} : Im t st0 := fun k k0 k1 => by
  obtain ⟨_, _, a, b, c, d⟩ := st0_sc
  have : k = 0 ∨ k = 1 ∨ k = 2 ∨ k = 3 := by omega
  rcases this with rfl | rfl | rfl | rfl
  · exact Or.inl a
  · exact Or.inl b
  · exact Or.inl c
  · exact Or.inl d
theorem st0_MeS : MeS st0 := by
  obtain ⟨a, b, c⟩ := st0_sc.1.2.2.2
  unfold MeS
  rw [a, c]
  exact ⟨by decide, by decide, fun z => absurd z (by decide)⟩
theorem st0_MeR : MeR st0 := by
  obtain ⟨a, b, c⟩ := st0_sc.1.2.2.2
  unfold MeR
  rw [b, c]
  exact ⟨by decide, by decide, fun z => absurd z (by decide)⟩
theorem st0_Mk : Mk 0 st0 := by
  obtain ⟨a, b⟩ := st0_sc.2.1
  unfold Mk
  rw [st0_sc.1.2.2.2.2.2, a, b]
  refine ⟨by decide, rfl, by decide, fun i i0 i1 => ?_⟩
  have := List.all_eq_true.mp st0_153 i.toNat (List.mem_range.mpr (by omega))
  rw [Int.toNat_of_nonneg i0] at this
  exact of_decide_eq_true this
