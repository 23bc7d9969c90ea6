-- THE START: the class's house stands for the reference's block; Inv
set_option maxRecDepth 100000 in
theorem st0_h9 : (st0 9 0 = 0 ∧ st0 9 1 = 0 ∧ st0 9 2 = 0 ∧ st0 9 3 = 0 ∧ st0 9 4 = 0) ∧ (st0 9 5 = -1 ∧ st0 9 6 = 0 ∧ st0 9 7 = st0 114 13 ∧ st0 9 8 = 0) ∧ (st0 10 0 = 0 ∧ st0 10 1 = 0 ∧ st0 10 2 = 0 ∧ st0 10 3 = 0 ∧ st0 10 4 = 0) ∧ (st0 19 1 = 0 ∧ st0 21 1 = 0 ∧ st0 25 1 = 0 ∧ st0 27 1 = 0 ∧ st0 29 1 = 0) := by decide +kernel
set_option maxRecDepth 100000 in
theorem st0_15 : ∀ j : Fin 64, st0 15 (j.1 : Int) = 3 ∧ st0 16 (j.1 : Int) = -1 := by decide +kernel
theorem st0_15' {c : Int} (c0 : 0 ≤ c) (c1 : c < 64) : st0 15 c = 3 ∧ st0 16 c = -1 := by
  have := st0_15 ⟨c.toNat, by omega⟩
  dsimp only at this
  rw [Int.toNat_of_nonneg c0] at this
  exact this
theorem st0_HR : HR st0 9 st0 := by
  obtain ⟨⟨a0, a1, a2, a3, a4⟩, ⟨a5, a6, a7, a8, a9⟩, a10, a11, a12, a13, a14⟩ := st0_114
  obtain ⟨⟨b0, b1, b2, b3, b4⟩, ⟨b5, b6, b7, b8⟩, ⟨c0, c1, c2, c3, c4⟩, d1, d2, d3, d4, d5⟩ := st0_h9
  refine ⟨?_, ⟨?_, ?_⟩, ?_, ?_, ?_, ?_⟩
  · unfold HR1 HB
    rw [a0, a2, a3, a4, a5, a6, a11, a12, b0, b1, b2, b3, b4, b5, b6, b8]
    exact ⟨(if_neg (by decide)).symm, ⟨rfl, rfl, fun r _ _ => by omega, rfl, fun p _ _ => by omega⟩, by decide, by decide, rfl, rfl, b7, rfl⟩
  · unfold FRc
    rw [a0, a1, a2]
    refine ⟨c0, c1, c2, fun c x y => ?_, fun c d x y u v => ?_, fun c d x y u v => ?_, fun j _ _ => by omega, fun c x y z => ?_⟩
    · rw [(st0_121' x y).1]; exact (st0_121' x y).2
    · unfold kd
      rw [if_pos (st0_121' x y).1]; exact (st0_15' (by omega) (by omega)).1
    · unfold nb isC
      rw [a0, if_neg (by omega)]; exact (st0_15' (by omega) (by omega)).2
    · exact absurd (st0_121' x y).1 z
  · unfold FP
    rw [a2]
    exact ⟨c3, c4⟩
  · intro k k0 k1
    rw [(st0_119' k0 k1).1]; exact (st0_119' k0 k1).2
  · unfold HR4
    rw [a7]
    exact ⟨d1, d2, fun j _ _ => by omega⟩
  · intro k k0 k1 z
    rw [a11, Int.zero_ediv] at z
    exact absurd z (by decide)
  · unfold HR6
    rw [a8, a9, a10]
    exact ⟨d3, fun j _ _ => by omega, d4, fun j _ _ => by omega, d5, fun j _ _ => by omega⟩
theorem st0_Inv : Inv 0 st0 := by
  refine ⟨st0_NowS, ?_, st0_WH, st0_Tp, st0_Rl, st0_Im, st0_MeS, st0_MeR, st0_Mk, st0_OZ⟩
  have : now st0 = 9 := by
    unfold now
    rw [st0_sc.1.1.1]
    try rfl
  rw [this]
  exact st0_HR
