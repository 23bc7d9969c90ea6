-- SIMPLE QUESTIONS
theorem HR1_mono {t t' : Int} {s : iv_M} (ht : t ≤ t') (h : Inv t s) : Inv t' s := by
  obtain ⟨h1, h2, h3, h4, h5, h6, h7, h8, h9, h10⟩ := h
  refine ⟨h1, h2, WH_mono ht h3, h4, h5, fun k k0 k1 => ?_, h7, h8, ?_, h10⟩
  · rcases h6 k k0 k1 with z | ⟨z1, q, z2, z3, z4, z5, z6, z7⟩
    · left; exact z
    · right; exact ⟨z1, q, z2, z3, z4, z5, WH_mono ht z6, z7⟩
  · obtain ⟨a1, a2, a3, a4⟩ := h9
    exact ⟨⟨a1.1, by omega⟩, a2, ⟨a3.1, by omega⟩, a4⟩
theorem FX2_isRoom_ok {N q : Nat} {s B : iv_M} {r : Int} (hF : FRc s (q + 1) B) : FX2_isRoom N s q r = some (if 0 ≤ r ∧ r < B 114 2 then 1 else 0) := by
  unfold FX2_isRoom FX2_isRoom_b19 FX2_isRoom_b20
  rw [b01_0, b01_1, hF.2.2.1]
  by_cases e1 : r < 0
  · rw [if_pos e1, if_neg (show ¬ (0 ≤ r ∧ r < B 114 2) by omega)]
  · rw [if_neg e1]
    by_cases e2 : B 114 2 ≤ r
    · rw [if_pos e2, if_neg (show ¬ (0 ≤ r ∧ r < B 114 2) by omega)]
    · rw [if_neg e2, if_pos (show 0 ≤ r ∧ r < B 114 2 by omega)]
theorem FX2_isPerson_ok {N q : Nat} {s B : iv_M} {p : Int} (hB : HB s q B) : FX2_isPerson N s q p = some (if 0 ≤ p ∧ p < B 114 3 then 1 else 0) := by
  unfold FX2_isPerson FX2_isPerson_b16 FX2_isPerson_b17
  rw [b01_0, b01_1, hB.2.1]
  by_cases e1 : p < 0
  · rw [if_pos e1, if_neg (show ¬ (0 ≤ p ∧ p < B 114 3) by omega)]
  · rw [if_neg e1]
    by_cases e2 : B 114 3 ≤ p
    · rw [if_pos e2, if_neg (show ¬ (0 ≤ p ∧ p < B 114 3) by omega)]
    · rw [if_neg e2, if_pos (show 0 ≤ p ∧ p < B 114 3 by omega)]
theorem t_room {t : Int} {N : Nat} {s : iv_M} {r w : Int} (hN : 1000 ≤ N) (h : Inv t s) : ∃ a, FX11_room N s 0 r w = some a ∧ FX12_room N s 113 r w = some a := by
  obtain ⟨h1, ⟨⟨_, hB, _⟩, ⟨hF, hP⟩, hK, _⟩, ⟨hW, ⟨p, _⟩, hw2⟩, _⟩ := h
  obtain ⟨q1, q2, q3⟩ := now_HQ h1
  have hr2 := hW.1.2.2.2.2.2.1
  unfold FX11_room FX12_room FX11_room_b121
  have e : (s 0 4).toNat = now s := rfl
  rw [e, FX2_isRoom_ok hF, FX12_isRoom_ok hW.1, Option.bind_some, Option.bind_some]
  by_cases hr : 0 ≤ r ∧ r < s 114 2
  · obtain ⟨r0, r1⟩ := hr
    obtain ⟨c1, c2⟩ := hF.cell hW r0 r1
    obtain ⟨g1, g2, g3, g4, g5, g6, g7⟩ := hW.room r0 r1
    rw [if_pos (show 0 ≤ r ∧ r < s 114 2 from ⟨r0, r1⟩), if_neg (show ¬ (1 : Int) = 0 by omega), if_neg (show ¬ (1 : Int) = 0 by omega)]
    simp only [Nat.reduceAdd]
    by_cases w0 : w = 0
    · rw [if_pos w0, if_pos w0, rd_ok r0 (by omega), Option.bind_some, c1, rd_ok r0 (by omega), Option.bind_some]; exact ⟨_, rfl, rfl⟩
    rw [if_neg w0, if_neg w0]
    by_cases w1 : w = 1
    · rw [if_pos w1, if_pos w1, rd_ok r0 (by omega), Option.bind_some, c2, rd_ok r0 (by omega), Option.bind_some]; exact ⟨_, rfl, rfl⟩
    rw [if_neg w1, if_neg w1]
    have side : ∀ d, 0 ≤ d → d < 4 → ∃ a, ((FX1_sortOf N s (now s + 1) r d).bind fun v => some v) = some a ∧ ((FX12_sideOf N s 113 r d).bind fun v => some v) = some a := by
      intro d d0 d1
      rw [FX1_sortOf_ok hF hW r0 r1 d0 d1, (FX12_sideOf_ok r0 (by omega) g4 g5 d0 d1).2]; exact ⟨_, rfl, rfl⟩
    by_cases w2 : w = 2
    · rw [if_pos w2, if_pos w2, w32_id (by omega) (by omega)]; exact side _ (by omega) (by omega)
    rw [if_neg w2, if_neg w2]
    by_cases w3 : w = 3
    · rw [if_pos w3, if_pos w3, w32_id (by omega) (by omega)]; exact side _ (by omega) (by omega)
    rw [if_neg w3, if_neg w3]
    by_cases w4 : w = 4
    · rw [if_pos w4, if_pos w4, w32_id (by omega) (by omega)]; exact side _ (by omega) (by omega)
    rw [if_neg w4, if_neg w4]
    by_cases w5 : w = 5
    · rw [if_pos w5, if_pos w5, w32_id (by omega) (by omega)]; exact side _ (by omega) (by omega)
    rw [if_neg w5, if_neg w5]
    by_cases w6 : w = 6
    · rw [if_pos w6, if_pos w6, FX2_isFixed_ok hB r0 r1 (by omega), Option.bind_some, rd_ok r0 (by omega), Option.bind_some]
      rcases hw2.1 r r0 r1 with z | z
      · rw [z]; exact ⟨0, rfl, rfl⟩
      · rw [z]; exact ⟨1, rfl, rfl⟩
    rw [if_neg w6, if_neg w6]
    by_cases w7 : w = 7
    · rw [if_pos w7, if_pos w7, FX2_keysIn_ok (by omega) hK, FX12_keysIn_ok (by omega)]; exact ⟨_, rfl, rfl⟩
    rw [if_neg w7, if_neg w7]
    by_cases w8 : w = 8
    · rw [if_pos w8, if_pos w8, FX2_sleepersIn_ok (f := s 120) (by omega) (by rw [hB.2.1]; exact p.1) (by rw [hB.2.1]; exact p.2) (fun i i0 i1 => hB.2.2.2.2 i i0 (by rw [← hB.2.1]; exact i1)), FX12_sleepers_ok (by omega) p.1 p.2, hB.2.1]; exact ⟨_, rfl, rfl⟩
    rw [if_neg w8, if_neg w8]; exact ⟨_, rfl, rfl⟩
  · rw [if_neg hr, if_pos rfl, if_pos rfl]; exact ⟨_, rfl, rfl⟩
theorem t_at {t : Int} {N : Nat} {s : iv_M} {x y : Int} (h : Inv t s) : ∃ a, FX11_at N s 0 x y = some a ∧ FX12_at N s 113 x y = some a := by
  obtain ⟨h1, ⟨_, ⟨hF, hP⟩, _⟩, ⟨hW, _⟩, _⟩ := h
  obtain ⟨b1, b2, b3, b4, _⟩ := hW.1
  unfold FX11_at FX12_at FX11_at_b35 FX12_at_b24
  have e : (s 0 4).toNat = now s := rfl
  rw [e, FX1_cellAt_ok hF hW.1, Option.bind_some, FX12_isCell_ok hW.1, Option.bind_some]
  by_cases c : isC s x y
  · have c' := c
    unfold isC at c'
    rw [if_pos c, if_pos c, if_neg (by omega), if_neg (by omega), rd_ok (by omega) (by omega), Option.bind_some, w32_id (x := 4 * y) (by omega) (by omega), w32_id (by omega) (by omega)]
    simp only [Nat.reduceAdd]
    rw [rd_ok (by omega) (by omega), Option.bind_some, hF.2.2.2.1 _ (by omega) (by omega)]; exact ⟨_, rfl, rfl⟩
  · rw [if_neg c, if_neg c, if_pos rfl, if_pos rfl]; exact ⟨_, rfl, rfl⟩
theorem t_sleeps {t : Int} {N : Nat} {s : iv_M} {p : Int} (h : Inv t s) : ∃ a, FX11_sleeps N s 0 p = some a ∧ FX12_sleeps N s 113 p = some a := by
  obtain ⟨h1, ⟨⟨_, hB, _⟩, _⟩, ⟨hW, ⟨pp, _⟩, _⟩, _⟩ := h
  unfold FX11_sleeps FX12_sleeps FX11_sleeps_b24 FX12_sleeps_b18
  have e : (s 0 4).toNat = now s := rfl
  rw [e, FX2_isPerson_ok hB, Option.bind_some, FX12_isPerson_ok pp.1 pp.2, Option.bind_some]
  by_cases c : 0 ≤ p ∧ p < s 114 3
  · rw [if_pos c, if_neg (by omega), if_neg (by omega), rd_ok c.1 (by omega), Option.bind_some]
    simp only [Nat.reduceAdd]
    rw [rd_ok c.1 (by omega), Option.bind_some, hB.2.2.2.2 p c.1 c.2]; exact ⟨_, rfl, rfl⟩
  · rw [if_neg c, if_pos rfl, if_pos rfl]; exact ⟨_, rfl, rfl⟩
theorem t_count {t : Int} {N : Nat} {s : iv_M} {w : Int} (h : Inv t s) : ∃ a, FX11_count N s 0 w = some a ∧ FX12_count N s 113 w = some a := by
  obtain ⟨h1, ⟨⟨a0, hB, a1, a2, a3, a4, a5, a6⟩, ⟨hF, hP⟩, hK, hH4, _, hH6⟩, ⟨hW, _, _⟩, hT, hR, _⟩ := h
  obtain ⟨b1, b2, b3, b4, b5, b6, _⟩ := hW.1
  have e : (s 0 4).toNat = now s := rfl
  by_cases hw : 0 ≤ w ∧ w ≤ 16
  · have : w = 0 ∨ w = 1 ∨ w = 2 ∨ w = 3 ∨ w = 4 ∨ w = 5 ∨ w = 6 ∨ w = 7 ∨ w = 8 ∨ w = 9 ∨ w = 10 ∨ w = 11 ∨ w = 12 ∨ w = 13 ∨ w = 14 ∨ w = 15 ∨ w = 16 := by omega
    rcases this with rfl | rfl | rfl | rfl | rfl | rfl | rfl | rfl | rfl | rfl | rfl | rfl | rfl | rfl | rfl | rfl | rfl
    · exact ⟨s 114 0, by simp [FX11_count, e, hF.1], by simp [FX12_count, rd]⟩
    · exact ⟨s 114 1, by simp [FX11_count, e, hF.2.1], by simp [FX12_count, rd]⟩
    · exact ⟨s 114 2, by simp [FX11_count, e, hF.2.2.1], by simp [FX12_count, rd]⟩
    · exact ⟨s 114 3, by simp [FX11_count, e, hB.2.1], by simp [FX12_count, rd]⟩
    · exact ⟨s 114 4, by simp [FX11_count, e, hB.1], by simp [FX12_count, rd]⟩
    · exact ⟨s 114 5, by simp [FX11_count, e, hB.2.2.2.1], by simp [FX12_count, rd]⟩
    · exact ⟨s 113 32, by simp [FX11_count, hR.1], by simp [FX12_count]⟩
    · exact ⟨s 114 12, by simp [FX11_count, e, a3], by simp [FX12_count, rd]⟩
    · exact ⟨s 114 6, by simp [FX11_count, e, a4], by simp [FX12_count, rd]⟩
    · exact ⟨s 114 7, by simp [FX11_count, FX11_countMore, e, hH4.1], by simp [FX12_count, rd]⟩
    · exact ⟨s 114 8, by simp [FX11_count, FX11_countMore, e, hH6.1], by simp [FX12_count, rd]⟩
    · exact ⟨s 114 9, by simp [FX11_count, FX11_countMore, e, hH6.2.2.1], by simp [FX12_count, rd]⟩
    · exact ⟨s 114 10, by simp [FX11_count, FX11_countMore, e, hH6.2.2.2.2.1], by simp [FX12_count, rd]⟩
    · exact ⟨s 114 13, by simp [FX11_count, FX11_countMore, e, a5], by simp [FX12_count, rd]⟩
    · exact ⟨s 113 28, by simp [FX11_count, FX11_countMore, hT.1], by simp [FX12_count]⟩
    · exact ⟨w32 (w32 (s 114 0 * s 114 1) - s 114 2), by simp [FX11_count, FX11_countMore, FX1_emptyCells, e, hF.1, hF.2.1, hF.2.2.1], by simp [FX12_count, FX12_emptyMany, rd]⟩
    · exact ⟨s 114 11, by simp [FX11_count, FX11_countMore, e, a6], by simp [FX12_count, rd]⟩
  · refine ⟨-1, ?_, ?_⟩
    · unfold FX11_count FX11_countMore
      rw [if_neg (by omega), if_neg (by omega), if_neg (by omega), if_neg (by omega), if_neg (by omega), if_neg (by omega), if_neg (by omega), if_neg (by omega), if_neg (by omega), if_neg (by omega), if_neg (by omega), if_neg (by omega), if_neg (by omega), if_neg (by omega), if_neg (by omega), if_neg (by omega), if_neg (by omega)]; rfl
    · unfold FX12_count
      rw [if_neg (by omega), if_neg (by omega), if_neg (by omega), if_neg (by omega), if_neg (by omega), if_neg (by omega), if_neg (by omega), if_neg (by omega), if_neg (by omega), if_neg (by omega), if_neg (by omega), if_neg (by omega), if_neg (by omega), if_neg (by omega), if_neg (by omega), if_neg (by omega), if_neg (by omega)]
