-- THE REFERENCE: what it reads of its floor
theorem b01_0 : (if (0 : Int) = 0 ∨ (0 : Int) = 1 then some (0 : Int) else none) = some 0 := rfl
theorem b01_1 : (if (1 : Int) = 0 ∨ (1 : Int) = 1 then some (1 : Int) else none) = some 1 := rfl
theorem FX12_in_ok {N : Nat} {s : iv_M} {a lo hi : Int} : FX12_in N s a lo hi = some (if lo ≤ a ∧ a ≤ hi then 1 else 0) := by
  unfold FX12_in FX12_in_b17 FX12_in_b18
  rw [b01_0, b01_1]
  by_cases h1 : a < lo
  · rw [if_pos h1, if_neg (show ¬ (lo ≤ a ∧ a ≤ hi) by omega)]
  · rw [if_neg h1]
    by_cases h2 : hi < a
    · rw [if_pos h2, if_neg (show ¬ (lo ≤ a ∧ a ≤ hi) by omega)]
    · rw [if_neg h2, if_pos (show lo ≤ a ∧ a ≤ hi by omega)]
theorem FX12_isPalace_ok {N : Nat} {s : iv_M} : FX12_isPalace N s 113 = some (if 0 < s 114 0 then 1 else 0) := by
  unfold FX12_isPalace FX12_isPalace_b14
  simp only [Nat.reduceAdd]
  rw [rd_ok (by omega) (by omega), Option.bind_some]
  by_cases h : 0 < s 114 0
  · rw [if_neg (by omega), if_pos h]; rfl
  · rw [if_pos (by omega), if_neg h]; rfl
theorem FX12_isCell_ok {N : Nat} {s : iv_M} {x y : Int} (hW : Wa s) : FX12_isCell N s 113 x y = some (if isC s x y then 1 else 0) := by
  obtain ⟨h1, h2, h3, h4, _⟩ := hW
  unfold FX12_isCell FX12_isCell_b40 FX12_isCell_b41
  rw [b01_0, b01_1]
  simp only [Nat.reduceAdd]
  rw [rd_ok (by omega) (by omega), Option.bind_some, FX12_in_ok, Option.bind_some, w32_id (by omega) (by omega)]
  by_cases c1 : 0 ≤ x ∧ x ≤ s 114 0 - 1
  · rw [if_pos c1, if_neg (by omega), rd_ok (by omega) (by omega), Option.bind_some, FX12_in_ok, Option.bind_some, w32_id (by omega) (by omega)]
    by_cases c2 : 0 ≤ y ∧ y ≤ s 114 1 - 1
    · rw [if_pos c2, if_neg (by omega), if_pos (by unfold isC; omega)]
    · rw [if_neg c2, if_pos rfl, if_neg (by unfold isC; omega)]
  · rw [if_neg c1, if_pos rfl, if_neg (by unfold isC; omega)]
theorem FX12_isFloor_ok {N : Nat} {s : iv_M} {c : Int} (hW : Wa s) (c0 : 0 ≤ c) (c1 : c < 2147483648) : FX12_isFloor N s 113 c = some (if c % 4 < s 114 0 ∧ c / 4 < s 114 1 then 1 else 0) := by
  unfold FX12_isFloor
  rw [tmod_pos c0, dv32_pos c0 c1 (by omega), FX12_isCell_ok hW, Option.bind_some]
  by_cases h : c % 4 < s 114 0 ∧ c / 4 < s 114 1
  · rw [if_pos (show isC s (c % 4) (c / 4) by unfold isC; omega), if_pos (Or.inr rfl), if_pos h]
  · rw [if_neg (show ¬ isC s (c % 4) (c / 4) by unfold isC; omega), if_pos (Or.inl rfl), if_neg h]
theorem FX12_isRoom_ok {N : Nat} {s : iv_M} {r : Int} (hW : Wa s) : FX12_isRoom N s 113 r = some (if 0 ≤ r ∧ r < s 114 2 then 1 else 0) := by
  obtain ⟨h1, h2, h3, h4, h5, h6, _⟩ := hW
  unfold FX12_isRoom
  simp only [Nat.reduceAdd]
  rw [rd_ok (by omega) (by omega), Option.bind_some, FX12_in_ok, Option.bind_some, w32_id (by omega) (by omega)]
  by_cases h : 0 ≤ r ∧ r < s 114 2
  · rw [if_pos (show 0 ≤ r ∧ r ≤ s 114 2 - 1 by omega), if_pos (Or.inr rfl), if_pos h]
  · rw [if_neg (show ¬ (0 ≤ r ∧ r ≤ s 114 2 - 1) by omega), if_pos (Or.inl rfl), if_neg h]
theorem FX12_isPerson_ok {N : Nat} {s : iv_M} {r : Int} (h0 : 0 ≤ s 114 3) (h1 : s 114 3 ≤ 6) : FX12_isPerson N s 113 r = some (if 0 ≤ r ∧ r < s 114 3 then 1 else 0) := by
  unfold FX12_isPerson
  simp only [Nat.reduceAdd]
  rw [rd_ok (by omega) (by omega), Option.bind_some, FX12_in_ok, Option.bind_some, w32_id (by omega) (by omega)]
  by_cases h : 0 ≤ r ∧ r < s 114 3
  · rw [if_pos (show 0 ≤ r ∧ r ≤ s 114 3 - 1 by omega), if_pos (Or.inr rfl), if_pos h]
  · rw [if_neg (show ¬ (0 ≤ r ∧ r ≤ s 114 3 - 1) by omega), if_pos (Or.inl rfl), if_neg h]
theorem FX12_by_ok {N : Nat} {s : iv_M} {c d : Int} (hW : Wa s) (c0 : 0 ≤ c) (c1 : c < 16) (d0 : 0 ≤ d) (d1 : d < 4) : FX12_by N s 113 c d = some (nb s c d) := by
  have main : ∀ dx dy : Int, -1 ≤ dx → dx ≤ 1 → -1 ≤ dy → dy ≤ 1 → dx = dxx d → dy = dyy d → FX12_by_b45 N s 113 (w32 (Int.tmod c 4 + dx)) dy (dv32 c 4) = some (nb s c d) := by
    intro dx dy a1 a2 a3 a4 e1 e2
    unfold FX12_by_b45 FX12_by_b68 nb
    rw [tmod_pos c0, dv32_pos c0 (by omega) (by omega), w32_id (x := c % 4 + dx) (by omega) (by omega), w32_id (x := c / 4 + dy) (by omega) (by omega), FX12_isCell_ok hW, Option.bind_some, w32_id (x := 4 * (c / 4 + dy)) (by omega) (by omega), w32_id (by omega) (by omega), ← e1, ← e2]
    split
    · rw [if_neg (by omega)]
    · rw [if_pos rfl]
  unfold FX12_by FX12_by_b22
  rcases four d0 d1 with rfl | rfl | rfl | rfl
  · rw [if_neg (by omega), if_neg (by omega), if_neg (by omega), if_pos rfl]; exact main 0 (-1) (by omega) (by omega) (by omega) (by omega) rfl rfl
  · rw [if_pos rfl, if_neg (by omega), if_neg (by omega)]; exact main 1 0 (by omega) (by omega) (by omega) (by omega) rfl rfl
  · rw [if_neg (by omega), if_neg (by omega), if_pos rfl]; exact main 0 1 (by omega) (by omega) (by omega) (by omega) rfl rfl
  · rw [if_neg (by omega), if_pos rfl, if_neg (by omega), if_neg (by omega)]; exact main (-1) 0 (by omega) (by omega) (by omega) (by omega) rfl rfl
theorem FX12_sideOf_ok {N : Nat} {s : iv_M} {r d : Int} (r0 : 0 ≤ r) (r1 : r < 12) (t0 : 0 ≤ s 117 r) (t1 : s 117 r < 4) (d0 : 0 ≤ d) (d1 : d < 4) : FX12_spotOf N s 113 r d = some (4 * r + (d - s 117 r) % 4) ∧ FX12_sideOf N s 113 r d = some (sd s r d) := by
  have h : FX12_spotOf N s 113 r d = some (4 * r + (d - s 117 r) % 4) := by
    unfold FX12_spotOf
    simp only [Nat.reduceAdd]
    rw [rd_ok r0 r1, Option.bind_some, bAn_3]
    simp (disch := omega) only [w32_id]
  refine ⟨h, ?_⟩
  unfold FX12_sideOf
  simp only [Nat.reduceAdd]
  rw [h, Option.bind_some, rd_ok (by omega) (by omega)]
  rfl
theorem FX12_sortAt_ok {N : Nat} {s : iv_M} {r d : Int} (r0 : 0 ≤ r) (r1 : r < 12) (t0 : 0 ≤ s 117 r) (t1 : s 117 r < 4) (d0 : 0 ≤ d) (d1 : d < 4) : FX12_sortAt N s 113 r d = some (srt (sd s r d)) := by
  unfold FX12_sortAt FX12_sortOf FX12_sortOf_b10
  rw [(FX12_sideOf_ok r0 r1 t0 t1 d0 d1).2, Option.bind_some]
  unfold srt
  split <;> rfl
def fc (B : iv_M) (r d : Int) : Int := if nb B (B 116 r) d = -1 then -1 else B 121 (nb B (B 116 r) d)
theorem FX12_faced_ok {N : Nat} {s : iv_M} {r d : Int} (hW : Wa s) (r0 : 0 ≤ r) (r1 : r < 12) (c0 : 0 ≤ s 116 r) (c1 : s 116 r < 16) (d0 : 0 ≤ d) (d1 : d < 4) : FX12_faced N s 113 r d = some (fc s r d) := by
  unfold FX12_faced FX12_faced_b27 fc
  simp only [Nat.reduceAdd]
  rw [rd_ok r0 r1, Option.bind_some, FX12_by_ok hW c0 c1 d0 d1, Option.bind_some]
  by_cases e : nb s (s 116 r) d = -1
  · rw [if_pos e, if_pos e]
  · obtain ⟨t1, t2, _⟩ := nb_in hW e
    rw [if_neg e, if_neg e, rd_ok t1 t2, Option.bind_some]
theorem srt_lt {B : iv_M} {r d : Int} (hW : Wa B) (r0 : 0 ≤ r) (r1 : r < B 114 2) : 0 ≤ srt (sd B r d) ∧ srt (sd B r d) < 3 := by
  have := hW.2.2.2.2.2.2.2 (4 * r + (d - B 117 r) % 4) (by omega) (by omega)
  unfold srt sd
  split <;> omega
theorem op2d {d : Int} (d0 : 0 ≤ d) (d1 : d < 4) : bAn (w32 (d + 2)) 3 = (d + 2) % 4 := by rw [w32_id (by omega) (by omega), bAn_3]
/-- a placed room's kind, and what it faces -/
theorem placed {B : iv_M} (hW : Wa B) (hc : Wc B) {c : Int} (c0 : 0 ≤ c) (c1 : c < 16) (h : B 121 c ≠ -1) : 0 ≤ B 121 c ∧ B 121 c < B 114 2 ∧ B 121 c < 12 ∧ B 116 (B 121 c) = c ∧ 0 ≤ B 117 (B 121 c) ∧ B 117 (B 121 c) < 4 ∧ c % 4 < B 114 0 ∧ c / 4 < B 114 1 := by
  have hr2 := hW.2.2.2.2.2.1
  rcases hc c c0 c1 with e | e
  · exact absurd e h
  · exact ⟨e.1, e.2.1, by omega, e.2.2.1, e.2.2.2.1, e.2.2.2.2.1, e.2.2.2.2.2.1, e.2.2.2.2.2.2⟩
theorem kd_3 {B : iv_M} (hW : Wa B) (hc : Wc B) {c d : Int} (c0 : 0 ≤ c) (c1 : c < 16) : (kd B c d = 3 ↔ B 121 c = -1) ∧ 0 ≤ kd B c d ∧ kd B c d ≤ 3 := by
  unfold kd
  by_cases e : B 121 c = -1
  · rw [if_pos e]; exact ⟨⟨fun _ => e, fun _ => rfl⟩, by omega, by omega⟩
  · rw [if_neg e]
    obtain ⟨a1, a2, _⟩ := placed hW hc c0 c1 e
    have := srt_lt (d := d) hW a1 a2
    omega
theorem fc_kdn {B : iv_M} (hW : Wa B) (hc : Wc B) {c d : Int} (c0 : 0 ≤ c) (c1 : c < 16) (d0 : 0 ≤ d) (d1 : d < 4) (h : B 121 c ≠ -1) : (fc B (B 121 c) d = -1 ↔ kdn B c d = 3) ∧ (fc B (B 121 c) d ≠ -1 → nb B c d ≠ -1 ∧ B 121 (nb B c d) = fc B (B 121 c) d ∧ kdn B c d = srt (sd B (fc B (B 121 c) d) ((d + 2) % 4))) := by
  obtain ⟨a1, a2, a3, a4, a5, a6, _⟩ := placed hW hc c0 c1 h
  unfold fc kdn
  rw [a4]
  by_cases e : nb B c d = -1
  · rw [if_pos e, if_pos e]; exact ⟨⟨fun _ => rfl, fun _ => rfl⟩, fun z => absurd rfl z⟩
  · obtain ⟨t1, t2, _⟩ := nb_in hW e
    rw [if_neg e, if_neg e]
    obtain ⟨k1, k2⟩ := kd_3 (d := (d + 2) % 4) hW hc t1 t2
    refine ⟨k1.symm, fun z => ⟨e, rfl, ?_⟩⟩
    unfold kd
    rw [if_neg z]
def mi (B : iv_M) (c d : Int) : Int := if kd B c d = 3 then 0 else if kdn B c d = 3 then (if kd B c d = 1 then 1 else 0) else if (d = 1 ∨ d = 2) ∧ kd B c d ≠ kdn B c d then 1 else 0
theorem FX12_isMismatch_ok {N : Nat} {s : iv_M} {c d : Int} (hW : Wa s) (hc : Wc s) (c0 : 0 ≤ c) (c1 : c < 16) (d0 : 0 ≤ d) (d1 : d < 4) (h : s 121 c ≠ -1) : FX12_isMismatch N s 113 (s 121 c) d = some (mi s c d) := by
  obtain ⟨a1, a2, a3, a4, a5, a6, _⟩ := placed hW hc c0 c1 h
  obtain ⟨f1, f2⟩ := fc_kdn hW hc c0 c1 d0 d1 h
  have hk : kd s c d = srt (sd s (s 121 c) d) := by unfold kd; rw [if_neg h]
  have hs := srt_lt (d := d) hW a1 a2
  unfold FX12_isMismatch FX12_isMismatch_b27 FX12_isMismatch_b38 FX12_isMismatch_b61 FX12_isMismatch_b62 mi
  rw [FX12_faced_ok hW a1 a3 (by rw [a4]; exact c0) (by rw [a4]; exact c1) d0 d1, Option.bind_some, FX12_sortAt_ok a1 a3 a5 a6 d0 d1, ← hk, if_neg (show ¬ kd s c d = 3 by omega)]
  by_cases e : fc s (s 121 c) d = -1
  · rw [if_pos e, if_pos (f1.mp e), Option.bind_some]
    by_cases e1 : kd s c d = 1
    · simp [e1]
    · simp [e1]
  · obtain ⟨g1, g2, g3⟩ := f2 e
    obtain ⟨t1, t2, _⟩ := nb_in hW g1
    obtain ⟨b1, b2, b3, b4, b5, b6, _⟩ := placed hW hc t1 t2 (by rw [g2]; exact e)
    rw [g2] at b1 b2 b3 b4 b5 b6
    rw [if_neg e, if_neg (fun z => e (f1.mpr z)), Option.bind_some, op2d d0 d1, FX12_sortAt_ok b1 b3 b5 b6 (by omega) (by omega), ← g3, Option.bind_some]
    by_cases e2 : kd s c d = kdn s c d <;> rcases four d0 d1 with rfl | rfl | rfl | rfl <;> simp [e2]
theorem FX12_isDoorToDoor_ok {N : Nat} {s : iv_M} {c d : Int} (hW : Wa s) (hc : Wc s) (c0 : 0 ≤ c) (c1 : c < 16) (d0 : 0 ≤ d) (d1 : d < 4) (h : s 121 c ≠ -1) : FX12_isDoorToDoor N s 113 (s 121 c) d = some (if kd s c d = 1 ∧ kdn s c d = 1 then 1 else 0) := by
  obtain ⟨a1, a2, a3, a4, a5, a6, _⟩ := placed hW hc c0 c1 h
  obtain ⟨f1, f2⟩ := fc_kdn hW hc c0 c1 d0 d1 h
  have hk : kd s c d = srt (sd s (s 121 c) d) := by unfold kd; rw [if_neg h]
  unfold FX12_isDoorToDoor FX12_isDoorToDoor_b40 FX12_isDoorToDoor_b41
  rw [FX12_faced_ok hW a1 a3 (by rw [a4]; exact c0) (by rw [a4]; exact c1) d0 d1, Option.bind_some, FX12_sortAt_ok a1 a3 a5 a6 d0 d1, ← hk]
  by_cases e : fc s (s 121 c) d = -1
  · rw [if_pos e, if_neg (show ¬ (kd s c d = 1 ∧ kdn s c d = 1) by rw [f1.mp e]; omega)]; rfl
  · obtain ⟨g1, g2, g3⟩ := f2 e
    obtain ⟨t1, t2, _⟩ := nb_in hW g1
    obtain ⟨b1, b2, b3, b4, b5, b6, _⟩ := placed hW hc t1 t2 (by rw [g2]; exact e)
    rw [g2] at b1 b2 b3 b4 b5 b6
    rw [if_neg e, Option.bind_some, op2d d0 d1, FX12_sortAt_ok b1 b3 b5 b6 (by omega) (by omega), ← g3, Option.bind_some]
    by_cases e1 : kd s c d = 1 <;> by_cases e2 : kdn s c d = 1 <;> simp [e1, e2]
