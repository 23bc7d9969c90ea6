-- THE REFERENCE WALKS
theorem FX12_goesTo_ok {N : Nat} {s : iv_M} {r c : Int} (r0 : 0 ≤ r) (r1 : r < 12) (a0 : 0 ≤ s 116 r) (a1 : s 116 r < 16) (c0 : 0 ≤ c) (c1 : c < 16) : FX12_goesTo N s 113 r c = some (wS s r c) := by
  unfold FX12_goesTo wS
  simp only [Nat.reduceAdd]
  simp (disch := omega) only [rd_ok, wr_ok, Option.bind_some]
theorem FX12_swaps_ok {N : Nat} {s : iv_M} {a b : Int} (a0 : 0 ≤ a) (a1 : a < 12) (b0 : 0 ≤ b) (b1 : b < 12) (hab : a ≠ b) (c0 : 0 ≤ s 116 a) (c1 : s 116 a < 16) (d0 : 0 ≤ s 116 b) (d1 : s 116 b < 16) : FX12_swaps N s 113 a b = some (wC s a b) := by
  unfold FX12_swaps wC
  simp only [Nat.reduceAdd]
  rw [rd_ok a0 a1, Option.bind_some, rd_ok b0 b1, Option.bind_some, wr_ok a0 a1, Option.bind_some, wr_ok b0 b1, Option.bind_some, rd_ok a0 a1, Option.bind_some, mu_ne (by omega), mu_eq, wr_ok d0 d1, Option.bind_some, rd_ok b0 b1, Option.bind_some, mu_ne (by omega), mu_eq, wr_ok c0 c1, Option.bind_some]
theorem FX12_walks_ok {N : Nat} {s : iv_M} {k r o : Int} (hW : Wf s) (h : isW s k r o) (hs : slO s k r o) : FX12_walks N s 113 k r o = some (wlk s k r o) := by
  have hr2 := hW.1.2.2.2.2.2.1
  obtain ⟨r0, r1, hk⟩ := h
  obtain ⟨g1, g2, g3, g4, g5, g6, g7⟩ := hW.room r0 r1
  unfold FX12_walks FX12_walks_b72 wlk
  rcases hk with ⟨rfl, o0, o1⟩ | ⟨rfl, o0, o1, hro⟩ | ⟨rfl, rfl⟩
  · obtain ⟨s1, s2⟩ := hs rfl
    obtain ⟨t1, t2, _⟩ := nb_in hW.1 s1
    rw [if_pos rfl, if_pos rfl]
    simp only [Nat.reduceAdd]
    rw [rd_ok r0 (by omega), Option.bind_some, FX12_by_ok hW.1 g1 g2 o0 o1, Option.bind_some, FX12_goesTo_ok r0 (by omega) g1 g2 t1 t2, Option.bind_some]
  · obtain ⟨k1, k2, k3, _⟩ := hW.room o0 o1
    rw [if_neg (by omega), if_pos rfl, if_neg (by omega), if_pos rfl, FX12_swaps_ok r0 (by omega) o0 (by omega) hro g1 g2 k1 k2, Option.bind_some]
  · rw [if_neg (by omega), if_neg (by omega), if_neg (by omega), if_neg (by omega)]
    simp only [Nat.reduceAdd]
    rw [rd_ok r0 (by omega), Option.bind_some, wr_ok r0 (by omega), Option.bind_some, w32_id (by omega) (by omega), bAn_3]
    rfl
theorem FX12_walksBack_ok {N : Nat} {s B : iv_M} {k r o : Int} (hs' : s = wlk B k r o) (hW : Wf B) (h : isW B k r o) (hs : slO B k r o) : FX12_walksBack N s 113 k r o = some B := by
  have hW' : Wf s := by rw [hs']; exact Wf_wlk hW h hs
  have hb : wlb s k r o = B := by rw [hs']; exact wlb_wlk hW h hs
  have hr2 := hW.1.2.2.2.2.2.1
  have e2 : s 114 2 = B 114 2 := by rw [hs']; exact wlk_o (by omega) (by omega) (by omega)
  obtain ⟨r0, r1, hk⟩ := h
  obtain ⟨g1, g2, g3, g4, g5, g6, g7⟩ := hW'.room r0 (by omega)
  obtain ⟨j1, j2, j3, j4, j5, j6, j7⟩ := hW.room r0 r1
  unfold FX12_walksBack FX12_walksBack_b76
  unfold wlb at hb
  rcases hk with ⟨rfl, o0, o1⟩ | ⟨rfl, o0, o1, hro⟩ | ⟨rfl, rfl⟩
  · rw [if_pos rfl] at hb
    obtain ⟨s1, s2⟩ := hs rfl
    have hc : nb s (s 116 r) ((o + 2) % 4) = B 116 r := by
      rw [hs']; unfold wlk; rw [if_pos rfl, wS_6, if_pos rfl, nb_ext (wS_o (by omega) (by omega)) (wS_o (by omega) (by omega)), nb_back hW.1 j1 j6 j7 o0 o1 s1]
    rw [if_pos rfl]
    simp only [Nat.reduceAdd]
    rw [rd_ok r0 (by omega), Option.bind_some, op2d o0 o1, FX12_by_ok hW'.1 g1 g2 (by omega) (by omega), Option.bind_some, FX12_goesTo_ok r0 (by omega) g1 g2 (by omega) (by omega), Option.bind_some, hb]
  · rw [if_neg (by omega), if_pos rfl] at hb
    obtain ⟨k1, k2, k3, _⟩ := hW'.room o0 (by omega)
    rw [if_neg (by omega), if_pos rfl, FX12_swaps_ok r0 (by omega) o0 (by omega) hro g1 g2 k1 k2, Option.bind_some, hb]
  · rw [if_neg (by omega), if_neg (by omega)] at hb
    rw [if_neg (by omega), if_neg (by omega)]
    simp only [Nat.reduceAdd]
    rw [rd_ok r0 (by omega), Option.bind_some, wr_ok r0 (by omega), Option.bind_some, w32_id (by omega) (by omega), bAn_3]
    exact congrArg some hb
/-- whether two rooms lie side by side -/
theorem fc_sT {B : iv_M} {a b : Int} (hW : Wf B) (a0 : 0 ≤ a) (a1 : a < B 114 2) (b0 : 0 ≤ b) (b1 : b < B 114 2) (d : Int) : fc B a d = b ↔ nb B (B 116 a) d = B 116 b := by
  obtain ⟨k1, k2, k3, _⟩ := hW.room b0 b1
  unfold fc
  by_cases e : nb B (B 116 a) d = -1
  · rw [if_pos e]; omega
  · rw [if_neg e]
    obtain ⟨t1, t2, _⟩ := nb_in hW.1 e
    refine ⟨fun h => ?_, fun h => by rw [h, k3]⟩
    rcases hW.2.1 _ t1 t2 with z | z
    · omega
    · rw [h] at z; exact z.2.2.1.symm
theorem FX12_areNeighbours_ok {N : Nat} {s : iv_M} {a b : Int} (hN : 10 ≤ N) (hW : Wf s) (a0 : 0 ≤ a) (a1 : a < s 114 2) (b0 : 0 ≤ b) (b1 : b < s 114 2) : FX12_areNeighbours N s 113 a b = some (if sT s (s 116 a) (s 116 b) = -1 then 0 else 1) := by
  have hr2 := hW.1.2.2.2.2.2.1
  obtain ⟨g1, g2, g3, _⟩ := hW.room a0 a1
  have st : ∀ (n : Nat) (x i : Int) (kx : Int → Option Int), 0 ≤ i → i < 4 → (x = 0 ∨ x = 1) → FX12_areNeighbours_l5 N s 113 a b kx (n + 1) x i = FX12_areNeighbours_l5 N s 113 a b kx n (if x = 1 ∨ nb s (s 116 a) i = s 116 b then 1 else 0) (i + 1) := by
    intro n x i kx i0 i1 hx
    have hf := fc_sT hW a0 a1 b0 b1 i
    rw [FX12_areNeighbours_l5, if_neg (by omega), FX12_faced_ok hW.1 a0 (by omega) g1 g2 i0 i1]
    unfold FX12_areNeighbours_b26 FX12_areNeighbours_b31
    rw [w32_id (by omega) (by omega)]
    rcases hx with rfl | rfl
    · rw [if_pos rfl, Option.bind_some]
      by_cases e : fc s a i = b
      · rw [if_pos e, if_pos (Or.inr (hf.mp e))]
      · rw [if_neg e, if_neg (fun z => by rcases z with z | z; omega; exact e (hf.mpr z))]
    · rw [if_neg (by omega), if_pos (Or.inl rfl)]
  unfold FX12_areNeighbours
  obtain ⟨M, hM⟩ : ∃ M, N = M + 5 := ⟨N - 5, by omega⟩
  have key : ∀ kx : Int → Option Int, FX12_areNeighbours_l5 N s 113 a b kx N 0 0 = kx (if sT s (s 116 a) (s 116 b) = -1 then 0 else 1) := by
    intro kx
    have e0 := st (M + 4) 0 0 kx (by omega) (by omega) (Or.inl rfl)
    have e1 := st (M + 3) (if (0 : Int) = 1 ∨ nb s (s 116 a) 0 = s 116 b then 1 else 0) (0 + 1) kx (by omega) (by omega) (by split <;> omega)
    have e2 := st (M + 2) (if (if (0 : Int) = 1 ∨ nb s (s 116 a) 0 = s 116 b then (1 : Int) else 0) = 1 ∨ nb s (s 116 a) (0 + 1) = s 116 b then 1 else 0) (0 + 1 + 1) kx (by omega) (by omega) (by split <;> omega)
    have e3 := st (M + 1) (if (if (if (0 : Int) = 1 ∨ nb s (s 116 a) 0 = s 116 b then (1 : Int) else 0) = 1 ∨ nb s (s 116 a) (0 + 1) = s 116 b then (1 : Int) else 0) = 1 ∨ nb s (s 116 a) (0 + 1 + 1) = s 116 b then 1 else 0) (0 + 1 + 1 + 1) kx (by omega) (by omega) (by split <;> omega)
    rw [← hM] at e0
    have e0' : FX12_areNeighbours_l5 N s 113 a b kx N 0 0 = _ := e0.trans (e1.trans (e2.trans e3))
    rw [e0', FX12_areNeighbours_l5, if_pos (by omega)]
    congr 1
    unfold sT
    by_cases h0 : nb s (s 116 a) 0 = s 116 b <;> by_cases h1 : nb s (s 116 a) 1 = s 116 b <;> by_cases h2 : nb s (s 116 a) 2 = s 116 b <;> by_cases h3 : nb s (s 116 a) 3 = s 116 b <;> simp [h0, h1, h2, h3]
  rw [key]
  split <;> rfl
theorem FX12_canBe_ok {N : Nat} {s : iv_M} {k r o : Int} (hN : 10 ≤ N) (hW : Wf s) (h : isW s k r o) : FX12_canBe N s 113 k r o = some (cnI s k r o) := by
  have hr2 := hW.1.2.2.2.2.2.1
  obtain ⟨r0, r1, hk⟩ := h
  obtain ⟨g1, g2, g3, g4, g5, g6, g7⟩ := hW.room r0 r1
  unfold FX12_canBe FX12_canBe_b62 FX12_canBe_b63
  rw [b01_0, b01_1]
  simp only [Nat.reduceAdd]
  rcases hk with ⟨rfl, o0, o1⟩ | ⟨rfl, o0, o1, hro⟩ | ⟨rfl, rfl⟩
  · rw [if_pos rfl, rd_ok r0 (by omega), Option.bind_some, FX12_by_ok hW.1 g1 g2 o0 o1, Option.bind_some]
    by_cases e3 : nb s (s 116 r) o = -1
    · rw [if_pos e3]; simp [cnI, e3]
    · obtain ⟨t1, t2, _⟩ := nb_in hW.1 e3
      rw [if_neg e3, rd_ok t1 t2, Option.bind_some]
      by_cases e4 : s 121 (nb s (s 116 r) o) = -1
      · rw [if_pos e4]; simp [cnI, e3, e4]
      · rw [if_neg e4]; simp [cnI, e3, e4]
  · rw [if_neg (by omega), if_pos rfl, FX12_areNeighbours_ok hN hW r0 r1 o0 o1, Option.bind_some]
    by_cases e5 : sT s (s 116 r) (s 116 o) = -1
    · simp [cnI, e5]
    · simp [cnI, e5]
  · rw [if_neg (by omega), if_neg (by omega)]; simp [cnI]
