-- FLOORS: the same, as the reference asks it
theorem isLaidWell_ok {N : Nat} {s : iv_M} {r : Int} (hN : 10 ≤ N) (hW : Wa s) (hC : Wc s) (r0 : 0 ≤ r) (r1 : r < 12) (c0 : 0 ≤ s 116 r) (c1 : s 116 r < 16) (hat : s 121 (s 116 r) = r) (t0 : 0 ≤ s 117 r) (t1 : s 117 r < 4) : FX12_isLaidWell N s 113 r = some (if fdn s r 4 0 = true then 1 else 0) := by
  have hr12 := hW.2.2.2.2.2.1
  have lp : ∀ (m d f : Nat), d + m = 4 → m < f → FX12_isLaidWell_l2 N s 113 r (fun (_ : Unit) => (some 1)) f (d : Int) = some (if fdn s r m d = true then 1 else 0) := by
    intro m
    induction m with
    | zero =>
      intro d f hd hf
      obtain ⟨f', rfl⟩ : ∃ f', f = f' + 1 := ⟨f - 1, by omega⟩
      rw [FX12_isLaidWell_l2, if_pos (by omega)]
      rfl
    | succ m ih =>
      intro d f hd hf
      obtain ⟨f', rfl⟩ : ∃ f', f = f' + 1 := ⟨f - 1, by omega⟩
      have nx := ih (d + 1) f' (by omega) (by omega)
      have e1 : fdn s r (m + 1) d = (fdd s r (d : Int) && fdn s r m (d + 1)) := rfl
      have hn := nb_range (c := s 116 r) (d := (d : Int)) hW
      have b79 : fdd s r (d : Int) = true → FX12_isLaidWell_b79 N s 113 r (d : Int) (FX12_isLaidWell_l2 N s 113 r (fun (_ : Unit) => (some 1)) f') (fun (_ : Unit) => (some 1)) = some (if fdn s r (m + 1) d = true then 1 else 0) := fun h => by
        unfold FX12_isLaidWell_b79
        rw [w32_id (by omega) (by omega), e1, h, Bool.true_and]
        exact nx
      have no : fdd s r (d : Int) = false → FX12_isLaidWell_b77 N s = some (if fdn s r (m + 1) d = true then 1 else 0) := fun h => by
        unfold FX12_isLaidWell_b77
        rw [e1, h, Bool.false_and, if_neg (by decide)]
      have kr : kd s (s 116 r) d = srt (sd s r d) := by unfold kd; rw [hat, if_neg (by omega)]
      have so := FX12_sortAt_ok (N := N) (s := s) (r := r) (d := (d : Int)) r0 r1 t0 t1 (by omega) (by omega)
      rw [FX12_isLaidWell_l2, if_neg (by omega)]
      simp only [Nat.reduceAdd]
      rw [rd_ok r0 r1, Option.bind_some, FX12_by_ok hW c0 c1 (by omega) (by omega), Option.bind_some]
      by_cases e : nb s (s 116 r) d = -1
      · rw [if_pos e]
        unfold FX12_isLaidWell_b34 FX12_isLaidWell_b51
        rw [if_pos e, so, Option.bind_some]
        by_cases k : srt (sd s r d) = 1
        · rw [if_pos k]
          exact no (by unfold fdd; rw [if_pos e, kr, decide_eq_true k]; rfl)
        · rw [if_neg k, if_pos rfl]
          exact b79 (by unfold fdd; rw [if_pos e, kr, decide_eq_false k]; rfl)
      · rw [if_neg e, rd_ok (by omega) (by omega), Option.bind_some]
        unfold FX12_isLaidWell_b34 FX12_isLaidWell_b51
        rw [if_neg e]
        rcases hC (nb s (s 116 r) d) (by omega) (by omega) with k | ⟨z0, z1, z2, z3, z4, _⟩
        · rw [if_pos k]
          exact b79 (by unfold fdd; rw [if_neg e, if_pos k])
        · have k : ¬ s 121 (nb s (s 116 r) d) = -1 := by omega
          have km : bAn (w32 ((d : Int) + 2)) 3 = ((d : Int) + 2) % 4 := by rw [bAn_3, w32_id (by omega) (by omega)]
          have so2 := FX12_sortAt_ok (N := N) (s := s) (r := s 121 (nb s (s 116 r) d)) (d := ((d : Int) + 2) % 4) z0 (Int.lt_of_lt_of_le z1 hr12) z3 z4 (Int.emod_nonneg _ (by decide)) (Int.emod_lt_of_pos _ (by decide))
          have kn : kd s (nb s (s 116 r) d) (((d : Int) + 2) % 4) = srt (sd s (s 121 (nb s (s 116 r) d)) (((d : Int) + 2) % 4)) := by unfold kd; rw [if_neg k]
          rw [if_neg k, so, Option.bind_some, km, so2, Option.bind_some]
          by_cases g : srt (sd s r d) = srt (sd s (s 121 (nb s (s 116 r) d)) (((d : Int) + 2) % 4))
          · rw [if_pos g]
            exact b79 (by unfold fdd; rw [if_neg e, if_neg k, kr, kn]; exact decide_eq_true g)
          · rw [if_neg g]
            exact no (by unfold fdd; rw [if_neg e, if_neg k, kr, kn]; exact decide_eq_false g)
  unfold FX12_isLaidWell
  exact lp 4 0 N (by omega) (by omega)
