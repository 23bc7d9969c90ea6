-- FLOORS: whether a room fits among those that lie
def fdd (B : iv_M) (r d : Int) : Bool := if nb B (B 116 r) d = -1 then !decide (kd B (B 116 r) d = 1) else if B 121 (nb B (B 116 r) d) = -1 then true else decide (kd B (B 116 r) d = kd B (nb B (B 116 r) d) ((d + 2) % 4))
def fdn (B : iv_M) (r : Int) : Nat → Nat → Bool
  | 0, _ => true
  | m + 1, d => fdd B r (d : Int) && fdn B r m (d + 1)
theorem FX1_fits_ok {N q : Nat} {s B : iv_M} {r : Int} (hN : 10 ≤ N) (hF : FRc s q B) (hW : Wa B) (r0 : 0 ≤ r) (r1 : r < 12) (c0 : 0 ≤ B 116 r) (c1 : B 116 r < 16) (hs : s (q + 1) r = B 116 r) : FX1_fits N s q r = some (if fdn B r 4 0 = true then 1 else 0) := by
  obtain ⟨f0, f1, f2, f3, f4, f5, f6, f7⟩ := hF
  have lp : ∀ (m d f : Nat), d + m = 4 → m < f → FX1_fits_l2 N s q r (fun (_ : Unit) => (some 1)) f (d : Int) = some (if fdn B r m d = true then 1 else 0) := by
    intro m
    induction m with
    | zero =>
      intro d f hd hf
      obtain ⟨f', rfl⟩ : ∃ f', f = f' + 1 := ⟨f - 1, by omega⟩
      rw [FX1_fits_l2, if_pos (by omega)]
      rfl
    | succ m ih =>
      intro d f hd hf
      obtain ⟨f', rfl⟩ : ∃ f', f = f' + 1 := ⟨f - 1, by omega⟩
      have nx := ih (d + 1) f' (by omega) (by omega)
      have e1 : fdn B r (m + 1) d = (fdd B r (d : Int) && fdn B r m (d + 1)) := rfl
      have hn := nb_range (c := B 116 r) (d := (d : Int)) hW
      have b97 : fdd B r (d : Int) = true → FX1_fits_b97 N s q r (d : Int) (FX1_fits_l2 N s q r (fun (_ : Unit) => (some 1)) f') (fun (_ : Unit) => (some 1)) = some (if fdn B r (m + 1) d = true then 1 else 0) := fun h => by
        unfold FX1_fits_b97
        rw [w32_id (by omega) (by omega), e1, h, Bool.true_and]
        exact nx
      have no : fdd B r (d : Int) = false → some (0 : Int) = some (if fdn B r (m + 1) d = true then 1 else 0) := fun h => by
        rw [e1, h, Bool.false_and, if_neg (by decide)]
      rw [FX1_fits_l2, if_neg (by omega), rd_ok r0 r1, Option.bind_some, hs, w32_id (x := 4 * B 116 r) (by omega) (by omega), w32_id (x := 4 * B 116 r + (d : Int)) (by omega) (by omega), rd_ok (by omega) (by omega), Option.bind_some, f5 _ _ c0 c1 (by omega) (by omega)]
      unfold FX1_fits_b43 FX1_fits_b48 FX1_fits_b68
      by_cases e : nb B (B 116 r) d = -1
      · rw [if_pos e, if_pos e, rd_ok (by omega) (by omega), Option.bind_some, f4 _ _ c0 c1 (by omega) (by omega), if_neg (show ¬ (1 : Int) = 0 by decide)]
        by_cases k : kd B (B 116 r) d = 1
        · rw [if_pos k]
          exact no (by unfold fdd; rw [if_pos e, decide_eq_true k]; rfl)
        · rw [if_neg k]
          exact b97 (by unfold fdd; rw [if_pos e, decide_eq_false k]; rfl)
      · rw [if_neg e, if_neg e, rd_ok (by omega) (by omega), Option.bind_some, f3 _ (by omega) (by omega), if_neg (show ¬ (1 : Int) = 0 by decide), if_pos rfl]
        by_cases k : B 121 (nb B (B 116 r) d) = -1
        · rw [if_pos k]
          exact b97 (by unfold fdd; rw [if_neg e, if_pos k])
        · rw [if_neg k, rd_ok (by omega) (by omega), Option.bind_some, f4 _ _ c0 c1 (by omega) (by omega), bXo_2 (by omega) (by omega), w32_id (x := 4 * nb B (B 116 r) d) (by omega) (by omega), w32_id (by omega) (by omega), rd_ok (by omega) (by omega), Option.bind_some, f4 _ _ (by omega) (by omega) (by omega) (by omega), if_neg e, Option.bind_some]
          by_cases g : kd B (B 116 r) d = kd B (nb B (B 116 r) d) (((d : Int) + 2) % 4)
          · rw [if_pos g]
            exact b97 (by unfold fdd; rw [if_neg e, if_neg k]; exact decide_eq_true g)
          · rw [if_neg g]
            exact no (by unfold fdd; rw [if_neg e, if_neg k]; exact decide_eq_false g)
  unfold FX1_fits
  exact lp 4 0 N (by omega) (by omega)
