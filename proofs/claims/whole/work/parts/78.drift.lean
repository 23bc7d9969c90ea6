-- DRIFT, BUILT, BEST
def fe (B : iv_M) (c : Int) : Int := mnI (mnI (c % 4) (B 114 0 - 1 - c % 4)) (mnI (c / 4) (B 114 1 - 1 - c / 4))
def ldf (B : iv_M) (r : Int) : Int := if lk B r ≤ 0 then 0 else fe B (B 116 r)
def msd (B : iv_M) : Nat → Int
  | 0 => -1
  | n + 1 => if msd B n = -1 ∨ dr B (msd B n) < dr B n then n else msd B n
theorem msd_rng {B : iv_M} : ∀ n : Nat, msd B n = -1 ∧ n = 0 ∨ 0 ≤ msd B n ∧ msd B n < n := by
  intro n
  induction n with
  | zero => left; exact ⟨rfl, rfl⟩
  | succ n ih =>
    right
    show 0 ≤ (if msd B n = -1 ∨ dr B (msd B n) < dr B n then (n : Int) else msd B n) ∧ (if msd B n = -1 ∨ dr B (msd B n) < dr B n then (n : Int) else msd B n) < (n + 1 : Nat)
    split <;> omega
theorem fe_rng {B : iv_M} {r : Int} (hW : Wf B) (r0 : 0 ≤ r) (r1 : r < B 114 2) : 0 ≤ fe B (B 116 r) ∧ fe B (B 116 r) ≤ 3 := by
  obtain ⟨g1, g2, g3, g4, g5, g6, g7⟩ := hW.room r0 r1
  have w1 := hW.1.1; have w2 := hW.1.2.1; have w3 := hW.1.2.2.1; have w4 := hW.1.2.2.2.1
  unfold fe mnI
  split <;> split <;> split <;> omega
theorem ldf_rng {B : iv_M} (hW : Wf B) : ∀ n : Nat, (n : Int) ≤ B 114 2 → 0 ≤ su (ldf B) n ∧ su (ldf B) n ≤ 3 * n := by
  intro n hn
  exact su_le n (fun i i0 i1 => by
    have := fe_rng (r := i) hW i0 (by omega)
    show 0 ≤ (if lk B i ≤ 0 then 0 else fe B (B 116 i)) ∧ (if lk B i ≤ 0 then 0 else fe B (B 116 i)) ≤ 3
    split <;> omega)
theorem FX1_lockedDrift_ok {N q : Nat} {s B : iv_M} (hN : 100 ≤ N) (hF : FRc s q B) (hW : Wf B) : FX1_lockedDrift N s q = some (su (ldf B) (B 114 2).toNat) := by
  have hr2 := hW.1.2.2.2.2.2.1
  have hr0 := hW.1.2.2.2.2.1
  have w1 := hW.1.1; have w2 := hW.1.2.1; have w3 := hW.1.2.2.1; have w4 := hW.1.2.2.2.1
  unfold FX1_lockedDrift
  exact loop_fn (L := fun n z i => FX1_lockedDrift_l4 N s q (fun (x360_1 : Int) => (some x360_1)) n z i) (k := fun z => some z) (hi := B 114 2) (fun n => su (ldf B) n) (by omega) (fun n => by
    show FX1_lockedDrift_l4 N s q (fun (x360_1 : Int) => (some x360_1)) (n + 1) _ (B 114 2) = _
    rw [FX1_lockedDrift_l4, hF.2.2.1, if_pos (by omega)]) (fun n i hi => by
    show FX1_lockedDrift_l4 N s q (fun (x360_1 : Int) => (some x360_1)) (n + 1) _ i = FX1_lockedDrift_l4 N s q (fun (x360_1 : Int) => (some x360_1)) n (su (ldf B) i + ldf B i) _
    have hb := ldf_rng hW i (by omega)
    obtain ⟨c1, c2⟩ := hF.cell hW (r := i) (by omega) hi
    obtain ⟨g1, g2, g3, g4, g5, g6, g7⟩ := hW.room (r := i) (by omega) hi
    have hf := fe_rng (r := i) hW (by omega) hi
    rw [FX1_lockedDrift_l4, hF.2.2.1, if_neg (by omega), rd_ok (by omega) (by omega), Option.bind_some, Option.bind_some, FX1_locksOf_ok hN hF (by omega) hi (by omega), Option.bind_some, c1, bAn_3, sr32_2, hF.1, hF.2.1]
    unfold FX1_lockedDrift_b81
    rw [w32_id (x := B 114 0 - 1) (by omega) (by omega), w32_id (x := B 114 0 - 1 - B 116 i % 4) (by omega) (by omega), w32_id (x := B 114 1 - 1) (by omega) (by omega), w32_id (x := B 114 1 - 1 - B 116 i / 4) (by omega) (by omega)]
    show (if lk B i ≤ 0 then FX1_lockedDrift_l4 N s q (fun (x360_1 : Int) => (some x360_1)) n (w32 (su (ldf B) i + 0)) (w32 ((i : Int) + 1)) else FX1_lockedDrift_l4 N s q (fun (x360_1 : Int) => (some x360_1)) n (w32 (su (ldf B) i + fe B (B 116 i))) (w32 ((i : Int) + 1))) = FX1_lockedDrift_l4 N s q (fun (x360_1 : Int) => (some x360_1)) n (su (ldf B) i + (if lk B i ≤ 0 then 0 else fe B (B 116 i))) _
    rw [w32_id (x := (i : Int) + 1) (by omega) (by omega), w32_id (x := su (ldf B) i + 0) (by omega) (by omega), w32_id (x := su (ldf B) i + fe B (B 116 i)) (by omega) (by omega)]
    split <;> rfl) (by omega)
theorem FX1_mostDoors_ok {N q : Nat} {s B : iv_M} (hN : 100 ≤ N) (hF : FRc s q B) (hW : Wf B) : FX1_mostDoors N s q = some (msd B (B 114 2).toNat) := by
  have hr2 := hW.1.2.2.2.2.2.1
  have hr0 := hW.1.2.2.2.2.1
  unfold FX1_mostDoors
  exact loop_fn (L := fun n z i => FX1_mostDoors_l4 N s q (fun (x349_1 : Int) => (some x349_1)) n z i) (k := fun z => some z) (hi := B 114 2) (fun n => msd B n) (by omega) (fun n => by
    show FX1_mostDoors_l4 N s q (fun (x349_1 : Int) => (some x349_1)) (n + 1) _ (B 114 2) = _
    rw [FX1_mostDoors_l4, hF.2.2.1, if_pos (by omega)]) (fun n i hi => by
    show FX1_mostDoors_l4 N s q (fun (x349_1 : Int) => (some x349_1)) (n + 1) _ i = FX1_mostDoors_l4 N s q (fun (x349_1 : Int) => (some x349_1)) n (if msd B i = -1 ∨ dr B (msd B i) < dr B i then (i : Int) else msd B i) _
    have hb := msd_rng (B := B) i
    rw [FX1_mostDoors_l4, hF.2.2.1, if_neg (by omega)]
    unfold FX1_mostDoors_b30 FX1_mostDoors_b32
    rw [w32_id (by omega) (by omega)]
    by_cases e : msd B i = -1
    · rw [if_pos e, if_pos (Or.inl e)]
    · rw [if_neg e, FX1_doorsOf_ok hN hF (by omega) hi (by omega), FX1_doorsOf_ok hN hF (by omega) (by omega) (by omega), Option.bind_some, Option.bind_some]
      by_cases e2 : dr B i ≤ dr B (msd B i)
      · rw [if_pos e2, if_neg (by omega)]
      · rw [if_neg e2, if_pos (by omega)]) (by omega)
theorem FX12_fromEdge_ok {N : Nat} {s : iv_M} {r : Int} (hW : Wf s) (r0 : 0 ≤ r) (r1 : r < s 114 2) : FX12_fromEdge N s 113 (s 116 r) = some (fe s (s 116 r)) := by
  obtain ⟨g1, g2, g3, g4, g5, g6, g7⟩ := hW.room r0 r1
  have w1 := hW.1.1; have w2 := hW.1.2.1; have w3 := hW.1.2.2.1; have w4 := hW.1.2.2.2.1
  unfold FX12_fromEdge FX12_fromEdge_b36 FX12_fromEdge_b66 FX12_fromEdge_b82
  simp only [Nat.reduceAdd]
  rw [rd_ok (by omega) (by omega), rd_ok (by omega) (by omega), tmod_pos g1, dv32_pos g1 (by omega) (by omega)]
  simp only [Option.bind_some]
  generalize s 116 r = c at *
  rw [w32_id (x := s 114 0 - 1) (by omega) (by omega), w32_id (x := s 114 0 - 1 - c % 4) (by omega) (by omega), w32_id (x := s 114 1 - 1) (by omega) (by omega), w32_id (x := s 114 1 - 1 - c / 4) (by omega) (by omega)]
  unfold fe
  generalize c % 4 = a
  generalize c / 4 = d
  generalize s 114 0 - 1 - a = b
  generalize s 114 1 - 1 - d = e
  have mn : ∀ x y : Int, (if x ≤ y then some x else some y) = some (mnI x y) := fun x y => by
    unfold mnI
    by_cases h : x ≤ y
    · rw [if_pos h, if_neg (by omega)]
    · rw [if_neg h, if_pos (by omega)]
  have mp : ∀ x y : Int, x ≤ y → mnI x y = x := fun x y h => if_neg (by omega)
  have mq : ∀ x y : Int, ¬ x ≤ y → mnI x y = y := fun x y h => if_pos (by omega)
  have mc : ∀ x y : Int, mnI x y = mnI y x := fun x y => by unfold mnI; split <;> split <;> omega
  by_cases h1 : a ≤ b <;> by_cases h2 : d ≤ e
  · rw [if_pos h1, if_pos h2, mn, mp a b h1, mp d e h2, mc]
  · rw [if_pos h1, if_neg h2, mn, mp a b h1, mq d e h2, mc]
  · rw [if_neg h1, if_pos h2, mn, mq a b h1, mp d e h2, mc]
  · rw [if_neg h1, if_neg h2, mn, mq a b h1, mq d e h2, mc]
def msr (B : iv_M) (n : Nat) : Int := if msd B n = -1 then -2 else msd B n
theorem FX12_drift_lp {N : Nat} {s : iv_M} {x1 : Int} {kx : Int → Int → Option Int} (hN : 100 ≤ N) (hW : Wf s) : FX12_drift_l29 N s 113 x1 kx N 0 (-2) 0 = kx (su (ldf s) (s 114 2).toNat) (msr s (s 114 2).toNat) := by
  have hr2 := hW.1.2.2.2.2.2.1
  have hr0 := hW.1.2.2.2.2.1
  exact loop_fn (L := fun n (z : Int × Int) i => FX12_drift_l29 N s 113 x1 kx n z.1 z.2 i) (k := fun z => kx z.1 z.2) (hi := s 114 2) (fun n => (su (ldf s) n, msr s n)) (by omega) (fun n => by
    show FX12_drift_l29 N s 113 x1 kx (n + 1) _ _ (s 114 2) = _
    rw [FX12_drift_l29]; simp only [Nat.reduceAdd]
    rw [rd_ok (by omega) (by omega), Option.bind_some, if_pos (by omega)]) (fun n i hi => by
    show FX12_drift_l29 N s 113 x1 kx (n + 1) (su (ldf s) i) (msr s i) i = FX12_drift_l29 N s 113 x1 kx n (su (ldf s) i + (if lk s i ≤ 0 then 0 else fe s (s 116 i))) (if (if msd s i = -1 ∨ dr s (msd s i) < dr s i then (i : Int) else msd s i) = -1 then -2 else (if msd s i = -1 ∨ dr s (msd s i) < dr s i then (i : Int) else msd s i)) _
    have hb := ldf_rng hW i (by omega)
    have hm := msd_rng (B := s) i
    obtain ⟨g1, g2, g3, g4, g5, g6, g7⟩ := hW.room (r := i) (by omega) hi
    have hf := fe_rng (r := i) hW (by omega) hi
    have nx : (if (if msd s i = -1 ∨ dr s (msd s i) < dr s i then (i : Int) else msd s i) = -1 then (-2 : Int) else (if msd s i = -1 ∨ dr s (msd s i) < dr s i then (i : Int) else msd s i)) = (if msd s i = -1 ∨ dr s (msd s i) < dr s i then (i : Int) else msd s i) := by
      apply if_neg; split <;> omega
    rw [nx, FX12_drift_l29]; simp only [Nat.reduceAdd]
    rw [rd_ok (by omega) (by omega), Option.bind_some, if_neg (by omega), FX12_doorsOf_ok hN (by omega) (by omega) g4 g5, Option.bind_some, if_neg (show ¬ (1 : Int) = 0 by omega), rd_ok (by omega) (by omega), Option.bind_some, FX12_fromEdge_ok hW (by omega) hi, Option.bind_some]
    unfold FX12_drift_b66 FX12_drift_b90 FX12_drift_b96
    rw [w32_id (x := (i : Int) + 1) (by omega) (by omega), w32_id (x := su (ldf s) i + 0) (by omega) (by omega), w32_id (x := su (ldf s) i + fe s (s 116 i)) (by omega) (by omega), FX12_doorsOf_ok hN (by omega) (by omega) g4 g5, Option.bind_some, if_pos (show (0 : Int) = 0 from rfl)]
    have st2 : ∀ w : Int, (if msr s i = -2 then FX12_drift_l29 N s 113 x1 kx n w i ((i : Int) + 1) else ((FX12_doorsOf N s 113 (msr s i) 0).bind fun v_4241 => (if dr s i ≤ v_4241 then FX12_drift_l29 N s 113 x1 kx n w (msr s i) ((i : Int) + 1) else FX12_drift_l29 N s 113 x1 kx n w i ((i : Int) + 1)))) = FX12_drift_l29 N s 113 x1 kx n w (if msd s i = -1 ∨ dr s (msd s i) < dr s i then (i : Int) else msd s i) ((i : Int) + 1) := by
      intro w
      unfold msr
      by_cases e : msd s i = -1
      · rw [if_pos e, if_pos rfl, if_pos (Or.inl e)]
      · obtain ⟨k1, k2, k3, k4, k5, k6, k7⟩ := hW.room (r := msd s i) (by omega) (by omega)
        rw [if_neg e, if_neg (by omega), FX12_doorsOf_ok hN (by omega) (by omega) k4 k5, Option.bind_some, if_pos (show (0 : Int) = 0 from rfl)]
        by_cases e2 : dr s i ≤ dr s (msd s i)
        · rw [if_pos e2, if_neg (show ¬ (msd s i = -1 ∨ dr s (msd s i) < dr s i) by omega)]
        · rw [if_neg e2, if_pos (show (msd s i = -1 ∨ dr s (msd s i) < dr s i) by omega)]
    by_cases e : lk s i ≤ 0
    · rw [if_pos e, if_pos e]; exact st2 _
    · rw [if_neg e, if_neg e]; exact st2 _) (by omega)
theorem FX12_drift_meet {N : Nat} {s : iv_M} {r : Int} (hN : 100 ≤ N) (hW : Wf s) (r0 : 0 ≤ r) (r1 : r < s 114 2) : FX12_drift_l134 N s 113 r (fun (x4232_4 : Int) => (some x4232_4)) N 0 0 = some (dmt s r) := by
  unfold dmt
  exact loop_fn (L := fun n z i => FX12_drift_l134 N s 113 r (fun (x4232_4 : Int) => (some x4232_4)) n z i) (k := fun z => some z) (hi := 4) (fun n => su (fun d => if td s r d = -1 then 0 else 1) n) (by omega) (fun n => by
    show FX12_drift_l134 N s 113 r (fun (x4232_4 : Int) => (some x4232_4)) (n + 1) _ 4 = _
    rw [FX12_drift_l134, if_pos (by omega)]) (fun n i hi => by
    show FX12_drift_l134 N s 113 r (fun (x4232_4 : Int) => (some x4232_4)) (n + 1) _ i = FX12_drift_l134 N s 113 r (fun (x4232_4 : Int) => (some x4232_4)) n (su (fun d => if td s r d = -1 then 0 else 1) i + (if td s r i = -1 then 0 else 1)) _
    have hb := su_le (f := fun d => if td s r d = -1 then (0 : Int) else 1) (m := 1) i (fun j _ _ => by show 0 ≤ (if td s r j = -1 then (0 : Int) else 1) ∧ (if td s r j = -1 then (0 : Int) else 1) ≤ 1; split <;> omega)
    rw [FX12_drift_l134, if_neg (by omega), (td_dd hW r0 r1 (by omega) hi).1, Option.bind_some]
    unfold FX12_drift_b157
    rw [w32_id (x := (i : Int) + 1) (by omega) (by omega), w32_id (by omega) (by omega), w32_id (by omega) (by omega)]
    by_cases e : td s r i = -1
    · rw [if_pos e, if_pos rfl]
    · rw [if_neg e, if_neg (by omega)]) (by omega)
theorem ct_drift {t : Int} {N : Nat} {s : iv_M} {x : Int} (hN : 1000 ≤ N) (h : Inv t s) : ∃ a, FX11_drift N s 0 x = some a ∧ FX12_drift N s 113 x = some a := by
  obtain ⟨h1, ⟨hr1, ⟨hF, hP⟩, hK, hH4, _⟩, ⟨hW, _⟩, _⟩ := h
  have hq : (s 0 4).toNat = now s := rfl
  have hto := HR1_told hr1
  have hr2 := hW.1.2.2.2.2.2.1
  have hr0 := hW.1.2.2.2.2.1
  unfold FX11_drift FX12_drift FX11_drift_b19 FX12_drift_b19 FX11_drift_b75 FX12_drift_b118 FX12_drift_b127
  rw [hq, FX12_isPalace_ok, Option.bind_some, FX12_in_ok, Option.bind_some]
  by_cases e0 : s (now s) 0 = 0
  · rw [if_pos e0, if_neg (hto.mp e0), if_pos rfl]; exact ⟨-1, rfl, rfl⟩
  have hp : 0 < s 114 0 := by
    by_cases z : 0 < s 114 0
    · exact z
    · exact absurd (hto.mpr z) e0
  rw [if_neg e0, if_pos hp, if_neg (show ¬ (1 : Int) = 0 by omega)]
  by_cases c : 0 ≤ x ∧ x ≤ 2
  · rw [if_neg (show ¬ x < 0 by omega), if_pos c.2, if_pos c, if_neg (show ¬ (1 : Int) = 0 by omega), FX12_drift_lp (by omega) hW, FX1_lockedDrift_ok (by omega) hF hW, FX1_mostDoors_ok (by omega) hF hW, Option.bind_some, Option.bind_some]
    have hm := msd_rng (B := s) (s 114 2).toNat
    by_cases x0 : x = 0
    · simp only [if_pos x0]; exact ⟨_, rfl, rfl⟩
    · simp only [if_neg x0]
      unfold msr
      by_cases e : msd s (s 114 2).toNat = -1
      · simp only [if_pos e]
        refine ⟨-2, rfl, ?_⟩
        split <;> rfl
      · simp only [if_neg e]
        by_cases x1 : x = 1
        · simp only [if_pos x1]; exact ⟨_, rfl, rfl⟩
        · simp only [if_neg x1]
          rw [FX1_doorsThatMeet_ok (by omega) hF hW (by omega) (by omega), Option.bind_some, if_neg (by omega), FX12_drift_meet (by omega) hW (by omega) (by omega)]
          exact ⟨_, rfl, rfl⟩
  · refine ⟨-1, ?_, by rw [if_neg c, if_pos rfl]⟩
    by_cases z : x < 0
    · rw [if_pos z]
    · rw [if_neg z, if_neg (show ¬ x ≤ 2 by omega)]
theorem ct_built {t : Int} {N : Nat} {s : iv_M} {x y w : Int} (hN : 1000 ≤ N) (h : Inv t s) : ∃ a s2, FX11_built N s 0 x y w = some a ∧ FX12_built N s 113 x y w = some (a, s2) ∧ Inv (t + 1) s2 := by
  have hI := h
  obtain ⟨h1, ⟨hr1, ⟨hF, hP⟩, hK, hH4, _⟩, ⟨hW, _⟩, _⟩ := h
  have hq : (s 0 4).toNat = now s := rfl
  have hs := HR1_mono (t' := t + 1) (by omega) hI
  have w1 := hW.1.1; have w2 := hW.1.2.1; have w3 := hW.1.2.2.1; have w4 := hW.1.2.2.2.1
  unfold FX11_built FX12_built FX11_built_b46 FX12_built_b35 FX12_built_b65
  rw [hq, FX1_cellAt_ok hF hW.1, FX12_isCell_ok hW.1, Option.bind_some, Option.bind_some]
  by_cases c : isC s x y
  · have hc : 0 ≤ x ∧ x < 4 ∧ 0 ≤ y ∧ y < 4 := by unfold isC at c; omega
    rw [if_pos c, if_pos c, if_neg (show ¬ (1 : Int) = 0 by omega), if_neg (show ¬ 4 * y + x = -1 by omega), w32_id (x := 4 * y) (by omega) (by omega), w32_id (x := 4 * y + x) (by omega) (by omega)]
    simp only [Nat.reduceAdd]
    rw [rd_ok (by omega) (by omega), Option.bind_some, hF.2.2.2.1 _ (by omega) (by omega), rd_ok (by omega) (by omega), Option.bind_some]
    by_cases e : s 121 (4 * y + x) = -1
    · rw [if_pos e, if_pos e, FX12_in_ok, Option.bind_some]
      by_cases cw : 0 ≤ w ∧ w ≤ 4
      · rw [if_neg (show ¬ w < 0 by omega), if_pos cw.2, if_pos cw, if_neg (show ¬ (1 : Int) = 0 by omega)]
        by_cases w0 : w = 0
        · obtain ⟨s2, m1, m2⟩ := FX12_builtMm_ok (N := N) (c := 4 * y + x) (by omega) hW.1 hW.2.1 (by omega) (by omega)
          have b1 := mm_bd s; have b2 := dw_le s (4 * y + x)
          rw [if_pos w0, if_pos w0, FX1_mismatches_ok hF hW.1 hW.2.1 (by omega), Option.bind_some, FX1_doorsTowards_ok (by omega) hF hW.1 (by omega) (by omega), Option.bind_some, m1, Option.bind_some, w32_id (by omega) (by omega)]
          exact ⟨_, s2, rfl, rfl, Inv_scr hI (by omega) m2⟩
        · rw [if_neg w0, if_neg w0, w32_id (by omega) (by omega), FX1_sideToBuild_ok hF hW.1 (by omega) (by omega) (by omega) (by omega), FX12_builtSide_ok hW.1 hW.2.1 (by omega) (by omega) (by omega) (by omega)]
          exact ⟨_, s, rfl, rfl, hs⟩
      · refine ⟨-1, s, ?_, by rw [if_neg cw, if_pos rfl], hs⟩
        by_cases z : w < 0
        · rw [if_pos z]
        · rw [if_neg z, if_neg (show ¬ w ≤ 4 by omega)]
    · rw [if_neg e, if_neg e]; exact ⟨-1, s, rfl, rfl, hs⟩
  · rw [if_neg c, if_neg c, if_pos rfl, if_pos rfl]; exact ⟨-1, s, rfl, rfl, hs⟩
def emt (B : iv_M) (c : Int) : Prop := c % 4 < B 114 0 ∧ c / 4 < B 114 1 ∧ B 121 c = -1
def bsc (B : iv_M) : Nat → Int × Int
  | 0 => (-2, -1)
  | n + 1 => if ((n : Int) % 4 < B 114 0 ∧ (n : Int) / 4 < B 114 1 ∧ B 121 n = -1) ∧ (bsc B n).2 < dw B n then (n, dw B n) else bsc B n
theorem bsc_rng {B : iv_M} : ∀ n : Nat, bsc B n = (-2, -1) ∨ (0 ≤ (bsc B n).1 ∧ (bsc B n).1 < n ∧ (bsc B n).2 = dw B (bsc B n).1) := by
  intro n
  induction n with
  | zero => left; rfl
  | succ n ih =>
    rw [bsc]
    split
    · right; exact ⟨by omega, by show (n : Int) < _; omega, rfl⟩
    · rcases ih with z | z
      · left; exact z
      · right; exact ⟨z.1, by have := z.2.1; omega, z.2.2⟩
theorem FX11_best_ok {N : Nat} {s : iv_M} (hN : 100 ≤ N) (hF : FRc s (now s + 1) s) (hW : Wa s) : FX11_best_l19 N s 0 (fun (x2219_1 : Int) => (some x2219_1)) N (-2) (-1) 0 = some (bsc s 16).1 := by
  have hq : (s 0 4).toNat = now s := rfl
  exact loop_fn (L := fun n (z : Int × Int) i => FX11_best_l19 N s 0 (fun (x2219_1 : Int) => (some x2219_1)) n z.1 z.2 i) (k := fun z => some z.1) (hi := 16) (fun n => bsc s n) (by omega) (fun n => by
    show FX11_best_l19 N s 0 (fun (x2219_1 : Int) => (some x2219_1)) (n + 1) _ _ 16 = _
    rw [FX11_best_l19, if_pos (by omega)]) (fun n i hi => by
    show FX11_best_l19 N s 0 (fun (x2219_1 : Int) => (some x2219_1)) (n + 1) (bsc s i).1 (bsc s i).2 i = FX11_best_l19 N s 0 (fun (x2219_1 : Int) => (some x2219_1)) n (bsc s (i + 1)).1 (bsc s (i + 1)).2 _
    rw [FX11_best_l19, if_neg (by omega), hq, FX1_isEmptyCell_ok hF (by omega) hi, Option.bind_some, FX1_doorsTowards_ok (by omega) hF hW (by omega) hi, Option.bind_some, Option.bind_some, bsc]
    unfold FX11_best_b68
    rw [w32_id (by omega) (by omega)]
    by_cases e : ((i : Int) % 4 < s 114 0 ∧ (i : Int) / 4 < s 114 1 ∧ s 121 i = -1)
    · rw [if_pos e, if_neg (show ¬ (1 : Int) = 0 by omega)]
      by_cases e2 : dw s i ≤ (bsc s i).2
      · rw [if_pos e2, if_neg (show ¬ (((i : Int) % 4 < s 114 0 ∧ (i : Int) / 4 < s 114 1 ∧ s 121 i = -1) ∧ (bsc s i).2 < dw s i) by omega)]
      · rw [if_neg e2, if_pos (show (((i : Int) % 4 < s 114 0 ∧ (i : Int) / 4 < s 114 1 ∧ s 121 i = -1) ∧ (bsc s i).2 < dw s i) from ⟨e, by omega⟩)]
    · rw [if_neg e, if_pos rfl, if_neg (show ¬ (((i : Int) % 4 < s 114 0 ∧ (i : Int) / 4 < s 114 1 ∧ s 121 i = -1) ∧ (bsc s i).2 < dw s i) from fun z => e z.1)]) (by omega)
theorem eb_dw {s s' : iv_M} (h : Eb s s') : dw s' = dw s := by funext c; unfold dw; rw [eb_kdn h]
theorem FX12_best_ok {N : Nat} {s : iv_M} (hN : 100 ≤ N) (hW : Wf s) : ∃ s', FX12_best_l14 N 113 (fun (s_4380 : iv_M) (x4381_1 : Int) => (some (x4381_1, s_4380))) N s (-2) 0 = some ((bsc s 16).1, s') ∧ Scr s s' := by
  obtain ⟨y, y1, y2⟩ := loop_up (L := fun n (z : iv_M × Int) i => FX12_best_l14 N 113 (fun (s_4380 : iv_M) (x4381_1 : Int) => (some (x4381_1, s_4380))) n z.1 z.2 i) (k := fun z => some (z.2, z.1)) (hi := 16) (fun i z => 0 ≤ i ∧ Scr s z.1 ∧ z.2 = (bsc s i.toNat).1) (fun n z hz => by
      show FX12_best_l14 N 113 (fun (s_4380 : iv_M) (x4381_1 : Int) => (some (x4381_1, s_4380))) (n + 1) z.1 z.2 16 = some (z.2, z.1)
      rw [FX12_best_l14, if_pos (by omega)]) (fun n i z hz hi => by
      obtain ⟨i0, z1, z2⟩ := hz
      obtain ⟨s1, x⟩ := z
      have z1 : Scr s s1 := z1
      have z2 : x = (bsc s i.toNat).1 := z2
      have hW1 := eb_Wf z1.eb hW
      have h14 := z1.1 114 (by omega) (by omega) (by omega)
      have h121 := z1.1 121 (by omega) (by omega) (by omega)
      have hb := bsc_rng (B := s) i.toNat
      rw [show (i + 1).toNat = i.toNat + 1 by omega]
      have hbs : bsc s (i.toNat + 1) = if (i % 4 < s 114 0 ∧ i / 4 < s 114 1 ∧ s 121 i = -1) ∧ (bsc s i.toNat).2 < dw s i then (i, dw s i) else bsc s i.toNat := by rw [bsc, Int.toNat_of_nonneg i0]
      rw [hbs]
      show ∃ x' : iv_M × Int, FX12_best_l14 N 113 (fun (s_4380 : iv_M) (x4381_1 : Int) => (some (x4381_1, s_4380))) (n + 1) s1 x i = FX12_best_l14 N 113 (fun (s_4380 : iv_M) (x4381_1 : Int) => (some (x4381_1, s_4380))) n x'.1 x'.2 (i + 1) ∧ _
      rw [FX12_best_l14, if_neg (by omega), FX12_isFloor_ok hW1.1 i0 (by omega), Option.bind_some, h14]
      simp only [Nat.reduceAdd]
      rw [rd_ok i0 (by omega), Option.bind_some, h121]
      unfold FX12_best_b57 FX12_best_b59
      rw [w32_id (by omega) (by omega)]
      by_cases e1 : i % 4 < s 114 0 ∧ i / 4 < s 114 1
      · rw [if_pos e1, if_neg (show ¬ (1 : Int) = 0 by omega)]
        by_cases e2 : s 121 i = -1
        · rw [if_pos e2]
          by_cases e3 : x = -2
          · have hlt : (bsc s i.toNat).2 < dw s i := by
              have := dw_le s i
              rcases hb with b | b
              · rw [b]; show (-1 : Int) < _; omega
              · omega
            rw [if_pos e3, if_pos ⟨⟨e1.1, e1.2, e2⟩, hlt⟩]
            exact ⟨(s1, i), rfl, by omega, z1, rfl⟩
          · have hb := hb.resolve_left (fun b => e3 (by rw [z2, b]))
            rw [← z2] at hb
            rw [if_neg e3]
            obtain ⟨s2, m1, m2⟩ := FX12_builtMm_ok (N := N) (c := i) (by omega) hW1.1 hW1.2.1 i0 (by omega)
            have hW2 := eb_Wf m2.eb hW1
            obtain ⟨s3, m3, m4⟩ := FX12_builtMm_ok (N := N) (c := x) (by omega) hW2.1 hW2.2.1 (by omega) (by omega)
            rw [m1, Option.bind_some]
            dsimp only
            rw [m3, Option.bind_some, eb_mm m2.eb, eb_mm z1.eb, eb_dw m2.eb, eb_dw z1.eb]
            dsimp only
            by_cases e4 : mm s - dw s x ≤ mm s - dw s i
            · rw [if_pos e4, if_neg (by omega)]
              exact ⟨(s3, x), rfl, by omega, z1.trans (m2.trans m4), z2⟩
            · rw [if_neg e4, if_pos (by refine ⟨⟨e1.1, e1.2, e2⟩, ?_⟩; omega)]
              exact ⟨(s3, i), rfl, by omega, z1.trans (m2.trans m4), rfl⟩
        · rw [if_neg e2, if_neg (fun z => e2 z.1.2.2)]
          exact ⟨(s1, x), rfl, by omega, z1, z2⟩
      · rw [if_neg e1, if_pos rfl, if_neg (fun z => e1 ⟨z.1.1, z.1.2.1⟩)]
        exact ⟨(s1, x), rfl, by omega, z1, z2⟩) N 0 (s, -2) ⟨by omega, Scr.refl, rfl⟩ (by omega) (by omega)
  have y2 : FX12_best_l14 N 113 (fun (s_4380 : iv_M) (x4381_1 : Int) => (some (x4381_1, s_4380))) N s (-2) 0 = some (y.2, y.1) := y2
  refine ⟨y.1, ?_, y1.2.1⟩
  rw [y2, y1.2.2]; rfl
theorem ct_best {t : Int} {N : Nat} {s : iv_M} (hN : 1000 ≤ N) (h : Inv t s) : ∃ a s2, FX11_best N s 0 = some a ∧ FX12_best N s 113 = some (a, s2) ∧ Inv (t + 1) s2 := by
  have hI := h
  obtain ⟨h1, ⟨hr1, ⟨hF, hP⟩, hK, hH4, _⟩, ⟨hW, _⟩, _⟩ := h
  have hq : (s 0 4).toNat = now s := rfl
  have hto := HR1_told hr1
  have hs := HR1_mono (t' := t + 1) (by omega) hI
  unfold FX11_best FX12_best
  rw [hq, FX12_isPalace_ok, Option.bind_some]
  by_cases e0 : s (now s) 0 = 0
  · rw [if_pos e0, if_neg (hto.mp e0), if_pos rfl]; exact ⟨-1, s, rfl, rfl, hs⟩
  have hp : 0 < s 114 0 := by
    by_cases z : 0 < s 114 0
    · exact z
    · exact absurd (hto.mpr z) e0
  obtain ⟨s2, b1, b2⟩ := FX12_best_ok (N := N) (by omega) hW
  rw [if_neg e0, if_pos hp, if_neg (show ¬ (1 : Int) = 0 by omega), FX11_best_ok (by omega) hF hW.1, b1]
  exact ⟨_, s2, rfl, rfl, Inv_scr hI (by omega) b2⟩
