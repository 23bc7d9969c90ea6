-- BITS THAT ARE SET
def pop (x : Int) : Int := su (fun k => x / 2 ^ k.toNat % 2) 16
def bcx (x : Int) : Int := bAn (w32 ((w32 ((bAn (w32 ((w32 ((bAn (w32 (x - (bAn (us32 x 1) 1431655765))) 858993459) + (bAn (us32 (w32 (x - (bAn (us32 x 1) 1431655765))) 2) 858993459))) + (us32 (w32 ((bAn (w32 (x - (bAn (us32 x 1) 1431655765))) 858993459) + (bAn (us32 (w32 (x - (bAn (us32 x 1) 1431655765))) 2) 858993459))) 4))) 252645135) + (us32 (bAn (w32 ((w32 ((bAn (w32 (x - (bAn (us32 x 1) 1431655765))) 858993459) + (bAn (us32 (w32 (x - (bAn (us32 x 1) 1431655765))) 2) 858993459))) + (us32 (w32 ((bAn (w32 (x - (bAn (us32 x 1) 1431655765))) 858993459) + (bAn (us32 (w32 (x - (bAn (us32 x 1) 1431655765))) 2) 858993459))) 4))) 252645135) 8))) + (us32 (w32 ((bAn (w32 ((w32 ((bAn (w32 (x - (bAn (us32 x 1) 1431655765))) 858993459) + (bAn (us32 (w32 (x - (bAn (us32 x 1) 1431655765))) 2) 858993459))) + (us32 (w32 ((bAn (w32 (x - (bAn (us32 x 1) 1431655765))) 858993459) + (bAn (us32 (w32 (x - (bAn (us32 x 1) 1431655765))) 2) 858993459))) 4))) 252645135) + (us32 (bAn (w32 ((w32 ((bAn (w32 (x - (bAn (us32 x 1) 1431655765))) 858993459) + (bAn (us32 (w32 (x - (bAn (us32 x 1) 1431655765))) 2) 858993459))) + (us32 (w32 ((bAn (w32 (x - (bAn (us32 x 1) 1431655765))) 858993459) + (bAn (us32 (w32 (x - (bAn (us32 x 1) 1431655765))) 2) 858993459))) 4))) 252645135) 8))) 16))) 63
def bck (lo n : Nat) : Bool := (List.range n).all (fun j => decide (bcx ((lo + j : Nat) : Int) = pop ((lo + j : Nat) : Int)))
theorem bck0 : bck 0 1024 = true := by decide +kernel
theorem bck1 : bck 1024 1024 = true := by decide +kernel
theorem bck2 : bck 2048 1024 = true := by decide +kernel
theorem bck3 : bck 3072 1024 = true := by decide +kernel
theorem bck_use {lo n : Nat} (h : bck lo n = true) {x : Int} (h0 : (lo : Int) ≤ x) (h1 : x < lo + n) : bcx x = pop x := by
  unfold bck at h
  rw [List.all_eq_true] at h
  have := h (x - lo).toNat (List.mem_range.mpr (by omega))
  rw [decide_eq_true_eq, show ((lo + (x - lo).toNat : Nat) : Int) = x by omega] at this
  exact this
theorem bitCount_ok {N : Nat} {s : iv_M} {x : Int} (h0 : 0 ≤ x) (h1 : x < 4096) : FJ6_bitCount_0f7a4 N s x = some (pop x) := by
  show some (bcx x) = _
  congr 1
  by_cases a : x < 1024
  · exact bck_use bck0 (by omega) (by omega)
  · by_cases b : x < 2048
    · exact bck_use bck1 (by omega) (by omega)
    · by_cases c : x < 3072
      · exact bck_use bck2 (by omega) (by omega)
      · exact bck_use bck3 (by omega) (by omega)
theorem bits_ok {N : Nat} {s : iv_M} {x : Int} (hN : 100 ≤ N) : FX12_bits N s x = some (pop x) := by
  unfold FX12_bits
  obtain ⟨y, y1, y2⟩ := loop_up (L := fun n z i => FX12_bits_l4 N s x (fun (x2299_1 : Int) => (some x2299_1)) n z i) (k := fun z => some z) (hi := 16) (fun i z => z = su (fun k => x / 2 ^ k.toNat % 2) i.toNat ∧ 0 ≤ i) (fun n z hz => by
      show FX12_bits_l4 N s x (fun (x2299_1 : Int) => (some x2299_1)) (n + 1) z 16 = some z
      rw [FX12_bits_l4, if_pos (by omega)]) (fun n i z hz hi => by
      obtain ⟨z1, i0⟩ := hz
      have hb := su_le (f := fun k => x / 2 ^ k.toNat % 2) (m := 1) i.toNat (fun j _ _ => by show 0 ≤ x / 2 ^ j.toNat % 2 ∧ x / 2 ^ j.toNat % 2 ≤ 1; omega)
      refine ⟨z + x / 2 ^ i.toNat % 2, ?_, by rw [su_next i0, z1], by omega⟩
      show FX12_bits_l4 N s x (fun (x2299_1 : Int) => (some x2299_1)) (n + 1) z i = FX12_bits_l4 N s x (fun (x2299_1 : Int) => (some x2299_1)) n (z + x / 2 ^ i.toNat % 2) (i + 1)
      rw [FX12_bits_l4, if_neg (by omega), bAn_1]
      have hs : sr32 x i = x / 2 ^ i.toNat := by unfold sr32; rw [show (i % 32).toNat = i.toNat by omega]
      rw [hs, w32_id (by omega) (by omega), w32_id (by omega) (by omega)]) N 0 0 ⟨rfl, by omega⟩ (by omega) (by omega)
  have y2 : FX12_bits_l4 N s x (fun (x2299_1 : Int) => (some x2299_1)) N 0 0 = some y := y2
  rw [y2, y1.1]
  rfl
-- doors and locks of a room
def dr (B : iv_M) (r : Int) : Int := su (fun d => if srt (B 115 (4 * r + d)) = 1 then 1 else 0) 4
def lk (B : iv_M) (r : Int) : Int := su (fun d => if B 115 (4 * r + d) < 3 then 0 else 1) 4
theorem FX1_doorsOf_ok {N q : Nat} {s B : iv_M} {r : Int} (hN : 100 ≤ N) (hF : FRc s q B) (r0 : 0 ≤ r) (r1 : r < B 114 2) (r2 : r < 12) : FX1_doorsOf N s q r = some (dr B r) := by
  unfold FX1_doorsOf
  obtain ⟨M, hM⟩ : ∃ M, N = M + 5 := ⟨N - 5, by omega⟩
  have st : ∀ (n : Nat) (x i : Int), 0 ≤ i → i < 4 → 0 ≤ x → x < 100 → FX1_doorsOf_l4 N s q r (fun (x336_2 : Int) => (some x336_2)) (n + 1) x i = FX1_doorsOf_l4 N s q r (fun (x336_2 : Int) => (some x336_2)) n (x + (if srt (B 115 (4 * r + i)) = 1 then 1 else 0)) (i + 1) := by
    intro n x i i0 i1 x0 x1
    rw [FX1_doorsOf_l4, if_neg (by omega), w32_id (x := 4 * r) (by omega) (by omega), w32_id (x := 4 * r + i) (by omega) (by omega), rd_ok (by omega) (by omega), Option.bind_some, hF.2.2.2.2.2.2.1 _ (by omega) (by omega)]
    unfold FX1_doorsOf_b34 FX1_doorsOf_b39
    generalize B 115 (4 * r + i) = v
    unfold srt
    by_cases h1 : v = 1
    · rw [if_pos h1, w32_id (by omega) (by omega), w32_id (by omega) (by omega), h1]; rfl
    · rw [if_neg h1]
      by_cases h2 : v < 3
      · rw [if_pos h2, if_pos h2, if_neg h1, w32_id (by omega) (by omega), w32_id (by omega) (by omega)]
      · rw [if_neg h2, if_neg h2, if_pos rfl, w32_id (by omega) (by omega), w32_id (by omega) (by omega)]
  have := loop4 (L := fun n x i => FX1_doorsOf_l4 N s q r (fun (x336_2 : Int) => (some x336_2)) n x i) (g := fun d => if srt (B 115 (4 * r + d)) = 1 then 1 else 0) st (fun i => by
    show 0 ≤ (if srt (B 115 (4 * r + i)) = 1 then (1 : Int) else 0) ∧ (if srt (B 115 (4 * r + i)) = 1 then (1 : Int) else 0) ≤ 1
    split <;> omega) (M + 1) 0 (by omega) (by omega)
  rw [show M + 1 + 4 = N by omega] at this
  rw [this, FX1_doorsOf_l4, if_pos (by omega)]
  unfold dr
  congr 1; omega
theorem FX1_locksOf_ok {N q : Nat} {s B : iv_M} {r : Int} (hN : 100 ≤ N) (hF : FRc s q B) (r0 : 0 ≤ r) (r1 : r < B 114 2) (r2 : r < 12) : FX1_locksOf N s q r = some (lk B r) := by
  unfold FX1_locksOf
  obtain ⟨M, hM⟩ : ∃ M, N = M + 5 := ⟨N - 5, by omega⟩
  have st : ∀ (n : Nat) (x i : Int), 0 ≤ i → i < 4 → 0 ≤ x → x < 100 → FX1_locksOf_l4 N s q r (fun (x341_2 : Int) => (some x341_2)) (n + 1) x i = FX1_locksOf_l4 N s q r (fun (x341_2 : Int) => (some x341_2)) n (x + (if B 115 (4 * r + i) < 3 then 0 else 1)) (i + 1) := by
    intro n x i i0 i1 x0 x1
    rw [FX1_locksOf_l4, if_neg (by omega), w32_id (x := 4 * r) (by omega) (by omega), w32_id (x := 4 * r + i) (by omega) (by omega), rd_ok (by omega) (by omega), Option.bind_some, hF.2.2.2.2.2.2.1 _ (by omega) (by omega)]
    unfold FX1_locksOf_b29
    split
    · rw [w32_id (by omega) (by omega), w32_id (by omega) (by omega)]
    · rw [w32_id (by omega) (by omega), w32_id (by omega) (by omega)]
  have := loop4 (L := fun n x i => FX1_locksOf_l4 N s q r (fun (x341_2 : Int) => (some x341_2)) n x i) (g := fun d => if B 115 (4 * r + d) < 3 then 0 else 1) st (fun i => by
    show 0 ≤ (if B 115 (4 * r + i) < 3 then (0 : Int) else 1) ∧ (if B 115 (4 * r + i) < 3 then (0 : Int) else 1) ≤ 1
    split <;> omega) (M + 1) 0 (by omega) (by omega)
  rw [show M + 1 + 4 = N by omega] at this
  rw [this, FX1_locksOf_l4, if_pos (by omega)]
  unfold lk
  congr 1; omega
/-- the sides of a turned room are its sides -/
theorem turn_su {f : Int → Int} {t : Int} (t0 : 0 ≤ t) (t1 : t < 4) : su (fun d => f ((d - t) % 4)) 4 = su f 4 := by
  rw [su4, su4]
  rcases four t0 t1 with rfl | rfl | rfl | rfl <;> simp <;> omega
theorem FX12_doorsOf_ok {N : Nat} {s : iv_M} {r x2 : Int} (hN : 100 ≤ N) (r0 : 0 ≤ r) (r1 : r < 12) (t0 : 0 ≤ s 117 r) (t1 : s 117 r < 4) : FX12_doorsOf N s 113 r x2 = some (if x2 = 0 then dr s r else lk s r) := by
  unfold FX12_doorsOf
  obtain ⟨M, hM⟩ : ∃ M, N = M + 5 := ⟨N - 5, by omega⟩
  have st : ∀ (n : Nat) (x i : Int), 0 ≤ i → i < 4 → 0 ≤ x → x < 100 → FX12_doorsOf_l5 N s 113 r x2 (fun (x3134_3 : Int) => (some x3134_3)) (n + 1) x i = FX12_doorsOf_l5 N s 113 r x2 (fun (x3134_3 : Int) => (some x3134_3)) n (x + (if x2 = 0 then (if srt (sd s r i) = 1 then 1 else 0) else (if sd s r i < 3 then 0 else 1))) (i + 1) := by
    intro n x i i0 i1 x0 x1
    rw [FX12_doorsOf_l5, if_neg (by omega), FX12_sortAt_ok r0 r1 t0 t1 i0 i1, (FX12_sideOf_ok r0 r1 t0 t1 i0 i1).2, Option.bind_some, Option.bind_some]
    unfold FX12_doorsOf_b51
    by_cases hx : x2 = 0
    · rw [if_pos hx, if_pos hx]
      split
      · rw [w32_id (by omega) (by omega), w32_id (by omega) (by omega)]
      · rw [w32_id (by omega) (by omega), w32_id (by omega) (by omega)]
    · rw [if_neg hx, if_neg hx]
      split
      · rw [w32_id (by omega) (by omega), w32_id (by omega) (by omega)]
      · rw [w32_id (by omega) (by omega), w32_id (by omega) (by omega)]
  have := loop4 (L := fun n x i => FX12_doorsOf_l5 N s 113 r x2 (fun (x3134_3 : Int) => (some x3134_3)) n x i) (g := fun i => if x2 = 0 then (if srt (sd s r i) = 1 then 1 else 0) else (if sd s r i < 3 then 0 else 1)) st (fun i => by
    show 0 ≤ (if x2 = 0 then (if srt (sd s r i) = 1 then (1 : Int) else 0) else (if sd s r i < 3 then 0 else 1)) ∧ (if x2 = 0 then (if srt (sd s r i) = 1 then (1 : Int) else 0) else (if sd s r i < 3 then 0 else 1)) ≤ 1
    repeat' split
    all_goals omega) (M + 1) 0 (by omega) (by omega)
  rw [show M + 1 + 4 = N by omega] at this
  rw [this, FX12_doorsOf_l5, if_pos (by omega)]
  congr 1
  by_cases hx : x2 = 0
  · rw [if_pos hx]
    have e := turn_su (f := fun j => if srt (s 115 (4 * r + j)) = 1 then 1 else 0) t0 t1
    unfold dr
    rw [← e, Int.zero_add]
    refine su_congr 4 (fun i _ _ => ?_)
    rw [if_pos hx]; rfl
  · rw [if_neg hx]
    have e := turn_su (f := fun j => if s 115 (4 * r + j) < 3 then 0 else 1) t0 t1
    unfold lk
    rw [← e, Int.zero_add]
    refine su_congr 4 (fun i _ _ => ?_)
    rw [if_neg hx]; rfl
-- who sleeps in a room
def slp (f : Int → Int) (r : Int) : Nat → Int
  | 0 => 0
  | n + 1 => bOr (slp f r n) (if f n = r then sl32 1 n else 0)
theorem sl32_1 {i : Int} (i0 : 0 ≤ i) (i1 : i < 31) : sl32 1 i = ((2 ^ i.toNat : Nat) : Int) := by
  have := sl32_lit (x := 1) (k := i.toNat) (by omega) (by omega) (by
    have h2 : (2 : Nat) ^ i.toNat ≤ 2 ^ 30 := Nat.pow_le_pow_right (by decide) (by omega)
    have h3 : ((2 ^ i.toNat : Nat) : Int) ≤ ((2 ^ 30 : Nat) : Int) := by omega
    simp at h3 ⊢; omega)
  rw [Int.toNat_of_nonneg i0] at this
  rw [this]; simp
theorem slp_lt {f : Int → Int} {r : Int} : ∀ n : Nat, n ≤ 6 → ∃ m : Nat, slp f r n = m ∧ m < 2 ^ n := by
  intro n
  induction n with
  | zero => intro _; exact ⟨0, rfl, by decide⟩
  | succ n ih =>
    intro hn
    obtain ⟨m, h1, h2⟩ := ih (by omega)
    have hp : (2 : Nat) ^ n ≤ 2 ^ 6 := Nat.pow_le_pow_right (by decide) (by omega)
    have h3 : m < 2 ^ (n + 1) := by rw [Nat.pow_succ]; omega
    have hpp : (2 : Nat) ^ n < 2 ^ (n + 1) := by rw [Nat.pow_succ]; have := Nat.two_pow_pos n; omega
    show ∃ k : Nat, bOr (slp f r n) (if f n = r then sl32 1 n else 0) = k ∧ k < 2 ^ (n + 1)
    rw [h1]
    split
    · rw [sl32_1 (by omega) (by omega), Int.toNat_natCast, bOr_nat (by omega) (by omega)]
      exact ⟨_, rfl, Nat.or_lt_two_pow h3 hpp⟩
    · refine ⟨m, ?_, h3⟩
      have := bOr_nat (a := m) (b := 0) (by omega) (by omega)
      rw [Nat.or_zero] at this
      exact this
theorem FX12_sleepers_ok {N : Nat} {s : iv_M} {r : Int} (hN : 100 ≤ N) (p0 : 0 ≤ s 114 3) (p1 : s 114 3 ≤ 6) : FX12_sleepers N s 113 r = some (slp (s 120) r (s 114 3).toNat) := by
  unfold FX12_sleepers
  obtain ⟨y, y1, y2⟩ := loop_up (L := fun n z i => FX12_sleepers_l4 N s 113 r (fun (x3141_2 : Int) => (some x3141_2)) n z i) (k := fun z => some z) (hi := s 114 3) (fun i z => z = slp (s 120) r i.toNat ∧ 0 ≤ i) (fun n z hz => by
      show FX12_sleepers_l4 N s 113 r (fun (x3141_2 : Int) => (some x3141_2)) (n + 1) z (s 114 3) = some z
      rw [FX12_sleepers_l4]
      simp only [Nat.reduceAdd]
      rw [rd_ok (by omega) (by omega), Option.bind_some, if_pos (by omega)]) (fun n i z hz hi => by
      obtain ⟨z1, i0⟩ := hz
      refine ⟨slp (s 120) r (i + 1).toNat, ?_, rfl, by omega⟩
      show FX12_sleepers_l4 N s 113 r (fun (x3141_2 : Int) => (some x3141_2)) (n + 1) z i = _
      rw [FX12_sleepers_l4]
      simp only [Nat.reduceAdd]
      rw [rd_ok (by omega) (by omega), Option.bind_some, if_neg (by omega), rd_ok i0 (by omega), Option.bind_some, show (i + 1).toNat = i.toNat + 1 by omega]
      unfold FX12_sleepers_b32 slp
      rw [w32_id (by omega) (by omega), Int.toNat_of_nonneg i0, z1]
      split <;> rfl) N 0 0 ⟨rfl, by omega⟩ (by omega) (by omega)
  have y2 : FX12_sleepers_l4 N s 113 r (fun (x3141_2 : Int) => (some x3141_2)) N 0 0 = some y := y2
  rw [y2, y1.1]
theorem FX2_sleepersIn_ok {N q : Nat} {s : iv_M} {r : Int} {f : Int → Int} (hN : 100 ≤ N) (p0 : 0 ≤ s q 2) (p1 : s q 2 ≤ 6) (hf : ∀ i, 0 ≤ i → i < s q 2 → s (q + 9) i = f i) : FX2_sleepersIn N s q r = some (slp f r (s q 2).toNat) := by
  unfold FX2_sleepersIn
  obtain ⟨y, y1, y2⟩ := loop_up (L := fun n z i => FX2_sleepersIn_l4 N s q r (fun (x483_2 : Int) => (some x483_2)) n z i) (k := fun z => some z) (hi := s q 2) (fun i z => z = slp f r i.toNat ∧ 0 ≤ i) (fun n z hz => by
      show FX2_sleepersIn_l4 N s q r (fun (x483_2 : Int) => (some x483_2)) (n + 1) z (s q 2) = some z
      rw [FX2_sleepersIn_l4, if_pos (by omega)]) (fun n i z hz hi => by
      obtain ⟨z1, i0⟩ := hz
      refine ⟨slp f r (i + 1).toNat, ?_, rfl, by omega⟩
      show FX2_sleepersIn_l4 N s q r (fun (x483_2 : Int) => (some x483_2)) (n + 1) z i = _
      rw [FX2_sleepersIn_l4, if_neg (by omega), rd_ok i0 (by omega), Option.bind_some, hf i i0 hi, show (i + 1).toNat = i.toNat + 1 by omega]
      unfold FX2_sleepersIn_b30 slp
      rw [w32_id (by omega) (by omega), Int.toNat_of_nonneg i0, z1]
      split <;> rfl) N 0 0 ⟨rfl, by omega⟩ (by omega) (by omega)
  have y2 : FX2_sleepersIn_l4 N s q r (fun (x483_2 : Int) => (some x483_2)) N 0 0 = some y := y2
  rw [y2, y1.1]
