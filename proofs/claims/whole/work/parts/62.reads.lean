-- READS of a floor, class and reference
theorem FX1_cellAt_ok {N q : Nat} {s B : iv_M} {x y : Int} (hF : FRc s q B) (hW : Wa B) : FX1_cellAt N s q x y = some (if isC B x y then 4 * y + x else -1) := by
  obtain ⟨h1, h2, h3, h4, _⟩ := hW
  have f0 := hF.1
  have f1 := hF.2.1
  unfold FX1_cellAt FX1_cellAt_b32 FX1_cellAt_b33
  rw [f0, f1]
  by_cases c : isC B x y
  · have c' := c
    unfold isC at c'
    rw [if_neg (by omega), if_neg (by omega), if_neg (by omega), if_neg (by omega), if_pos c, w32_id (x := 4 * y) (by omega) (by omega), w32_id (by omega) (by omega)]
  · rw [if_neg c]
    unfold isC at c
    by_cases e1 : x < 0
    · rw [if_pos e1]
    · rw [if_neg e1]
      by_cases e2 : B 114 0 ≤ x
      · rw [if_pos e2]
      · rw [if_neg e2]
        by_cases e3 : y < 0
        · rw [if_pos e3]
        · rw [if_neg e3, if_pos (by omega)]
theorem FX1_isEmptyCell_ok {N q : Nat} {s B : iv_M} {c : Int} (hF : FRc s q B) (c0 : 0 ≤ c) (c1 : c < 16) : FX1_isEmptyCell N s q c = some (if c % 4 < B 114 0 ∧ c / 4 < B 114 1 ∧ B 121 c = -1 then 1 else 0) := by
  have f0 := hF.1
  have f1 := hF.2.1
  unfold FX1_isEmptyCell FX1_isEmptyCell_b34 FX1_isEmptyCell_b35
  rw [b01_0, b01_1, f0, f1, bAn_3, sr32_2]
  by_cases e1 : B 114 0 ≤ c % 4
  · rw [if_pos e1, if_neg (show ¬ (c % 4 < B 114 0 ∧ c / 4 < B 114 1 ∧ B 121 c = -1) by omega)]
  · rw [if_neg e1]
    by_cases e2 : B 114 1 ≤ c / 4
    · rw [if_pos e2, if_neg (show ¬ (c % 4 < B 114 0 ∧ c / 4 < B 114 1 ∧ B 121 c = -1) by omega)]
    · rw [if_neg e2, rd_ok c0 c1, Option.bind_some, hF.2.2.2.1 c c0 c1]
      by_cases e3 : B 121 c = -1
      · rw [if_pos e3, if_pos (show c % 4 < B 114 0 ∧ c / 4 < B 114 1 ∧ B 121 c = -1 by omega)]
      · rw [if_neg e3, if_neg (show ¬ (c % 4 < B 114 0 ∧ c / 4 < B 114 1 ∧ B 121 c = -1) by omega)]
theorem FX1_sortOf_ok {N q : Nat} {s B : iv_M} {r d : Int} (hF : FRc s q B) (hW : Wf B) (r0 : 0 ≤ r) (r1 : r < B 114 2) (d0 : 0 ≤ d) (d1 : d < 4) : FX1_sortOf N s q r d = some (sd B r d) := by
  have hr2 := hW.1.2.2.2.2.2.1
  obtain ⟨e1, e2⟩ := hF.cell hW r0 r1
  obtain ⟨g1, g2, g3, g4, g5, g6, g7⟩ := hW.room r0 r1
  unfold FX1_sortOf
  rw [rd_ok r0 (by omega), Option.bind_some, e2, bAn_3, w32_id (x := d - B 117 r) (by omega) (by omega), w32_id (x := 4 * r) (by omega) (by omega), w32_id (by omega) (by omega), rd_ok (by omega) (by omega), Option.bind_some, hF.2.2.2.2.2.2.1 _ (by omega) (by omega)]
  rfl
def td (B : iv_M) (r d : Int) : Int := if kd B (B 116 r) d = 1 ∧ kdn B (B 116 r) d = 1 then B 121 (nb B (B 116 r) d) else -1
theorem kdn_ne {B : iv_M} {c d : Int} (h : kdn B c d ≠ 3) : nb B c d ≠ -1 ∧ kdn B c d = kd B (nb B c d) ((d + 2) % 4) := by
  unfold kdn at h ⊢
  split at h
  · exact absurd rfl h
  · next e => rw [if_neg e]; exact ⟨e, rfl⟩
theorem FX1_throughDoor_ok {N q : Nat} {s B : iv_M} {r d : Int} (hF : FRc s q B) (hW : Wf B) (r0 : 0 ≤ r) (r1 : r < B 114 2) (d0 : 0 ≤ d) (d1 : d < 4) : FX1_throughDoor N s q r d = some (td B r d) := by
  have hr2 := hW.1.2.2.2.2.2.1
  obtain ⟨e1, e2⟩ := hF.cell hW r0 r1
  obtain ⟨g1, g2, g3, g4, g5, g6, g7⟩ := hW.room r0 r1
  unfold FX1_throughDoor FX1_throughDoor_b52 td
  rw [rd_ok r0 (by omega), Option.bind_some, e1, w32_id (x := 4 * B 116 r) (by omega) (by omega), w32_id (x := 4 * B 116 r + d) (by omega) (by omega), rd_ok (by omega) (by omega), Option.bind_some, hF.2.2.2.2.2.1 _ _ g1 g2 d0 d1, rd_ok (by omega) (by omega), Option.bind_some, hF.2.2.2.2.1 _ _ g1 g2 d0 d1, bXo_2 d0 d1]
  by_cases e3 : nb B (B 116 r) d = -1
  · rw [if_pos e3, if_neg (show ¬ (kd B (B 116 r) d = 1 ∧ kdn B (B 116 r) d = 1) from fun z => by have := kdn_ne (B := B) (c := B 116 r) (d := d) (by omega); exact this.1 e3)]
  · obtain ⟨t1, t2, _⟩ := nb_in hW.1 e3
    have hk : kdn B (B 116 r) d = kd B (nb B (B 116 r) d) ((d + 2) % 4) := by unfold kdn; rw [if_neg e3]
    rw [if_neg e3, w32_id (x := 4 * nb B (B 116 r) d) (by omega) (by omega), w32_id (x := 4 * nb B (B 116 r) d + (d + 2) % 4) (by omega) (by omega), rd_ok (by omega) (by omega), Option.bind_some, hF.2.2.2.2.1 _ _ t1 t2 (by omega) (by omega), ← hk, rd_ok t1 t2, Option.bind_some, hF.2.2.2.1 _ t1 t2]
    by_cases e4 : kd B (B 116 r) d = 1 <;> by_cases e5 : kdn B (B 116 r) d = 1 <;> simp [e4, e5]
theorem td_room {B : iv_M} {r d : Int} (hW : Wf B) (h : td B r d ≠ -1) : kd B (B 116 r) d = 1 ∧ kdn B (B 116 r) d = 1 ∧ nb B (B 116 r) d ≠ -1 ∧ td B r d = B 121 (nb B (B 116 r) d) ∧ 0 ≤ td B r d ∧ td B r d < B 114 2 := by
  unfold td at h ⊢
  by_cases e : kd B (B 116 r) d = 1 ∧ kdn B (B 116 r) d = 1
  · rw [if_pos e] at h ⊢
    obtain ⟨n1, n2⟩ := kdn_ne (B := B) (c := B 116 r) (d := d) (by omega)
    obtain ⟨t1, t2, _⟩ := nb_in hW.1 n1
    rcases hW.2.1 _ t1 t2 with z | z
    · exact absurd z h
    · exact ⟨e.1, e.2, n1, rfl, z.1, z.2.1⟩
  · rw [if_neg e] at h; exact absurd rfl h
theorem td_iff {B : iv_M} {r d : Int} (hW : Wf B) : td B r d ≠ -1 ↔ kd B (B 116 r) d = 1 ∧ kdn B (B 116 r) d = 1 := by
  refine ⟨fun h => ⟨(td_room hW h).1, (td_room hW h).2.1⟩, fun e => ?_⟩
  unfold td
  rw [if_pos e]
  obtain ⟨n1, n2⟩ := kdn_ne (B := B) (c := B 116 r) (d := d) (by omega)
  obtain ⟨t1, t2, _⟩ := nb_in hW.1 n1
  intro z
  have := (kd_3 (d := (d + 2) % 4) hW.1 hW.2.1 t1 t2).1.mpr z
  omega
/-- keys that doors ask for -/
def lkb (a b : Int) : Int := if b < 3 then (if a < 3 then 0 else sl32 1 (a - 2)) else bOr (if a < 3 then 0 else sl32 1 (a - 2)) (sl32 1 (b - 2))
theorem sd_rng {B : iv_M} {r d : Int} (hW : Wa B) (r0 : 0 ≤ r) (r1 : r < B 114 2) : 0 ≤ sd B r d ∧ sd B r d ≤ 6 := by
  unfold sd; exact hW.2.2.2.2.2.2.2 _ (by omega) (by omega)
theorem FX1_locksBetween_ok {N q : Nat} {s B : iv_M} {r d t : Int} (hF : FRc s q B) (hW : Wf B) (r0 : 0 ≤ r) (r1 : r < B 114 2) (t0 : 0 ≤ t) (t1 : t < B 114 2) (d0 : 0 ≤ d) (d1 : d < 4) : FX1_locksBetween N s q r d t = some (lkb (sd B r d) (sd B t ((d + 2) % 4))) := by
  have h1 := sd_rng (d := d) hW.1 r0 r1
  have h2 := sd_rng (d := (d + 2) % 4) hW.1 t0 t1
  unfold FX1_locksBetween FX1_locksBetween_b36 FX1_locksBetween_b60 lkb
  rw [FX1_sortOf_ok hF hW r0 r1 d0 d1, Option.bind_some, bXo_2 d0 d1, FX1_sortOf_ok hF hW t0 t1 (by omega) (by omega), Option.bind_some]
  generalize sd B r d = a at *
  generalize sd B t ((d + 2) % 4) = b at *
  rw [w32_id (x := a - 3) (by omega) (by omega), w32_id (x := a - 3 + 1) (by omega) (by omega), w32_id (x := b - 3) (by omega) (by omega), w32_id (x := b - 3 + 1) (by omega) (by omega), show a - 3 + 1 = a - 2 by omega, show b - 3 + 1 = b - 2 by omega]
  by_cases ha : a < 3 <;> by_cases hb : b < 3 <;> simp [ha, hb]
def dtd (B : iv_M) (a b : Int) : Int := if td B a 0 = b ∨ td B a 1 = b ∨ td B a 2 = b ∨ td B a 3 = b then 1 else 0
theorem FX1_doorToDoor_ok {N q : Nat} {s B : iv_M} {a b : Int} (hN : 100 ≤ N) (hF : FRc s q B) (hW : Wf B) (r0 : 0 ≤ a) (r1 : a < B 114 2) : FX1_doorToDoor N s q a b = some (dtd B a b) := by
  have st : ∀ (n : Nat) (i : Int) (kx : Unit → Option Int), 0 ≤ i → i < 4 → FX1_doorToDoor_l2 N s q a b kx (n + 1) i = if td B a i = b then some 1 else FX1_doorToDoor_l2 N s q a b kx n (i + 1) := by
    intro n i kx i0 i1
    rw [FX1_doorToDoor_l2, if_neg (by omega), FX1_throughDoor_ok hF hW r0 r1 i0 i1, Option.bind_some, w32_id (by omega) (by omega)]
  unfold FX1_doorToDoor dtd
  obtain ⟨M, rfl⟩ : ∃ M, N = M + 5 := ⟨N - 5, by omega⟩
  have h4 : FX1_doorToDoor_l2 (M + 5) s q a b (fun (_ : Unit) => (some 0)) (M + 1) (0 + 1 + 1 + 1 + 1) = some 0 := by rw [FX1_doorToDoor_l2, if_pos (by omega)]
  rw [st _ _ _ (by omega) (by omega), st _ _ _ (by omega) (by omega), st _ _ _ (by omega) (by omega), st _ _ _ (by omega) (by omega), h4]
  by_cases h0 : td B a 0 = b <;> by_cases h1 : td B a 1 = b <;> by_cases h2 : td B a 2 = b <;> by_cases h3 : td B a 3 = b <;> simp [h0, h1, h2, h3]
def dmt (B : iv_M) (r : Int) : Int := su (fun d => if td B r d = -1 then 0 else 1) 4
theorem FX1_doorsThatMeet_ok {N q : Nat} {s B : iv_M} {r : Int} (hN : 100 ≤ N) (hF : FRc s q B) (hW : Wf B) (r0 : 0 ≤ r) (r1 : r < B 114 2) : FX1_doorsThatMeet N s q r = some (dmt B r) := by
  unfold FX1_doorsThatMeet
  obtain ⟨M, hM⟩ : ∃ M, N = M + 5 := ⟨N - 5, by omega⟩
  have st : ∀ (n : Nat) (x i : Int), 0 ≤ i → i < 4 → 0 ≤ x → x < 100 → FX1_doorsThatMeet_l4 N s q r (fun (x356_2 : Int) => (some x356_2)) (n + 1) x i = FX1_doorsThatMeet_l4 N s q r (fun (x356_2 : Int) => (some x356_2)) n (x + (if td B r i = -1 then 0 else 1)) (i + 1) := by
    intro n x i i0 i1 x0 x1
    rw [FX1_doorsThatMeet_l4, if_neg (by omega), FX1_throughDoor_ok hF hW r0 r1 i0 i1, Option.bind_some]
    unfold FX1_doorsThatMeet_b25
    split
    · rw [w32_id (by omega) (by omega), w32_id (by omega) (by omega)]
    · rw [w32_id (by omega) (by omega), w32_id (by omega) (by omega)]
  have := loop4 (L := fun n x i => FX1_doorsThatMeet_l4 N s q r (fun (x356_2 : Int) => (some x356_2)) n x i) (g := fun d => if td B r d = -1 then 0 else 1) st (fun i => by
    show 0 ≤ (if td B r i = -1 then (0 : Int) else 1) ∧ (if td B r i = -1 then (0 : Int) else 1) ≤ 1
    split <;> omega) (M + 1) 0 (by omega) (by omega)
  rw [show M + 1 + 4 = N by omega] at this
  rw [this, FX1_doorsThatMeet_l4, if_pos (by omega)]
  unfold dmt
  congr 1; omega
def sb (B : iv_M) (c d : Int) : Int := if kdn B c d = 3 then 0 else kdn B c d
theorem FX1_sideToBuild_ok {N q : Nat} {s B : iv_M} {c d : Int} (hF : FRc s q B) (hW : Wa B) (c0 : 0 ≤ c) (c1 : c < 16) (d0 : 0 ≤ d) (d1 : d < 4) : FX1_sideToBuild N s q c d = some (sb B c d) := by
  unfold FX1_sideToBuild FX1_sideToBuild_b32 FX1_sideToBuild_b46 sb kdn
  rw [w32_id (x := 4 * c) (by omega) (by omega), w32_id (x := 4 * c + d) (by omega) (by omega), rd_ok (by omega) (by omega), Option.bind_some, hF.2.2.2.2.2.1 _ _ c0 c1 d0 d1, bXo_2 d0 d1]
  by_cases e : nb B c d = -1
  · simp [e]
  · obtain ⟨t1, t2, _⟩ := nb_in hW e
    rw [if_neg e, if_neg e, w32_id (x := 4 * nb B c d) (by omega) (by omega), w32_id (by omega) (by omega), rd_ok (by omega) (by omega), Option.bind_some, hF.2.2.2.2.1 _ _ t1 t2 (by omega) (by omega)]
    split <;> rfl
def dw (B : iv_M) (c : Int) : Int := su (fun d => if kdn B c d = 1 then 1 else 0) 4
theorem dw_le (B : iv_M) (c : Int) : 0 ≤ dw B c ∧ dw B c ≤ 4 := by
  have := su_le (f := fun d => if kdn B c d = 1 then 1 else 0) (m := 1) 4 (fun i _ _ => by show 0 ≤ (if kdn B c i = 1 then (1 : Int) else 0) ∧ (if kdn B c i = 1 then (1 : Int) else 0) ≤ 1; split <;> omega)
  unfold dw; omega
theorem FX1_doorsTowards_ok {N q : Nat} {s B : iv_M} {c : Int} (hN : 100 ≤ N) (hF : FRc s q B) (hW : Wa B) (c0 : 0 ≤ c) (c1 : c < 16) : FX1_doorsTowards N s q c = some (dw B c) := by
  unfold FX1_doorsTowards
  obtain ⟨M, hM⟩ : ∃ M, N = M + 5 := ⟨N - 5, by omega⟩
  have st : ∀ (n : Nat) (x i : Int), 0 ≤ i → i < 4 → 0 ≤ x → x < 100 → FX1_doorsTowards_l4 N s q c (fun (x376_2 : Int) => (some x376_2)) (n + 1) x i = FX1_doorsTowards_l4 N s q c (fun (x376_2 : Int) => (some x376_2)) n (x + (if kdn B c i = 1 then 1 else 0)) (i + 1) := by
    intro n x i i0 i1 x0 x1
    rw [FX1_doorsTowards_l4, if_neg (by omega), FX1_sideToBuild_ok hF hW c0 c1 i0 i1, Option.bind_some]
    unfold FX1_doorsTowards_b25
    have hs : sb B c i = 1 ↔ kdn B c i = 1 := by unfold sb; split <;> omega
    by_cases e : kdn B c i = 1
    · rw [if_pos (hs.mpr e), if_pos e, w32_id (by omega) (by omega), w32_id (by omega) (by omega)]
    · rw [if_neg (fun z => e (hs.mp z)), if_neg e, w32_id (by omega) (by omega), w32_id (by omega) (by omega)]
  have := loop4 (L := fun n x i => FX1_doorsTowards_l4 N s q c (fun (x376_2 : Int) => (some x376_2)) n x i) (g := fun d => if kdn B c d = 1 then 1 else 0) st (fun i => by
    show 0 ≤ (if kdn B c i = 1 then (1 : Int) else 0) ∧ (if kdn B c i = 1 then (1 : Int) else 0) ≤ 1
    split <;> omega) (M + 1) 0 (by omega) (by omega)
  rw [show M + 1 + 4 = N by omega] at this
  rw [this, FX1_doorsTowards_l4, if_pos (by omega)]
  unfold dw
  congr 1; omega
-- the reference
theorem kdn_nb {B : iv_M} {c d : Int} (hW : Wa B) (hc : Wc B) (h : nb B c d ≠ -1) : (kdn B c d = 3 ↔ B 121 (nb B c d) = -1) ∧ (B 121 (nb B c d) ≠ -1 → kdn B c d = srt (sd B (B 121 (nb B c d)) ((d + 2) % 4))) := by
  obtain ⟨t1, t2, _⟩ := nb_in hW h
  have hk : kdn B c d = kd B (nb B c d) ((d + 2) % 4) := by unfold kdn; rw [if_neg h]
  rw [hk]
  refine ⟨(kd_3 hW hc t1 t2).1, fun z => ?_⟩
  unfold kd; rw [if_neg z]
theorem FX12_builtSide_ok {N : Nat} {s : iv_M} {c d : Int} (hW : Wa s) (hc : Wc s) (c0 : 0 ≤ c) (c1 : c < 16) (d0 : 0 ≤ d) (d1 : d < 4) : FX12_builtSide N s 113 c d = some (sb s c d) := by
  unfold FX12_builtSide FX12_builtSide_b22 FX12_builtSide_b45 sb
  simp only [Nat.reduceAdd]
  rw [FX12_by_ok hW c0 c1 d0 d1, Option.bind_some]
  by_cases e : nb s c d = -1
  · rw [if_pos e, if_pos trivial, if_pos (show kdn s c d = 3 by unfold kdn; rw [if_pos e])]
  · obtain ⟨t1, t2, _⟩ := nb_in hW e
    obtain ⟨k1, k2⟩ := kdn_nb hW hc e
    rw [if_neg e, rd_ok t1 t2, Option.bind_some]
    by_cases e2 : s 121 (nb s c d) = -1
    · rw [if_pos e2, if_pos (k1.mpr e2)]
    · obtain ⟨b1, b2, b3, b4, b5, b6, _⟩ := placed hW hc t1 t2 e2
      rw [if_neg e2, if_neg (fun z => e2 (k1.mp z)), op2d d0 d1, FX12_sortAt_ok b1 b3 b5 b6 (by omega) (by omega), Option.bind_some, k2 e2]
theorem FX12_builtMm_ok {N : Nat} {s : iv_M} {c : Int} (hN : 100 ≤ N) (hW : Wa s) (hc : Wc s) (c0 : 0 ≤ c) (c1 : c < 16) : ∃ s', FX12_builtMismatches N s 113 c = some (mm s - dw s c, s') ∧ Scr s s' := by
  have m0 := mm_bd s
  unfold FX12_builtMismatches
  rw [FX12_mismatches_ok hN hW hc, Option.bind_some]
  dsimp only
  have hE : Eb s (fsM s 64) := eb_fsM
  have S : Scr s (fsM s 64) := by
    refine ⟨fun a h1 h2 h3 => ?_, fun i h1 h2 h3 => ?_⟩
    · unfold fsM; split
      · rfl
      · rw [mu_rw h1, mu_rw h1]
    · unfold fsM; split
      · rfl
      · rw [mu_ne (by omega), mu_ne (by omega)]
  generalize fsM s 64 = t at *
  have W1 := eb_Wa hE hW
  have W2 := eb_Wc hE hc
  obtain ⟨M, hM⟩ : ∃ M, N = M + 5 := ⟨N - 5, by omega⟩
  have st : ∀ (n : Nat) (x i : Int), 0 ≤ i → i < 4 → -100 ≤ x → x ≤ 100 → FX12_builtMismatches_l7 N 113 c (fun (s_4358 : iv_M) (x4359_2 : Int) => (some (x4359_2, s_4358))) (n + 1) t x i = FX12_builtMismatches_l7 N 113 c (fun (s_4358 : iv_M) (x4359_2 : Int) => (some (x4359_2, s_4358))) n t (x - (if kdn s c i = 1 then 1 else 0)) (i + 1) := by
    intro n x i i0 i1 x0 x1
    rw [FX12_builtMismatches_l7, if_neg (by omega), FX12_by_ok W1 c0 c1 i0 i1, Option.bind_some, eb_nb hE]
    unfold FX12_builtMismatches_b62 FX12_builtMismatches_b63
    simp only [Nat.reduceAdd]
    have hk := eb_kdn hE
    by_cases e : nb s c i = -1
    · rw [if_pos e, if_neg (show ¬ kdn s c i = 1 by unfold kdn; rw [if_pos e]; omega), w32_id (by omega) (by omega), w32_id (by omega) (by omega)]
    · obtain ⟨t1, t2, _⟩ := nb_in hW e
      obtain ⟨k1, k2⟩ := kdn_nb hW hc e
      rw [if_neg e, rd_ok t1 t2, Option.bind_some, hE 121 (by omega) (by omega)]
      by_cases e2 : s 121 (nb s c i) = -1
      · rw [if_pos e2, if_neg (show ¬ kdn s c i = 1 by rw [k1.mpr e2]; omega), w32_id (by omega) (by omega), w32_id (by omega) (by omega)]
      · obtain ⟨b1, b2, b3, b4, b5, b6, _⟩ := placed hW hc t1 t2 e2
        rw [if_neg e2, Option.bind_some, op2d i0 i1, FX12_sortAt_ok b1 b3 (by rw [hE 117 (by omega) (by omega)]; exact b5) (by rw [hE 117 (by omega) (by omega)]; exact b6) (by omega) (by omega), Option.bind_some, eb_sd hE, ← k2 e2]
        split
        · rw [w32_id (by omega) (by omega), w32_id (by omega) (by omega)]
        · rw [w32_id (by omega) (by omega), w32_id (by omega) (by omega)]
  have bb : ∀ i : Int, 0 ≤ (if kdn s c i = 1 then (1 : Int) else 0) ∧ (if kdn s c i = 1 then (1 : Int) else 0) ≤ 1 := fun i => by split <;> omega
  have g0 := bb 0
  have g1 := bb 1
  have g2 := bb 2
  have hN' : N = M + 4 + 1 := by omega
  have e0 := st (M + 4) (mm s) 0 (by omega) (by omega) (by omega) (by omega)
  have e1 := st (M + 3) (mm s - (if kdn s c 0 = 1 then 1 else 0)) 1 (by omega) (by omega) (by omega) (by omega)
  have e2 := st (M + 2) (mm s - (if kdn s c 0 = 1 then 1 else 0) - (if kdn s c 1 = 1 then 1 else 0)) 2 (by omega) (by omega) (by omega) (by omega)
  have e3 := st (M + 1) (mm s - (if kdn s c 0 = 1 then 1 else 0) - (if kdn s c 1 = 1 then 1 else 0) - (if kdn s c 2 = 1 then 1 else 0)) 3 (by omega) (by omega) (by omega) (by omega)
  rw [← hN'] at e0
  refine ⟨t, ?_, S⟩
  refine (e0.trans (e1.trans (e2.trans e3))).trans ?_
  rw [FX12_builtMismatches_l7, if_pos (by omega)]
  congr 2
  unfold dw; rw [su4]; omega
theorem FX12_areDoorToDoor_ok {N : Nat} {s : iv_M} {a b : Int} (hN : 100 ≤ N) (hW : Wf s) (a0 : 0 ≤ a) (a1 : a < s 114 2) (b0 : 0 ≤ b) : FX12_areDoorToDoor N s 113 a b = some (dtd s a b) := by
  have hr2 := hW.1.2.2.2.2.2.1
  obtain ⟨g1, g2, g3, g4, g5, g6, g7⟩ := hW.room a0 a1
  have hn : s 121 (s 116 a) ≠ -1 := by omega
  have st : ∀ (n : Nat) (x i : Int) (kx : Int → Option Int), 0 ≤ i → i < 4 → (x = 0 ∨ x = 1) → FX12_areDoorToDoor_l5 N s 113 a b kx (n + 1) x i = FX12_areDoorToDoor_l5 N s 113 a b kx n (if x = 1 ∨ td s a i = b then 1 else 0) (i + 1) := by
    intro n x i kx i0 i1 hx
    have hd := FX12_isDoorToDoor_ok (N := N) hW.1 hW.2.1 g1 g2 i0 i1 hn
    rw [g3] at hd
    rw [FX12_areDoorToDoor_l5, if_neg (by omega), FX12_faced_ok hW.1 a0 (by omega) g1 g2 i0 i1, hd]
    unfold FX12_areDoorToDoor_b36 FX12_areDoorToDoor_b40 FX12_areDoorToDoor_b41
    rw [w32_id (by omega) (by omega)]
    rcases hx with rfl | rfl
    · rw [if_pos rfl, Option.bind_some, Option.bind_some]
      have hf : td s a i = b ↔ fc s a i = b ∧ (kd s (s 116 a) i = 1 ∧ kdn s (s 116 a) i = 1) := by
        unfold td fc
        by_cases e : kd s (s 116 a) i = 1 ∧ kdn s (s 116 a) i = 1
        · obtain ⟨n1, n2⟩ := kdn_ne (B := s) (c := s 116 a) (d := i) (by omega)
          rw [if_pos e, if_neg n1]; exact ⟨fun z => ⟨z, e⟩, fun z => z.1⟩
        · rw [if_neg e]; exact ⟨fun z => by omega, fun z => absurd z.2 e⟩
      by_cases e : fc s a i = b
      · rw [if_pos e]
        by_cases e2 : kd s (s 116 a) i = 1 ∧ kdn s (s 116 a) i = 1
        · rw [if_pos e2, if_neg (by omega), if_pos (Or.inr (hf.mpr ⟨e, e2⟩))]
        · rw [if_neg e2, if_pos rfl, if_neg (fun z => by rcases z with z | z; omega; exact e2 (hf.mp z).2)]
      · rw [if_neg e, if_neg (fun z => by rcases z with z | z; omega; exact e (hf.mp z).1)]
    · rw [if_neg (by omega), if_pos (Or.inl rfl)]
  unfold FX12_areDoorToDoor
  obtain ⟨M, hM⟩ : ∃ M, N = M + 5 := ⟨N - 5, by omega⟩
  have key : ∀ kx : Int → Option Int, FX12_areDoorToDoor_l5 N s 113 a b kx N 0 0 = kx (dtd s a b) := by
    intro kx
    have e0 := st (M + 4) 0 0 kx (by omega) (by omega) (Or.inl rfl)
    have e1 := st (M + 3) (if (0 : Int) = 1 ∨ td s a 0 = b then 1 else 0) (0 + 1) kx (by omega) (by omega) (by split <;> omega)
    have e2 := st (M + 2) (if (if (0 : Int) = 1 ∨ td s a 0 = b then (1 : Int) else 0) = 1 ∨ td s a (0 + 1) = b then 1 else 0) (0 + 1 + 1) kx (by omega) (by omega) (by split <;> omega)
    have e3 := st (M + 1) (if (if (if (0 : Int) = 1 ∨ td s a 0 = b then (1 : Int) else 0) = 1 ∨ td s a (0 + 1) = b then (1 : Int) else 0) = 1 ∨ td s a (0 + 1 + 1) = b then 1 else 0) (0 + 1 + 1 + 1) kx (by omega) (by omega) (by split <;> omega)
    rw [← hM] at e0
    have e0' : FX12_areDoorToDoor_l5 N s 113 a b kx N 0 0 = _ := e0.trans (e1.trans (e2.trans e3))
    rw [e0', FX12_areDoorToDoor_l5, if_pos (by omega)]
    congr 1
    unfold dtd
    by_cases h0 : td s a 0 = b <;> by_cases h1 : td s a 1 = b <;> by_cases h2 : td s a 2 = b <;> by_cases h3 : td s a 3 = b <;> simp [h0, h1, h2, h3]
  rw [key]
  unfold dtd
  split <;> rfl
