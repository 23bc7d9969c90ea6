-- HEARSAY, GUARDS: sets of rooms as numbers
theorem loop_fn {σ ρ : Type} {L : Nat → σ → Int → Option ρ} {k : σ → Option ρ} {hi : Int} {N : Nat} (g : Nat → σ) (h0 : 0 ≤ hi) (h1 : ∀ n, L (n + 1) (g hi.toNat) hi = k (g hi.toNat)) (h2 : ∀ (n i : Nat), (i : Int) < hi → L (n + 1) (g i) i = L n (g (i + 1)) ((i : Int) + 1)) (hN : hi < N) : L N (g 0) 0 = k (g hi.toNat) := by
  obtain ⟨y, y1, y2⟩ := loop_up (L := L) (k := k) (hi := hi) (fun i x => 0 ≤ i ∧ x = g i.toNat) (fun n x hx => by rw [hx.2]; exact h1 n) (fun n i x hx hi => by
      have := h2 n i.toNat (by omega)
      rw [Int.toNat_of_nonneg hx.1] at this
      refine ⟨g (i.toNat + 1), ?_, by omega, ?_⟩
      · rw [hx.2]; exact this
      · rw [show (i + 1).toNat = i.toNat + 1 by omega]) N 0 (g 0) ⟨by omega, rfl⟩ h0 (by omega)
  rw [y2, y1.2]
theorem bOr_assoc (x y z : Int) : bOr (bOr x y) z = bOr x (bOr y z) := by unfold bOr; rw [Int64.ofInt_toInt, Int64.ofInt_toInt, Int64.or_assoc]
theorem bOr_comm (x y : Int) : bOr x y = bOr y x := by unfold bOr; rw [Int64.or_comm]
theorem bOr_zero {x : Int} (h0 : 0 ≤ x) (h1 : x < 4611686018427387904) : bOr x 0 = x := by
  obtain ⟨m, rfl⟩ : ∃ m : Nat, x = m := ⟨x.toNat, by omega⟩
  have := bOr_nat (a := m) (b := 0) (by omega) (by omega)
  rw [Nat.or_zero] at this
  exact this
theorem bOr_rng {x y : Int} (k : Nat) (hk : k ≤ 62) (x0 : 0 ≤ x) (x1 : x < 2 ^ k) (y0 : 0 ≤ y) (y1 : y < 2 ^ k) : 0 ≤ bOr x y ∧ bOr x y < 2 ^ k := by
  obtain ⟨m, rfl⟩ : ∃ m : Nat, x = m := ⟨x.toNat, by omega⟩
  obtain ⟨n, rfl⟩ : ∃ m : Nat, y = m := ⟨y.toNat, by omega⟩
  have hp : (2 : Nat) ^ k ≤ 2 ^ 62 := Nat.pow_le_pow_right (by decide) hk
  have e : ((2 ^ k : Nat) : Int) = (2 : Int) ^ k := by simp
  have hm : m < 2 ^ k := by omega
  have hn : n < 2 ^ k := by omega
  have := Nat.or_lt_two_pow hm hn
  rw [bOr_nat (by omega) (by omega)]
  omega
theorem bOr_12 {x y : Int} (x0 : 0 ≤ x) (x1 : x < 4096) (y0 : 0 ≤ y) (y1 : y < 4096) : 0 ≤ bOr x y ∧ bOr x y < 4096 := bOr_rng 12 (by omega) x0 x1 y0 y1
theorem sl32_12 {i : Int} (i0 : 0 ≤ i) (i1 : i < 12) : 0 ≤ sl32 1 i ∧ sl32 1 i < 4096 := by
  rw [sl32_1 i0 (by omega)]
  have : (2 : Nat) ^ i.toNat < 2 ^ 12 := Nat.pow_lt_pow_right (by omega) (by omega)
  generalize (2 : Nat) ^ i.toNat = k at this ⊢
  omega
theorem bit_ok {x i : Int} (i0 : 0 ≤ i) (i1 : i < 32) : bAn (sr32 x i) 1 = x / 2 ^ i.toNat % 2 := by
  have hs : sr32 x i = x / 2 ^ i.toNat := by unfold sr32; rw [show (i % 32).toNat = i.toNat by omega]
  rw [bAn_1, hs]
theorem td_dd {N : Nat} {s : iv_M} {r d : Int} (hW : Wf s) (r0 : 0 ≤ r) (r1 : r < s 114 2) (d0 : 0 ≤ d) (d1 : d < 4) : FX12_isDoorToDoor N s 113 r d = some (if td s r d = -1 then 0 else 1) ∧ (td s r d ≠ -1 → FX12_faced N s 113 r d = some (td s r d)) := by
  have hr2 := hW.1.2.2.2.2.2.1
  obtain ⟨g1, g2, g3, g4, g5, g6, g7⟩ := hW.room r0 r1
  have hn : s 121 (s 116 r) ≠ -1 := by omega
  have hd := FX12_isDoorToDoor_ok (N := N) hW.1 hW.2.1 g1 g2 d0 d1 hn
  rw [g3] at hd
  have ht := td_iff (r := r) (d := d) hW
  refine ⟨?_, fun h => ?_⟩
  · rw [hd]
    by_cases e : td s r d = -1
    · rw [if_pos e, if_neg (fun z => (ht.mpr z) e)]
    · rw [if_neg e, if_pos (ht.mp e)]
  · rw [FX12_faced_ok hW.1 r0 (by omega) g1 g2 d0 d1]
    obtain ⟨t1, t2, t3, t4, t5, t6⟩ := td_room hW h
    congr 1
    unfold fc; rw [if_neg t3, t4]
def gb (B : iv_M) (w r d : Int) : Int := if td B r d ≠ -1 ∧ (w = 0 → sd B r d = 1 ∧ sd B (td B r d) ((d + 2) % 4) = 1) then sl32 1 (td B r d) else 0
def bsd (B : iv_M) (w r : Int) : Nat → Int → Int
  | 0, a => a
  | n + 1, a => bOr (bsd B w r n a) (gb B w r n)
theorem gb_rng {B : iv_M} {w r d : Int} (hW : Wf B) : 0 ≤ gb B w r d ∧ gb B w r d < 4096 := by
  have hr2 := hW.1.2.2.2.2.2.1
  unfold gb
  split
  · next h =>
    obtain ⟨t1, t2, t3, t4, t5, t6⟩ := td_room hW h.1
    exact sl32_12 t5 (by omega)
  · omega
theorem bsd_rng {B : iv_M} {w r a : Int} (hW : Wf B) (a0 : 0 ≤ a) (a1 : a < 4096) : ∀ n, 0 ≤ bsd B w r n a ∧ bsd B w r n a < 4096 := by
  intro n
  induction n with
  | zero => exact ⟨a0, a1⟩
  | succ n ih => have := gb_rng (w := w) (r := r) (d := n) hW; exact bOr_12 ih.1 ih.2 this.1 this.2
theorem bsd_or {B : iv_M} {w r a : Int} (hW : Wf B) (a0 : 0 ≤ a) (a1 : a < 4096) : ∀ n, bOr a (bsd B w r n 0) = bsd B w r n a := by
  intro n
  induction n with
  | zero => exact bOr_zero a0 (by omega)
  | succ n ih =>
    show bOr a (bOr (bsd B w r n 0) (gb B w r n)) = bOr (bsd B w r n a) (gb B w r n)
    rw [← bOr_assoc, ih]
theorem lk_dd {B : iv_M} {r d : Int} (hW : Wf B) (r0 : 0 ≤ r) (r1 : r < B 114 2) (d0 : 0 ≤ d) (d1 : d < 4) (h : td B r d ≠ -1) : lkb (sd B r d) (sd B (td B r d) ((d + 2) % 4)) = 0 ↔ sd B r d = 1 ∧ sd B (td B r d) ((d + 2) % 4) = 1 := by
  obtain ⟨t1, t2, t3, t4, t5, t6⟩ := td_room hW h
  obtain ⟨g1, g2, g3, g4, g5, g6, g7⟩ := hW.room r0 r1
  have e1 : srt (sd B r d) = 1 := by
    unfold kd at t1; rw [g3, if_neg (by omega)] at t1; exact t1
  have e2 : srt (sd B (td B r d) ((d + 2) % 4)) = 1 := by
    have := (kdn_nb hW.1 hW.2.1 t3).2 (by omega)
    rw [← t4] at this; omega
  have h1 := sd_rng (d := d) hW.1 r0 r1
  have h2 := sd_rng (d := (d + 2) % 4) hW.1 t5 t6
  have q1 : ∀ i : Int, 0 ≤ i → i < 5 → sl32 1 i ≠ 0 := fun i i0 i1 => by
    rw [sl32_1 i0 (by omega)]; have := Nat.two_pow_pos i.toNat; omega
  generalize sd B r d = a at *
  generalize sd B (td B r d) ((d + 2) % 4) = b at *
  unfold srt at e1 e2
  have qq : ∀ i j : Int, 0 ≤ i → i < 5 → 0 ≤ j → j < 5 → bOr (sl32 1 i) (sl32 1 j) ≠ 0 := fun i j i0 i1 j0 j1 => by
    rw [sl32_1 i0 (by omega), sl32_1 j0 (by omega)]
    have p1 : (2 : Nat) ^ i.toNat ≤ 2 ^ 5 := Nat.pow_le_pow_right (by decide) (by omega)
    have p2 : (2 : Nat) ^ j.toNat ≤ 2 ^ 5 := Nat.pow_le_pow_right (by decide) (by omega)
    rw [bOr_nat (by omega) (by omega)]
    have := Nat.two_pow_pos i.toNat
    have l : 2 ^ i.toNat ≤ 2 ^ i.toNat ||| 2 ^ j.toNat := Nat.left_le_or
    omega
  unfold lkb
  by_cases ha : a < 3 <;> by_cases hb : b < 3
  · rw [if_pos hb, if_pos ha]
    constructor
    · intro _; split at e1 <;> split at e2 <;> omega
    · intro _; rfl
  · rw [if_neg hb, if_pos ha]
    constructor
    · intro z
      rw [bOr_comm, bOr_zero] at z
      · exact absurd z (q1 _ (by omega) (by omega))
      · exact (sl32_12 (i := b - 2) (by omega) (by omega)).1
      · exact Int.lt_trans (sl32_12 (i := b - 2) (by omega) (by omega)).2 (by decide)
    · intro z; omega
  · rw [if_pos hb, if_neg ha]
    exact ⟨fun z => absurd z (q1 _ (by omega) (by omega)), fun z => by omega⟩
  · rw [if_neg hb, if_neg ha]
    exact ⟨fun z => absurd z (qq _ _ (by omega) (by omega) (by omega) (by omega)), fun z => by omega⟩
theorem FX0_besides_ok {N q0 q : Nat} {s B : iv_M} {r w : Int} (hN : 100 ≤ N) (hF : FRc s q B) (hW : Wf B) (r0 : 0 ≤ r) (r1 : r < B 114 2) : FX0_besides N s q0 q r w = some (bsd B w r 4 0) := by
  unfold FX0_besides
  exact loop_fn (L := fun n x i => FX0_besides_l6 N s q r w (fun (x80_4 : Int) => (some x80_4)) n x i) (k := fun x => some x) (hi := 4) (fun n => bsd B w r n 0) (by omega) (fun n => by
    show FX0_besides_l6 N s q r w (fun (x80_4 : Int) => (some x80_4)) (n + 1) _ 4 = _
    rw [FX0_besides_l6, if_pos (by omega)]) (fun n i hi => by
    show FX0_besides_l6 N s q r w (fun (x80_4 : Int) => (some x80_4)) (n + 1) _ i = FX0_besides_l6 N s q r w (fun (x80_4 : Int) => (some x80_4)) n (bOr (bsd B w r i 0) (gb B w r i)) _
    have hb := bsd_rng (w := w) (r := r) (a := 0) hW (by omega) (by omega) i
    rw [FX0_besides_l6, if_neg (by omega), FX1_throughDoor_ok hF hW r0 r1 (by omega) hi, Option.bind_some]
    unfold FX0_besides_b52 FX0_besides_b43 FX0_besides_b52 gb
    rw [w32_id (by omega) (by omega)]
    by_cases e : td B r i = -1
    · rw [if_pos e, if_neg (fun z => z.1 e), bOr_zero hb.1 (by omega)]
    · rw [if_neg e]
      obtain ⟨t1, t2, t3, t4, t5, t6⟩ := td_room hW e
      by_cases ew : w = 0
      · rw [if_pos ew, FX1_locksBetween_ok hF hW r0 r1 t5 t6 (by omega) hi, Option.bind_some]
        have hl := lk_dd hW r0 r1 (by omega) hi e
        by_cases el : lkb (sd B r i) (sd B (td B r i) (((i : Int) + 2) % 4)) = 0
        · rw [if_pos el, if_pos ⟨e, fun _ => hl.mp el⟩]
        · rw [if_neg el, if_neg (fun z => el (hl.mpr (z.2 ew))), bOr_zero hb.1 (by omega)]
      · rw [if_neg ew, if_pos ⟨e, fun z => absurd z ew⟩]) (by omega)
def hst (B : iv_M) (S : Int) : Nat → Int
  | 0 => S
  | n + 1 => if S / 2 ^ n % 2 = 1 then bsd B 0 n 4 (hst B S n) else hst B S n
def hea (B : iv_M) (x : Int) : Nat → Int
  | 0 => sl32 1 x
  | n + 1 => hst B (hea B x n) (B 114 2).toNat
theorem hst_rng {B : iv_M} {S : Int} (hW : Wf B) (a0 : 0 ≤ S) (a1 : S < 4096) : ∀ n, 0 ≤ hst B S n ∧ hst B S n < 4096 := by
  intro n
  induction n with
  | zero => exact ⟨a0, a1⟩
  | succ n ih =>
    show 0 ≤ (if S / 2 ^ n % 2 = 1 then bsd B 0 n 4 (hst B S n) else hst B S n) ∧ (if S / 2 ^ n % 2 = 1 then bsd B 0 n 4 (hst B S n) else hst B S n) < 4096
    split
    · exact bsd_rng hW ih.1 ih.2 4
    · exact ih
theorem hea_rng {B : iv_M} {x : Int} (hW : Wf B) (x0 : 0 ≤ x) (x1 : x < B 114 2) : ∀ n, 0 ≤ hea B x n ∧ hea B x n < 4096 := by
  have hr2 := hW.1.2.2.2.2.2.1
  intro n
  induction n with
  | zero => exact sl32_12 x0 (by omega)
  | succ n ih => exact hst_rng hW ih.1 ih.2 _
theorem FX0_hearing_ok {N q0 q : Nat} {s B : iv_M} {x m : Int} (hN : 100 ≤ N) (hF : FRc s (q + 1) B) (hW : Wf B) (x0 : 0 ≤ x) (x1 : x < B 114 2) (m0 : 0 ≤ m) (m1 : m ≤ 16) : FX0_hearing N s q0 q x m = some (hea B x m.toNat) := by
  have hr2 := hW.1.2.2.2.2.2.1
  have hr0 := hW.1.2.2.2.2.1
  have inner : ∀ (S v : Int) (kx : Int → Option Int), 0 ≤ S → S < 4096 → FX0_hearing_l21 N s q0 q m S v kx N S 0 = kx (hst B S (B 114 2).toNat) := by
    intro S v kx S0 S1
    exact loop_fn (L := fun n z i => FX0_hearing_l21 N s q0 q m S v kx n z i) (k := kx) (hi := B 114 2) (fun n => hst B S n) (by omega) (fun n => by
      show FX0_hearing_l21 N s q0 q m S v kx (n + 1) _ (B 114 2) = _
      rw [FX0_hearing_l21, hF.2.2.1, if_pos (by omega)]) (fun n i hi => by
      show FX0_hearing_l21 N s q0 q m S v kx (n + 1) _ i = FX0_hearing_l21 N s q0 q m S v kx n (if S / 2 ^ i % 2 = 1 then bsd B 0 i 4 (hst B S i) else hst B S i) _
      have hb := hst_rng hW S0 S1 i
      rw [FX0_hearing_l21, hF.2.2.1, if_neg (by omega), bit_ok (by omega) (by omega), Int.toNat_natCast]
      unfold FX0_hearing_b60
      rw [w32_id (by omega) (by omega)]
      by_cases e : S / 2 ^ i % 2 = 1
      · rw [if_pos e, if_pos e, FX0_besides_ok hN hF hW (by omega) hi, Option.bind_some, bsd_or hW hb.1 hb.2]
      · rw [if_neg e, if_neg e]) (by omega)
  unfold FX0_hearing
  exact loop_fn (L := fun n z i => FX0_hearing_l8 N s q0 q m (fun (x87_4 : Int) => (some x87_4)) n z i) (k := fun z => some z) (hi := m) (fun n => hea B x n) m0 (fun n => by
    show FX0_hearing_l8 N s q0 q m (fun (x87_4 : Int) => (some x87_4)) (n + 1) _ m = _
    rw [FX0_hearing_l8, if_pos (by omega)]) (fun n i hi => by
    show FX0_hearing_l8 N s q0 q m (fun (x87_4 : Int) => (some x87_4)) (n + 1) _ i = FX0_hearing_l8 N s q0 q m (fun (x87_4 : Int) => (some x87_4)) n (hst B (hea B x i) (B 114 2).toNat) _
    have hb := hea_rng hW x0 x1 i
    rw [FX0_hearing_l8, if_neg (by omega), inner _ _ _ hb.1 hb.2, w32_id (by omega) (by omega)]) (by omega)
theorem FX12_gossip_lp {N : Nat} {s : iv_M} {x m : Int} {kx : Int → Option Int} (hN : 100 ≤ N) (hW : Wf s) (x0 : 0 ≤ x) (x1 : x < s 114 2) (m0 : 0 ≤ m) (m1 : m ≤ 16) : FX12_gossip_l29 N s 113 m kx N (sl32 1 x) 0 = kx (hea s x m.toNat) := by
  have hr2 := hW.1.2.2.2.2.2.1
  have hr0 := hW.1.2.2.2.2.1
  have in2 : ∀ (S v r a : Int) (k2 : Int → Option Int), 0 ≤ r → r < s 114 2 → 0 ≤ a → a < 4096 → FX12_gossip_l55 N s 113 m S v r k2 N a 0 = k2 (if S / 2 ^ r.toNat % 2 = 1 then bsd s 0 r 4 a else a) := by
    intro S v r a k2 r0 r1 a0 a1
    by_cases e : S / 2 ^ r.toNat % 2 = 1
    · rw [if_pos e]
      exact loop_fn (L := fun n z i => FX12_gossip_l55 N s 113 m S v r k2 n z i) (k := k2) (hi := 4) (fun n => bsd s 0 r n a) (by omega) (fun n => by
        show FX12_gossip_l55 N s 113 m S v r k2 (n + 1) _ 4 = _
        rw [FX12_gossip_l55, if_pos (by omega)]) (fun n i hi => by
        show FX12_gossip_l55 N s 113 m S v r k2 (n + 1) _ i = FX12_gossip_l55 N s 113 m S v r k2 n (bOr (bsd s 0 r i a) (gb s 0 r i)) _
        have hb := bsd_rng (w := 0) (r := r) hW a0 a1 i
        obtain ⟨g1, g2, g3, g4, g5, g6, g7⟩ := hW.room r0 r1
        have hd := td_dd (N := N) (r := r) (d := i) hW r0 r1 (by omega) hi
        rw [FX12_gossip_l55, if_neg (by omega), bit_ok (by omega) (by omega), if_pos e, hd.1, Option.bind_some]
        unfold FX12_gossip_b120 FX12_gossip_b121 FX12_gossip_b144 gb
        rw [if_pos (show (0 : Int) = 0 from rfl), if_neg (show ¬ (1 : Int) = 0 by omega), w32_id (by omega) (by omega), w32_id (by omega) (by omega), bAn_3, bOr_zero hb.1 (by omega)]
        by_cases et : td s r i = -1
        · rw [if_pos et, if_pos rfl, if_neg (fun z => z.1 et), bOr_zero hb.1 (by omega)]
        · obtain ⟨t1, t2, t3, t4, t5, t6⟩ := td_room hW et
          obtain ⟨k1, k2, k3, k4, k5, k6, k7⟩ := hW.room t5 t6
          rw [if_neg et, if_neg (show ¬ (1 : Int) = 0 by omega), (FX12_sideOf_ok r0 (by omega) g4 g5 (by omega) hi).2, Option.bind_some, hd.2 et, Option.bind_some, Option.bind_some, (FX12_sideOf_ok t5 (by omega) k4 k5 (by omega) (by omega)).2, Option.bind_some]
          by_cases s1 : sd s r i = 1
          · rw [if_pos s1]
            by_cases s2 : sd s (td s r i) (((i : Int) + 2) % 4) = 1
            · rw [if_pos s2, if_pos ⟨et, fun _ => ⟨s1, s2⟩⟩]
            · rw [if_neg s2, if_neg (fun z => s2 (z.2 rfl).2), bOr_zero hb.1 (by omega)]
          · rw [if_neg s1, if_neg (fun z => s1 (z.2 rfl).1), bOr_zero hb.1 (by omega)]) (by omega)
    · rw [if_neg e]
      obtain ⟨M, rfl⟩ : ∃ M, N = M + 1 := ⟨N - 1, by omega⟩
      rw [FX12_gossip_l55, if_neg (by omega), bit_ok (by omega) (by omega), if_neg e]
  have inner : ∀ (S v : Int) (k2 : Int → Option Int), 0 ≤ S → S < 4096 → FX12_gossip_l41 N s 113 m S v k2 N S 0 = k2 (hst s S (s 114 2).toNat) := by
    intro S v k2 S0 S1
    exact loop_fn (L := fun n z i => FX12_gossip_l41 N s 113 m S v k2 n z i) (k := k2) (hi := s 114 2) (fun n => hst s S n) (by omega) (fun n => by
      show FX12_gossip_l41 N s 113 m S v k2 (n + 1) _ (s 114 2) = _
      rw [FX12_gossip_l41]; simp only [Nat.reduceAdd]
      rw [rd_ok (by omega) (by omega), Option.bind_some, if_pos (by omega)]) (fun n i hi => by
      show FX12_gossip_l41 N s 113 m S v k2 (n + 1) _ i = FX12_gossip_l41 N s 113 m S v k2 n (if S / 2 ^ i % 2 = 1 then bsd s 0 i 4 (hst s S i) else hst s S i) _
      have hb := hst_rng hW S0 S1 i
      rw [FX12_gossip_l41]; simp only [Nat.reduceAdd]
      rw [rd_ok (by omega) (by omega), Option.bind_some, if_neg (by omega), in2 _ _ _ _ _ (by omega) hi hb.1 hb.2]
      unfold FX12_gossip_b153
      rw [w32_id (by omega) (by omega), Int.toNat_natCast]) (by omega)
  exact loop_fn (L := fun n z i => FX12_gossip_l29 N s 113 m kx n z i) (k := kx) (hi := m) (fun n => hea s x n) m0 (fun n => by
    show FX12_gossip_l29 N s 113 m kx (n + 1) _ m = _
    rw [FX12_gossip_l29, if_pos (by omega)]) (fun n i hi => by
    show FX12_gossip_l29 N s 113 m kx (n + 1) _ i = FX12_gossip_l29 N s 113 m kx n (hst s (hea s x i) (s 114 2).toNat) _
    have hb := hea_rng hW x0 x1 i
    rw [FX12_gossip_l29, if_neg (by omega), inner _ _ _ hb.1 hb.2, w32_id (by omega) (by omega)]) (by omega)
theorem ct_gossip {t : Int} {N : Nat} {s : iv_M} {x y : Int} (hN : 1000 ≤ N) (h : Inv t s) : ∃ a, FX11_gossip N s 0 x y = some a ∧ FX12_gossip N s 113 x y = some a := by
  obtain ⟨h1, ⟨hr1, ⟨hF, hP⟩, hK, hH4, _⟩, ⟨hW, _⟩, _⟩ := h
  have hq : (s 0 4).toNat = now s := rfl
  unfold FX11_gossip FX12_gossip FX11_gossip_b21 FX12_gossip_b20
  rw [hq, FX2_isRoom_ok hF, FX12_isRoom_ok hW.1, Option.bind_some, Option.bind_some, FX12_in_ok, Option.bind_some]
  by_cases hx : 0 ≤ x ∧ x < s 114 2
  · rw [if_pos hx, if_neg (show ¬ (1 : Int) = 0 by omega), if_neg (show ¬ (1 : Int) = 0 by omega)]
    by_cases hy : 0 ≤ y ∧ y ≤ 16
    · have hb := hea_rng hW hx.1 hx.2 y.toNat
      rw [if_neg (show ¬ y < 0 by omega), if_pos hy.2, if_pos hy, if_neg (show ¬ (1 : Int) = 0 by omega), FX0_hearing_ok (by omega) hF hW hx.1 hx.2 hy.1 hy.2, Option.bind_some, bitCount_ok hb.1 hb.2, FX12_gossip_lp (by omega) hW hx.1 hx.2 hy.1 hy.2, bits_ok (by omega)]
      exact ⟨_, rfl, rfl⟩
    · refine ⟨-1, ?_, by rw [if_neg hy, if_pos rfl]⟩
      by_cases z : y < 0
      · rw [if_pos z]
      · rw [if_neg z, if_neg (show ¬ y ≤ 16 by omega)]
  · rw [if_neg hx, if_pos rfl, if_pos rfl]; exact ⟨_, rfl, rfl⟩
