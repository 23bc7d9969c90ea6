-- GUARDS
theorem bAn_or (a b c : Int) : bAn (bOr a b) c = 0 ↔ bAn a c = 0 ∧ bAn b c = 0 := by
  have z : ∀ x : Int64, x.toInt = 0 ↔ x.toBitVec = 0#64 := fun x => by
    constructor
    · intro h
      have : x = 0 := Int64.toInt_inj.mp (by rw [h]; rfl)
      rw [this]; rfl
    · intro h
      have : x = 0 := Int64.toBitVec_inj.mp (by rw [h]; rfl)
      rw [this]; rfl
  unfold bAn bOr
  rw [z, z, z, Int64.ofInt_toInt, Int64.toBitVec_and, Int64.toBitVec_and, Int64.toBitVec_and, Int64.toBitVec_or]
  generalize (Int64.ofInt a).toBitVec = x
  generalize (Int64.ofInt b).toBitVec = y
  generalize (Int64.ofInt c).toBitVec = w
  constructor
  · intro h
    constructor
    · apply BitVec.eq_of_getLsbD_eq
      intro i hi
      have := congrArg (fun v => v.getLsbD i) h
      simp at this ⊢
      intro hx; exact this (Or.inl hx)
    · apply BitVec.eq_of_getLsbD_eq
      intro i hi
      have := congrArg (fun v => v.getLsbD i) h
      simp at this ⊢
      intro hx; exact this (Or.inr hx)
  · rintro ⟨h1, h2⟩
    apply BitVec.eq_of_getLsbD_eq
    intro i hi
    have a1 := congrArg (fun v => v.getLsbD i) h1
    have a2 := congrArg (fun v => v.getLsbD i) h2
    simp at a1 a2 ⊢
    intro hx
    rcases hx with hx | hx
    · exact a1 hx
    · exact a2 hx
theorem bit_not {S t : Int} (S0 : 0 ≤ S) (S1 : S < 4096) (t0 : 0 ≤ t) (t1 : t < 12) : bAn (sl32 1 t) (bXo S (-1)) = 0 ↔ S / 2 ^ t.toNat % 2 = 1 := by
  have z : ∀ x : Int64, x.toInt = 0 ↔ x.toBitVec = 0#64 := fun x => by
    constructor
    · intro h
      have : x = 0 := Int64.toInt_inj.mp (by rw [h]; rfl)
      rw [this]; rfl
    · intro h
      have : x = 0 := Int64.toBitVec_inj.mp (by rw [h]; rfl)
      rw [this]; rfl
  obtain ⟨m, rfl⟩ : ∃ m : Nat, S = m := ⟨S.toNat, by omega⟩
  obtain ⟨n, rfl⟩ : ∃ m : Nat, t = m := ⟨t.toNat, by omega⟩
  rw [sl32_1 t0 (by omega), Int.toNat_natCast]
  unfold bAn bXo
  rw [z, Int64.ofInt_toInt, Int64.toBitVec_and, Int64.toBitVec_xor]
  have e1 : (Int64.ofInt ((2 ^ n : Nat) : Int)).toBitVec = BitVec.twoPow 64 n := by
    apply BitVec.eq_of_toNat_eq
    rw [i64_mod, BitVec.toNat_twoPow]
    have : (2 : Nat) ^ n < 2 ^ 12 := Nat.pow_lt_pow_right (by omega) (by omega)
    generalize (2 : Nat) ^ n = k at this ⊢
    omega
  have e2 : (Int64.ofInt (-1)).toBitVec = BitVec.allOnes 64 := rfl
  have e3 : (Int64.ofInt (m : Int)).toBitVec = BitVec.ofNat 64 m := by
    apply BitVec.eq_of_toNat_eq
    rw [i64_mod, BitVec.toNat_ofNat]
    omega
  rw [e1, e2, e3, BitVec.and_comm, BitVec.and_twoPow]
  have e4 : (BitVec.ofNat 64 m ^^^ BitVec.allOnes 64).getLsbD n = !(m.testBit n) := by
    rw [BitVec.getLsbD_xor, BitVec.getLsbD_ofNat, BitVec.getLsbD_allOnes]
    have : n < 64 := by omega
    simp [this]
  rw [e4]
  have e5 : m.testBit n = decide (m / 2 ^ n % 2 = 1) := Nat.testBit_eq_decide_div_mod_eq
  rw [e5]
  have e6 : ((m : Int) / 2 ^ n % 2 = 1) ↔ m / 2 ^ n % 2 = 1 := by
    have : ((m / 2 ^ n % 2 : Nat) : Int) = (m : Int) / 2 ^ n % 2 := by push_cast; rfl
    rw [← this]; omega
  rw [e6]
  by_cases h : m / 2 ^ n % 2 = 1
  · simp [h]
  · simp [h]
    intro h2
    have := congrArg BitVec.toNat h2
    rw [BitVec.toNat_twoPow] at this
    have h3 : (2 : Nat) ^ n < 2 ^ 12 := Nat.pow_lt_pow_right (by omega) (by omega)
    have h4 := Nat.two_pow_pos n
    simp at this
    omega
def alln (p : Nat → Bool) : Nat → Bool
  | 0 => true
  | n + 1 => alln p n && p n
theorem alln_iff {p : Nat → Bool} : ∀ n, alln p n = true ↔ ∀ i, i < n → p i = true := by
  intro n
  induction n with
  | zero => exact ⟨fun _ i h => by omega, fun _ => rfl⟩
  | succ n ih =>
    show (alln p n && p n) = true ↔ _
    rw [Bool.and_eq_true, ih]
    constructor
    · rintro ⟨a, b⟩ i hi
      by_cases e : i = n
      · rw [e]; exact b
      · exact a i (by omega)
    · intro h; exact ⟨fun i hi => h i (by omega), h n (by omega)⟩
theorem loop_all {ρ : Type} {L : Nat → Int → Option ρ} {hi : Int} {N : Nat} (p : Nat → Bool) {Y Z : Option ρ} (h0 : 0 ≤ hi) (h1 : ∀ n, L (n + 1) hi = Y) (h2 : ∀ (n i : Nat), (i : Int) < hi → p i = true → L (n + 1) i = L n ((i : Int) + 1)) (h3 : ∀ (n i : Nat), (i : Int) < hi → p i = false → L (n + 2) i = Z) (hN : hi + 1 < N) : L N 0 = if alln p hi.toNat = true then Y else Z := by
  have key : ∀ (n i : Nat), (i : Int) ≤ hi → hi - i + 1 < n → alln p i = true → L n i = if alln p hi.toNat = true then Y else Z := by
    intro n
    induction n with
    | zero => intro i a b c; omega
    | succ n ih =>
      intro i a b c
      by_cases e : (i : Int) = hi
      · have e2 : hi.toNat = i := by omega
        rw [e2, if_pos c, e]; exact h1 n
      · cases hp : p i with
        | true =>
          rw [h2 n i (by omega) hp]
          have := ih (i + 1) (by omega) (by omega) (by show (alln p i && p i) = true; rw [c, hp]; rfl)
          rw [← this]; congr 1
        | false =>
          obtain ⟨m, rfl⟩ : ∃ m, n = m + 1 := ⟨n - 1, by omega⟩
          rw [h3 m i (by omega) hp, if_neg]
          intro z
          have := (alln_iff _).mp z i (by omega)
          rw [hp] at this; cases this
  exact key N 0 h0 (by omega) rfl
def gr1 (B : iv_M) (S r : Int) (d : Nat) : Bool := decide (td B r d = -1 ∨ S / 2 ^ (td B r d).toNat % 2 = 1)
def grr (B : iv_M) (S : Int) (r : Nat) : Bool := decide (S / 2 ^ r % 2 = 1) || alln (gr1 B S r) 4
def gal (B : iv_M) (S : Int) : Bool := alln (grr B S) (B 114 2).toNat
theorem bsd_sub {B : iv_M} {S r : Int} (hW : Wf B) (S0 : 0 ≤ S) (S1 : S < 4096) : ∀ n, bAn (bsd B 1 r n 0) (bXo S (-1)) = 0 ↔ alln (gr1 B S r) n = true := by
  have hr2 := hW.1.2.2.2.2.2.1
  have hz : bAn 0 (bXo S (-1)) = 0 := by unfold bAn; rw [show Int64.ofInt 0 = 0 from rfl, Int64.zero_and]; rfl
  intro n
  induction n with
  | zero => exact ⟨fun _ => rfl, fun _ => hz⟩
  | succ n ih =>
    show bAn (bOr (bsd B 1 r n 0) (gb B 1 r n)) (bXo S (-1)) = 0 ↔ (alln (gr1 B S r) n && gr1 B S r n) = true
    rw [bAn_or, ih, Bool.and_eq_true]
    unfold gb gr1
    by_cases e : td B r n = -1
    · rw [if_neg (fun z => z.1 e)]; simp [e, hz]
    · obtain ⟨t1, t2, t3, t4, t5, t6⟩ := td_room hW e
      rw [if_pos ⟨e, fun z => by omega⟩, bit_not S0 S1 t5 (by omega)]
      simp [e]
theorem FX0_isGuarded_ok {N : Nat} {s B : iv_M} {S : Int} (hN : 100 ≤ N) (hW : Wf B) (S0 : 0 ≤ S) (S1 : S < 4096) (hr : ∀ r, 0 ≤ r → r < B 114 2 → s 101 r = bsd B 1 r 4 0) : FX0_isGuarded N s 98 (B 114 2) S = some (if gal B S = true then 1 else 0) := by
  have hr2 := hW.1.2.2.2.2.2.1
  have hr0 := hW.1.2.2.2.2.1
  unfold FX0_isGuarded gal
  have st : ∀ (n i : Nat), (i : Int) < B 114 2 → FX0_isGuarded_l2 N s 98 (B 114 2) S (fun (_ : Unit) => (some 1)) (n + 1) i = if grr B S i = true then FX0_isGuarded_l2 N s 98 (B 114 2) S (fun (_ : Unit) => (some 1)) n ((i : Int) + 1) else some 0 := by
    intro n i hi
    rw [FX0_isGuarded_l2, if_neg (by omega), bit_ok (by omega) (by omega), Int.toNat_natCast]
    unfold FX0_isGuarded_b30 grr
    simp only [Nat.reduceAdd]
    rw [w32_id (by omega) (by omega), rd_ok (by omega) (by omega), Option.bind_some, hr i (by omega) hi]
    have hs := bsd_sub (r := i) hW S0 S1 4
    by_cases e : S / 2 ^ i % 2 = 1
    · rw [if_neg (by omega), if_pos (by simp [e])]
    · rw [if_pos (by omega)]
      by_cases e2 : alln (gr1 B S i) 4 = true
      · rw [if_pos (hs.mpr e2), if_pos (by rw [e2]; simp)]
      · rw [if_neg (fun z => e2 (hs.mp z)), if_neg (by simp [e]; simpa using e2)]
  have := loop_all (L := fun n i => FX0_isGuarded_l2 N s 98 (B 114 2) S (fun (_ : Unit) => (some 1)) n i) (hi := B 114 2) (N := N) (grr B S) (Y := some 1) (Z := some 0) hr0 (fun n => by
    show FX0_isGuarded_l2 N s 98 (B 114 2) S (fun (_ : Unit) => (some 1)) (n + 1) (B 114 2) = _
    rw [FX0_isGuarded_l2, if_pos (by omega)]) (fun n i hi hp => by rw [st n i hi, if_pos hp]) (fun n i hi hp => by rw [st _ i hi, if_neg (by rw [hp]; decide)]) (by omega)
  rw [this]; split <;> rfl
-- the smallest of the sets that guard and have fewest
def Bst (G : Int → Bool) (F X : Int) : Prop := (0 ≤ X ∧ X ≤ F) ∧ G X = true ∧ ∀ S, 0 ≤ S → S ≤ F → G S = true → pop X < pop S ∨ (pop X = pop S ∧ X ≤ S)
theorem Bst.uniq {G : Int → Bool} {F X Y : Int} (h1 : Bst G F X) (h2 : Bst G F Y) : X = Y := by
  have a := h1.2.2 Y h2.1.1 h2.1.2 h2.2.1
  have b := h2.2.2 X h1.1.1 h1.1.2 h1.2.1
  omega
def pkk (R : Nat) : Bool := (List.range (2 ^ R - 1)).all (fun j => decide (pop (j : Int) < pop ((2 ^ R - 1 : Nat) : Int)))
theorem pkk_all : (List.range 13).all pkk = true := by decide +kernel
theorem pop_full {R : Nat} (hR : R ≤ 12) {S : Int} (S0 : 0 ≤ S) (S1 : S < ((2 ^ R - 1 : Nat) : Int)) : pop S < pop ((2 ^ R - 1 : Nat) : Int) := by
  have h := (List.all_eq_true.mp pkk_all) R (List.mem_range.mpr (by omega))
  have h2 := (List.all_eq_true.mp h) S.toNat (List.mem_range.mpr (by omega))
  rw [decide_eq_true_eq, Int.toNat_of_nonneg S0] at h2
  exact h2
theorem gal_full {B : iv_M} : gal B ((2 ^ (B 114 2).toNat - 1 : Nat) : Int) = true := by
  unfold gal
  rw [alln_iff]
  intro i hi
  unfold grr
  have h1 : ((2 ^ (B 114 2).toNat - 1).testBit i) = true := by rw [Nat.testBit_two_pow_sub_one]; simpa using hi
  rw [Nat.testBit_eq_decide_div_mod_eq, decide_eq_true_eq] at h1
  have : (((2 ^ (B 114 2).toNat - 1) / 2 ^ i % 2 : Nat) : Int) = ((2 ^ (B 114 2).toNat - 1 : Nat) : Int) / 2 ^ i % 2 := by
    rw [Int.natCast_emod, Int.natCast_ediv]; simp
  rw [← this, h1]; simp
theorem full_ok {B : iv_M} (hW : Wf B) : w32 (sl32 1 (B 114 2) - 1) = ((2 ^ (B 114 2).toNat - 1 : Nat) : Int) ∧ sl32 1 (B 114 2) = ((2 ^ (B 114 2).toNat - 1 : Nat) : Int) + 1 ∧ ((2 ^ (B 114 2).toNat - 1 : Nat) : Int) < 4096 := by
  have hr2 := hW.1.2.2.2.2.2.1
  have hr0 := hW.1.2.2.2.2.1
  have h := sl32_1 (i := B 114 2) (by omega) (by omega)
  have hp : (2 : Nat) ^ (B 114 2).toNat ≤ 2 ^ 12 := Nat.pow_le_pow_right (by decide) (by omega)
  have hq := Nat.two_pow_pos (B 114 2).toNat
  rw [h]
  generalize (2 : Nat) ^ (B 114 2).toNat = k at hp hq ⊢
  rw [w32_id (by omega) (by omega)]
  omega
theorem FX0_guard_fill {N q : Nat} {s B : iv_M} {kx : iv_M → Option (Int × iv_M)} (hN : 100 ≤ N) (hq : q + 6 < 101 ∨ 101 < q) (hF : FRc s q B) (hW : Wf B) : ∃ s', FX0_guarding_l2 N 98 q kx N s 0 = kx s' ∧ (∀ a, a ≠ 101 → s' a = s a) ∧ ∀ r, 0 ≤ r → r < B 114 2 → s' 101 r = bsd B 1 r 4 0 := by
  have hr2 := hW.1.2.2.2.2.2.1
  have hr0 := hW.1.2.2.2.2.1
  obtain ⟨y, y1, y2⟩ := loop_up (L := fun n z i => FX0_guarding_l2 N 98 q kx n z i) (k := kx) (hi := B 114 2) (fun i z => 0 ≤ i ∧ (∀ a, a ≠ 101 → z a = s a) ∧ ∀ r, 0 ≤ r → r < i → z 101 r = bsd B 1 r 4 0) (fun n z hz => by
      show FX0_guarding_l2 N 98 q kx (n + 1) z (B 114 2) = kx z
      rw [FX0_guarding_l2, hz.2.1 q (by omega), hF.2.2.1, if_pos (by omega)]) (fun n i z hz hi => by
      obtain ⟨i0, z1, z2⟩ := hz
      have hFz : FRc z q B := FRc_ext (fun a x y => z1 a (by omega)) hF
      refine ⟨mu z 101 i (bsd B 1 i 4 0), ?_, by omega, ?_, ?_⟩
      · show FX0_guarding_l2 N 98 q kx (n + 1) z i = FX0_guarding_l2 N 98 q kx n (mu z 101 i (bsd B 1 i 4 0)) (i + 1)
        rw [FX0_guarding_l2, hFz.2.2.1, if_neg (by omega), FX0_besides_ok hN hFz hW i0 hi, Option.bind_some]
        simp only [Nat.reduceAdd]
        rw [wr_ok i0 (by omega), Option.bind_some, w32_id (by omega) (by omega)]
      · intro a ha; rw [← z1 a ha]; funext j; exact mu_ne (by omega)
      · intro r r0 r1
        by_cases e : r = i
        · rw [e, mu_eq]
        · rw [mu_ne (by omega)]; exact z2 r r0 (by omega)) N 0 s ⟨by omega, fun _ _ => rfl, fun r r0 r1 => by omega⟩ (by omega) (by omega)
  exact ⟨y, y2, y1.2.1, y1.2.2⟩
theorem FX0_guarding_ok {N q : Nat} {s B : iv_M} (hN : 5000 ≤ N) (hq : q + 6 < 101 ∨ 101 < q) (hF : FRc s q B) (hW : Wf B) : ∃ X s', FX0_guarding N s 98 q = some (X, s') ∧ Bst (gal B) ((2 ^ (B 114 2).toNat - 1 : Nat) : Int) X ∧ ∀ a, a ≠ 101 → s' a = s a := by
  obtain ⟨f1, f2, f3⟩ := full_ok hW
  unfold FX0_guarding
  obtain ⟨s', e1, e2, e3⟩ := FX0_guard_fill (kx := (fun (s_99 : iv_M) => (FX0_guarding_l40 N 98 q (fun (s_102 : iv_M) (x103_2 : Int) => (some (x103_2, s_102))) N s_99 (w32 ((sl32 1 (s_99 q 2)) - 1)) (w32 ((sl32 1 (s_99 q 2)) - 1))))) (N := N) (by omega) hq hF hW
  have hFz : FRc s' q B := FRc_ext (fun a x y => e2 a (by omega)) hF
  have hgf := gal_full (B := B)
  rw [e1, hFz.2.2.1, f1]
  have hF0 : 0 ≤ ((2 ^ (B 114 2).toNat - 1 : Nat) : Int) := Int.natCast_nonneg _
  generalize ((2 ^ (B 114 2).toNat - 1 : Nat) : Int) = F at *
  obtain ⟨y, y1, y2⟩ := loop_up (L := fun n z j => FX0_guarding_l40 N 98 q (fun (s_102 : iv_M) (x103_2 : Int) => (some (x103_2, s_102))) n s' z (F - j)) (k := fun z => some (z, s')) (hi := F + 1) (fun j z => 0 ≤ j ∧ (0 ≤ z ∧ z ≤ F) ∧ gal B z = true ∧ ∀ S, F - j < S → S ≤ F → gal B S = true → pop z < pop S ∨ (pop z = pop S ∧ z ≤ S)) (fun n z hz => by
      show FX0_guarding_l40 N 98 q (fun (s_102 : iv_M) (x103_2 : Int) => (some (x103_2, s_102))) (n + 1) s' z (F - (F + 1)) = some (z, s')
      rw [FX0_guarding_l40, if_pos (by omega)]) (fun n j z hz hj => by
      obtain ⟨j0, z1, z2, z3⟩ := hz
      have hg := FX0_isGuarded_ok (N := N) (s := s') (B := B) (S := F - j) (by omega) hW (by omega) (by omega) e3
      have st : ∀ w, FX0_guarding_l40 N 98 q (fun (s_102 : iv_M) (x103_2 : Int) => (some (x103_2, s_102))) (n + 1) s' z (F - j) = (if pop z < pop (F - j) then FX0_guarding_l40 N 98 q (fun (s_102 : iv_M) (x103_2 : Int) => (some (x103_2, s_102))) n s' z (F - (j + 1)) else FX0_guarding_l40 N 98 q (fun (s_102 : iv_M) (x103_2 : Int) => (some (x103_2, s_102))) n s' (if gal B (F - j) = true then F - j else z) (F - (j + 1))) ∨ w = 0 := by
        intro w
        left
        rw [FX0_guarding_l40, if_neg (by omega), bitCount_ok (by omega) (by omega), bitCount_ok (by omega) (by omega), Option.bind_some, Option.bind_some, hFz.2.2.1, hg, Option.bind_some]
        unfold FX0_guarding_b69
        rw [w32_id (x := F - j + -1) (by omega) (by omega), show F - j + -1 = F - (j + 1) by omega]
        by_cases e : gal B (F - j) = true
        · rw [if_pos e, if_pos e, if_neg (show ¬ (1 : Int) = 0 by omega)]
        · rw [if_neg e, if_neg e, if_pos rfl]
      have st := (st 1).resolve_right (by omega)
      by_cases c : pop z < pop (F - j)
      · rw [if_pos c] at st
        refine ⟨z, st, by omega, z1, z2, fun S a b g => ?_⟩
        by_cases e : S = F - j
        · left; rw [e]; exact c
        · exact z3 S (by omega) b g
      · rw [if_neg c] at st
        by_cases e : gal B (F - j) = true
        · rw [if_pos e] at st
          refine ⟨F - j, st, by omega, by omega, e, fun S a b g => ?_⟩
          by_cases e2 : S = F - j
          · right; rw [e2]; omega
          · have := z3 S (by omega) b g; omega
        · rw [if_neg e] at st
          refine ⟨z, st, by omega, z1, z2, fun S a b g => ?_⟩
          by_cases e2 : S = F - j
          · rw [e2] at g; exact absurd g e
          · exact z3 S (by omega) b g) N 0 F ⟨by omega, by omega, hgf, fun S a b _ => by omega⟩ (by omega) (by omega)
  have y2 : FX0_guarding_l40 N 98 q (fun (s_102 : iv_M) (x103_2 : Int) => (some (x103_2, s_102))) N s' F (F - 0) = some (y, s') := y2
  rw [show F - 0 = F by omega] at y2
  exact ⟨y, s', y2, ⟨y1.2.1, y1.2.2.1, fun S a b g => y1.2.2.2 S (by omega) b g⟩, e2⟩
