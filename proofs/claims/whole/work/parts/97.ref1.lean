-- THE FEWEST NIGHTS: the reference's situations
def rw1 (B : iv_M) (nd : Nd) : Int := rkd 16 (un4 nd.1) (B 114 2).toNat
def rw2 (B : iv_M) (nd : Nd) : Int := rkd 4 (un2 nd.2.1) (B 114 2).toNat
theorem whereNow_ok {N : Nat} {y P : iv_M} (hN : 100 ≤ N) (hE : Eb P y) (hW : Wf P) : FX12_whereNow N y 113 = some (rkd 16 (P 116) (P 114 2).toNat) := by
  have h12 := hW.1.2.2.2.2.2.1
  have h0 := hW.1.2.2.2.2.1
  have e4 := hE 114 (by omega) (by omega)
  have e6 := hE 116 (by omega) (by omega)
  have dg : ∀ i : Int, 0 ≤ i → i < ((P 114 2).toNat : Int) → 0 ≤ P 116 i ∧ P 116 i < 16 := fun i i0 i1 => by
    obtain ⟨g1, g2, _⟩ := hW.room i0 (by omega); exact ⟨g1, g2⟩
  have lp := loop_fn (L := FX12_whereNow_l4 N y 113 (fun (y3539_1 : Int) => (some y3539_1))) (k := fun (y3539_1 : Int) => (some y3539_1)) (hi := P 114 2) (N := N) (fun i => rkd 16 (P 116) i) h0 (fun n => by
      rw [FX12_whereNow_l4]
      simp only [Nat.reduceAdd]
      rw [rd_ok (by omega) (by omega), Option.bind_some, e4, if_pos (by omega)]) (fun n i hi => by
      have hr := rkd_rng (w := 4) (f := P 116) i (fun j j0 j1 => by have := dg j j0 (by omega); exact ⟨this.1, by simpa using this.2⟩)
      have hp := pow_le12 (w := 4) (n := i) (by omega) (by omega)
      have e16 : (2 : Int) ^ 4 = 16 := by decide
      rw [e16] at hr
      have hr' : 0 ≤ rkd 16 (P 116) i ∧ rkd 16 (P 116) i < 281474976710656 := ⟨hr.1, by omega⟩
      have hd := dg i (by omega) (by omega)
      rw [FX12_whereNow_l4]
      simp only [Nat.reduceAdd]
      rw [rd_ok (by omega) (by omega), Option.bind_some, e4, if_neg (by omega), rd_ok (by omega) (by omega), Option.bind_some, e6, w64_id (x := rkd 16 (P 116) i * 16) (by omega) (by omega), w64_id (by omega) (by omega), w32_id (by omega) (by omega)]
      rfl) (by omega)
  exact lp
theorem howNow_ok {N : Nat} {y P : iv_M} (hN : 100 ≤ N) (hE : Eb P y) (hW : Wf P) : FX12_howNow N y 113 = some (rkd 4 (P 117) (P 114 2).toNat) := by
  have h12 := hW.1.2.2.2.2.2.1
  have h0 := hW.1.2.2.2.2.1
  have e4 := hE 114 (by omega) (by omega)
  have e7 := hE 117 (by omega) (by omega)
  have dg : ∀ i : Int, 0 ≤ i → i < ((P 114 2).toNat : Int) → 0 ≤ P 117 i ∧ P 117 i < 4 := fun i i0 i1 => by
    obtain ⟨_, _, _, g4, g5, _⟩ := hW.room i0 (by omega); exact ⟨g4, g5⟩
  have lp := loop_fn (L := FX12_howNow_l4 N y 113 (fun (x3543_1 : Int) => (some x3543_1))) (k := fun (x3543_1 : Int) => (some x3543_1)) (hi := P 114 2) (N := N) (fun i => rkd 4 (P 117) i) h0 (fun n => by
      rw [FX12_howNow_l4]
      simp only [Nat.reduceAdd]
      rw [rd_ok (by omega) (by omega), Option.bind_some, e4, if_pos (by omega)]) (fun n i hi => by
      have hr := rkd_rng (w := 2) (f := P 117) i (fun j j0 j1 => by have := dg j j0 (by omega); exact ⟨this.1, by simpa using this.2⟩)
      have h24 : (2 : Nat) ^ (2 * i) ≤ 2 ^ 22 := Nat.pow_le_pow_right (by decide) (by omega)
      have h25 : ((2 ^ (2 * i) : Nat) : Int) ≤ ((2 ^ 22 : Nat) : Int) := by omega
      have h26 : ((2 ^ (2 * i) : Nat) : Int) = (2 : Int) ^ (2 * i) := by simp
      have e4' : (2 : Int) ^ 2 = 4 := by decide
      rw [e4'] at hr
      have hr' : 0 ≤ rkd 4 (P 117) i ∧ rkd 4 (P 117) i < 4194304 := ⟨hr.1, by omega⟩
      have hd := dg i (by omega) (by omega)
      rw [FX12_howNow_l4]
      simp only [Nat.reduceAdd]
      rw [rd_ok (by omega) (by omega), Option.bind_some, e4, if_neg (by omega), rd_ok (by omega) (by omega), Option.bind_some, e7, w32_id (x := 4 * rkd 4 (P 117) i) (by omega) (by omega), w32_id (x := 4 * rkd 4 (P 117) i + P 117 i) (by omega) (by omega), w32_id (by omega) (by omega), Int.mul_comm]
      rfl) (by omega)
  exact lp
def alf (p : Nat → Bool) : Nat → Nat → Bool
  | 0, _ => true
  | d + 1, r => p r && alf p d (r + 1)
theorem alf_iff {p : Nat → Bool} : ∀ d r, alf p d r = true ↔ ∀ i, r ≤ i → i < r + d → p i = true
  | 0, r => ⟨fun _ i h1 h2 => by omega, fun _ => rfl⟩
  | d + 1, r => by
    show (p r && alf p d (r + 1)) = true ↔ _
    rw [Bool.and_eq_true, alf_iff d (r + 1)]
    constructor
    · rintro ⟨h1, h2⟩ i h3 h4
      by_cases e : i = r
      · rw [e]; exact h1
      · exact h2 i (by omega) (by omega)
    · intro h
      exact ⟨h r (by omega) (by omega), fun i h3 h4 => h i (by omega) (by omega)⟩
theorem drafted_l {N : Nat} {y P : iv_M} {k : Int} (hE : Eb P y) (h12 : P 114 2 ≤ 12) (k0 : 0 ≤ k) (k1 : k < 4) : ∀ (d r f : Nat), (r : Int) + d = P 114 2 → d < f → FX12_isAsDrafted_l4 N y 113 k (fun (x3575_2 : Int) => (FX12_isAsDrafted_b76 N y x3575_2)) (f + 1) 1 r = some (if alf (fun r => decide (P 116 r = dC P k r ∧ P 117 r = dT P k r)) d r = true then 1 else 0) := by
  have e4 := hE 114 (by omega) (by omega)
  have e6 := hE 116 (by omega) (by omega)
  have e7 := hE 117 (by omega) (by omega)
  have e23 := hE 123 (by omega) (by omega)
  intro d
  induction d with
  | zero =>
    intro r f hr hf
    rw [FX12_isAsDrafted_l4]
    simp only [Nat.reduceAdd]
    rw [rd_ok (by omega) (by omega), Option.bind_some, e4, if_pos (by omega)]
    rfl
  | succ d ih =>
    intro r f hr hf
    have zero : ∀ f, FX12_isAsDrafted_l4 N y 113 k (fun (x3575_2 : Int) => (FX12_isAsDrafted_b76 N y x3575_2)) (f + 1) 0 ((r : Int) + 1) = some 0 := fun f => by
      rw [FX12_isAsDrafted_l4]
      simp only [Nat.reduceAdd]
      rw [rd_ok (by omega) (by omega), Option.bind_some]
      split
      · rfl
      · rw [if_pos trivial]; rfl
    obtain ⟨f', rfl⟩ : ∃ f', f = f' + 1 := ⟨f - 1, by omega⟩
    have hal : alf (fun r => decide (P 116 r = dC P k r ∧ P 117 r = dT P k r)) (d + 1) r = (decide (P 116 r = dC P k r ∧ P 117 r = dT P k r) && alf (fun r => decide (P 116 r = dC P k r ∧ P 117 r = dT P k r)) d (r + 1)) := rfl
    rw [hal, FX12_isAsDrafted_l4]
    unfold FX12_isAsDrafted_b68 FX12_isAsDrafted_b69
    simp only [Nat.reduceAdd]
    rw [rd_ok (by omega) (by omega), Option.bind_some, e4, if_neg (by omega), if_neg (by decide), rd_ok (by omega) (by omega), Option.bind_some, w32_id (x := 24 * k) (by omega) (by omega), w32_id (x := 2 * (r : Int)) (by omega) (by omega), w32_id (x := 24 * k + 2 * (r : Int)) (by omega) (by omega), rd_ok (by omega) (by omega), Option.bind_some, w32_id (x := 24 * k + 2 * (r : Int) + 1) (by omega) (by omega), rd_ok (by omega) (by omega), Option.bind_some, rd_ok (by omega) (by omega), Option.bind_some, w32_id (x := (r : Int) + 1) (by omega) (by omega), e6, e7, e23]
    have d1 : P 123 (24 * k + 2 * (r : Int)) = dC P k r := rfl
    have d2 : P 123 (24 * k + 2 * (r : Int) + 1) = dT P k r := rfl
    rw [d1, d2]
    by_cases c1 : P 116 r = dC P k r
    · rw [if_pos c1]
      by_cases c2 : P 117 r = dT P k r
      · rw [if_pos c2]
        have := ih (r + 1) f' (by omega) (by omega)
        rw [show ((r + 1 : Nat) : Int) = (r : Int) + 1 by omega] at this
        rw [this]
        simp [c1, c2]
      · rw [if_neg c2, zero]
        simp [c2]
    · rw [if_neg c1, zero]
      simp [c1]
theorem isAsDrafted_ok {N : Nat} {y B P : iv_M} {m k : Int} (hN : 100 ≤ N) (hE : Eb P y) (hP : Sok m B P) (hd : hdr B k) (hv : FV B (dC B k) (dT B k)) : FX12_isAsDrafted N y 113 k = some (if keyB P = wnt B k then 1 else 0) := by
  have hW := hP.1.1.1
  have h12 := hW.1.2.2.2.2.2.1
  have h0 := hW.1.2.2.2.2.1
  have e4 := hP.all
  have e23 : P 123 = B 123 := hP.1.2.2.2.1 123 (by omega)
  have dce : dC P k = dC B k := by funext r; unfold dC; rw [e23]
  have dte : dT P k = dT B k := by funext r; unfold dT; rw [e23]
  obtain ⟨f, hf⟩ : ∃ f, N = f + 1 := ⟨N - 1, by omega⟩
  have := drafted_l (N := N) hE h12 hd.1 hd.2.1 (P 114 2).toNat 0 f (by omega) (by omega)
  unfold FX12_isAsDrafted
  have h' : FX12_isAsDrafted_l4 N y 113 k (fun (x3575_2 : Int) => (FX12_isAsDrafted_b76 N y x3575_2)) N 1 0 = some (if alf (fun r => decide (P 116 r = dC P k r ∧ P 117 r = dT P k r)) (P 114 2).toNat 0 = true then 1 else 0) := by
    rw [← hf] at this; exact this
  rw [h']
  have hiff : alf (fun r => decide (P 116 r = dC P k r ∧ P 117 r = dT P k r)) (P 114 2).toNat 0 = true ↔ keyB P = wnt B k := by
    rw [alf_iff]
    have hx : wnt B k = (pkd 4 (dC B k) (P 114 2).toNat, pkd 2 (dT B k) (P 114 2).toNat) := by unfold wnt; rw [e4]
    rw [hx]
    constructor
    · intro h
      have q : ∀ i : Int, 0 ≤ i → i < ((P 114 2).toNat : Int) → P 116 i = dC B k i ∧ P 117 i = dT B k i := fun i i0 i1 => by
        have := h i.toNat (by omega) (by omega)
        rw [Int.toNat_of_nonneg i0, dce, dte] at this
        exact of_decide_eq_true this
      exact Prod.ext (pkd_congr _ (fun i i0 i1 => (q i i0 i1).1)) (pkd_congr _ (fun i i0 i1 => (q i i0 i1).2))
    · intro h i _ hi
      have h1 : pkd 4 (P 116) (P 114 2).toNat = pkd 4 (dC B k) (P 114 2).toNat := congrArg Prod.fst h
      have h2 : pkd 2 (P 117) (P 114 2).toNat = pkd 2 (dT B k) (P 114 2).toNat := congrArg Prod.snd h
      obtain ⟨g1, g2⟩ := hW.dig
      have a := pkd_inj g1 (fun j j0 j1 => by have := hv.1 j j0 (by rw [← e4]; omega); exact ⟨this.1, by simpa using this.2.1⟩) h1 i (by omega) (by omega)
      have b := pkd_inj g2 (fun j j0 j1 => by have := hv.1 j j0 (by rw [← e4]; omega); exact ⟨this.2.2.2.2.1, by simpa using this.2.2.2.2.2⟩) h2 i (by omega) (by omega)
      rw [dce, dte]
      exact decide_eq_true ⟨a, b⟩
  by_cases e : keyB P = wnt B k
  · rw [if_pos e, if_pos (hiff.mpr e)]
  · rw [if_neg e, if_neg (fun z => e (hiff.mp z))]
/-- the reference's key of a node is the floor's just when its numbers are -/
theorem key_eq {m : Int} {B P : iv_M} {nd : Nd} (hn : NOK B nd) (hP : Sok m B P) : (rw1 B nd = rkd 16 (P 116) (P 114 2).toNat ∧ rw2 B nd = rkd 4 (P 117) (P 114 2).toNat) ↔ (nd.1 = (keyB P).1 ∧ nd.2.1 = (keyB P).2) := by
  obtain ⟨n1, n2, n3⟩ := hn
  have e4 := hP.all
  have hW := hP.1.1.1
  have h12 := hW.1.2.2.2.2.2.1
  obtain ⟨g1, g2⟩ := hW.dig
  have u := (NOK_sok (fr := 0) (c := 0) hP).2
  have f1 : ∀ i : Int, 0 ≤ i → i < ((P 114 2).toNat : Int) → 0 ≤ un4 nd.1 i ∧ un4 nd.1 i < 2 ^ 4 := fun i i0 i1 => by
    have := n1.1 i i0 (by rw [← e4]; omega); exact ⟨this.1, by simpa using this.2.1⟩
  have f2 : ∀ i : Int, 0 ≤ i → i < ((P 114 2).toNat : Int) → 0 ≤ un2 nd.2.1 i ∧ un2 nd.2.1 i < 2 ^ 2 := fun i i0 i1 => by
    have := n1.1 i i0 (by rw [← e4]; omega); exact ⟨this.2.2.2.2.1, by simpa using this.2.2.2.2.2⟩
  unfold rw1 rw2
  rw [← e4]
  have p16 : (16 : Int) = 2 ^ 4 := by decide
  have p4 : (4 : Int) = 2 ^ 2 := by decide
  constructor
  · rintro ⟨h1, h2⟩
    rw [p16] at h1
    rw [p4] at h2
    have a := rkd_inj _ f1 g1 h1
    have b := rkd_inj _ f2 g2 h2
    refine ⟨?_, ?_⟩
    · rw [n2, ← e4]; exact pkd_congr _ a
    · rw [n3, ← e4]; exact pkd_congr _ b
  · rintro ⟨h1, h2⟩
    refine ⟨rkd_congr _ (fun i i0 i1 => ?_), rkd_congr _ (fun i i0 i1 => ?_)⟩
    · rw [h1]; exact (u i i0 (by rw [← e4]; omega)).1
    · rw [h2]; exact (u i i0 (by rw [← e4]; omega)).2
def Eref (y : iv_M) (t : Int) : Int := if y 153 t = y 113 56 then y 152 t else -1
def SRf (y B : iv_M) (L : List Nd) : Prop := y 113 57 = L.length ∧ L.length ≤ 1500 ∧ (∀ j : Nat, j < L.length → y 148 j = rw1 B (nt L j) ∧ y 149 j = rw2 B (nt L j) ∧ y 150 j = (nt L j).2.2.1 ∧ y 151 j = (nt L j).2.2.2) ∧ HT (Eref y) L.length (fun j => hsh (rw1 B (nt L j)) (rw2 B (nt L j))) ∧ ∀ t, 0 ≤ t → t < 4096 → y 153 t ≤ y 113 56 ∧ (y 153 t = y 113 56 → 0 ≤ y 152 t)
theorem SRf_ext {x x' B : iv_M} {L : List Nd} (h6 : x' 113 56 = x 113 56) (h7 : x' 113 57 = x 113 57) (h : ∀ a, 148 ≤ a → a ≤ 153 → x' a = x a) (hS : SRf x B L) : SRf x' B L := by
  have he : Eref x' = Eref x := by funext t; unfold Eref; rw [h6, h 152 (by omega) (by omega), h 153 (by omega) (by omega)]
  unfold SRf at hS ⊢
  rw [he, h6, h7, h 148 (by omega) (by omega), h 149 (by omega) (by omega), h 150 (by omega) (by omega), h 151 (by omega) (by omega), h 152 (by omega) (by omega), h 153 (by omega) (by omega)]; exact hS
theorem probe_r {N : Nat} {y B : iv_M} {L : List Nd} {a b : Int} {kx : Int → Option Int} (hS : SRf y B L) : ∀ (k f : Nat), k < 4096 → (∀ e : Nat, e < k → Eref y ((hsh a b + e) % 4096) ≠ -1 ∧ ¬ (rw1 B (nt L (Eref y ((hsh a b + e) % 4096)).toNat) = a ∧ rw2 B (nt L (Eref y ((hsh a b + e) % 4096)).toNat) = b)) → FX12_placeOf_l18 N y 113 a b kx (f + k) (hsh a b) = FX12_placeOf_l18 N y 113 a b kx f ((hsh a b + k) % 4096) := by
  intro k
  have hr := hsh_rng a b
  induction k with
  | zero => intro f _ _; rw [show (hsh a b + ((0 : Nat) : Int)) % 4096 = hsh a b by omega]; rfl
  | succ k ih =>
    intro f hk he
    rw [show f + (k + 1) = (f + 1) + k by omega, ih (f + 1) (by omega) (fun e h => he e (by omega))]
    obtain ⟨h1, h2⟩ := he k (by omega)
    obtain ⟨t, ht⟩ : ∃ t, t = (hsh a b + (k : Int)) % 4096 := ⟨_, rfl⟩
    rw [← ht] at h1 h2 ⊢
    have t0 : 0 ≤ t ∧ t < 4096 := by omega
    obtain ⟨g1, g2⟩ := hS.2.2.2.1.1 t t0.1 t0.2
    have hm : y 153 t = y 113 56 := by
      by_cases c : y 153 t = y 113 56
      · exact c
      · exact absurd (by unfold Eref; rw [if_neg c]) h1
    have hE : Eref y t = y 152 t := by unfold Eref; rw [if_pos hm]
    rw [hE] at h1 h2 g1 g2
    have hlen := hS.2.1
    obtain ⟨r1, r2, _⟩ := hS.2.2.1 (y 152 t).toNat (by omega)
    rw [Int.toNat_of_nonneg (by omega)] at r1 r2
    rw [FX12_placeOf_l18]
    unfold FX12_placeOf_b65
    simp only [Nat.reduceAdd]
    have e2 : Int.tmod (w32 (t + 1)) 4096 = (hsh a b + ((k + 1 : Nat) : Int)) % 4096 := by rw [w32_id (by omega) (by omega), tmod_pos (by omega)]; omega
    rw [rd_ok t0.1 t0.2, Option.bind_some, if_pos hm, rd_ok t0.1 t0.2, Option.bind_some, rd_ok (by omega) (by omega), Option.bind_some, r1, e2]
    by_cases c : rw1 B (nt L (y 152 t).toNat) = a
    · rw [if_pos c, Option.bind_some, rd_ok (by omega) (by omega), Option.bind_some, r2, if_neg (fun z => h2 ⟨c, z⟩)]
    · rw [if_neg c]
/-- where the floor's place in the table is: known there, or empty -/
theorem placeOf_ok {N : Nat} {y B P : iv_M} {L : List Nd} {m : Int} (hN : 5000 ≤ N) (hS : SRf y B L) (hL : LT B L) (hP : Sok m B P) : ∃ t, FX12_placeOf N y 113 (rkd 16 (P 116) (P 114 2).toNat) (rkd 4 (P 117) (P 114 2).toNat) = some t ∧ (0 ≤ t ∧ t < 4096) ∧ ((knn L (keyB P) = true ∧ y 153 t = y 113 56) ∨ (¬ knn L (keyB P) = true ∧ y 153 t ≠ y 113 56 ∧ ∀ y', (∀ u, Eref y' u = if u = t then (L.length : Int) else Eref y u) → ∀ fr c, HT (Eref y') (L.length + 1) (fun j => hsh (rw1 B (nt (L ++ [((keyB P).1, (keyB P).2, fr, c)]) j)) (rw2 B (nt (L ++ [((keyB P).1, (keyB P).2, fr, c)]) j))))) := by
  obtain ⟨a, ha⟩ : ∃ a, a = rkd 16 (P 116) (P 114 2).toNat := ⟨_, rfl⟩
  obtain ⟨b, hb⟩ : ∃ b, b = rkd 4 (P 117) (P 114 2).toNat := ⟨_, rfl⟩
  rw [← ha, ← hb]
  have hr := hsh_rng a b
  have hlen := hS.2.1
  have keq : ∀ j, j < L.length → ((rw1 B (nt L j) = a ∧ rw2 B (nt L j) = b) ↔ ((nt L j).1 = (keyB P).1 ∧ (nt L j).2.1 = (keyB P).2)) := fun j hj => by rw [ha, hb]; exact key_eq (hL.1 j hj) hP
  obtain ⟨d, d1, d2, d3⟩ := HT_find (hk := hsh a b) hS.2.2.2.1 (by omega) (fun j => rw1 B (nt L j) = a ∧ rw2 B (nt L j) = b)
  have d2' : Eref y ((hsh a b + d) % 4096) = -1 ∨ (rw1 B (nt L (Eref y ((hsh a b + d) % 4096)).toNat) = a ∧ rw2 B (nt L (Eref y ((hsh a b + d) % 4096)).toNat) = b) := d2
  have pr := probe_r (N := N) (kx := fun (x3565_4 : Int) => (FX12_placeOf_b78 N y x3565_4)) hS d (N - d) d1 d3
  rw [show N - d + d = N by omega] at pr
  obtain ⟨t, ht⟩ : ∃ t, t = (hsh a b + (d : Int)) % 4096 := ⟨_, rfl⟩
  rw [← ht] at d2' pr
  have t0 : 0 ≤ t ∧ t < 4096 := by omega
  obtain ⟨g1, g2⟩ := hS.2.2.2.1.1 t t0.1 t0.2
  have hpl : FX12_placeOf N y 113 a b = FX12_placeOf_l18 N y 113 a b (fun (x3565_4 : Int) => (FX12_placeOf_b78 N y x3565_4)) (N - d) t := pr
  obtain ⟨f, hf⟩ : ∃ f, N - d = f + 1 := ⟨N - d - 1, by omega⟩
  rw [hf] at hpl
  by_cases M : y 153 t = y 113 56
  · have hE : Eref y t = y 152 t := by unfold Eref; rw [if_pos M]
    rw [hE] at g1 g2 d2'
    have h0 := (hS.2.2.2.2 t t0.1 t0.2).2 M
    have hmt : rw1 B (nt L (y 152 t).toNat) = a ∧ rw2 B (nt L (y 152 t).toNat) = b := by
      rcases d2' with z | z
      · omega
      · exact z
    obtain ⟨r1, r2, _⟩ := hS.2.2.1 (y 152 t).toNat (by omega)
    rw [Int.toNat_of_nonneg (by omega)] at r1 r2
    have K : knn L (keyB P) = true := knn_iff.mpr ⟨(y 152 t).toNat, by omega, (keq _ (by omega)).mp hmt⟩
    refine ⟨t, ?_, t0, Or.inl ⟨K, M⟩⟩
    rw [hpl, FX12_placeOf_l18]
    simp only [Nat.reduceAdd]
    rw [rd_ok t0.1 t0.2, Option.bind_some, if_pos M, rd_ok t0.1 t0.2, Option.bind_some, rd_ok (by omega) (by omega), Option.bind_some, r1, if_pos hmt.1, Option.bind_some, rd_ok (by omega) (by omega), Option.bind_some, r2, if_pos hmt.2]
    rfl
  · have hE : Eref y t = -1 := by unfold Eref; rw [if_neg M]
    have K : ¬ knn L (keyB P) = true := fun K => by
      obtain ⟨j, j1, j2, j3⟩ := knn_iff.mp K
      have := HT_known (mt := fun j => rw1 B (nt L j) = a ∧ rw2 B (nt L j) = b) hS.2.2.2.1 j1 (by show hsh (rw1 B (nt L j)) (rw2 B (nt L j)) = hsh a b; rw [((keq j j1).mpr ⟨j2, j3⟩).1, ((keq j j1).mpr ⟨j2, j3⟩).2]) ((keq j j1).mpr ⟨j2, j3⟩) d3
      rw [← ht] at this
      exact this hE
    refine ⟨t, ?_, t0, Or.inr ⟨K, M, fun y' hy' fr c => ?_⟩⟩
    · rw [hpl, FX12_placeOf_l18]
      simp only [Nat.reduceAdd]
      rw [rd_ok t0.1 t0.2, Option.bind_some, if_neg M]
      rfl
    · refine HT_put (hk := hsh a b) (d := d) hS.2.2.2.1 (by rw [← ht]; exact hE) (fun e he => (d3 e he).1) (fun u => by rw [← ht]; exact hy' u) (fun j hj => ?_) ?_
      · show hsh (rw1 B (nt (L ++ [((keyB P).1, (keyB P).2, fr, c)]) j)) (rw2 B (nt (L ++ [((keyB P).1, (keyB P).2, fr, c)]) j)) = _
        rw [nt_old hj]
      · show hsh (rw1 B (nt (L ++ [((keyB P).1, (keyB P).2, fr, c)]) L.length)) (rw2 B (nt (L ++ [((keyB P).1, (keyB P).2, fr, c)]) L.length)) = _
        rw [nt_new]
        have := (key_eq (NOK_sok (fr := fr) (c := c) hP).1 hP).mpr ⟨rfl, rfl⟩
        rw [this.1, this.2, ha, hb]
