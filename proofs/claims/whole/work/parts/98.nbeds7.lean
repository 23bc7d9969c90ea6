-- BEDS: who wishes what, the class
def bmq (ru : Option (List (List (Int × Int)))) (B : iv_M) (t j : Int) (p r : Nat) : Bool := decide (r < (B 114 2).toNat) && decide (∀ k : Nat, k < (B 114 9).toNat → (B 128 k < t ∨ (B 128 k = t ∧ (k : Int) < j)) → B 127 k = (p : Int) → bgd ru B k r = true)
theorem bmq_iff {ru : Option (List (List (Int × Int)))} {B : iv_M} {t j : Int} {p r : Nat} : bmq ru B t j p r = true ↔ (r < (B 114 2).toNat ∧ ∀ k : Nat, k < (B 114 9).toNat → (B 128 k < t ∨ (B 128 k = t ∧ (k : Int) < j)) → B 127 k = (p : Int) → bgd ru B k r = true) := by
  unfold bmq; rw [Bool.and_eq_true, decide_eq_true_iff, decide_eq_true_iff]
theorem bmq_same {ru : Option (List (List (Int × Int)))} {B : iv_M} {t j t' j' : Int} {p r : Nat} (h : ∀ k : Nat, k < (B 114 9).toNat → B 127 k = (p : Int) → ((B 128 k < t ∨ (B 128 k = t ∧ (k : Int) < j)) ↔ (B 128 k < t' ∨ (B 128 k = t' ∧ (k : Int) < j')))) : bmq ru B t j p r = bmq ru B t' j' p r := by
  rw [Bool.eq_iff_iff, bmq_iff, bmq_iff]
  constructor
  · intro z; exact ⟨z.1, fun k k1 k2 k3 => z.2 k k1 ((h k k1 k3).mpr k2) k3⟩
  · intro z; exact ⟨z.1, fun k k1 k2 k3 => z.2 k k1 ((h k k1 k3).mp k2) k3⟩
theorem TrR_110 {q : Nat} {ru : Option (List (List (Int × Int)))} {s0 P x : iv_M} {v i w : Int} (hq : q = 9 ∨ q = 31) (h : TrR q ru s0 P v x) : TrR q ru (mu s0 110 i w) P v (mu x 110 i w) := by
  obtain ⟨⟨l1, l2, l3⟩, t2, t3, t4⟩ := h
  have o : ∀ a, a ≠ 110 → mu x 110 i w a = x a := fun a ha => mu_rw ha
  refine ⟨⟨LR_ext (fun i _ => by rw [o 89 (by omega)]) (o _ (by omega)) (o _ (by omega)) (fun a ha => o a (by omega)) l1, FRc_ext (fun a y0 y1 => o a (by omega)) l2, FP_ext (o _ (by omega)) l3⟩, by rw [o 81 (by omega)]; exact t2, fun i hi => by rw [o 81 (by omega), mu_rw (by omega)]; exact t3 i hi, fun a ha => ?_⟩
  by_cases e : a = 110
  · subst e
    funext j
    by_cases c : j = i
    · rw [c, mu_eq, mu_eq]
    · rw [mu_ne (by omega), mu_ne (by omega), t4 110 (by omega)]
  · rw [mu_rw e, mu_rw e]; exact t4 a ha
theorem bAn_zero {x : Int} (h0 : 0 ≤ x) (h1 : x < 4096) : bAn x 0 = 0 := by
  obtain ⟨w, rfl⟩ := Int.eq_ofNat_of_zero_le h0
  have := bAn_nat (a := w) (b := 0) (by omega) (by omega)
  rw [Nat.and_zero] at this
  exact this
/-- the wishes of one night -/
theorem wish_l {N q : Nat} {s B : iv_M} {ru : Option (List (List (Int × Int)))} {m t cm : Int} {kx : iv_M → Option iv_M} (hq : q = 9 ∨ q = 31) (hB : WHm m B) (hH : HR s q B) (t0 : 0 ≤ t) (hcm : cm = if t ≤ B 114 8 then 1 else 0) (P : iv_M) (v : Int) (hP : Wf P) (hP4 : P 114 2 = B 114 2) (hPl : t ≤ B 114 8 → P = (liv ru B t.toNat).1) : ∀ (d j f : Nat) (x s0 : iv_M), (j : Int) + d = B 114 9 → d < f → TrR q ru s0 P v x → (∀ a, a ≠ 110 → s0 a = s a) → (∀ p : Nat, p < 6 → bSt (x 110 p) (bmq ru B t j p)) → ∃ x' s0', FX10_roomsWished_l80 N 81 q 110 t cm kx f x (j : Int) = kx x' ∧ TrR q ru s0' P v x' ∧ (∀ a, a ≠ 110 → s0' a = s a) ∧ ∀ p : Nat, p < 6 → bSt (x' 110 p) (bmq ru B (t + 1) 0 p) := by
  have hrows := HQ_rows (q := q) (by unfold HQ; omega)
  have e7 := hB.2.2.2.2.2.2.2.2.1
  have a9 := hB.2.1.2.2.2.2.2.2.1
  have a3 := hB.2.1.1
  have a5 := hB.1.1.2.2.2.2.2.1
  obtain ⟨_, _, _, _, _, ⟨_, _, h6c, h6d, _⟩⟩ := hH
  have hs19 : ((sh (q + 18 + 1)).2 : Int) = 12 := by show ((sh (q + 19)).2 : Int) = 12; rw [hrows.2.2.2.2.1]; rfl
  have hs110 : ((sh 110).2 : Int) = 6 := by decide
  intro d
  induction d with
  | zero =>
    intro j f x s0 hj hf hx ho hb
    obtain ⟨f', rfl⟩ : ∃ f', f = f' + 1 := ⟨f - 1, by omega⟩
    refine ⟨x, s0, ?_, hx, ho, fun p hp => bSt_congr (fun r _ => ?_) (hb p hp)⟩
    · rw [FX10_roomsWished_l80, if_pos (by rw [hx.2.2.2 (q + 18) (by omega), ho (q + 18) (by omega), h6c]; omega)]
    · exact bmq_same (fun k k1 _ => by omega)
  | succ d ih =>
    intro j f x s0 hj hf hx ho hb
    obtain ⟨f', rfl⟩ : ∃ f', f = f' + 1 := ⟨f - 1, by omega⟩
    obtain ⟨⟨w0, w1⟩, ⟨w2, w3⟩, w4, w5⟩ := e7 j (by omega) (by omega)
    have hit : x (q + 18 + 1) j = 256 * B 127 j + 16 * B 128 j + B 129 j := by
      have : x (q + 19) j = 256 * B 127 j + 16 * B 128 j + B 129 j := by rw [hx.2.2.2 (q + 19) (by omega), ho (q + 19) (by omega)]; exact h6d j (by omega) (by omega)
      exact this
    obtain ⟨c1, c2, c3⟩ := wcode (k := B 127 j) (r := B 128 j) (o := B 129 j) (by omega) (by omega) (by omega) (by omega) (by omega) (by omega)
    have wv : w32 (256 * B 127 j + 16 * B 128 j + B 129 j) = 256 * B 127 j + 16 * B 128 j + B 129 j := w32_id (by omega) (by omega)
    have hroom : x 85 (B 129 j) = P 121 (B 129 j) := hx.1.2.1.2.2.2.1 _ w4 w5
    obtain ⟨pn, hpn⟩ : ∃ pn : Nat, B 127 j = pn := ⟨(B 127 j).toNat, by omega⟩
    have hpn6 : pn < 6 := by omega
    have hold := hb pn hpn6
    have b161 : ∀ y, FX10_roomsWished_b161 N y 81 q 110 t cm (j : Int) (FX10_roomsWished_l80 N 81 q 110 t cm kx f') kx = FX10_roomsWished_l80 N 81 q 110 t cm kx f' y ((j + 1 : Nat) : Int) := fun y => by
      unfold FX10_roomsWished_b161
      rw [w32_id (by omega) (by omega)]; rfl
    have b159 : ∀ w, FX10_roomsWished_b159 N x 81 q 110 t cm (j : Int) w (x 110 pn) (pn : Int) 110 (FX10_roomsWished_l80 N 81 q 110 t cm kx f') kx = FX10_roomsWished_l80 N 81 q 110 t cm kx f' (mu x 110 (pn : Int) (bAn (x 110 pn) w)) ((j + 1 : Nat) : Int) := fun w => by
      unfold FX10_roomsWished_b159
      rw [hs110, wr_ok (by omega) (by omega), Option.bind_some, b161]
    have start : FX10_roomsWished_l80 N 81 q 110 t cm kx (f' + 1) x (j : Int) = (if B 128 j = t then (if cm = 0 then FX10_roomsWished_l80 N 81 q 110 t cm kx f' (mu x 110 (pn : Int) (bAn (x 110 pn) 0)) ((j + 1 : Nat) : Int) else (if P 121 (B 129 j) = -1 then FX10_roomsWished_l80 N 81 q 110 t cm kx f' (mu x 110 (pn : Int) (bAn (x 110 pn) 0)) ((j + 1 : Nat) : Int) else FX10_roomsWished_l80 N 81 q 110 t cm kx f' (mu x 110 (pn : Int) (bAn (x 110 pn) (sl32 1 (P 121 (B 129 j))))) ((j + 1 : Nat) : Int))) else FX10_roomsWished_l80 N 81 q 110 t cm kx f' x ((j + 1 : Nat) : Int)) := by
      rw [FX10_roomsWished_l80, if_neg (by rw [hx.2.2.2 (q + 18) (by omega), ho (q + 18) (by omega), h6c]; omega)]
      unfold FX10_roomsWished_b158
      simp only [Nat.reduceAdd]
      rw [hs19, rd_ok (by omega) (by omega), Option.bind_some, hit, wv, c1, c2, c3, hs110, hpn, rd_ok w4 w5, Option.bind_some, rd_ok (by omega) (by omega), Option.bind_some, hroom, b159, b159, b161]
    by_cases e : B 128 j = t
    rotate_left
    · rw [start, if_neg e]
      exact ih (j + 1) f' x s0 (by omega) (by omega) hx ho (fun p hp => bSt_congr (fun r _ => bmq_same (fun k k1 _ => by
        by_cases kj : k = j
        · subst kj; omega
        · omega)) (hb p hp))
    rw [if_pos e] at start
    have upd : ∀ w, bSt w (fun r => bmq ru B t j pn r && bgd ru B j r) → ∃ x' s0', FX10_roomsWished_l80 N 81 q 110 t cm kx f' (mu x 110 (pn : Int) w) ((j + 1 : Nat) : Int) = kx x' ∧ TrR q ru s0' P v x' ∧ (∀ a, a ≠ 110 → s0' a = s a) ∧ ∀ p : Nat, p < 6 → bSt (x' 110 p) (bmq ru B (t + 1) 0 p) := fun w hw => by
      refine ih (j + 1) f' (mu x 110 (pn : Int) w) (mu s0 110 (pn : Int) w) (by omega) (by omega) (TrR_110 hq hx) (fun a ha => by rw [mu_rw ha]; exact ho a ha) (fun p hp => ?_)
      by_cases pp : p = pn
      · rw [pp, mu_eq]
        refine bSt_congr (fun r _ => ?_) hw
        show (bmq ru B t j pn r && bgd ru B j r) = _
        rw [Bool.eq_iff_iff, Bool.and_eq_true, bmq_iff, bmq_iff]
        constructor
        · intro z
          refine ⟨z.1.1, fun k k1 k2 k3 => ?_⟩
          by_cases kj : k = j
          · rw [kj]; exact z.2
          · exact z.1.2 k k1 (by omega) k3
        · intro z
          exact ⟨⟨z.1, fun k k1 k2 k3 => z.2 k k1 (by omega) k3⟩, z.2 j (by omega) (by omega) hpn⟩
      · rw [mu_ne (by omega)]
        exact bSt_congr (fun r _ => bmq_same (fun k k1 k2 => by
          by_cases kj : k = j
          · subst kj; omega
          · omega)) (hb p hp)
    have none : (∀ r : Nat, r < (B 114 2).toNat → ¬ bgd ru B j r = true) → bSt (bAn (x 110 pn) 0) (fun r => bmq ru B t j pn r && bgd ru B j r) := fun hnone => by
      rw [bAn_zero hold.1 hold.2.1]
      refine bSt_congr (fun r _ => ?_) bSt_0
      by_cases c : r < (B 114 2).toNat
      · have : bgd ru B j r = false := by cases h : bgd ru B j r; rfl; exact absurd h (hnone r c)
        rw [this, Bool.and_false]
      · have : bmq ru B t j pn r = false := by cases h : bmq ru B t j pn r; rfl; exact absurd (bmq_iff.mp h).1 c
        rw [this, Bool.false_and]
    by_cases ct : t ≤ B 114 8
    rotate_left
    · rw [hcm, if_neg ct, if_pos rfl] at start
      rw [hcm, if_neg ct]
      rw [hcm, if_neg ct] at upd
      obtain ⟨x', s0', u1, u2⟩ := upd _ (none (fun r _ z => by have := (bgd_iff.mp z).1; omega))
      exact ⟨x', s0', start.trans u1, u2⟩
    have hPe := hPl ct
    have gi : ∀ r : Nat, bgd ru B j r = true ↔ P 116 r = B 129 j := fun r => by
      rw [bgd_iff, e, hPe]
      constructor
      · intro z; exact z.2
      · intro z; exact ⟨ct, z⟩
    rw [hcm, if_pos ct, if_neg (by decide)] at start
    rw [hcm, if_pos ct]
    rw [hcm, if_pos ct] at upd
    by_cases th : P 121 (B 129 j) = -1
    · rw [if_pos th] at start
      obtain ⟨x', s0', u1, u2⟩ := upd _ (none (fun r hr z => by
        have h1 := (gi r).mp z
        have h2 := (hP.room (r := r) (by omega) (by rw [hP4]; omega)).2.2.1
        rw [h1, th] at h2; omega))
      exact ⟨x', s0', start.trans u1, u2⟩
    · rw [if_neg th] at start
      rcases hP.2.1 (B 129 j) w4 w5 with z | ⟨z0, z1, z2, _⟩
      · exact absurd z th
      obtain ⟨tr, htr⟩ : ∃ tr : Nat, P 121 (B 129 j) = tr := ⟨(P 121 (B 129 j)).toNat, by omega⟩
      rw [hP4] at z1
      rw [htr] at z0 z1 z2 start
      obtain ⟨x', s0', u1, u2⟩ := upd (bAn (x 110 pn) (sl32 1 tr)) (by
        refine bSt_congr (fun r _ => ?_) (bSt_an hold (by omega))
        show (bmq ru B t j pn r && r == tr) = (bmq ru B t j pn r && bgd ru B j r)
        by_cases c : r < (B 114 2).toNat
        · congr 1
          rw [Bool.eq_iff_iff, gi r, beq_iff_eq]
          constructor
          · intro q; rw [q]; exact z2
          · intro q
            have h2 := (hP.room (r := r) (by omega) (by rw [hP4]; omega)).2.2.1
            rw [q, htr] at h2; omega
        · have : bmq ru B t j pn r = false := by cases h : bmq ru B t j pn r; rfl; exact absurd (bmq_iff.mp h).1 c
          rw [this, Bool.false_and, Bool.false_and])
      exact ⟨x', s0', start.trans u1, u2⟩
