-- BEDS: who wishes what, the reference
def bgd (ru : Option (List (List (Int × Int)))) (B : iv_M) (k : Nat) (r : Int) : Bool := decide (B 128 k ≤ B 114 8) && decide ((liv ru B (B 128 k).toNat).1 116 r = B 129 k)
theorem bgd_iff {ru : Option (List (List (Int × Int)))} {B : iv_M} {k : Nat} {r : Int} : bgd ru B k r = true ↔ (B 128 k ≤ B 114 8 ∧ (liv ru B (B 128 k).toNat).1 116 r = B 129 k) := by
  unfold bgd
  rw [Bool.and_eq_true, decide_eq_true_iff, decide_eq_true_iff]
def bmk (ru : Option (List (List (Int × Int)))) (B : iv_M) (m : Nat) (p r : Int) : Bool := decide (∀ k, k < m → B 127 k = p → bgd ru B k r = true)
theorem bmk_s {ru : Option (List (List (Int × Int)))} {B : iv_M} {m : Nat} {p r : Int} : bmk ru B (m + 1) p r = (bmk ru B m p r && decide (B 127 m = p → bgd ru B m r = true)) := by
  unfold bmk
  rw [Bool.eq_iff_iff]
  simp only [decide_eq_true_iff, Bool.and_eq_true]
  constructor
  · intro h; exact ⟨fun k hk => h k (by omega), h m (by omega)⟩
  · intro h k hk
    by_cases e : k = m
    · rw [e]; exact h.2
    · exact h.1 k (by omega)
theorem isWished_ok {N : Nat} {y B : iv_M} {ru : Option (List (List (Int × Int)))} {m p r : Int} (hN : 100 ≤ N) (hB : WHm m B) (hE : Eb B y) (r0 : 0 ≤ r) (r1 : r < 12) (h62 : ∀ j : Int, 0 ≤ j → j ≤ B 114 8 → y 162 (12 * j + r) = (liv ru B j.toNat).1 116 r) : FX12_isWished N y 113 p r = some (if bmk ru B (B 114 9).toNat p r = true then 1 else 0) := by
  obtain ⟨_, ⟨_, _, _, _, _, a8, a9, _⟩, _, _, _, _, _, _, e7, _⟩ := hB
  have h4 := hE 114 (by omega) (by omega)
  have h27 := hE 127 (by omega) (by omega)
  have h28 := hE 128 (by omega) (by omega)
  have h29 := hE 129 (by omega) (by omega)
  have lp : ∀ (d k f : Nat), (k : Int) + d = B 114 9 → d < f → FX12_isWished_l5 N y 113 p r (fun (x4085_3 : Int) => (if x4085_3 = 0 ∨ x4085_3 = 1 then some x4085_3 else none)) f (if bmk ru B k p r = true then 1 else 0) (k : Int) = some (if bmk ru B (k + d) p r = true then 1 else 0) := by
    intro d
    induction d with
    | zero =>
      intro k f hk hf
      obtain ⟨f', rfl⟩ : ∃ f', f = f' + 1 := ⟨f - 1, by omega⟩
      rw [FX12_isWished_l5]
      simp only [Nat.reduceAdd]
      rw [rd_ok (by omega) (by omega), Option.bind_some, h4, if_pos (by omega), Nat.add_zero]
      by_cases e : bmk ru B k p r = true
      · rw [if_pos e, if_pos (Or.inr rfl)]
      · rw [if_neg e, if_pos (Or.inl rfl)]
    | succ d ih =>
      intro k f hk hf
      obtain ⟨f', rfl⟩ : ∃ f', f = f' + 1 := ⟨f - 1, by omega⟩
      have nx := ih (k + 1) f' (by omega) (by omega)
      rw [show k + 1 + d = k + (d + 1) by omega] at nx
      obtain ⟨⟨w0, w1⟩, ⟨w2, w3⟩, w4, w5⟩ := e7 k (by omega) (by omega)
      have go : ∀ v, v = (if bmk ru B (k + 1) p r = true then (1 : Int) else 0) → FX12_isWished_l5 N y 113 p r (fun (x4085_3 : Int) => (if x4085_3 = 0 ∨ x4085_3 = 1 then some x4085_3 else none)) f' v (w32 ((k : Int) + 1)) = some (if bmk ru B (k + (d + 1)) p r = true then 1 else 0) := fun v hv => by
        rw [hv, w32_id (by omega) (by omega)]; exact nx
      rw [FX12_isWished_l5]
      unfold FX12_isWished_b80 FX12_isWished_b81 FX12_isWished_b82
      simp only [Nat.reduceAdd]
      rw [rd_ok (by omega) (by omega), Option.bind_some, h4, if_neg (by omega), rd_ok (by omega) (by omega), Option.bind_some, h27]
      by_cases q : B 127 k = p
      · rw [if_pos q]
        by_cases e : bmk ru B k p r = true
        · rw [if_pos e, if_neg (by decide), rd_ok (by omega) (by omega), Option.bind_some, Option.bind_some, h28, rd_ok (by omega) (by omega), Option.bind_some, h4]
          have key : bmk ru B (k + 1) p r = bgd ru B k r := by
            rw [bmk_s, e, Bool.true_and]
            cases g : bgd ru B k r
            · exact decide_eq_false (fun z => by have := z q; cases this)
            · exact decide_eq_true (fun _ => rfl)
          by_cases q2 : B 114 8 < B 128 k
          · rw [if_pos q2]
            refine go 0 ?_
            rw [key, if_neg (fun z => by have := (bgd_iff.mp z).1; omega)]
          · rw [if_neg q2, w32_id (x := 12 * B 128 k) (by omega) (by omega), w32_id (by omega) (by omega), rd_ok (by omega) (by omega), Option.bind_some, h62 (B 128 k) w2 (by omega), rd_ok (by omega) (by omega), Option.bind_some, h29]
            by_cases q3 : (liv ru B (B 128 k).toNat).1 116 r = B 129 k
            · rw [if_pos q3]
              refine go 1 ?_
              rw [key, if_pos (bgd_iff.mpr ⟨by omega, q3⟩)]
            · rw [if_neg q3]
              refine go 0 ?_
              rw [key, if_neg (fun z => q3 (bgd_iff.mp z).2)]
        · rw [if_neg e, if_pos rfl]
          refine go 0 ?_
          have : bmk ru B k p r = false := by cases h : bmk ru B k p r; rfl; exact absurd h e
          rw [bmk_s, this, Bool.false_and, if_neg (by decide)]
      · rw [if_neg q]
        refine go _ ?_
        rw [bmk_s, decide_eq_true (fun z => absurd z q), Bool.and_true]
  have := lp (B 114 9).toNat 0 N (by omega) (by omega)
  rw [Nat.zero_add] at this
  have h0 : bmk ru B 0 p r = true := by unfold bmk; rw [decide_eq_true_iff]; intro k hk; omega
  rw [if_pos h0] at this
  unfold FX12_isWished
  exact this
theorem bSt_congr {v : Int} {u w : Nat → Bool} (h : ∀ j, j < 12 → u j = w j) (hu : bSt v u) : bSt v w := ⟨hu.1, hu.2.1, fun j hj => by rw [hu.2.2 j hj, h j hj]⟩
/-- the rooms that a person may have -/
def bmy (ru : Option (List (List (Int × Int)))) (B : iv_M) (p r : Nat) : Bool := decide (r < (B 114 2).toNat) && bmk ru B (B 114 9).toNat p r
theorem who_l {N : Nat} {s B : iv_M} {ru : Option (List (List (Int × Int)))} {m : Int} {kx : iv_M → Option iv_M} (hN : 100 ≤ N) (hB : WHm m B) (hE : Eb B s) (h62 : ∀ j r : Int, 0 ≤ j → j ≤ B 114 8 → 0 ≤ r → r < 12 → s 162 (12 * j + r) = (liv ru B j.toNat).1 116 r) (p : Nat) (hp : (p : Int) < B 114 3) (z : iv_M) (ho : ∀ a, a ≠ 163 → z a = s a) (hz : z 163 p = 0) : ∃ z', FX12_fillsWho_l50 N 113 (p : Int) kx N z 0 = kx z' ∧ bSt (z' 163 p) (bmy ru B p) ∧ (∀ j : Int, j ≠ p → z' 163 j = z 163 j) ∧ ∀ a, a ≠ 163 → z' a = s a := by
  have a5 := hB.1.1.2.2.2.2.2.1
  have a4 := hB.1.1.2.2.2.2.1
  have h3 := hB.2.1.1
  have hs : ((sh 163).2 : Int) = 6 := by decide
  obtain ⟨y, ⟨_, y1, y2, y3⟩, y4⟩ := loop_up (L := fun n x i => FX12_fillsWho_l50 N 113 (p : Int) kx n x i) (k := kx) (hi := B 114 2) (fun r x => 0 ≤ r ∧ bSt (x 163 p) (fun j => decide ((j : Int) < r) && bmk ru B (B 114 9).toNat p j) ∧ (∀ j : Int, j ≠ p → x 163 j = z 163 j) ∧ ∀ a, a ≠ 163 → x a = s a) (fun n x hx => by
      show FX12_fillsWho_l50 N 113 (p : Int) kx (n + 1) x (B 114 2) = _
      rw [FX12_fillsWho_l50]
      simp only [Nat.reduceAdd]
      rw [rd_ok (by omega) (by omega), Option.bind_some, hx.2.2.2 114 (by omega), hE 114 (by omega) (by omega), if_pos (by omega)]) (fun n j x hx hj => by
      obtain ⟨x0, x1, x2, x3⟩ := hx
      obtain ⟨r, rfl⟩ := Int.eq_ofNat_of_zero_le x0
      have hEx : Eb B x := fun a c0 c1 => by rw [x3 a (by omega), hE a c0 c1]
      have iw := isWished_ok (N := N) (y := x) (B := B) (ru := ru) (p := (p : Int)) (r := (r : Int)) hN hB hEx (by omega) (by omega) (fun j j0 j1 => by rw [x3 162 (by omega)]; exact h62 j r j0 j1 (by omega) (by omega))
      have b83 : ∀ v w, w = bOr (x 163 p) v → FX12_fillsWho_b83 N x 113 (p : Int) (r : Int) v (x 163 p) (p : Int) 163 (FX12_fillsWho_l50 N 113 (p : Int) kx n) kx = FX12_fillsWho_l50 N 113 (p : Int) kx n (mu x 163 (p : Int) w) ((r : Int) + 1) := fun v w hw => by
        unfold FX12_fillsWho_b83
        rw [hs, wr_ok (by omega) (by omega), Option.bind_some, w32_id (by omega) (by omega), hw]
      show ∃ z', FX12_fillsWho_l50 N 113 (p : Int) kx (n + 1) x (r : Int) = FX12_fillsWho_l50 N 113 (p : Int) kx n z' ((r : Int) + 1) ∧ _
      have start : FX12_fillsWho_l50 N 113 (p : Int) kx (n + 1) x (r : Int) = (if (if bmk ru B (B 114 9).toNat (p : Int) (r : Int) = true then (1 : Int) else 0) = 0 then FX12_fillsWho_l50 N 113 (p : Int) kx n (mu x 163 (p : Int) (x 163 p)) ((r : Int) + 1) else FX12_fillsWho_l50 N 113 (p : Int) kx n (mu x 163 (p : Int) (bOr (x 163 p) (sl32 1 r))) ((r : Int) + 1)) := by
        rw [FX12_fillsWho_l50]
        simp only [Nat.reduceAdd]
        have z0 := bOr_zero x1.1 (Int.lt_trans x1.2.1 (by decide))
        rw [rd_ok (by omega) (by omega), Option.bind_some, x3 114 (by omega), hE 114 (by omega) (by omega), if_neg (by omega), rd_ok (by omega) (by omega), Option.bind_some, iw, Option.bind_some, b83 0 (x 163 p) z0.symm, b83 (sl32 1 r) _ rfl]
      have fr : ∀ w, (∀ j : Int, j ≠ p → mu x 163 (p : Int) w 163 j = z 163 j) ∧ ∀ a, a ≠ 163 → mu x 163 (p : Int) w a = s a := fun w => ⟨fun j hj => by rw [mu_ne (by omega)]; exact x2 j hj, fun a ha => by rw [mu_rw ha]; exact x3 a ha⟩
      by_cases e : bmk ru B (B 114 9).toNat (p : Int) (r : Int) = true
      · rw [start, if_pos e, if_neg (by decide)]
        refine ⟨_, rfl, by omega, ?_, fr _⟩
        rw [mu_eq]
        refine bSt_congr (fun j hj => ?_) (bSt_or x1 (by omega))
        unfold bad
        by_cases q : j = r
        · subst q
          have h1 : decide ((j : Int) < (j : Int) + 1) = true := by rw [decide_eq_true_iff]; omega
          rw [h1, e]; simp
        · have h1 : decide ((j : Int) < (r : Int) + 1) = decide ((j : Int) < r) := by rw [decide_eq_decide]; omega
          have h2 : (j == r) = false := by simp [q]
          rw [h1, h2, Bool.or_false]
      · rw [start, if_neg e, if_pos rfl]
        refine ⟨_, rfl, by omega, ?_, fr _⟩
        rw [mu_eq]
        refine bSt_congr (fun j hj => ?_) x1
        by_cases q : j = r
        · subst q
          have h0 : bmk ru B (B 114 9).toNat (p : Int) (j : Int) = false := by cases h : bmk ru B (B 114 9).toNat (p : Int) (j : Int); rfl; exact absurd h e
          rw [h0, Bool.and_false, Bool.and_false]
        · have h1 : decide ((j : Int) < (r : Int) + 1) = decide ((j : Int) < r) := by rw [decide_eq_decide]; omega
          rw [h1]) N 0 z ⟨by omega, by
        rw [hz]
        refine bSt_congr (fun j hj => ?_) bSt_0
        have : decide ((j : Int) < 0) = false := by rw [decide_eq_false_iff_not]; omega
        rw [this]; rfl, fun j _ => rfl, ho⟩ a4 (by omega)
  refine ⟨y, y4, bSt_congr (fun j hj => ?_) y1, y2, y3⟩
  unfold bmy
  have : decide ((j : Int) < B 114 2) = decide (j < (B 114 2).toNat) := by rw [decide_eq_decide]; omega
  rw [this]
