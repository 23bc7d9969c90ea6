-- ROWS OF WALKS: the class
def Plc (x : iv_M) (pre : List (Int × Int)) : Prop := ∀ l : Nat, l < pre.length → x 95 l = (gP pre l).1 ∧ (0 ≤ (gP pre l).1 ∧ (gP pre l).1 < 126) ∧ x (92 + l) ((gP pre l).1) = wcd (gP pre l).2 ∧ 0 ≤ (gP pre l).2 ∧ (gP pre l).2 < 204
theorem wcd_k {c : Int} (c0 : 0 ≤ c) (c1 : c < 204) : sr32 (wcd c) 8 = cK c := by
  obtain ⟨q1, q2, q3, q4, q5, q6, _⟩ := cc_rng c0 c1
  exact (wcode (k := cK c) (r := cR c) (o := cO c) (by omega) (by omega) (by omega) (by omega) (by omega) (by omega)).2.1
theorem su_kf_le {p : List (Int × Int)} {k : Int} (m : Nat) : 0 ≤ su (kf p k) m ∧ su (kf p k) m ≤ m := by
  have := su_le (f := kf p k) (m := 1) m (fun i _ _ => by unfold kf; split <;> omega)
  omega
theorem tally_ok {N : Nat} {x : iv_M} {p : List (Int × Int)} {A : List (List (Int × Int))} (hN : 100 ≤ N) (hp : p.length ≤ 3) (hT : Tot (x 97 0) (x 97) (x 96) p.length A) (hA : A.length ≤ 4000000) (hl : Plc x p) : ∃ x', FX10_tally N x 81 (p.length : Int) = some x' ∧ Tot (x' 97 0) (x' 97) (x' 96) p.length (A ++ [p]) ∧ ∀ a, a ≠ 96 → a ≠ 97 → x' a = x a := by
  have hT' := hT
  obtain ⟨t1, t2, t3, t4⟩ := hT'
  have tb := fun k => kcn_le (k := k) A t4
  have tb3 : ∀ k, 0 ≤ kcn k A ∧ kcn k A ≤ 12000000 := fun k => by
    obtain ⟨u1, u2⟩ := tb k
    have : (p.length : Int) * A.length ≤ 3 * A.length := Int.mul_le_mul_of_nonneg_right (by omega) (by omega)
    omega
  obtain ⟨x0, hx0⟩ : ∃ x0, x0 = mu x 97 0 (x 97 0 + 1) := ⟨_, rfl⟩
  obtain ⟨y, y1, y2⟩ := loop_up (L := fun m z i => FX10_tally_l12 N 81 (p.length : Int) (fun (s_1652 : iv_M) => (FX10_tally_b75 N s_1652)) m z i) (k := fun z => some z) (hi := (p.length : Int)) (fun j z => 0 ≤ j ∧ z 97 0 = x 97 0 + 1 ∧ (∀ k, 1 ≤ k → k ≤ 3 → z 97 k = x 97 k + su (kf p k) j.toNat) ∧ (A = [] → ∀ i : Nat, (i : Int) < j → z 96 i = (gP p i).1) ∧ (A ≠ [] → ∀ i : Nat, z 96 i = x 96 i) ∧ ∀ a, a ≠ 96 → a ≠ 97 → z a = x a) (fun m z hz => by
      show FX10_tally_l12 N 81 (p.length : Int) _ (m + 1) z (p.length : Int) = some z
      rw [FX10_tally_l12, if_pos (by omega)]; rfl) (fun m j z hz hj => by
      obtain ⟨j0, z1, z2, z3, z4, z5⟩ := hz
      obtain ⟨jn, rfl⟩ := Int.eq_ofNat_of_zero_le j0
      obtain ⟨l1, l2, l3, l4, l5⟩ := hl jn (by omega)
      obtain ⟨q1, q2, _⟩ := cc_rng l4 l5
      have hg : gx 91 3 (jn : Int) = some (92 + jn) := by unfold gx; rw [if_pos (by omega), Int.toNat_natCast]
      have s95 : z 95 jn = (gP p jn).1 := by rw [z5 95 (by omega) (by omega)]; exact l1
      have s92 : z (92 + jn) ((gP p jn).1) = wcd (gP p jn).2 := by rw [z5 (92 + jn) (by omega) (by omega)]; exact l3
      have sb := su_kf_le (p := p) (k := cK (gP p jn).2) jn
      have tv := tb3 (cK (gP p jn).2)
      have tv2 := t2 (cK (gP p jn).2) q1 q2
      have hk := z2 (cK (gP p jn).2) q1 q2
      rw [Int.toNat_natCast] at hk
      obtain ⟨w, hw⟩ : ∃ w, w = mu z 97 (cK (gP p jn).2) (z 97 (cK (gP p jn).2) + 1) := ⟨_, rfl⟩
      have w0 : w 97 0 = x 97 0 + 1 := by rw [hw, mu_ne (by omega)]; exact z1
      have wk : ∀ k, 1 ≤ k → k ≤ 3 → w 97 k = x 97 k + su (kf p k) ((jn : Int) + 1).toNat := fun k k0 k1 => by
        rw [show ((jn : Int) + 1).toNat = jn + 1 by omega]
        show _ = x 97 k + (su (kf p k) jn + kf p k jn)
        have z2k := z2 k k0 k1
        rw [Int.toNat_natCast] at z2k
        rw [hw]
        by_cases e : k = cK (gP p jn).2
        · subst e; rw [mu_eq, z2k]; unfold kf; rw [if_pos rfl]; omega
        · rw [mu_ne (by omega), z2k]
          have : kf p k jn = 0 := by unfold kf; rw [if_neg (fun q => e q.symm)]
          omega
      have wo : ∀ a, a ≠ 97 → w a = z a := fun a ha => by rw [hw, mu_rw ha]
      have start : FX10_tally_l12 N 81 (p.length : Int) (fun (s_1652 : iv_M) => (FX10_tally_b75 N s_1652)) (m + 1) z (jn : Int) = (if w 97 0 = 1 then FX10_tally_l12 N 81 (p.length : Int) (fun (s_1652 : iv_M) => (FX10_tally_b75 N s_1652)) m (mu w 96 jn (gP p jn).1) ((jn : Int) + 1) else FX10_tally_l12 N 81 (p.length : Int) (fun (s_1652 : iv_M) => (FX10_tally_b75 N s_1652)) m w ((jn : Int) + 1)) := by
        rw [FX10_tally_l12, if_neg (by omega), if_neg (by omega)]
        unfold FX10_tally_b69
        simp only [Nat.reduceAdd]
        rw [hg, Option.bind_some, rd_ok (by omega) (by omega), Option.bind_some, s95, rd_ok l2.1 (by omega), Option.bind_some, s92, wcd_k l4 l5, rd_ok (by omega) (by omega), Option.bind_some, w32_id (x := z 97 (cK (gP p jn).2) + 1) (by omega) (by omega), wr_ok (by omega) (by omega), Option.bind_some, ← hw, rd_ok (by omega) (by omega), Option.bind_some, rd_ok (by omega) (by omega), Option.bind_some, wo 95 (by omega), s95, wr_ok (by omega) (by omega), Option.bind_some, w32_id (x := (jn : Int) + 1) (by omega) (by omega)]
      by_cases e : w 97 0 = 1
      · have hAe : A = [] := by
          have : A.length = 0 := by omega
          exact List.eq_nil_of_length_eq_zero this
        refine ⟨mu w 96 jn (gP p jn).1, ?_, by omega, by rw [mu_ne (by omega)]; exact w0, fun k k0 k1 => by rw [mu_ne (by omega)]; exact wk k k0 k1, fun _ i hi => ?_, fun q => absurd hAe q, fun a a1 a2 => by rw [mu_rw a1, wo a a2]; exact z5 a a1 a2⟩
        · show FX10_tally_l12 N 81 (p.length : Int) _ (m + 1) z (jn : Int) = FX10_tally_l12 N 81 (p.length : Int) _ m _ ((jn : Int) + 1)
          rw [start, if_pos e]
        · by_cases ei : (i : Int) = jn
          · rw [ei, mu_eq]
          · rw [mu_ne (by omega), wo 96 (by omega)]; exact z3 hAe i (by omega)
      · have hAe : A ≠ [] := fun q => by rw [q] at t1; apply e; rw [w0, t1]; rfl
        refine ⟨w, ?_, by omega, w0, wk, fun q => absurd q hAe, fun _ i => by rw [wo 96 (by omega)]; exact z4 hAe i, fun a a1 a2 => by rw [wo a a2]; exact z5 a a1 a2⟩
        show FX10_tally_l12 N 81 (p.length : Int) _ (m + 1) z (jn : Int) = FX10_tally_l12 N 81 (p.length : Int) _ m _ ((jn : Int) + 1)
        rw [start, if_neg e]) N 0 x0 ⟨by omega, by rw [hx0, mu_eq], fun k k0 k1 => by rw [hx0, mu_ne (by omega)]; show _ = x 97 k + 0; omega, fun _ i hi => by omega, fun _ i => by rw [hx0, mu_ne (by omega)], fun a a1 a2 => by rw [hx0, mu_rw a2]⟩ (by omega) (by omega)
  obtain ⟨_, y3, y4, y5, y6, y7⟩ := y1
  refine ⟨y, ?_, ?_, y7⟩
  · unfold FX10_tally
    simp only [Nat.reduceAdd]
    rw [rd_ok (by omega) (by omega), Option.bind_some, w32_id (x := x 97 0 + 1) (by omega) (by omega), wr_ok (by omega) (by omega), Option.bind_some, ← hx0]
    exact y2
  · refine Tot_snoc hT rfl y3 (fun k k0 k1 => by have := y4 k k0 k1; rw [Int.toNat_natCast] at this; exact this) (fun hA j hj => y5 hA j (by omega)) (fun hA j _ => y6 hA j)
/-- what the rows at a level leave alone -/
def Gf (L : Nat) (x x' : iv_M) : Prop := (∀ a, (a < 82 ∨ 97 < a ∨ a = 91) → x' a = x a) ∧ (∀ l : Nat, l < L → x' (92 + l) = x (92 + l)) ∧ (∀ l : Nat, l < L → x' 95 l = x 95 l) ∧ ∀ i, i ≠ 5 → i ≠ 6 → x' 89 i = x 89 i
theorem Gf.refl {L : Nat} {x : iv_M} : Gf L x x := ⟨fun _ _ => rfl, fun _ _ => rfl, fun _ _ => rfl, fun _ _ _ => rfl⟩
theorem Gf.trans {L : Nat} {x y z : iv_M} (h : Gf L x y) (h2 : Gf L y z) : Gf L x z := ⟨fun a ha => by rw [h2.1 a ha, h.1 a ha], fun l hl => by rw [h2.2.1 l hl, h.2.1 l hl], fun l hl => by rw [h2.2.2.1 l hl, h.2.2.1 l hl], fun i h5 h6 => by rw [h2.2.2.2 i h5 h6, h.2.2.2 i h5 h6]⟩
theorem Gf.less {L L' : Nat} {x y : iv_M} (hL : L' ≤ L) (h : Gf L x y) : Gf L' x y := ⟨h.1, fun l hl => h.2.1 l (by omega), fun l hl => h.2.2.1 l (by omega), h.2.2.2⟩
theorem Gf.plc {L : Nat} {x y : iv_M} {pre : List (Int × Int)} (h : Gf L x y) (hp : pre.length ≤ L) (hl : Plc x pre) : Plc y pre := fun l hll => by
  rw [h.2.2.1 l (by omega), h.2.1 l (by omega)]; exact hl l hll
