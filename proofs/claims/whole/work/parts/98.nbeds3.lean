-- BEDS: the reference tries every way
def bSt (v : Int) (u : Nat → Bool) : Prop := 0 ≤ v ∧ v < 4096 ∧ ∀ j : Nat, j < 12 → (bAn (sr32 v j) 1 = 1 ↔ u j = true)
theorem tb_iff {w j : Nat} (hj : j < 32) : bAn (sr32 (w : Int) (j : Int)) 1 = 1 ↔ w.testBit j = true := by
  rw [bt_int hj, Nat.testBit_eq_decide_div_mod_eq, decide_eq_true_iff]
  unfold bbt
  omega
theorem bSt_0 : bSt 0 (fun _ => false) := by
  refine ⟨by decide, by decide, fun j hj => ?_⟩
  have := tb_iff (w := 0) (j := j) (by omega)
  rw [show ((0 : Nat) : Int) = 0 by rfl] at this
  rw [this, Nat.zero_testBit]
theorem bSt_or {v : Int} {u : Nat → Bool} {r : Nat} (h : bSt v u) (hr : r < 12) : bSt (bOr v (sl32 1 r)) (bad u r) := by
  obtain ⟨h0, h1, h2⟩ := h
  obtain ⟨w, rfl⟩ := Int.eq_ofNat_of_zero_le h0
  have hw : w < 2 ^ 12 := by have : (2 : Nat) ^ 12 = 4096 := by decide
                             omega
  have h2r : 2 ^ r < 2 ^ 12 := Nat.pow_lt_pow_right (by decide) hr
  have h12 : (2 : Nat) ^ 12 = 4096 := by decide
  have hlt := Nat.or_lt_two_pow hw h2r
  rw [sl32_1 (by omega) (by omega), Int.toNat_natCast, bOr_nat (by omega) (by omega)]
  refine ⟨by omega, by omega, fun j hj => ?_⟩
  rw [tb_iff (by omega), Nat.testBit_or, Nat.testBit_two_pow]
  have := h2 j hj
  rw [tb_iff (by omega)] at this
  unfold bad
  cases hb : w.testBit j <;> cases hu : u j
  · simp only [Bool.false_or, decide_eq_true_iff, beq_iff_eq]; omega
  · rw [hb, hu] at this; simp at this
  · rw [hb, hu] at this; simp at this
  · simp
theorem bSt_an {v : Int} {u : Nat → Bool} {r : Nat} (h : bSt v u) (hr : r < 12) : bSt (bAn v (sl32 1 r)) (fun x => u x && x == r) := by
  obtain ⟨h0, h1, h2⟩ := h
  obtain ⟨w, rfl⟩ := Int.eq_ofNat_of_zero_le h0
  have h12 : (2 : Nat) ^ 12 = 4096 := by decide
  have h2r : 2 ^ r < 2 ^ 12 := Nat.pow_lt_pow_right (by decide) hr
  have hlt : w &&& 2 ^ r ≤ w := Nat.and_le_left
  rw [sl32_1 (by omega) (by omega), Int.toNat_natCast, bAn_nat (by omega) (by omega)]
  refine ⟨by omega, by omega, fun j hj => ?_⟩
  rw [tb_iff (by omega), Nat.testBit_and, Nat.testBit_two_pow]
  have := h2 j hj
  rw [tb_iff (by omega)] at this
  show (w.testBit j && decide (r = j)) = true ↔ (u j && j == r) = true
  cases hb : w.testBit j <;> cases hu : u j
  · simp
  · rw [hb, hu] at this; simp at this
  · rw [hb, hu] at this; simp at this
  · simp only [Bool.true_and, decide_eq_true_iff, beq_iff_eq]; omega
/-- what has been written down of the ways found -/
def bTb (P : Nat) (c : Int) (z : iv_M) (A : List (List Nat)) : Prop := c = A.length ∧ (∀ p r : Nat, p < P → r < 12 → z 167 ((12 * p + r : Nat) : Int) = ((A.filter (fun l => l.getD p 12 == r)).length : Int)) ∧ ∀ l ls, A = l :: ls → ∀ p : Nat, p < P → z 166 p = ((l.getD p 12 : Nat) : Int)
theorem bTb_ext {P : Nat} {c : Int} {z z' : iv_M} {A : List (List Nat)} (h6 : z' 166 = z 166) (h7 : z' 167 = z 167) (h : bTb P c z A) : bTb P c z' A := by unfold bTb at h ⊢; rw [h6, h7]; exact h
theorem notesBeds_ok {N P : Nat} {c : Int} {z : iv_M} {A : List (List Nat)} {l : List Nat} (hN : 100 ≤ N) (hP : P ≤ 6) (hA : A.length ≤ 3000000) (h : bTb P c z A) (hl : ∀ p : Nat, p < P → l.getD p 12 < 12 ∧ z 164 p = ((l.getD p 12 : Nat) : Int)) {b : Int} (hb : b = if c = 0 then 1 else 0) : ∃ z', FX12_notesBeds N z 113 (P : Int) b = some z' ∧ bTb P (c + 1) z' (A ++ [l]) ∧ ∀ a, a ≠ 166 → a ≠ 167 → z' a = z a := by
  obtain ⟨h1, h2, h3⟩ := h
  have cnt : ∀ p r : Nat, ((A ++ [l]).filter (fun l => l.getD p 12 == r)).length = (A.filter (fun l => l.getD p 12 == r)).length + (if l.getD p 12 = r then 1 else 0) := fun p r => by
    rw [List.filter_append, List.length_append]
    congr 1
    by_cases e : l.getD p 12 = r
    · rw [if_pos e, List.filter_cons_of_pos (by simpa using e)]; rfl
    · rw [if_neg e, List.filter_cons_of_neg (by simpa using e)]; rfl
  have cle : ∀ p r : Nat, (A.filter (fun l => l.getD p 12 == r)).length ≤ 3000000 := fun p r => Nat.le_trans (List.length_filter_le _ _) hA
  obtain ⟨y, ⟨_, y1, y2, y3, y4⟩, y5⟩ := loop_up (L := fun m x i => FX12_notesBeds_l2 N 113 (P : Int) b (fun (s_4127 : iv_M) => some s_4127) m x i) (k := fun (s_4127 : iv_M) => some s_4127) (hi := (P : Int)) (fun j x => 0 ≤ j ∧ (∀ p r : Nat, p < P → r < 12 → x 167 ((12 * p + r : Nat) : Int) = z 167 ((12 * p + r : Nat) : Int) + (if (p : Int) < j ∧ l.getD p 12 = r then 1 else 0)) ∧ (b = 0 → ∀ p : Nat, p < P → x 166 p = z 166 p) ∧ (b ≠ 0 → ∀ p : Nat, (p : Int) < j → x 166 p = ((l.getD p 12 : Nat) : Int)) ∧ ∀ a, a ≠ 166 → a ≠ 167 → x a = z a) (fun m x hx => by
      show FX12_notesBeds_l2 N 113 (P : Int) b _ (m + 1) x (P : Int) = _
      rw [FX12_notesBeds_l2, if_pos (by omega)]) (fun m j x hx hj => by
      obtain ⟨x0, x1, x2, x3, x4⟩ := hx
      obtain ⟨p, rfl⟩ := Int.eq_ofNat_of_zero_le x0
      have hpP : p < P := by omega
      obtain ⟨l1, l2⟩ := hl p hpP
      obtain ⟨r, hr⟩ : ∃ r, r = l.getD p 12 := ⟨_, rfl⟩
      rw [← hr] at l1 l2
      have v164 : x 164 p = (r : Int) := by rw [x4 164 (by omega) (by omega)]; exact l2
      have v167 := x1 p r hpP l1
      have hc := h2 p r hpP l1
      have hcl := cle p r
      rw [if_neg (by omega), Int.add_zero] at v167
      have s6 : ((sh 166).2 : Int) = 6 := by decide
      have e12 : (12 : Int) * p + r = ((12 * p + r : Nat) : Int) := by omega
      obtain ⟨w, hw⟩ : ∃ w, w = mu x 167 ((12 * p + r : Nat) : Int) (x 167 ((12 * p + r : Nat) : Int) + 1) := ⟨_, rfl⟩
      have b51 : ∀ v, FX12_notesBeds_b51 N w 113 (P : Int) b (p : Int) v (p : Int) 166 (FX12_notesBeds_l2 N 113 (P : Int) b (fun (s_4127 : iv_M) => some s_4127) m) (fun (s_4127 : iv_M) => some s_4127) = FX12_notesBeds_l2 N 113 (P : Int) b (fun (s_4127 : iv_M) => some s_4127) m (mu w 166 (p : Int) v) ((p : Int) + 1) := fun v => by
        unfold FX12_notesBeds_b51
        rw [s6, wr_ok (by omega) (by omega), Option.bind_some, w32_id (by omega) (by omega)]
      have start : FX12_notesBeds_l2 N 113 (P : Int) b (fun (s_4127 : iv_M) => some s_4127) (m + 1) x (p : Int) = (if b = 0 then FX12_notesBeds_l2 N 113 (P : Int) b (fun (s_4127 : iv_M) => some s_4127) m (mu w 166 (p : Int) (x 166 p)) ((p : Int) + 1) else FX12_notesBeds_l2 N 113 (P : Int) b (fun (s_4127 : iv_M) => some s_4127) m (mu w 166 (p : Int) (r : Int)) ((p : Int) + 1)) := by
        rw [FX12_notesBeds_l2, if_neg (by omega)]
        simp only [Nat.reduceAdd]
        rw [rd_ok (by omega) (by omega), Option.bind_some, v164, w32_id (x := 12 * (p : Int)) (by omega) (by omega), w32_id (x := 12 * (p : Int) + r) (by omega) (by omega), e12, rd_ok (by omega) (by omega), Option.bind_some, w32_id (x := x 167 _ + 1) (by rw [v167, hc]; omega) (by rw [v167, hc]; omega), wr_ok (by omega) (by omega), Option.bind_some, ← hw, rd_ok (by omega) (by omega), Option.bind_some, rd_ok (by omega) (by omega), Option.bind_some, hw, mu_rw (show (166 : Nat) ≠ 167 by decide), mu_rw (show (164 : Nat) ≠ 167 by decide), v164, ← hw, b51, b51]
      have good : ∀ v, (∀ p' r' : Nat, p' < P → r' < 12 → mu w 166 (p : Int) v 167 ((12 * p' + r' : Nat) : Int) = z 167 ((12 * p' + r' : Nat) : Int) + (if (p' : Int) < (p : Int) + 1 ∧ l.getD p' 12 = r' then 1 else 0)) := fun v p' r' hp' hr' => by
        rw [mu_ne (by omega), hw]
        by_cases e : p' = p ∧ r' = r
        · rw [e.1, e.2, mu_eq, v167, if_pos ⟨by omega, hr.symm⟩]
        · rw [mu_ne (by omega), x1 p' r' hp' hr']
          by_cases q : (p' : Int) < p ∧ l.getD p' 12 = r'
          · rw [if_pos q, if_pos ⟨by omega, q.2⟩]
          · rw [if_neg q, if_neg (fun k => by
              by_cases pp : p' = p
              · subst pp; exact e ⟨rfl, by rw [hr]; exact k.2.symm⟩
              · exact q ⟨by omega, k.2⟩)]
      show ∃ z', FX12_notesBeds_l2 N 113 (P : Int) b (fun (s_4127 : iv_M) => some s_4127) (m + 1) x (p : Int) = FX12_notesBeds_l2 N 113 (P : Int) b (fun (s_4127 : iv_M) => some s_4127) m z' ((p : Int) + 1) ∧ _
      have ow : ∀ v a, a ≠ 166 → a ≠ 167 → mu w 166 (p : Int) v a = z a := fun v a a1 a2 => by rw [mu_rw a1, hw, mu_rw a2]; exact x4 a a1 a2
      by_cases e : b = 0
      · rw [start, if_pos e]
        refine ⟨_, rfl, by omega, good _, fun _ q hq => ?_, fun k => absurd e k, ow _⟩
        by_cases qq : q = p
        · rw [qq, mu_eq]; exact x2 e p hpP
        · rw [mu_ne (by omega), hw, mu_rw (by omega)]; exact x2 e q hq
      · rw [start, if_neg e]
        refine ⟨_, rfl, by omega, good _, fun k => absurd k e, fun _ q hq => ?_, ow _⟩
        by_cases qq : q = p
        · rw [qq, mu_eq, hr]
        · rw [mu_ne (by omega), hw, mu_rw (by omega)]; exact x3 e q (by omega)) N 0 z ⟨by omega, fun p r _ _ => by rw [if_neg (by omega), Int.add_zero], fun _ _ _ => rfl, fun _ p hp => by omega, fun _ _ _ => rfl⟩ (by omega) (by omega)
  refine ⟨y, by unfold FX12_notesBeds; exact y5, ⟨?_, fun p r hp hr => ?_, fun l' ls e p hp => ?_⟩, y4⟩
  · rw [h1, List.length_append]; simp
  · rw [y1 p r hp hr, h2 p r hp hr, cnt]
    by_cases e : l.getD p 12 = r
    · rw [if_pos ⟨by omega, e⟩, if_pos e]; omega
    · rw [if_neg (fun k => e k.2), if_neg e]; omega
  · cases A with
    | nil =>
      have hc : c = 0 := h1
      have hb1 : b ≠ 0 := by rw [hb, if_pos hc]; decide
      have : l' = l := by injection e with e1 e2; exact e1.symm
      rw [this]; exact y3 hb1 p (by omega)
    | cons a as =>
      have hc : c ≠ 0 := by rw [h1]; show ((as.length + 1 : Nat) : Int) ≠ 0; omega
      have hb0 : b = 0 := by rw [hb, if_neg hc]
      have : l' = a := by injection e with e1 e2; exact e1.symm
      rw [y2 hb0 p hp, this]; exact h3 a as rfl p hp
