-- MISMATCHES of a floor, as the class counts them
def su (f : Int → Int) : Nat → Int
  | 0 => 0
  | n + 1 => su f n + f n
theorem su_next {f : Int → Int} {i : Int} (h : 0 ≤ i) : su f (i + 1).toNat = su f i.toNat + f i := by
  rw [show (i + 1).toNat = i.toNat + 1 by omega]
  show su f i.toNat + f (i.toNat : Int) = _
  rw [Int.toNat_of_nonneg h]
theorem su_le {f : Int → Int} {m : Int} : ∀ n : Nat, (∀ i : Int, 0 ≤ i → i < n → 0 ≤ f i ∧ f i ≤ m) → 0 ≤ su f n ∧ su f n ≤ m * n := by
  intro n
  induction n with
  | zero => intro _; exact ⟨Int.le_refl 0, by simp [su]⟩
  | succ n ih =>
    intro h
    have h1 := ih (fun i i0 i1 => h i i0 (by omega))
    have h2 := h n (by omega) (by omega)
    show 0 ≤ su f n + f n ∧ su f n + f n ≤ m * ((n + 1 : Nat) : Int)
    rw [Int.natCast_add, Int.mul_add]
    omega
theorem su_ext {f : Int → Int} {n : Nat} : ∀ m : Nat, n ≤ m → (∀ i : Int, n ≤ i → i < m → f i = 0) → su f m = su f n := by
  intro m
  induction m with
  | zero => intro h _; rw [show n = 0 by omega]
  | succ m ih =>
    intro h hz
    by_cases e : n = m + 1
    · rw [e]
    · show su f m + f m = _
      rw [hz m (by omega) (by omega), ih (by omega) (fun i i0 i1 => hz i i0 (by omega))]
      omega
theorem su_congr {f g : Int → Int} : ∀ n : Nat, (∀ i : Int, 0 ≤ i → i < n → f i = g i) → su f n = su g n := by
  intro n
  induction n with
  | zero => intro _; rfl
  | succ n ih =>
    intro h
    show su f n + f n = su g n + g n
    rw [ih (fun i i0 i1 => h i i0 (by omega)), h n (by omega) (by omega)]
def mm (B : iv_M) : Int := su (fun c => ed B c 1 + ed B c 2) 16 + su (fun x => ed B x 0) 4 + su (fun y => ed B (4 * y) 3) 4
theorem bd_01 (a b : Int) : 0 ≤ bd a b ∧ bd a b ≤ 1 := by unfold bd; repeat' split; all_goals omega
theorem ed_01 (B : iv_M) (c d : Int) : 0 ≤ ed B c d ∧ ed B c d ≤ 1 := bd_01 _ _
theorem kd_out {B : iv_M} {c : Int} (d : Int) (hc : Wc B) (c0 : 0 ≤ c) (c1 : c < 16) (h : ¬ (c % 4 < B 114 0 ∧ c / 4 < B 114 1)) : kd B c d = 3 := by
  unfold kd
  rcases hc c c0 c1 with e | e
  · rw [if_pos e]
  · omega
theorem kdn_out {B : iv_M} {c d : Int} (h : ¬ isC B (c % 4 + dxx d) (c / 4 + dyy d)) : kdn B c d = 3 := by
  unfold kdn nb
  rw [if_neg h, if_pos rfl]
theorem ed_out {B : iv_M} {c d : Int} (hc : Wc B) (c0 : 0 ≤ c) (c1 : c < 16) (h : ¬ (c % 4 < B 114 0 ∧ c / 4 < B 114 1)) (hd : d = 1 ∨ d = 2 ∨ (d = 0 ∧ c < 4) ∨ (d = 3 ∧ c % 4 = 0)) : ed B c d = 0 := by
  unfold ed
  rw [kd_out d hc c0 c1 h, kdn_out]
  · rfl
  · unfold isC dxx dyy
    rcases hd with rfl | rfl | ⟨rfl, h4⟩ | ⟨rfl, h4⟩ <;> simp <;> omega
def mmg (B : iv_M) (y x : Int) : Int := (ed B (4 * y + x) 1 + ed B (4 * y + x) 2) + (if y = 0 then ed B (4 * y + x) 0 else 0) + (if x = 0 then ed B (4 * y + x) 3 else 0)
theorem mmg_le (B : iv_M) (y x : Int) : 0 ≤ mmg B y x ∧ mmg B y x ≤ 4 := by
  have h0 := ed_01 B (4 * y + x) 0
  have h1 := ed_01 B (4 * y + x) 1
  have h2 := ed_01 B (4 * y + x) 2
  have h3 := ed_01 B (4 * y + x) 3
  unfold mmg
  repeat' split
  all_goals omega
theorem mmg_out {B : iv_M} {x y : Int} (hc : Wc B) (x0 : 0 ≤ x) (x1 : x < 4) (y0 : 0 ≤ y) (y1 : y < 4) (h : ¬ (x < B 114 0 ∧ y < B 114 1)) : mmg B y x = 0 := by
  have hh : ¬ ((4 * y + x) % 4 < B 114 0 ∧ (4 * y + x) / 4 < B 114 1) := by
    rw [show (4 * y + x) % 4 = x by omega, show (4 * y + x) / 4 = y by omega]; exact h
  unfold mmg
  rw [ed_out (d := 1) hc (by omega) (by omega) hh (by omega), ed_out (d := 2) hc (by omega) (by omega) hh (by omega)]
  by_cases e1 : y = 0
  · rw [if_pos e1, ed_out (d := 0) hc (by omega) (by omega) hh (by omega)]
    by_cases e2 : x = 0
    · rw [if_pos e2, ed_out (d := 3) hc (by omega) (by omega) hh (by omega)]; rfl
    · rw [if_neg e2]; rfl
  · rw [if_neg e1]
    by_cases e2 : x = 0
    · rw [if_pos e2, ed_out (d := 3) hc (by omega) (by omega) hh (by omega)]; rfl
    · rw [if_neg e2]; rfl
theorem mm_rows {B : iv_M} (hW : Wa B) (hc : Wc B) : su (fun y => su (mmg B y) (B 114 0).toNat) (B 114 1).toNat = mm B := by
  obtain ⟨h1, h2, h3, h4, _⟩ := hW
  have e1 : su (fun y => su (mmg B y) (B 114 0).toNat) (B 114 1).toNat = su (fun y => su (mmg B y) 4) (B 114 1).toNat :=
    su_congr _ (fun y y0 y1 => (su_ext 4 (by omega) (fun x x0 x1 => mmg_out hc (by omega) (by omega) y0 (by omega) (by omega))).symm)
  have e2 : su (fun y => su (mmg B y) 4) 4 = su (fun y => su (mmg B y) 4) (B 114 1).toNat :=
    su_ext 4 (by omega) (fun y y0 y1 => by
      have z : ∀ x, 0 ≤ x → x < 4 → mmg B y x = 0 := fun x x0 x1 => mmg_out hc x0 x1 (by omega) (by omega) (by omega)
      show su (mmg B y) 4 = 0
      have := su_ext (f := mmg B y) (n := 0) 4 (by omega) (fun x x0 x1 => z x (by omega) (by omega))
      rw [this]; rfl)
  rw [e1, ← e2]
  simp only [su, mmg, mm]
  simp
  omega
theorem FX1_mm_in {N q : Nat} {s B : iv_M} {y a : Int} {kx : Int → Option Int} (hF : FRc s q B) (hW : Wa B) (y0 : 0 ≤ y) (y1 : y < 4) (a0 : 0 ≤ a) (a1 : a ≤ 1000) (hN : 10 ≤ N) : FX1_mismatches_l14 N s q y kx N a 0 = kx (a + su (mmg B y) (B 114 0).toNat) := by
  have hF' := hF
  obtain ⟨f0, f1, f2, f3, f4, f5, f6, f7⟩ := hF
  have hW' := hW
  obtain ⟨h1, h2, h3, h4, _⟩ := hW
  obtain ⟨z, e1, e2⟩ := loop_up (L := fun n x i => FX1_mismatches_l14 N s q y kx n x i) (k := kx) (hi := B 114 0) (fun i x => x = a + su (mmg B y) i.toNat ∧ 0 ≤ i) (fun n x hx => by
      show FX1_mismatches_l14 N s q y kx (n + 1) x (B 114 0) = kx x
      rw [FX1_mismatches_l14, if_pos (by omega)]) (fun n i x hx hi => by
      obtain ⟨hx, i0⟩ := hx
      have hb := su_le (f := mmg B y) (m := 4) i.toNat (fun j _ _ => mmg_le B y j)
      have b0 := ed_01 B (4 * y + i) 0
      have b1 := ed_01 B (4 * y + i) 1
      have b2 := ed_01 B (4 * y + i) 2
      have b3 := ed_01 B (4 * y + i) 3
      refine ⟨x + mmg B y i, ?_, ?_, by omega⟩
      · show FX1_mismatches_l14 N s q y kx (n + 1) x i = FX1_mismatches_l14 N s q y kx n (x + mmg B y i) (i + 1)
        rw [FX1_mismatches_l14, if_neg (by omega)]
        simp (disch := omega) only [w32_id, FX1_border_ok hF' hW', Option.bind_some]
        unfold mmg
        by_cases c1 : y = 0
        · rw [if_pos c1]
          simp (disch := omega) only [FX1_border_ok hF' hW', Option.bind_some, if_pos c1]
          unfold FX1_mismatches_b63 FX1_mismatches_b81
          by_cases c2 : i = 0
          · rw [if_pos c2, if_pos c2]
            simp (disch := omega) only [w32_id, FX1_border_ok hF' hW', Option.bind_some]
            congr 1; omega
          · rw [if_neg c2, if_neg c2]
            simp (disch := omega) only [w32_id]
            congr 1; omega
        · rw [if_neg c1, if_neg c1]
          unfold FX1_mismatches_b63 FX1_mismatches_b81
          by_cases c2 : i = 0
          · rw [if_pos c2, if_pos c2]
            simp (disch := omega) only [w32_id, FX1_border_ok hF' hW', Option.bind_some]
            congr 1; omega
          · rw [if_neg c2, if_neg c2]
            simp (disch := omega) only [w32_id]
            congr 1; omega
      · rw [su_next i0, hx]; omega) N 0 a ⟨by simp [su], by omega⟩ (by omega) (by omega)
  rw [← e1.1]; exact e2
theorem FX1_mismatches_ok {N q : Nat} {s B : iv_M} (hF : FRc s q B) (hW : Wa B) (hc : Wc B) (hN : 10 ≤ N) : FX1_mismatches N s q = some (mm B) := by
  have hF' := hF
  obtain ⟨f0, f1, f2, f3, f4, f5, f6, f7⟩ := hF
  have hW' := hW
  obtain ⟨h1, h2, h3, h4, _⟩ := hW
  unfold FX1_mismatches
  obtain ⟨z, e1, e2⟩ := loop_up (L := fun n x i => FX1_mismatches_l4 N s q (fun (x302_1 : Int) => (some x302_1)) n x i) (k := fun x => some x) (hi := B 114 1) (fun i x => x = su (fun y => su (mmg B y) (B 114 0).toNat) i.toNat ∧ 0 ≤ i) (fun n x hx => by
      show FX1_mismatches_l4 N s q (fun (x302_1 : Int) => (some x302_1)) (n + 1) x (B 114 1) = some x
      rw [FX1_mismatches_l4, if_pos (by omega)]) (fun n i x hx hi => by
      obtain ⟨hx, i0⟩ := hx
      have hb := su_le (f := fun y => su (mmg B y) (B 114 0).toNat) (m := 16) i.toNat (fun j _ _ => by
        have := su_le (f := mmg B j) (m := 4) (B 114 0).toNat (fun j' _ _ => mmg_le B j j')
        show 0 ≤ su (mmg B j) (B 114 0).toNat ∧ su (mmg B j) (B 114 0).toNat ≤ 16
        omega)
      refine ⟨x + su (mmg B i) (B 114 0).toNat, ?_, ?_, by omega⟩
      · show FX1_mismatches_l4 N s q (fun (x302_1 : Int) => (some x302_1)) (n + 1) x i = FX1_mismatches_l4 N s q (fun (x302_1 : Int) => (some x302_1)) n (x + su (mmg B i) (B 114 0).toNat) (i + 1)
        rw [FX1_mismatches_l4, if_neg (by omega), FX1_mm_in hF' hW' i0 (by omega) (by omega) (by omega) hN, w32_id (by omega) (by omega)]
      · rw [su_next i0, hx]) N 0 0 ⟨by simp [su], by omega⟩ (by omega) (by omega)
  show FX1_mismatches_l4 N s q (fun (x302_1 : Int) => (some x302_1)) N 0 0 = _
  have e2 : FX1_mismatches_l4 N s q (fun (x302_1 : Int) => (some x302_1)) N 0 0 = some z := e2
  rw [e2, e1.1, mm_rows hW' hc]
