-- DIGITS: many small numbers in one
theorem nat_setd {a c k w : Nat} (ha : a < 2 ^ 64) (hc : c < 2 ^ w) (hs : (2 ^ w - 1) * 2 ^ k < 2 ^ 64) : (a &&& (2 ^ 64 - ((2 ^ w - 1) * 2 ^ k + 1))) ||| (c * 2 ^ k) = 2 ^ (k + w) * (a / 2 ^ (k + w)) + (2 ^ k * c + a % 2 ^ k) := by
  apply Nat.eq_of_testBit_eq
  intro i
  have hlo : a % 2 ^ k < 2 ^ k := Nat.mod_lt _ (Nat.two_pow_pos k)
  have hmid : 2 ^ k * c + a % 2 ^ k < 2 ^ (k + w) := by
    rw [Nat.pow_add]
    calc 2 ^ k * c + a % 2 ^ k < 2 ^ k * c + 2 ^ k := by omega
      _ = 2 ^ k * (c + 1) := by rw [Nat.mul_add, Nat.mul_one]
      _ ≤ 2 ^ k * 2 ^ w := Nat.mul_le_mul_left _ (by omega)
  rw [Nat.testBit_or, Nat.testBit_and, Nat.testBit_two_pow_sub_succ hs, Nat.testBit_two_pow_mul_add _ hmid, Nat.mul_comm (2 ^ w - 1) (2 ^ k), Nat.mul_comm c (2 ^ k), Nat.testBit_two_pow_mul, Nat.testBit_two_pow_mul]
  by_cases h1 : i < k + w
  · rw [if_pos h1, Nat.testBit_two_pow_mul_add _ hlo]
    by_cases h2 : i < k
    · rw [if_pos h2, Nat.testBit_mod_two_pow]
      have : ¬ (i ≥ k) := by omega
      simp [this, h2]
      intro hb
      by_cases h3 : i < 64
      · exact h3
      · exfalso
        have := Nat.testBit_lt_two_pow (x := a) (i := i) (Nat.lt_of_lt_of_le ha (Nat.pow_le_pow_right (by decide) (by omega)))
        rw [this] at hb; cases hb
    · rw [if_neg h2]
      have hge : k ≤ i := by omega
      have : (2 ^ w - 1).testBit (i - k) = true := by rw [Nat.testBit_two_pow_sub_one]; simp; omega
      simp [hge, this]
  · rw [if_neg h1, Nat.testBit_div_two_pow]
    have hge : k ≤ i := by omega
    have e1 : (2 ^ w - 1).testBit (i - k) = false := by rw [Nat.testBit_two_pow_sub_one]; simp; omega
    have e2 : c.testBit (i - k) = false := Nat.testBit_lt_two_pow (Nat.lt_of_lt_of_le hc (Nat.pow_le_pow_right (by decide) (by omega)))
    have e3 : i - (k + w) + (k + w) = i := by omega
    rw [e3, e1, e2]
    simp
    intro hb
    by_cases h3 : i < 64
    · exact h3
    · exfalso
      have := Nat.testBit_lt_two_pow (x := a) (i := i) (Nat.lt_of_lt_of_le ha (Nat.pow_le_pow_right (by decide) (by omega)))
      rw [this] at hb; cases hb

theorem setd {a c k w : Nat} (ha : a < 4611686018427387904) (hc : c < 2 ^ w) (hkw : k + w ≤ 62) : bOr (bAn (a : Int) (bXo (((2 ^ w - 1) * 2 ^ k : Nat) : Int) (-1))) ((c * 2 ^ k : Nat) : Int) = ((2 ^ (k + w) * (a / 2 ^ (k + w)) + (2 ^ k * c + a % 2 ^ k) : Nat) : Int) := by
  have hp : (2 : Nat) ^ (k + w) ≤ 2 ^ 62 := Nat.pow_le_pow_right (by decide) hkw
  have hs : (2 ^ w - 1) * 2 ^ k < 4611686018427387904 := by
    calc (2 ^ w - 1) * 2 ^ k < 2 ^ w * 2 ^ k := Nat.mul_lt_mul_of_pos_right (by have := Nat.two_pow_pos w; omega) (Nat.two_pow_pos k)
      _ = 2 ^ (k + w) := by rw [← Nat.pow_add, Nat.add_comm]
      _ ≤ 2 ^ 62 := hp
  have hc2 : c * 2 ^ k < 4611686018427387904 := by
    calc c * 2 ^ k < 2 ^ w * 2 ^ k := Nat.mul_lt_mul_of_pos_right hc (Nat.two_pow_pos k)
      _ = 2 ^ (k + w) := by rw [← Nat.pow_add, Nat.add_comm]
      _ ≤ 2 ^ 62 := hp
  unfold bOr bAn bXo
  rw [Int64.ofInt_toInt, Int64.ofInt_toInt]
  have e : ((Int64.ofInt (a : Int) &&& (Int64.ofInt (((2 ^ w - 1) * 2 ^ k : Nat) : Int) ^^^ Int64.ofInt (-1))) ||| Int64.ofInt ((c * 2 ^ k : Nat) : Int)).toBitVec.toNat = (a &&& (2 ^ 64 - ((2 ^ w - 1) * 2 ^ k + 1))) ||| (c * 2 ^ k) := by
    rw [Int64.toBitVec_or, BitVec.toNat_or, Int64.toBitVec_and, BitVec.toNat_and, Int64.toBitVec_xor, show (Int64.ofInt (-1)).toBitVec = BitVec.allOnes 64 from rfl, BitVec.xor_allOnes, BitVec.toNat_not, i64_mod, i64_mod, i64_mod]
    rw [show ((a : Int) % 18446744073709551616).toNat = a by omega, show ((((2 ^ w - 1) * 2 ^ k : Nat) : Int) % 18446744073709551616).toNat = (2 ^ w - 1) * 2 ^ k by omega, show (((c * 2 ^ k : Nat) : Int) % 18446744073709551616).toNat = c * 2 ^ k by omega]
    congr 2
    omega
  rw [nat_setd (by omega) hc (by omega)] at e
  have h1 : 2 ^ (k + w) * (a / 2 ^ (k + w)) ≤ a := Nat.mul_div_le _ _
  have h2 : a % 2 ^ k < 2 ^ k := Nat.mod_lt _ (Nat.two_pow_pos k)
  have h3 : (2 : Nat) ^ k ≤ 2 ^ 62 := Nat.pow_le_pow_right (by decide) (by omega)
  have h4 : 2 ^ k * c + a % 2 ^ k < 2 ^ (k + w) := by
    rw [Nat.pow_add]
    calc 2 ^ k * c + a % 2 ^ k < 2 ^ k * c + 2 ^ k := by omega
      _ = 2 ^ k * (c + 1) := by rw [Nat.mul_add, Nat.mul_one]
      _ ≤ 2 ^ k * 2 ^ w := Nat.mul_le_mul_left _ (by omega)
  show ((Int64.ofInt (a : Int) &&& (Int64.ofInt (((2 ^ w - 1) * 2 ^ k : Nat) : Int) ^^^ Int64.ofInt (-1))) ||| Int64.ofInt ((c * 2 ^ k : Nat) : Int)).toBitVec.toInt = _
  rw [bv_small (by rw [e]; omega), e]
/-- the number with digits f in base 2^w -/
def pkd (w : Nat) (f : Int → Int) : Nat → Int
  | 0 => 0
  | n + 1 => pkd w f n + f n * 2 ^ (w * n)
theorem pkd_lt {w : Nat} {f : Int → Int} : ∀ n : Nat, (∀ i : Int, 0 ≤ i → i < n → 0 ≤ f i ∧ f i < 2 ^ w) → 0 ≤ pkd w f n ∧ pkd w f n < 2 ^ (w * n) := by
  intro n
  induction n with
  | zero => intro _; exact ⟨Int.le_refl 0, by simp [pkd]⟩
  | succ n ih =>
    intro h
    obtain ⟨h1, h2⟩ := ih (fun i i0 i1 => h i i0 (by omega))
    obtain ⟨h3, h4⟩ := h n (by omega) (by omega)
    have hp : (0 : Int) < 2 ^ (w * n) := Int.pow_pos (by decide)
    refine ⟨Int.add_nonneg h1 (Int.mul_nonneg h3 (Int.le_of_lt hp)), ?_⟩
    show pkd w f n + f n * 2 ^ (w * n) < 2 ^ (w * (n + 1))
    rw [Nat.mul_add, Nat.mul_one, Int.pow_add, Int.mul_comm (2 ^ (w * n)) (2 ^ w)]
    have h5 : (f n + 1) * 2 ^ (w * n) ≤ 2 ^ w * 2 ^ (w * n) := Int.mul_le_mul_of_nonneg_right (by omega) (Int.le_of_lt hp)
    rw [Int.add_mul, Int.one_mul] at h5
    omega
theorem pkd_congr {w : Nat} {f g : Int → Int} : ∀ n : Nat, (∀ i : Int, 0 ≤ i → i < n → f i = g i) → pkd w f n = pkd w g n := by
  intro n
  induction n with
  | zero => intro _; rfl
  | succ n ih =>
    intro h
    show pkd w f n + f n * _ = pkd w g n + g n * _
    rw [ih (fun i i0 i1 => h i i0 (by omega)), h n (by omega) (by omega)]
theorem pkd_dig {w : Nat} {f : Int → Int} {r : Nat} : ∀ n : Nat, r < n → (∀ i : Int, 0 ≤ i → i < n → 0 ≤ f i ∧ f i < 2 ^ w) → pkd w f n / 2 ^ (w * r) % 2 ^ w = f r := by
  intro n
  induction n with
  | zero => intro h _; omega
  | succ n ih =>
    intro hr h
    have hp : (0 : Int) < 2 ^ (w * r) := Int.pow_pos (by decide)
    have hw : (0 : Int) < 2 ^ w := Int.pow_pos (by decide)
    show (pkd w f n + f n * 2 ^ (w * n)) / 2 ^ (w * r) % 2 ^ w = f r
    by_cases e : r = n
    · subst e
      obtain ⟨h1, h2⟩ := pkd_lt (w := w) (f := f) r (fun i i0 i1 => h i i0 (by omega))
      obtain ⟨h3, h4⟩ := h r (by omega) (by omega)
      rw [Int.add_mul_ediv_right _ _ (by omega), Int.ediv_eq_zero_of_lt h1 h2, Int.zero_add, Int.emod_eq_of_lt h3 h4]
    · obtain ⟨m, hm⟩ : ∃ m, n = r + 1 + m := ⟨n - r - 1, by omega⟩
      have e1 : w * n = w * r + w + w * m := by rw [hm, Nat.mul_add, Nat.mul_add, Nat.mul_one]
      rw [e1, Int.pow_add, Int.pow_add, show f n * (2 ^ (w * r) * 2 ^ w * 2 ^ (w * m)) = f n * 2 ^ (w * m) * 2 ^ w * 2 ^ (w * r) by
        simp only [Int.mul_comm, Int.mul_left_comm, Int.mul_assoc], Int.add_mul_ediv_right _ _ (by omega), Int.add_mul_emod_self_right]
      exact ih (by omega) (fun i i0 i1 => h i i0 (by omega))
theorem pkd_inj {w : Nat} {f g : Int → Int} {n : Nat} (hf : ∀ i : Int, 0 ≤ i → i < n → 0 ≤ f i ∧ f i < 2 ^ w) (hg : ∀ i : Int, 0 ≤ i → i < n → 0 ≤ g i ∧ g i < 2 ^ w) (e : pkd w f n = pkd w g n) : ∀ i : Int, 0 ≤ i → i < n → f i = g i := by
  intro i i0 i1
  have h1 := pkd_dig (r := i.toNat) n (by omega) hf
  have h2 := pkd_dig (r := i.toNat) n (by omega) hg
  rw [Int.toNat_of_nonneg i0] at h1 h2
  rw [← h1, ← h2, e]
theorem pkd_set {w : Nat} {f : Int → Int} {r : Nat} {c : Int} : ∀ n : Nat, r < n → pkd w (fun i => if i = r then c else f i) n = pkd w f n - f r * 2 ^ (w * r) + c * 2 ^ (w * r) := by
  intro n
  induction n with
  | zero => intro h; omega
  | succ n ih =>
    intro hr
    show pkd w (fun i => if i = r then c else f i) n + (if (n : Int) = r then c else f n) * 2 ^ (w * n) = pkd w f n + f n * 2 ^ (w * n) - f r * 2 ^ (w * r) + c * 2 ^ (w * r)
    by_cases e : r = n
    · subst e
      rw [if_pos rfl, pkd_congr (g := f) r (fun i i0 i1 => if_neg (by omega))]
      omega
    · rw [if_neg (by omega), ih (by omega)]
      omega
