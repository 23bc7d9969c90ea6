-- BITS: what masks, shifts and the like come to, for numbers that are not large
theorem i64_mod (x : Int) : (Int64.ofInt x).toBitVec.toNat = (x % 18446744073709551616).toNat := by
  show (BitVec.ofInt 64 x).toNat = _
  rw [BitVec.toNat_ofInt]
  rfl
theorem bv_small {b : BitVec 64} (h : b.toNat < 9223372036854775808) : b.toInt = b.toNat := by
  rw [BitVec.toInt_eq_toNat_cond, if_pos (by omega)]
theorem bAn_mask {x : Int} {k m : Nat} (hm : m = 2 ^ k) (hk : k ≤ 62) : bAn x ((m : Int) - 1) = x % m := by
  subst hm
  have hp : (2 : Nat) ^ k ≤ 2 ^ 62 := Nat.pow_le_pow_right (by decide) hk
  have hp0 : 0 < (2 : Nat) ^ k := Nat.two_pow_pos k
  have hc : ((2 ^ k : Nat) : Int) - 1 = ((2 ^ k - 1 : Nat) : Int) := by omega
  have e : (Int64.ofInt x &&& Int64.ofInt (((2 ^ k : Nat) : Int) - 1)).toBitVec.toNat = (x % 18446744073709551616).toNat % 2 ^ k := by
    rw [Int64.toBitVec_and, BitVec.toNat_and, i64_mod, i64_mod, hc, show (((2 ^ k - 1 : Nat) : Int) % 18446744073709551616).toNat = 2 ^ k - 1 by omega, Nat.and_two_pow_sub_one_eq_mod]
  have h2 : (x % 18446744073709551616).toNat % 2 ^ k < 2 ^ k := Nat.mod_lt _ hp0
  show (Int64.ofInt x &&& Int64.ofInt (((2 ^ k : Nat) : Int) - 1)).toBitVec.toInt = _
  rw [bv_small (by omega), e, Int.natCast_emod, Int.toNat_of_nonneg (by omega)]
  exact Int.emod_emod_of_dvd x (by
    rw [show (18446744073709551616 : Int) = ((2 ^ 64 : Nat) : Int) by decide]
    exact Int.natCast_dvd_natCast.mpr (Nat.pow_dvd_pow 2 (by omega)))
theorem bAn_1 (x : Int) : bAn x 1 = x % 2 := bAn_mask (m := 2) (k := 1) rfl (by decide)
theorem bAn_3 (x : Int) : bAn x 3 = x % 4 := bAn_mask (m := 4) (k := 2) rfl (by decide)
theorem bAn_15 (x : Int) : bAn x 15 = x % 16 := bAn_mask (m := 16) (k := 4) rfl (by decide)
theorem bAn_255 (x : Int) : bAn x 255 = x % 256 := bAn_mask (m := 256) (k := 8) rfl (by decide)
theorem bAn_4095 (x : Int) : bAn x 4095 = x % 4096 := bAn_mask (m := 4096) (k := 12) rfl (by decide)
theorem bAn_31b (x : Int) : bAn x 2147483647 = x % 2147483648 := bAn_mask (m := 2147483648) (k := 31) rfl (by decide)
theorem bAn_nat {a b : Nat} (ha : a < 9223372036854775808) (hb : b < 9223372036854775808) : bAn a b = ((a &&& b : Nat) : Int) := by
  have e : (Int64.ofInt a &&& Int64.ofInt b).toBitVec.toNat = a &&& b := by
    rw [Int64.toBitVec_and, BitVec.toNat_and, i64_mod, i64_mod, show ((a : Int) % 18446744073709551616).toNat = a by omega, show ((b : Int) % 18446744073709551616).toNat = b by omega]
  have h2 : a &&& b ≤ a := Nat.and_le_left
  show (Int64.ofInt a &&& Int64.ofInt b).toBitVec.toInt = _
  rw [bv_small (by omega), e]
theorem bOr_nat {a b : Nat} (ha : a < 9223372036854775808) (hb : b < 9223372036854775808) : bOr a b = ((a ||| b : Nat) : Int) := by
  have e : (Int64.ofInt a ||| Int64.ofInt b).toBitVec.toNat = a ||| b := by
    rw [Int64.toBitVec_or, BitVec.toNat_or, i64_mod, i64_mod, show ((a : Int) % 18446744073709551616).toNat = a by omega, show ((b : Int) % 18446744073709551616).toNat = b by omega]
  have h2 : a ||| b < 2 ^ 63 := Nat.or_lt_two_pow (by omega) (by omega)
  show (Int64.ofInt a ||| Int64.ofInt b).toBitVec.toInt = _
  rw [bv_small (by omega), e]
theorem bXo_nat {a b : Nat} (ha : a < 9223372036854775808) (hb : b < 9223372036854775808) : bXo a b = ((a ^^^ b : Nat) : Int) := by
  have e : (Int64.ofInt a ^^^ Int64.ofInt b).toBitVec.toNat = a ^^^ b := by
    rw [Int64.toBitVec_xor, BitVec.toNat_xor, i64_mod, i64_mod, show ((a : Int) % 18446744073709551616).toNat = a by omega, show ((b : Int) % 18446744073709551616).toNat = b by omega]
  have h2 : a ^^^ b < 2 ^ 63 := Nat.xor_lt_two_pow (by omega) (by omega)
  show (Int64.ofInt a ^^^ Int64.ofInt b).toBitVec.toInt = _
  rw [bv_small (by omega), e]
/-- a number whose low bits are nothing, with low bits -/
theorem bOr_low {a b : Nat} (k : Nat) (hb : b < 2 ^ k) (ha : 2 ^ k * a < 4611686018427387904) (hk : k ≤ 62) : bOr ((2 ^ k * a : Nat) : Int) (b : Int) = ((2 ^ k * a + b : Nat) : Int) := by
  have hp : (2 : Nat) ^ k ≤ 2 ^ 62 := Nat.pow_le_pow_right (by decide) hk
  rw [bOr_nat (by omega) (by omega), Nat.two_pow_add_eq_or_of_lt hb]
theorem bXo_2 {d : Int} (h0 : 0 ≤ d) (h1 : d < 4) : bXo d 2 = (d + 2) % 4 := by
  have : d = 0 ∨ d = 1 ∨ d = 2 ∨ d = 3 := by omega
  rcases this with rfl | rfl | rfl | rfl <;> decide
theorem sr32_lit (x : Int) (k : Nat) (h : k < 32) : sr32 x k = x / 2 ^ k := by
  unfold sr32
  rw [show ((k : Int) % 32).toNat = k by omega]
theorem sr32_1 (x : Int) : sr32 x 1 = x / 2 := rfl
theorem sr32_2 (x : Int) : sr32 x 2 = x / 4 := rfl
theorem sr32_4 (x : Int) : sr32 x 4 = x / 16 := rfl
theorem sr32_8 (x : Int) : sr32 x 8 = x / 256 := rfl
theorem sr32_16 (x : Int) : sr32 x 16 = x / 65536 := rfl
theorem sr32_24 (x : Int) : sr32 x 24 = x / 16777216 := rfl
theorem sr32_0 (x : Int) : sr32 x 0 = x := by show x / 1 = x; omega
theorem sl32_lit {x : Int} {k : Nat} (hk : k < 32) (h0 : 0 ≤ x) (h1 : x * 2 ^ k < 2147483648) : sl32 x k = x * 2 ^ k := by
  unfold sl32
  rw [show ((k : Int) % 32).toNat = k by omega]
  have : 0 ≤ x * 2 ^ k := Int.mul_nonneg h0 (Int.pow_nonneg (by decide))
  exact w32_id (by omega) h1
/-- a walk as one number -/
theorem wk_code {k r o : Int} (k0 : 0 ≤ k) (k1 : k < 8) (r0 : 0 ≤ r) (r1 : r < 16) (o0 : 0 ≤ o) (o1 : o < 16) : bOr (bOr (sl32 k 8) (sl32 r 4)) o = 256 * k + 16 * r + o := by
  obtain ⟨k, rfl⟩ := Int.eq_ofNat_of_zero_le k0
  obtain ⟨r, rfl⟩ := Int.eq_ofNat_of_zero_le r0
  obtain ⟨o, rfl⟩ := Int.eq_ofNat_of_zero_le o0
  have e1 : sl32 (k : Int) 8 = ((2 ^ 8 * k : Nat) : Int) := by
    have := sl32_lit (x := (k : Int)) (k := 8) (by decide) (by omega) (by omega)
    exact this.trans (by omega)
  have e2 : sl32 (r : Int) 4 = ((2 ^ 4 * r : Nat) : Int) := by
    have := sl32_lit (x := (r : Int)) (k := 4) (by decide) (by omega) (by omega)
    exact this.trans (by omega)
  rw [e1, e2, bOr_low 8 (by omega) (by omega) (by decide), show 2 ^ 8 * k + 2 ^ 4 * r = 2 ^ 4 * (16 * k + r) by omega, bOr_low 4 (by omega) (by omega) (by decide)]
  omega
theorem dv32_pos {x y : Int} (h0 : 0 ≤ x) (h1 : x < 2147483648) (hy : 0 < y) : dv32 x y = x / y := by
  unfold dv32
  rw [Int.tdiv_eq_ediv_of_nonneg h0]
  have h2 : x / y ≤ x := Int.ediv_le_self _ h0
  have h3 : 0 ≤ x / y := Int.ediv_nonneg h0 (by omega)
  exact w32_id (by omega) (by omega)
theorem dv64_pos {x y : Int} (h0 : 0 ≤ x) (h1 : x < 9223372036854775808) (hy : 0 < y) : dv64 x y = x / y := by
  unfold dv64
  rw [Int.tdiv_eq_ediv_of_nonneg h0]
  have h2 : x / y ≤ x := Int.ediv_le_self _ h0
  have h3 : 0 ≤ x / y := Int.ediv_nonneg h0 (by omega)
  exact w64_id (by omega) (by omega)
theorem tmod_pos {x y : Int} (h0 : 0 ≤ x) : Int.tmod x y = x % y := Int.tmod_eq_emod_of_nonneg h0
-- loops
theorem loop_up {σ ρ : Type} {L : Nat → σ → Int → Option ρ} {k : σ → Option ρ} {hi : Int} (I : Int → σ → Prop)
    (h1 : ∀ n x, I hi x → L (n + 1) x hi = k x)
    (h2 : ∀ n i x, I i x → i < hi → ∃ x', L (n + 1) x i = L n x' (i + 1) ∧ I (i + 1) x') :
    ∀ (n : Nat) (i : Int) (x : σ), I i x → i ≤ hi → hi - i < n → ∃ y, I hi y ∧ L n x i = k y := by
  intro n
  induction n with
  | zero => intro i x hi0 h3 h4; omega
  | succ n ih =>
    intro i x hI h3 h4
    by_cases e : i = hi
    · subst e; exact ⟨x, hI, h1 n x hI⟩
    · obtain ⟨x', e1, e2⟩ := h2 n i x hI (by omega)
      obtain ⟨y, y1, y2⟩ := ih (i + 1) x' e2 (by omega) (by omega)
      exact ⟨y, y1, e1.trans y2⟩
theorem rd_ok {s : iv_M} {a : Nat} {n i : Int} (h0 : 0 ≤ i) (h1 : i < n) : rd s a n i = some (s a i) := if_pos ⟨h0, h1⟩
theorem wr_ok {s : iv_M} {a : Nat} {n i v : Int} (h0 : 0 ≤ i) (h1 : i < n) : wr s a n i v = some (mu s a i v) := if_pos ⟨h0, h1⟩
theorem pt_ok {s : iv_M} {a : Nat} {i v : Int} : pt s a i v = some (mu s a i v) := rfl
