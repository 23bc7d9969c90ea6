-- INTS: what the machine's ints and longs come to, in whole numbers
def w32 (x : Int) : Int := Int.bmod x 4294967296
def w64 (x : Int) : Int := Int.bmod x 18446744073709551616
def w8 (x : Int) : Int := Int.bmod x 256
def bAn (x y : Int) : Int := (Int64.ofInt x &&& Int64.ofInt y).toInt
def bOr (x y : Int) : Int := (Int64.ofInt x ||| Int64.ofInt y).toInt
def bXo (x y : Int) : Int := (Int64.ofInt x ^^^ Int64.ofInt y).toInt
def sl32 (x k : Int) : Int := w32 (x * 2 ^ (k % 32).toNat)
def sl64 (x k : Int) : Int := w64 (x * 2 ^ (k % 64).toNat)
def sr32 (x k : Int) : Int := x / 2 ^ (k % 32).toNat
def sr64 (x k : Int) : Int := x / 2 ^ (k % 64).toNat
def us32 (x k : Int) : Int := w32 (x % 4294967296 / 2 ^ (k % 32).toNat)
def us64 (x k : Int) : Int := w64 (x % 18446744073709551616 / 2 ^ (k % 64).toNat)
def dv32 (x y : Int) : Int := w32 (Int.tdiv x y)
def dv64 (x y : Int) : Int := w64 (Int.tdiv x y)
def mnI (x y : Int) : Int := if y < x then y else x
def mxI (x y : Int) : Int := if x < y then y else x
def lcm3 (x y : Int) : Int := if y < x then 1 else if x = y then 0 else -1
theorem ti_add {a b : Int32} {x y : Int} (ha : a.toInt = x) (hb : b.toInt = y) : (a + b).toInt = w32 (x + y) := by rw [Int32.toInt_add, ha, hb]; rfl
theorem ti_sub {a b : Int32} {x y : Int} (ha : a.toInt = x) (hb : b.toInt = y) : (a - b).toInt = w32 (x - y) := by rw [Int32.toInt_sub, ha, hb]; rfl
theorem ti_mul {a b : Int32} {x y : Int} (ha : a.toInt = x) (hb : b.toInt = y) : (a * b).toInt = w32 (x * y) := by rw [Int32.toInt_mul, ha, hb]; rfl
theorem ti_div {a b : Int32} {x y : Int} (ha : a.toInt = x) (hb : b.toInt = y) : (a / b).toInt = dv32 x y := by rw [Int32.toInt_div, ha, hb]; rfl
theorem tj_add {a b : Int64} {x y : Int} (ha : a.toInt = x) (hb : b.toInt = y) : (a + b).toInt = w64 (x + y) := by rw [Int64.toInt_add, ha, hb]; rfl
theorem tj_sub {a b : Int64} {x y : Int} (ha : a.toInt = x) (hb : b.toInt = y) : (a - b).toInt = w64 (x - y) := by rw [Int64.toInt_sub, ha, hb]; rfl
theorem tj_mul {a b : Int64} {x y : Int} (ha : a.toInt = x) (hb : b.toInt = y) : (a * b).toInt = w64 (x * y) := by rw [Int64.toInt_mul, ha, hb]; rfl
theorem tj_div {a b : Int64} {x y : Int} (ha : a.toInt = x) (hb : b.toInt = y) : (a / b).toInt = dv64 x y := by rw [Int64.toInt_div, ha, hb]; rfl
theorem w32_id {x : Int} (h1 : -2147483648 ≤ x) (h2 : x < 2147483648) : w32 x = x := Int.bmod_eq_of_le (by omega) (by omega)
theorem w64_id {x : Int} (h1 : -9223372036854775808 ≤ x) (h2 : x < 9223372036854775808) : w64 x = x := Int.bmod_eq_of_le (by omega) (by omega)
theorem ti_lo (a : Int32) : -2147483648 ≤ a.toInt := a.le_toInt
theorem ti_hi (a : Int32) : a.toInt < 2147483648 := a.toInt_lt
theorem tj_lo (a : Int64) : -9223372036854775808 ≤ a.toInt := a.le_toInt
theorem tj_hi (a : Int64) : a.toInt < 9223372036854775808 := a.toInt_lt
theorem tmod_lt_abs {x y : Int} (hy : y ≠ 0) : -(y.natAbs : Int) < Int.tmod x y ∧ Int.tmod x y < (y.natAbs : Int) := by
  have h1 := Int.natAbs_tmod x y
  have h2 : x.natAbs % y.natAbs < y.natAbs := Nat.mod_lt _ (by omega)
  omega
theorem ti_rem {a b : Int32} {x y : Int} (ha : a.toInt = x) (hb : b.toInt = y) : (a - a / b * b).toInt = Int.tmod x y := by
  have e : (a - a / b * b).toInt = Int.bmod (x - Int.tdiv x y * y) (2 ^ 32) := by
    rw [Int32.toInt_sub, Int32.toInt_mul, Int32.toInt_div, ha, hb, Int.bmod_mul_bmod, Int.sub_bmod_bmod]
  rw [e]
  have h3 := Int.mul_tdiv_add_tmod x y
  have h4 : x - Int.tdiv x y * y = Int.tmod x y := by rw [Int.mul_comm] at h3; omega
  rw [h4]
  have hx1 := ti_lo a
  have hx2 := ti_hi a
  have hy1 := ti_lo b
  have hy2 := ti_hi b
  by_cases hy : y = 0
  · subst hy; rw [Int.tmod_zero]; exact w32_id (by omega) (by omega)
  · have := tmod_lt_abs (x := x) hy
    exact w32_id (by omega) (by omega)
theorem tj_rem {a b : Int64} {x y : Int} (ha : a.toInt = x) (hb : b.toInt = y) : (a - a / b * b).toInt = Int.tmod x y := by
  have e : (a - a / b * b).toInt = Int.bmod (x - Int.tdiv x y * y) (2 ^ 64) := by
    rw [Int64.toInt_sub, Int64.toInt_mul, Int64.toInt_div, ha, hb, Int.bmod_mul_bmod, Int.sub_bmod_bmod]
  rw [e]
  have h3 := Int.mul_tdiv_add_tmod x y
  have h4 : x - Int.tdiv x y * y = Int.tmod x y := by rw [Int.mul_comm] at h3; omega
  rw [h4]
  have hx1 := tj_lo a
  have hx2 := tj_hi a
  have hy1 := tj_lo b
  have hy2 := tj_hi b
  by_cases hy : y = 0
  · subst hy; rw [Int.tmod_zero]; exact w64_id (by omega) (by omega)
  · have := tmod_lt_abs (x := x) hy
    exact w64_id (by omega) (by omega)
theorem ti_and {a b : Int32} {x y : Int} (ha : a.toInt = x) (hb : b.toInt = y) : (a &&& b).toInt = bAn x y := by
  rw [← Int32.toInt_toInt64, Int32.toInt64_and, ← ha, ← hb]; rfl
theorem ti_or {a b : Int32} {x y : Int} (ha : a.toInt = x) (hb : b.toInt = y) : (a ||| b).toInt = bOr x y := by
  rw [← Int32.toInt_toInt64, Int32.toInt64_or, ← ha, ← hb]; rfl
theorem ti_xor {a b : Int32} {x y : Int} (ha : a.toInt = x) (hb : b.toInt = y) : (a ^^^ b).toInt = bXo x y := by
  rw [← Int32.toInt_toInt64, Int32.toInt64_xor, ← ha, ← hb]; rfl
theorem tj_and {a b : Int64} {x y : Int} (ha : a.toInt = x) (hb : b.toInt = y) : (a &&& b).toInt = bAn x y := by
  unfold bAn; rw [← ha, ← hb, Int64.ofInt_toInt, Int64.ofInt_toInt]
theorem tj_or {a b : Int64} {x y : Int} (ha : a.toInt = x) (hb : b.toInt = y) : (a ||| b).toInt = bOr x y := by
  unfold bOr; rw [← ha, ← hb, Int64.ofInt_toInt, Int64.ofInt_toInt]
theorem tj_xor {a b : Int64} {x y : Int} (ha : a.toInt = x) (hb : b.toInt = y) : (a ^^^ b).toInt = bXo x y := by
  unfold bXo; rw [← ha, ← hb, Int64.ofInt_toInt, Int64.ofInt_toInt]
theorem ti_l {a b : Int32} {x y : Int} (ha : a.toInt = x) (hb : b.toInt = y) : a < b ↔ x < y := by rw [Int32.lt_iff_toInt_lt, ha, hb]
theorem ti_e {a b : Int32} {x y : Int} (ha : a.toInt = x) (hb : b.toInt = y) : a = b ↔ x = y := by rw [← Int32.toInt_inj, ha, hb]
theorem ti_le {a b : Int32} {x y : Int} (ha : a.toInt = x) (hb : b.toInt = y) : a ≤ b ↔ x ≤ y := by rw [Int32.le_iff_toInt_le, ha, hb]
theorem tj_l {a b : Int64} {x y : Int} (ha : a.toInt = x) (hb : b.toInt = y) : a < b ↔ x < y := by rw [Int64.lt_iff_toInt_lt, ha, hb]
theorem tj_e {a b : Int64} {x y : Int} (ha : a.toInt = x) (hb : b.toInt = y) : a = b ↔ x = y := by rw [← Int64.toInt_inj, ha, hb]
theorem tj_le {a b : Int64} {x y : Int} (ha : a.toInt = x) (hb : b.toInt = y) : a ≤ b ↔ x ≤ y := by rw [Int64.le_iff_toInt_le, ha, hb]
theorem ti_b {a : Int32} {x : Int} (ha : a.toInt = x) (h : x = 0 ∨ x = 1) : a = 0 ∨ a = 1 := h.imp (fun z => (ti_e ha rfl).mpr z) (fun z => (ti_e ha rfl).mpr z)
theorem ti_j {a : Int32} {x : Int} (ha : a.toInt = x) : a.toInt64.toInt = x := by rw [Int32.toInt_toInt64, ha]
theorem tj_i {a : Int64} {x : Int} (ha : a.toInt = x) : a.toInt32.toInt = w32 x := by rw [Int64.toInt_toInt32, ha]; rfl
theorem ti_8 {a : Int32} {x : Int} (ha : a.toInt = x) : a.toInt8.toInt32.toInt = w8 x := by rw [Int8.toInt_toInt32, Int32.toInt_toInt8, ha]; rfl
theorem lc_e {a b : Int64} {x y : Int} (ha : a.toInt = x) (hb : b.toInt = y) : lg_cmp a b = 0 ↔ x = y := by
  unfold lg_cmp; rw [← ha, ← hb]
  simp only [gt_iff_lt, Int64.lt_iff_toInt_lt, ← Int64.toInt_inj]
  repeat' split
  all_goals (constructor <;> intro hh <;> first | omega | decide | exact absurd hh (by decide))
theorem lc_l {a b : Int64} {x y : Int} (ha : a.toInt = x) (hb : b.toInt = y) : lg_cmp a b < 0 ↔ x < y := by
  unfold lg_cmp; rw [← ha, ← hb]
  simp only [gt_iff_lt, Int64.lt_iff_toInt_lt, ← Int64.toInt_inj]
  repeat' split
  all_goals (constructor <;> intro hh <;> first | omega | decide | exact absurd hh (by decide))
theorem lc_le {a b : Int64} {x y : Int} (ha : a.toInt = x) (hb : b.toInt = y) : lg_cmp a b ≤ 0 ↔ x ≤ y := by
  unfold lg_cmp; rw [← ha, ← hb]
  simp only [gt_iff_lt, Int64.lt_iff_toInt_lt, ← Int64.toInt_inj]
  repeat' split
  all_goals (constructor <;> intro hh <;> first | omega | decide | exact absurd hh (by decide))
theorem lc_g {a b : Int64} {x y : Int} (ha : a.toInt = x) (hb : b.toInt = y) : 0 < lg_cmp a b ↔ y < x := by
  unfold lg_cmp; rw [← ha, ← hb]
  simp only [gt_iff_lt, Int64.lt_iff_toInt_lt, ← Int64.toInt_inj]
  repeat' split
  all_goals (constructor <;> intro hh <;> first | omega | decide | exact absurd hh (by decide))
theorem lc_ge {a b : Int64} {x y : Int} (ha : a.toInt = x) (hb : b.toInt = y) : 0 ≤ lg_cmp a b ↔ y ≤ x := by
  unfold lg_cmp; rw [← ha, ← hb]
  simp only [gt_iff_lt, Int64.lt_iff_toInt_lt, ← Int64.toInt_inj]
  repeat' split
  all_goals (constructor <;> intro hh <;> first | omega | decide | exact absurd hh (by decide))
theorem ti_mn {a b : Int32} {x y : Int} (ha : a.toInt = x) (hb : b.toInt = y) : (iv_mn a b).toInt = mnI x y := by
  unfold iv_mn mnI
  by_cases c : y < x
  · rw [if_pos c, if_pos ((ti_l hb ha).mpr c), hb]
  · rw [if_neg c, if_neg (fun z => c ((ti_l hb ha).mp z)), ha]
theorem ti_mx {a b : Int32} {x y : Int} (ha : a.toInt = x) (hb : b.toInt = y) : (iv_mx a b).toInt = mxI x y := by
  unfold iv_mx mxI
  by_cases c : x < y
  · rw [if_pos c, if_pos ((ti_l ha hb).mpr c), hb]
  · rw [if_neg c, if_neg (fun z => c ((ti_l ha hb).mp z)), ha]
