-- SHIFTS of ints and longs, in whole numbers
theorem bv_int32 (b : BitVec 32) : (b.toInt % 32).toNat = b.toNat % 32 := by
  have h := b.isLt
  rw [BitVec.toInt_eq_toNat_cond]
  split <;> omega
theorem bv_int64 (b : BitVec 64) : (b.toInt % 64).toNat = b.toNat % 64 := by
  have h := b.isLt
  rw [BitVec.toInt_eq_toNat_cond]
  split <;> omega
theorem bv_k32 : ∀ k : Fin 32, ((BitVec.ofNat 32 k.val).smod 32#32).toNat = k.val := by decide
theorem bv_k64 : ∀ k : Fin 64, ((BitVec.ofNat 64 k.val).smod 64#64).toNat = k.val := by decide
theorem sk32 (b : Int32) : ((b &&& 31).toBitVec.smod 32#32).toNat = (b.toInt % 32).toNat := by
  have e : (b &&& 31).toBitVec = BitVec.ofNat 32 (b.toBitVec.toNat % 32) := by
    apply BitVec.eq_of_toNat_eq
    rw [Int32.toBitVec_and, BitVec.toNat_and, BitVec.toNat_ofNat]
    show b.toBitVec.toNat &&& 31 = _
    rw [show (31 : Nat) = 2 ^ 5 - 1 from rfl, Nat.and_two_pow_sub_one_eq_mod]
    have h := b.toBitVec.isLt
    omega
  rw [e, bv_k32 ⟨b.toBitVec.toNat % 32, Nat.mod_lt _ (by decide)⟩]
  exact (bv_int32 b.toBitVec).symm
theorem sk64 (b : Int64) : ((b &&& 63).toBitVec.smod 64#64).toNat = (b.toInt % 64).toNat := by
  have e : (b &&& 63).toBitVec = BitVec.ofNat 64 (b.toBitVec.toNat % 64) := by
    apply BitVec.eq_of_toNat_eq
    rw [Int64.toBitVec_and, BitVec.toNat_and, BitVec.toNat_ofNat]
    show b.toBitVec.toNat &&& 63 = _
    rw [show (63 : Nat) = 2 ^ 6 - 1 from rfl, Nat.and_two_pow_sub_one_eq_mod]
    have h := b.toBitVec.isLt
    omega
  rw [e, bv_k64 ⟨b.toBitVec.toNat % 64, Nat.mod_lt _ (by decide)⟩]
  exact (bv_int64 b.toBitVec).symm
theorem bmod_shl {n m k : Nat} {x : Int} (hx : x.bmod m = (n : Int).bmod m) : ((n <<< k : Nat) : Int).bmod m = (x * 2 ^ k).bmod m := by
  rw [Nat.shiftLeft_eq, Int.natCast_mul, ← Int.bmod_mul_bmod, ← hx, Int.bmod_mul_bmod]
  simp
theorem ti_shl {a b : Int32} {x y : Int} (ha : a.toInt = x) (hb : b.toInt = y) : (a <<< (b &&& 31)).toInt = sl32 x y := by
  subst ha; subst hb
  show (a.toBitVec <<< ((b &&& 31).toBitVec.smod 32#32)).toInt = _
  rw [BitVec.shiftLeft_eq', sk32, BitVec.toInt_shiftLeft]
  exact bmod_shl (m := 4294967296) (by rw [Int32.toInt_bmod]; exact BitVec.toInt_eq_toNat_bmod _)
theorem tj_shl {a : Int64} {b : Int32} {x y : Int} (ha : a.toInt = x) (hb : b.toInt = y) : (a <<< (b.toInt64 &&& 63)).toInt = sl64 x y := by
  subst ha; subst hb
  show (a.toBitVec <<< ((b.toInt64 &&& 63).toBitVec.smod 64#64)).toInt = _
  rw [BitVec.shiftLeft_eq', sk64, BitVec.toInt_shiftLeft, Int32.toInt_toInt64]
  exact bmod_shl (m := 18446744073709551616) (by rw [Int64.toInt_bmod]; exact BitVec.toInt_eq_toNat_bmod _)
theorem ti_shr {a b : Int32} {x y : Int} (ha : a.toInt = x) (hb : b.toInt = y) : (a >>> (b &&& 31)).toInt = sr32 x y := by
  subst ha; subst hb
  show (BitVec.sshiftRight' a.toBitVec ((b &&& 31).toBitVec.smod 32#32)).toInt = _
  rw [BitVec.toInt_sshiftRight', sk32, Int.shiftRight_eq_div_pow]
  simp [sr32]
theorem tj_shr {a : Int64} {b : Int32} {x y : Int} (ha : a.toInt = x) (hb : b.toInt = y) : (a >>> (b.toInt64 &&& 63)).toInt = sr64 x y := by
  subst ha; subst hb
  show (BitVec.sshiftRight' a.toBitVec ((b.toInt64 &&& 63).toBitVec.smod 64#64)).toInt = _
  rw [BitVec.toInt_sshiftRight', sk64, Int.shiftRight_eq_div_pow, Int32.toInt_toInt64]
  simp [sr64]
theorem bv_emod32 (b : BitVec 32) : b.toInt % 4294967296 = b.toNat := by
  have h := b.isLt
  rw [BitVec.toInt_eq_toNat_cond]
  split <;> omega
theorem bv_emod64 (b : BitVec 64) : b.toInt % 18446744073709551616 = b.toNat := by
  have h := b.isLt
  rw [BitVec.toInt_eq_toNat_cond]
  split <;> omega
theorem ti_ushr {a b : Int32} {x y : Int} (ha : a.toInt = x) (hb : b.toInt = y) : ((a.toUInt32 >>> (b.toUInt32 &&& Int32.toUInt32 31)).toInt32).toInt = us32 x y := by
  subst ha; subst hb
  have hk : ((b.toUInt32 &&& Int32.toUInt32 31) % 32).toBitVec.toNat = (b.toInt % 32).toNat := by
    show ((b.toBitVec &&& 31#32) % 32#32).toNat = _
    rw [BitVec.toNat_umod, BitVec.toNat_and]
    show (b.toBitVec.toNat &&& 31) % 32 = _
    rw [show (31 : Nat) = 2 ^ 5 - 1 from rfl, Nat.and_two_pow_sub_one_eq_mod]
    have := bv_int32 b.toBitVec
    show _ = (b.toBitVec.toInt % 32).toNat
    omega
  show (a.toBitVec >>> ((b.toUInt32 &&& Int32.toUInt32 31) % 32).toBitVec).toInt = _
  rw [BitVec.toInt_eq_toNat_bmod, BitVec.ushiftRight_eq', hk, BitVec.toNat_ushiftRight, Nat.shiftRight_eq_div_pow]
  unfold us32 w32
  show _ = Int.bmod (a.toBitVec.toInt % 4294967296 / _) _
  rw [bv_emod32]
  simp
theorem tj_ushr {a : Int64} {b : Int32} {x y : Int} (ha : a.toInt = x) (hb : b.toInt = y) : ((a.toUInt64 >>> (b.toInt64.toUInt64 &&& Int64.toUInt64 63)).toInt64).toInt = us64 x y := by
  subst ha; subst hb
  have hk : ((b.toInt64.toUInt64 &&& Int64.toUInt64 63) % 64).toBitVec.toNat = (b.toInt % 64).toNat := by
    show ((b.toInt64.toBitVec &&& 63#64) % 64#64).toNat = _
    rw [BitVec.toNat_umod, BitVec.toNat_and]
    show (b.toInt64.toBitVec.toNat &&& 63) % 64 = _
    rw [show (63 : Nat) = 2 ^ 6 - 1 from rfl, Nat.and_two_pow_sub_one_eq_mod]
    have := bv_int64 b.toInt64.toBitVec
    rw [← Int32.toInt_toInt64]
    show _ = (b.toInt64.toBitVec.toInt % 64).toNat
    omega
  show (a.toBitVec >>> ((b.toInt64.toUInt64 &&& Int64.toUInt64 63) % 64).toBitVec).toInt = _
  rw [BitVec.toInt_eq_toNat_bmod, BitVec.ushiftRight_eq', hk, BitVec.toNat_ushiftRight, Nat.shiftRight_eq_div_pow]
  unfold us64 w64
  show _ = Int.bmod (a.toBitVec.toInt % 18446744073709551616 / _) _
  rw [bv_emod64]
  simp
