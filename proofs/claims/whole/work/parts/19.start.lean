-- THE START: what stands outside (numbers written by wip/whole/emit3.py)
def iv_ranks : List Int32 := [0, 1, 2, 3, 4, 4, 4, 4, 4, 5, 5, 6, 6, 6, 0]
def iv_txb : List (List Int32) := [[102, 108, 111, 111, 114, 44, 114, 111, 111, 109, 44, 102, 105, 120, 101, 100, 44, 107, 101, 121, 44, 112, 101, 114, 115, 111, 110, 44, 119, 97, 121, 115, 44], [107, 105, 110, 100, 44, 114, 111, 111, 109, 44, 111, 116, 104, 101, 114, 44, 120, 44, 121, 44, 116, 111, 120, 44, 116, 111, 121, 44, 100, 111, 111, 114, 115, 44, 108, 111, 99, 107, 115, 44, 112, 101, 111, 112, 108, 101, 44, 110, 105, 103, 104, 116, 44, 102, 97, 117, 108, 116, 115, 44, 97, 102, 116, 101, 114, 44], [98, 97, 114, 44], [107, 105, 110, 100, 44, 114, 111, 111, 109, 44, 111, 116, 104, 101, 114, 44, 120, 44, 121, 44, 116, 111, 120, 44, 116, 111, 121, 44, 100, 111, 111, 114, 115, 44, 108, 111, 99, 107, 115, 44, 112, 101, 111, 112, 108, 101, 44, 110, 105, 103, 104, 116, 44, 102, 97, 117, 108, 116, 115, 44, 97, 102, 116, 101, 114, 44, 110, 111, 116, 44], [97, 110, 100, 44, 111, 114, 44], [107, 105, 110, 100], [114, 111, 111, 109], [111, 116, 104, 101, 114], [120], [121], [116, 111, 120], [116, 111, 121], [100, 111, 111, 114, 115], [108, 111, 99, 107, 115], [112, 101, 111, 112, 108, 101], [110, 105, 103, 104, 116], [102, 97, 117, 108, 116, 115], [97, 102, 116, 101, 114], [110, 111, 116], [97, 110, 100], [111, 114], [102, 108, 111, 111, 114], [102, 105, 120, 101, 100], [107, 101, 121], [112, 101, 114, 115, 111, 110], [119, 97, 121, 115], [98, 97, 114]]
def iv_SP : List Nat := [27, 146, 64, 72, 216, 292, 236, 300, 309, 314, 319, 326, 333, 342, 351, 361, 370, 380, 285, 389, 396, 227, 244, 253, 260, 270, 278]
def iv_SRP : List Nat := [744, 913, 882, 897, 936, 1944, 1839, 1945, 1946, 1947, 1948, 1949, 1950, 1951, 1952, 1953, 1954, 1955, 1912, 1964, 1965, 1838, 1840, 1841, 1842, 1843, 1903]
def iv_ZP : List Nat := [926, 773, 789]
def iv_ZI : List Nat := [147, 162, 164]
def iv_OP : List Nat := [177, 373]
abbrev iv_fl : List Cond := flatC (Jvm.Cond.and given_1 narrow_1)
abbrev iv_tm (k : Nat) : Term := Term.string (iv_tx.getD k ("", 0, "", 0)).1 (iv_tx.getD k ("", 0, "", 0)).2.1
abbrev iv_bt (k : Nat) : List Int32 := iv_txb.getD k []
def iv_spb (k : Nat) : Bool := decide (iv_fl[iv_SP.getD k 0]? = some (Cond.exactly (iv_tm k) "java/lang/String")) && decide (iv_fl[iv_SP.getD k 0 + 1]? = some (Cond.eq (.field (iv_tm k) "java/lang/String" "coder" "B") (.int 0))) && decide (iv_fl[iv_SP.getD k 0 + 2]? = some (Cond.arrayOf (.field (iv_tm k) "java/lang/String" "value" "[B") .byte)) &&
  decide (iv_fl[iv_SP.getD k 0 + 3]? = some (Cond.eq (.length (.field (iv_tm k) "java/lang/String" "value" "[B")) (.int (Int32.ofNat (iv_bt k).length)))) && (List.range (iv_bt k).length).all (fun j => decide (iv_fl[iv_SP.getD k 0 + 4 + j]? = some (Cond.eq (.elem (.field (iv_tm k) "java/lang/String" "value" "[B") (.int (Int32.ofNat j))) (.int ((iv_bt k).getD j 0)))) && decide ((iv_bt k).getD j 0 = ((iv_bt k).getD j 0 &&& 255))) &&
  decide (lw_tbl[iv_SRP.getD k 0]? = some (Cond.stringRef (iv_tx.getD k ("", 0, "", 0)).1 (iv_tx.getD k ("", 0, "", 0)).2.1 (iv_tx.getD k ("", 0, "", 0)).2.2.1)) && decide ((iv_tx.getD k ("", 0, "", 0)).2.2.2 = iv_big + 10 + k) && decide ((iv_bt k).length < 1000)
set_option maxRecDepth 100000 in
theorem iv_sp_ok : (List.range 27).all iv_spb = true := by decide +kernel
set_option maxRecDepth 100000 in
theorem iv_rk_ok : (decide (iv_fl[10]? = some (Cond.arrayOf (.static "WalkingRooms" "RANKS" "[I") .int)) && decide (iv_fl[11]? = some (Cond.eq (.length (.static "WalkingRooms" "RANKS" "[I")) (.int (Int32.ofNat 15)))) && (List.range 15).all (fun j => decide (iv_fl[12 + j]? = some (Cond.eq (.elem (.static "WalkingRooms" "RANKS" "[I") (.int (Int32.ofNat j))) (.int (iv_ranks.getD j 0)))))) = true := by decide +kernel
set_option maxRecDepth 100000 in
theorem iv_zs_ok : (decide (iv_fl[4]? = some (Cond.eq (.static "java/lang/String" "COMPACT_STRINGS" "Z") (.int 1))) && decide (iv_fl[5]? = some (Cond.isRef (.static "jdk/internal/util/Preconditions" "SIOOBE_FORMATTER" "Ljava/util/function/BiFunction;"))) &&
  decide (lw_tbl[iv_ZP.getD 0 0]? = some (Cond.laysStatic "WalkingRooms" "RANKS" "[I")) && decide (lw_tbl[iv_ZP.getD 1 0]? = some (Cond.laysStatic "java/lang/String" "COMPACT_STRINGS" "Z")) && decide (lw_tbl[iv_ZP.getD 2 0]? = some (Cond.laysStatic "jdk/internal/util/Preconditions" "SIOOBE_FORMATTER" "Ljava/util/function/BiFunction;")) &&
  decide (lw_tbl[iv_ZI.getD 0 0]? = some (Cond.initialized "WalkingRooms")) && decide (lw_tbl[iv_ZI.getD 1 0]? = some (Cond.initialized "java/lang/String")) && decide (lw_tbl[iv_ZI.getD 2 0]? = some (Cond.initialized "jdk/internal/util/Preconditions")) &&
  decide (lw_tbl[iv_OP.getD 0 0]? = some (Cond.arrayOver (.array .int))) && decide (lw_tbl[iv_OP.getD 1 0]? = some (Cond.arrayOver (.object "WalkingRooms$House")))) = true := by decide +kernel
theorem iv_tx_len : iv_tx.length = 27 := rfl
/-- what the outer cells hold -/
def iv_X (L : Nat) (xs : Nat → Int32) : Nat → iv_C := fun a => if a = iv_big then .inl (0, L, .inl xs) else if a = iv_big + 1 then .inl (0, 15, .inl (fun j => iv_ranks.getD j 0)) else if iv_big + 10 ≤ a ∧ a < iv_big + 37 then .inl (9, (iv_bt (a - (iv_big + 10))).length, .inl (fun j => (iv_bt (a - (iv_big + 10))).getD j 0)) else .inr (0, [])
theorem iv_X_no {L : Nat} {xs : Nat → Int32} : ∀ q nn y, iv_X L xs q ≠ .inl (0, nn, .inr y) := by
  intro q nn y h
  unfold iv_X at h
  split at h
  · cases h
  · split at h
    · cases h
    · split at h <;> cases h
theorem iv_X_0 {L : Nat} {xs : Nat → Int32} {a n : Nat} {f : Nat → Int32} (h : iv_X L xs a = .inl (0, n, .inl f)) : (a = iv_big ∧ n = L ∧ f = xs) ∨ (a = iv_big + 1 ∧ n = 15 ∧ f = fun j => iv_ranks.getD j 0) := by
  unfold iv_X at h
  split at h
  · next e => cases h; exact Or.inl ⟨e, rfl, rfl⟩
  · split at h
    · next e => cases h; exact Or.inr ⟨e, rfl, rfl⟩
    · split at h <;> cases h
theorem iv_X_9 {L : Nat} {xs : Nat → Int32} {a n : Nat} {f : Nat → Int32} (h : iv_X L xs a = .inl (9, n, .inl f)) : ∃ k, k < 27 ∧ a = iv_big + 10 + k ∧ n = (iv_bt k).length ∧ f = fun j => (iv_bt k).getD j 0 := by
  unfold iv_X at h
  split at h
  · cases h
  · split at h
    · cases h
    · split at h
      · next e =>
        injection h with h
        injection h with _ h
        injection h with hn hf
        injection hf with hf
        exact ⟨a - (iv_big + 10), by omega, by omega, hn.symm, hf.symm⟩
      · cases h
theorem iv_strs {args : Array Value} {s : State} (hgv : (Jvm.Cond.and given_1 narrow_1).before args s = true) (hts : ∀ w ∈ lw_tbl, w.before args s = true) {A : Nat → Prop} (hA : ∀ a : Nat, a < s.heap.size → ¬ A a) (k : Nat) (hk : k < 27) : ∃ q, iv_Tx q (iv_bt k).length (fun j => (iv_bt k).getD j 0) A s s.heap ∧ vk_R (iv_tx.getD k ("", 0, "", 0)).1 (iv_tx.getD k ("", 0, "", 0)).2.1 (iv_tx.getD k ("", 0, "", 0)).2.2.1 q s := by
  have hs := flat_of_before _ hgv
  have hc := List.all_eq_true.mp iv_sp_ok k (List.mem_range.mpr hk)
  unfold iv_spb at hc
  simp only [Bool.and_eq_true, decide_eq_true_eq, List.all_eq_true, List.mem_range] at hc
  obtain ⟨⟨⟨⟨⟨⟨⟨h1, h2⟩, h3⟩, h4⟩, h5⟩, h6⟩, -⟩, h8⟩ := hc
  have at' : ∀ {i : Nat} {w : Cond}, iv_fl[i]? = some w → w.before args s = true := fun h => hs _ (List.mem_of_getElem? h)
  obtain ⟨a, c, cA, kA, q1, q2, q3, q4, q5, q6, -⟩ := Cond.exactly_spec (args := args) (first := s) (o := none) (s := s) (idx := []) (t := iv_tm k) (cls := "java/lang/String") (at' h1)
  obtain ⟨t, ht, hT⟩ := va_Tof (f := fun j => .int ((iv_bt k).getD j 0)) (A := A) (by omega) (at' h3) (va_eqt (at' h4)) (fun j hj => va_eqt (at' (h5 j hj).1)) hA
  refine ⟨a, ⟨t, fun j => (iv_bt k).getD j 0, ⟨cA, q3, q5, by rw [q6]; exact q2, hA a (Array.getElem?_eq_some_iff.mp q3).1⟩, vk_OFof q1 (va_eqt (at' h2)) hA, vk_OFof q1 ht hA, hT, by omega, fun j hj => (h5 j hj).2⟩, ?_⟩
  exact vk_R.of (hts _ (List.mem_of_getElem? h6)) q1
