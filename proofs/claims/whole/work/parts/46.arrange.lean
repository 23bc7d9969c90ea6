-- PACKED PLACES, SWEEPING, ARRANGING
theorem nat_three (a k w : Nat) : a = 2 ^ (k + w) * (a / 2 ^ (k + w)) + (2 ^ k * (a / 2 ^ k % 2 ^ w) + a % 2 ^ k) := by
  have h1 := Nat.div_add_mod a (2 ^ k)
  have h2 := Nat.div_add_mod (a / 2 ^ k) (2 ^ w)
  have h3 : a / 2 ^ (k + w) = a / 2 ^ k / 2 ^ w := by rw [Nat.pow_add, Nat.div_div_eq_div_mul]
  rw [h3, Nat.pow_add, Nat.mul_assoc]
  conv => lhs; rw [← h1, ← h2]
  rw [Nat.mul_add]
  omega
theorem setd_int {a c : Int} {k w : Nat} (a0 : 0 ≤ a) (a1 : a < 4611686018427387904) (c0 : 0 ≤ c) (c1 : c < 2 ^ w) (hkw : k + w ≤ 62) : bOr (bAn a (bXo ((2 ^ w - 1) * 2 ^ k) (-1))) (c * 2 ^ k) = a - a / 2 ^ k % 2 ^ w * 2 ^ k + c * 2 ^ k := by
  obtain ⟨a, rfl⟩ := Int.eq_ofNat_of_zero_le a0
  obtain ⟨c, rfl⟩ := Int.eq_ofNat_of_zero_le c0
  have hw : (1 : Nat) ≤ 2 ^ w := Nat.two_pow_pos w
  have e1 : ((2 : Int) ^ w - 1) * 2 ^ k = (((2 ^ w - 1) * 2 ^ k : Nat) : Int) := by
    rw [Int.natCast_mul, Int.ofNat_sub hw]; simp
  have e2 : (c : Int) * 2 ^ k = ((c * 2 ^ k : Nat) : Int) := by simp
  have c2 : c < 2 ^ w := by
    have : ((c : Nat) : Int) < ((2 ^ w : Nat) : Int) := by simpa using c1
    omega
  rw [e1, e2, setd (by omega) c2 hkw]
  have h3 := nat_three a k w
  have e3 : (a : Int) / 2 ^ k % 2 ^ w * 2 ^ k = ((2 ^ k * (a / 2 ^ k % 2 ^ w) : Nat) : Int) := by
    rw [Nat.mul_comm]; simp
  have e4 : 2 ^ k * c = c * 2 ^ k := Nat.mul_comm _ _
  rw [e3]
  omega
theorem sl64_15 {r : Int} (r0 : 0 ≤ r) (r1 : r < 12) : sl64 15 (4 * r) = (2 ^ 4 - 1) * 2 ^ (4 * r.toNat) := by
  have : r = 0 ∨ r = 1 ∨ r = 2 ∨ r = 3 ∨ r = 4 ∨ r = 5 ∨ r = 6 ∨ r = 7 ∨ r = 8 ∨ r = 9 ∨ r = 10 ∨ r = 11 := by omega
  rcases this with rfl | rfl | rfl | rfl | rfl | rfl | rfl | rfl | rfl | rfl | rfl | rfl <;> decide
theorem sl32_3 {r : Int} (r0 : 0 ≤ r) (r1 : r < 12) : sl32 3 (2 * r) = (2 ^ 2 - 1) * 2 ^ (2 * r.toNat) := by
  have : r = 0 ∨ r = 1 ∨ r = 2 ∨ r = 3 ∨ r = 4 ∨ r = 5 ∨ r = 6 ∨ r = 7 ∨ r = 8 ∨ r = 9 ∨ r = 10 ∨ r = 11 := by omega
  rcases this with rfl | rfl | rfl | rfl | rfl | rfl | rfl | rfl | rfl | rfl | rfl | rfl <;> decide
theorem sl64_c {r c : Int} (r0 : 0 ≤ r) (r1 : r < 12) (c0 : 0 ≤ c) (c1 : c < 16) : sl64 c (4 * r) = c * 2 ^ (4 * r.toNat) := by
  have : r = 0 ∨ r = 1 ∨ r = 2 ∨ r = 3 ∨ r = 4 ∨ r = 5 ∨ r = 6 ∨ r = 7 ∨ r = 8 ∨ r = 9 ∨ r = 10 ∨ r = 11 := by omega
  rcases this with rfl | rfl | rfl | rfl | rfl | rfl | rfl | rfl | rfl | rfl | rfl | rfl <;> exact w64_id (by simp; omega) (by simp; omega)
theorem sl32_c {r c : Int} (r0 : 0 ≤ r) (r1 : r < 12) (c0 : 0 ≤ c) (c1 : c < 4) : sl32 c (2 * r) = c * 2 ^ (2 * r.toNat) := by
  have : r = 0 ∨ r = 1 ∨ r = 2 ∨ r = 3 ∨ r = 4 ∨ r = 5 ∨ r = 6 ∨ r = 7 ∨ r = 8 ∨ r = 9 ∨ r = 10 ∨ r = 11 := by omega
  rcases this with rfl | rfl | rfl | rfl | rfl | rfl | rfl | rfl | rfl | rfl | rfl | rfl <;> exact w32_id (by simp; omega) (by simp; omega)
theorem pow_le12 {w n : Nat} (h : n ≤ 12) (hw : w ≤ 4) : (2 : Int) ^ (w * n) ≤ 281474976710656 := by
  have h1 : w * n ≤ 4 * 12 := Nat.mul_le_mul hw h
  have h2 : (2 : Nat) ^ (w * n) ≤ 2 ^ 48 := Nat.pow_le_pow_right (by decide) (by omega)
  have h3 : ((2 ^ (w * n) : Nat) : Int) ≤ ((2 ^ 48 : Nat) : Int) := by omega
  simpa using h3
theorem pk4_set {f : Int → Int} {n : Nat} {r c : Int} (hn : n ≤ 12) (hf : ∀ i : Int, 0 ≤ i → i < n → 0 ≤ f i ∧ f i < 2 ^ 4) (r0 : 0 ≤ r) (r1 : r < n) (c0 : 0 ≤ c) (c1 : c < 16) : bOr (bAn (pkd 4 f n) (bXo (sl64 15 (4 * r)) (-1))) (sl64 c (4 * r)) = pkd 4 (fun i => if i = r then c else f i) n := by
  obtain ⟨h1, h2⟩ := pkd_lt n hf
  have h3 := pow_le12 (w := 4) hn (by decide)
  have h4 := pkd_set (w := 4) (f := f) (r := r.toNat) (c := c) n (by omega)
  have h5 := pkd_dig (w := 4) (f := f) (r := r.toNat) n (by omega) hf
  rw [Int.toNat_of_nonneg r0] at h4 h5
  rw [sl64_15 r0 (by omega), sl64_c r0 (by omega) c0 c1, setd_int h1 (by omega) c0 (by simpa using c1) (by omega), h5, h4]
theorem pk2_set {f : Int → Int} {n : Nat} {r c : Int} (hn : n ≤ 12) (hf : ∀ i : Int, 0 ≤ i → i < n → 0 ≤ f i ∧ f i < 2 ^ 2) (r0 : 0 ≤ r) (r1 : r < n) (c0 : 0 ≤ c) (c1 : c < 4) : bOr (bAn (pkd 2 f n) (bXo (sl32 3 (2 * r)) (-1))) (sl32 c (2 * r)) = pkd 2 (fun i => if i = r then c else f i) n := by
  obtain ⟨h1, h2⟩ := pkd_lt n hf
  have h3 := pow_le12 (w := 2) hn (by decide)
  have h4 := pkd_set (w := 2) (f := f) (r := r.toNat) (c := c) n (by omega)
  have h5 := pkd_dig (w := 2) (f := f) (r := r.toNat) n (by omega) hf
  rw [Int.toNat_of_nonneg r0] at h4 h5
  rw [sl32_3 r0 (by omega), sl32_c r0 (by omega) c0 c1, setd_int h1 (by omega) c0 (by simpa using c1) (by omega), h5, h4]
theorem pk4_app {f : Int → Int} {n : Nat} (hn : n < 12) (hf : ∀ i : Int, 0 ≤ i → i < n + 1 → 0 ≤ f i ∧ f i < 2 ^ 4) : bOr (bAn (pkd 4 f n) (bXo (sl64 15 (4 * n)) (-1))) (sl64 (f n) (4 * n)) = pkd 4 f (n + 1) := by
  obtain ⟨h1, h2⟩ := pkd_lt (w := 4) (f := f) n (fun i i0 i1 => hf i i0 (by omega))
  obtain ⟨c0, c1⟩ := hf n (by omega) (by omega)
  have h3 := pow_le12 (w := 4) (n := n) (by omega) (by decide)
  rw [sl64_15 (by omega) (by omega), sl64_c (by omega) (by omega) c0 (by simpa using c1), Int.toNat_natCast, setd_int h1 (by omega) c0 c1 (by omega), Int.ediv_eq_zero_of_lt h1 h2]
  simp [pkd]
theorem pk2_app {f : Int → Int} {n : Nat} (hn : n < 12) (hf : ∀ i : Int, 0 ≤ i → i < n + 1 → 0 ≤ f i ∧ f i < 2 ^ 2) : bOr (bAn (pkd 2 f n) (bXo (sl32 3 (2 * n)) (-1))) (sl32 (f n) (2 * n)) = pkd 2 f (n + 1) := by
  obtain ⟨h1, h2⟩ := pkd_lt (w := 2) (f := f) n (fun i i0 i1 => hf i i0 (by omega))
  obtain ⟨c0, c1⟩ := hf n (by omega) (by omega)
  have h3 := pow_le12 (w := 2) (n := n) (by omega) (by decide)
  rw [sl32_3 (by omega) (by omega), sl32_c (by omega) (by omega) c0 (by simpa using c1), Int.toNat_natCast, setd_int h1 (by omega) c0 c1 (by omega), Int.ediv_eq_zero_of_lt h1 h2]
  simp [pkd]
theorem pk4_get {f : Int → Int} {n : Nat} {r : Int} (hn : n ≤ 12) (hf : ∀ i : Int, 0 ≤ i → i < n → 0 ≤ f i ∧ f i < 2 ^ 4) (r0 : 0 ≤ r) (r1 : r < n) : bAn (w32 (sr64 (pkd 4 f n) (4 * r))) 15 = f r := by
  have h5 := pkd_dig (w := 4) (f := f) (r := r.toNat) n (by omega) hf
  rw [Int.toNat_of_nonneg r0] at h5
  rw [bAn_15, ← h5]
  have e : sr64 (pkd 4 f n) (4 * r) = pkd 4 f n / 2 ^ (4 * r.toNat) := by
    unfold sr64
    rw [show (4 * r % 64).toNat = 4 * r.toNat by omega]
  rw [e]
  unfold w32
  generalize pkd 4 f n / 2 ^ (4 * r.toNat) = x
  rw [Int.bmod_def]
  split <;> omega
theorem pk2_get {f : Int → Int} {n : Nat} {r : Int} (hn : n ≤ 12) (hf : ∀ i : Int, 0 ≤ i → i < n → 0 ≤ f i ∧ f i < 2 ^ 2) (r0 : 0 ≤ r) (r1 : r < n) : bAn (sr32 (pkd 2 f n) (2 * r)) 3 = f r := by
  have h5 := pkd_dig (w := 2) (f := f) (r := r.toNat) n (by omega) hf
  rw [Int.toNat_of_nonneg r0] at h5
  rw [bAn_3, ← h5]
  unfold sr32
  rw [show (2 * r % 32).toNat = 2 * r.toNat by omega]
  simp
-- filling
def flM (s : iv_M) (q : Nat) (n v : Int) : iv_M := fun a i => if a = q ∧ 0 ≤ i ∧ i < n then v else s a i
theorem fill_ok {N q : Nat} {s : iv_M} {v : Int} {n : Int} (hn : ((sh q).2 : Int) = n) (hN : n < N) : FJ7_fill_53178 N s q v = some (flM s q n v) := by
  have hb := sh_le q
  unfold FJ7_fill_53178
  obtain ⟨z, e1, e2⟩ := loop_up (L := fun m x i => FJ7_fill_53178_l5 N q v n (fun (s_2 : iv_M) => some s_2) m x i) (k := fun x => some x) (hi := n) (fun i x => x = flM s q i v ∧ 0 ≤ i) (fun m x hx => by
      show FJ7_fill_53178_l5 N q v n (fun (s_2 : iv_M) => some s_2) (m + 1) x n = some x
      rw [FJ7_fill_53178_l5, if_pos (by omega)]) (fun m i x hx hi => by
      refine ⟨mu x q i v, ?_, ?_, by omega⟩
      · show FJ7_fill_53178_l5 N q v n (fun (s_2 : iv_M) => some s_2) (m + 1) x i = FJ7_fill_53178_l5 N q v n (fun (s_2 : iv_M) => some s_2) m (mu x q i v) (i + 1)
        rw [FJ7_fill_53178_l5, if_neg (by omega), hn, wr_ok hx.2 hi, Option.bind_some, w32_id (by omega) (by omega)]
      · rw [hx.1]
        funext a j
        unfold mu flM
        by_cases e : a = q ∧ j = i
        · rw [if_pos e, if_pos (by omega)]
        · rw [if_neg e]
          by_cases e2 : a = q ∧ 0 ≤ j ∧ j < i
          · rw [if_pos e2, if_pos (by omega)]
          · rw [if_neg e2, if_neg (by omega)]) N 0 s ⟨by funext a j; unfold flM; rw [if_neg (by omega)], by omega⟩ (by omega) (by omega)
  rw [hn]
  rw [← e1.1]
  exact e2
theorem fl_eq {s : iv_M} {q : Nat} {n v i : Int} (h0 : 0 ≤ i) (h1 : i < n) : flM s q n v q i = v := if_pos ⟨rfl, h0, h1⟩
theorem fl_ne {s : iv_M} {q a : Nat} {n v i : Int} (h : a ≠ q) : flM s q n v a i = s a i := if_neg (fun e => h e.1)
def TF (q : Nat) : Prop := (sh (q + 3)).2 = 16 ∧ (sh (q + 4)).2 = 48 ∧ (sh (q + 5)).2 = 64 ∧ (sh (q + 6)).2 = 64
def Fo (lo hi : Nat) (s s' : iv_M) : Prop := ∀ a i, (a < lo ∨ hi < a) → s' a i = s a i
theorem Fo.refl {lo hi : Nat} {s : iv_M} : Fo lo hi s s := fun _ _ _ => rfl
theorem Fo.trans {lo hi : Nat} {s s1 s2 : iv_M} (h1 : Fo lo hi s s1) (h2 : Fo lo hi s1 s2) : Fo lo hi s s2 := fun a i h => (h2 a i h).trans (h1 a i h)
theorem Fo.wide {lo hi lo' hi' : Nat} {s s1 : iv_M} (h1 : Fo lo hi s s1) (h2 : lo' ≤ lo) (h3 : hi ≤ hi') : Fo lo' hi' s s1 := fun a i h => h1 a i (by omega)
def FP (s : iv_M) (q : Nat) (B : iv_M) : Prop := s q 3 = pkd 4 (B 116) (B 114 2).toNat ∧ s q 4 = pkd 2 (B 117) (B 114 2).toNat
def Wf (B : iv_M) : Prop := Wa B ∧ Wc B ∧ Wr B
theorem Wf.dig {B : iv_M} (h : Wf B) : (∀ i : Int, 0 ≤ i → i < (B 114 2).toNat → 0 ≤ B 116 i ∧ B 116 i < 2 ^ 4) ∧ (∀ i : Int, 0 ≤ i → i < (B 114 2).toNat → 0 ≤ B 117 i ∧ B 117 i < 2 ^ 2) := by
  obtain ⟨h1, h2, h3⟩ := h
  have hh := h1.2.2.2.2.1
  refine ⟨fun i i0 i1 => ?_, fun i i0 i1 => ?_⟩
  · obtain ⟨a, b, c⟩ := h3 i i0 (by omega)
    exact ⟨a, by simpa using b⟩
  · obtain ⟨a, b, c⟩ := h3 i i0 (by omega)
    rcases h2 (B 116 i) a b with e | e
    · omega
    · rw [c] at e; exact ⟨e.2.2.2.1, by simpa using e.2.2.2.2.1⟩
theorem FX1_sweep_ok {N q : Nat} {s : iv_M} (hT : TF q) (hN : 100 ≤ N) : FX1_sweep N s q = some (flM (flM s (q + 3) 16 (-1)) (q + 5) 64 3) := by
  unfold FX1_sweep
  rw [fill_ok (n := 16) (by rw [hT.1]; rfl) (by omega), Option.bind_some, fill_ok (n := 64) (by rw [hT.2.2.1]; rfl) (by omega), Option.bind_some]
