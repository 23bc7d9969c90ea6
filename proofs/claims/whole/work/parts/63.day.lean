-- BY DAY: ways with keys
def ky (B : iv_M) (r : Int) : Int := bOr (bOr (bOr (bOr 0 (if B 119 0 = r then 2 else 0)) (if B 119 1 = r then 4 else 0)) (if B 119 2 = r then 8 else 0)) (if B 119 3 = r then 16 else 0)
def kyb (B : iv_M) (r : Int) : Int := ky B r / 2
theorem ky_2 (B : iv_M) (r : Int) : ky B r = 2 * kyb B r ∧ 0 ≤ kyb B r ∧ kyb B r < 16 := by
  unfold kyb ky
  by_cases h0 : B 119 0 = r <;> by_cases h1 : B 119 1 = r <;> by_cases h2 : B 119 2 = r <;> by_cases h3 : B 119 3 = r <;> simp [h0, h1, h2, h3] <;> decide
theorem FX2_keysIn_ok {N q : Nat} {s B : iv_M} {r : Int} (hN : 100 ≤ N) (hk : ∀ k, 0 ≤ k → k < 4 → s (q + 8) (k + 1) = B 119 k) : FX2_keysIn N s q r = some (ky B r) := by
  have k0 : s (q + 8) 1 = B 119 0 := hk 0 (by omega) (by omega)
  have k1 : s (q + 8) 2 = B 119 1 := hk 1 (by omega) (by omega)
  have k2 : s (q + 8) 3 = B 119 2 := hk 2 (by omega) (by omega)
  have k3 : s (q + 8) 4 = B 119 3 := hk 3 (by omega) (by omega)
  have st : ∀ (n : Nat) (x i v : Int), 1 ≤ i → i ≤ 4 → s (q + 8) i = v → FX2_keysIn_l4 N s q r (fun (x7_2 : Int) => (some x7_2)) (n + 1) x i = FX2_keysIn_l4 N s q r (fun (x7_2 : Int) => (some x7_2)) n (bOr x (if v = r then sl32 1 i else 0)) (i + 1) := by
    intro n x i v i0 i1 hv
    rw [FX2_keysIn_l4, if_neg (by omega), rd_ok (by omega) (by omega), Option.bind_some, hv]
    unfold FX2_keysIn_b27
    rw [w32_id (by omega) (by omega)]
    split <;> rfl
  unfold FX2_keysIn ky
  obtain ⟨M, hM⟩ : ∃ M, N = M + 5 := ⟨N - 5, by omega⟩
  have e0 := st (M + 4) 0 1 _ (by omega) (by omega) k0
  have e1 := st (M + 3) (bOr 0 (if B 119 0 = r then sl32 1 1 else 0)) 2 _ (by omega) (by omega) k1
  have e2 := st (M + 2) (bOr (bOr 0 (if B 119 0 = r then sl32 1 1 else 0)) (if B 119 1 = r then sl32 1 2 else 0)) 3 _ (by omega) (by omega) k2
  have e3 := st (M + 1) (bOr (bOr (bOr 0 (if B 119 0 = r then sl32 1 1 else 0)) (if B 119 1 = r then sl32 1 2 else 0)) (if B 119 2 = r then sl32 1 3 else 0)) 4 _ (by omega) (by omega) k3
  rw [show M + 4 + 1 = N by omega] at e0
  refine (e0.trans (e1.trans (e2.trans e3))).trans ?_
  rw [FX2_keysIn_l4, if_pos (by omega), show sl32 1 1 = 2 by decide, show sl32 1 2 = 4 by decide, show sl32 1 3 = 8 by decide, show sl32 1 4 = 16 by decide]
theorem FX12_keysIn_ok {N : Nat} {s : iv_M} {r : Int} (hN : 100 ≤ N) : FX12_keysIn N s 113 r = some (ky s r) := by
  have st : ∀ (n : Nat) (x i : Int), 0 ≤ i → i < 4 → FX12_keysIn_l4 N s 113 r (fun (x3281_2 : Int) => (some x3281_2)) (n + 1) x i = FX12_keysIn_l4 N s 113 r (fun (x3281_2 : Int) => (some x3281_2)) n (bOr x (if s 119 i = r then sl32 2 i else 0)) (i + 1) := by
    intro n x i i0 i1
    rw [FX12_keysIn_l4, if_neg (by omega)]
    simp only [Nat.reduceAdd]
    rw [rd_ok (by omega) (by omega), Option.bind_some]
    unfold FX12_keysIn_b27
    rw [w32_id (by omega) (by omega)]
    split <;> rfl
  unfold FX12_keysIn ky
  obtain ⟨M, hM⟩ : ∃ M, N = M + 5 := ⟨N - 5, by omega⟩
  have e0 := st (M + 4) 0 0 (by omega) (by omega)
  have e1 := st (M + 3) (bOr 0 (if s 119 0 = r then sl32 2 0 else 0)) 1 (by omega) (by omega)
  have e2 := st (M + 2) (bOr (bOr 0 (if s 119 0 = r then sl32 2 0 else 0)) (if s 119 1 = r then sl32 2 1 else 0)) 2 (by omega) (by omega)
  have e3 := st (M + 1) (bOr (bOr (bOr 0 (if s 119 0 = r then sl32 2 0 else 0)) (if s 119 1 = r then sl32 2 1 else 0)) (if s 119 2 = r then sl32 2 2 else 0)) 3 (by omega) (by omega)
  rw [show M + 4 + 1 = N by omega] at e0
  refine (e0.trans (e1.trans (e2.trans e3))).trans ?_
  rw [FX12_keysIn_l4, if_pos (by omega), show sl32 2 0 = 2 by decide, show sl32 2 1 = 4 by decide, show sl32 2 2 = 8 by decide, show sl32 2 3 = 16 by decide]
abbrev opn (side bag : Int) : Prop := side < 3 ∨ bag / 2 ^ (side - 3).toNat % 2 = 1
theorem opn_all : ∀ (a b : Fin 7) (g : Fin 16), (bAn (lkb a.val b.val) (bXo (2 * g.val) (-1)) = 0) ↔ (opn a.val g.val ∧ opn b.val g.val) := by decide +kernel
theorem opn_ok {a b g : Int} (a0 : 0 ≤ a) (a1 : a ≤ 6) (b0 : 0 ≤ b) (b1 : b ≤ 6) (g0 : 0 ≤ g) (g1 : g < 16) : (bAn (lkb a b) (bXo (2 * g) (-1)) = 0) ↔ (opn a g ∧ opn b g) := by
  have := opn_all ⟨a.toNat, by omega⟩ ⟨b.toNat, by omega⟩ ⟨g.toNat, by omega⟩
  simp only [Int.toNat_of_nonneg a0, Int.toNat_of_nonneg b0, Int.toNat_of_nonneg g0] at this
  exact this
theorem or2_all : ∀ (a b : Fin 16), bOr (2 * a.val) (2 * b.val) = 2 * bOr a.val b.val ∧ 0 ≤ bOr a.val b.val ∧ bOr a.val b.val < 16 := by decide +kernel
theorem or2_ok {a b : Int} (a0 : 0 ≤ a) (a1 : a < 16) (b0 : 0 ≤ b) (b1 : b < 16) : bOr (2 * a) (2 * b) = 2 * bOr a b ∧ 0 ≤ bOr a b ∧ bOr a b < 16 := by
  have := or2_all ⟨a.toNat, by omega⟩ ⟨b.toNat, by omega⟩
  simp only [Int.toNat_of_nonneg a0, Int.toNat_of_nonneg b0] at this
  exact this
theorem opens_ok {N : Nat} {s : iv_M} {a g : Int} (a0 : 0 ≤ a) (a1 : a ≤ 6) : FX12_opens_ N s a g = some (if opn a g then 1 else 0) := by
  unfold FX12_opens_ FX12_opens__b16 FX12_opens__b21
  rw [b01_0, b01_1, bAn_1, w32_id (by omega) (by omega)]
  by_cases h : a < 3
  · rw [if_pos h, if_pos (show opn a g from Or.inl h)]
  · rw [if_neg h]
    have hs : sr32 g (a - 3) = g / 2 ^ (a - 3).toNat := by unfold sr32; rw [show ((a - 3) % 32).toNat = (a - 3).toNat by omega]
    rw [hs]
    by_cases h2 : g / 2 ^ (a - 3).toNat % 2 = 1
    · rw [if_pos h2, if_pos (show opn a g from Or.inr h2)]
    · rw [if_neg h2, if_neg (show ¬ opn a g from fun z => by rcases z with z | z; exact h z; exact h2 z)]
-- the way itself: steps to spots (16 * room + bag), and spots in their order
abbrev DP : Type := (Int → Int) × List Int
def cme (P : DP) (i v : Int) : DP := if P.1 i = -1 then (fun j => if j = i then v else P.1 j, P.2 ++ [i]) else P
def dst (B : iv_M) (x d : Int) (P : DP) : DP := if td B (x / 16) d ≠ -1 ∧ opn (sd B (x / 16) d) (x % 16) ∧ opn (sd B (td B (x / 16) d) ((d + 2) % 4)) (x % 16) then cme P (16 * td B (x / 16) d + bOr (x % 16) (kyb B (td B (x / 16) d))) (P.1 x + 1) else P
def dal (B : iv_M) (x : Int) (P : DP) : DP := dst B x 3 (dst B x 2 (dst B x 1 (dst B x 0 P)))
def spr (B : iv_M) : Nat → Nat → DP → DP
  | 0, _, P => P
  | n + 1, h, P => if h < P.2.length then spr B n (h + 1) (dal B (P.2.getD h 0) P) else P
def dyA (B : iv_M) (r : Int) : DP := spr B 200 0 (cme (fun _ => -1, []) (16 * r + kyb B r) 0)
def cd (D : Int → Int) : Int → Int := fun i => if D i = -1 then 0 else 1
def DI (B : iv_M) (P : DP) : Prop := su (cd P.1) 192 = P.2.length ∧ (∀ x ∈ P.2, 0 ≤ x ∧ x < 16 * B 114 2) ∧ ∀ i, 0 ≤ i → i < 192 → P.1 i = -1 ∨ (0 ≤ P.1 i ∧ P.1 i ≤ P.2.length)
theorem su_upd {f g : Int → Int} {i : Int} : ∀ n : Nat, 0 ≤ i → i < n → (∀ j, j ≠ i → g j = f j) → su g n = su f n - f i + g i := by
  intro n
  induction n with
  | zero => intro h1 h2; omega
  | succ n ih =>
    intro h1 h2 h
    show su g n + g n = su f n + f n - f i + g i
    by_cases e : i = n
    · subst e
      rw [su_congr n (f := g) (g := f) (fun j _ _ => h j (by omega))]; omega
    · rw [ih h1 (by omega) h, h n (by omega)]; omega
theorem cd_lt {D : Int → Int} {i : Int} (i0 : 0 ≤ i) (i1 : i < 192) (h : D i = -1) : su (cd D) 192 ≤ 191 := by
  have h1 := su_upd (f := cd D) (g := fun j => if j = i then 1 else cd D j) 192 i0 (by omega) (fun j hj => if_neg hj)
  have h2 := su_le (f := fun j => if j = i then 1 else cd D j) (m := 1) 192 (fun j _ _ => by
    show 0 ≤ (if j = i then 1 else cd D j) ∧ (if j = i then 1 else cd D j) ≤ 1
    unfold cd; repeat' split
    all_goals omega)
  have h3 : cd D i = 0 := if_pos h
  have h4 : (fun j => if j = i then 1 else cd D j) i = 1 := if_pos rfl
  omega
theorem DI_cme {B : iv_M} {P : DP} {i v : Int} (h : DI B P) (i0 : 0 ≤ i) (i1 : i < 16 * B 114 2) (hr : B 114 2 ≤ 12) (v0 : 0 ≤ v) (v1 : v ≤ P.2.length + 1) : DI B (cme P i v) := by
  unfold cme
  by_cases e : P.1 i = -1
  · rw [if_pos e]
    obtain ⟨h1, h2, h3⟩ := h
    refine ⟨?_, fun x hx => ?_, fun j j0 j1 => ?_⟩
    · have := su_upd (f := cd P.1) (g := cd (fun j => if j = i then v else P.1 j)) 192 i0 (by omega) (fun j hj => by simp [cd, hj])
      rw [this, h1, List.length_append]
      have e1 : cd P.1 i = 0 := if_pos e
      have e2 : cd (fun j => if j = i then v else P.1 j) i = 1 := by simp [cd]; omega
      rw [e1, e2]; simp
    · rcases List.mem_append.mp hx with hx | hx
      · exact h2 x hx
      · rw [List.mem_singleton] at hx; omega
    · show (if j = i then v else P.1 j) = -1 ∨ _
      rw [List.length_append]
      by_cases e2 : j = i
      · right; simp only [if_pos e2]; simp; omega
      · simp only [if_neg e2]
        rcases h3 j j0 j1 with z | z
        · left; exact z
        · right; simp; omega
  · rw [if_neg e]; exact h
/-- a spot that came has steps -/
def DQ (P : DP) : Prop := ∀ x ∈ P.2, P.1 x ≠ -1
theorem DQ_cme {P : DP} {i v : Int} (h : DQ P) (v0 : 0 ≤ v) : DQ (cme P i v) := by
  unfold cme
  by_cases e : P.1 i = -1
  · rw [if_pos e]
    intro x hx
    show (if x = i then v else P.1 x) ≠ -1
    by_cases e2 : x = i
    · rw [if_pos e2]; omega
    · rw [if_neg e2]
      rcases List.mem_append.mp hx with hx | hx
      · exact h x hx
      · rw [List.mem_singleton] at hx; exact absurd hx e2
  · rw [if_neg e]; exact h
theorem cme_keep {P : DP} {i v x : Int} (h : P.1 x ≠ -1) : (cme P i v).1 x = P.1 x := by
  unfold cme
  split
  · next e =>
    show (if x = i then v else P.1 x) = _
    rw [if_neg (fun z => h (by rw [z]; exact e))]
  · rfl
theorem DI_len {B : iv_M} {P : DP} (h : DI B P) : P.2.length ≤ 192 := by
  have := su_le (f := cd P.1) (m := 1) 192 (fun j _ _ => by unfold cd; split <;> omega)
  have := h.1
  omega
theorem gd_mem {l : List Int} {k : Nat} {d : Int} (h : k < l.length) : l.getD k d ∈ l := by
  rw [List.getD_eq_getElem?_getD, List.getElem?_eq_getElem h]; exact List.getElem_mem h
theorem gd_app {l t : List Int} {k : Nat} {d : Int} (h : k < l.length) : (l ++ t).getD k d = l.getD k d := by
  rw [List.getD_eq_getElem?_getD, List.getD_eq_getElem?_getD, List.getElem?_append_left h]
theorem dst_pres {B : iv_M} {P : DP} {x d : Int} (hW : Wf B) (hI : DI B P) (hQ : DQ P) (hx : P.1 x ≠ -1) (x0 : 0 ≤ x) (x1 : x < 16 * B 114 2) : DI B (dst B x d P) ∧ DQ (dst B x d P) ∧ (dst B x d P).1 x = P.1 x ∧ ∃ t, (dst B x d P).2 = P.2 ++ t := by
  have hr := hW.1.2.2.2.2.2.1
  unfold dst
  by_cases e : td B (x / 16) d ≠ -1 ∧ opn (sd B (x / 16) d) (x % 16) ∧ opn (sd B (td B (x / 16) d) ((d + 2) % 4)) (x % 16)
  · rw [if_pos e]
    obtain ⟨t1, t2, t3, t4, t5, t6⟩ := td_room hW e.1
    have k1 := ky_2 B (td B (x / 16) d)
    have k2 := or2_ok (a := x % 16) (b := kyb B (td B (x / 16) d)) (by omega) (by omega) k1.2.1 k1.2.2
    have hb := hI.2.2 x x0 (by omega)
    refine ⟨DI_cme hI (by omega) (by omega) hr (by omega) (by omega), DQ_cme hQ (by omega), cme_keep hx, ?_⟩
    unfold cme
    split
    · exact ⟨_, rfl⟩
    · exact ⟨[], by rw [List.append_nil]⟩
  · rw [if_neg e]; exact ⟨hI, hQ, rfl, [], by rw [List.append_nil]⟩
theorem dal_pres {B : iv_M} {P : DP} {x : Int} (hW : Wf B) (hI : DI B P) (hQ : DQ P) (hx : P.1 x ≠ -1) (x0 : 0 ≤ x) (x1 : x < 16 * B 114 2) : DI B (dal B x P) ∧ DQ (dal B x P) ∧ ∃ t, (dal B x P).2 = P.2 ++ t := by
  obtain ⟨a1, a2, a3, t1, a4⟩ := dst_pres (d := 0) hW hI hQ hx x0 x1
  obtain ⟨b1, b2, b3, t2, b4⟩ := dst_pres (d := 1) hW a1 a2 (by rw [a3]; exact hx) x0 x1
  obtain ⟨c1, c2, c3, t3, c4⟩ := dst_pres (d := 2) hW b1 b2 (by rw [b3, a3]; exact hx) x0 x1
  obtain ⟨d1, d2, d3, t4, d4⟩ := dst_pres (d := 3) hW c1 c2 (by rw [c3, b3, a3]; exact hx) x0 x1
  exact ⟨d1, d2, t1 ++ (t2 ++ (t3 ++ t4)), by unfold dal; rw [d4, c4, b4, a4]; simp [List.append_assoc]⟩
-- the class
def DC (s : iv_M) (P : DP) : Prop := s 98 2 = P.2.length ∧ (∀ j : Nat, j < P.2.length → s 100 j = 2 * P.2.getD j 0) ∧ ∀ i, 0 ≤ i → i < 192 → s 99 (2 * i) = P.1 i
def Df (s s' : iv_M) : Prop := (∀ a, a ≠ 98 → a ≠ 99 → a ≠ 100 → s' a = s a) ∧ ∀ i, i ≠ 2 → s' 98 i = s 98 i
theorem Df.refl {s : iv_M} : Df s s := ⟨fun _ _ _ _ => rfl, fun _ _ => rfl⟩
theorem Df.trans {s s1 s2 : iv_M} (h : Df s s1) (h2 : Df s1 s2) : Df s s2 := ⟨fun a x y z => (h2.1 a x y z).trans (h.1 a x y z), fun i x => (h2.2 i x).trans (h.2 i x)⟩
theorem FX0_come_ok {N : Nat} {s B : iv_M} {P : DP} {r g v : Int} (hI : DI B P) (hC : DC s P) (hr : B 114 2 ≤ 12) (r0 : 0 ≤ r) (r1 : r < B 114 2) (g0 : 0 ≤ g) (g1 : g < 16) : ∃ s', FX0_come N s 98 r (2 * g) v = some s' ∧ DC s' (cme P (16 * r + g) v) ∧ Df s s' := by
  obtain ⟨c1, c2, c3⟩ := hC
  have hl := DI_len hI
  unfold FX0_come FX0_come_b60 cme
  simp only [Nat.reduceAdd]
  rw [w32_id (x := 32 * r) (by omega) (by omega), w32_id (x := 32 * r + 2 * g) (by omega) (by omega), show 32 * r + 2 * g = 2 * (16 * r + g) by omega, rd_ok (by omega) (by omega), Option.bind_some, c3 _ (by omega) (by omega)]
  by_cases e : P.1 (16 * r + g) = -1
  · rw [if_pos e, if_pos e, if_neg (by omega), wr_ok (by omega) (by omega), Option.bind_some, mu_ne (by omega), c1, wr_ok (by omega) (by omega), Option.bind_some, pt_ok, Option.bind_some]
    simp (disch := omega) only [mu_ne]
    rw [c1, w32_id (by omega) (by omega)]
    refine ⟨_, rfl, ⟨?_, fun j hj => ?_, fun i i0 i1 => ?_⟩, ⟨fun a x y z => ?_, fun i x => ?_⟩⟩
    · rw [mu_eq, List.length_append]; simp
    · rw [List.length_append] at hj
      rw [mu_ne (by omega)]
      by_cases e2 : j = P.2.length
      · subst e2
        rw [mu_eq]
        have := gd_at (l := P.2) (t := []) (k := P.2.length) (d := 0) (x := 16 * r + g) rfl
        rw [List.append_nil] at this
        rw [this]
      · have hj : j < P.2.length := by simp at hj; omega
        rw [mu_ne (by omega), mu_ne (by omega), c2 j hj, gd_app hj]
    · show _ = if i = 16 * r + g then v else P.1 i
      rw [mu_ne (by omega), mu_ne (by omega)]
      by_cases e2 : i = 16 * r + g
      · rw [if_pos e2, e2, mu_eq]
      · rw [if_neg e2, mu_ne (by omega), c3 i i0 i1]
    · rw [mu_rw x, mu_rw z, mu_rw y]
    · rw [mu_ne (by omega), mu_ne (by omega), mu_ne (by omega)]
  · rw [if_neg e, if_neg e]; exact ⟨s, rfl, ⟨c1, c2, c3⟩, Df.refl⟩
/-- a house as the day sees it: away from the day's own rows -/
def DH (s : iv_M) (q : Nat) (B : iv_M) : Prop := Wf B ∧ FRc s (q + 1) B ∧ (∀ k, 0 ≤ k → k < 4 → s (q + 8) (k + 1) = B 119 k) ∧ (q + 8 < 98 ∨ 100 < q)
theorem DH_df {s s' B : iv_M} {q : Nat} (h : DH s q B) (hf : Df s s') : DH s' q B := by
  obtain ⟨h1, h2, h3, h4⟩ := h
  refine ⟨h1, FRc_ext (fun a x y => hf.1 a (by omega) (by omega) (by omega)) h2, fun k k0 k1 => ?_, h4⟩
  rw [hf.1 (q + 8) (by omega) (by omega) (by omega)]; exact h3 k k0 k1
theorem FX0_spread_st {N q n : Nat} {s B : iv_M} {P : DP} {h x d : Int} {kx : iv_M → Option iv_M} (hN : 100 ≤ N) (hH : DH s q B) (hI : DI B P) (hC : DC s P) (h0 : 0 ≤ h) (h1 : h < P.2.length) (hx : P.2.getD h.toNat 0 = x) (hx1 : P.1 x ≠ -1) (x0 : 0 ≤ x) (x1 : x < 16 * B 114 2) (d0 : 0 ≤ d) (d1 : d < 4) : ∃ s', FX0_spread_l68 N 98 q h (x / 16) (2 * (x % 16)) kx (n + 1) s d = FX0_spread_l68 N 98 q h (x / 16) (2 * (x % 16)) kx n s' (d + 1) ∧ DC s' (dst B x d P) ∧ Df s s' := by
  obtain ⟨hW, hF, hK, hq⟩ := hH
  have hr := hW.1.2.2.2.2.2.1
  have hl := DI_len hI
  rw [FX0_spread_l68, if_neg (by omega), FX1_throughDoor_ok hF hW (by omega) (by omega) d0 d1, Option.bind_some]
  unfold FX0_spread_b142 dst
  rw [w32_id (x := d + 1) (by omega) (by omega)]
  by_cases e : td B (x / 16) d = -1
  · rw [if_pos e, if_neg (fun z => z.1 e)]; exact ⟨s, rfl, hC, Df.refl⟩
  · obtain ⟨t1, t2, t3, t4, t5, t6⟩ := td_room hW e
    have s1 := sd_rng (d := d) hW.1 (r := x / 16) (by omega) (by omega)
    have s2 := sd_rng (d := (d + 2) % 4) hW.1 t5 t6
    have ho := opn_ok (g := x % 16) s1.1 s1.2 s2.1 s2.2 (by omega) (by omega)
    rw [if_neg e, FX1_locksBetween_ok hF hW (by omega) (by omega) t5 t6 d0 d1, Option.bind_some]
    by_cases e2 : bAn (lkb (sd B (x / 16) d) (sd B (td B (x / 16) d) ((d + 2) % 4))) (bXo (2 * (x % 16)) (-1)) = 0
    · have e3 := ho.mp e2
      have k1 := ky_2 B (td B (x / 16) d)
      have k2 := or2_ok (a := x % 16) (b := kyb B (td B (x / 16) d)) (by omega) (by omega) k1.2.1 k1.2.2
      have hb := hI.2.2 x x0 (by omega)
      simp only [Nat.reduceAdd]
      have hqh := hC.2.1 h.toNat (by omega)
      rw [Int.toNat_of_nonneg h0, hx] at hqh
      rw [if_pos e2, if_pos (show td B (x / 16) d ≠ -1 ∧ opn (sd B (x / 16) d) (x % 16) ∧ opn (sd B (td B (x / 16) d) ((d + 2) % 4)) (x % 16) from ⟨e, e3⟩), FX2_keysIn_ok hN hK, Option.bind_some, rd_ok h0 (by omega), Option.bind_some, hqh, rd_ok (by omega) (by omega), Option.bind_some, hC.2.2 x x0 (by omega), w32_id (x := P.1 x + 1) (by omega) (by omega), k1.1, k2.1]
      obtain ⟨s', a1, a2, a3⟩ := FX0_come_ok (N := N) (v := P.1 x + 1) hI hC hr t5 t6 k2.2.1 k2.2.2
      rw [a1, Option.bind_some]
      exact ⟨s', rfl, a2, a3⟩
    · rw [if_neg e2, if_neg (fun z => e2 (ho.mpr z.2))]; exact ⟨s, rfl, hC, Df.refl⟩
theorem FX0_spread_in {N q : Nat} {s B : iv_M} {P : DP} {h x : Int} {kx : iv_M → Option iv_M} (hN : 100 ≤ N) (hH : DH s q B) (hI : DI B P) (hQ : DQ P) (hC : DC s P) (h0 : 0 ≤ h) (h1 : h < P.2.length) (hx : P.2.getD h.toNat 0 = x) (hx1 : P.1 x ≠ -1) (x0 : 0 ≤ x) (x1 : x < 16 * B 114 2) : ∃ s', FX0_spread_l68 N 98 q h (x / 16) (2 * (x % 16)) kx N s 0 = kx s' ∧ DC s' (dal B x P) ∧ Df s s' := by
  have gl : ∀ (P' : DP) (t : List Int), P'.2 = P.2 ++ t → h < P'.2.length ∧ P'.2.getD h.toNat 0 = x := by
    intro P' t e
    rw [e, List.length_append]
    exact ⟨by simp; omega, by rw [gd_app (by omega)]; exact hx⟩
  obtain ⟨M, hM⟩ : ∃ M, N = M + 5 := ⟨N - 5, by omega⟩
  obtain ⟨s1, a1, a2, a3⟩ := FX0_spread_st (n := M + 4) (kx := kx) (d := 0) hN hH hI hC h0 h1 hx hx1 x0 x1 (by omega) (by omega)
  obtain ⟨p1, p2, p3, t1, p4⟩ := dst_pres (d := 0) hH.1 hI hQ hx1 x0 x1
  obtain ⟨s2, b1, b2, b3⟩ := FX0_spread_st (n := M + 3) (kx := kx) (d := 1) hN (DH_df hH a3) p1 a2 h0 (gl _ _ p4).1 (gl _ _ p4).2 (by rw [p3]; exact hx1) x0 x1 (by omega) (by omega)
  obtain ⟨q1, q2, q3, t2, q4⟩ := dst_pres (d := 1) hH.1 p1 p2 (by rw [p3]; exact hx1) x0 x1
  have q5 : (dst B x 1 (dst B x 0 P)).2 = P.2 ++ (t1 ++ t2) := by rw [q4, p4, List.append_assoc]
  obtain ⟨s3, c1, c2, c3⟩ := FX0_spread_st (n := M + 2) (kx := kx) (d := 2) hN (DH_df (DH_df hH a3) b3) q1 b2 h0 (gl _ _ q5).1 (gl _ _ q5).2 (by rw [q3, p3]; exact hx1) x0 x1 (by omega) (by omega)
  obtain ⟨r1, r2, r3, t3, r4⟩ := dst_pres (d := 2) hH.1 q1 q2 (by rw [q3, p3]; exact hx1) x0 x1
  have r5 : (dst B x 2 (dst B x 1 (dst B x 0 P))).2 = P.2 ++ (t1 ++ t2 ++ t3) := by rw [r4, q5, List.append_assoc]
  obtain ⟨s4, d1, d2, d3⟩ := FX0_spread_st (n := M + 1) (kx := kx) (d := 3) hN (DH_df (DH_df (DH_df hH a3) b3) c3) r1 c2 h0 (gl _ _ r5).1 (gl _ _ r5).2 (by rw [r3, q3, p3]; exact hx1) x0 x1 (by omega) (by omega)
  refine ⟨s4, ?_, d2, ((a3.trans b3).trans c3).trans d3⟩
  rw [show M + 4 + 1 = N by omega] at a1
  refine (a1.trans (b1.trans (c1.trans d1))).trans ?_
  rw [FX0_spread_l68, if_pos (by omega)]
theorem FX0_spread_out {N q : Nat} {B : iv_M} {kx : iv_M → Option iv_M} (hN : 1000 ≤ N) : ∀ (k n : Nat) (h : Nat) (s : iv_M) (P : DP), DH s q B → DI B P → DQ P → DC s P → h ≤ P.2.length → 192 < k + h → 192 < n + h → ∃ s', FX0_spread_l26 N 98 q kx n s h = kx s' ∧ DC s' (spr B k h P) ∧ Df s s' := by
  intro k
  induction k with
  | zero => intro n h s P hH hI hQ hC hh h1 h2; have := DI_len hI; omega
  | succ k ih =>
    intro n h s P hH hI hQ hC hh h1 h2
    have hl := DI_len hI
    obtain ⟨n, rfl⟩ : ∃ m, n = m + 1 := ⟨n - 1, by omega⟩
    rw [FX0_spread_l26, hC.1]
    unfold spr
    by_cases e : h < P.2.length
    · have hm := gd_mem (d := 0) e
      have hx := hI.2.1 _ hm
      have hx1 := hQ _ hm
      have hr := hH.1.1.2.2.2.2.2.1
      simp only [Nat.reduceAdd]
      rw [if_pos e, if_neg (by omega), if_neg (by omega), rd_ok (by omega) (by omega), Option.bind_some, Option.bind_some, hC.2.1 h e]
      obtain ⟨s', a1, a2, a3⟩ := FX0_spread_in (N := N) (kx := fun (s_53 : iv_M) => (FX0_spread_l26 N 98 q kx n s_53 (w32 ((h : Int) + 1)))) (h := (h : Int)) (by omega) hH hI hQ hC (by omega) (by omega) (by rw [Int.toNat_natCast]) hx1 hx.1 hx.2
      generalize hg : P.2.getD h 0 = x at *
      obtain ⟨p1, p2, t, p3⟩ := dal_pres hH.1 hI hQ hx1 hx.1 hx.2
      rw [dv32_pos (by omega) (by omega) (by omega), tmod_pos (by omega), show 2 * x / 32 = x / 16 by omega, show 2 * x % 32 = 2 * (x % 16) by omega, a1, w32_id (by omega) (by omega)]
      obtain ⟨s2, b1, b2, b3⟩ := ih n (h + 1) s' (dal B x P) (DH_df hH a3) p1 p2 a2 (by rw [p3, List.length_append]; omega) (by omega) (by omega)
      exact ⟨s2, b1, b2, a3.trans b3⟩
    · rw [if_neg e, if_pos (by omega)]; exact ⟨s, rfl, hC, Df.refl⟩
theorem DI_0 {B : iv_M} : DI B (fun _ => -1, []) := by
  refine ⟨?_, fun x hx => (by cases hx), fun i _ _ => Or.inl rfl⟩
  have := su_ext (f := cd (fun _ => -1)) (n := 0) 192 (by omega) (fun i _ _ => if_pos rfl)
  rw [this]; rfl
theorem FX0_spread_ok {N q : Nat} {s B : iv_M} {r : Int} (hN : 1000 ≤ N) (hH : DH s q B) (r0 : 0 ≤ r) (r1 : r < B 114 2) : ∃ s', FX0_spread N s 98 q r = some s' ∧ DC s' (dyA B r) ∧ Df s s' := by
  have hr := hH.1.1.2.2.2.2.2.1
  have k1 := ky_2 B r
  unfold FX0_spread FX0_spread_b154 dyA
  simp only [Nat.reduceAdd]
  rw [fill_ok (n := 384) (by decide) (by omega), Option.bind_some, pt_ok, Option.bind_some]
  have f0 : Df s (mu (flM s 99 384 (-1)) 98 2 0) := ⟨fun a x y z => by rw [mu_rw x]; funext j; exact fl_ne y, fun i x => by rw [mu_ne (by omega), fl_ne (by omega)]⟩
  have hH1 := DH_df hH f0
  have c0 : DC (mu (flM s 99 384 (-1)) 98 2 0) (fun _ => -1, []) := ⟨mu_eq, fun j hj => by simp at hj, fun i i0 i1 => by rw [mu_ne (by omega), fl_eq (by omega) (by omega)]⟩
  rw [FX2_keysIn_ok (by omega) hH1.2.2.1, Option.bind_some, k1.1]
  obtain ⟨s1, a1, a2, a3⟩ := FX0_come_ok (N := N) (v := 0) DI_0 c0 hr r0 r1 k1.2.1 k1.2.2
  rw [a1, Option.bind_some]
  have i1 : DI B (cme (fun _ => -1, []) (16 * r + kyb B r) 0) := DI_cme DI_0 (by omega) (by omega) hr (by omega) (by simp)
  have q1 : DQ (cme (fun _ => -1, []) (16 * r + kyb B r) 0) := DQ_cme (fun x hx => (by cases hx)) (by omega)
  obtain ⟨s2, b1, b2, b3⟩ := FX0_spread_out (N := N) (q := q) (B := B) (kx := fun (s_45 : iv_M) => some s_45) hN 200 N 0 s1 _ (DH_df hH1 a3) i1 q1 a2 (by omega) (by omega) (by omega)
  exact ⟨s2, b1, b2, (f0.trans a3).trans b3⟩
