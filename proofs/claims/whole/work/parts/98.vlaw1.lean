-- THE LAW: its steps
theorem lw_T : iv_Tb 351 tL_law := iv_tb_of (m := mL_law) iv_law_at
abbrev lwL (i : Int32) : iv_L := [some (.ref iv_big), some (.ref 0), some (.ref 113), some (.int i)]
def lwq (pc : Nat) (f : iv_F) : Bool := match iv_lk pc tL_law with
  | some g => decide (g = f)
  | none => false
theorem lwq_iff {pc : Nat} {f : iv_F} : lwq pc f = true ↔ iv_lk pc tL_law = some f := by
  unfold lwq
  cases iv_lk pc tL_law with
  | none => exact ⟨(fun z => by cases z), (fun z => by cases z)⟩
  | some g => exact ⟨fun z => by rw [of_decide_eq_true z], fun z => by injection z with z; exact decide_eq_true z⟩
theorem ofInt_sm : ∀ j : Fin 8, (Int32.ofInt (j.1 : Int)).toInt = (j.1 : Int) := by decide +kernel
theorem ofInt_sm' {j : Nat} (h : j < 8) : (Int32.ofInt (j : Int)).toInt = (j : Int) := ofInt_sm ⟨j, h⟩
theorem lw_ald {nc Ls n : Nat} {Xs : Nat → Int32} {h : iv_H} {s : iv_M} (hR : Rep nc Ls Xs h s) {i : Int32} (hi : i.toInt = (n : Int)) (hn : n < Ls) {st : List Value} : iv_ald 0 (.int i :: .ref iv_big :: st) h = some (.int (Xs n) :: st, h) := by
  have e : i.toNatClampNeg = n := by
    show i.toInt.toNat = n
    rw [hi, Int.toNat_natCast]
  have eX : iv_X Ls Xs iv_big = .inl (0, Ls, .inl Xs) := by
    unfold iv_X
    exact if_pos rfl
  have ea : iv_arr h iv_big = some (0, Ls, .inl Xs) := by
    unfold iv_arr
    rw [if_pos (Or.inr (Nat.le_refl _)), hR.2.2.2.1 iv_big (Nat.le_refl _), eX]
    try rfl
  have eo : iv_oub i Ls = false := by
    unfold iv_oub
    rw [e, Bool.or_eq_false_iff]
    refine ⟨decide_eq_false (fun z => ?_), decide_eq_false (by omega)⟩
    have := (ti_l hi L32_0).mp z
    omega
  unfold iv_ald
  dsimp only
  rw [ea, Option.bind_some]
  have hc : ((0 : Nat) = 0 ∨ ((0 : Nat) = 2 ∧ (0 : Nat) = 3 ∧ iv_big < h.1)) ∧ ((0 : Nat) = 2 → iv_big < h.1) ∧ iv_oub i Ls = false := ⟨Or.inl rfl, (fun z => absurd z (by decide)), eo⟩
  refine (if_pos hc).trans ?_
  rw [e]
theorem lw_alen {nc Ls : Nat} {Xs : Nat → Int32} {h : iv_H} {s : iv_M} (hR : Rep nc Ls Xs h s) {st : List Value} : iv_alen (.ref iv_big :: st) h = some (.int (Int32.ofNat Ls) :: st, h) := by
  have eX : iv_X Ls Xs iv_big = .inl (0, Ls, .inl Xs) := by
    unfold iv_X
    exact if_pos rfl
  have ea : iv_arr h iv_big = some (0, Ls, .inl Xs) := by
    unfold iv_arr
    rw [if_pos (Or.inr (Nat.le_refl _)), hR.2.2.2.1 iv_big (Nat.le_refl _), eX]
    try rfl
  unfold iv_alen
  dsimp only
  rw [ea, Option.bind_some]
  exact if_pos ⟨Nat.zero_le _, Or.inr rfl⟩
/-- the loads of the arguments number j to j + k - 1 stand from pc on -/
def lwA : Nat → Nat → Nat → Bool
  | 0, _, _ => true
  | k + 1, j, pc => lwq pc (.aload_n 0, pc + 1, 0, 0, []) && lwq (pc + 1) (.iload_n 3, pc + 2, 0, 0, []) && lwq (pc + 2) (.iconst (j : Int), pc + 3, 0, 0, []) && lwq (pc + 3) (.iadd, pc + 4, 0, 0, []) && lwq (pc + 4) (.iaload, pc + 5, 0, 0, []) && lwA k (j + 1) (pc + 5)
def lwS (Xs : Nat → Int32) (n : Nat) : Nat → Nat → List Value → List Value
  | 0, _, st => st
  | k + 1, j, st => lwS Xs n k (j + 1) (.int (Xs (n + j)) :: st)
def lwV (Xs : Nat → Int32) (n : Nat) : Nat → Nat → List Value
  | 0, _ => []
  | k + 1, j => .int (Xs (n + j)) :: lwV Xs n k (j + 1)
theorem lwA_ok {d nc Ls n : Nat} {rt : Option FieldType} {Xs : Nat → Int32} {h : iv_H} {s : iv_M} (hR : Rep nc Ls Xs h s) {i : Int32} (hi : i.toInt = (n : Int)) (hL : Ls ≤ 3072) {Q : Option Value → iv_H → Prop} : ∀ (k j pc : Nat) (st : List Value), lwA k j pc = true → n + j + k ≤ Ls → j + k < 8 → Rn d 351 rt (pc + 5 * k) (lwL i) (lwS Xs n k j st) h Q → Rn d 351 rt pc (lwL i) st h Q := by
  intro k
  induction k with
  | zero => intro j pc st _ _ _ r; exact r
  | succ k ih =>
    intro j pc st c hn hj r
    unfold lwA at c
    simp only [Bool.and_eq_true, decide_eq_true_eq, lwq_iff] at c
    obtain ⟨⟨⟨⟨⟨c0, c1⟩, c2⟩, c3⟩, c4⟩, c5⟩ := c
    refine Rn.lo lw_T c0 rfl (L' := lwL i) (st' := .ref iv_big :: st) rfl ?_
    refine Rn.lo lw_T c1 rfl (L' := lwL i) (st' := .int i :: .ref iv_big :: st) rfl ?_
    refine Rn.pu lw_T c2 rfl (st' := .int (Int32.ofInt (j : Int)) :: .int i :: .ref iv_big :: st) rfl ?_
    refine Rn.pu lw_T c3 rfl (st' := .int (i + Int32.ofInt (j : Int)) :: .ref iv_big :: st) rfl ?_
    have e : (i + Int32.ofInt (j : Int)).toInt = ((n + j : Nat) : Int) := by
      rw [ti_add hi (ofInt_sm' (j := j) (by omega)), w32_id (x := (n : Int) + (j : Int)) (by omega) (by omega)]
      omega
    refine Rn.hp lw_T c4 rfl (lw_ald hR e (by omega)) ?_
    refine ih (j + 1) (pc + 5) _ c5 (by omega) (by omega) ?_
    rw [show pc + 5 + 5 * k = pc + 5 * (k + 1) by omega]
    exact r
theorem lw_pop {k n q : Nat} {Xs : Nat → Int32} {rest : List Value} (hk : k ≤ 5) : iv_pop (k + 1) (lwS Xs n k 1 (.ref q :: rest)) [] = some (.ref q :: lwV Xs n k 1, rest) := by
  rcases (by omega : k = 0 ∨ k = 1 ∨ k = 2 ∨ k = 3 ∨ k = 4 ∨ k = 5) with rfl | rfl | rfl | rfl | rfl | rfl <;> rfl
def lwO (a o : Nat) : Bool := match PG.2 a with
  | some q => decide (q.2.2.2.2 = o)
  | none => false
theorem lw_rcv {a o x q : Nat} {vs : List Value} {h : iv_H} (c : lwO a o = true) (ha : a < 9000) (h0 : cko h q o = some ()) : iv_rcv PG (.invokevirtual x) a (.ref q :: vs) h = true := by
  unfold lwO at c
  split at c
  · next p hP =>
    obtain ⟨y, cc, n, rt, o'⟩ := p
    have e : o' = o := of_decide_eq_true c
    subst e
    exact rcv_v hP (by omega) h0
  · cases c
/-- a case of the law: what stands from p on -/
def lwC (p k a b x y : Nat) (zo : Int) : Bool := lwq p (.aload_n 1, p + 1, 0, 0, []) && lwA k 1 (p + 1) && lwq (p + 1 + 5 * k) (.invokevirtual x, p + 4 + 5 * k, a, k + 1, []) && lwq (p + 4 + 5 * k) (.aload_n 2, p + 5 + 5 * k, 0, 0, []) && lwA k 1 (p + 5 + 5 * k) && lwq (p + 5 + 5 * k + 5 * k) (.invokevirtual y, p + 8 + 10 * k, b, k + 1, []) && lwq (p + 8 + 10 * k) (.if_icmp .eq zo, p + 11 + 10 * k, 1636, 0, []) && decide (k ≤ 5 ∧ a < 9000 ∧ b < 9000) && lwO a 11 && lwO b 12
/-- from p the law comes to its next row -/
def lwB (p : Nat) : Prop := ∀ (t : Int) (nc Ls n : Nat) (Xs : Nat → Int32) (i : Int32) (h : iv_H) (s : iv_M) (Q : Option Value → iv_H → Prop), 0 ≤ t → t ≤ 1000 → Ls ≤ 3072 → i.toInt = (n : Int) → n + 6 ≤ Ls → Rep nc Ls Xs h s → Inv t s → Nc nc s → 174 ≤ nc → (∀ (n2 : Nat) (h2 : iv_H) (s2 : iv_M), 174 ≤ n2 → Rep n2 Ls Xs h2 s2 → Inv (t + 1) s2 → Nc n2 s2 → Rn 60 351 (some .boolean) 1636 (lwL i) [] h2 Q) → Rn 60 351 (some .boolean) p (lwL i) [] h Q
theorem lw_case {p k a b x y : Nat} {zo : Int} (hc : lwC p k a b x y zo = true) (cp : ∀ (t : Int) (Ls n : Nat) (Xs : Nat → Int32), 0 ≤ t → t ≤ 1000 → CP t Ls Xs a b (.ref 0 :: lwV Xs n k 1) (.ref 113 :: lwV Xs n k 1)) : lwB p := by
  unfold lwC at hc
  simp only [Bool.and_eq_true, decide_eq_true_eq, lwq_iff] at hc
  obtain ⟨⟨⟨⟨⟨⟨⟨⟨⟨c1, c2⟩, c3⟩, c4⟩, c5⟩, c6⟩, c7⟩, hk, ha, hb⟩, o1⟩, o2⟩ := hc
  intro t nc Ls n Xs i h s Q t0 t1 hL hi hn hR hI hN h174 kk
  refine Rn.lo lw_T c1 rfl (L' := lwL i) (st' := [.ref 0]) rfl ?_
  refine lwA_ok hR hi hL k 1 (p + 1) [.ref 0] c2 (by omega) (by omega) ?_
  refine Rn.call lw_T c3 rfl (lw_pop hk) (Nat.le_of_ble_eq_true rfl) (lw_rcv o1 ha (rp_ck hR (T11_o (T11_n h174)))) ?_
  refine Cl.mono (fun r h1 q => ?_) (cp t Ls n Xs t0 t1 nc h s hR hI hN h174)
  obtain ⟨z, rfl, ⟨n1, s1, g174, R1⟩, c⟩ := q
  show Rn 60 351 (some .boolean) (p + 4 + 5 * k) (lwL i) [.int z] h1 Q
  refine Rn.lo lw_T c4 rfl (L' := lwL i) (st' := [.ref 113, .int z]) rfl ?_
  refine lwA_ok R1 hi hL k 1 (p + 5 + 5 * k) [.ref 113, .int z] c5 (by omega) (by omega) ?_
  refine Rn.call lw_T c6 rfl (lw_pop hk) (Nat.le_of_ble_eq_true rfl) (lw_rcv o2 hb (rp_ck R1 (T12_o (T12_n g174)))) ?_
  refine Cl.mono (fun r h2 q => ?_) c
  obtain ⟨rfl, n2, s2, g1, g2, g3, g4⟩ := q
  show Rn 60 351 (some .boolean) (p + 8 + 10 * k) (lwL i) [.int z, .int z] h2 Q
  exact Rn.bt lw_T c7 rfl (st' := []) rfl (decide_eq_true rfl) (kk n2 h2 s2 g1 g2 g3 g4)
-- the case of fix: an int is made a boolean
theorem lw_goto {d mi pc nx a b : Nat} {rt : Option FieldType} {L : iv_L} {st : List Value} {h : iv_H} {Q : Option Value → iv_H → Prop} {t : List iv_R} {o : Int} {sw : List (Int × Nat)} (hP : iv_Tb mi t) (hl : iv_lk pc t = some (.goto o, nx, a, b, sw)) (k : Rn d mi rt a L st h Q) : Rn d mi rt pc L st h Q := by
  refine Rn.s (iv_t1_s hP (pc' := a) (L' := L) (st' := st) ?_) k
  unfold iv_t1
  rw [hl]
  rfl
def lwN (pc : Nat) : Bool := lwq pc (.ifCond .eq 7, pc + 3, pc + 7, 0, []) && lwq (pc + 3) (.iconst 1, pc + 4, 0, 0, []) && lwq (pc + 4) (.goto 4, pc + 7, pc + 8, 0, []) && lwq (pc + 7) (.iconst 0, pc + 8, 0, 0, [])
def lwbo (v : Int32) : Int32 := if v = 0 then 0 else 1
theorem lwbo_01 (v : Int32) : (lwbo v).toInt = 0 ∨ (lwbo v).toInt = 1 := by
  unfold lwbo
  split
  · exact Or.inl rfl
  · exact Or.inr rfl
theorem lwN_ok {d pc : Nat} {rt : Option FieldType} {h : iv_H} {i v : Int32} {st : List Value} {Q : Option Value → iv_H → Prop} (c : lwN pc = true) (k : Rn d 351 rt (pc + 8) (lwL i) (.int (lwbo v) :: st) h Q) : Rn d 351 rt pc (lwL i) (.int v :: st) h Q := by
  unfold lwN at c
  simp only [Bool.and_eq_true, lwq_iff] at c
  obtain ⟨⟨⟨c0, c1⟩, c2⟩, c3⟩ := c
  by_cases e : v = 0
  · refine Rn.bt lw_T c0 rfl (st' := st) rfl (decide_eq_true e) ?_
    refine Rn.pu lw_T c3 rfl (st' := .int 0 :: st) rfl ?_
    rw [show lwbo v = 0 from if_pos e] at k
    exact k
  · refine Rn.bf lw_T c0 rfl (st' := st) rfl (decide_eq_false e) ?_
    refine Rn.pu lw_T c1 rfl (st' := .int 1 :: st) rfl ?_
    refine lw_goto lw_T c2 ?_
    rw [show lwbo v = 1 from if_neg e] at k
    exact k
set_option maxRecDepth 100000 in
theorem lw_fix_c : (lwq 611 (.aload_n 1, 612, 0, 0, []) && lwA 2 1 612 && lwN 622 && lwq 630 (.invokevirtual 70, 633, 152, 3, []) && lwq 633 (.aload_n 2, 634, 0, 0, []) && lwA 2 1 634 && lwN 644 && lwq 652 (.invokevirtual 74, 655, 276, 3, []) && lwq 655 (.if_icmp .eq 981, 658, 1636, 0, []) && lwO 152 11 && lwO 276 12) = true := by decide +kernel
theorem lw_fix {N : Nat} (hN : 20000000 ≤ N) : lwB 611 := by
  have hc := lw_fix_c
  simp only [Bool.and_eq_true, decide_eq_true_eq, lwq_iff] at hc
  obtain ⟨⟨⟨⟨⟨⟨⟨⟨⟨⟨c1, c2⟩, b1⟩, c3⟩, c4⟩, c5⟩, b2⟩, c6⟩, c7⟩, o1⟩, o2⟩ := hc
  intro t nc Ls n Xs i h s Q t0 t1 hL hi hn hR hI hNc h174 kk
  refine Rn.lo lw_T c1 rfl (L' := lwL i) (st' := [.ref 0]) rfl ?_
  refine lwA_ok hR hi hL 2 1 612 [.ref 0] c2 (by omega) (by omega) ?_
  show Rn 60 351 (some .boolean) 622 (lwL i) [.int (Xs (n + 2)), .int (Xs (n + 1)), .ref 0] h Q
  refine lwN_ok b1 ?_
  refine Rn.call lw_T c3 rfl (vs := [.ref 0, .int (Xs (n + 1)), .int (lwbo (Xs (n + 2)))]) (rest := []) rfl (Nat.le_of_ble_eq_true rfl) (lw_rcv o1 (by decide) (rp_ck hR (T11_o (T11_n h174)))) ?_
  refine Cl.mono (fun r h1 q => ?_) (cp_fix (m1 := Xs (n + 1)) (m2 := lwbo (Xs (n + 2))) hN t0 t1 (lwbo_01 _) nc h s hR hI hNc h174)
  obtain ⟨z, rfl, ⟨n1, s1, g174, R1⟩, c⟩ := q
  show Rn 60 351 (some .boolean) 633 (lwL i) [.int z] h1 Q
  refine Rn.lo lw_T c4 rfl (L' := lwL i) (st' := [.ref 113, .int z]) rfl ?_
  refine lwA_ok R1 hi hL 2 1 634 [.ref 113, .int z] c5 (by omega) (by omega) ?_
  show Rn 60 351 (some .boolean) 644 (lwL i) [.int (Xs (n + 2)), .int (Xs (n + 1)), .ref 113, .int z] h1 Q
  refine lwN_ok b2 ?_
  refine Rn.call lw_T c6 rfl (vs := [.ref 113, .int (Xs (n + 1)), .int (lwbo (Xs (n + 2)))]) (rest := [.int z]) rfl (Nat.le_of_ble_eq_true rfl) (lw_rcv o2 (by decide) (rp_ck R1 (T12_o (T12_n g174)))) ?_
  refine Cl.mono (fun r h2 q => ?_) c
  obtain ⟨rfl, n2, s2, g1, g2, g3, g4⟩ := q
  show Rn 60 351 (some .boolean) 655 (lwL i) [.int z, .int z] h2 Q
  exact Rn.bt lw_T c7 rfl (st' := []) rfl (decide_eq_true rfl) (kk n2 h2 s2 g1 g2 g3 g4)
